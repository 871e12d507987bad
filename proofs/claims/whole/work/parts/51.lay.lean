/-! the reference's plans: layPlans, layLeasts -/
def OnM (H : Hs) (c : Sc) (h : Nat) (μ : Mm) : Prop := ∀ t, vt (cs H c) ≤ t → t ≤ hN H → ∀ x, x < 101 → μ.1 44 0 (101 * t + x) = nI (eN 100000000 (lq H c h (hN H - t) x))
def AlM (H : Hs) (c : Sc) (h : Nat) (μ : Mm) : Prop := ∀ x, x < 101 → μ.1 45 0 (101 * h + x) = nI (eN 100000000 (LL H c h x))
section P51
variable {G : Ge} {μ : Mm} {K : Int32 → Mm → Prop} {V : Mm → Prop} {H : Hs} {c : Sc} {h : Nat}
theorem m101 (t : Nat) : (101 : Int32) * nI t = nI (101 * t) := nI_mul 101 t
theorem lay71 {t T x : Nat} {L : Nat → Option Nat} (hH : HI H) (hc : CI H c) (hh : h < hn H) (ht : t < hN H) (hx : x < 101) (eT : tp H c (cs H c) h t = T) (hT : T ≤ 9) (hL : ∀ y, oB 1296 (L y)) (hM : Ms H c μ) (h1 : ∀ y, y < 101 → μ.1 44 0 (101 * (t + 1) + y) = nI (eN 100000000 (L y))) (hK : SS G m_Mo_layPlans 58 [vr 7 0, vi (nI h), vi (nI t), vi (nI (x + 1)), un, un] [] (wI μ 44 0 (101 * t + x) (nI (eN 100000000 (bst (pq (hP H h) L x) (T + 1))))) (RV V)) : ∀ (m : Nat) {d : Nat}, T + 1 = d + m → d ≤ x + 1 → SS G m_Mo_layPlans 71 [vr 7 0, vi (nI h), vi (nI t), vi (nI x), vi (nI (eN 100000000 (bst (pq (hP H h) L x) d))), vi (nI d)] [] μ (RV V)
  | m, d, ed, hd => by
    have b1 := hH.1
    have b2 := hH.2.1
    have hkw := hH.2.2.2 h hh
    have hB : oB 1458 (bst (pq (hP H h) L x) d) := bst_B fun e he => pq_B (A := 162) (B := 1296) (hu9 (by omega)) hL
    have hB2 := eN_le (F := 100000000) (oB_mono hB (by decide))
    refine b_Mo_layPlans_71 _ _ _ _ _ (canOn_s hM hH hc hh (by omega) ?_)
    rw [eT, m101, nI_add, nI_1 x, nI_tn (n := 101 * t + x) (by omega)]
    refine iLt (by omega) (by omega) (fun q => ?_) fun q => iLt (by omega) (by omega) (fun q2 => ?_) fun q2 => ?_
    · refine les_s (a := 100000000) (by decide) (by omega) ⟨in_nI (by omega) (by decide), ?_⟩
      rw [Nat.min_eq_right hB2, show d = T + 1 by omega]
      exact hK
    · refine les_s (a := 100000000) (by decide) (by omega) ⟨in_nI (by omega) (by decide), ?_⟩
      rw [Nat.min_eq_right hB2, ← bst_ext (p := pq (hP H h) L x) (d := d) (D := T + 1) (by omega) (fun e a b => if_neg (by omega))]
      exact hK
    · have hu1 := hu9 (k := hk H h) (w := hw H h) (d := d) (by omega)
      have hl := eN_le (F := 100000000) (oB_mono (hL (x - d)) (by decide))
      refine hurtOf_s (by omega) (hM.1.2.2 h hh).1 (hM.1.2.2 h hh).2 hkw.1 hkw.2.1 (by omega) ?_
      rw [nI_1 t, m101, nI_add, nI_sub (by omega), nI_tn (by omega), show 101 * (t + 1) + x - d = 101 * (t + 1) + (x - d) by omega, h1 (x - d) (by omega), nI_add]
      refine ⟨in_nI (by omega) (by decide), les_s (by omega) (by omega) ?_⟩
      cases m with
      | zero => omega
      | succ m =>
        have ih := lay71 hH hc hh ht hx eT hT hL hM h1 hK m (d := d + 1) (by omega) (by omega)
        rw [← pqM (F := 100000000) (P := hP H h) (oB_mono hB (by decide)) (oB_A (G := 1296) (hL _) (by show hu (hk H h) (hw H h) d + 1296 ≤ _; omega)), if_pos q2] at ih
        rw [nI_1]
        exact ih
theorem lay58 {t T : Nat} {L : Nat → Option Nat} (hH : HI H) (hc : CI H c) (hh : h < hn H) (ht : t < hN H) (eT : tp H c (cs H c) h t = T) (hT : T ≤ 9) (hL : ∀ y, oB 1296 (L y)) : ∀ (m : Nat) {x : Nat} {μ : Mm}, 101 = x + m → Ms H c μ → (∀ y, y < 101 → μ.1 44 0 (101 * (t + 1) + y) = nI (eN 100000000 (L y))) → (∀ y, y < x → μ.1 44 0 (101 * t + y) = nI (eN 100000000 (bst (pq (hP H h) L y) (T + 1)))) → (∀ μ1, (∀ y, y < 101 → μ1.1 44 0 (101 * t + y) = nI (eN 100000000 (bst (pq (hP H h) L y) (T + 1)))) → FK 44 (fun _ s => 101 * t ≤ s ∧ s < 101 * t + 101) μ μ1 → SS G m_Mo_layPlans 45 [vr 7 0, vi (nI h), vi (nI t - 1), un, un, un] [] μ1 (RV V)) → SS G m_Mo_layPlans 58 [vr 7 0, vi (nI h), vi (nI t), vi (nI x), un, un] [] μ (RV V)
  | 0, x, μ, ed, hM, h1, h0, hK => by
    refine b_Mo_layPlans_58 _ _ _ (iT (nI_le (a := 101) (by omega) (by omega)) ?_)
    rw [nI_a1]
    exact hK μ (fun y hy => h0 y (by omega)) FK.rf
  | m + 1, x, μ, ed, hM, h1, h0, hK => by
    have F1 : FK 44 (fun _ s => 101 * t ≤ s ∧ s < 101 * t + 101) μ (wI μ 44 0 (101 * t + x) (nI (eN 100000000 (bst (pq (hP H h) L x) (T + 1))))) := FK.rf.wI ⟨by omega, by omega⟩
    refine b_Mo_layPlans_58 _ _ _ (iF (nI_ge (b := 101) (by omega) (by omega)) ?_)
    refine lay71 (d := 0) hH hc hh ht (by omega) eT hT hL hM h1 (lay58 hH hc hh ht eT hT hL m (by omega) (hM.fa (F1.fa (L := L1 11) (fun _ _ => rfl)) rfl) (fun y hy => ?_) (fun y hy => ?_) fun μ1 k1 k2 => hK μ1 k1 (F1.tr k2)) (T + 1) (by omega) (by omega)
    · rw [F1.i _ _ (by omega)]
      exact h1 y hy
    · by_cases e : y = x
      · subst e
        exact wI_s _ _ _ _ _
      · rw [wI_n _ _ _ _ (by omega)]
        exact h0 y (by omega)
theorem lay45 (hH : HI H) (hc : CI H c) (hh : h < hn H) : ∀ (m : Nat) {t : Nat} {μ : Mm}, t = vt (cs H c) + m → t ≤ hN H → Ms H c μ → (∀ t', t ≤ t' → t' ≤ hN H → ∀ x, x < 101 → μ.1 44 0 (101 * t' + x) = nI (eN 100000000 (lq H c h (hN H - t') x))) → (∀ μ1, OnM H c h μ1 → FK 44 (fun _ _ => True) μ μ1 → V μ1) → SS G m_Mo_layPlans 45 [vr 7 0, vi (nI h), vi (nI t - 1), un, un, un] [] μ (RV V)
  | 0, t, μ, et, ht, hM, h1, hK => by
    have b2 := hH.2.1
    refine b_Mo_layPlans_45 _ _ ⟨in_nI (n := 15) (by decide) (by decide), ?_⟩
    rw [show Int32.toNatClampNeg 15 = 15 from rfl, hM.2.2.2.1.1]
    exact iT (nI_plt (by omega) (by omega) (by omega)) (hK _ (fun t' a b y hy => h1 t' (by omega) b y hy) FK.rf)
  | m + 1, t, μ, et, ht, hM, h1, hK => by
    have b2 := hH.2.1
    obtain ⟨u, rfl⟩ : ∃ u, t = u + 1 := ⟨t - 1, by omega⟩
    have hT : tp H c (cs H c) h u ≤ 9 := Nat.le_trans tp_le (hc.2.1 u (by omega))
    rw [nI_pred]
    refine b_Mo_layPlans_45 _ _ ⟨in_nI (n := 15) (by decide) (by decide), ?_⟩
    rw [show Int32.toNatClampNeg 15 = 15 from rfl, hM.2.2.2.1.1]
    refine iLtF (by omega) (by omega) (lay58 (x := 0) (L := lq H c h (hN H - (u + 1))) hH hc hh (by omega) rfl hT (fun y => lq_B hH hc (by omega)) 101 rfl hM (fun y hy => h1 (u + 1) (Nat.le_refl _) ht y hy) (fun y hy => absurd hy (by omega)) fun μ1 k1 k2 => ?_)
    refine lay45 hH hc hh m (t := u) (by omega) (by omega) (hM.fa (k2.fa (L := L1 11) (fun _ _ => rfl)) rfl) (fun t' a b y hy => ?_) fun μ2 j1 j2 => hK μ2 j1 ((k2.mono fun _ _ _ => trivial).tr j2)
    by_cases e : t' = u
    · subst e
      rw [k1 y hy, lq_step (by omega)]
    · rw [k2.i _ _ (by omega)]
      exact h1 t' (by omega) b y hy
theorem lay2 (hH : HI H) (hc : CI H c) (hh : h < hn H) : ∀ (m : Nat) {x : Nat} {μ : Mm}, 101 = x + m → Ms H c μ → (∀ y, y < x → μ.1 44 0 (101 * hN H + y) = nI (eN 100000000 (if y = 0 then some 0 else none))) → (∀ μ1, OnM H c h μ1 → FK 44 (fun _ _ => True) μ μ1 → V μ1) → SS G m_Mo_layPlans 2 [vr 7 0, vi (nI h), vi (nI x), un, un, un] [] μ (RV V)
  | 0, x, μ, ed, hM, h0, hK => by
    have b2 := hH.2.1
    have hv := (SI_now hH hc).1
    refine b_Mo_layPlans_2 _ _ (iT (nI_le (a := 101) (by omega) (by omega)) ?_)
    rw [hM.1.2.1]
    refine lay45 hH hc hh (hN H - vt (cs H c)) (by omega) (Nat.le_refl _) hM (fun t' a b y hy => ?_) hK
    rw [show t' = hN H by omega, Nat.sub_self]
    exact h0 y (by omega)
  | m + 1, x, μ, ed, hM, h0, hK => by
    have b2 := hH.2.1
    have go : ∀ v : Int32, v = nI (eN 100000000 (if x = 0 then some 0 else none)) → SS G m_Mo_layPlans 2 [vr 7 0, vi (nI h), vi (nI (x + 1)), un, un, un] [] (wI μ 44 0 (101 * hN H + x) v) (RV V) := by
      intro v hv
      have F1 : FK 44 (fun _ _ => True) μ (wI μ 44 0 (101 * hN H + x) v) := FK.rf.wI trivial
      refine lay2 hH hc hh m (by omega) (hM.fa (F1.fa (L := L1 11) (fun _ _ => rfl)) rfl) (fun y hy => ?_) fun μ1 k1 k2 => hK μ1 k1 (F1.tr k2)
      by_cases e : y = x
      · subst e
        rw [wI_s]
        exact hv
      · rw [wI_n _ _ _ _ (by omega)]
        exact h0 y (by omega)
    refine b_Mo_layPlans_2 _ _ (iF (nI_ge (b := 101) (by omega) (by omega)) ?_)
    rw [hM.1.2.1, m101, nI_add, nI_1, nI_tn (by omega)]
    refine iEq (b := 0) (by omega) (by decide) (fun q => ⟨in_nI (by omega) (by decide), go _ ?_⟩) fun q => ⟨in_nI (by omega) (by decide), go _ ?_⟩
    · rw [if_pos q]
      rfl
    · rw [if_neg q]
      rfl
theorem layPlans_s (hH : HI H) (hc : CI H c) (hh : h < hn H) (hM : Ms H c μ) (hK : ∀ μ1, OnM H c h μ1 → FK 44 (fun _ _ => True) μ μ1 → V μ1) : CS G m_Mo_layPlans [vr 7 0, vi (nI h)] μ (RV V) := c_Mo_layPlans _ (lay2 (x := 0) hH hc hh 101 rfl hM (fun y hy => absurd hy (by omega)) hK)
theorem lea17 (hH : HI H) (hc : CI H c) (hh : h < hn H) : ∀ (m : Nat) {x : Nat} {μ : Mm}, 101 = x + m → Ms H c μ → OnM H c h μ → (∀ y, y < x → μ.1 45 0 (101 * h + y) = nI (eN 100000000 (LL H c h y))) → (∀ μ1, AlM H c h μ1 → FK 45 (fun _ s => 101 * h ≤ s ∧ s < 101 * h + 101) μ μ1 → SS G m_Mo_layLeasts 2 [vr 7 0, vi (nI (h + 1)), un] [] μ1 (RV V)) → SS G m_Mo_layLeasts 17 [vr 7 0, vi (nI h), vi (nI x)] [] μ (RV V)
  | 0, x, μ, ed, hM, hO, h0, hK => by
    refine b_Mo_layLeasts_17 _ _ (iT (nI_le (a := 101) (by omega) (by omega)) ?_)
    rw [nI_1]
    exact hK μ (fun y hy => h0 y (by omega)) FK.rf
  | m + 1, x, μ, ed, hM, hO, h0, hK => by
    have b1 := hH.1
    have b2 := hH.2.1
    have hv := (SI_now hH hc).1
    refine b_Mo_layLeasts_17 _ _ (iF (nI_ge (b := 101) (by omega) (by omega)) ⟨in_nI (n := 15) (by decide) (by decide), ?_⟩)
    rw [show Int32.toNatClampNeg 15 = 15 from rfl, hM.2.2.2.1.1, m101, m101, nI_add, nI_add, nI_1, nI_tn (n := 101 * vt (cs H c) + x) (by omega), nI_tn (n := 101 * h + x) (by omega), hO _ (Nat.le_refl _) hv x (by omega)]
    have F1 : FK 45 (fun _ s => 101 * h ≤ s ∧ s < 101 * h + 101) μ (wI μ 45 0 (101 * h + x) (nI (eN 100000000 (lq H c h (hN H - vt (cs H c)) x)))) := FK.rf.wI ⟨by omega, by omega⟩
    refine ⟨in_nI (by omega) (by decide), in_nI (by omega) (by decide), lea17 hH hc hh m (by omega) (hM.fa (F1.fa (L := L1 11) (fun _ _ => rfl)) rfl) (fun t a b y hy => ?_) (fun y hy => ?_) fun μ1 k1 k2 => hK μ1 k1 (F1.tr k2)⟩
    · rw [F1.k _ _ (by decide)]
      exact hO t a b y hy
    · by_cases e : y = x
      · subst e
        exact wI_s _ _ _ _ _
      · rw [wI_n _ _ _ _ (by omega)]
        exact h0 y (by omega)
theorem lea2 (hH : HI H) (hc : CI H c) : ∀ (m : Nat) {g : Nat} {μ : Mm}, hn H = g + m → Ms H c μ → (∀ h, h < g → AlM H c h μ) → (∀ μ1, (∀ h, h < hn H → AlM H c h μ1) → Fa (L1 11) μ μ1 → V μ1) → SS G m_Mo_layLeasts 2 [vr 7 0, vi (nI g), un] [] μ (RV V)
  | 0, g, μ, e, hM, hA, hK => by
    have b1 := hH.1
    refine b_Mo_layLeasts_2 _ ?_
    rw [hM.1.1]
    exact iLeT (by omega) (by omega) (hK μ (fun h hh => hA h (by omega)) Fa.rf)
  | m + 1, g, μ, e, hM, hA, hK => by
    have b1 := hH.1
    refine b_Mo_layLeasts_2 _ ?_
    rw [hM.1.1]
    refine iLeF (by omega) (by omega) (layPlans_s hH hc (by omega) hM fun μ1 k1 k2 => ?_)
    have hM1 := hM.fa (k2.fa (L := L1 11) (fun _ _ => rfl)) rfl
    refine lea17 (x := 0) hH hc (by omega) 101 rfl hM1 k1 (fun y hy => absurd hy (by omega)) fun μ2 j1 j2 => ?_
    refine lea2 hH hc m (by omega) (hM1.fa (j2.fa (L := L1 11) (fun _ _ => rfl)) rfl) (fun h hh => ?_) fun μ3 i1 i2 => hK μ3 i1 (((k2.fa (L := L1 11) (fun _ _ => rfl)).tr (j2.fa (L := L1 11) (fun _ _ => rfl))).tr i2)
    by_cases e2 : h = g
    · subst e2
      exact j1
    · intro y hy
      rw [j2.i _ _ (by omega), k2.k _ _ (by decide)]
      exact hA h (by omega) y hy
theorem layLeasts_s (hH : HI H) (hc : CI H c) (hM : Ms H c μ) (hK : ∀ μ1, (∀ h, h < hn H → AlM H c h μ1) → Fa (L1 11) μ μ1 → V μ1) : CS G m_Mo_layLeasts [vr 7 0] μ (RV V) := c_Mo_layLeasts (lea2 hH hc (hn H) (g := 0) (by omega) hM (fun h hh => absurd hh (by omega)) hK)
theorem leastOf_s {x : Nat} (hA : AlM H c h μ) (hh : h < 5) (hx : x < 101) (hK : K (nI (eN 100000000 (LL H c h x))) μ) : CS G m_Mo_leastOf [vr 7 0, vi (nI h), vi (nI x)] μ (RI K) := by
  refine c_Mo_leastOf _ _ ?_
  rw [m101, nI_add, nI_tn (by omega), hA x hx]
  exact ⟨in_nI (by omega) (by decide), hK⟩
end P51
