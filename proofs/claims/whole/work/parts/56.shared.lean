/-! pools, the reference's; saves -/
def PoM (H : Hs) (c : Sc) (s o g : Nat) (μ : Mm) : Prop := ∀ x, x ≤ o → μ.1 47 0 (501 * g + x) = nI (eN 100000000 (QH (AA H c) (hn H) s g x))
section P56
variable {G : Ge} {μ : Mm} {K : Int32 → Mm → Prop} {V : Mm → Prop} {H : Hs} {c : Sc} {h : Nat}
theorem m501 (t : Nat) : (501 : Int32) * nI t = nI (501 * t) := nI_mul 501 t
theorem moh_T {S h : Nat} (hS : S < 32) (hh : h < 5) (hb : S.testBit h = true) (hK : K 1 μ) : CS G m_Mo_has [vi (nI S), vi (nI h)] μ (RI K) := c_Mo_has _ _ (iT ((bit_d S hS h hh).mpr hb) ⟨z01, hK⟩)
theorem moh_F {S h : Nat} (hS : S < 32) (hh : h < 5) (hb : ¬ S.testBit h = true) (hK : K 0 μ) : CS G m_Mo_has [vi (nI S), vi (nI h)] μ (RI K) := c_Mo_has _ _ (iF (fun q => hb ((bit_d S hS h hh).mp q)) ⟨z00, hK⟩)
theorem owM4 {S : Nat} (hM : Ms H c μ) (hH : HI H) (hS : S < 32) (hK : K (nI (ow H (cs H c) S)) μ) : ∀ (d h : Nat), hn H = h + d → SS G m_Mo_owedBy 4 [vr 7 0, vi (nI S), vi (nI (sm (fun h => if S.testBit h = true then vo (cs H c) h else 0) h)), vi (nI h)] [] μ (RI K)
  | 0, h, e => by
    have b1 := hH.1
    refine b_Mo_owedBy_4 _ _ _ ?_
    rw [hM.1.1]
    refine iLeT (by omega) (by omega) ?_
    rw [show h = hn H by omega]
    exact hK
  | d + 1, h, e => by
    have b1 := hH.1
    have ih := owM4 hM hH hS hK d (h + 1) (by omega)
    have ih2 : SS G m_Mo_owedBy 4 [vr 7 0, vi (nI S), vi (nI (sm (fun h => if S.testBit h = true then vo (cs H c) h else 0) h + if S.testBit h = true then vo (cs H c) h else 0)), vi (nI (h + 1))] [] μ (RI K) := ih
    refine b_Mo_owedBy_4 _ _ _ ?_
    rw [hM.1.1]
    refine iLeF (by omega) (by omega) ?_
    by_cases hb : S.testBit h = true
    · rw [if_pos hb] at ih2
      refine moh_T hS (by omega) hb (i1 ⟨in_nI (by omega) (by decide), ?_⟩)
      rw [nI_tn (by omega), (hM.2.2.2.1.2 h (by omega)).1, nI_add, nI_1]
      exact ih2
    · rw [if_neg hb] at ih2
      refine moh_F hS (by omega) hb (i0 ?_)
      rw [nI_1, Int32.add_zero]
      exact ih2
theorem owedBy_M {S : Nat} (hM : Ms H c μ) (hH : HI H) (hS : S < 32) (hK : K (nI (ow H (cs H c) S)) μ) : CS G m_Mo_owedBy [vr 7 0, vi (nI S)] μ (RI K) := c_Mo_owedBy _ (owM4 hM hH hS hK (hn H) 0 (by omega))
theorem ow_le {S : Nat} (hH : HI H) (hc : CI H c) : ow H (cs H c) S ≤ 45 := by
  have h1 := (SI_now hH hc).2.1
  have : ∀ n, sm (fun h => if S.testBit h = true then vo (cs H c) h else 0) n ≤ sm (vo (cs H c)) n := by
    intro n
    induction n with
    | zero => exact Nat.le_refl _
    | succ n ih =>
      show sm _ n + (if S.testBit n = true then vo (cs H c) n else 0) ≤ sm (vo (cs H c)) n + vo (cs H c) n
      split
      · omega
      · omega
  exact Nat.le_trans (this _) h1
theorem by4 {s : Nat} (hH : HI H) (hc : CI H c) (hs : s < 32) (hM : Ms H c μ) (hA : ∀ g, g < hn H → AlM H c g μ) (hK : K (nI (min 100000000 (sm (f01 s (fun g => eN 100000000 (own H c g))) (hn H)))) μ) : ∀ (m h : Nat), hn H = h + m → SS G m_Mo_byThemselves 4 [vr 7 0, vi (nI s), vi (nI (sm (f01 s (fun g => eN 100000000 (own H c g))) h)), vi (nI h)] [] μ (RI K)
  | 0, h, e => by
    have b1 := hH.1
    have bs := sm_bd (f := f01 s (fun g => eN 100000000 (own H c g))) (b := 100000000) (n := h) (fun j _ => by
      show (if hb s j = true then eN 100000000 (own H c j) else 0) ≤ _
      split
      · exact eN_le (oB_mono (LL_B hH hc _) (by decide))
      · exact Nat.zero_le _)
    refine b_Mo_byThemselves_4 _ _ _ ?_
    rw [hM.1.1]
    refine iLeT (by omega) (by omega) (les_s (a := 100000000) (by decide) (by omega) ?_)
    rw [show h = hn H by omega]
    exact hK
  | m + 1, h, e => by
    have b1 := hH.1
    have ho := (SI_now hH hc).owes (x := h) (by omega)
    have ih := by4 hH hc hs hM hA hK m (h + 1) (by omega)
    have ih2 : SS G m_Mo_byThemselves 4 [vr 7 0, vi (nI s), vi (nI (sm (f01 s (fun g => eN 100000000 (own H c g))) h + if hb s h = true then eN 100000000 (own H c h) else 0)), vi (nI (h + 1))] [] μ (RI K) := ih
    refine b_Mo_byThemselves_4 _ _ _ ?_
    rw [hM.1.1, nI_1, nI_tn (n := h) (by omega), Int32.add_zero]
    refine iLeF (by omega) (by omega) ?_
    by_cases q : hb s h = true
    · rw [if_pos q] at ih2
      refine moh_T hs (by omega) q (i1 ⟨in_nI (by omega) (by decide), ?_⟩)
      rw [(hM.2.2.2.1.2 h (by omega)).1]
      refine leastOf_s (hA h (by omega)) (by omega) (by omega) ?_
      rw [nI_add]
      exact ih2
    · rw [if_neg q] at ih2
      exact moh_F hs (by omega) q (i0 ih2)
theorem byThem_s {s : Nat} (hH : HI H) (hc : CI H c) (hs : s < 32) (hM : Ms H c μ) (hA : ∀ g, g < hn H → AlM H c g μ) (hK : K (nI (eN 100000000 (alO (own H c) s (hn H)))) μ) : CS G m_Mo_byThemselves [vr 7 0, vi (nI s)] μ (RI K) := by
  have b1 := hH.1
  refine c_Mo_byThemselves _ (by4 hH hc hs hM hA ?_ (hn H) 0 (by omega))
  cases e : alO (own H c) s (hn H) with
  | none =>
    rw [e] at hK
    rw [Nat.min_eq_left (alO_n e)]
    exact hK
  | some v =>
    have := alO_B (fun g => LL_B hH hc _) e
    rw [e] at hK
    rw [alO_v (F := 100000000) e, Nat.min_eq_right (by omega)]
    exact hK
theorem sh93T {s x o M : Nat} {L : Nat → Option Nat} (hH : HI H) (hc : CI H c) (hh : h < hn H) (hs : s < 32) (hbs : hb s h = true) (hA : AlM H c h μ) (hMo : ms H c h (hN H) = M) (hL : ∀ y, oB 6480 (L y)) (h1 : ∀ y, y ≤ o → μ.1 47 0 (501 * (h + 1) + y) = nI (eN 100000000 (L y))) (hx : x ≤ o) (ho : o ≤ 45) (hK : SS G m_Mo_shareOf 80 [vr 7 0, vi (nI s), vi (nI o), vi (nI h), vi (nI M), vi (nI (x + 1)), un, un, un] [] (wI μ 47 0 (501 * h + x) (nI (eN 100000000 (bst (pz (AA H c h) L x) 47)))) (RI K)) : ∀ (m : Nat) {d : Nat}, x + 1 = d + m → SS G m_Mo_shareOf 93 [vr 7 0, vi (nI s), vi (nI o), vi (nI h), vi (nI M), vi (nI x), vi (nI (eN 100000000 (bst (pz (AA H c h) L x) d))), vi (nI d), un] [] μ (RI K)
  | m, d, e => by
    have b1 := hH.1
    have hv := (SI_now hH hc).1
    have hm := ms_le (h := h) hH hc
    have hB : oB 7776 (bst (pz (AA H c h) L x) d) := bst_B fun e he => pz_B (AA_B hH hc h) hL (by decide)
    have hB2 := eN_le (F := 100000000) (oB_mono hB (by decide))
    have fin : bst (pz (AA H c h) L x) 47 = bst (pz (AA H c h) L x) d → (vp_in (nI (501 * h + x)) 3006 ∧ SS G m_Mo_shareOf 80 [vr 7 0, vi (nI s), vi (nI o), vi (nI h), vi (nI M), vi (nI (x + 1)), un, un, un] [] (wI μ 47 0 (501 * h + x) (nI (min 100000000 (eN 100000000 (bst (pz (AA H c h) L x) d))))) (RI K)) := by
      intro q
      rw [Nat.min_eq_right hB2, ← q]
      exact ⟨in_nI (by omega) (by decide), hK⟩
    refine b_Mo_shareOf_93 _ _ _ _ _ _ _ ?_
    rw [nI_1 x]
    refine iLt (by omega) (by omega) (fun q => c_Mo_sharedAt _ _ ?_) fun q => iLt (by omega) (by omega) (fun q2 => c_Mo_sharedAt _ _ ?_) fun q2 => moh_T hs (by omega) hbs (i1 (leastOf_s hA (by omega) (by omega) (c_Mo_sharedAt _ _ ?_)))
    · rw [m501, nI_add, nI_tn (n := 501 * h + x) (by omega)]
      refine les_s (a := 100000000) (by decide) (by omega) (fin (bst_ext (by omega) fun e2 a b => ?_))
      unfold pz
      cases z : AA H c h e2 with
      | none => split <;> rfl
      | some v =>
        have := LL_ms hv z
        omega
    · rw [m501, nI_add, nI_tn (n := 501 * h + x) (by omega)]
      exact les_s (a := 100000000) (by decide) (by omega) (fin (bst_ext (by omega) fun e2 a b => if_neg (by omega)))
    · have hl := eN_le (F := 100000000) (oB_mono (hL (x - d)) (by decide))
      have hl2 : eN 100000000 (LL H c h d) ≤ 100000000 := eN_le (F := 100000000) (oB_mono (AA_B hH hc h d) (by decide))
      rw [nI_1 h, m501, nI_sub (a := x) (b := d) (by omega), nI_add, nI_tn (by omega), h1 (x - d) (by omega), nI_add, nI_1]
      refine ⟨in_nI (by omega) (by decide), les_s (by omega) (by omega) ?_⟩
      cases m with
      | zero => omega
      | succ m =>
        have ih := sh93T hH hc hh hs hbs hA hMo hL h1 hx ho hK m (d := d + 1) (by omega)
        rw [show bst (pz (AA H c h) L x) (d + 1) = oM (bst (pz (AA H c h) L x) d) (oS (AA H c h d) (L (x - d))) from congrArg (oM _) (if_pos q2), ← eN_S (oB_mono hB (by decide)) (oS_B (F := 100000000) (AA_B hH hc h d) (hL _) (by decide))] at ih
        exact ih
theorem sh93F {s x o : Nat} {L : Nat → Option Nat} (hH : HI H) (hh : h < hn H) (hs : s < 32) (hbs : ¬ hb s h = true) (hL : ∀ y, oB 6480 (L y)) (h1 : ∀ y, y ≤ o → μ.1 47 0 (501 * (h + 1) + y) = nI (eN 100000000 (L y))) (hx : x ≤ o) (ho : o ≤ 45) (hK : SS G m_Mo_shareOf 80 [vr 7 0, vi (nI s), vi (nI o), vi (nI h), vi (nI 0), vi (nI (x + 1)), un, un, un] [] (wI μ 47 0 (501 * h + x) (nI (eN 100000000 (L x)))) (RI K)) : SS G m_Mo_shareOf 93 [vr 7 0, vi (nI s), vi (nI o), vi (nI h), vi (nI 0), vi (nI x), vi 100000000, vi (nI 0), un] [] μ (RI K) := by
  have b1 := hH.1
  have hl := eN_le (F := 100000000) (oB_mono (hL x) (by decide))
  refine b_Mo_shareOf_93 _ _ _ _ _ _ _ (iLtF (by omega) (by omega) (iLtF (by omega) (by omega) (moh_F hs (by omega) hbs (i0 (c_Mo_sharedAt _ _ ?_)))))
  rw [nI_1 h, m501, nI_sub (a := x) (b := 0) (by omega), nI_add, nI_tn (by omega), Nat.sub_zero, h1 x (by omega), nI_1, show (0 : Int32) + nI (eN 100000000 (L x)) = nI (eN 100000000 (L x)) from Int32.zero_add _]
  refine ⟨in_nI (by omega) (by decide), les_s (a := 100000000) (by decide) (by omega) (b_Mo_shareOf_93 _ _ _ _ _ _ _ (iLtT (by omega) (by omega) (c_Mo_sharedAt _ _ ?_)))⟩
  rw [nI_1 x, m501, nI_add, nI_tn (n := 501 * h + x) (by omega), Nat.min_eq_right hl]
  refine les_s (a := 100000000) (by decide) (by omega) ⟨in_nI (by omega) (by decide), ?_⟩
  rw [Nat.min_eq_right hl]
  exact hK
theorem sh80 {s o M : Nat} {B L : Nat → Option Nat} (ho : o ≤ 45) (st : ∀ (x : Nat) (μ : Mm), x ≤ o → Ms H c μ → (∀ g, g < hn H → AlM H c g μ) → (∀ y, y ≤ o → μ.1 47 0 (501 * (h + 1) + y) = nI (eN 100000000 (L y))) → SS G m_Mo_shareOf 80 [vr 7 0, vi (nI s), vi (nI o), vi (nI h), vi (nI M), vi (nI (x + 1)), un, un, un] [] (wI μ 47 0 (501 * h + x) (nI (eN 100000000 (B x)))) (RI K) → SS G m_Mo_shareOf 93 [vr 7 0, vi (nI s), vi (nI o), vi (nI h), vi (nI M), vi (nI x), vi 100000000, vi 0, un] [] μ (RI K)) : ∀ (m : Nat) {x : Nat} {μ : Mm}, o + 1 = x + m → Ms H c μ → (∀ g, g < hn H → AlM H c g μ) → (∀ y, y ≤ o → μ.1 47 0 (501 * (h + 1) + y) = nI (eN 100000000 (L y))) → (∀ y, y < x → μ.1 47 0 (501 * h + y) = nI (eN 100000000 (B y))) → (∀ μ1, (∀ y, y ≤ o → μ1.1 47 0 (501 * h + y) = nI (eN 100000000 (B y))) → FK 47 (fun _ z => 501 * h ≤ z ∧ z < 501 * h + 501) μ μ1 → SS G m_Mo_shareOf 49 [vr 7 0, vi (nI s), vi (nI o), vi (nI h - 1), un, un, un, un, un] [] μ1 (RI K)) → SS G m_Mo_shareOf 80 [vr 7 0, vi (nI s), vi (nI o), vi (nI h), vi (nI M), vi (nI x), un, un, un] [] μ (RI K)
  | 0, x, μ, e, hM, hA, h1, h0, hK => by
    refine b_Mo_shareOf_80 _ _ _ _ _ (iLtT (by omega) (by omega) ?_)
    rw [nI_a1]
    exact hK μ (fun y hy => h0 y (by omega)) FK.rf
  | m + 1, x, μ, e, hM, hA, h1, h0, hK => by
    have F1 : FK 47 (fun _ z => 501 * h ≤ z ∧ z < 501 * h + 501) μ (wI μ 47 0 (501 * h + x) (nI (eN 100000000 (B x)))) := FK.rf.wI ⟨by omega, by omega⟩
    refine b_Mo_shareOf_80 _ _ _ _ _ (iLtF (by omega) (by omega) (st x μ (by omega) hM hA h1 (sh80 ho st m (by omega) (hM.fa (F1.fa (L := L1 11) (fun _ _ => rfl)) rfl) (fun g hg y hy => ?_) (fun y hy => ?_) (fun y hy => ?_) fun μ1 k1 k2 => hK μ1 k1 (F1.tr k2))))
    · rw [F1.k _ _ (by decide)]
      exact hA g hg y hy
    · rw [F1.i _ _ (by omega)]
      exact h1 y hy
    · by_cases e2 : y = x
      · subst e2
        exact wI_s _ _ _ _ _
      · rw [wI_n _ _ _ _ (by omega)]
        exact h0 y (by omega)
theorem sh49 {s o : Nat} (hH : HI H) (hc : CI H c) (hs : s < 32) (ho : o ≤ 45) : ∀ (h : Nat) {μ : Mm}, h ≤ hn H → Ms H c μ → (∀ g, g < hn H → AlM H c g μ) → (∀ g, h ≤ g → g ≤ hn H → PoM H c s o g μ) → (∀ μ1, (∀ g, g ≤ hn H → PoM H c s o g μ1) → FK 47 (fun _ _ => True) μ μ1 → K (nI (eN 100000000 (QH (AA H c) (hn H) s 0 o))) μ1) → SS G m_Mo_shareOf 49 [vr 7 0, vi (nI s), vi (nI o), vi (nI h - 1), un, un, un, un, un] [] μ (RI K)
  | 0, μ, hh, hM, hA, hP, hK => by
    refine b_Mo_shareOf_49 _ _ _ (iT (by rw [neg_sub1]; decide) (c_Mo_sharedAt _ _ ?_))
    have := hP 0 (Nat.le_refl _) (Nat.zero_le _) o (Nat.le_refl _)
    rw [show (501 : Int32) * 0 = nI (501 * 0) from rfl, nI_add, nI_tn (by omega), this]
    exact ⟨in_nI (by omega) (by decide), hK μ (fun g hg => hP g (Nat.zero_le _) hg) FK.rf⟩
  | h + 1, μ, hh, hM, hA, hP, hK => by
    have b1 := hH.1
    have hm := ms_le (h := h) hH hc
    have QB : ∀ y, oB 6480 (QH (AA H c) (hn H) s (h + 1) y) := fun y => QH_B (AA_B hH hc) b1
    rw [nI_pred]
    refine b_Mo_shareOf_49 _ _ _ (iNl (by omega) ?_)
    have go : ∀ μ1, (∀ y, y ≤ o → μ1.1 47 0 (501 * h + y) = nI (eN 100000000 (QH (AA H c) (hn H) s h y))) → FK 47 (fun _ z => 501 * h ≤ z ∧ z < 501 * h + 501) μ μ1 → SS G m_Mo_shareOf 49 [vr 7 0, vi (nI s), vi (nI o), vi (nI h - 1), un, un, un, un, un] [] μ1 (RI K) := by
      intro μ1 k1 k2
      refine sh49 hH hc hs ho h (by omega) (hM.fa (k2.fa (L := L1 11) (fun _ _ => rfl)) rfl) (fun g hg y hy => ?_) (fun g ha hb y hy => ?_) fun μ2 j1 j2 => hK μ2 j1 ((k2.mono fun _ _ _ => trivial).tr j2)
      · rw [k2.k _ _ (by decide)]
        exact hA g hg y hy
      · by_cases e : g = h
        · subst e
          exact k1 y hy
        · rw [k2.i _ _ (by omega)]
          exact hP g (by omega) hb y hy
    by_cases q : hb s h = true
    · refine moh_T hs (by omega) q (i1 (mostOf_s hM hH hc (by omega) (les_s (a := 99) (by decide) (by omega) ?_)))
      rw [Nat.min_eq_right (by omega)]
      refine sh80 (x := 0) (B := fun y => bst (pz (AA H c h) (QH (AA H c) (hn H) s (h + 1)) y) 47) ho (fun x μ1 hx hM1 hA1 h1 hk => ?_) (o + 1) (by omega) hM hA (hP (h + 1) (Nat.le_refl _) hh) (fun y hy => absurd hy (by omega)) fun μ1 k1 k2 => go μ1 (fun y hy => ?_) k2
      · exact sh93T (d := 0) hH hc (by omega) hs q (hA1 h (by omega)) rfl QB h1 hx ho hk (x + 1) (by omega)
      · rw [k1 y hy, QH_s (by omega), if_pos q]
    · refine moh_F hs (by omega) q (i0 ?_)
      refine sh80 (x := 0) (M := 0) (B := fun y => QH (AA H c) (hn H) s (h + 1) y) ho (fun x μ1 hx hM1 hA1 h1 hk => ?_) (o + 1) (by omega) hM hA (hP (h + 1) (Nat.le_refl _) hh) (fun y hy => absurd hy (by omega)) fun μ1 k1 k2 => go μ1 (fun y hy => ?_) k2
      · exact sh93F hH (by omega) hs q QB h1 hx ho hk
      · rw [k1 y hy, QH_s (h := h) (by omega), if_neg q]
theorem sh8 {s o : Nat} (hH : HI H) (hc : CI H c) (hs : s < 32) (ho : o ≤ 45) : ∀ (m : Nat) {x : Nat} {μ : Mm}, o + 1 = x + m → Ms H c μ → (∀ g, g < hn H → AlM H c g μ) → (∀ y, y < x → μ.1 47 0 (501 * hn H + y) = nI (eN 100000000 (if y = 0 then some 0 else none))) → (∀ μ1, (∀ g, g ≤ hn H → PoM H c s o g μ1) → FK 47 (fun _ _ => True) μ μ1 → K (nI (eN 100000000 (QH (AA H c) (hn H) s 0 o))) μ1) → SS G m_Mo_shareOf 8 [vr 7 0, vi (nI s), vi (nI o), vi (nI x), un, un, un, un, un] [] μ (RI K)
  | 0, x, μ, e, hM, hA, h0, hK => by
    refine b_Mo_shareOf_8 _ _ _ (iLtT (by omega) (by omega) ?_)
    rw [hM.1.1]
    refine sh49 hH hc hs ho (hn H) (Nat.le_refl _) hM hA (fun g ha hb y hy => ?_) hK
    rw [show g = hn H by omega, QH_n]
    exact h0 y (by omega)
  | m + 1, x, μ, e, hM, hA, h0, hK => by
    have b1 := hH.1
    have go : ∀ v : Int32, v = nI (eN 100000000 (if x = 0 then some 0 else none)) → SS G m_Mo_shareOf 8 [vr 7 0, vi (nI s), vi (nI o), vi (nI (x + 1)), un, un, un, un, un] [] (wI μ 47 0 (501 * hn H + x) v) (RI K) := by
      intro v hv
      have F1 : FK 47 (fun _ _ => True) μ (wI μ 47 0 (501 * hn H + x) v) := FK.rf.wI trivial
      refine sh8 hH hc hs ho m (by omega) (hM.fa (F1.fa (L := L1 11) (fun _ _ => rfl)) rfl) (fun g hg y hy => ?_) (fun y hy => ?_) fun μ1 k1 k2 => hK μ1 k1 (F1.tr k2)
      · rw [F1.k _ _ (by decide)]
        exact hA g hg y hy
      · by_cases e2 : y = x
        · subst e2
          rw [wI_s]
          exact hv
        · rw [wI_n _ _ _ _ (by omega)]
          exact h0 y (by omega)
    refine b_Mo_shareOf_8 _ _ _ (iLtF (by omega) (by omega) (c_Mo_sharedAt _ _ ?_))
    rw [hM.1.1, m501, nI_add, nI_1, nI_tn (by omega)]
    refine iEq (b := 0) (by omega) (by decide) (fun q => ⟨in_nI (by omega) (by decide), go _ ?_⟩) fun q => ⟨in_nI (by omega) (by decide), go _ ?_⟩
    · rw [if_pos q]
      rfl
    · rw [if_neg q]
      rfl
theorem shareOf_s {s : Nat} (hH : HI H) (hc : CI H c) (hs : s < 32) (hM : Ms H c μ) (hA : ∀ g, g < hn H → AlM H c g μ) (hK : ∀ μ1, (∀ g, g ≤ hn H → PoM H c s (ow H (cs H c) s) g μ1) → FK 47 (fun _ _ => True) μ μ1 → K (nI (eN 100000000 (QH (AA H c) (hn H) s 0 (ow H (cs H c) s)))) μ1) : CS G m_Mo_shareOf [vr 7 0, vi (nI s)] μ (RI K) := c_Mo_shareOf _ (owedBy_M hM hH hs (sh8 (x := 0) hH hc hs (ow_le hH hc) (ow H (cs H c) s + 1) (by omega) hM hA (fun y hy => absurd hy (by omega)) hK))
/-- what a set saves -/
def sv2 (H : Hs) (c : Sc) (s : Nat) : Int32 := match alO (own H c) s (hn H) with
  | none => -9
  | some v => nI v - nI (eN 0 (QH (AA H c) (hn H) s 0 (ow H (cs H c) s)))
theorem all_q (hH : HI H) (hc : CI H c) {s v : Nat} (e : alO (own H c) s (hn H) = some v) : ∃ w, QH (AA H c) (hn H) s 0 (ow H (cs H c) s) = some w := QH_ex (A := AA H c) (w := vo (cs H c)) (fun g hg => by have := (SI_now hH hc).owes hg; omega) (fun g hg hbg => alO_a e g hg hbg)
theorem savesOf_s {s : Nat} (hH : HI H) (hc : CI H c) (hs : s < 32) (hM : Ms H c μ) (hA : ∀ g, g < hn H → AlM H c g μ) (hK : ∀ μ1, FK 47 (fun _ _ => True) μ μ1 → K (sv2 H c s) μ1) : CS G m_Mo_savesOf [vr 7 0, vi (nI s)] μ (RI K) := by
  have b1 := hH.1
  refine c_Mo_savesOf _ (byThem_s hH hc hs hM hA ?_)
  unfold sv2 at hK
  cases e : alO (own H c) s (hn H) with
  | none =>
    rw [e] at hK
    exact iT rfl (hK μ FK.rf)
  | some v =>
    rw [e] at hK
    have hv := alO_B (fun g => LL_B hH hc _) e
    obtain ⟨w, hw⟩ := all_q hH hc e
    rw [hw] at hK
    refine iF (fun q => ?_) (shareOf_s hH hc hs hM hA fun μ1 _ k2 => ?_)
    · have := (nI_eq (a := v) (b := 100000000) (by omega) (by decide)).mp q
      omega
    · rw [hw]
      exact hK μ1 k2
theorem two_saves (x1 : Int32) : Two G m_Cs_saves m_Mo_saves [vr 6 0, vi x1] [vr 7 0, vi x1] := by
  intro μ L ⟨a, hA, hC, hM⟩ hL
  have hH := hA.2.2.1
  have hc := hA.2.2.2.1
  have b1 := hH.1
  have p5 := pow5 b1
  have p0 : 0 < 2 ^ hn (aH a) := Nat.pow_pos (by decide)
  have ok : Ok G μ := ⟨a, hA, hC, hM⟩
  have hS := hC.2.2.2.1
  have hS2 := hM.2.2.2.1
  refine c_Cs_saves _ ?_
  rw [hS.1.1, all_1 _ (by omega)]
  by_cases h1 : rg x1 (2 ^ hn (aH a))
  · obtain ⟨s, hs, rfl⟩ := h1
    refine iNl (by omega) (iLtT (by omega) hs (wAll_s hH hc hS fun μ1 k1 k2 => painAlone_s hH hc (by omega) (hS.fa hH (k2.fa (L := L1 5) (fun _ _ => rfl)) rfl) k1 ?_))
    have F1 := k2.fa (L := L1 5) (fun _ _ => rfl)
    have hC1 := hC.fa hA F1 L1_5
    have hM1 := hM.fa F1 (L1_M (by decide))
    have ref : ∀ (μ2 : Mm), RC a μ2 → RM a μ2 → CS G m_Mo_saves [vr 7 0, vi (nI s)] μ2 (RI fun v2 μ3 => L (sv2 (aH a) (aC a) s) v2 μ3) := by
      intro μ2 hC2 hM2
      refine c_Mo_saves _ (c_Mo_everybody ?_)
      rw [hM2.2.2.2.1.1.1, all_1 _ (by omega)]
      refine in_T (n := 2 ^ hn (aH a)) (by omega) hs (i1 (layLeasts_s hH hc hM2.2.2.2.1 fun μ3 j1 j2 => savesOf_s hH hc (by omega) (hM2.2.2.2.1.fa j2 rfl) j1 fun μ4 i2 => hL _ _ ?_))
      have F3 := j2.tr (i2.fa (L := L1 11) (fun _ _ => rfl))
      exact ⟨a, hA, hC2.fa hA F3 (L1_C (by decide)), hM2.fa F3 L1_W⟩
    cases e : alO (own (aH a) (aC a)) s (hn (aH a)) with
    | none =>
      have bs := sm_bd (f := f01 s (fun g => eN 1000000 (own (aH a) (aC a) g))) (b := 1000000) (n := hn (aH a)) (fun j _ => by
        show (if hb s j = true then eN 1000000 (own (aH a) (aC a) j) else 0) ≤ _
        split
        · exact eN_le (oB_mono (LL_B hH hc _) (by decide))
        · exact Nat.zero_le _)
      refine iLtF (b := 1000000) (by omega) (alO_n e) ?_
      have := ref μ1 hC1 hM1
      unfold sv2 at this
      rw [e] at this
      exact this
    | some v =>
      have hv := alO_B (fun g => LL_B hH hc _) e
      obtain ⟨w, hw⟩ := all_q hH hc e
      have ho := ow_le (S := s) hH hc
      rw [alO_v (F := 1000000) e]
      refine iLtT (b := 1000000) (by decide) (by omega) (owedBy_C hC1.2.2.2.1 hH (by omega) (painOfPool_s hH hc hs (by omega) hC1.2.2.2.1 k1 fun μ2 _ j2 => ?_))
      have F2 := j2.fa (L := L1 5) (fun _ _ => rfl)
      have := ref μ2 (hC1.fa hA F2 L1_5) (hM1.fa F2 (L1_M (by decide)))
      unfold sv2 at this
      rw [e, hw] at this
      rw [hw]
      exact this
  · refine no_F (by omega) h1 (c_Mo_saves _ (c_Mo_everybody ?_))
    rw [hS2.1.1, all_1 _ (by omega)]
    exact in_F (n := 2 ^ hn (aH a)) (by omega) h1 (i0 (hL _ _ ok))
end P56
