/-! pools, the object's -/
abbrev AA (H : Hs) (c : Sc) : Nat → Nat → Option Nat := fun h x => LL H c h x
def Po (H : Hs) (c : Sc) (s g : Nat) (μ : Mm) : Prop := ∀ x, x < 47 → μ.1 16 (14 + hiS s g) x = nI (eN 1000000 (QH (AA H c) (hn H) s g x))
/-- the hurt of each by itself -/
def alO (o : Nat → Option Nat) (s : Nat) : Nat → Option Nat
  | 0 => some 0
  | h + 1 => if hb s h = true then oS (alO o s h) (o h) else alO o s h
section A55
variable {o : Nat → Option Nat} {s F : Nat}
theorem alO_v : ∀ {n v : Nat}, alO o s n = some v → sm (f01 s (fun g => eN F (o g))) n = v
  | 0, v, h => by
    have h : some 0 = some v := h
    cases h
    rfl
  | n + 1, v, h => by
    have h : (if hb s n = true then oS (alO o s n) (o n) else alO o s n) = some v := h
    show sm (f01 s (fun g => eN F (o g))) n + (if hb s n = true then eN F (o n) else 0) = v
    by_cases q : hb s n = true
    · rw [if_pos q] at h ⊢
      obtain ⟨p, w, h1, h2, h3⟩ := oS_some h
      rw [alO_v h1, h2, h3]
      rfl
    · rw [if_neg q] at h ⊢
      rw [alO_v h]
      rfl
theorem alO_n : ∀ {n : Nat}, alO o s n = none → F ≤ sm (f01 s (fun g => eN F (o g))) n
  | 0, h => by cases h
  | n + 1, h => by
    have h : (if hb s n = true then oS (alO o s n) (o n) else alO o s n) = none := h
    show F ≤ sm (f01 s (fun g => eN F (o g))) n + (if hb s n = true then eN F (o n) else 0)
    by_cases q : hb s n = true
    · rw [if_pos q] at h ⊢
      cases e : alO o s n with
      | none =>
        have := alO_n e
        omega
      | some p =>
        rw [e] at h
        cases e2 : o n with
        | none => exact Nat.le_add_left _ _
        | some w =>
          rw [e2] at h
          cases h
    · rw [if_neg q] at h ⊢
      exact alO_n h
theorem alO_B (hO : ∀ g, oB 1296 (o g)) : ∀ {n v : Nat}, alO o s n = some v → v ≤ 1296 * n
  | 0, v, h => by
    have h : some 0 = some v := h
    cases h
    exact Nat.zero_le _
  | n + 1, v, h => by
    have h : (if hb s n = true then oS (alO o s n) (o n) else alO o s n) = some v := h
    by_cases q : hb s n = true
    · rw [if_pos q] at h
      obtain ⟨p, w, h1, h2, h3⟩ := oS_some h
      have := alO_B hO h1
      have := hO n w h2
      omega
    · rw [if_neg q] at h
      have := alO_B hO h
      omega
theorem alO_a : ∀ {n v : Nat}, alO o s n = some v → ∀ g, g < n → hb s g = true → ∃ u, o g = some u
  | 0, v, h, g, hg, _ => absurd hg (by omega)
  | n + 1, v, h, g, hg, hbg => by
    have h : (if hb s n = true then oS (alO o s n) (o n) else alO o s n) = some v := h
    by_cases e : g = n
    · subst e
      rw [if_pos hbg] at h
      obtain ⟨p, w, h1, h2, h3⟩ := oS_some h
      exact ⟨w, h2⟩
    · by_cases q : hb s n = true
      · rw [if_pos q] at h
        obtain ⟨p, w, h1, h2, h3⟩ := oS_some h
        exact alO_a h1 g (by omega) hbg
      · rw [if_neg q] at h
        exact alO_a h g (by omega) hbg
theorem alO_m : ∀ {n : Nat}, (∀ g, g < n → hb s g = true → ∃ u, o g = some u) → ∃ v, alO o s n = some v
  | 0, _ => ⟨0, rfl⟩
  | n + 1, h => by
    obtain ⟨v, hv⟩ := alO_m (n := n) (fun g a b => h g (by omega) b)
    show ∃ v, (if hb s n = true then oS (alO o s n) (o n) else alO o s n) = some v
    by_cases q : hb s n = true
    · rw [if_pos q, hv]
      obtain ⟨u, hu⟩ := h n (by omega) q
      rw [hu]
      exact ⟨v + u, rfl⟩
    · rw [if_neg q]
      exact ⟨v, hv⟩
end A55
section P55
variable {G : Ge} {μ : Mm} {K : Int32 → Mm → Prop} {V : Mm → Prop} {H : Hs} {c : Sc} {h : Nat}
theorem AA_B (hH : HI H) (hc : CI H c) : ∀ h y, oB 1296 (AA H c h y) := fun _ y => LL_B hH hc y
theorem join20 {s s2 : Nat} {A L : Nat → Option Nat} (hs : s < 32) (hne : s2 ≠ s) (hh : h < 5) (hA : ∀ y, oB 1296 (A y)) (hL : ∀ y, oB 6480 (L y)) : ∀ (m : Nat) {d : Nat} {μ : Mm}, 47 = d + m → (∀ y, y < 47 → μ.1 16 (9 + h) y = nI (eN 1000000 (A y))) → (∀ y, y < 47 → μ.1 16 (14 + s) y = nI (eN 1000000 (L y))) → (∀ y, y < 47 → μ.1 16 (14 + s2) y = nI (eN 1000000 (bst (pz A L y) d))) → (∀ μ1, (∀ y, y < 47 → μ1.1 16 (14 + s2) y = nI (eN 1000000 (bst (pz A L y) 47))) → FK 16 (fun j _ => j = 14 + s2) μ μ1 → V μ1) → SS G m_Pl_join 20 [vr 1 0, vi (nI s), vi (nI h), vr 16 (14 + s2), vi (nI d)] [] μ (RV V)
  | 0, d, μ, e, h1, h2, h3, hK => by
    refine b_Pl_join_20 _ _ _ _ (iT (nI_le (a := 47) (by omega) (by omega)) (hK μ (fun y hy => ?_) FK.rf))
    rw [h3 y hy, show d = 47 by omega]
  | m + 1, d, μ, e, h1, h2, h3, hK => by
    have hB : ∀ y, oB 7776 (bst (pz A L y) d) := fun y => bst_B fun e he => pz_B hA hL (by decide)
    refine b_Pl_join_20 _ _ _ _ (iF (nI_ge (b := 47) (by omega) (by omega)) ⟨in_nI hh (by decide), in_nI (by omega) (by decide), ?_⟩)
    rw [nI_tn (n := h) (by omega), nI_tn (n := d) (by omega), nI_tn (n := s) (by omega), h1 d (by omega), nI_1 d]
    cases hp : A d with
    | none =>
      refine iT le6 (join20 hs hne hh hA hL m (d := d + 1) (by omega) h1 h2 (fun y hy => ?_) hK)
      rw [h3 y hy, pzN hp]
    | some p =>
      have hp2 := hA d p hp
      refine iF (ge6 hp2) ⟨in_nI hs (by decide), in_nI hh (by decide), in_nI (by omega) (by decide), c_Pl_relieve _ _ _ _ ?_⟩
      refine relv (i0 := 14 + s2) (i1 := 14 + s) (d := d) (p := p) (f := fun y => eN 1000000 (bst (pz A L y) d)) (g := fun y => eN 1000000 (L y)) (by omega) (fun y _ => eN_le (oB_mono (hB y) (by decide))) (fun y _ => ?_) (47 - d) (by omega) (Nat.le_refl _) h2 (fun y hy => ?_) fun μ1 g1 g2 => ?_
      · have := eN_le (F := 1000000) (oB_mono (hL y) (by decide))
        show p + eN 1000000 (L y) ≤ _
        omega
      · rw [h3 y hy, if_neg (fun z => by omega)]
      · refine join20 hs hne hh hA hL m (d := d + 1) (by omega) (fun y hy => ?_) (fun y hy => ?_) (fun y hy => ?_) fun μ2 k1 k2 => hK μ2 k1 (g2.tr k2)
        · rw [g2.i _ _ (by omega)]
          exact h1 y hy
        · rw [g2.i _ _ (by omega)]
          exact h2 y hy
        · rw [g1 y hy]
          exact congrArg nI (pzM hp (oB_mono (hB y) (by decide)) (oB_A (G := 6480) (hL _) (by omega)))
theorem join_s {s s2 : Nat} {A L : Nat → Option Nat} (hs : s < 32) (hs2 : s2 < 32) (hne : s2 ≠ s) (hh : h < 5) (he : (nI s ||| (1 <<< (nI h &&& 31))) = nI s2) (hA : ∀ y, oB 1296 (A y)) (hL : ∀ y, oB 6480 (L y)) (h1 : ∀ y, y < 47 → μ.1 16 (9 + h) y = nI (eN 1000000 (A y))) (h2 : ∀ y, y < 47 → μ.1 16 (14 + s) y = nI (eN 1000000 (L y))) (hK : ∀ μ1, (∀ y, y < 47 → μ1.1 16 (14 + s2) y = nI (eN 1000000 (bst (pz A L y) 47))) → FK 16 (fun j _ => j = 14 + s2) μ μ1 → V μ1) : CS G m_Pl_join [vr 1 0, vi (nI s), vi (nI h)] μ (RV V) := by
  refine c_Pl_join _ _ ?_
  rw [he, nI_tn (n := s2) (by omega)]
  refine ⟨in_nI hs2 (by decide), fill2_s fun μ1 g1 g2 => join20 (d := 0) hs hne hh hA hL 47 rfl (fun y hy => ?_) (fun y hy => ?_) (fun y hy => ?_) fun μ2 k1 k2 => hK μ2 k1 (g2.tr k2)⟩
  · rw [g2.i _ _ (by omega)]
    exact h1 y hy
  · rw [g2.i _ _ (by omega)]
    exact h2 y hy
  · rw [g1 y hy]
    rfl
theorem pooled_s {s o : Nat} (hs : s < 32) (ho : o < 47) (hK : K (μ.1 16 (14 + s) o) μ) : CS G m_Pl_pooledPain [vr 1 0, vi (nI s), vi (nI o)] μ (RI K) := by
  refine c_Pl_pooledPain _ _ (iNl (by omega) (iLtT (b := 47) (by decide) ho ⟨in_nI hs (by decide), in_nI ho (by decide), ?_⟩))
  rw [nI_tn (n := s) (by omega), nI_tn (n := o) (by omega)]
  exact hK
theorem pp20 {s o : Nat} (hH : HI H) (hc : CI H c) (hs : s < 2 ^ hn H) (ho : o < 47) : ∀ (h : Nat) {μ : Mm}, h ≤ hn H → (∀ g, g < hn H → Al H c g μ) → (∀ g, h ≤ g → g ≤ hn H → Po H c s g μ) → (∀ μ1, (∀ g, g ≤ hn H → Po H c s g μ1) → FK 16 (fun j _ => 14 ≤ j) μ μ1 → K (nI (eN 1000000 (QH (AA H c) (hn H) s 0 o))) μ1) → SS G m_Pl_painOfPool 20 [vr 1 0, un, vi (nI s), vi (nI o), vi (nI (hiS s h)), vi (nI h - 1)] [] μ (RI K)
  | 0, μ, hh, hA, hP, hK => by
    have b1 := hH.1
    have b2 := pow5 b1
    refine b_Pl_painOfPool_20 _ _ _ _ (iT (by rw [neg_sub1]; decide) (pooled_s (by omega) ho ?_))
    have := hP 0 (Nat.le_refl _) (Nat.zero_le _) o ho
    rw [hi_0] at this
    rw [this]
    exact hK μ (fun g hg => hP g (Nat.zero_le _) hg) FK.rf
  | h + 1, μ, hh, hA, hP, hK => by
    have b1 := hH.1
    have b2 := pow5 b1
    rw [nI_pred]
    refine b_Pl_painOfPool_20 _ _ _ _ (iNl (by omega) ?_)
    rw [nI_a1]
    by_cases q : hb s h = true
    · refine isIn_T (by omega) (by omega) q (i1 (join_s (s := hiS s (h + 1)) (s2 := hiS s h) (A := AA H c h) (L := QH (AA H c) (hn H) s (h + 1)) (hi_6 s (by omega) _ (by omega)) (hi_6 s (by omega) _ (by omega)) (hi_5 (by omega) (by omega) (by omega) q (by omega)).symm (by omega) (hi_1 s (by omega) h (by omega) q) (AA_B hH hc h) (fun y => QH_B (AA_B hH hc) b1) (hA h (by omega)) (hP (h + 1) (Nat.le_refl _) hh) fun μ1 g1 g2 => ?_))
      rw [hi_1 s (by omega) h (by omega) q]
      refine pp20 hH hc hs ho h (by omega) (fun g hg y hy => ?_) (fun g ha hb y hy => ?_) fun μ2 k1 k2 => hK μ2 k1 ((g2.mono fun i _ z => by omega).tr k2)
      · rw [g2.i _ _ (by omega)]
        exact hA g hg y hy
      · by_cases e : g = h
        · subst e
          rw [g1 y hy, QH_s (by omega), if_pos q]
        · rw [g2.i _ _ (by have := hi_5 (s := s) (h := h) (g := g) (by omega) (by omega) (by omega) q (by omega); omega)]
          exact hP g (by omega) hb y hy
    · have e2 := hi_2 s (by omega) h (by omega) (by cases z : hb s h; rfl; exact absurd z q)
      refine isIn_F (by omega) (by omega) q (i0 ?_)
      rw [e2]
      refine pp20 hH hc hs ho h (by omega) hA (fun g ha hb y hy => ?_) hK
      by_cases e : g = h
      · subst e
        rw [← e2, hP (g + 1) (by omega) (by omega) y hy, QH_s (h := g) (by omega), if_neg q]
      · exact hP g (by omega) hb y hy
theorem painOfPool_s {s o : Nat} (hH : HI H) (hc : CI H c) (hs : s < 2 ^ hn H) (ho : o < 47) (hC : Cs H c μ) (hA : ∀ g, g < hn H → Al H c g μ) (hK : ∀ μ1, (∀ g, g ≤ hn H → Po H c s g μ1) → FK 16 (fun j _ => 14 ≤ j) μ μ1 → K (nI (eN 1000000 (QH (AA H c) (hn H) s 0 o))) μ1) : CS G m_Pl_painOfPool [vr 1 0, vr 4 0, vi (nI s), vi (nI o)] μ (RI K) := by
  have b1 := hH.1
  refine c_Pl_painOfPool _ _ _ ⟨in_nI (n := 0) (by decide) (by decide), ?_⟩
  rw [show Int32.toNatClampNeg 0 = 0 from rfl]
  refine bearN fun μ1 g1 g2 => ?_
  have hC1 := hC.fa hH (g2.fa (L := L1 5) (fun _ _ => rfl)) rfl
  rw [hC1.1.1]
  have e4 := hi_4 (hn H) (by omega) s hs
  have go := pp20 (G := G) (K := K) (μ := μ1) hH hc hs ho (hn H) (Nat.le_refl _) (fun g hg y hy => ?_) (fun g ha hb y hy => ?_) fun μ2 k1 k2 => hK μ2 k1 ((g2.mono fun i _ z => by omega).tr k2)
  · rw [e4] at go
    exact go
  · rw [g2.i _ _ (by omega)]
    exact hA g hg y hy
  · rw [show g = hn H by omega, e4, QH_n]
    exact g1 y hy
theorem pal5 {s : Nat} (hH : HI H) (hc : CI H c) (hs : s < 32) (hC : Cs H c μ) (hA : ∀ g, g < hn H → Al H c g μ) (hK : K (nI (sm (f01 s (fun g => eN 1000000 (own H c g))) (hn H))) μ) : ∀ (m h : Nat), hn H = h + m → SS G m_Pl_painAlone 5 [vr 1 0, vr 4 0, vi (nI s), vi (nI (sm (f01 s (fun g => eN 1000000 (own H c g))) h)), vi (nI h)] [] μ (RI K)
  | 0, h, e => by
    have b1 := hH.1
    refine b_Pl_painAlone_5 _ _ _ _ ?_
    rw [hC.1.1]
    refine iLeT (by omega) (by omega) ?_
    rw [show h = hn H by omega]
    exact hK
  | m + 1, h, e => by
    have b1 := hH.1
    have ho := (SI_now hH hc).owes (x := h) (by omega)
    have ih := pal5 hH hc hs hC hA hK m (h + 1) (by omega)
    have ih2 : SS G m_Pl_painAlone 5 [vr 1 0, vr 4 0, vi (nI s), vi (nI (sm (f01 s (fun g => eN 1000000 (own H c g))) h + if hb s h = true then eN 1000000 (own H c h) else 0)), vi (nI (h + 1))] [] μ (RI K) := ih
    refine b_Pl_painAlone_5 _ _ _ _ ?_
    rw [hC.1.1, nI_1, nI_tn (n := h) (by omega)]
    refine iLeF (by omega) (by omega) ?_
    by_cases q : hb s h = true
    · rw [if_pos q] at ih2
      refine isIn_T hs (by omega) q (i1 ⟨in_nI (by omega) (by decide), ?_⟩)
      rw [(hC.2.2.2 h (by omega)).1]
      refine painFor_s (hA h (by omega)) (by omega) (by omega) ?_
      rw [nI_add]
      exact ih2
    · rw [if_neg q] at ih2
      exact isIn_F hs (by omega) q (i0 ih2)
theorem painAlone_s {s : Nat} (hH : HI H) (hc : CI H c) (hs : s < 32) (hC : Cs H c μ) (hA : ∀ g, g < hn H → Al H c g μ) (hK : K (nI (sm (f01 s (fun g => eN 1000000 (own H c g))) (hn H))) μ) : CS G m_Pl_painAlone [vr 1 0, vr 4 0, vi (nI s)] μ (RI K) := c_Pl_painAlone _ _ (pal5 hH hc hs hC hA hK (hn H) 0 (by omega))
end P55
