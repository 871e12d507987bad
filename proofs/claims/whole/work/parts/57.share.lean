/-! share -/
def fz (A : Nat → Nat → Option Nat) (n s k x : Nat) : Nat := fs (pz (A (n - 1 - k)) (SQ A n s k) x) (eN 0 (SQ A n s (k + 1) x)) 47 0
theorem pz_le {A L : Nat → Option Nat} {x d v : Nat} (h : pz A L x d = some v) : d ≤ x := by
  unfold pz at h
  split at h
  · assumption
  · cases h
theorem fz_ok {A : Nat → Nat → Option Nat} {n s k x v : Nat} (hbk : hb s (n - 1 - k) = true) (h : SQ A n s (k + 1) x = some v) : fz A n s k x < 47 ∧ fz A n s k x ≤ x ∧ pz (A (n - 1 - k)) (SQ A n s k) x (fz A n s k x) = some v ∧ (∀ e, e < fz A n s k x → pz (A (n - 1 - k)) (SQ A n s k) x e ≠ some v) ∧ ∃ w, SQ A n s k (x - fz A n s k x) = some w := by
  have h2 : (if hb s (n - 1 - k) = true then bst (pz (A (n - 1 - k)) (SQ A n s k) x) 47 else SQ A n s k x) = some v := h
  rw [if_pos hbk] at h2
  obtain ⟨⟨d, hd, e⟩, _⟩ := bst_some h2
  obtain ⟨g1, g2, g3, g4⟩ := fs_ok (p := pz (A (n - 1 - k)) (SQ A n s k) x) (v := v) 47 (d := 0) e (by omega) (by omega)
  have ef : fz A n s k x = fs (pz (A (n - 1 - k)) (SQ A n s k) x) v 47 0 := by
    unfold fz
    rw [h]
    rfl
  rw [ef]
  have k1 := pz_le g1
  refine ⟨by omega, k1, g1, fun e he => g4 e (by omega) he, ?_⟩
  rw [show pz (A (n - 1 - k)) (SQ A n s k) x (fs (pz (A (n - 1 - k)) (SQ A n s k) x) v 47 0) = oS (A (n - 1 - k) (fs (pz (A (n - 1 - k)) (SQ A n s k) x) v 47 0)) (SQ A n s k (x - fs (pz (A (n - 1 - k)) (SQ A n s k) x) v 47 0)) from if_pos k1] at g1
  obtain ⟨p, w, _, h3, _⟩ := oS_some g1
  exact ⟨w, h3⟩
theorem QH_eq {A : Nat → Nat → Option Nat} {n s h k x : Nat} (e : n = h + k) : QH A n s h x = SQ A n s k x := by
  show SQ A n s (n - h) x = _
  rw [show n - h = k by omega]
/-- the first shares -/
def shr (A : Nat → Nat → Option Nat) (n s : Nat) : Nat → Nat → Nat → Nat
  | 0, _, _ => 0
  | k + 1, x, 0 => fz A n s k x
  | k + 1, x, j + 1 => shr A n s k (x - fz A n s k x) j
section P57
variable {G : Ge} {μ : Mm} {K : Int32 → Mm → Prop} {V : Mm → Prop} {H : Hs} {c : Sc} {h : Nat}
theorem fsh3 {s1 s2 x v D : Nat} {A L : Nat → Option Nat} (hh : h < 5) (hs1 : s1 < 32) (hs2 : s2 < 32) (he : (nI s1 ||| (1 <<< (nI h &&& 31))) = nI s2) (h1 : ∀ y, y < 47 → μ.1 16 (9 + h) y = nI (eN 1000000 (A y))) (h2 : ∀ y, y < 47 → μ.1 16 (14 + s1) y = nI (eN 1000000 (L y))) (h0 : μ.1 16 (14 + s2) x = nI v) (hv : v ≤ 6480) (hA : ∀ y, oB 1296 (A y)) (hL : ∀ y, oB 6480 (L y)) (hx : x < 47) (d2 : D ≤ x) (d3 : pz A L x D = some v) (d4 : ∀ e, e < D → pz A L x e ≠ some v) (hK : K (nI D) μ) : ∀ (m : Nat) {d : Nat}, D = d + m → SS G m_Pl_firstShare 3 [vr 1 0, vi (nI h), vi (nI s1), vi (nI x), vi (nI d)] [] μ (RI K)
  | m, d, e => by
    have u1 := eN_le (F := 1000000) (oB_mono (hA d) (by decide))
    have u2 := eN_le (F := 1000000) (oB_mono (hL (x - d)) (by decide))
    refine b_Pl_firstShare_3 _ _ _ _ (iLtF (by omega) (by omega) ?_)
    rw [he, nI_sub (a := x) (b := d) (by omega), nI_tn (n := h) (by omega), nI_tn (n := d) (by omega), nI_tn (n := s1) (by omega), nI_tn (n := s2) (by omega), nI_tn (n := x) (by omega), nI_tn (n := x - d) (by omega), h1 d (by omega), h2 (x - d) (by omega), h0, nI_add, nI_1 d]
    refine ⟨in_nI hh (by decide), in_nI (by omega) (by decide), in_nI hs1 (by decide), in_nI (by omega) (by decide), in_nI hs2 (by decide), in_nI hx (by decide), iEq (by omega) (by omega) (fun z => ?_) fun z => ?_⟩
    · have z2 := (pzE (A := A) (L := L) (by omega) (by omega)).mp z
      by_cases y : d = D
      · rw [y]
        exact hK
      · exact absurd z2 (d4 d (by omega))
    · cases m with
      | zero =>
        rw [show d = D by omega] at z
        exact absurd ((pzE (A := A) (L := L) (by omega) (by omega)).mpr d3) z
      | succ m => exact fsh3 hh hs1 hs2 he h1 h2 h0 hv hA hL hx d2 d3 d4 hK m (by omega)
theorem ws6 {r S : Nat} (hH : HI H) (hc : CI H c) (eS : S = 2 ^ hn H - 1) : ∀ (m : Nat) {h x v : Nat} {μ : Mm}, hn H = h + m → x < 47 → SQ (AA H c) (hn H) S m x = some v → (∀ g, g < hn H → Al H c g μ) → (∀ g, g ≤ hn H → Po H c S g μ) → (∀ μ1, (∀ j, j < m → μ1.1 18 r (h + j) = nI (shr (AA H c) (hn H) S m x j)) → FK 18 (fun i s => i = r ∧ h ≤ s) μ μ1 → V μ1) → SS G m_Pl_writeShares 6 [vr 1 0, vi (nI (hn H)), un, vr 18 r, vi (nI x), vi (nI h), un] [] μ (RV V)
  | 0, h, x, v, μ, e, hx, hl, hA, hP, hK => by
    have b1 := hH.1
    exact b_Pl_writeShares_6 _ _ _ _ (iLeT (by omega) (by omega) (hK μ (fun j hj => absurd hj (by omega)) FK.rf))
  | m + 1, h, x, v, μ, e, hx, hl, hA, hP, hK => by
    have b1 := hH.1
    have p5 := pow_lt b1
    have eh : hn H - 1 - m = h := by omega
    have hbh : hb S h = true := by
      rw [eS]
      exact all_3 _ (by omega) h (by omega)
    obtain ⟨d1, d2, d3, d4, w, d5⟩ := fz_ok (A := AA H c) (n := hn H) (s := S) (k := m) (x := x) (by rw [eh]; exact hbh) hl
    obtain ⟨D, hD⟩ : ∃ D, D = fz (AA H c) (hn H) S m x := ⟨_, rfl⟩
    rw [← hD] at d1 d2 d3 d4 d5
    rw [eh] at d3 d4
    have hv : v ≤ 6480 := oB_mono (SQ_B (AA_B hH hc) (m + 1) x) (by omega) v hl
    have P1 : ∀ y, y < 47 → μ.1 16 (14 + hiS S (h + 1)) y = nI (eN 1000000 (SQ (AA H c) (hn H) S m y)) := fun y hy => by
      have := hP (h + 1) (by omega) y hy
      rw [QH_eq (k := m) (by omega)] at this
      exact this
    have P0 : μ.1 16 (14 + hiS S h) x = nI v := by
      have := hP h (by omega) x hx
      rw [QH_eq (k := m + 1) (by omega), hl] at this
      exact this
    refine b_Pl_writeShares_6 _ _ _ _ (iLeF (by omega) (by omega) ?_)
    rw [nI_1 h, all_2 _ (by omega) h (by omega), ← eS]
    refine c_Pl_firstShare _ _ _ (fsh3 (d := 0) (D := D) (A := AA H c h) (L := SQ (AA H c) (hn H) S m) (s1 := hiS S (h + 1)) (s2 := hiS S h) (by omega) (hi_6 S (by omega) _ (by omega)) (hi_6 S (by omega) _ (by omega)) (hi_1 S (by omega) h (by omega) hbh) (hA h (by omega)) P1 P0 hv (AA_B hH hc h) (fun y => oB_mono (SQ_B (AA_B hH hc) m y) (by omega)) hx d2 d3 d4 ?_ D (by omega))
    rw [nI_sub (a := x) (b := D) d2, nI_tn (n := h) (by omega)]
    have F1 : FK 18 (fun i s => i = r ∧ h ≤ s) μ (wI μ 18 r h (nI D)) := FK.rf.wI ⟨rfl, Nat.le_refl _⟩
    refine ⟨in_nI (by omega) (by decide), ws6 hH hc eS m (h := h + 1) (x := x - D) (by omega) (by omega) d5 (fun g hg y hy => ?_) (fun g hg y hy => ?_) fun μ1 k1 k2 => hK μ1 (fun j hj => ?_) (F1.tr (k2.mono fun i s z => ⟨z.1, by omega⟩))⟩
    · rw [F1.k _ _ (by decide)]
      exact hA g hg y hy
    · rw [F1.k _ _ (by decide)]
      exact hP g hg y hy
    · cases j with
      | zero =>
        rw [k2.i _ _ (by omega), Nat.add_zero, wI_s]
        show nI D = nI (fz (AA H c) (hn H) S m x)
        rw [hD]
      | succ j =>
        rw [show h + (j + 1) = h + 1 + j by omega, k1 j (by omega)]
        show _ = nI (shr (AA H c) (hn H) S m (x - fz (AA H c) (hn H) S m x) j)
        rw [hD]
theorem sr65 {x v D o : Nat} {r x2 : Int32} {L : Nat → Option Nat} (hH : HI H) (hc : CI H c) (hh : h < hn H) (hA : AlM H c h μ) (h2 : ∀ y, y ≤ o → μ.1 47 0 (501 * (h + 1) + y) = nI (eN 100000000 (L y))) (h0 : μ.1 47 0 (501 * h + x) = nI v) (hv : v ≤ 6480) (hL : ∀ y, oB 6480 (L y)) (hx : x ≤ o) (ho : o ≤ 45) (d2 : D ≤ x) (d3 : pz (AA H c h) L x D = some v) (d4 : ∀ e, e < D → pz (AA H c h) L x e ≠ some v) (hK : SS G m_Mo_share 53 [vr 7 0, vi r, vi x2, vi (nI (x - D)), vi (nI (h + 1)), un] [] (wI μ 48 0 h (nI D)) (RI K)) : ∀ (m : Nat) {d : Nat}, D = d + m → SS G m_Mo_share 65 [vr 7 0, vi r, vi x2, vi (nI x), vi (nI h), vi (nI d)] [] μ (RI K)
  | m, d, e => by
    have b1 := hH.1
    have u1 : eN 100000000 (LL H c h d) ≤ 100000000 := eN_le (F := 100000000) (oB_mono (AA_B hH hc h d) (by decide))
    have u2 := eN_le (F := 100000000) (oB_mono (hL (x - d)) (by decide))
    refine b_Mo_share_65 _ _ _ _ _ (leastOf_s hA (by omega) (by omega) (c_Mo_sharedAt _ _ ?_))
    rw [nI_1 h, m501, nI_sub (a := x) (b := d) (by omega), nI_add, nI_tn (n := 501 * (h + 1) + (x - d)) (by omega), h2 (x - d) (by omega)]
    refine ⟨in_nI (by omega) (by decide), c_Mo_sharedAt _ _ ?_⟩
    rw [m501, nI_add, nI_tn (n := 501 * h + x) (by omega), h0, nI_add, nI_1 d, nI_tn (n := h) (by omega)]
    refine ⟨in_nI (by omega) (by decide), iEq (by omega) (by omega) (fun z => ⟨in_nI (by omega) (by decide), ?_⟩) fun z => ?_⟩
    · have z2 := (pzE (A := AA H c h) (L := L) (by omega) (by omega)).mp z
      by_cases y : d = D
      · rw [y]
        exact hK
      · exact absurd z2 (d4 d (by omega))
    · cases m with
      | zero =>
        rw [show d = D by omega] at z
        exact absurd ((pzE (A := AA H c h) (L := L) (by omega) (by omega)).mpr d3) z
      | succ m => exact sr65 hH hc hh hA h2 h0 hv hL hx ho d2 d3 d4 hK m (by omega)
theorem sr53 {S o : Nat} {r x2 : Int32} (hH : HI H) (hc : CI H c) (eS : S = 2 ^ hn H - 1) (ho : o ≤ 45) : ∀ (m : Nat) {h x v : Nat} {μ : Mm}, hn H = h + m → x ≤ o → SQ (AA H c) (hn H) S m x = some v → Ms H c μ → (∀ g, g < hn H → AlM H c g μ) → (∀ g, g ≤ hn H → PoM H c S o g μ) → (∀ μ1, (∀ j, j < m → μ1.1 48 0 (h + j) = nI (shr (AA H c) (hn H) S m x j)) → FK 48 (fun _ s => h ≤ s) μ μ1 → CS G m_Mo_layRow [vr 7 0, vi r, vr 48 0, vi (nI (hn H))] μ1 (RV fun μ2 => K x2 μ2)) → SS G m_Mo_share 53 [vr 7 0, vi r, vi x2, vi (nI x), vi (nI h), un] [] μ (RI K)
  | 0, h, x, v, μ, e, hx, hl, hM, hA, hP, hK => by
    have b1 := hH.1
    refine b_Mo_share_53 _ _ _ _ ?_
    rw [hM.1.1]
    exact iLeT (by omega) (by omega) (hK μ (fun j hj => absurd hj (by omega)) FK.rf)
  | m + 1, h, x, v, μ, e, hx, hl, hM, hA, hP, hK => by
    have b1 := hH.1
    have eh : hn H - 1 - m = h := by omega
    have hbh : hb S h = true := by
      rw [eS]
      exact all_3 _ (by omega) h (by omega)
    obtain ⟨d1, d2, d3, d4, w, d5⟩ := fz_ok (A := AA H c) (n := hn H) (s := S) (k := m) (x := x) (by rw [eh]; exact hbh) hl
    obtain ⟨D, hD⟩ : ∃ D, D = fz (AA H c) (hn H) S m x := ⟨_, rfl⟩
    rw [← hD] at d1 d2 d3 d4 d5
    rw [eh] at d3 d4
    have hv : v ≤ 6480 := oB_mono (SQ_B (AA_B hH hc) (m + 1) x) (by omega) v hl
    have P1 : ∀ y, y ≤ o → μ.1 47 0 (501 * (h + 1) + y) = nI (eN 100000000 (SQ (AA H c) (hn H) S m y)) := fun y hy => by
      have := hP (h + 1) (by omega) y hy
      rw [QH_eq (k := m) (by omega)] at this
      exact this
    have P0 : μ.1 47 0 (501 * h + x) = nI v := by
      have := hP h (by omega) x hx
      rw [QH_eq (k := m + 1) (by omega), hl] at this
      exact this
    refine b_Mo_share_53 _ _ _ _ ?_
    rw [hM.1.1]
    have F1 : FK 48 (fun _ s => h ≤ s) μ (wI μ 48 0 h (nI D)) := FK.rf.wI (Nat.le_refl _)
    refine iLeF (by omega) (by omega) (sr65 (d := 0) (D := D) (L := SQ (AA H c) (hn H) S m) hH hc (by omega) (hA h (by omega)) P1 P0 hv (fun y => oB_mono (SQ_B (AA_B hH hc) m y) (by omega)) hx ho d2 d3 d4 (sr53 hH hc eS ho m (h := h + 1) (x := x - D) (by omega) (by omega) d5 (hM.fa (F1.fa (L := L1 11) (fun _ _ => rfl)) rfl) (fun g hg y hy => ?_) (fun g hg y hy => ?_) fun μ1 k1 k2 => hK μ1 (fun j hj => ?_) (F1.tr (k2.mono fun i s z => by omega))) D (by omega))
    · rw [F1.k _ _ (by decide)]
      exact hA g hg y hy
    · rw [F1.k _ _ (by decide)]
      exact hP g hg y hy
    · cases j with
      | zero =>
        rw [k2.i _ _ (by omega), Nat.add_zero, wI_s]
        show nI D = nI (fz (AA H c) (hn H) S m x)
        rw [hD]
      | succ j =>
        rw [show h + (j + 1) = h + 1 + j by omega, k1 j (by omega)]
        show _ = nI (shr (AA H c) (hn H) S m (x - fz (AA H c) (hn H) S m x) j)
        rw [hD]
theorem two_share (x1 : Int32) : Two G m_Cs_share m_Mo_share [vr 6 0, vi x1] [vr 7 0, vi x1] := by
  intro μ L ⟨a, hA, hC, hM⟩ hL
  have hH := hA.2.2.1
  have hc := hA.2.2.2.1
  have b1 := hH.1
  have ok : Ok G μ := ⟨a, hA, hC, hM⟩
  have hS := hC.2.2.2.1
  have hS2 := hM.2.2.2.1
  have pl := pow_lt b1
  have p0 : 0 < 2 ^ hn (aH a) := Nat.pow_pos (by decide)
  by_cases h1 : rg x1 6
  · obtain ⟨r, hr, rfl⟩ := h1
    refine c_Cs_share _ (noRow_T hr (i0 (empty_0 hS hH (fun z => i1 ?_) fun z => i0 (wAll_s hH hc hS fun μ1 k1 k2 => ?_))))
    · refine c_Mo_share _ (isRow_T hr (i1 ?_))
      rw [hS2.1.1]
      exact iT (by rw [z]; rfl) (hL _ _ ok)
    · have F1 := k2.fa (L := L1 5) (fun _ _ => rfl)
      have hC1 := hC.fa hA F1 L1_5
      have hM1 := hM.fa F1 (L1_M (by decide))
      have hS1 := hC1.2.2.2.1
      obtain ⟨S, eS⟩ : ∃ S, S = 2 ^ hn (aH a) - 1 := ⟨_, rfl⟩
      have ho := ow_le (S := S) hH hc
      rw [hS1.1.1, all_d _ (by omega), nI_tn (n := r) (by omega), ← eS]
      refine owedBy_C hS1 hH (by omega) (painOfPool_s hH hc (by omega) (by omega) hS1 k1 fun μ2 j1 j2 => ?_)
      have F2 := F1.tr (j2.fa (L := L1 5) (fun _ _ => rfl))
      have hC2 := hC.fa hA F2 L1_5
      have hM2 := hM.fa F2 (L1_M (by decide))
      have hS2b := hC2.2.2.2.1
      have Al2 : ∀ g, g < hn (aH a) → Al (aH a) (aC a) g μ2 := fun g hg y hy => by
        rw [j2.i _ _ (by omega)]
        exact k1 g hg y hy
      obtain ⟨o, eo⟩ : ∃ o, o = ow (aH a) (cs (aH a) (aC a)) S := ⟨_, rfl⟩
      rw [← eo] at ho ⊢
      -- the reference's way
      have mo : ∀ (μ3 : Mm) (K1 : Int32 → Mm → Prop), Ms (aH a) (aC a) μ3 → (∀ μ4, Ms (aH a) (aC a) μ4 → (∀ g, g < hn (aH a) → AlM (aH a) (aC a) g μ4) → (∀ g, g ≤ hn (aH a) → PoM (aH a) (aC a) S o g μ4) → Fa (L1 11) μ3 μ4 → (if nI (eN 100000000 (QH (AA (aH a) (aC a)) (hn (aH a)) S 0 o)) = 100000000 then K1 (-9) μ4 else SS G m_Mo_share 53 [vr 7 0, vi (nI r), vi (nI (eN 100000000 (QH (AA (aH a) (aC a)) (hn (aH a)) S 0 o))), vi (nI o), vi (nI 0), un] [] μ4 (RI K1))) → CS G m_Mo_share [vr 7 0, vi (nI r)] μ3 (RI K1) := by
        intro μ3 K1 hm hK
        refine c_Mo_share _ (isRow_T hr (i1 ?_))
        rw [hm.1.1]
        refine iF (nI_ne0 (by omega) (by omega)) (layLeasts_s hH hc hm fun μ4 q1 q2 => c_Mo_everybody ?_)
        have hm4 := hm.fa q2 rfl
        rw [hm4.1.1, all_d _ (by omega), ← eS]
        refine shareOf_s hH hc (by omega) hm4 q1 fun μ5 w1 w2 => ?_
        have F5 := w2.fa (L := L1 11) (fun _ _ => rfl)
        have hm5 := hm4.fa F5 rfl
        rw [← eo] at w1 ⊢
        have hk := hK μ5 hm5 (fun g hg y hy => by rw [w2.k _ _ (by decide)]; exact q1 g hg y hy) w1 (q2.tr F5)
        refine iB (fun z => ?_) fun z => c_Mo_everybody ?_
        · rw [if_pos z] at hk
          exact hk
        · rw [if_neg z] at hk
          rw [hm5.1.1, all_d _ (by omega), ← eS]
          refine owedBy_M hm5 hH (by omega) ?_
          rw [← eo]
          exact hk
      cases e2 : QH (AA (aH a) (aC a)) (hn (aH a)) S 0 o with
      | none =>
        refine iF (by decide) (mo μ2 _ hM2.2.2.2.1 fun μ4 hm hl hp F => ?_)
        rw [e2]
        exact iT rfl (hL _ _ ⟨a, hA, hC2.fa hA F (L1_C (by decide)), hM2.fa F L1_W⟩)
      | some v =>
        have hv : v ≤ 6480 := QH_B (AA_B hH hc) b1 v e2
        refine iT (nI_lt (b := 1000000) (show v < 1000000 by omega) (by decide)) ⟨in_nI hr (by decide), ?_⟩
        rw [hS2b.1.1]
        refine begR (by omega) ⟨in_nI hr (by decide), ?_⟩
        have F3 : Fa (L1 1) μ2 (aI (wI μ2 3 r 1 (nI (hn (aH a)))) 18 r 0 (hn (aH a)) (fun _ => 0)) := (Fa.rf.wI rfl).aI (fun _ => rfl)
        have hM3 := hM2.fa F3 (L1_M (by decide))
        have e3 : ∀ i, i ≠ r → (aI (wI μ2 3 r 1 (nI (hn (aH a)))) 18 r 0 (hn (aH a)) (fun _ => 0)).1 3 i = μ2.1 3 i := fun i hi => by
          rw [aI_k (by decide), wI_i _ _ _ hi]
        have e18 : ∀ i, i ≠ r → (aI (wI μ2 3 r 1 (nI (hn (aH a)))) 18 r 0 (hn (aH a)) (fun _ => 0)).1 18 i = μ2.1 18 i := fun i hi => by
          rw [aI_i hi, wI_k _ _ (by decide)]
        have e31 : (aI (wI μ2 3 r 1 (nI (hn (aH a)))) 18 r 0 (hn (aH a)) (fun _ => 0)).1 3 r 1 = nI (hn (aH a)) := by
          rw [aI_k (by decide), wI_s]
        have e16 : ∀ i s, (aI (wI μ2 3 r 1 (nI (hn (aH a)))) 18 r 0 (hn (aH a)) (fun _ => 0)).1 16 i s = μ2.1 16 i s := fun i s => by
          rw [aI_k (by decide), wI_k _ _ (by decide)]
        generalize aI (wI μ2 3 r 1 (nI (hn (aH a)))) 18 r 0 (hn (aH a)) (fun _ => 0) = μ3 at F3 hM3 e3 e18 e31 e16 ⊢
        have hS3 := hS2b.fa hH F3 rfl
        rw [hS3.1.1]
        refine c_Pl_writeShares _ _ _ (ws6 (r := r) (S := S) (h := 0) hH hc eS (hn (aH a)) (v := v) (by omega) (by omega) e2 (fun g hg y hy => by rw [e16]; exact Al2 g hg y hy) (fun g hg y hy => by rw [e16]; exact j1 g hg y hy) fun μ4 w1 w2 => ?_)
        have F4 := w2.fa (L := L1 1) (fun _ _ => rfl)
        have hM4 := hM3.fa F4 (L1_M (by decide))
        obtain ⟨f, hf⟩ : ∃ f : Nat → Int32, f = fun j => nI (shr (AA (aH a) (aC a)) (hn (aH a)) S (hn (aH a)) o j) := ⟨_, rfl⟩
        have hC4 : RC (aT a, (uf (aR a).1 r (hn (aH a) + 1), uf (aR a).2 r f), a.2.2) μ4 := by
          refine hC2.rest1 hA (F3.tr F4) (Cr_up hC2.2.1 ?_ (fun j hj => ?_) (fun i hi => ?_) (fun i hi => ?_))
          · rw [w2.k _ _ (by decide), e31]
            rfl
          · have := w1 j (by omega)
            rw [Nat.zero_add] at this
            rw [this, hf]
          · rw [← e3 i hi]
            funext s
            exact w2.k _ _ (by decide)
          · rw [← e18 i hi]
            funext s
            exact w2.i _ _ (fun z => hi z.1)
        have hA1 : AI (aT a, (uf (aR a).1 r (hn (aH a) + 1), uf (aR a).2 r f), a.2.2) := ⟨RI2_up hA.1 (by omega), hA.2⟩
        refine mo μ4 _ hM4.2.2.2.1 fun μ5 hm hl hp F5 => ?_
        rw [e2]
        have hM5 := hM4.fa F5 L1_W
        have hC5 := hC4.fa hA1 F5 (L1_C (by decide))
        refine iF (fun q => ?_) ?_
        · have := (nI_eq (a := v) (b := 100000000) (by omega) (by decide)).mp q
          omega
        · refine sr53 (S := S) (o := o) (h := 0) (r := nI r) (x2 := nI v) hH hc eS ho (hn (aH a)) (v := v) (by omega) (Nat.le_refl _) e2 hm hl hp fun μ6 q1 q2 => ?_
          have F6 := q2.fa (L := L1 11) (fun _ _ => rfl)
          have hM6 := hM5.fa F6 L1_W
          have hC6 := hC5.fa hA1 F6 (L1_C (by decide))
          obtain ⟨m1, m2⟩ := lyM (f := f) (n := hn (aH a)) hA hM6 hr (by omega)
          refine c_Mo_layRow_48 _ _ ⟨in_nI hr (by decide), ?_⟩
          rw [nI_tn (n := r) (by omega)]
          refine lyR48 (f := f) hr (by omega) 40 (j := 0) rfl (fun i hi => ?_) (hL _ _ ⟨_, hA1, hC6.fa hA1 m2 (L1_C (by decide)), m1⟩)
          have := q1 i hi
          rw [Nat.zero_add] at this
          rw [wI_k _ _ (by decide), this, hf]
  · exact c_Cs_share _ (noRow_F h1 (i1 (c_Mo_share _ (isRow_F h1 (i0 (hL _ _ ok))))))
end P57
