/-! undo, keep, on -/
section P43
variable {G : Ge} {μ : Mm} {V : Mm → Prop} {K : Int32 → Mm → Prop}
theorem undo23 {n D : Nat} (hn : n < D) (hD : D ≤ 60) (g : Nat → Int32) : ∀ (d : Nat) {x : Nat} {μ : Mm}, 16 = x + d → (∀ y, x ≤ y → y < 16 → μ.1 38 0 (16 * n + y) = g y) → K (nI (D - n)) (wI (aI μ 37 0 x d g) 7 0 21 (nI n)) → SS G m_Mo_undo 23 [vr 7 0, vi (nI n), vi (nI (D - n)), vi (nI x)] [] μ (RI K)
  | 0, x, μ, e, hg, hV => by
    rw [aI_0] at hV
    exact b_Mo_undo_23 _ _ _ (iT (nI_le (a := 16) (by omega) (by omega)) hV)
  | d + 1, x, μ, e, hg, hV => by
    refine b_Mo_undo_23 _ _ _ (iF (nI_ge (b := 16) (by omega) (by omega)) (iF (nI_nle (by omega) (by omega)) ?_))
    rw [show (16 : Int32) * nI n = nI (16 * n) from nI_mul 16 n, nI_add, nI_1, nI_tn (by omega), nI_tn (by omega), hg x (by omega) (by omega)]
    refine ⟨in_nI (by omega) (by decide), in_nI (by omega) (by decide), undo23 hn hD g d (by omega) (fun y h1 h2 => by rw [wI_k _ _ (by decide)]; exact hg y (by omega) h2) ?_⟩
    rw [aI_step _ _ _ _ _ g _ rfl]
    exact hV
theorem in_le {x : Int32} {n : Nat} (hn : n < 2147483647) (h1 : ∀ r, r ≤ n → x = nI r → K 1 μ) (h0 : (∀ r, r ≤ n → x ≠ nI r) → K 0 μ) : CS G m_Mo_in [vi x, vi 0, vi (nI n)] μ (RI K) := by
  by_cases h : rg x (n + 1)
  · obtain ⟨r, hr, rfl⟩ := h
    have := in_T (G := G) (n := n + 1) (by omega) hr (h1 r (by omega) rfl)
    rw [nI_pred] at this
    exact this
  · have := in_F (G := G) (n := n + 1) (by omega) h (h0 fun r hr e => h ⟨r, by omega, e⟩)
    rw [nI_pred] at this
    exact this
theorem two_undo (x1 : Int32) : Two G m_Cs_undo m_Mo_undo [vr 6 0, vi x1] [vr 7 0, vi x1] := by
  intro μ L ⟨a, hA, hC, hM⟩ hL
  have b1 := hA.2.2.1.1
  have ok : Ok G μ := ⟨a, hA, hC, hM⟩
  have hS := hC.2.2.2.1
  have hS2 := hM.2.2.2.1
  have hH := hA.2.2.1
  have hc := hA.2.2.2.1
  have hD := hc.1
  by_cases h1 : rg x1 (cD (aC a) + 1)
  · obtain ⟨n, hnn, rfl⟩ := h1
    refine c_Cs_undo _ (iNl (by omega) ?_)
    rw [hS.2.1.1, nI_sub (by omega)]
    refine iLeT (by omega) (by omega) (replay_s hH hc (by omega) hS.1 (fun j hj => hS.2.1.2.2 j (by omega)) fun μ1 hD1 h8 F1 => ?_)
    have F1' : Fa (L1 3) μ μ1 := F1.faB pR_3
    have hM1 := hM.fa F1' (L1_M (by decide))
    have hS3 := hM1.2.2.2.1
    have hc1 : CI (aH a) (cc (aC a), n, cd (aC a)) := ⟨by show n ≤ 60; omega, hc.2.1, fun i hi => hc.2.2 i (by have : i < n := hi; omega)⟩
    have hA1 := AI_upC hA hc1
    have hC1 : RC (upC a (cc (aC a), n, cd (aC a))) μ1 := hC.rest3 hA F1' ⟨hS.1.frR hH F1, ⟨h8, fun t ht => F1.it (decide_eq_false (by omega)) (hS.2.1.2.1 t ht), fun j hj => ?_⟩, hD1⟩
    · refine c_Mo_undo _ ?_
      rw [hS3.2.1]
      refine in_le (by omega) (fun r hr e => iF (by decide) ?_) (fun q => absurd rfl (q n (by omega)))
      rw [hS3.2.1, nI_sub (by omega)]
      by_cases hlt : n < cD (aC a)
      · refine undo23 hlt hD (fun y => μ1.1 38 0 (16 * n + y)) 16 (x := 0) rfl (fun y _ _ => rfl) (hL _ _ ?_)
        have F2 : Fr pN μ1 (wI (aI μ1 37 0 0 16 (fun y => μ1.1 38 0 (16 * n + y))) 7 0 21 (nI n)) := (Fr.rf.aI (fun _ => rfl)).wI rfl
        have F2' := F2.faB pN_9
        refine ⟨_, hA1, hC1.fa hA1 F2' (L1_C (by decide)), hM1.rest9 F2' ⟨⟨F2.it (decide_eq_false (by omega)) hS3.1.1, F2.it (decide_eq_false (by omega)) hS3.1.2.1, fun h hh => ⟨F2.it (decide_eq_false (by omega)) (hS3.1.2.2 h hh).1, F2.it (decide_eq_false (by omega)) (hS3.1.2.2 h hh).2⟩⟩, wI_s _ _ _ _ _, fun t ht => F2.it (decide_eq_false (by omega)) (hS3.2.2.1 t ht), ?_, fun i hi => ?_⟩⟩
        · refine (hS3.2.2.2.2 n hlt).lt b1 fun j hj => ?_
          rw [wI_k _ _ (by decide), aI_in (by omega) (by omega)]
        · rw [wI_k _ _ (by decide), aI_k (by decide)]
          exact hS3.2.2.2.2 i (by have : i < n := hi; omega)
      · have en : n = cD (aC a) := by omega
        refine b_Mo_undo_23 _ _ _ (iF (by decide) (iT ?_ (hL _ _ ?_)))
        · rw [en, Nat.sub_self]
          decide
        · have F2 : Fr pN μ1 (wI μ1 7 0 21 (nI n)) := Fr.rf.wI rfl
          have F2' := F2.faB pN_9
          refine ⟨_, hA1, hC1.fa hA1 F2' (L1_C (by decide)), hM1.rest9 F2' ⟨⟨F2.it (decide_eq_false (by omega)) hS3.1.1, F2.it (decide_eq_false (by omega)) hS3.1.2.1, fun h hh => ⟨F2.it (decide_eq_false (by omega)) (hS3.1.2.2 h hh).1, F2.it (decide_eq_false (by omega)) (hS3.1.2.2 h hh).2⟩⟩, wI_s _ _ _ _ _, fun t ht => F2.it (decide_eq_false (by omega)) (hS3.2.2.1 t ht), ?_, fun i hi => ?_⟩⟩
          · rw [wI_k _ _ (by decide)]
            show VM (hn (aH a)) (sat (aH a) (cd (aC a)) n) (μ1.1 37 0)
            rw [en]
            exact hS3.2.2.2.1
          · rw [wI_k _ _ (by decide)]
            exact hS3.2.2.2.2 i (by have : i < n := hi; omega)
    · have hj : j < n := hj
      exact ⟨F1.it (decide_eq_false (by omega)) (hS.2.1.2.2 j (by omega)).1, F1.it (decide_eq_false (by omega)) (hS.2.1.2.2 j (by omega)).2.1, F1.it (decide_eq_false (by omega)) (hS.2.1.2.2 j (by omega)).2.2⟩
  · have hm : CS G m_Mo_undo [vr 7 0, vi x1] μ (RI fun v2 μ2 => L (-1) v2 μ2) := by
      refine c_Mo_undo _ ?_
      rw [hS2.2.1]
      exact in_le (by omega) (fun r hr e => absurd ⟨r, by omega, e⟩ h1) fun _ => iT rfl (hL _ _ ok)
    refine c_Cs_undo _ ?_
    rw [hS.2.1.1]
    rcases rg_le (n := cD (aC a)) (by omega) h1 with z | z
    · exact iT z hm
    · exact iF z.1 (iF z.2 hm)
/-! the reference's loops -/
theorem keep40 {k : Nat} (hk : k < 3) (g : Nat → Int32) : ∀ (d : Nat) {x : Nat} {μ : Mm}, 8 = x + d → (∀ y, x ≤ y → y < 8 → μ.1 34 0 y = g (8 * k + y)) → SS G m_Mo_keep 71 [vr 7 0, vi (nI k), vi 0] [] (aI μ 41 0 (8 * k + x) d g) (RI K) → SS G m_Mo_keep 40 [vr 7 0, vi (nI k), vi (nI x)] [] μ (RI K)
  | 0, x, μ, e, hg, hV => by
    rw [aI_0] at hV
    exact b_Mo_keep_40 _ _ (iT (nI_le (a := 8) (by omega) (by omega)) hV)
  | d + 1, x, μ, e, hg, hV => by
    refine b_Mo_keep_40 _ _ (iF (nI_ge (b := 8) (by omega) (by omega)) ?_)
    rw [show (8 : Int32) * nI k = nI (8 * k) from nI_mul 8 k, nI_add, nI_1, nI_tn (by omega), nI_tn (by omega)]
    refine ⟨in_nI (by omega) (by decide), in_nI (by omega) (by decide), keep40 hk g d (by omega) (fun y h1 h2 => by rw [wI_k _ _ (by decide)]; exact hg y (by omega) h2) ?_⟩
    rw [show 8 * k + (x + 1) = 8 * k + x + 1 by omega, aI_step _ _ _ _ _ g _ (hg x (by omega) (by omega))]
    exact hV
theorem keep71 {k : Nat} (hk : k < 3) (g : Nat → Int32) : ∀ (d : Nat) {x : Nat} {μ : Mm}, 16 = x + d → (∀ y, x ≤ y → y < 16 → μ.1 37 0 y = g (16 * k + y)) → SS G m_Mo_keep 102 [vr 7 0, vi (nI k), vi 0] [] (aI μ 42 0 (16 * k + x) d g) (RI K) → SS G m_Mo_keep 71 [vr 7 0, vi (nI k), vi (nI x)] [] μ (RI K)
  | 0, x, μ, e, hg, hV => by
    rw [aI_0] at hV
    exact b_Mo_keep_71 _ _ (iT (nI_le (a := 16) (by omega) (by omega)) hV)
  | d + 1, x, μ, e, hg, hV => by
    refine b_Mo_keep_71 _ _ (iF (nI_ge (b := 16) (by omega) (by omega)) ?_)
    rw [show (16 : Int32) * nI k = nI (16 * k) from nI_mul 16 k, nI_add, nI_1, nI_tn (by omega), nI_tn (by omega)]
    refine ⟨in_nI (by omega) (by decide), in_nI (by omega) (by decide), keep71 hk g d (by omega) (fun y h1 h2 => by rw [wI_k _ _ (by decide)]; exact hg y (by omega) h2) ?_⟩
    rw [show 16 * k + (x + 1) = 16 * k + x + 1 by omega, aI_step _ _ _ _ _ g _ (hg x (by omega) (by omega))]
    exact hV
theorem keep102 {k D : Nat} (hk : k < 3) (hD : D ≤ 60) (g : Nat → Int32) : ∀ (d : Nat) {x : Nat} {μ : Mm}, 16 * D = x + d → μ.1 7 0 21 = nI D → (∀ y, x ≤ y → y < 16 * D → μ.1 38 0 y = g (960 * k + y)) → K (nI D) (aI μ 43 0 (960 * k + x) d g) → SS G m_Mo_keep 102 [vr 7 0, vi (nI k), vi (nI x)] [] μ (RI K)
  | 0, x, μ, e, h7, hg, hV => by
    rw [aI_0] at hV
    refine b_Mo_keep_102 _ _ ?_
    rw [h7, show (16 : Int32) * nI D = nI (16 * D) from nI_mul 16 D]
    exact iLeT (by omega) (by omega) hV
  | d + 1, x, μ, e, h7, hg, hV => by
    refine b_Mo_keep_102 _ _ ?_
    rw [h7, show (16 : Int32) * nI D = nI (16 * D) from nI_mul 16 D, show (960 : Int32) * nI k = nI (960 * k) from nI_mul 960 k, nI_add, nI_1, nI_tn (by omega), nI_tn (by omega)]
    refine iLeF (by omega) (by omega) ⟨in_nI (by omega) (by decide), in_nI (by omega) (by decide), keep102 hk hD g d (by omega) (by rw [wI_k _ _ (by decide)]; exact h7) (fun y h1 h2 => by rw [wI_k _ _ (by decide)]; exact hg y (by omega) h2) ?_⟩
    rw [show 960 * k + (x + 1) = 960 * k + x + 1 by omega, aI_step _ _ _ _ _ g _ (hg x (by omega) (by omega))]
    exact hV
theorem on38 {k : Nat} (hk : k < 3) (g : Nat → Int32) : ∀ (d : Nat) {x : Nat} {μ : Mm}, 8 = x + d → (∀ y, x ≤ y → y < 8 → μ.1 41 0 (8 * k + y) = g y) → SS G m_Mo_on 69 [vr 7 0, vi (nI k), vi 0] [] (aI μ 34 0 x d g) (RI K) → SS G m_Mo_on 38 [vr 7 0, vi (nI k), vi (nI x)] [] μ (RI K)
  | 0, x, μ, e, hg, hV => by
    rw [aI_0] at hV
    exact b_Mo_on_38 _ _ (iT (nI_le (a := 8) (by omega) (by omega)) hV)
  | d + 1, x, μ, e, hg, hV => by
    refine b_Mo_on_38 _ _ (iF (nI_ge (b := 8) (by omega) (by omega)) ?_)
    rw [show (8 : Int32) * nI k = nI (8 * k) from nI_mul 8 k, nI_add, nI_1, nI_tn (by omega), nI_tn (by omega)]
    refine ⟨in_nI (by omega) (by decide), in_nI (by omega) (by decide), on38 hk g d (by omega) (fun y h1 h2 => by rw [wI_k _ _ (by decide)]; exact hg y (by omega) h2) ?_⟩
    rw [aI_step _ _ _ _ _ g _ (hg x (by omega) (by omega))]
    exact hV
theorem on69 {k : Nat} (hk : k < 3) (g : Nat → Int32) : ∀ (d : Nat) {x : Nat} {μ : Mm}, 16 = x + d → (∀ y, x ≤ y → y < 16 → μ.1 42 0 (16 * k + y) = g y) → SS G m_Mo_on 100 [vr 7 0, vi (nI k), vi 0] [] (aI μ 37 0 x d g) (RI K) → SS G m_Mo_on 69 [vr 7 0, vi (nI k), vi (nI x)] [] μ (RI K)
  | 0, x, μ, e, hg, hV => by
    rw [aI_0] at hV
    exact b_Mo_on_69 _ _ (iT (nI_le (a := 16) (by omega) (by omega)) hV)
  | d + 1, x, μ, e, hg, hV => by
    refine b_Mo_on_69 _ _ (iF (nI_ge (b := 16) (by omega) (by omega)) ?_)
    rw [show (16 : Int32) * nI k = nI (16 * k) from nI_mul 16 k, nI_add, nI_1, nI_tn (by omega), nI_tn (by omega)]
    refine ⟨in_nI (by omega) (by decide), in_nI (by omega) (by decide), on69 hk g d (by omega) (fun y h1 h2 => by rw [wI_k _ _ (by decide)]; exact hg y (by omega) h2) ?_⟩
    rw [aI_step _ _ _ _ _ g _ (hg x (by omega) (by omega))]
    exact hV
theorem on100 {k D : Nat} (hk : k < 3) (hD : D ≤ 60) (g : Nat → Int32) : ∀ (d : Nat) {x : Nat} {μ : Mm}, 16 * D = x + d → μ.1 7 0 21 = nI D → (∀ y, x ≤ y → y < 16 * D → μ.1 43 0 (960 * k + y) = g y) → K (nI D) (aI μ 38 0 x d g) → SS G m_Mo_on 100 [vr 7 0, vi (nI k), vi (nI x)] [] μ (RI K)
  | 0, x, μ, e, h7, hg, hV => by
    rw [aI_0] at hV
    refine b_Mo_on_100 _ _ ?_
    rw [h7, show (16 : Int32) * nI D = nI (16 * D) from nI_mul 16 D]
    exact iLeT (by omega) (by omega) hV
  | d + 1, x, μ, e, h7, hg, hV => by
    refine b_Mo_on_100 _ _ ?_
    rw [h7, show (16 : Int32) * nI D = nI (16 * D) from nI_mul 16 D, show (960 : Int32) * nI k = nI (960 * k) from nI_mul 960 k, nI_add, nI_1, nI_tn (by omega), nI_tn (by omega)]
    refine iLeF (by omega) (by omega) ⟨in_nI (by omega) (by decide), in_nI (by omega) (by decide), on100 hk hD g d (by omega) (by rw [wI_k _ _ (by decide)]; exact h7) (fun y h1 h2 => by rw [wI_k _ _ (by decide)]; exact hg y (by omega) h2) ?_⟩
    rw [aI_step _ _ _ _ _ g _ (hg x (by omega) (by omega))]
    exact hV
theorem empty_0 {H : Hs} {c : Sc} (hC : Cs H c μ) (hH : HI H) (h1 : hn H = 0 → K 1 μ) (h0 : hn H ≠ 0 → K 0 μ) : CS G m_St_isEmpty [vr 4 0] μ (RI K) := by
  have b1 := hH.1
  refine c_St_isEmpty _ ?_
  rw [hC.1.1]
  exact iEq (b := 0) (by omega) (by decide) (fun q => ⟨z01, h1 q⟩) fun q => ⟨z00, h0 q⟩
theorem two_keep (x1 : Int32) : Two G m_Cs_keep m_Mo_keep [vr 6 0, vi x1] [vr 7 0, vi x1] := by
  intro μ L ⟨a, hA, hC, hM⟩ hL
  have b1 := hA.2.2.1.1
  have b2 := hA.2.2.1.2.1
  have ok : Ok G μ := ⟨a, hA, hC, hM⟩
  have hS := hC.2.2.2.1
  have hS2 := hM.2.2.2.1
  have hH := hA.2.2.1
  have hc := hA.2.2.2.1
  have hD := hc.1
  by_cases h1 : rg x1 3
  · obtain ⟨k, hk, rfl⟩ := h1
    refine c_Cs_keep _ (noKept_T hk (i0 (empty_0 hS hH (fun q => i1 ?_) fun q => i0 ⟨in_nI hk (by decide), ?_⟩)))
    · refine c_Mo_keep _ (in_T (n := 3) (by decide) hk (i1 ?_))
      rw [hS2.1.1, q]
      exact iT rfl (hL _ _ ok)
    · rw [nI_tn (by omega), Nat.add_comm 1 k]
      refine take_s hH hc (by omega) hS.1 hS.2.1 fun μ1 hSh hSd hDy F1 => ?_
      have F1' : Fa (L1 4) μ μ1 := F1.faB (pT_4 hk)
      have hM1 := hM.fa F1' (L1_M (by decide))
      have hS1 := hS.fa hH F1' rfl
      have hS3 := hM1.2.2.2.1
      have hA1 : AI (aT a, aR a, aX a, aH a, aC a, uf (aK a) k (some (aC a))) := by
        refine ⟨hA.1, hA.2.1, hH, hc, fun k' c' hk' e => ?_⟩
        have e : uf (aK a) k (some (aC a)) k' = some c' := e
        by_cases y : k' = k
        · subst y
          rw [uf_s] at e
          cases e
          exact ⟨hc, by show 1 ≤ hn (aH a); omega⟩
        · rw [uf_n y] at e
          exact hA.2.2.2.2 k' c' hk' e
      have hC1 : RC (aT a, aR a, aX a, aH a, aC a, uf (aK a) k (some (aC a))) μ1 := by
        refine ⟨hC.1.fa F1' rfl, hC.2.1.fa F1' rfl, hC.2.2.1.fa F1' rfl, hS1, fun k' hk' => ?_⟩
        show Ck1 (aH a) (uf (aK a) k (some (aC a)) k') k' μ1
        by_cases y : k' = k
        · subst y
          rw [uf_s]
          exact ⟨hSh, hSd⟩
        · rw [uf_n y]
          have h := hC.2.2.2.2 k' hk'
          unfold Ck1 at h ⊢
          revert h
          cases aK a k' with
          | none =>
            intro h
            exact F1.it (decide_eq_false (by omega)) h
          | some c' =>
            intro h
            obtain ⟨⟨g1, g2, g3⟩, g4, g5, g6⟩ := h
            exact ⟨⟨F1.it (decide_eq_false (by omega)) g1, F1.it (decide_eq_false (by omega)) g2, fun h hh => ⟨F1.it (decide_eq_false (by omega)) (g3 h hh).1, F1.it (decide_eq_false (by omega)) (g3 h hh).2.1, F1.it (decide_eq_false (by omega)) (g3 h hh).2.2⟩⟩, F1.it (decide_eq_false (by omega)) g4, fun t ht => F1.it (decide_eq_false (by omega)) (g5 t ht), fun j hj => ⟨F1.it (decide_eq_false (by omega)) (g6 j hj).1, F1.it (decide_eq_false (by omega)) (g6 j hj).2.1, F1.it (decide_eq_false (by omega)) (g6 j hj).2.2⟩⟩
      rw [hS1.2.1.1]
      refine c_Mo_keep _ (in_T (n := 3) (by decide) hk (i1 ?_))
      rw [hS3.1.1]
      refine iF (nI_ne0 (by omega) (by omega)) ⟨in_nI hk (by decide), in_nI hk (by decide), ?_⟩
      rw [nI_tn (by omega), wI_k (k' := 7) _ _ (by decide), hS3.2.1, show (1 : Int32) &&& 1 = 1 from rfl]
      refine keep40 hk (fun y => μ1.1 34 0 (y - 8 * k)) 8 (x := 0) rfl (fun y _ _ => ?_) ?_
      · rw [wI_k _ _ (by decide), wI_k _ _ (by decide), show 8 * k + y - 8 * k = y by omega]
      refine keep71 hk (fun y => μ1.1 37 0 (y - 16 * k)) 16 (x := 0) rfl (fun y _ _ => ?_) ?_
      · rw [aI_k (by decide), wI_k _ _ (by decide), wI_k _ _ (by decide), show 16 * k + y - 16 * k = y by omega]
      refine keep102 hk hD (fun y => μ1.1 38 0 (y - 960 * k)) (16 * cD (aC a)) (x := 0) (by omega) ?_ (fun y _ _ => ?_) (hL _ _ ?_)
      · rw [aI_k (by decide), aI_k (by decide), wI_k _ _ (by decide), wI_k _ _ (by decide)]
        exact hS3.2.1
      · rw [aI_k (by decide), aI_k (by decide), wI_k _ _ (by decide), wI_k _ _ (by decide), show 960 * k + y - 960 * k = y by omega]
      have F2 : Fa (L1 10) μ1 (aI (aI (aI (wI (wI μ1 39 0 k 1) 40 0 k (nI (cD (aC a)))) 41 0 (8 * k + 0) 8 (fun y => μ1.1 34 0 (y - 8 * k))) 42 0 (16 * k + 0) 16 (fun y => μ1.1 37 0 (y - 16 * k))) 43 0 (960 * k + 0) (16 * cD (aC a)) (fun y => μ1.1 38 0 (y - 960 * k))) := ((((Fa.rf.wI rfl).wI rfl).aI (fun _ => rfl)).aI (fun _ => rfl)).aI (fun _ => rfl)
      refine ⟨_, hA1, hC1.fa hA1 F2 (L1_C (by decide)), hM1.1.fa F2 rfl, hM1.2.1.fa F2 rfl, hM1.2.2.1.fa F2 rfl, hS3.fa F2 rfl, fun k' hk' => ?_⟩
      show Mk1 (aH a) (uf (aK a) k (some (aC a)) k') k' _
      by_cases y : k' = k
      · subst y
        rw [uf_s]
        refine ⟨?_, ?_, fun t ht => ?_, ?_, fun i hi => ?_⟩
        · rw [aI_k (by decide), aI_k (by decide), aI_k (by decide), wI_k _ _ (by decide), wI_s]
        · rw [aI_k (by decide), aI_k (by decide), aI_k (by decide), wI_s]
        · rw [aI_k (by decide), aI_k (by decide), aI_in (by omega) (by omega), show 8 * k' + t - 8 * k' = t by omega]
          exact hS3.2.2.1 t ht
        · refine hS3.2.2.2.1.lt b1 fun j hj => ?_
          rw [aI_k (by decide), aI_in (by omega) (by omega), show 16 * k' + j - 16 * k' = j by omega]
        · refine (hS3.2.2.2.2 i hi).lt b1 fun j hj => ?_
          have hi : i < cD (aC a) := hi
          rw [aI_in (by omega) (by omega), show 960 * k' + 16 * i + j - 960 * k' = 16 * i + j by omega]
      · rw [uf_n y]
        have h := hM1.2.2.2.2 k' hk'
        have hki := hA.2.2.2.2 k'
        unfold Mk1 at h ⊢
        revert h hki
        cases aK a k' with
        | none =>
          intro h hki
          show (aI _ _ _ _ _ _).1 39 0 k' = 0
          rw [aI_k (by decide), aI_k (by decide), aI_k (by decide), wI_k _ _ (by decide), wI_n _ _ _ _ y]
          exact h
        | some c' =>
          intro h hki
          have hc' := (hki c' hk' rfl).1.1
          obtain ⟨g1, g2, g3, g4, g5⟩ := h
          refine ⟨?_, ?_, fun t ht => ?_, ?_, fun i hi => ?_⟩
          · rw [aI_k (by decide), aI_k (by decide), aI_k (by decide), wI_k _ _ (by decide), wI_n _ _ _ _ y]
            exact g1
          · rw [aI_k (by decide), aI_k (by decide), aI_k (by decide), wI_n _ _ _ _ y, wI_k _ _ (by decide)]
            exact g2
          · rw [aI_k (by decide), aI_k (by decide), aI_out (by omega), wI_k _ _ (by decide), wI_k _ _ (by decide)]
            exact g3 t ht
          · refine g4.lt b1 fun j hj => ?_
            rw [aI_k (by decide), aI_out (by omega), aI_k (by decide), wI_k _ _ (by decide), wI_k _ _ (by decide)]
          · refine (g5 i hi).lt b1 fun j hj => ?_
            rw [aI_out (by omega), aI_k (by decide), aI_k (by decide), wI_k _ _ (by decide), wI_k _ _ (by decide)]
  · exact c_Cs_keep _ (noKept_F h1 (i1 (c_Mo_keep _ (in_F (n := 3) (by decide) h1 (i0 (hL _ _ ok))))))
theorem two_on (x1 : Int32) : Two G m_Cs_on m_Mo_on [vr 6 0, vi x1] [vr 7 0, vi x1] := by
  intro μ L ⟨a, hA, hC, hM⟩ hL
  have b1 := hA.2.2.1.1
  have b2 := hA.2.2.1.2.1
  have ok : Ok G μ := ⟨a, hA, hC, hM⟩
  have hH := hA.2.2.1
  by_cases h1 : rg x1 3
  · obtain ⟨k, hk, rfl⟩ := h1
    refine c_Cs_on _ (noKept_T hk (i0 ⟨in_nI hk (by decide), ?_⟩))
    rw [nI_tn (by omega), Nat.add_comm 1 k]
    refine empty_K hk hC.2.2.2.2 hH hA.2.2.2.2 (fun q => i1 (both_meet (f := 1) (by decide) hA hC hM hL fun μ1 K1 hM1 h => ?_)) fun c q => i0 ⟨in_nI hk (by decide), ?_⟩
    · refine c_Mo_on _ (in_T (n := 3) (by decide) hk (i1 ⟨in_nI hk (by decide), ?_⟩))
      have g := hM1.2.2.2.2 k hk
      unfold Mk1 at g
      rw [q] at g
      rw [nI_tn (by omega)]
      exact iT g h
    · obtain ⟨hc, hn1⟩ := hA.2.2.2.2 k c hk q
      have hD := hc.1
      have gC := hC.2.2.2.2 k hk
      unfold Ck1 at gC
      rw [q] at gC
      refine take_s hH hc (by omega) gC.1 gC.2 fun μ1 hSh hSd hDy F1 => ?_
      have F1' : Fa (L1 3) μ μ1 := F1.faB pT_3
      have hM1 := hM.fa F1' (L1_M (by decide))
      have hA1 := AI_upC hA hc
      have hC1 : RC (upC a c) μ1 := hC.rest3 hA F1' ⟨hSh, hSd, hDy⟩
      rw [hSd.1]
      refine c_Mo_on _ (in_T (n := 3) (by decide) hk (i1 ⟨in_nI hk (by decide), ?_⟩))
      have g := hM1.2.2.2.2 k hk
      unfold Mk1 at g
      rw [q] at g
      obtain ⟨g1, g2, g3, g4, g5⟩ := g
      have hS3 := hM1.2.2.2.1
      rw [nI_tn (by omega), g1, g2]
      refine iF (by decide) ⟨in_nI hk (by decide), ?_⟩
      refine on38 hk (fun y => μ1.1 41 0 (8 * k + y)) 8 (x := 0) rfl (fun y _ _ => ?_) ?_
      · rw [wI_k _ _ (by decide)]
      refine on69 hk (fun y => μ1.1 42 0 (16 * k + y)) 16 (x := 0) rfl (fun y _ _ => ?_) ?_
      · rw [aI_k (by decide), wI_k _ _ (by decide)]
      refine on100 hk hD (fun y => μ1.1 43 0 (960 * k + y)) (16 * cD c) (x := 0) (by omega) ?_ (fun y _ _ => ?_) (hL _ _ ?_)
      · rw [aI_k (by decide), aI_k (by decide), wI_s]
      · rw [aI_k (by decide), aI_k (by decide), wI_k _ _ (by decide)]
      have F2 : Fa (L1 9) μ1 (aI (aI (aI (wI μ1 7 0 21 (nI (cD c))) 34 0 0 8 (fun y => μ1.1 41 0 (8 * k + y))) 37 0 0 16 (fun y => μ1.1 42 0 (16 * k + y))) 38 0 0 (16 * cD c) (fun y => μ1.1 43 0 (960 * k + y))) := (((Fa.rf.wI rfl).aI (fun _ => rfl)).aI (fun _ => rfl)).aI (fun _ => rfl)
      refine ⟨_, hA1, hC1.fa hA1 F2 (L1_C (by decide)), hM1.rest9 F2 ⟨⟨?_, ?_, fun h hh => ?_⟩, ?_, fun t ht => ?_, ?_, fun i hi => ?_⟩⟩
      · rw [aI_k (by decide), aI_k (by decide), aI_k (by decide), wI_n _ _ _ _ (by decide)]
        exact hS3.1.1
      · rw [aI_k (by decide), aI_k (by decide), aI_k (by decide), wI_n _ _ _ _ (by decide)]
        exact hS3.1.2.1
      · rw [aI_k (by decide), aI_k (by decide), aI_k (by decide), wI_k _ _ (by decide), aI_k (by decide), aI_k (by decide), aI_k (by decide), wI_k _ _ (by decide)]
        exact hS3.1.2.2 h hh
      · rw [aI_k (by decide), aI_k (by decide), aI_k (by decide), wI_s]
      · rw [aI_k (by decide), aI_k (by decide), aI_in (by omega) (by omega)]
        exact g3 t ht
      · refine g4.lt b1 fun j hj => ?_
        rw [aI_k (by decide), aI_in (by omega) (by omega)]
      · refine (g5 i hi).lt b1 fun j hj => ?_
        rw [aI_in (by omega) (by omega), show 960 * k + (16 * i + j) = 960 * k + 16 * i + j by omega]
  · exact c_Cs_on _ (noKept_F h1 (i1 (c_Mo_on _ (in_F (n := 3) (by decide) h1 (i0 (hL _ _ ok))))))
end P43
