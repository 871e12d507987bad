/-! least -/
theorem pqE {P : Nat → Nat} {L : Nat → Option Nat} {F x d v : Nat} (hd : d ≤ x) (hv : v < F) : P d + eN F (L (x - d)) = v ↔ pq P L x d = some v := by
  rw [show pq P L x d = oA (P d) (L (x - d)) from if_pos hd]
  cases L (x - d) with
  | none => exact ⟨fun q => by (have q : P d + F = v := q); omega, fun q => by cases q⟩
  | some w => exact ⟨fun q => congrArg some q, fun q => Option.some.inj q⟩
section P53
variable {G : Ge} {μ : Mm} {K : Int32 → Mm → Prop} {V : Mm → Prop} {H : Hs} {c : Sc} {h : Nat}
theorem ft3 {q k w t T x v D : Nat} {L : Nat → Option Nat} (e0 : μ.1 0 q 0 = nI k) (e1 : μ.1 0 q 1 = nI w) (hk5 : k ≤ 5) (hw9 : w ≤ 9) (ht : t < 8) (h1 : ∀ y, y < 47 → μ.1 16 (t + 1) y = nI (eN 1000000 (L y))) (h0 : μ.1 16 t x = nI v) (hv : v ≤ 1296) (hL : ∀ y, oB 1296 (L y)) (hT : T ≤ 9) (hx : x < 47) (d1 : D ≤ T) (d2 : D ≤ x) (d3 : pq (hu k w) L x D = some v) (d4 : ∀ e, e < D → pq (hu k w) L x e ≠ some v) (hK : K (nI D) μ) : ∀ (m : Nat) {d : Nat}, D = d + m → SS G m_Pl_firstTonight 3 [vr 1 0, vr 0 q, vi (nI t), vi (nI x), vi (nI T), vi (nI d)] [] μ (RI K)
  | m, d, e => by
    have u1 := hu9 (k := k) (w := w) (d := d) (by omega)
    have u2 := eN_le (F := 1000000) (oB_mono (hL (x - d)) (by decide))
    refine b_Pl_firstTonight_3 _ _ _ _ _ (iLtF (by omega) (by omega) (iLtF (by omega) (by omega) (painOf_s e0 e1 hk5 hw9 (by omega) ?_)))
    rw [nI_1 t, nI_sub (a := x) (b := d) (by omega), nI_tn (n := t) (by omega), nI_tn (n := t + 1) (by omega), nI_tn (n := x) (by omega), nI_tn (n := x - d) (by omega), h1 (x - d) (by omega), h0, nI_add, nI_1 d]
    refine ⟨in_nI (by omega) (by decide), in_nI (by omega) (by decide), in_nI (by omega) (by decide), in_nI (by omega) (by decide), iEq (by omega) (by omega) (fun z => ?_) fun z => ?_⟩
    · have z2 := (pqE (P := hu k w) (by omega) (by omega)).mp z
      by_cases y : d = D
      · rw [y]
        exact hK
      · exact absurd z2 (d4 d (by omega))
    · cases m with
      | zero =>
        rw [show d = D by omega] at z
        exact absurd ((pqE (P := hu k w) (by omega) (by omega)).mpr d3) z
      | succ m => exact ft3 e0 e1 hk5 hw9 ht h1 h0 hv hL hT hx d1 d2 d3 d4 hK m (by omega)
theorem wp9 {r : Nat} (hH : HI H) (hc : CI H c) (hh : h < hn H) : ∀ (m : Nat) {t x v : Nat} {μ : Mm}, hN H = t + m → vt (cs H c) ≤ t → x < 47 → lq H c h m x = some v → Cs H c μ → On H c h μ → (∀ μ1, (∀ j, j < m → μ1.1 18 r (t - vt (cs H c) + j) = nI (pln (hP H h) (hT H c h) m x j)) → FK 18 (fun i s => i = r ∧ t - vt (cs H c) ≤ s ∧ s < hN H - vt (cs H c)) μ μ1 → V μ1) → SS G m_Pl_writePlan 9 [vr 1 0, vr 4 0, vi (nI h), un, vr 18 r, vi (nI x), vi (nI t), un] [] μ (RV V)
  | 0, t, x, v, μ, e, hv, hx, hl, hC, hO, hK => by
    have b2 := hH.2.1
    refine b_Pl_writePlan_9 _ _ _ _ _ ?_
    rw [hC.1.2.1]
    exact iLeT (by omega) (by omega) (hK μ (fun j hj => absurd hj (by omega)) FK.rf)
  | m + 1, t, x, v, μ, e, hv, hx, hl, hC, hO, hK => by
    have b1 := hH.1
    have b2 := hH.2.1
    have hkw := hH.2.2.2 h hh
    obtain ⟨d1, d2, d3, d4, w, d5⟩ := fd_ok (P := hP H h) (top := hT H c h) (r := m) (x := x) hl
    have eT : hT H c h m = tp H c (cs H c) h t := by
      show tp H c (cs H c) h (hN H - (m + 1)) = _
      rw [show hN H - (m + 1) = t by omega]
    rw [eT] at d1
    have hT9 : tp H c (cs H c) h t ≤ 9 := Nat.le_trans tp_le (hc.2.1 t (by omega))
    have hO1 : ∀ y, y < 47 → μ.1 16 (t + 1) y = nI (eN 1000000 (lq H c h m y)) := fun y hy => by
      rw [hO (t + 1) (by omega) (by omega) y hy, show hN H - (t + 1) = m by omega]
    have hO0 : μ.1 16 t x = nI v := by
      rw [hO t hv (by omega) x hx, show hN H - t = m + 1 by omega, hl]
      rfl
    have hv2 : v ≤ 1296 := lq_B hH hc (by omega) v hl
    have e2 := hC.2.2.1
    refine b_Pl_writePlan_9 _ _ _ _ _ ?_
    rw [hC.1.2.1, nI_tn (n := h) (by omega), nI_1]
    refine iLeF (by omega) (by omega) ⟨in_nI (by omega) (by decide), topIn_s hC hH hc hh (by omega) (c_Pl_firstTonight _ _ _ _ ?_)⟩
    obtain ⟨D, hD⟩ : ∃ D, D = fd (hP H h) (hT H c h) m x := ⟨_, rfl⟩
    rw [← hD] at d1 d2 d3 d4 d5
    refine ft3 (d := 0) (D := D) (hC.1.2.2 h hh).1 (hC.1.2.2 h hh).2.1 hkw.1 hkw.2.1 (by omega) hO1 hO0 hv2 (fun y => lq_B hH hc (by omega)) hT9 hx d1 d2 d3 d4 ?_ D (by omega)
    rw [e2, nI_sub (a := t) (b := vt (cs H c)) hv, nI_sub (a := x) (b := D) d2, nI_tn (by omega)]
    have F1 : FK 18 (fun i s => i = r ∧ t - vt (cs H c) ≤ s ∧ s < hN H - vt (cs H c)) μ (wI μ 18 r (t - vt (cs H c)) (nI D)) := FK.rf.wI ⟨rfl, Nat.le_refl _, by omega⟩
    refine ⟨in_nI (by omega) (by decide), wp9 hH hc hh m (t := t + 1) (x := x - D) (by omega) (by omega) (by omega) d5 (hC.fa hH (F1.fa (L := L1 1) (fun _ _ => rfl)) rfl) (fun t' a b y hy => ?_) fun μ1 k1 k2 => hK μ1 (fun j hj => ?_) (F1.tr (k2.mono fun i s z => ⟨z.1, by omega, z.2.2⟩))⟩
    · rw [F1.k _ _ (by decide)]
      exact hO t' a b y hy
    · cases j with
      | zero =>
        rw [k2.i _ _ (by omega), Nat.add_zero, wI_s]
        show nI D = nI (fd (hP H h) (hT H c h) m x)
        rw [hD]
      | succ j =>
        rw [show t - vt (cs H c) + (j + 1) = t + 1 - vt (cs H c) + j by omega, k1 j (by omega)]
        show _ = nI (pln (hP H h) (hT H c h) m (x - fd (hP H h) (hT H c h) m x) j)
        rw [hD]
theorem lst82 {t x v D : Nat} {r : Int32} {x4 : Int32} {y5 : Nat} {L : Nat → Option Nat} (hH : HI H) (hh : h < hn H) (hM : Ms H c μ) (ht : t < 8) (hy : y5 < 8) (h1 : ∀ y, y < 101 → μ.1 44 0 (101 * (t + 1) + y) = nI (eN 100000000 (L y))) (h0 : μ.1 44 0 (101 * t + x) = nI v) (hv : v ≤ 1296) (hL : ∀ y, oB 1296 (L y)) (hx : x < 101) (d1 : D ≤ 9) (d2 : D ≤ x) (d3 : pq (hP H h) L x D = some v) (d4 : ∀ e, e < D → pq (hP H h) L x e ≠ some v) (hK : SS G m_Mo_least 70 [vr 7 0, vi (nI h), vi r, vi (nI (x - D)), vi x4, vi (nI (y5 + 1)), vi (nI (t + 1)), un] [] (wI μ 46 0 y5 (nI D)) (RI K)) : ∀ (m : Nat) {d : Nat}, D = d + m → SS G m_Mo_least 82 [vr 7 0, vi (nI h), vi r, vi (nI x), vi x4, vi (nI y5), vi (nI t), vi (nI d)] [] μ (RI K)
  | m, d, e => by
    have b1 := hH.1
    have hkw := hH.2.2.2 h hh
    have u1 := hu9 (k := hk H h) (w := hw H h) (d := d) (by omega)
    have u2 := eN_le (F := 100000000) (oB_mono (hL (x - d)) (by decide))
    refine b_Mo_least_82 _ _ _ _ _ _ _ (hurtOf_s (by omega) (hM.1.2.2 h hh).1 (hM.1.2.2 h hh).2 hkw.1 hkw.2.1 (by omega) ?_)
    rw [nI_1 t, m101 (t + 1), m101 t, nI_add, nI_add, nI_sub (a := 101 * (t + 1) + x) (b := d) (by omega), nI_sub (a := x) (b := d) (by omega), nI_tn (n := 101 * (t + 1) + x - d) (by omega), nI_tn (n := 101 * t + x) (by omega), nI_tn (n := y5) (by omega), show 101 * (t + 1) + x - d = 101 * (t + 1) + (x - d) by omega, h1 (x - d) (by omega), h0, nI_add, nI_1 d, nI_1 y5]
    refine ⟨in_nI (by omega) (by decide), in_nI (by omega) (by decide), iEq (by omega) (by omega) (fun z => ⟨in_nI hy (by decide), ?_⟩) fun z => ?_⟩
    · have z2 := (pqE (P := hP H h) (by omega) (by omega)).mp z
      by_cases y : d = D
      · rw [y]
        exact hK
      · exact absurd z2 (d4 d (by omega))
    · cases m with
      | zero =>
        rw [show d = D by omega] at z
        exact absurd ((pqE (P := hP H h) (by omega) (by omega)).mpr d3) z
      | succ m => exact lst82 hH hh hM ht hy h1 h0 hv hL hx d1 d2 d3 d4 hK m (by omega)
theorem lst70 {r : Int32} {x4 : Int32} (hH : HI H) (hc : CI H c) (hh : h < hn H) : ∀ (m : Nat) {t x v : Nat} {μ : Mm}, hN H = t + m → vt (cs H c) ≤ t → x < 47 → lq H c h m x = some v → Ms H c μ → OnM H c h μ → (∀ μ1, (∀ j, j < m → μ1.1 46 0 (t - vt (cs H c) + j) = nI (pln (hP H h) (hT H c h) m x j)) → FK 46 (fun _ s => t - vt (cs H c) ≤ s) μ μ1 → CS G m_Mo_layRow [vr 7 0, vi r, vr 46 0, vi (nI (hN H - vt (cs H c)))] μ1 (RV fun μ2 => K x4 μ2)) → SS G m_Mo_least 70 [vr 7 0, vi (nI h), vi r, vi (nI x), vi x4, vi (nI (t - vt (cs H c))), vi (nI t), un] [] μ (RI K)
  | 0, t, x, v, μ, e, hv, hx, hl, hM, hO, hK => by
    have b2 := hH.2.1
    refine b_Mo_least_70 _ _ _ _ _ _ ?_
    rw [hM.1.2.1]
    refine iLeT (by omega) (by omega) ?_
    rw [show t = hN H by omega] at hK ⊢
    exact hK μ (fun j hj => absurd hj (by omega)) FK.rf
  | m + 1, t, x, v, μ, e, hv, hx, hl, hM, hO, hK => by
    have b2 := hH.2.1
    obtain ⟨d1, d2, d3, d4, w, d5⟩ := fd_ok (P := hP H h) (top := hT H c h) (r := m) (x := x) hl
    have hT9 := hT_le (h := h) (r := m) hc (by omega)
    have hO1 : ∀ y, y < 101 → μ.1 44 0 (101 * (t + 1) + y) = nI (eN 100000000 (lq H c h m y)) := fun y hy => by
      rw [hO (t + 1) (by omega) (by omega) y hy, show hN H - (t + 1) = m by omega]
    have hO0 : μ.1 44 0 (101 * t + x) = nI v := by
      rw [hO t hv (by omega) x (by omega), show hN H - t = m + 1 by omega, hl]
      rfl
    have hv2 : v ≤ 1296 := lq_B hH hc (by omega) v hl
    obtain ⟨D, hD⟩ : ∃ D, D = fd (hP H h) (hT H c h) m x := ⟨_, rfl⟩
    rw [← hD] at d1 d2 d3 d4 d5
    refine b_Mo_least_70 _ _ _ _ _ _ ?_
    rw [hM.1.2.1]
    have F1 : FK 46 (fun _ s => t - vt (cs H c) ≤ s) μ (wI μ 46 0 (t - vt (cs H c)) (nI D)) := FK.rf.wI (Nat.le_refl _)
    refine iLeF (by omega) (by omega) (lst82 (d := 0) (D := D) hH hh hM (by omega) (by omega) hO1 hO0 hv2 (fun y => lq_B hH hc (by omega)) (by omega) (Nat.le_trans d1 hT9) d2 d3 d4 ?_ D (by omega))
    have ih := lst70 (r := r) (x4 := x4) hH hc hh m (t := t + 1) (x := x - D) (μ := wI μ 46 0 (t - vt (cs H c)) (nI D)) (by omega) (by omega) (by omega) d5 (hM.fa (F1.fa (L := L1 11) (fun _ _ => rfl)) rfl) (fun t' a b y hy => ?_) fun μ1 k1 k2 => hK μ1 (fun j hj => ?_) (F1.tr (k2.mono fun i s z => by omega))
    · rw [show t + 1 - vt (cs H c) = t - vt (cs H c) + 1 by omega] at ih
      exact ih
    · rw [F1.k _ _ (by decide)]
      exact hO t' a b y hy
    · cases j with
      | zero =>
        rw [k2.i _ _ (by omega), Nat.add_zero, wI_s]
        show nI D = nI (fd (hP H h) (hT H c h) m x)
        rw [hD]
      | succ j =>
        rw [show t - vt (cs H c) + (j + 1) = t + 1 - vt (cs H c) + j by omega, k1 j (by omega)]
        show _ = nI (pln (hP H h) (hT H c h) m (x - fd (hP H h) (hT H c h) m x) j)
        rw [hD]
theorem lyR46 {r n : Nat} {f : Nat → Int32} (hr : r < 6) (hn8 : n ≤ 8) : ∀ (d : Nat) {j : Nat} {μ : Mm}, 40 = j + d → (∀ i, i < n → μ.1 46 0 i = f i) → V (aI μ 28 0 (40 * r + j) d (fun s => if s - 40 * r < n then f (s - 40 * r) else 0)) → SS G m_Mo_layRow 10 [vr 7 0, vi (nI r), vr 46 0, vi (nI n), vi (nI j)] [] μ (RV V)
  | 0, j, μ, e, hf, h => by
    rw [aI_0] at h
    exact b_Mo_layRow_46_10 _ _ _ (iT (nI_le (a := 40) (by omega) (by omega)) h)
  | d + 1, j, μ, e, hf, h => by
    refine b_Mo_layRow_46_10 _ _ _ (iF (nI_ge (b := 40) (by omega) (by omega)) ?_)
    rw [show (40 : Int32) * nI r = nI (40 * r) from nI_mul 40 r, nI_add, nI_1, nI_tn (n := 40 * r + j) (by omega), nI_tn (n := j) (by omega)]
    refine iLe (by omega) (by omega) (fun z => ⟨in_nI (by omega) (by decide), lyR46 (f := f) hr hn8 d (by omega) (fun i hi => ?_) ?_⟩) fun z => ⟨in_nI (by omega) (by decide), in_nI (by omega) (by decide), lyR46 (f := f) hr hn8 d (by omega) (fun i hi => ?_) ?_⟩
    · rw [wI_k _ _ (by decide)]
      exact hf i hi
    · rw [show 40 * r + (j + 1) = 40 * r + j + 1 by omega, aI_step _ _ _ _ _ (fun s => if s - 40 * r < n then f (s - 40 * r) else 0) 0 (if_neg (by omega)).symm]
      exact h
    · rw [wI_k _ _ (by decide)]
      exact hf i hi
    · rw [show 40 * r + (j + 1) = 40 * r + j + 1 by omega, aI_step _ _ _ _ _ (fun s => if s - 40 * r < n then f (s - 40 * r) else 0) (μ.1 46 0 j) (by
        show _ = if 40 * r + j - 40 * r < n then f (40 * r + j - 40 * r) else 0
        rw [show 40 * r + j - 40 * r = j by omega, if_pos z]
        exact hf j z)]
      exact h
theorem lyR48 {r n : Nat} {f : Nat → Int32} (hr : r < 6) (hn8 : n ≤ 5) : ∀ (d : Nat) {j : Nat} {μ : Mm}, 40 = j + d → (∀ i, i < n → μ.1 48 0 i = f i) → V (aI μ 28 0 (40 * r + j) d (fun s => if s - 40 * r < n then f (s - 40 * r) else 0)) → SS G m_Mo_layRow 10 [vr 7 0, vi (nI r), vr 48 0, vi (nI n), vi (nI j)] [] μ (RV V)
  | 0, j, μ, e, hf, h => by
    rw [aI_0] at h
    exact b_Mo_layRow_48_10 _ _ _ (iT (nI_le (a := 40) (by omega) (by omega)) h)
  | d + 1, j, μ, e, hf, h => by
    refine b_Mo_layRow_48_10 _ _ _ (iF (nI_ge (b := 40) (by omega) (by omega)) ?_)
    rw [show (40 : Int32) * nI r = nI (40 * r) from nI_mul 40 r, nI_add, nI_1, nI_tn (n := 40 * r + j) (by omega), nI_tn (n := j) (by omega)]
    refine iLe (by omega) (by omega) (fun z => ⟨in_nI (by omega) (by decide), lyR48 (f := f) hr hn8 d (by omega) (fun i hi => ?_) ?_⟩) fun z => ⟨in_nI (by omega) (by decide), in_nI (by omega) (by decide), lyR48 (f := f) hr hn8 d (by omega) (fun i hi => ?_) ?_⟩
    · rw [wI_k _ _ (by decide)]
      exact hf i hi
    · rw [show 40 * r + (j + 1) = 40 * r + j + 1 by omega, aI_step _ _ _ _ _ (fun s => if s - 40 * r < n then f (s - 40 * r) else 0) 0 (if_neg (by omega)).symm]
      exact h
    · rw [wI_k _ _ (by decide)]
      exact hf i hi
    · rw [show 40 * r + (j + 1) = 40 * r + j + 1 by omega, aI_step _ _ _ _ _ (fun s => if s - 40 * r < n then f (s - 40 * r) else 0) (μ.1 48 0 j) (by
        show _ = if 40 * r + j - 40 * r < n then f (40 * r + j - 40 * r) else 0
        rw [show 40 * r + j - 40 * r = j by omega, if_pos z]
        exact hf j z)]
      exact h
/-- a row laid anew, the reference's -/
theorem lyM {a : Ab} {r n : Nat} {f : Nat → Int32} (hA : AI a) (hM : RM a μ) (hr : r < 6) (hn : n ≤ 40) : RM (aT a, (uf (aR a).1 r (n + 1), uf (aR a).2 r f), a.2.2) (aI (wI μ 27 0 r (nI n)) 28 0 (40 * r + 0) 40 (fun s => if s - 40 * r < n then f (s - 40 * r) else 0)) ∧ Fa (L1 7) μ (aI (wI μ 27 0 r (nI n)) 28 0 (40 * r + 0) 40 (fun s => if s - 40 * r < n then f (s - 40 * r) else 0)) := by
  have F2 : Fa (L1 7) μ (aI (wI μ 27 0 r (nI n)) 28 0 (40 * r + 0) 40 (fun s => if s - 40 * r < n then f (s - 40 * r) else 0)) := (Fa.rf.wI rfl).aI (fun _ => rfl)
  refine ⟨hM.rest1 F2 (Mr_up hM.2.1 hA.1 ?_ (fun j hj => ?_) (fun i hi => ?_) (fun x hx => ?_)), F2⟩
  · rw [aI_k (by decide), wI_s]
    rfl
  · rw [aI_in (by omega) (by omega)]
    show (if 40 * r + j - 40 * r < n then f (40 * r + j - 40 * r) else 0) = f j
    rw [show 40 * r + j - 40 * r = j by omega, if_pos (by omega)]
  · rw [aI_k (by decide), wI_n _ _ _ _ hi]
  · rw [aI_out (by omega), wI_k _ _ (by decide)]
theorem two_least (x1 x2 : Int32) : Two G m_Cs_least m_Mo_least [vr 6 0, vi x1, vi x2] [vr 7 0, vi x1, vi x2] := by
  intro μ L ⟨a, hA, hC, hM⟩ hL
  have hH := hA.2.2.1
  have hc := hA.2.2.2.1
  have b1 := hH.1
  have b2 := hH.2.1
  have ok : Ok G μ := ⟨a, hA, hC, hM⟩
  have hS := hC.2.2.2.1
  have hS2 := hM.2.2.2.1
  have hvt := (SI_now hH hc).1
  by_cases h1 : rg x1 (hn (aH a))
  · obtain ⟨h, hh, rfl⟩ := h1
    by_cases h2 : rg x2 6
    · obtain ⟨r, hr, rfl⟩ := h2
      have ho := (SI_now hH hc).owes hh
      refine c_Cs_least _ _ (noHouse_T hS.1.1 (by omega) hh (i0 (noRow_T hr (i0 (weigh_s hH hc hh hS fun μ1 k1 k2 k3 => ?_)))))
      have F1 := k3.fa (L := L1 5) (fun _ _ => rfl)
      have hC1 := hC.fa hA F1 L1_5
      have hM1 := hM.fa F1 (L1_M (by decide))
      have hS1 := hC1.2.2.2.1
      rw [nI_tn (n := h) (by omega), nI_tn (n := r) (by omega), (hS1.2.2.2 h hh).1]
      refine ⟨in_nI (by omega) (by decide), painFor_s k2 (by omega) (by omega) ?_⟩
      have B := LL_B (h := h) hH hc (vo (cs (aH a) (aC a)) h)
      -- the reference's way
      have mo : ∀ (μ2 : Mm) (K1 : Int32 → Mm → Prop), Ms (aH a) (aC a) μ2 → (∀ μ3, Ms (aH a) (aC a) μ3 → OnM (aH a) (aC a) h μ3 → Fa (L1 11) μ2 μ3 → (if nI (eN 100000000 (own (aH a) (aC a) h)) = 100000000 then K1 (-9) μ3 else (vp_in 15 16 ∧ SS G m_Mo_least 70 [vr 7 0, vi (nI h), vi (nI r), vi (nI (vo (cs (aH a) (aC a)) h)), vi (nI (eN 100000000 (own (aH a) (aC a) h))), vi 0, vi (nI (vt (cs (aH a) (aC a)))), un] [] μ3 (RI K1)))) → CS G m_Mo_least [vr 7 0, vi (nI h), vi (nI r)] μ2 (RI K1) := by
        intro μ2 K1 hm hK
        refine c_Mo_least _ _ (isHouse_T hm.1.1 (by omega) hh (i1 (isRow_T hr (i1 (layPlans_s hH hc hh hm fun μ3 j1 j2 => ?_)))))
        have F := j2.fa (L := L1 11) (fun _ _ => rfl)
        have hm3 := hm.fa F rfl
        have hk := hK μ3 hm3 j1 F
        rw [show Int32.toNatClampNeg 15 = 15 from rfl, nI_tn (n := h) (by omega), hm3.2.2.2.1.1, (hm3.2.2.2.1.2 h hh).1, m101, nI_add, nI_tn (by omega), j1 _ (Nat.le_refl _) hvt _ (by omega)]
        exact ⟨in_nI (by omega) (by decide), in_nI (n := 15) (by decide) (by decide), in_nI (by omega) (by decide), hk⟩
      cases e2 : LL (aH a) (aC a) h (vo (cs (aH a) (aC a)) h) with
      | none =>
        refine iF (by decide) (mo μ1 _ hM1.2.2.2.1 fun μ3 hm hO F => ?_)
        rw [show own (aH a) (aC a) h = none from e2]
        exact iT rfl (hL _ _ ⟨a, hA, hC1.fa hA F (L1_C (by decide)), hM1.fa F L1_W⟩)
      | some v =>
        have hv := B v e2
        refine iT (lt6 hv) ⟨in_nI hr (by decide), ?_⟩
        rw [hS1.1.2.1, hS1.2.2.1, nI_sub hvt]
        refine begR (by omega) ⟨in_nI hr (by decide), c_Pl_writePlan _ _ _ _ ?_⟩
        have F2 : Fa (L1 1) μ1 (aI (wI μ1 3 r 1 (nI (hN (aH a) - vt (cs (aH a) (aC a))))) 18 r 0 (hN (aH a) - vt (cs (aH a) (aC a))) (fun _ => 0)) := (Fa.rf.wI rfl).aI (fun _ => rfl)
        have hM2 := hM1.fa F2 (L1_M (by decide))
        have e3 : ∀ i, i ≠ r → (aI (wI μ1 3 r 1 (nI (hN (aH a) - vt (cs (aH a) (aC a))))) 18 r 0 (hN (aH a) - vt (cs (aH a) (aC a))) (fun _ => 0)).1 3 i = μ1.1 3 i := fun i hi => by
          rw [aI_k (by decide), wI_i _ _ _ hi]
        have e18 : ∀ i, i ≠ r → (aI (wI μ1 3 r 1 (nI (hN (aH a) - vt (cs (aH a) (aC a))))) 18 r 0 (hN (aH a) - vt (cs (aH a) (aC a))) (fun _ => 0)).1 18 i = μ1.1 18 i := fun i hi => by
          rw [aI_i hi, wI_k _ _ (by decide)]
        have e31 : (aI (wI μ1 3 r 1 (nI (hN (aH a) - vt (cs (aH a) (aC a))))) 18 r 0 (hN (aH a) - vt (cs (aH a) (aC a))) (fun _ => 0)).1 3 r 1 = nI (hN (aH a) - vt (cs (aH a) (aC a))) := by
          rw [aI_k (by decide), wI_s]
        have e16 : ∀ i s, (aI (wI μ1 3 r 1 (nI (hN (aH a) - vt (cs (aH a) (aC a))))) 18 r 0 (hN (aH a) - vt (cs (aH a) (aC a))) (fun _ => 0)).1 16 i s = μ1.1 16 i s := fun i s => by
          rw [aI_k (by decide), wI_k _ _ (by decide)]
        generalize aI (wI μ1 3 r 1 (nI (hN (aH a) - vt (cs (aH a) (aC a))))) 18 r 0 (hN (aH a) - vt (cs (aH a) (aC a))) (fun _ => 0) = μ2 at F2 hM2 e3 e18 e31 e16 ⊢
        have hS3 := hS1.fa hH F2 rfl
        rw [hS3.2.2.1]
        refine wp9 (r := r) hH hc hh (hN (aH a) - vt (cs (aH a) (aC a))) (v := v) (by omega) (Nat.le_refl _) (by omega) e2 hS3 (fun t' p q y hy => by rw [e16]; exact k1 t' p q y hy) fun μ3 w1 w2 => ?_
        rw [Nat.sub_self] at w1 w2
        have F3 := w2.fa (L := L1 1) (fun _ _ => rfl)
        have hM3 := hM2.fa F3 (L1_M (by decide))
        obtain ⟨f, hf⟩ : ∃ f : Nat → Int32, f = fun j => nI (pln (hP (aH a) h) (hT (aH a) (aC a) h) (hN (aH a) - vt (cs (aH a) (aC a))) (vo (cs (aH a) (aC a)) h) j) := ⟨_, rfl⟩
        have hC3 : RC (aT a, (uf (aR a).1 r (hN (aH a) - vt (cs (aH a) (aC a)) + 1), uf (aR a).2 r f), a.2.2) μ3 := by
          refine hC1.rest1 hA (F2.tr F3) (Cr_up hC1.2.1 ?_ (fun j hj => ?_) (fun i hi => ?_) (fun i hi => ?_))
          · rw [w2.k _ _ (by decide), e31]
            rfl
          · have := w1 j (by omega)
            rw [Nat.zero_add] at this
            rw [this, hf]
          · rw [← e3 i hi]
            funext s
            exact w2.k _ _ (by decide)
          · rw [← e18 i hi]
            funext s
            exact w2.i _ _ (fun z => hi z.1)
        have hA1 : AI (aT a, (uf (aR a).1 r (hN (aH a) - vt (cs (aH a) (aC a)) + 1), uf (aR a).2 r f), a.2.2) := ⟨RI2_up hA.1 (by omega), hA.2⟩
        refine mo μ3 _ hM3.2.2.2.1 fun μ4 hm hO F4 => ?_
        rw [show own (aH a) (aC a) h = some v from e2]
        have hM4 := hM3.fa F4 L1_W
        have hC4 := hC3.fa hA1 F4 (L1_C (by decide))
        refine iF (ne8 hv) ⟨in_nI (n := 15) (by decide) (by decide), ?_⟩
        have go := lst70 (G := G) (r := nI r) (x4 := nI v) (K := fun v2 μ2 => L (nI v) v2 μ2) hH hc hh (hN (aH a) - vt (cs (aH a) (aC a))) (t := vt (cs (aH a) (aC a))) (v := v) (by omega) (Nat.le_refl _) (by omega) e2 hm hO fun μ5 q1 q2 => ?_
        · rw [Nat.sub_self] at go
          exact go
        · rw [Nat.sub_self] at q1 q2
          have F5 := q2.fa (L := L1 11) (fun _ _ => rfl)
          have hM5 := hM4.fa F5 L1_W
          have hC5 := hC4.fa hA1 F5 (L1_C (by decide))
          obtain ⟨m1, m2⟩ := lyM (f := f) (n := hN (aH a) - vt (cs (aH a) (aC a))) hA hM5 hr (by omega)
          refine c_Mo_layRow_46 _ _ ⟨in_nI hr (by decide), ?_⟩
          rw [nI_tn (n := r) (by omega)]
          refine lyR46 (f := f) hr (by omega) 40 (j := 0) rfl (fun i hi => ?_) (hL _ _ ⟨_, hA1, hC5.fa hA1 m2 (L1_C (by decide)), m1⟩)
          have := q1 i hi
          rw [Nat.zero_add] at this
          rw [wI_k _ _ (by decide), this, hf]
    · exact c_Cs_least _ _ (noHouse_T hS.1.1 (by omega) hh (i0 (noRow_F h2 (i1 (c_Mo_least _ _ (isHouse_T hS2.1.1 (by omega) hh (i1 (isRow_F h2 (i0 (hL _ _ ok))))))))))
  · exact c_Cs_least _ _ (noHouse_F hS.1.1 (by omega) h1 (i1 (c_Mo_least _ _ (isHouse_F hS2.1.1 (by omega) h1 (i0 (hL _ _ ok))))))
end P53
