/-! ice -/
def suf (s T : Nat) (u : Nat → Nat) : Nat → Int32
  | 0 => 0
  | h + 1 => if s ≤ T - u h then suf s T u h else suf s T u h ||| (1 <<< (nI h &&& 31))
def sure (s : Nat) (u : Nat → Nat) (n : Nat) : Int32 := if s ≤ sm u n then suf s (sm u n) u n else 0
abbrev cu (H : Hs) (c : Sc) (t : Nat) : Nat → Nat := fun h => cap (hk H h) (cc c t)
abbrev QW (w : Nat → Nat) (n g x : Nat) : Nat := up (fun j => w (n - 1 - j)) (n - g) dl0 x
theorem QW_s {w : Nat → Nat} {n g x : Nat} (h : g < n) : QW w n g x = Bx (w g) (QW w n (g + 1)) x := by
  show up (fun j => w (n - 1 - j)) (n - g) dl0 x = _
  rw [show n - g = (n - (g + 1)) + 1 by omega]
  show Bx (w (n - 1 - (n - (g + 1)))) (up (fun j => w (n - 1 - j)) (n - (g + 1)) dl0) x = _
  rw [show n - 1 - (n - (g + 1)) = g by omega]
section P61
variable {G : Ge} {μ : Mm} {K : Int32 → Mm → Prop} {V : Mm → Prop} {H : Hs} {c : Sc} {t s : Nat}
theorem cu_le (hc : CI H c) (ht : t < hN H) (h : Nat) : cu H c t h ≤ 9 := Nat.le_trans cap_le (hc.2.1 t ht)
theorem cu_sm (hH : HI H) (hc : CI H c) (ht : t < hN H) : sm (cu H c t) (hn H) ≤ 45 := by
  have b1 := hH.1
  have := sm_bd (f := cu H c t) (b := 9) (n := hn H) (fun j _ => cu_le hc ht j)
  omega
theorem su6 (hH : HI H) (hc : CI H c) (ht : t < hN H) (hs : s ≤ 45) (hC : Cs H c μ) (hK : K (suf s (sm (cu H c t) (hn H)) (cu H c t) (hn H)) μ) : ∀ (m h : Nat), hn H = h + m → SS G m_Cs_sureAt 6 [vr 6 0, vi (nI (cc c t)), vi (nI s), vi (nI (sm (cu H c t) (hn H))), vi (suf s (sm (cu H c t) (hn H)) (cu H c t) h), vi (nI h)] [] μ (RI K)
  | 0, h, e => by
    have b1 := hH.1
    refine b_Cs_sureAt_6 _ _ _ _ _ ?_
    rw [hC.1.1]
    refine iLeT (by omega) (by omega) ?_
    rw [show h = hn H by omega]
    exact hK
  | m + 1, h, e => by
    have b1 := hH.1
    have b3 := cu_sm hH hc ht
    have hl : cu H c t h ≤ sm (cu H c t) (hn H) := sm_le (f := cu H c t) (show h < hn H by omega)
    have hl : cap (hk H h) (cc c t) ≤ sm (cu H c t) (hn H) := hl
    have c9 := hc.2.1 t ht
    have ih := su6 hH hc ht hs hC hK m (h + 1) (by omega)
    have ih2 : SS G m_Cs_sureAt 6 [vr 6 0, vi (nI (cc c t)), vi (nI s), vi (nI (sm (cu H c t) (hn H))), vi (if s ≤ sm (cu H c t) (hn H) - cap (hk H h) (cc c t) then suf s (sm (cu H c t) (hn H)) (cu H c t) h else suf s (sm (cu H c t) (hn H)) (cu H c t) h ||| (1 <<< (nI h &&& 31))), vi (nI (h + 1))] [] μ (RI K) := ih
    refine b_Cs_sureAt_6 _ _ _ _ _ ?_
    rw [hC.1.1, nI_tn (n := h) (by omega), nI_1]
    refine iLeF (by omega) (by omega) ⟨in_nI (by omega) (by decide), canAt_s (hC.1.2.2 h (by omega)).1 (hH.2.2.2 h (by omega)).1 (by omega) ?_⟩
    rw [nI_sub hl]
    refine iLe (by omega) (by omega) (fun q => ?_) fun q => ?_
    · rw [if_pos q] at ih2
      exact ih2
    · rw [if_neg (by omega)] at ih2
      exact ih2
theorem ice32 (hH : HI H) (hc : CI H c) (ht : t < hN H) (hs : s ≤ 45) : ∀ (m : Nat) {h : Nat} {μ : Mm}, hn H = h + m → Cs H c μ → (∀ y, y < 73 → μ.2 24 0 y = lN (up (cu H c t) h dl0 y)) → (∀ μ1, Cs H c μ1 → Fa (L1 5) μ μ1 → CS G m_Cs_tell [vr 6 0, vl (lN (up (cu H c t) (hn H) dl0 s)), vl (lN 1)] (wI μ1 6 0 9 (sure s (cu H c t) (hn H))) (RI K)) → SS G m_Cs_ice 32 [vr 6 0, vi (nI t), vi (nI s), vi (nI (sm (cu H c t) h)), vi (nI h), un] [] μ (RI K)
  | 0, h, μ, e, hC, h0, hK => by
    have b1 := hH.1
    have b2 := hH.2.1
    have b3 := cu_sm hH hc ht
    have eh : h = hn H := by omega
    subst eh
    have hk := hK μ hC Fa.rf
    refine b_Cs_ice_32 _ _ _ _ ?_
    rw [hC.1.1, nI_tn (n := t) (by omega), nI_tn (n := s) (by omega), hC.2.1.2.1 t ht]
    refine iLeT (by omega) (by omega) (iLe (by omega) (by omega) (fun q => ⟨in_nI (by omega) (by decide), c_Cs_sureAt _ _ _ (su6 hH hc ht hs hC ⟨in_nI (by omega) (by decide), ?_⟩ (hn H) 0 (by omega))⟩) fun q => ⟨in_nI (by omega) (by decide), ?_⟩)
    · rw [show sure s (cu H c t) (hn H) = 0 from if_neg (by omega), ← h0 s (by omega)] at hk
      exact hk
    · rw [show sure s (cu H c t) (hn H) = suf s (sm (cu H c t) (hn H)) (cu H c t) (hn H) from if_pos q, ← h0 s (by omega)] at hk
      exact hk
  | m + 1, h, μ, e, hC, h0, hK => by
    have b1 := hH.1
    have b2 := hH.2.1
    have c9 := hc.2.1 t ht
    have hcap := cap_le (k := hk H h) (c := cc c t)
    have hk5 := (hH.2.2.2 h (by omega)).1
    have e0 := (hC.1.2.2 h (by omega)).1
    refine b_Cs_ice_32 _ _ _ _ ?_
    rw [hC.1.1, nI_tn (n := t) (by omega), nI_tn (n := h) (by omega), hC.2.1.2.1 t ht, nI_1]
    refine iLeF (by omega) (by omega) ⟨in_nI (by omega) (by decide), in_nI (by omega) (by decide), canAt_s e0 hk5 (by omega) ⟨in_nI (by omega) (by decide), spread_s hk5 (by omega) e0 h0 fun μ1 k1 F1 => ?_⟩⟩
    rw [nI_add]
    refine ice32 hH hc ht hs m (h := h + 1) (by omega) (hC.fa hH F1 rfl) (fun y hy => ?_) fun μ2 j1 F2 => hK μ2 j1 (F1.tr F2)
    rw [k1 y hy, Sx_Bx]
    rfl
/-! the reference's -/
theorem m46 (g : Nat) : (46 : Int32) * nI g = nI (46 * g) := nI_mul 46 g
theorem wy93 {g x M : Nat} {ι n0 s0 : Int32} {L : Nat → Nat} (hg : g < 5) (hx : x ≤ 45) (hM9 : M ≤ 9) (h1 : ∀ y, y ≤ 45 → μ.1 49 0 (46 * (g + 1) + y) = nI (L y)) (hK : SS G m_Mo_waysOf 80 [vr 7 0, vi n0, vi s0, vi ι, vi (nI g), vi (nI M), vi (nI (x + 1)), un, un] [] (wI μ 49 0 (46 * g + x) (nI (Bx M L x))) (RI K)) : ∀ (m : Nat) {d : Nat}, M + 1 = d + m → SS G m_Mo_waysOf 93 [vr 7 0, vi n0, vi s0, vi ι, vi (nI g), vi (nI M), vi (nI x), vi (nI (sm (fun e => if e ≤ x then L (x - e) else 0) d)), vi (nI d)] [] μ (RI K)
  | m, d, e => by
    refine b_Mo_waysOf_93 _ _ _ _ _ _ _ _ ?_
    rw [nI_1 x]
    refine iLt (by omega) (by omega) (fun q => c_Mo_wayAt _ _ ?_) fun q => iLt (by omega) (by omega) (fun q2 => c_Mo_wayAt _ _ ?_) fun q2 => c_Mo_wayAt _ _ ?_
    · rw [m46, nI_add, nI_tn (by omega), show d = M + 1 by omega]
      exact ⟨in_nI (by omega) (by decide), hK⟩
    · rw [m46, nI_add, nI_tn (by omega), ← sm_ext (f := fun e => if e ≤ x then L (x - e) else 0) (d := d) (n := M + 1) (by omega) (fun e a b => if_neg (by omega))]
      exact ⟨in_nI (by omega) (by decide), hK⟩
    · rw [nI_1 g, m46, nI_sub (a := x) (b := d) (by omega), nI_add, nI_tn (by omega), h1 (x - d) (by omega), nI_add, nI_1]
      refine ⟨in_nI (by omega) (by decide), ?_⟩
      cases m with
      | zero => omega
      | succ m =>
        have ih := wy93 hg hx hM9 h1 hK m (d := d + 1) (by omega)
        have ih2 : SS G m_Mo_waysOf 93 [vr 7 0, vi n0, vi s0, vi ι, vi (nI g), vi (nI M), vi (nI x), vi (nI (sm (fun e => if e ≤ x then L (x - e) else 0) d + if d ≤ x then L (x - d) else 0)), vi (nI (d + 1))] [] μ (RI K) := ih
        rw [if_pos q2] at ih2
        exact ih2
theorem wy80 {g M : Nat} {ι n0 s0 : Int32} {L : Nat → Nat} (hg : g < 5) (hM9 : M ≤ 9) : ∀ (m : Nat) {x : Nat} {μ : Mm}, 46 = x + m → (∀ y, y ≤ 45 → μ.1 49 0 (46 * (g + 1) + y) = nI (L y)) → (∀ y, y < x → μ.1 49 0 (46 * g + y) = nI (Bx M L y)) → (∀ μ1, (∀ y, y ≤ 45 → μ1.1 49 0 (46 * g + y) = nI (Bx M L y)) → FK 49 (fun _ z => 46 * g ≤ z ∧ z < 46 * g + 46) μ μ1 → SS G m_Mo_waysOf 48 [vr 7 0, vi n0, vi s0, vi ι, vi (nI g - 1), un, un, un, un] [] μ1 (RI K)) → SS G m_Mo_waysOf 80 [vr 7 0, vi n0, vi s0, vi ι, vi (nI g), vi (nI M), vi (nI x), un, un] [] μ (RI K)
  | 0, x, μ, e, h1, h0, hK => by
    refine b_Mo_waysOf_80 _ _ _ _ _ _ (iT (nI_lt (a := 45) (by omega) (by omega)) ?_)
    rw [nI_a1]
    exact hK μ (fun y hy => h0 y (by omega)) FK.rf
  | m + 1, x, μ, e, h1, h0, hK => by
    have F1 : FK 49 (fun _ z => 46 * g ≤ z ∧ z < 46 * g + 46) μ (wI μ 49 0 (46 * g + x) (nI (Bx M L x))) := FK.rf.wI ⟨by omega, by omega⟩
    refine b_Mo_waysOf_80 _ _ _ _ _ _ (iF (nI_nlt (a := 45) (by omega) (by decide)) (wy93 (d := 0) hg (by omega) hM9 h1 (wy80 hg hM9 m (by omega) (fun y hy => ?_) (fun y hy => ?_) fun μ1 k1 k2 => hK μ1 k1 (F1.tr k2)) (M + 1) (by omega)))
    · rw [F1.i _ _ (by omega)]
      exact h1 y hy
    · by_cases e2 : y = x
      · subst e2
        exact wI_s _ _ _ _ _
      · rw [wI_n _ _ _ _ (by omega)]
        exact h0 y (by omega)
theorem wy48 {ι : Int32} {w : Nat → Nat} (hH : HI H) (hc : CI H c) (ht : t < hN H) (hs : s ≤ 45) (hw : ∀ g, g < hn H → (nI g = ι → w g = 0) ∧ (¬ nI g = ι → w g = cu H c t g)) : ∀ (g : Nat) {μ : Mm}, g ≤ hn H → Ms H c μ → (∀ g', g ≤ g' → g' ≤ hn H → ∀ y, y ≤ 45 → μ.1 49 0 (46 * g' + y) = nI (QW w (hn H) g' y)) → (∀ μ1, Fa (L1 11) μ μ1 → K (nI (up w (hn H) dl0 s)) μ1) → SS G m_Mo_waysOf 48 [vr 7 0, vi (nI t), vi (nI s), vi ι, vi (nI g - 1), un, un, un, un] [] μ (RI K)
  | 0, μ, hg, hM, hP, hK => by
    refine b_Mo_waysOf_48 _ _ _ _ (iT (by rw [neg_sub1]; decide) (c_Mo_wayAt _ _ ?_))
    have := hP 0 (Nat.le_refl _) (Nat.zero_le _) s hs
    rw [show QW w (hn H) 0 s = up w (hn H) dl0 s from congrFun (up_rev w dl0 (hn H)) s] at this
    rw [show (46 : Int32) * 0 = nI (46 * 0) from rfl, nI_add, nI_tn (by omega), this]
    exact ⟨in_nI (by omega) (by decide), hK μ Fa.rf⟩
  | g + 1, μ, hg, hM, hP, hK => by
    have b1 := hH.1
    have b2 := hH.2.1
    have c9 := hc.2.1 t ht
    have hcap := cap_le (k := hk H g) (c := cc c t)
    obtain ⟨w0, w1⟩ := hw g (by omega)
    rw [nI_pred]
    have go : w g ≤ 9 → SS G m_Mo_waysOf 80 [vr 7 0, vi (nI t), vi (nI s), vi ι, vi (nI g), vi (nI (w g)), vi (nI 0), un, un] [] μ (RI K) := by
      intro w9
      refine wy80 (x := 0) (L := QW w (hn H) (g + 1)) (by omega) w9 46 rfl (hP (g + 1) (Nat.le_refl _) hg) (fun y hy => absurd hy (by omega)) fun μ1 k1 k2 => ?_
      have F1 := k2.fa (L := L1 11) (fun _ _ => rfl)
      refine wy48 hH hc ht hs hw g (by omega) (hM.fa F1 rfl) (fun g' ha hb y hy => ?_) fun μ2 F2 => hK μ2 (F1.tr F2)
      by_cases e : g' = g
      · subst e
        rw [k1 y hy, QW_s (by omega)]
      · rw [k2.i _ _ (by omega)]
        exact hP g' (by omega) hb y hy
    refine b_Mo_waysOf_48 _ _ _ _ (iNl (by omega) (iB (fun q => ?_) fun q => ⟨in_nI (by omega) (by decide), ?_⟩))
    · rw [w0 q] at go
      exact go (by decide)
    · rw [nI_tn (by omega), hM.2.2.1 t ht]
      rw [w1 q] at go
      exact canIn_s (by omega) (hM.1.2.2 g (by omega)).1 (hH.2.2.2 g (by omega)).1 (by omega) (go (cu_le hc ht g))
theorem wy3 {ι : Int32} {w : Nat → Nat} (hH : HI H) (hc : CI H c) (ht : t < hN H) (hs : s ≤ 45) (hw : ∀ g, g < hn H → (nI g = ι → w g = 0) ∧ (¬ nI g = ι → w g = cu H c t g)) (hK : ∀ μ1, Fa (L1 11) μ μ1 → K (nI (up w (hn H) dl0 s)) μ1) : ∀ (m : Nat) {x : Nat} {μ2 : Mm}, 46 = x + m → Ms H c μ2 → Fa (L1 11) μ μ2 → (∀ y, y < x → μ2.1 49 0 (46 * hn H + y) = nI (dl0 y)) → SS G m_Mo_waysOf 3 [vr 7 0, vi (nI t), vi (nI s), vi ι, vi (nI x), un, un, un, un] [] μ2 (RI K)
  | 0, x, μ2, e, hM, F, h0 => by
    refine b_Mo_waysOf_3 _ _ _ _ (iT (nI_lt (a := 45) (by omega) (by omega)) ?_)
    rw [hM.1.1]
    refine wy48 hH hc ht hs hw (hn H) (Nat.le_refl _) hM (fun g ha hb y hy => ?_) fun μ3 F3 => hK μ3 (F.tr F3)
    rw [show g = hn H by omega]
    show _ = nI (up _ (hn H - hn H) dl0 y)
    rw [Nat.sub_self]
    exact h0 y (by omega)
  | m + 1, x, μ2, e, hM, F, h0 => by
    have b1 := hH.1
    have go : ∀ v : Int32, v = nI (dl0 x) → SS G m_Mo_waysOf 3 [vr 7 0, vi (nI t), vi (nI s), vi ι, vi (nI (x + 1)), un, un, un, un] [] (wI μ2 49 0 (46 * hn H + x) v) (RI K) := by
      intro v hv
      have F1 : FK 49 (fun _ _ => True) μ2 (wI μ2 49 0 (46 * hn H + x) v) := FK.rf.wI trivial
      have F2 := F1.fa (L := L1 11) (fun _ _ => rfl)
      refine wy3 hH hc ht hs hw hK m (by omega) (hM.fa F2 rfl) (F.tr F2) (fun y hy => ?_)
      by_cases e2 : y = x
      · subst e2
        rw [wI_s]
        exact hv
      · rw [wI_n _ _ _ _ (by omega)]
        exact h0 y (by omega)
    refine b_Mo_waysOf_3 _ _ _ _ (iF (nI_nlt (a := 45) (by omega) (by decide)) (c_Mo_wayAt _ _ ?_))
    rw [hM.1.1, m46, nI_add, nI_1, nI_tn (by omega)]
    refine iEq (b := 0) (by omega) (by decide) (fun q => ⟨in_nI (by omega) (by decide), go _ ?_⟩) fun q => ⟨in_nI (by omega) (by decide), go _ ?_⟩
    · rw [show dl0 x = 1 from if_pos q]
      rfl
    · rw [show dl0 x = 0 from if_neg q]
      rfl
theorem waysOf_s {ι : Int32} {w : Nat → Nat} (hH : HI H) (hc : CI H c) (ht : t < hN H) (hs : s ≤ 45) (hw : ∀ g, g < hn H → (nI g = ι → w g = 0) ∧ (¬ nI g = ι → w g = cu H c t g)) (hM : Ms H c μ) (hK : ∀ μ1, Fa (L1 11) μ μ1 → K (nI (up w (hn H) dl0 s)) μ1) : CS G m_Mo_waysOf [vr 7 0, vi (nI t), vi (nI s), vi ι] μ (RI K) := c_Mo_waysOf _ _ _ (wy3 (x := 0) hH hc ht hs hw hK 46 rfl hM Fa.rf (fun y hy => absurd hy (by omega)))
theorem ic35z (hH : HI H) (hK : CS G m_Mo_fraction [vr 7 0, vl (Int32.toInt64 0), vl 1] μ (RI fun _ μ1 => CS G m_Mo_tells [vr 7 0, vi 0, vi 1] μ1 (RI K))) (hM : Ms H c μ) : ∀ (m h : Nat), hn H = h + m → SS G m_Mo_ice 35 [vr 7 0, vi (nI t), vi (nI s), vi 0, vi 0, vi (nI h)] [] μ (RI K)
  | 0, h, e => by
    have b1 := hH.1
    refine b_Mo_ice_35 _ _ _ _ _ ?_
    rw [hM.1.1]
    exact iLeT (by omega) (by omega) hK
  | m + 1, h, e => by
    have b1 := hH.1
    refine b_Mo_ice_35 _ _ _ _ _ ?_
    rw [hM.1.1, Int32.or_zero, nI_1]
    exact iLeF (by omega) (by omega) (iT (by decide) (ic35z hH hK hM m (h + 1) (by omega)))
theorem ic35p {A : Nat} (hH : HI H) (hc : CI H c) (ht : t < hN H) (hs : s ≤ 45) (hA0 : 0 < A) (hA : A ≤ 100000) (hK : ∀ μ1, Fa (L1 11) μ μ1 → CS G m_Mo_fraction [vr 7 0, vl (Int32.toInt64 (nI A)), vl 1] μ1 (RI fun _ μ2 => CS G m_Mo_tells [vr 7 0, vi (suf s (sm (cu H c t) (hn H)) (cu H c t) (hn H)), vi 1] μ2 (RI K))) : ∀ (m : Nat) {h : Nat} {μ2 : Mm}, hn H = h + m → Ms H c μ2 → Fa (L1 11) μ μ2 → SS G m_Mo_ice 35 [vr 7 0, vi (nI t), vi (nI s), vi (nI A), vi (suf s (sm (cu H c t) (hn H)) (cu H c t) h), vi (nI h)] [] μ2 (RI K)
  | 0, h, μ2, e, hM, F => by
    have b1 := hH.1
    refine b_Mo_ice_35 _ _ _ _ _ ?_
    rw [hM.1.1]
    refine iLeT (by omega) (by omega) ?_
    rw [show h = hn H by omega]
    exact hK μ2 F
  | m + 1, h, μ2, e, hM, F => by
    have b1 := hH.1
    have hh : h < hn H := by omega
    have b3 := cu_sm hH hc ht
    have hsum := sm_uf (f := cu H c t) (v := 0) hh
    have ub : up (uf (cu H c t) h 0) (hn H) dl0 s ≤ 10 ^ hn H := up_le _ _ fun j _ => by
      by_cases z : j = h
      · subst z
        rw [uf_s]
        exact Nat.zero_le _
      · rw [uf_n z]
        exact cu_le hc ht j
    have up10 : 10 ^ hn H ≤ 10 ^ 5 := Nat.pow_le_pow_right (by decide) b1
    have hpos := up_pos (u := uf (cu H c t) h 0) (hn H) s
    refine b_Mo_ice_35 _ _ _ _ _ ?_
    rw [hM.1.1, Int32.or_zero, nI_1]
    refine iLeF (by omega) (by omega) (iF (nI_nle hA0 (by omega)) (waysOf_s (w := uf (cu H c t) h 0) hH hc ht hs (fun g hg => ⟨fun q => ?_, fun q => ?_⟩) hM fun μ3 F3 => ?_))
    · rw [(nI_eq (by omega) (by omega)).mp q]
      exact uf_s _ _ _
    · exact uf_n fun y => q (by rw [y])
    · have ih := ic35p hH hc ht hs hA0 hA hK m (h := h + 1) (by omega) (hM.fa F3 rfl) (F.tr F3)
      have ih2 : SS G m_Mo_ice 35 [vr 7 0, vi (nI t), vi (nI s), vi (nI A), vi (if s ≤ sm (cu H c t) (hn H) - cu H c t h then suf s (sm (cu H c t) (hn H)) (cu H c t) h else suf s (sm (cu H c t) (hn H)) (cu H c t) h ||| (1 <<< (nI h &&& 31))), vi (nI (h + 1))] [] μ3 (RI K) := ih
      refine iEq (b := 0) (by omega) (by decide) (fun z => ?_) fun z => ?_
      · rw [if_neg (fun q => by have := hpos.mpr (by omega); omega)] at ih2
        exact ih2
      · rw [if_pos (by have := hpos.mp (by omega); omega)] at ih2
        exact ih2
theorem two_ice (x1 x2 : Int32) : Two G m_Cs_ice m_Mo_ice [vr 6 0, vi x1, vi x2] [vr 7 0, vi x1, vi x2] := by
  intro μ L ⟨a, hA, hC, hM⟩ hL
  have hH := hA.2.2.1
  have hc := hA.2.2.2.1
  have b1 := hH.1
  have b2 := hH.2.1
  have ok : Ok G μ := ⟨a, hA, hC, hM⟩
  have hS := hC.2.2.2.1
  have hS2 := hM.2.2.2.1
  by_cases h1 : rg x1 (hN (aH a))
  · obtain ⟨t, ht, rfl⟩ := h1
    by_cases h2 : rg x2 46
    · obtain ⟨s, hs, rfl⟩ := h2
      refine c_Cs_ice _ _ (noNight_T hS.1.2.1 (by omega) ht (i0 (iNl (by omega) (iLeT (b := 45) (by decide) (by omega) (begin_s fun μ1 g1 F1 => ?_)))))
      obtain ⟨u, hu⟩ : ∃ u, u = cu (aH a) (aC a) t := ⟨_, rfl⟩
      obtain ⟨A, hAd⟩ : ∃ A, A = up u (hn (aH a)) dl0 s := ⟨_, rfl⟩
      have ub : A ≤ 10 ^ hn (aH a) := by
        rw [hAd, hu]
        exact up_le _ _ fun j _ => cu_le hc ht j
      have up10 : 10 ^ hn (aH a) ≤ 10 ^ 5 := Nat.pow_le_pow_right (by decide) b1
      have hpos := up_pos (u := u) (hn (aH a)) s
      rw [← hAd] at hpos
      refine ice32 (h := 0) hH hc ht (by omega) (hn (aH a)) (by omega) (hS.fa hH F1 rfl) g1 fun μ2 hS3 F2 => ?_
      rw [← hu, ← hAd]
      have T2 := F1.tr F2
      have hC2 := hC.fa hA T2 L1_5
      have hM2 := hM.fa T2 (L1_M (by decide))
      have F3 : Fa (L1 0) μ2 (wI μ2 6 0 9 (sure s u (hn (aH a)))) := Fa.rf.wI rfl
      have hM3 := hM2.fa F3 (L1_M (by decide))
      have hC3 := hC2.rest0 hA F3 (tellC (v := sure s u (hn (aH a))) hC2.1)
      generalize wI μ2 6 0 9 (sure s u (hn (aH a))) = μ3 at F3 hM3 hC3 ⊢
      refine tell_s hC3.1 (by omega) (by decide) (by decide) fun μ4 hT F4 => ?_
      have hM4 := hM3.fa F4 (L1_M (by decide))
      have hC4 := RC.rest0 (a := (tellI (sure s u (hn (aH a))) (aT a), a.2)) hC3 hA F4 hT
      have fin : ∀ (μ5 : Mm) (v : Int32), v = sure s u (hn (aH a)) → RM a μ5 → Fa (L1 11) μ4 μ5 → CS G m_Mo_fraction [vr 7 0, vl (Int32.toInt64 (nI A)), vl 1] μ5 (RI fun _ μ6 => CS G m_Mo_tells [vr 7 0, vi v, vi 1] μ6 (RI fun v2 μ7 => L 1 v2 μ7)) := by
        intro μ5 v hv hM5 F5
        subst hv
        rw [nI_l (by omega)]
        refine fraction_s (U := A) (W := 1) hM5.1 (by omega) (by decide) (by decide) fun μ6 hT6 F6 => ?_
        have hM6 := hM5.rest0 F6 hT6
        refine tells_s hM6.1 fun μ7 hT7 F7 => hL _ _ ⟨(tellI (sure s u (hn (aH a))) (tellL (lN A / lN (Nat.gcd A 1)) (lN 1 / lN (Nat.gcd A 1)) (aT a)), a.2), hA, ?_, RM.rest0 (a := (tellL (lN A / lN (Nat.gcd A 1)) (lN 1 / lN (Nat.gcd A 1)) (aT a), a.2)) hM6 F7 hT7⟩
        have e1 := RC.fa (a := (tellL (lN A / lN (Nat.gcd A 1)) (lN 1 / lN (Nat.gcd A 1)) (tellI (sure s u (hn (aH a))) (aT a)), a.2)) hC4 hA F5 (L1_C (by decide))
        have e2 := e1.fa hA F6 (L1_C (by decide))
        exact e2.fa hA F7 (L1_C (by decide))
      refine c_Mo_ice _ _ (isNight_T hM4.2.2.2.1.1.2.1 (by omega) ht (i1 (in_T (n := 46) (by decide) hs (i1 (waysOf_s (w := u) hH hc ht (by omega) (fun g hg => ⟨fun q => absurd q (nI_m9 (by omega)), fun _ => by rw [hu]⟩) hM4.2.2.2.1 fun μ5 F5 => ?_)))))
      rw [← hAd]
      have hM5 := hM4.fa F5 L1_W
      by_cases z : A = 0
      · have e0 : sure s u (hn (aH a)) = 0 := if_neg fun q => by
          have := hpos.mpr q
          omega
        have := fin μ5 0 e0.symm hM5 F5
        rw [z] at this ⊢
        exact ic35z hH this hM5.2.2.2.1 (hn (aH a)) 0 (by omega)
      · have e0 : sure s u (hn (aH a)) = suf s (sm u (hn (aH a))) u (hn (aH a)) := if_pos (hpos.mp (by omega))
        rw [hu] at e0
        refine ic35p (h := 0) (μ := μ5) hH hc ht (by omega) (by omega) (by omega) (fun μ6 F6 => fin μ6 _ (by rw [hu]; exact e0.symm) (hM5.fa F6 L1_W) (F5.tr F6)) (hn (aH a)) (by omega) hM5.2.2.2.1 Fa.rf
    · refine c_Cs_ice _ _ (noNight_T hS.1.2.1 (by omega) ht (i0 ?_))
      have hm : CS G m_Mo_ice [vr 7 0, vi (nI t), vi x2] μ (RI fun v2 μ2 => L (-1) v2 μ2) := c_Mo_ice _ _ (isNight_T hS2.1.2.1 (by omega) ht (i1 (in_F (n := 46) (by decide) h2 (i0 (hL _ _ ok)))))
      rcases rg_le (n := 45) (by decide) h2 with z | z
      · exact iT z hm
      · exact iF z.1 (iF z.2 hm)
  · exact c_Cs_ice _ _ (noNight_F hS.1.2.1 (by omega) h1 (i1 (c_Mo_ice _ _ (isNight_F hS2.1.2.1 (by omega) h1 (i0 (hL _ _ ok))))))
end P61
