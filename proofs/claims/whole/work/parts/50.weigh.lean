/-! the object's plans: weigh -/
/-- of kind k0 only what q says has changed -/
def FK (k0 : Nat) (q : Nat → Nat → Prop) (μ μ1 : Mm) : Prop := ∀ k i s, (k = k0 → ¬ q i s) → μ1.1 k i s = μ.1 k i s ∧ μ1.2 k i s = μ.2 k i s
section K50
variable {k0 : Nat} {q q' : Nat → Nat → Prop} {μ μ1 μ2 : Mm}
theorem FK.rf : FK k0 q μ μ := fun _ _ _ _ => ⟨rfl, rfl⟩
theorem FK.tr (h : FK k0 q μ μ1) (h2 : FK k0 q μ1 μ2) : FK k0 q μ μ2 := fun k i s e => ⟨(h2 k i s e).1.trans (h k i s e).1, (h2 k i s e).2.trans (h k i s e).2⟩
theorem FK.mono (h : FK k0 q μ μ1) (hl : ∀ i s, q i s → q' i s) : FK k0 q' μ μ1 := fun k i s e => h k i s (fun hk z => e hk (hl i s z))
theorem FK.fa {L : Nat → Bool} (h : FK k0 q μ μ1) (hL : ∀ i s, L (ar k0 i s) = true) : Fa L μ μ1 := by
  intro k i s e
  refine h k i s fun hk _ => ?_
  subst hk
  have e : L (ar k i s) = false := e
  rw [hL] at e
  cases e
theorem FK.i (h : FK k0 q μ μ1) (i s : Nat) (hq : ¬ q i s) : μ1.1 k0 i s = μ.1 k0 i s := (h k0 i s fun _ => hq).1
theorem FK.k (h : FK k0 q μ μ1) {k : Nat} (i s : Nat) (hk : k ≠ k0) : μ1.1 k i s = μ.1 k i s := (h k i s fun e => absurd e hk).1
theorem FK.l (h : FK k0 q μ μ1) (i s : Nat) (hq : ¬ q i s) : μ1.2 k0 i s = μ.2 k0 i s := (h k0 i s fun _ => hq).2
theorem FK.lk (h : FK k0 q μ μ1) {k : Nat} (i s : Nat) (hk : k ≠ k0) : μ1.2 k i s = μ.2 k i s := (h k i s fun e => absurd e hk).2
theorem FK.wI {i s : Nat} {v : Int32} (h : FK k0 q μ μ1) (hq : q i s) : FK k0 q μ (wI μ1 k0 i s v) := by
  intro k' i' s' e
  refine ⟨?_, (h k' i' s' e).2⟩
  rw [← (h k' i' s' e).1]
  refine if_neg fun z => ?_
  obtain ⟨rfl, rfl, rfl⟩ := z
  exact e rfl hq
theorem FK.wL {i s : Nat} {v : Int64} (h : FK k0 q μ μ1) (hq : q i s) : FK k0 q μ (wL μ1 k0 i s v) := by
  intro k' i' s' e
  refine ⟨(h k' i' s' e).1, ?_⟩
  rw [← (h k' i' s' e).2]
  refine if_neg fun z => ?_
  obtain ⟨rfl, rfl, rfl⟩ := z
  exact e rfl hq
theorem FK.aI {i s n : Nat} {f : Nat → Int32} (h : FK k0 q μ μ1) (hq : ∀ x, s ≤ x → x < s + n → q i x) : FK k0 q μ (aI μ1 k0 i s n f) := by
  intro k' i' s' e
  refine ⟨?_, (h k' i' s' e).2⟩
  rw [← (h k' i' s' e).1]
  refine if_neg fun z => ?_
  obtain ⟨rfl, rfl, z1, z2⟩ := z
  exact e rfl (hq _ z1 z2)
theorem FK.aL {i s n : Nat} {f : Nat → Int64} (h : FK k0 q μ μ1) (hq : ∀ x, s ≤ x → x < s + n → q i x) : FK k0 q μ (aL μ1 k0 i s n f) := by
  intro k' i' s' e
  refine ⟨(h k' i' s' e).1, ?_⟩
  rw [← (h k' i' s' e).2]
  refine if_neg fun z => ?_
  obtain ⟨rfl, rfl, z1, z2⟩ := z
  exact e rfl (hq _ z1 z2)
theorem FK.cI {k1 i1 s1 i s n : Nat} (h : FK k0 q μ μ1) (hq : ∀ x, s ≤ x → x < s + n → q i x) : FK k0 q μ (cI μ1 k1 i1 s1 k0 i s n) := by
  intro k' i' s' e
  refine ⟨?_, (h k' i' s' e).2⟩
  rw [← (h k' i' s' e).1]
  refine if_neg fun z => ?_
  obtain ⟨rfl, rfl, z1, z2⟩ := z
  exact e rfl (hq _ z1 z2)
theorem FK.cL {k1 i1 s1 i s n : Nat} (h : FK k0 q μ μ1) (hq : ∀ x, s ≤ x → x < s + n → q i x) : FK k0 q μ (cL μ1 k1 i1 s1 k0 i s n) := by
  intro k' i' s' e
  refine ⟨(h k' i' s' e).1, ?_⟩
  rw [← (h k' i' s' e).2]
  refine if_neg fun z => ?_
  obtain ⟨rfl, rfl, z1, z2⟩ := z
  exact e rfl (hq _ z1 z2)
end K50
theorem nI_a1 (t : Nat) : nI t + (-1) = nI t - 1 := (Int32.sub_eq_add_neg _ _).symm
theorem nI_plt {t v : Nat} (ht : t < 2147483648) (hv : t ≤ v) (hv2 : v < 2147483648) : nI t - 1 < nI v := by
  rw [Int32.lt_iff_toInt_lt, show nI t - 1 = nI t - nI 1 from rfl, sub_toInt ht (by decide), nI_toInt hv2]
  omega
/-- one choice more -/
theorem pqM {P : Nat → Nat} {L : Nat → Option Nat} {F x d : Nat} (h1 : oB F (bst (pq P L x) d)) (h2 : oB F (oA (P d) (L (x - d)))) : (if d ≤ x then min (eN F (bst (pq P L x) d)) (P d + eN F (L (x - d))) else eN F (bst (pq P L x) d)) = eN F (bst (pq P L x) (d + 1)) := by
  show _ = eN F (oM (bst (pq P L x) d) (pq P L x d))
  by_cases q : d ≤ x
  · rw [if_pos q, show pq P L x d = oA (P d) (L (x - d)) from if_pos q]
    exact eN_M h1 h2
  · rw [if_neg q, show pq P L x d = none from if_neg q, oM_n]
abbrev LL (H : Hs) (c : Sc) (h x : Nat) : Option Nat := lq H c h (hN H - vt (cs H c)) x
def On (H : Hs) (c : Sc) (h : Nat) (μ : Mm) : Prop := ∀ t, vt (cs H c) ≤ t → t ≤ hN H → ∀ x, x < 47 → μ.1 16 t x = nI (eN 1000000 (lq H c h (hN H - t) x))
def Al (H : Hs) (c : Sc) (h : Nat) (μ : Mm) : Prop := ∀ x, x < 47 → μ.1 16 (9 + h) x = nI (eN 1000000 (LL H c h x))
section P50
variable {G : Ge} {μ : Mm} {K : Int32 → Mm → Prop} {V : Mm → Prop} {i : Nat} {x : Int32} {H : Hs} {c : Sc} {h : Nat}
theorem min_s {a b : Nat} (ha : a < 2147483648) (hb : b < 2147483648) (h : K (nI (min a b)) μ) : CS G m_Jm_min [vi (nI a), vi (nI b)] μ (RI K) := by
  refine c_Jm_min _ _ (iLt hb ha (fun q => ?_) fun q => ?_)
  · rw [Nat.min_eq_right (by omega)] at h
    exact h
  · rw [Nat.min_eq_left (by omega)] at h
    exact h
theorem les_s {a b : Nat} (ha : a < 2147483648) (hb : b < 2147483648) (h : K (nI (min a b)) μ) : CS G m_Mo_lesser [vi (nI a), vi (nI b)] μ (RI K) := by
  refine c_Mo_lesser _ _ (iLe hb ha (fun q => ?_) fun q => ?_)
  · rw [Nat.min_eq_right (by omega)] at h
    exact h
  · rw [Nat.min_eq_left (by omega)] at h
    exact h
theorem fil2 : ∀ (d : Nat) {j : Nat} {μ : Mm}, 47 = j + d → V (aI μ 16 i j d (fun _ => x)) → SS G m_Ja_fill2 5 [vr 16 i, vi x, vi (nI j), vi (nI 47)] [] μ (RV V)
  | 0, j, μ, e, h => by
    rw [aI_0] at h
    exact b_Ja_fill2_5 _ _ _ _ (iLeT (by omega) (by omega) h)
  | d + 1, j, μ, e, h => by
    refine b_Ja_fill2_5 _ _ _ _ (iLeF (by omega) (by omega) ⟨in_nI (by omega) (by decide), ?_⟩)
    rw [nI_1, nI_tn (by omega)]
    refine fil2 d (by omega) ?_
    rw [aI_step _ _ _ _ _ (fun _ => x) x rfl]
    exact h
theorem fill2_s (h : ∀ μ1, (∀ y, y < 47 → μ1.1 16 i y = x) → FK 16 (fun j _ => j = i) μ μ1 → V μ1) : CS G m_Ja_fill2 [vr 16 i, vi x] μ (RV V) := by
  refine c_Ja_fill2 _ _ (fil2 47 (j := 0) rfl (h _ (fun y hy => ?_) (FK.rf.aI fun _ _ _ => rfl)))
  rw [aI_in (by omega) (by omega)]
theorem bearN (hK : ∀ μ1, (∀ y, y < 47 → μ1.1 16 i y = nI (eN 1000000 (if y = 0 then some 0 else none))) → FK 16 (fun j _ => j = i) μ μ1 → V μ1) : CS G m_Pl_bearNothing [vr 16 i] μ (RV V) := by
  refine c_Pl_bearNothing _ (fill2_s fun μ1 g1 g2 => ⟨in_nI (n := 0) (by decide) (by decide), hK _ (fun y hy => ?_) (g2.wI rfl)⟩)
  rw [show Int32.toNatClampNeg 0 = 0 from rfl]
  by_cases e : y = 0
  · subst e
    rw [wI_s, if_pos rfl]
    rfl
  · rw [wI_n _ _ _ _ e, g1 y hy, if_neg e]
    rfl
theorem relv {i0 i1 d p : Nat} {f g : Nat → Nat} (hne : i0 ≠ i1) (hf : ∀ y, y < 47 → f y ≤ 1000000) (hg : ∀ y, y < 47 → p + g y ≤ 2000000) : ∀ (m : Nat) {x : Nat} {μ : Mm}, 47 = x + m → d ≤ x → (∀ y, y < 47 → μ.1 16 i1 y = nI (g y)) → (∀ y, y < 47 → μ.1 16 i0 y = nI (if d ≤ y ∧ y < x then min (f y) (p + g (y - d)) else f y)) → (∀ μ1, (∀ y, y < 47 → μ1.1 16 i0 y = nI (if d ≤ y then min (f y) (p + g (y - d)) else f y)) → FK 16 (fun j _ => j = i0) μ μ1 → V μ1) → SS G m_Pl_relieve 3 [vr 16 i0, vr 16 i1, vi (nI d), vi (nI p), vi (nI x)] [] μ (RV V)
  | 0, x, μ, e, hd, h1, h0, hK => by
    refine b_Pl_relieve_3 _ _ _ _ _ (iT (nI_le (a := 47) (by omega) (by omega)) (hK μ (fun y hy => ?_) FK.rf))
    rw [h0 y hy]
    by_cases q : d ≤ y
    · rw [if_pos ⟨q, by omega⟩, if_pos q]
    · rw [if_neg (fun z => q z.1), if_neg q]
  | m + 1, x, μ, e, hd, h1, h0, hK => by
    have hx : x < 47 := by omega
    have f1 := hf x hx
    have f2 := hg (x - d) (by omega)
    refine b_Pl_relieve_3 _ _ _ _ _ (iF (nI_ge (b := 47) (by omega) (by omega)) ?_)
    rw [nI_sub hd, nI_tn (n := x) (by omega), nI_tn (n := x - d) (by omega), h0 x hx, h1 (x - d) (by omega), show (if d ≤ x ∧ x < x then min (f x) (p + g (x - d)) else f x) = f x from if_neg (fun z => by omega), nI_add, nI_1]
    refine ⟨in_nI hx (by decide), in_nI (by omega) (by decide), min_s (by omega) (by omega) ⟨in_nI hx (by decide), relv hne hf hg m (by omega) (by omega) (fun y hy => ?_) (fun y hy => ?_) fun μ1 g1 g2 => hK μ1 g1 (FK.tr (FK.wI (q := fun j _ => j = i0) FK.rf rfl) g2)⟩⟩
    · rw [wI_i _ _ _ hne.symm]
      exact h1 y hy
    · by_cases e2 : y = x
      · subst e2
        rw [wI_s, if_pos ⟨hd, by omega⟩]
      · rw [wI_n _ _ _ _ e2, h0 y hy]
        by_cases q : d ≤ y ∧ y < x
        · rw [if_pos q, if_pos ⟨q.1, by omega⟩]
        · rw [if_neg q, if_neg (fun z => q ⟨z.1, by omega⟩)]
theorem wei49 {t T : Nat} {L : Nat → Option Nat} (hH : HI H) (hc : CI H c) (hh : h < hn H) (ht : t < hN H) (eT : tp H c (cs H c) h t = T) (hT : T ≤ 9) (hL : ∀ y, oB 1296 (L y)) : ∀ (m : Nat) {d : Nat} {μ : Mm}, T + 1 = d + m → Cs H c μ → (∀ x, x < 47 → μ.1 16 (t + 1) x = nI (eN 1000000 (L x))) → (∀ x, x < 47 → μ.1 16 t x = nI (eN 1000000 (bst (pq (hP H h) L x) d))) → (∀ μ1, (∀ x, x < 47 → μ1.1 16 t x = nI (eN 1000000 (bst (pq (hP H h) L x) (T + 1)))) → FK 16 (fun j _ => j = t) μ μ1 → SS G m_Pl_weigh 19 [vr 1 0, vr 4 0, vi (nI h), vi (nI t - 1), un, un] [] μ1 (RV V)) → SS G m_Pl_weigh 49 [vr 1 0, vr 4 0, vi (nI h), vi (nI t), vr 0 (5 * 0 + h), vi (nI d)] [] μ (RV V)
  | 0, d, μ, ed, hC, h1, h0, hK => by
    have b2 := hH.2.1
    refine b_Pl_weigh_49 _ _ _ _ _ (topIn_s hC hH hc hh (by omega) ?_)
    rw [eT]
    refine iLtT (by omega) (by omega) ?_
    rw [nI_a1]
    exact hK μ (fun x hx => by rw [h0 x hx, show d = T + 1 by omega]) FK.rf
  | m + 1, d, μ, ed, hC, h1, h0, hK => by
    have b2 := hH.2.1
    have hkw := hH.2.2.2 h hh
    have hu1 := hu9 (k := hk H h) (w := hw H h) (d := d) (by omega)
    have hB : ∀ x, oB 1458 (bst (pq (hP H h) L x) d) := fun x => bst_B fun e he => pq_B (A := 162) (B := 1296) (hu9 (by omega)) hL
    refine b_Pl_weigh_49 _ _ _ _ _ (topIn_s hC hH hc hh (by omega) ?_)
    rw [eT]
    refine iLtF (by omega) (by omega) ⟨in_nI (by omega) (by decide), ?_⟩
    rw [nI_1 t, nI_1 d, nI_tn (n := t) (by omega), nI_tn (n := t + 1) (by omega)]
    refine ⟨in_nI (by omega) (by decide), painOf_s (hC.1.2.2 h hh).1 (hC.1.2.2 h hh).2.1 hkw.1 hkw.2.1 (by omega) (c_Pl_relieve _ _ _ _ ?_)⟩
    refine relv (d := d) (p := hu (hk H h) (hw H h) d) (f := fun x => eN 1000000 (bst (pq (hP H h) L x) d)) (g := fun x => eN 1000000 (L x)) (by omega) (fun y _ => eN_le (oB_mono (hB y) (by decide))) (fun y _ => ?_) (47 - d) (by omega) (Nat.le_refl _) h1 (fun y hy => ?_) fun μ1 g1 g2 => ?_
    · have := eN_le (F := 1000000) (oB_mono (hL y) (by decide))
      show _ + eN 1000000 (L y) ≤ _
      omega
    · rw [h0 y hy, if_neg (fun z => by omega)]
    · refine wei49 hH hc hh ht eT hT hL m (d := d + 1) (by omega) (hC.fa hH (g2.fa (L := L1 5) (fun _ _ => rfl)) rfl) (fun y hy => ?_) (fun y hy => ?_) fun μ2 k1 k2 => hK μ2 k1 (g2.tr k2)
      · rw [g2.i _ _ (by omega)]
        exact h1 y hy
      · rw [g1 y hy]
        exact congrArg nI (pqM (P := hP H h) (oB_mono (hB y) (by decide)) (oB_A (G := 1296) (hL _) (by show hu (hk H h) (hw H h) d + 1296 ≤ _; omega)))
theorem lq_step {t : Nat} (ht : t < hN H) (y : Nat) : lq H c h (hN H - t) y = bst (pq (hP H h) (lq H c h (hN H - (t + 1))) y) (tp H c (cs H c) h t + 1) := by
  rw [show hN H - t = (hN H - (t + 1)) + 1 by omega]
  show bst (pq (hP H h) (lq H c h (hN H - (t + 1))) y) (tp H c (cs H c) h (hN H - (hN H - (t + 1) + 1)) + 1) = _
  rw [show hN H - (hN H - (t + 1) + 1) = t by omega]
theorem wei19 (hH : HI H) (hc : CI H c) (hh : h < hn H) : ∀ (m : Nat) {t : Nat} {μ : Mm}, t = vt (cs H c) + m → t ≤ hN H → Cs H c μ → (∀ t', t ≤ t' → t' ≤ hN H → ∀ x, x < 47 → μ.1 16 t' x = nI (eN 1000000 (lq H c h (hN H - t') x))) → (∀ μ1, On H c h μ1 → Al H c h μ1 → FK 16 (fun j _ => j ≤ 8 ∨ j = 9 + h) μ μ1 → V μ1) → SS G m_Pl_weigh 19 [vr 1 0, vr 4 0, vi (nI h), vi (nI t - 1), un, un] [] μ (RV V)
  | 0, t, μ, et, ht, hC, h1, hK => by
    have b1 := hH.1
    have b2 := hH.2.1
    refine b_Pl_weigh_19 _ _ _ ?_
    rw [hC.2.2.1, nI_tn (n := vt (cs H c)) (by omega), nI_tn (n := h) (by omega), show Int32.toNatClampNeg 0 = 0 from rfl, show Int32.toNatClampNeg 47 = 47 from rfl]
    refine iT (nI_plt (by omega) (by omega) (by omega)) ⟨in_nI (by omega) (by decide), in_nI (by omega) (by decide), ⟨by decide, by decide, by decide, by decide, by decide⟩, hK _ (fun t' a b y hy => ?_) (fun y hy => ?_) (FK.rf.cI fun _ _ _ => Or.inr rfl)⟩
    · rw [cI_i (by omega)]
      exact h1 t' (by omega) b y hy
    · rw [cI_in (by omega) (by omega), show 0 + (y - 0) = y by omega]
      exact h1 _ (by omega) (by omega) y hy
  | m + 1, t, μ, et, ht, hC, h1, hK => by
    have b1 := hH.1
    have b2 := hH.2.1
    obtain ⟨u, rfl⟩ : ∃ u, t = u + 1 := ⟨t - 1, by omega⟩
    have hT : tp H c (cs H c) h u ≤ 9 := Nat.le_trans tp_le (hc.2.1 u (by omega))
    rw [nI_pred]
    refine b_Pl_weigh_19 _ _ _ ?_
    rw [hC.2.2.1, nI_tn (n := u) (by omega), nI_tn (n := h) (by omega)]
    refine iLtF (by omega) (by omega) ⟨in_nI (by omega) (by decide), in_nI (by omega) (by decide), fill2_s fun μ1 g1 g2 => ?_⟩
    refine wei49 (d := 0) (L := lq H c h (hN H - (u + 1))) hH hc hh (by omega) rfl hT (fun y => lq_B hH hc (by omega)) _ (Nat.zero_add _).symm (hC.fa hH (g2.fa (L := L1 5) (fun _ _ => rfl)) rfl) (fun y hy => ?_) (fun y hy => ?_) fun μ2 k1 k2 => ?_
    · rw [g2.i _ _ (by omega)]
      exact h1 (u + 1) (Nat.le_refl _) ht y hy
    · rw [g1 y hy]
      rfl
    · refine wei19 hH hc hh m (t := u) (by omega) (by omega) (hC.fa hH ((g2.tr k2).fa (L := L1 5) (fun _ _ => rfl)) rfl) (fun t' a b y hy => ?_) fun μ3 j1 j2 j3 => hK μ3 j1 j2 (((g2.tr k2).mono fun i _ z => Or.inl (by omega)).tr j3)
      by_cases e : t' = u
      · subst e
        rw [k1 y hy, lq_step (by omega)]
      · rw [(g2.tr k2).i _ _ e]
        exact h1 t' (by omega) b y hy
theorem weigh_s (hH : HI H) (hc : CI H c) (hh : h < hn H) (hC : Cs H c μ) (hK : ∀ μ1, On H c h μ1 → Al H c h μ1 → FK 16 (fun j _ => j ≤ 8 ∨ j = 9 + h) μ μ1 → V μ1) : CS G m_Pl_weigh [vr 1 0, vr 4 0, vi (nI h)] μ (RV V) := by
  have b2 := hH.2.1
  have hv := (SI_now hH hc).1
  refine c_Pl_weigh _ _ ?_
  rw [hC.1.2.1, nI_tn (n := hN H) (by omega)]
  refine ⟨in_nI (by omega) (by decide), bearN fun μ1 g1 g2 => ?_⟩
  have hC1 := hC.fa hH (g2.fa (L := L1 5) (fun _ _ => rfl)) rfl
  rw [hC1.1.2.1]
  refine wei19 hH hc hh (hN H - vt (cs H c)) (by omega) (Nat.le_refl _) hC1 (fun t' a b y hy => ?_) fun μ2 k1 k2 k3 => hK μ2 k1 k2 ((g2.mono fun i _ z => Or.inl (by omega)).tr k3)
  rw [show t' = hN H by omega, Nat.sub_self]
  exact g1 y hy
theorem wAll (hH : HI H) (hc : CI H c) : ∀ (m : Nat) {g : Nat} {μ : Mm}, hn H = g + m → Cs H c μ → (∀ h, h < g → Al H c h μ) → (∀ μ1, (∀ h, h < hn H → Al H c h μ1) → FK 16 (fun j _ => j ≤ 13) μ μ1 → V μ1) → SS G m_Pl_weighAll 2 [vr 1 0, vr 4 0, vi (nI g)] [] μ (RV V)
  | 0, g, μ, e, hC, hA, hK => by
    have b1 := hH.1
    refine b_Pl_weighAll_2 _ _ ?_
    rw [hC.1.1]
    exact iLeT (by omega) (by omega) (hK μ (fun h hh => hA h (by omega)) FK.rf)
  | m + 1, g, μ, e, hC, hA, hK => by
    have b1 := hH.1
    refine b_Pl_weighAll_2 _ _ ?_
    rw [hC.1.1, nI_1]
    refine iLeF (by omega) (by omega) (weigh_s hH hc (by omega) hC fun μ1 _ k2 k3 => wAll hH hc m (by omega) (hC.fa hH (k3.fa (L := L1 5) (fun _ _ => rfl)) rfl) (fun h hh => ?_) fun μ2 j1 j2 => hK μ2 j1 ((k3.mono fun i _ z => by omega).tr j2))
    by_cases e2 : h = g
    · subst e2
      exact k2
    · intro y hy
      rw [k3.i _ _ (by omega)]
      exact hA h (by omega) y hy
theorem wAll_s (hH : HI H) (hc : CI H c) (hC : Cs H c μ) (hK : ∀ μ1, (∀ h, h < hn H → Al H c h μ1) → FK 16 (fun j _ => j ≤ 13) μ μ1 → V μ1) : CS G m_Pl_weighAll [vr 1 0, vr 4 0] μ (RV V) := c_Pl_weighAll _ (wAll hH hc (hn H) (g := 0) (by omega) hC (fun h hh => absurd hh (by omega)) hK)
theorem LL_B (hH : HI H) (hc : CI H c) (x : Nat) : oB 1296 (LL H c h x) := lq_B hH hc (by omega)
theorem painFor_s {x : Nat} (hA : Al H c h μ) (hh : h < 5) (hx : x < 47) (hK : K (nI (eN 1000000 (LL H c h x))) μ) : CS G m_Pl_painFor [vr 1 0, vi (nI h), vi (nI x)] μ (RI K) := by
  refine c_Pl_painFor _ _ (iNl (by omega) (iLtT (b := 47) (by decide) hx ⟨in_nI hh (by decide), in_nI hx (by decide), ?_⟩))
  rw [nI_tn (n := h) (by omega), nI_tn (n := x) (by omega), hA x hx]
  exact hK
theorem painFor_n (hK : K 1000000 μ) : CS G m_Pl_painFor [vr 1 0, vi (nI h), vi (-1)] μ (RI K) := c_Pl_painFor _ _ (iT (by decide) hK)
end P50
