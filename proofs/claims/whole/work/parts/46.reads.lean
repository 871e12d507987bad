/-! the class's reader -/
def Tx (t n : Nat) (f : Nat → Int32) (μ : Mm) : Prop := μ.1 8 t 1 = nI n ∧ ∀ j, j < n → μ.1 19 t j = f j
def Rp (t p : Nat) (μ : Mm) : Prop := μ.1 2 0 1 = nI (t + 1) ∧ μ.1 2 0 2 = nI p
/-- what the reader writes: its place; houses; nights -/
def pP : Nat → Nat → Nat → Bool := fun k _ s => decide (k = 2 ∧ s = 2)
def pQ : Nat → Nat → Nat → Bool := fun k x s => decide ((k = 2 ∧ s = 2) ∨ (k = 4 ∧ x = 4 ∧ s = 6) ∨ (k = 0 ∧ 20 ≤ x ∧ x < 25))
def pJ : Nat → Nat → Nat → Bool := fun k x s => decide ((k = 2 ∧ s = 2) ∨ (k = 4 ∧ x = 4 ∧ s = 5) ∨ (k = 20 ∧ x = 4))
def pZ : Nat → Nat → Nat → Bool := fun k x _ => decide (k = 2 ∨ (k = 4 ∧ x = 4) ∨ (k = 0 ∧ 20 ≤ x ∧ x < 25) ∨ (k = 20 ∧ x = 4))
theorem pP_Q {k x s : Nat} (h : pQ k x s = false) : pP k x s = false := by
  have h := of_decide_eq_false h
  exact decide_eq_false (by omega)
theorem pP_J {k x s : Nat} (h : pJ k x s = false) : pP k x s = false := by
  have h := of_decide_eq_false h
  exact decide_eq_false (by omega)
theorem pQ_Z {k x s : Nat} (h : pZ k x s = false) : pQ k x s = false := by
  have h := of_decide_eq_false h
  exact decide_eq_false (by omega)
theorem pJ_Z {k x s : Nat} (h : pZ k x s = false) : pJ k x s = false := by
  have h := of_decide_eq_false h
  exact decide_eq_false (by omega)
theorem pP_Z {k x s : Nat} (h : pZ k x s = false) : pP k x s = false := pP_Q (pQ_Z h)
theorem pZ_5 : ∀ k x s, pZ k x s = true → ar k x s = 5 := by
  intro k x s h
  have h := of_decide_eq_true h
  rcases h with rfl | ⟨rfl, rfl⟩ | ⟨rfl, h1, h2⟩ | ⟨rfl, rfl⟩
  · rfl
  · rfl
  · show (if x < 5 then 3 else if x < 20 then 4 else 5) = 5
    rw [if_neg (by omega), if_neg (by omega)]
  · rfl
theorem Tx.fr {t n : Nat} {f : Nat → Int32} {μ μ1 : Mm} (h : Tx t n f μ) (F : Fr pZ μ μ1) : Tx t n f μ1 := ⟨F.it (decide_eq_false (by omega)) h.1, fun j hj => F.it (decide_eq_false (by omega)) (h.2 j hj)⟩
theorem Rp.to {t p q : Nat} {μ : Mm} (h : Rp t p μ) : Rp t q (wI μ 2 0 2 (nI q)) := ⟨by rw [wI_n _ _ _ _ (by decide)]; exact h.1, wI_s _ _ _ _ _⟩
def sg (f : Nat → Int32) (n p : Nat) : Int32 := if p < n then f p else -1
section P46
variable {G : Ge} {μ : Mm} {V : Mm → Prop} {K : Int32 → Mm → Prop} {t n p : Nat} {f : Nat → Int32}
theorem sign_s (ht : t < 4) (hn : n ≤ 60) (hp : p ≤ n) (hX : Tx t n f μ) (hR : Rp t p μ) (hK : K (sg f n p) μ) : CS G m_Re_sign [vr 2 0] μ (RI K) := by
  have ne : ¬ nI (t + 1) = 0 := nI_ne0 (by omega) (by omega)
  refine c_Re_sign ?_
  rw [hR.1, hR.2, nI_tn (by omega), show t + 1 - 1 = t by omega]
  refine iF ne (iF ne ?_)
  unfold sg at hK
  by_cases h : p < n
  · rw [if_pos h] at hK
    refine hasT_T (m := 1) hX.1 (by omega) (by decide) (by omega) (i1 ?_)
    rw [hR.1, hR.2, nI_tn (by omega), nI_tn (by omega), show t + 1 - 1 = t by omega, hX.2 p h]
    exact iF ne ⟨in_nI (by omega) (by decide), hK⟩
  · rw [if_neg h] at hK
    refine hasT_F (m := 1) hX.1 (by omega) (by decide) (fun ⟨j, hj, e⟩ => ?_) (i0 hK)
    have := (nI_eq (by omega) (by omega)).mp e
    omega
theorem fig_s (ht : t < 4) (hn : n ≤ 60) (hp : p ≤ n) (hX : Tx t n f μ) (hR : Rp t p μ) (h1 : fg f n p = true → K 1 μ) (h0 : ¬ fg f n p = true → K 0 μ) : CS G m_Re_isFigure [vr 2 0] μ (RI K) := by
  refine c_Re_isFigure (sign_s ht hn hp hX hR ?_)
  unfold sg
  by_cases h : p < n
  · rw [if_pos h]
    refine iB (fun q => ⟨z00, h0 fun y => (of_decide_eq_true y).2.1 q⟩) fun q => sign_s ht hn hp hX hR ?_
    unfold sg
    rw [if_pos h]
    exact iB (fun q2 => ⟨z00, h0 fun y => (of_decide_eq_true y).2.2 q2⟩) fun q2 => ⟨z01, h1 (decide_eq_true ⟨h, q, q2⟩)⟩
  · rw [if_neg h]
    exact iT (by decide) ⟨z00, h0 fun y => h (of_decide_eq_true y).1⟩
theorem takeF_s (ht : t < 4) (hn : n ≤ 60) (hX : Tx t n f μ) (hR : Rp t p μ) (hf : fg f n p = true) (hK : K (nI (dg f p)) (wI μ 2 0 2 (nI (p + 1)))) : CS G m_Re_takeFigure [vr 2 0] μ (RI K) := by
  obtain ⟨h1, h2, h3⟩ := fg_dg hf
  refine c_Re_takeFigure (sign_s ht hn (by omega) hX hR ?_)
  unfold sg
  rw [if_pos h1, hR.2, nI_1, h3, show nI (48 + dg f p) - 48 = nI (48 + dg f p - 48) from nI_sub (b := 48) (by omega), show 48 + dg f p - 48 = dg f p by omega]
  exact hK
theorem kos_s (ht : t < 4) (hn : n ≤ 60) (hp : p < n) (hX : Tx t n f μ) (hR : Rp t p μ) (hK : K (kdI (f p)) μ) : ∀ (d k : Nat), 6 = k + d → (∀ j, j < k → ¬ rom 52 j = f p) → SS G m_Re_kindOfSign 2 [vr 2 0, vi (nI k)] [] μ (RI K)
  | 0, k, e, hj => by
    have : k = 6 := by omega
    subst this
    unfold kdI at hK
    rw [kd_no hj] at hK
    exact b_Re_kindOfSign_2 _ (iT (by decide) hK)
  | d + 1, k, e, hj => by
    refine b_Re_kindOfSign_2 _ (iF (nI_nlt (a := 5) (by omega) (by omega)) ⟨in_nI (by omega) (by decide), sign_s ht hn (by omega) hX hR ?_⟩)
    unfold sg
    rw [if_pos hp, nI_tn (by omega), nI_1]
    refine iB (fun q => ?_) fun q => kos_s ht hn hp hX hR hK d (k + 1) (by omega) (fun j h => ?_)
    · unfold kdI at hK
      rw [← q, kd_rom k (by omega)] at hK
      exact hK
    · by_cases y : j = k
      · subst y
        exact q
      · exact hj j (by omega)
theorem skip_s (ht : t < 4) (hn : n ≤ 60) : ∀ (d : Nat) {p i : Nat} {μ : Mm}, n = p + d → i + d ≤ 60 → Tx t n f μ → Rp t p μ → (∀ μ1, Rp t (sk f n p) μ1 → Fr pP μ μ1 → V μ1) → SS G m_Re_skipBlanks 2 [vr 2 0, vi (nI i)] [] μ (RV V)
  | 0, p, i, μ, e, hi, hX, hR, hV => by
    have hk := hV μ (by rw [sk_end (by omega)]; exact hR) Fr.rf
    refine b_Re_skipBlanks_2 _ (iB (fun _ => hk) fun _ => sign_s ht hn (by omega) hX hR ?_)
    unfold sg
    rw [if_neg (show ¬ p < n by omega)]
    exact iF (by decide) hk
  | d + 1, p, i, μ, e, hi, hX, hR, hV => by
    refine b_Re_skipBlanks_2 _ (iF (nI_ge (b := 60) (by omega) (by omega)) (sign_s ht hn (by omega) hX hR ?_))
    unfold sg
    rw [if_pos (show p < n by omega)]
    refine iB (fun q => ?_) fun q => hV μ (by rw [sk_n q]; exact hR) Fr.rf
    rw [hR.2, nI_1, nI_1]
    have F : Fr pP μ (wI μ 2 0 2 (nI (p + 1))) := Fr.rf.wI rfl
    refine skip_s ht hn d (by omega) (by omega) (hX.fr (F.mono fun _ _ _ => pP_Z)) hR.to fun μ1 hR1 F1 => hV μ1 ?_ (F.tr F1)
    rw [sk_b (by omega) q]
    exact hR1
theorem skipB_s (ht : t < 4) (hn : n ≤ 60) (hp : p ≤ n) (hX : Tx t n f μ) (hR : Rp t p μ) (hV : ∀ μ1, Rp t (sk f n p) μ1 → Fr pP μ μ1 → V μ1) : CS G m_Re_skipBlanks [vr 2 0] μ (RV V) := c_Re_skipBlanks (skip_s ht hn (n - p) (i := 0) (by omega) (by omega) hX hR hV)
theorem ngt23 (ht : t < 4) (hn : n ≤ 60) (q : Nat) : ∀ (d : Nat) {i : Nat} {μ : Mm}, 8 = i + d → q + i ≤ n → Tx t n f μ → Rp t (q + i) μ → μ.1 4 4 5 = nI i → (∀ x, x < i → μ.1 20 4 x = nI (dg f (q + x))) → (∀ μ1, Rp t (q + (i + ngt f n d (q + i))) μ1 → μ1.1 4 4 5 = nI (i + ngt f n d (q + i)) → (∀ x, x < i + ngt f n d (q + i) → μ1.1 20 4 x = nI (dg f (q + x))) → Fr pJ μ μ1 → K (if i + ngt f n d (q + i) = 0 then 0 else 1) μ1) → SS G m_Re_readNights 23 [vr 2 0, vi (nI i)] [] μ (RI K)
  | 0, i, μ, e, hp, hX, hR, h5, hc, hK => by
    have : i = 8 := by omega
    subst this
    have hk : K 1 μ := hK μ hR h5 hc Fr.rf
    refine b_Re_readNights_23 _ (iT (by decide) ?_)
    rw [h5]
    exact iF (by decide) ⟨z01, hk⟩
  | d + 1, i, μ, e, hp, hX, hR, h5, hc, hK => by
    have hK2 : ∀ μ1, Rp t (q + (i + (if fg f n (q + i) = true then 1 + ngt f n d (q + i + 1) else 0))) μ1 → μ1.1 4 4 5 = nI (i + (if fg f n (q + i) = true then 1 + ngt f n d (q + i + 1) else 0)) → (∀ x, x < i + (if fg f n (q + i) = true then 1 + ngt f n d (q + i + 1) else 0) → μ1.1 20 4 x = nI (dg f (q + x))) → Fr pJ μ μ1 → K (if i + (if fg f n (q + i) = true then 1 + ngt f n d (q + i + 1) else 0) = 0 then 0 else 1) μ1 := hK
    refine b_Re_readNights_23 _ (iF (nI_ge (b := 8) (by omega) (by omega)) (fig_s ht hn hp hX hR (fun hf => i1 ?_) fun hf => i0 ?_))
    · simp only [if_pos hf] at hK2
      obtain ⟨g1, g2, g3⟩ := fg_dg hf
      refine takeF_s ht hn hX hR hf ⟨in_nI (by omega) (by decide), ?_⟩
      rw [nI_1, nI_tn (by omega)]
      have F : Fr pJ μ (wI (wI (wI μ 2 0 2 (nI (q + i + 1))) 20 4 i (nI (dg f (q + i)))) 4 4 5 (nI (i + 1))) := ((Fr.rf.wI rfl).wI rfl).wI rfl
      refine ngt23 ht hn q d (by omega) (by omega) (hX.fr (F.mono fun _ _ _ => pJ_Z)) ?_ (wI_s _ _ _ _ _) (fun x hx => ?_) fun μ1 k1 k2 k3 k4 => ?_
      · refine ⟨?_, ?_⟩
        · rw [wI_k _ _ (by decide), wI_k _ _ (by decide), wI_n _ _ _ _ (by decide)]
          exact hR.1
        · rw [wI_k _ _ (by decide), wI_k _ _ (by decide), wI_s]
          rfl
      · rw [wI_k _ _ (by decide)]
        by_cases y : x = i
        · subst y
          rw [wI_s]
        · rw [wI_n _ _ _ _ y, wI_k _ _ (by decide)]
          exact hc x (by omega)
      · have ee : i + (1 + ngt f n d (q + i + 1)) = i + 1 + ngt f n d (q + (i + 1)) := by rw [Nat.add_assoc q i 1, Nat.add_assoc]
        rw [ee] at hK2
        exact hK2 μ1 k1 k2 k3 (F.tr k4)
    · simp only [if_neg hf] at hK2
      have hk := hK2 μ hR h5 hc Fr.rf
      rw [h5]
      by_cases y : i = 0
      · subst y
        exact iT (by decide) ⟨z00, hk⟩
      · rw [show (if i + 0 = 0 then (0 : Int32) else 1) = 1 from if_neg (by omega)] at hk
        exact iF (nI_nle (by omega) (by omega)) ⟨z01, hk⟩
theorem kd_none {x : Int32} (h : kd x = none) : kdI x = -9 := by
  unfold kdI
  rw [h]
theorem kd_some {x : Int32} {k : Nat} (h : kd x = some k) : kdI x = nI k := by
  unfold kdI
  rw [h]
/-- a house, or not -/
theorem rdHouse {m : Nat} (ht : t < 4) (hn : n ≤ 60) (hp : p < n) (hm : m < 5) (hX : Tx t n f μ) (hR : Rp t p μ) (h6 : μ.1 4 4 6 = nI m)
    (h0 : kd (f p) = none → K 0 μ) (h1 : ∀ k, kd (f p) = some k → ¬ fg f n (p + 1) = true → ∀ μ1, Rp t (p + 1) μ1 → Fr pP μ μ1 → K 0 μ1) (h2 : ∀ k, kd (f p) = some k → fg f n (p + 1) = true → ¬ fg f n (p + 2) = true → ∀ μ1, Rp t (p + 2) μ1 → Fr pP μ μ1 → K 0 μ1)
    (h3 : ∀ k, kd (f p) = some k → fg f n (p + 1) = true → fg f n (p + 2) = true → ∀ μ1, Rp t (p + 3) μ1 → μ1.1 4 4 6 = nI (m + 1) → μ1.1 0 (5 * 4 + m) 0 = nI k → μ1.1 0 (5 * 4 + m) 1 = nI (dg f (p + 1)) → μ1.1 0 (5 * 4 + m) 2 = nI (dg f (p + 2)) → (∀ x, x ≠ 5 * 4 + m → μ1.1 0 x = μ.1 0 x) → Fr pQ μ μ1 → K 1 μ1) : CS G m_Re_readHouse [vr 2 0] μ (RI K) := by
  refine c_Re_readHouse (c_Re_kindOfSign (kos_s ht hn hp hX hR ?_ 6 0 rfl (fun j hj => absurd hj (by omega))))
  cases hk : kd (f p) with
  | none =>
    rw [kd_none hk]
    exact iT rfl ⟨z00, h0 hk⟩
  | some k =>
    have hk5 := kd_le hk
    rw [kd_some hk, hR.2, nI_1]
    refine iF (nI_m9 (by omega)) ?_
    have F1 : Fr pP μ (wI μ 2 0 2 (nI (p + 1))) := Fr.rf.wI rfl
    have hX1 := hX.fr (F1.mono fun _ _ _ => pP_Z)
    have hR1 : Rp t (p + 1) (wI μ 2 0 2 (nI (p + 1))) := hR.to
    have h61 : (wI μ 2 0 2 (nI (p + 1))).1 4 4 6 = nI m := F1.it rfl h6
    have h01 : (wI μ 2 0 2 (nI (p + 1))).1 0 = μ.1 0 := wI_k _ _ (by decide)
    generalize wI μ 2 0 2 (nI (p + 1)) = μ1 at F1 hX1 hR1 h61 h01 ⊢
    refine fig_s ht hn (by omega) hX1 hR1 (fun f1 => i1 ?_) fun f1 => i0 ⟨z00, h1 k hk f1 μ1 hR1 F1⟩
    have hp2 := (fg_dg f1).1
    refine takeF_s ht hn hX1 hR1 f1 ?_
    have F2 : Fr pP μ (wI μ1 2 0 2 (nI (p + 1 + 1))) := F1.wI rfl
    have hX2 := hX.fr (F2.mono fun _ _ _ => pP_Z)
    have hR2 : Rp t (p + 2) (wI μ1 2 0 2 (nI (p + 1 + 1))) := hR1.to
    have h62 : (wI μ1 2 0 2 (nI (p + 1 + 1))).1 4 4 6 = nI m := F2.it rfl h6
    have h02 : (wI μ1 2 0 2 (nI (p + 1 + 1))).1 0 = μ.1 0 := (wI_k _ _ (by decide)).trans h01
    generalize wI μ1 2 0 2 (nI (p + 1 + 1)) = μ2 at F2 hX2 hR2 h62 h02 ⊢
    refine fig_s ht hn (by omega) hX2 hR2 (fun f2 => i1 ?_) fun f2 => i0 ⟨z00, h2 k hk f1 f2 μ2 hR2 F2⟩
    rw [h62, nI_tn (by omega)]
    refine ⟨in_nI (by omega) (by decide), takeF_s ht hn hX2 hR2 f2 ?_⟩
    have F3 : Fr pP μ (wI μ2 2 0 2 (nI (p + 2 + 1))) := F2.wI rfl
    have hR3 : Rp t (p + 3) (wI μ2 2 0 2 (nI (p + 2 + 1))) := hR2.to
    have h63 : (wI μ2 2 0 2 (nI (p + 2 + 1))).1 4 4 6 = nI m := F3.it rfl h6
    have h03 : (wI μ2 2 0 2 (nI (p + 2 + 1))).1 0 = μ.1 0 := (wI_k _ _ (by decide)).trans h02
    generalize wI μ2 2 0 2 (nI (p + 2 + 1)) = μ3 at F3 hR3 h63 h03 ⊢
    refine c_Ho_become _ _ _ _ (c_Ho_restart _ ⟨z01, ?_⟩)
    have hq : ∀ s, pQ 0 (5 * 4 + m) s = true := fun s => decide_eq_true (by omega)
    have F4 : Fr pQ μ (wI (wI (wI (wI (wI (wI μ3 0 (5 * 4 + m) 0 (nI k)) 0 (5 * 4 + m) 1 (nI (dg f (p + 1)))) 0 (5 * 4 + m) 2 (nI (dg f (p + 2)))) 0 (5 * 4 + m) 3 ((wI (wI (wI μ3 0 (5 * 4 + m) 0 (nI k)) 0 (5 * 4 + m) 1 (nI (dg f (p + 1)))) 0 (5 * 4 + m) 2 (nI (dg f (p + 2)))).1 0 (5 * 4 + m) 2)) 0 (5 * 4 + m) 4 0) 0 (5 * 4 + m) 5 (-9)) := ((((((F3.mono fun _ _ _ => pP_Q).wI (hq _)).wI (hq _)).wI (hq _)).wI (hq _)).wI (hq _)).wI (hq _)
    rw [wI_k (k' := 4) _ _ (by decide), wI_k (k' := 4) _ _ (by decide), wI_k (k' := 4) _ _ (by decide), wI_k (k' := 4) _ _ (by decide), wI_k (k' := 4) _ _ (by decide), wI_k (k' := 4) _ _ (by decide), h63, nI_1]
    refine h3 k hk f1 f2 _ ⟨?_, ?_⟩ (wI_s _ _ _ _ _) ?_ ?_ ?_ (fun x hx => ?_) (F4.wI rfl)
    · rw [wI_k (k' := 2) _ _ (by decide), wI_k (k' := 2) _ _ (by decide), wI_k (k' := 2) _ _ (by decide), wI_k (k' := 2) _ _ (by decide), wI_k (k' := 2) _ _ (by decide), wI_k (k' := 2) _ _ (by decide), wI_k (k' := 2) _ _ (by decide)]
      exact hR3.1
    · rw [wI_k (k' := 2) _ _ (by decide), wI_k (k' := 2) _ _ (by decide), wI_k (k' := 2) _ _ (by decide), wI_k (k' := 2) _ _ (by decide), wI_k (k' := 2) _ _ (by decide), wI_k (k' := 2) _ _ (by decide), wI_k (k' := 2) _ _ (by decide)]
      exact hR3.2
    · rw [wI_k (k' := 0) _ _ (by decide), wI_n _ _ _ _ (by decide), wI_n _ _ _ _ (by decide), wI_n _ _ _ _ (by decide), wI_n _ _ _ _ (by decide), wI_n _ _ _ _ (by decide), wI_s]
    · rw [wI_k (k' := 0) _ _ (by decide), wI_n _ _ _ _ (by decide), wI_n _ _ _ _ (by decide), wI_n _ _ _ _ (by decide), wI_n _ _ _ _ (by decide), wI_s]
    · rw [wI_k (k' := 0) _ _ (by decide), wI_n _ _ _ _ (by decide), wI_n _ _ _ _ (by decide), wI_n _ _ _ _ (by decide), wI_s]
    · rw [wI_k (k' := 0) _ _ (by decide), wI_i _ _ _ hx, wI_i _ _ _ hx, wI_i _ _ _ hx, wI_i _ _ _ hx, wI_i _ _ _ hx, wI_i _ _ _ hx, h03]
def Hq (m : Nat) (T : Tq) (μ : Mm) : Prop := μ.1 4 4 6 = nI m ∧ ∀ h, h < m → μ.1 0 (5 * 4 + h) 0 = nI (T.1 h) ∧ μ.1 0 (5 * 4 + h) 1 = nI (T.2.1 h) ∧ μ.1 0 (5 * 4 + h) 2 = nI (T.2.2 h)
theorem Hq.fr {m : Nat} {T : Tq} {μ1 : Mm} (h : Hq m T μ) (F : Fr pP μ μ1) : Hq m T μ1 := ⟨F.it (decide_eq_false (by omega)) h.1, fun x hx => ⟨F.it (decide_eq_false (by omega)) (h.2 x hx).1, F.it (decide_eq_false (by omega)) (h.2 x hx).2.1, F.it (decide_eq_false (by omega)) (h.2 x hx).2.2⟩⟩
theorem empty_4 {m : Nat} (hm : m ≤ 5) (h6 : μ.1 4 4 6 = nI m) (h1 : m = 0 → K 1 μ) (h0 : m ≠ 0 → K 0 μ) : CS G m_St_isEmpty [vr 4 4] μ (RI K) := by
  refine c_St_isEmpty _ ?_
  rw [h6]
  exact iEq (b := 0) (by omega) (by decide) (fun q => ⟨z01, h1 q⟩) fun q => ⟨z00, h0 q⟩
theorem read39 (ht : t < 4) (hn : n ≤ 60) : ∀ (u : Nat) {p m : Nat} {T : Tq} {μ : Mm}, u + m = 6 → m ≤ 5 → p ≤ n → Tx t n f μ → Rp t p μ → Hq m T μ → (∀ μ1, Fr pQ μ μ1 → ((hl f n u p m T).1 = -9 → Hq (hl f n u p m T).2.1 (hl f n u p m T).2.2 μ1) → K (hl f n u p m T).1 μ1) → SS G m_Re_read 39 [vr 2 0, vr 8 t, vi (nI m)] [] μ (RI K)
  | 0, p, m, T, μ, e, hm, hp, hX, hR, hH, hK => by omega
  | u + 1, p, m, T, μ, e, hm, hp, hX, hR, hH, hK => by
    refine b_Re_read_39 _ _ (iF (nI_ge (b := 60) (by omega) (by omega)) ?_)
    rw [hX.1, hR.2]
    by_cases c1 : n ≤ p
    · rw [hl_end c1] at hK
      refine iLeT (by omega) c1 (empty_4 hm hH.1 (fun q => i1 ?_) fun q => i0 ?_)
      · rw [if_pos q] at hK
        rw [hR.2]
        exact hK μ Fr.rf (fun z => absurd z (nI_m9 (by omega)))
      · rw [if_neg q] at hK
        exact hK μ Fr.rf (fun _ => hH)
    refine iLeF (by omega) (by omega) ?_
    rw [hH.1]
    by_cases c2 : 5 ≤ m
    · rw [hl_full c1 c2] at hK
      exact iLeT (a := 5) (by omega) c2 (hK μ Fr.rf (fun z => absurd z (nI_m9 (by omega))))
    refine iLeF (a := 5) (by omega) (by omega) (rdHouse ht hn (by omega) (by omega) hX hR hH.1 (fun hk => i0 ?_) (fun k hk f1 μ1 hR1 F1 => i0 ?_) (fun k hk f1 f2 μ1 hR1 F1 => i0 ?_) fun k hk f1 f2 μ1 hR1 g6 g0 g1 g2 gx F1 => i1 ?_)
    · rw [hl_no c1 hk] at hK
      rw [hR.2]
      exact hK μ Fr.rf (fun z => absurd z (nI_m9 (by omega)))
    · rw [hl_1 c1 c2 hk f1] at hK
      rw [hR1.2]
      exact hK μ1 (F1.mono fun _ _ _ => pP_Q) (fun z => absurd z (nI_m9 (by omega)))
    · rw [hl_2 c1 c2 hk f1 f2] at hK
      have := (fg_dg f1).1
      rw [hR1.2]
      exact hK μ1 (F1.mono fun _ _ _ => pP_Q) (fun z => absurd z (nI_m9 (by omega)))
    · rw [hl_3 c1 c2 hk f1 f2] at hK
      have hp3 := (fg_dg f2).1
      have hX1 := hX.fr (F1.mono fun _ _ _ => pQ_Z)
      refine skipB_s ht hn (by omega) hX1 hR1 fun μ2 hR2 F2 => ?_
      rw [nI_1]
      have hH2 : Hq (m + 1) (tput T m k (dg f (p + 1)) (dg f (p + 2))) μ1 := by
        refine ⟨g6, fun h hh => ?_⟩
        show _ = nI (uf T.1 m k h) ∧ _ = nI (uf T.2.1 m (dg f (p + 1)) h) ∧ _ = nI (uf T.2.2 m (dg f (p + 2)) h)
        by_cases y : h = m
        · subst y
          rw [uf_s, uf_s, uf_s]
          exact ⟨g0, g1, g2⟩
        · rw [uf_n y, uf_n y, uf_n y, gx _ (by omega)]
          exact hH.2 h (by omega)
      exact read39 ht hn u (by omega) (by omega) (skB (by omega)).2 (hX1.fr (F2.mono fun _ _ _ => pP_Z)) hR2 (hH2.fr F2) fun μ3 F3 h3 => hK μ3 (F1.tr ((F2.mono fun _ _ _ => pP_Q).tr F3)) h3
theorem read_s (ht : t < 4) (hn : n ≤ 60) (hX : Tx t n f μ) (hK : ∀ μ1, Fr pZ μ μ1 → (rdv f n = -9 → Sh (rdH f n) 4 μ1 ∧ Sd (rdH f n) (rdc f n) 4 μ1) → K (rdv f n) μ1) : CS G m_Re_read [vr 2 0, vr 8 t] μ (RI K) := by
  refine c_Re_read _ (c_St_clear _ ?_)
  have F0 : Fr pZ μ (wI (wI (wI (wI (wI (wI μ 2 0 1 (nI (t + 1))) 2 0 2 0) 4 4 5 0) 4 4 6 0) 4 4 7 0) 4 4 8 0) := (((((Fr.rf.wI rfl).wI rfl).wI rfl).wI rfl).wI rfl).wI rfl
  have hR0 : Rp t 0 (wI (wI (wI (wI (wI (wI μ 2 0 1 (nI (t + 1))) 2 0 2 0) 4 4 5 0) 4 4 6 0) 4 4 7 0) 4 4 8 0) := by
    refine ⟨?_, ?_⟩
    · rw [wI_k _ _ (by decide), wI_k _ _ (by decide), wI_k _ _ (by decide), wI_k _ _ (by decide), wI_n _ _ _ _ (by decide), wI_s]
    · rw [wI_k _ _ (by decide), wI_k _ _ (by decide), wI_k _ _ (by decide), wI_k _ _ (by decide), wI_s]
      rfl
  have e5 : (wI (wI (wI (wI (wI (wI μ 2 0 1 (nI (t + 1))) 2 0 2 0) 4 4 5 0) 4 4 6 0) 4 4 7 0) 4 4 8 0).1 4 4 5 = nI 0 := by
    rw [wI_n _ _ _ _ (by decide), wI_n _ _ _ _ (by decide), wI_n _ _ _ _ (by decide), wI_s]
    rfl
  have e6 : (wI (wI (wI (wI (wI (wI μ 2 0 1 (nI (t + 1))) 2 0 2 0) 4 4 5 0) 4 4 6 0) 4 4 7 0) 4 4 8 0).1 4 4 6 = nI 0 := by
    rw [wI_n _ _ _ _ (by decide), wI_n _ _ _ _ (by decide), wI_s]
    rfl
  have e8 : (wI (wI (wI (wI (wI (wI μ 2 0 1 (nI (t + 1))) 2 0 2 0) 4 4 5 0) 4 4 6 0) 4 4 7 0) 4 4 8 0).1 4 4 8 = nI 0 := by
    rw [wI_s]
    rfl
  generalize wI (wI (wI (wI (wI (wI μ 2 0 1 (nI (t + 1))) 2 0 2 0) 4 4 5 0) 4 4 6 0) 4 4 7 0) 4 4 8 0 = μ0 at F0 hR0 e5 e6 e8 ⊢
  have hX0 := hX.fr F0
  refine skipB_s ht hn (by omega) hX0 hR0 fun μ1 hR1 F1 => ?_
  have F01 : Fr pZ μ μ1 := F0.tr (F1.mono fun _ _ _ => pP_Z)
  have hX1 := hX.fr F01
  have hb := skB (f := f) (n := n) (p := 0) (by omega)
  refine c_Re_readNights (sign_s ht hn hb.2 hX1 hR1 ?_)
  have no : ¬ (sk f n 0 < n ∧ f (sk f n 0) = 110) → K (nI (sk f n 0)) μ1 := fun q => by
    have hK2 := hK μ1 F01
    unfold rdv at hK2
    rw [if_neg q] at hK2
    exact hK2 (fun z => absurd z (nI_m9 (by omega)))
  unfold sg
  by_cases c0 : sk f n 0 < n
  · rw [if_pos c0]
    refine iB (fun c1 => ?_) fun c1 => ⟨z00, i0 ?_⟩
    · rw [hR1.2, nI_1]
      have F2 : Fr pP μ1 (wI μ1 2 0 2 (nI (sk f n 0 + 1))) := Fr.rf.wI rfl
      have hX2 := hX1.fr (F2.mono fun _ _ _ => pP_Z)
      refine ngt23 ht hn (sk f n 0 + 1) 8 (i := 0) rfl (by omega) hX2 hR1.to (F2.it rfl (F1.it rfl e5)) (fun x hx => absurd hx (by omega)) fun μ2 g1 g2 g3 F3 => ?_
      have g1 : Rp t (sk f n 0 + 1 + (0 + rdN f n)) μ2 := g1
      have g2 : μ2.1 4 4 5 = nI (0 + rdN f n) := g2
      have g3 : ∀ x, x < 0 + rdN f n → μ2.1 20 4 x = nI (dg f (sk f n 0 + 1 + x)) := g3
      show if (if 0 + rdN f n = 0 then (0 : Int32) else 1) = 0 then _ else _
      rw [Nat.zero_add] at g1 g2 g3 ⊢
      have F02 : Fr pZ μ μ2 := F01.tr ((F2.mono fun _ _ _ => pP_Z).tr (F3.mono fun _ _ _ => pJ_Z))
      have hX3 := hX.fr F02
      have h6 : μ2.1 4 4 6 = nI 0 := F3.it rfl (F2.it rfl (F1.it rfl e6))
      have h8 : μ2.1 4 4 8 = nI 0 := F3.it rfl (F2.it rfl (F1.it rfl e8))
      have hq := (ngt_ok (f := f) (n := n) 8 (p := sk f n 0 + 1)).2.2 (by omega)
      by_cases c2 : rdN f n = 0
      · rw [if_pos c2, g1.2]
        have hK2 := hK μ2 F02
        unfold rdv at hK2
        rw [if_pos ⟨c0, c1⟩, if_pos c2] at hK2
        rw [c2]
        exact i0 (hK2 (fun z => absurd z (nI_m9 (by omega))))
      · rw [if_neg c2]
        refine i1 (skipB_s ht hn hq hX3 g1 fun μ3 hR4 F4 => ?_)
        have F03 : Fr pZ μ μ3 := F02.tr (F4.mono fun _ _ _ => pP_Z)
        refine read39 ht hn 6 (m := 0) (T := T0) rfl (by decide) (skB hq).2 (hX.fr F03) hR4 ⟨F4.it rfl h6, fun h hh => absurd hh (by omega)⟩ fun μ4 F5 hH => ?_
        have hK2 := hK μ4 (F03.tr (F5.mono fun _ _ _ => pQ_Z))
        have ev : rdv f n = (rdr f n).1 := by
          unfold rdv
          rw [if_pos ⟨c0, c1⟩, if_neg c2]
        rw [ev] at hK2
        refine hK2 fun z => ?_
        have hH := hH z
        refine ⟨⟨hH.1, F5.it (decide_eq_false (by omega)) (F4.it rfl g2), hH.2⟩, F5.it (decide_eq_false (by omega)) (F4.it rfl h8), fun x hx => F5.it (decide_eq_false (by omega)) (F4.it rfl (g3 x hx)), fun j hj => absurd hj (by show ¬ j < 0; omega)⟩
    · rw [hR1.2]
      exact no fun q => c1 q.2
  · rw [if_neg c0, hR1.2]
    exact iF (by decide) ⟨z00, i0 (no fun q => c0 q.1)⟩
end P46
