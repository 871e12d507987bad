/-! the reference's reader -/
def Ty (t n : Nat) (f : Nat → Int32) (μ : Mm) : Prop := μ.1 30 0 t = nI n ∧ ∀ j, j < n → μ.1 31 0 (60 * t + j) = f j
def Rmo (p m N : Nat) (μ : Mm) : Prop := μ.1 7 0 15 = nI p ∧ μ.1 7 0 16 = nI m ∧ μ.1 7 0 17 = nI N
def pU : Nat → Nat → Nat → Bool := fun k _ s => decide (k = 7 ∧ s = 15)
def pV : Nat → Nat → Nat → Bool := fun k _ s => decide ((k = 7 ∧ (s = 15 ∨ s = 16)) ∨ k = 35)
def pW : Nat → Nat → Nat → Bool := fun k _ s => decide ((k = 7 ∧ (s = 15 ∨ s = 17)) ∨ k = 36)
def pY : Nat → Nat → Nat → Bool := fun k _ s => decide ((k = 7 ∧ (s = 15 ∨ s = 16 ∨ s = 17)) ∨ k = 35 ∨ k = 36)
theorem pU_V {k x s : Nat} (h : pV k x s = false) : pU k x s = false := by
  have h := of_decide_eq_false h
  exact decide_eq_false (by omega)
theorem pU_Y {k x s : Nat} (h : pY k x s = false) : pU k x s = false := by
  have h := of_decide_eq_false h
  exact decide_eq_false (by omega)
theorem pV_Y {k x s : Nat} (h : pY k x s = false) : pV k x s = false := by
  have h := of_decide_eq_false h
  exact decide_eq_false (by omega)
theorem pW_Y {k x s : Nat} (h : pY k x s = false) : pW k x s = false := by
  have h := of_decide_eq_false h
  exact decide_eq_false (by omega)
theorem pY_11 : ∀ k x s, pY k x s = true → ar k x s = 11 := by
  intro k x s h
  have h := of_decide_eq_true h
  rcases h with ⟨rfl, rfl | rfl | rfl⟩ | rfl | rfl <;> rfl
theorem Ty.fr {t n : Nat} {f : Nat → Int32} {μ μ1 : Mm} (h : Ty t n f μ) (F : Fr pY μ μ1) : Ty t n f μ1 := ⟨F.it (decide_eq_false (by omega)) h.1, fun j hj => F.it (decide_eq_false (by omega)) (h.2 j hj)⟩
theorem Rmo.to {p m N q : Nat} {μ : Mm} (h : Rmo p m N μ) : Rmo q m N (wI μ 7 0 15 (nI q)) := ⟨wI_s _ _ _ _ _, by rw [wI_n _ _ _ _ (by decide)]; exact h.2.1, by rw [wI_n _ _ _ _ (by decide)]; exact h.2.2⟩
def sy (f : Nat → Int32) (n p : Nat) : Int32 := if p < n then f p else 0
section P47
variable {G : Ge} {μ : Mm} {V : Mm → Prop} {K : Int32 → Mm → Prop} {t n p m N : Nat} {f : Nat → Int32}
theorem byteAt_s (ht : t < 4) (hn : n ≤ 60) (hp : p ≤ n) (hX : Ty t n f μ) (hK : K (sy f n p) μ) : CS G m_Mo_byteAt [vr 7 0, vi (nI t), vi (nI p)] μ (RI K) := by
  refine c_Mo_byteAt _ _ ⟨in_nI ht (by decide), ?_⟩
  unfold sy at hK
  rw [nI_tn (n := t) (by omega), hX.1]
  refine iLe (by omega) (by omega) (fun q => ?_) fun q => ?_
  · rw [if_neg (by omega)] at hK
    exact hK
  · rw [if_pos q] at hK
    rw [show (60 : Int32) * nI t = nI (60 * t) from nI_mul 60 t, nI_add, nI_tn (by omega), hX.2 p q]
    exact ⟨in_nI (by omega) (by decide), hK⟩
theorem figM_s (ht : t < 4) (hn : n ≤ 60) (hp : p ≤ n) (hX : Ty t n f μ) (e : μ.1 7 0 15 = nI p) (h1 : fg f n p = true → K 1 μ) (h0 : ¬ fg f n p = true → K 0 μ) : CS G m_Mo_isFigure [vr 7 0, vi (nI t)] μ (RI K) := by
  refine c_Mo_isFigure _ ?_
  rw [e]
  refine byteAt_s ht hn hp hX ?_
  unfold sy
  by_cases h : p < n
  · rw [if_pos h]
    exact c_Mo_in _ _ _ (iB (fun q => ⟨z00, z00, h0 fun y => (of_decide_eq_true y).2.1 q⟩) fun q => iB (fun q2 => ⟨z00, z00, h0 fun y => (of_decide_eq_true y).2.2 q2⟩) fun q2 => ⟨z01, z01, h1 (decide_eq_true ⟨h, q, q2⟩)⟩)
  · rw [if_neg h]
    exact c_Mo_in _ _ _ (iT (by decide) ⟨z00, z00, h0 fun y => h (of_decide_eq_true y).1⟩)
theorem kindOf_s (x : Int32) (hK : K (kdI x) μ) : CS G m_Mo_kindOf [vi x] μ (RI K) := by
  refine c_Mo_kindOf _ (iB (fun q => ?_) fun q1 => iB (fun q => ?_) fun q2 => iB (fun q => ?_) fun q3 => iB (fun q => ?_) fun q4 => iB (fun q => ?_) fun q5 => iB (fun q => ?_) fun q6 => ?_)
  · subst q
    exact hK
  · subst q
    exact hK
  · subst q
    exact hK
  · subst q
    exact hK
  · subst q
    exact hK
  · subst q
    exact hK
  · have : kd x = none := by
      unfold kd
      rw [if_neg q2, if_neg q5, if_neg q4, if_neg q3, if_neg q6, if_neg q1]
    rw [kd_none this] at hK
    exact hK
theorem ngt26 (ht : t < 4) (hn : n ≤ 60) (q : Nat) : ∀ (d : Nat) {i : Nat} {μ : Mm}, 8 = i + d → q + i ≤ n → Ty t n f μ → Rmo (q + i) 0 i μ → (∀ x, x < i → μ.1 36 0 x = nI (dg f (q + x))) → (∀ μ1, Rmo (q + (i + ngt f n d (q + i))) 0 (i + ngt f n d (q + i)) μ1 → (∀ x, x < i + ngt f n d (q + i) → μ1.1 36 0 x = nI (dg f (q + x))) → Fr pW μ μ1 → (i + ngt f n d (q + i) = 0 ∨ fg f n (q + (i + ngt f n d (q + i))) = true → K 0 μ1) ∧ (i + ngt f n d (q + i) ≠ 0 → ¬ fg f n (q + (i + ngt f n d (q + i))) = true → K 1 μ1)) → SS G m_Mo_readsNights 26 [vr 7 0, vi (nI t)] [] μ (RI K)
  | 0, i, μ, e, hp, hX, hR, hc, hK => by
    have : i = 8 := by omega
    subst this
    have hk : (8 = 0 ∨ fg f n (q + 8) = true → K 0 μ) ∧ (8 ≠ 0 → ¬ fg f n (q + 8) = true → K 1 μ) := hK μ hR hc Fr.rf
    refine b_Mo_readsNights_26 _ ?_
    refine figM_s ht hn hp hX hR.1 (fun hf => i1 ?_) fun hf => i0 ?_
    · rw [hR.2.2]
      exact iT (by decide) (iF (by decide) (figM_s ht hn hp hX hR.1 (fun hf => i1 ⟨z00, hk.1 (Or.inr hf)⟩) fun hf2 => absurd hf hf2))
    · rw [hR.2.2]
      exact iF (by decide) (figM_s ht hn hp hX hR.1 (fun hf2 => absurd hf2 hf) fun hf => i0 ⟨z01, hk.2 (by decide) hf⟩)
  | d + 1, i, μ, e, hp, hX, hR, hc, hK => by
    have hK2 : ∀ μ1, Rmo (q + (i + (if fg f n (q + i) = true then 1 + ngt f n d (q + i + 1) else 0))) 0 (i + (if fg f n (q + i) = true then 1 + ngt f n d (q + i + 1) else 0)) μ1 → (∀ x, x < i + (if fg f n (q + i) = true then 1 + ngt f n d (q + i + 1) else 0) → μ1.1 36 0 x = nI (dg f (q + x))) → Fr pW μ μ1 → (i + (if fg f n (q + i) = true then 1 + ngt f n d (q + i + 1) else 0) = 0 ∨ fg f n (q + (i + (if fg f n (q + i) = true then 1 + ngt f n d (q + i + 1) else 0))) = true → K 0 μ1) ∧ (i + (if fg f n (q + i) = true then 1 + ngt f n d (q + i + 1) else 0) ≠ 0 → ¬ fg f n (q + (i + (if fg f n (q + i) = true then 1 + ngt f n d (q + i + 1) else 0))) = true → K 1 μ1) := hK
    refine b_Mo_readsNights_26 _ (figM_s ht hn hp hX hR.1 (fun hf => i1 ?_) fun hf => i0 ?_)
    · simp only [if_pos hf] at hK2
      obtain ⟨g1, g2, g3⟩ := fg_dg hf
      rw [hR.2.2, hR.1, nI_tn (by omega)]
      refine iF (nI_ge (b := 8) (by omega) (by omega)) (byteAt_s ht hn hp hX ⟨in_nI (by omega) (by decide), ?_⟩)
      unfold sy
      rw [if_pos g1, wI_n (s' := 15) _ _ _ _ (by decide), wI_k (k' := 7) _ _ (by decide), hR.2.2, hR.1, nI_1, nI_1, g3, show nI (48 + dg f (q + i)) - 48 = nI (48 + dg f (q + i) - 48) from nI_sub (b := 48) (by omega), show 48 + dg f (q + i) - 48 = dg f (q + i) by omega]
      have F : Fr pW μ (wI (wI (wI μ 36 0 i (nI (dg f (q + i)))) 7 0 17 (nI (i + 1))) 7 0 15 (nI (q + i + 1))) := ((Fr.rf.wI rfl).wI rfl).wI rfl
      refine ngt26 ht hn q d (i := i + 1) (by omega) (by omega) (hX.fr (F.mono fun _ _ _ => pW_Y)) ⟨?_, ?_, ?_⟩ (fun x hx => ?_) fun μ1 k1 k3 k4 => ?_
      · rw [wI_s]
        rfl
      · rw [wI_n _ _ _ _ (by decide), wI_n _ _ _ _ (by decide), wI_k _ _ (by decide)]
        exact hR.2.1
      · rw [wI_n _ _ _ _ (by decide), wI_s]
      · rw [wI_k _ _ (by decide), wI_k _ _ (by decide)]
        by_cases y : x = i
        · subst y
          rw [wI_s]
        · rw [wI_n _ _ _ _ y]
          exact hc x (by omega)
      · have ee : i + (1 + ngt f n d (q + i + 1)) = i + 1 + ngt f n d (q + (i + 1)) := by rw [Nat.add_assoc q i 1, Nat.add_assoc]
        rw [ee] at hK2
        exact hK2 μ1 k1 k3 (F.tr k4)
    · simp only [if_neg hf] at hK2
      have hk : (i = 0 ∨ fg f n (q + i) = true → K 0 μ) ∧ (i ≠ 0 → ¬ fg f n (q + i) = true → K 1 μ) := hK2 μ hR hc Fr.rf
      rw [hR.2.2]
      by_cases y : i = 0
      · subst y
        exact iT (by decide) ⟨z00, hk.1 (Or.inl rfl)⟩
      · exact iF (nI_nle (by omega) (by omega)) (figM_s ht hn hp hX hR.1 (fun hf2 => absurd hf2 hf) fun hf => i0 ⟨z01, hk.2 y hf⟩)
def Hm (m : Nat) (T : Tq) (μ : Mm) : Prop := ∀ h, h < m → μ.1 35 0 (3 * h) = nI (T.1 h) ∧ μ.1 35 0 (3 * h + 1) = nI (T.2.1 h) ∧ μ.1 35 0 (3 * h + 2) = nI (T.2.2 h)
theorem rdHouseM {T : Tq} (ht : t < 4) (hn : n ≤ 60) (hp : p < n) (hm : m ≤ 5) (hX : Ty t n f μ) (hR : Rmo p m N μ) (hT : Hm m T μ)
    (h0 : kd (f p) = none → K 0 μ) (h5 : m = 5 → K 0 μ) (h1 : m ≠ 5 → ∀ k, kd (f p) = some k → ¬ fg f n (p + 1) = true → ∀ μ1, Rmo (p + 1) m N μ1 → Fr pV μ μ1 → K 0 μ1) (h2 : m ≠ 5 → ∀ k, kd (f p) = some k → fg f n (p + 1) = true → ¬ fg f n (p + 2) = true → ∀ μ1, Rmo (p + 2) m N μ1 → Fr pV μ μ1 → K 0 μ1)
    (h3 : m ≠ 5 → ∀ k, kd (f p) = some k → fg f n (p + 1) = true → fg f n (p + 2) = true → ∀ μ1, Rmo (p + 3) (m + 1) N μ1 → Hm (m + 1) (tput T m k (dg f (p + 1)) (dg f (p + 2))) μ1 → Fr pV μ μ1 → K 1 μ1) : CS G m_Mo_readsHouse [vr 7 0, vi (nI t)] μ (RI K) := by
  refine c_Mo_readsHouse _ ?_
  rw [hR.1]
  refine byteAt_s ht hn (by omega) hX ?_
  unfold sy
  rw [if_pos hp]
  refine kindOf_s _ ?_
  cases hk : kd (f p) with
  | none =>
    rw [kd_none hk]
    exact iT rfl ⟨z00, h0 hk⟩
  | some k =>
    rw [kd_some hk, hR.1, hR.2.1]
    have hk5 := kd_le hk
    refine iF (nI_m9 (by omega)) (iEq (b := 5) (by omega) (by decide) (fun q => ⟨z00, h5 q⟩) fun q => ?_)
    rw [show (3 : Int32) * nI m = nI (3 * m) from nI_mul 3 m, nI_tn (by omega), nI_1]
    refine ⟨in_nI (by omega) (by decide), ?_⟩
    have F1 : Fr pV μ (wI (wI μ 7 0 15 (nI (p + 1))) 35 0 (3 * m) (nI k)) := (Fr.rf.wI rfl).wI rfl
    have hX1 := hX.fr (F1.mono fun _ _ _ => pV_Y)
    have hR1 : Rmo (p + 1) m N (wI (wI μ 7 0 15 (nI (p + 1))) 35 0 (3 * m) (nI k)) := by
      refine ⟨?_, ?_, ?_⟩
      · rw [wI_k _ _ (by decide)]
        exact hR.to.1
      · rw [wI_k _ _ (by decide)]
        exact hR.to.2.1
      · rw [wI_k _ _ (by decide)]
        exact hR.to.2.2
    have hT1 : ∀ x, (wI (wI μ 7 0 15 (nI (p + 1))) 35 0 (3 * m) (nI k)).1 35 0 x = if x = 3 * m then nI k else μ.1 35 0 x := by
      intro x
      by_cases y : x = 3 * m
      · subst y
        rw [wI_s, if_pos rfl]
      · rw [wI_n _ _ _ _ y, wI_k _ _ (by decide), if_neg y]
    generalize wI (wI μ 7 0 15 (nI (p + 1))) 35 0 (3 * m) (nI k) = μ1 at F1 hX1 hR1 hT1 ⊢
    refine b_Mo_readsHouse_56 _ _ _ (iF (by decide) (figM_s ht hn (by omega) hX1 hR1.1 (fun f1 => i1 ?_) fun f1 => i0 ⟨z00, h1 q k hk f1 μ1 hR1 F1⟩))
    obtain ⟨a1, a2, a3⟩ := fg_dg f1
    rw [hR1.1]
    refine byteAt_s ht hn (by omega) hX1 ?_
    unfold sy
    rw [if_pos a1, wI_k (k' := 7) _ _ (by decide), hR1.1, show nI (3 * m) + 1 = nI (3 * m + 1) from nI_1 _, nI_tn (by omega), nI_1, a3, show nI (48 + dg f (p + 1)) - 48 = nI (48 + dg f (p + 1) - 48) from nI_sub (b := 48) (by omega), show 48 + dg f (p + 1) - 48 = dg f (p + 1) by omega]
    refine ⟨in_nI (by omega) (by decide), ?_⟩
    have F2 : Fr pV μ (wI (wI μ1 35 0 (3 * m + 1) (nI (dg f (p + 1)))) 7 0 15 (nI (p + 1 + 1))) := (F1.wI rfl).wI rfl
    have hX2 := hX.fr (F2.mono fun _ _ _ => pV_Y)
    have hR2 : Rmo (p + 2) m N (wI (wI μ1 35 0 (3 * m + 1) (nI (dg f (p + 1)))) 7 0 15 (nI (p + 1 + 1))) := by
      refine ⟨wI_s _ _ _ _ _, ?_, ?_⟩
      · rw [wI_n _ _ _ _ (by decide), wI_k _ _ (by decide)]
        exact hR1.2.1
      · rw [wI_n _ _ _ _ (by decide), wI_k _ _ (by decide)]
        exact hR1.2.2
    have hT2 : ∀ x, (wI (wI μ1 35 0 (3 * m + 1) (nI (dg f (p + 1)))) 7 0 15 (nI (p + 1 + 1))).1 35 0 x = if x = 3 * m + 1 then nI (dg f (p + 1)) else if x = 3 * m then nI k else μ.1 35 0 x := by
      intro x
      rw [wI_k _ _ (by decide)]
      by_cases y : x = 3 * m + 1
      · subst y
        rw [wI_s, if_pos rfl]
      · rw [wI_n _ _ _ _ y, if_neg y]
        exact hT1 x
    generalize wI (wI μ1 35 0 (3 * m + 1) (nI (dg f (p + 1)))) 7 0 15 (nI (p + 1 + 1)) = μ2 at F2 hX2 hR2 hT2 ⊢
    refine b_Mo_readsHouse_56 _ _ _ (iF (by decide) (figM_s ht hn (by omega) hX2 hR2.1 (fun f2 => i1 ?_) fun f2 => i0 ⟨z00, h2 q k hk f1 f2 μ2 hR2 F2⟩))
    obtain ⟨b1, b2, b3⟩ := fg_dg f2
    rw [hR2.1]
    refine byteAt_s ht hn (by omega) hX2 ?_
    unfold sy
    rw [if_pos b1, wI_k (k' := 7) _ _ (by decide), hR2.1, show nI (3 * m) + (1 + 1) = nI (3 * m + 2) from nI_add (3 * m) 2, nI_tn (by omega), nI_1, b3, show nI (48 + dg f (p + 2)) - 48 = nI (48 + dg f (p + 2) - 48) from nI_sub (b := 48) (by omega), show 48 + dg f (p + 2) - 48 = dg f (p + 2) by omega]
    refine ⟨in_nI (by omega) (by decide), b_Mo_readsHouse_56 _ _ _ (iT (by decide) ⟨z01, ?_⟩)⟩
    have F3 : Fr pV μ (wI (wI μ2 35 0 (3 * m + 2) (nI (dg f (p + 2)))) 7 0 15 (nI (p + 2 + 1))) := (F2.wI rfl).wI rfl
    rw [wI_n (s' := 16) _ _ _ _ (by decide), wI_k (k' := 7) _ _ (by decide), hR2.2.1, nI_1]
    refine h3 q k hk f1 f2 _ ⟨?_, wI_s _ _ _ _ _, ?_⟩ (fun h hh => ?_) (F3.wI rfl)
    · rw [wI_n _ _ _ _ (by decide), wI_s]
    · rw [wI_n _ _ _ _ (by decide), wI_n _ _ _ _ (by decide), wI_k _ _ (by decide)]
      exact hR2.2.2
    · rw [wI_k _ _ (by decide), wI_k _ _ (by decide)]
      show _ = nI (uf T.1 m k h) ∧ _ = nI (uf T.2.1 m (dg f (p + 1)) h) ∧ _ = nI (uf T.2.2 m (dg f (p + 2)) h)
      by_cases y : h = m
      · subst y
        rw [uf_s, uf_s, uf_s, wI_s, wI_n _ _ _ _ (by omega), wI_n _ _ _ _ (by omega), hT2, hT2, if_neg (by omega), if_pos rfl, if_pos rfl]
        exact ⟨rfl, rfl, rfl⟩
      · rw [uf_n y, uf_n y, uf_n y, wI_n _ _ _ _ (by omega), wI_n _ _ _ _ (by omega), wI_n _ _ _ _ (by omega), hT2, hT2, hT2, if_neg (by omega), if_neg (by omega), if_neg (by omega), if_neg (by omega), if_neg (by omega), if_neg (by omega)]
        exact hT h (by omega)
theorem fo_skip (ht : t < 4) (hn : n ≤ 60) : ∀ (d : Nat) {p : Nat} {μ : Mm}, n = p + d → Ty t n f μ → Rmo p m N μ → (∀ μ1, Rmo (sk f n p) m N μ1 → Fr pU μ μ1 → SS G m_Mo_faultOf 15 [vr 7 0, vi (nI t)] [] μ1 (RI K)) → SS G m_Mo_faultOf 15 [vr 7 0, vi (nI t)] [] μ (RI K)
  | 0, p, μ, e, hX, hR, hV => hV μ (by rw [sk_end (by omega)]; exact hR) Fr.rf
  | d + 1, p, μ, e, hX, hR, hV => by
    by_cases q : f p = 32
    · refine b_Mo_faultOf_15 _ ⟨in_nI ht (by decide), ?_⟩
      rw [nI_tn (n := t) (by omega), hX.1, hR.1]
      refine iLeF (by omega) (by omega) (byteAt_s ht hn (by omega) hX ?_)
      unfold sy
      rw [if_pos (show p < n by omega), hR.1, nI_1]
      have F : Fr pU μ (wI μ 7 0 15 (nI (p + 1))) := Fr.rf.wI rfl
      refine iT q (fo_skip ht hn d (by omega) (hX.fr (F.mono fun _ _ _ => pU_Y)) hR.to fun μ1 hR1 F1 => hV μ1 ?_ (F.tr F1))
      rw [sk_b (by omega) q]
      exact hR1
    · exact hV μ (by rw [sk_n q]; exact hR) Fr.rf
theorem Hm.fr {T : Tq} {μ1 : Mm} (h : Hm m T μ) (F : Fr pU μ μ1) : Hm m T μ1 := fun x hx => ⟨F.it rfl (h x hx).1, F.it rfl (h x hx).2.1, F.it rfl (h x hx).2.2⟩
theorem foL (ht : t < 4) (hn : n ≤ 60) (hN : 0 < N) (hN8 : N ≤ 8) : ∀ (u : Nat) {p m : Nat} {T : Tq} {μ : Mm}, u + m = 6 → m ≤ 5 → p ≤ n → (p < n → f p ≠ 32) → Ty t n f μ → Rmo p m N μ → Hm m T μ → (∀ μ1, Fr pV μ μ1 → ((hl f n u p m T).1 = -9 → μ1.1 7 0 16 = nI (hl f n u p m T).2.1 ∧ Hm (hl f n u p m T).2.1 (hl f n u p m T).2.2 μ1) → K (hl f n u p m T).1 μ1) → SS G m_Mo_faultOf 15 [vr 7 0, vi (nI t)] [] μ (RI K)
  | 0, p, m, T, μ, e, hm, hp, hb, hX, hR, hT, hK => by omega
  | u + 1, p, m, T, μ, e, hm, hp, hb, hX, hR, hT, hK => by
    refine b_Mo_faultOf_15 _ ⟨in_nI ht (by decide), ?_⟩
    rw [nI_tn (n := t) (by omega), hX.1, hR.1, hR.2.1]
    by_cases c1 : n ≤ p
    · rw [hl_end c1] at hK
      refine iLeT (by omega) c1 (iEq (b := 0) (by omega) (by decide) (fun q => ⟨in_nI ht (by decide), ?_⟩) fun q => ?_)
      · rw [if_pos q] at hK
        rw [show n = p by omega]
        exact hK μ Fr.rf (fun z => absurd z (nI_m9 (by omega)))
      · rw [if_neg q] at hK
        exact hK μ Fr.rf (fun _ => ⟨hR.2.1, hT⟩)
    refine iLeF (by omega) (by omega) (byteAt_s ht hn hp hX ?_)
    unfold sy
    rw [if_pos (show p < n by omega), hR.2.2]
    refine iF (hb (by omega)) (iF (nI_ne0 hN (by omega)) (rdHouseM ht hn (by omega) hm hX hR hT (fun hk => i0 ?_) (fun q => i0 ?_) (fun q k hk f1 μ1 hR1 F1 => i0 ?_) (fun q k hk f1 f2 μ1 hR1 F1 => i0 ?_) fun q k hk f1 f2 μ1 hR1 hT1 F1 => i1 ?_))
    · rw [hl_no c1 hk] at hK
      rw [hR.1]
      exact hK μ Fr.rf (fun z => absurd z (nI_m9 (by omega)))
    · rw [hl_full c1 (by omega)] at hK
      rw [hR.1]
      exact hK μ Fr.rf (fun z => absurd z (nI_m9 (by omega)))
    · rw [hR1.1]
      rw [hl_1 c1 (by omega) hk f1] at hK
      exact hK μ1 F1 (fun z => absurd z (nI_m9 (by omega)))
    · have := (fg_dg f1).1
      rw [hR1.1]
      rw [hl_2 c1 (by omega) hk f1 f2] at hK
      exact hK μ1 F1 (fun z => absurd z (nI_m9 (by omega)))
    · rw [hl_3 c1 (by omega) hk f1 f2] at hK
      have hp3 := (fg_dg f2).1
      have hX1 := hX.fr (F1.mono fun _ _ _ => pV_Y)
      refine fo_skip ht hn (n - (p + 3)) (by omega) hX1 hR1 fun μ2 hR2 F2 => ?_
      exact foL ht hn hN hN8 u (by omega) (by omega) (skB (by omega)).2 (sk_ne (n - (p + 3)) (by omega)) (hX1.fr (F2.mono fun _ _ _ => pU_Y)) hR2 (hT1.fr F2) fun μ3 F3 h3 => hK μ3 (F1.tr ((F2.mono fun _ _ _ => pU_V).tr F3)) h3
end P47
