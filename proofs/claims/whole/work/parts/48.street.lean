/-! fault, street -/
section P48
variable {G : Ge} {μ : Mm} {V : Mm → Prop} {K : Int32 → Mm → Prop} {t n : Nat} {f : Nat → Int32}
/-- what the reference has read -/
def Rh (H : Hs) (c : Sc) (μ : Mm) : Prop := μ.1 7 0 16 = nI (hn H) ∧ μ.1 7 0 17 = nI (hN H) ∧ (∀ h, h < hn H → μ.1 35 0 (3 * h) = nI (hk H h) ∧ μ.1 35 0 (3 * h + 1) = nI (hw H h) ∧ μ.1 35 0 (3 * h + 2) = nI (ho H h)) ∧ ∀ x, x < hN H → μ.1 36 0 x = nI (cc c x)
theorem faultOf_s (ht : t < 4) (hn : n ≤ 60) (hX : Ty t n f μ) (hK : ∀ μ1, Fr pY μ μ1 → (rdv f n = -9 → Rh (rdH f n) (rdc f n) μ1) → K (rdv f n) μ1) : CS G m_Mo_faultOf [vr 7 0, vi (nI t)] μ (RI K) := by
  refine c_Mo_faultOf _ ?_
  have F0 : Fr pY μ (wI (wI (wI μ 7 0 15 0) 7 0 16 0) 7 0 17 0) := ((Fr.rf.wI rfl).wI rfl).wI rfl
  have hR0 : Rmo 0 0 0 (wI (wI (wI μ 7 0 15 0) 7 0 16 0) 7 0 17 0) := by
    refine ⟨?_, ?_, ?_⟩
    · rw [wI_n _ _ _ _ (by decide), wI_n _ _ _ _ (by decide), wI_s]
      rfl
    · rw [wI_n _ _ _ _ (by decide), wI_s]
      rfl
    · rw [wI_s]
      rfl
  generalize wI (wI (wI μ 7 0 15 0) 7 0 16 0) 7 0 17 0 = μ0 at F0 hR0 ⊢
  have hX0 := hX.fr F0
  refine fo_skip ht hn n (p := 0) (by omega) hX0 hR0 fun μ1 hR1 F1 => ?_
  have F01 : Fr pY μ μ1 := F0.tr (F1.mono fun _ _ _ => pU_Y)
  have hX1 := hX.fr F01
  have hb := skB (f := f) (n := n) (p := 0) (by omega)
  have no : ¬ (sk f n 0 < n ∧ f (sk f n 0) = 110) → K (nI (sk f n 0)) μ1 := fun q => by
    have hK2 := hK μ1 F01
    unfold rdv at hK2
    rw [if_neg q] at hK2
    exact hK2 (fun z => absurd z (nI_m9 (by omega)))
  refine b_Mo_faultOf_15 _ ⟨in_nI ht (by decide), ?_⟩
  rw [nI_tn (n := t) (by omega), hX1.1, hR1.1, hR1.2.1]
  by_cases c0 : sk f n 0 < n
  · refine iLeF (by omega) (by omega) (byteAt_s ht hn hb.2 hX1 ?_)
    unfold sy
    rw [if_pos c0, hR1.2.2]
    refine iF (sk_ne n (p := 0) (by omega) c0) (iT rfl (c_Mo_readsNights _ ?_))
    rw [hR1.1]
    refine byteAt_s ht hn hb.2 hX1 ?_
    unfold sy
    rw [if_pos c0]
    refine iB (fun c1 => ?_) fun c1 => ⟨z00, i0 ?_⟩
    · rw [hR1.1, nI_1]
      have F2 : Fr pU μ1 (wI μ1 7 0 15 (nI (sk f n 0 + 1))) := Fr.rf.wI rfl
      have hX2 := hX1.fr (F2.mono fun _ _ _ => pU_Y)
      refine ngt26 ht hn (sk f n 0 + 1) 8 (i := 0) rfl (by omega) hX2 hR1.to (fun x hx => absurd hx (by omega)) fun μ2 g1 g3 F3 => ?_
      have g1 : Rmo (sk f n 0 + 1 + (0 + rdN f n)) 0 (0 + rdN f n) μ2 := g1
      have g3 : ∀ x, x < 0 + rdN f n → μ2.1 36 0 x = nI (dg f (sk f n 0 + 1 + x)) := g3
      show (0 + rdN f n = 0 ∨ fg f n (sk f n 0 + 1 + (0 + rdN f n)) = true → _) ∧ (0 + rdN f n ≠ 0 → ¬ fg f n (sk f n 0 + 1 + (0 + rdN f n)) = true → _)
      rw [Nat.zero_add] at g1 g3 ⊢
      have F02 : Fr pY μ μ2 := F01.tr ((F2.mono fun _ _ _ => pU_Y).tr (F3.mono fun _ _ _ => pW_Y))
      have hX3 := hX.fr F02
      obtain ⟨n1, n2, n3⟩ := ngt_ok (f := f) (n := n) 8 (p := sk f n 0 + 1)
      have hq : sk f n 0 + 1 + rdN f n ≤ n := n3 (by omega)
      refine ⟨fun q => i0 ?_, fun q1 q2 => i1 ?_⟩
      · have hK2 := hK μ2 F02
        unfold rdv at hK2
        rw [g1.1]
        rw [if_pos ⟨c0, c1⟩] at hK2
        by_cases c2 : rdN f n = 0
        · rw [if_pos c2] at hK2
          rw [c2]
          exact hK2 (fun z => absurd z (nI_m9 (by omega)))
        · have q : fg f n (sk f n 0 + 1 + rdN f n) = true := q.resolve_left c2
          have hlt := (fg_dg q).1
          have er : (rdr f n).1 = nI (sk f n 0 + 1 + rdN f n) := by
            unfold rdr
            rw [sk_n (kd_fig q).2, hl_no (by omega) (kd_fig q).1]
          rw [if_neg c2, er] at hK2
          exact hK2 (fun z => absurd z (nI_m9 (by omega)))
      · refine fo_skip ht hn (n - (sk f n 0 + 1 + rdN f n)) (by omega) hX3 g1 fun μ3 hR4 F4 => ?_
        have F03 : Fr pY μ μ3 := F02.tr (F4.mono fun _ _ _ => pU_Y)
        refine foL ht hn (Nat.pos_of_ne_zero q1) n1 6 (m := 0) (T := T0) rfl (by decide) (skB hq).2 (sk_ne (p := sk f n 0 + 1 + rdN f n) (n - (sk f n 0 + 1 + rdN f n)) (by omega)) (hX.fr F03) hR4 (fun h hh => absurd hh (by omega)) fun μ4 F5 hH => ?_
        have hK2 := hK μ4 (F03.tr (F5.mono fun _ _ _ => pV_Y))
        have ev : rdv f n = (rdr f n).1 := by
          unfold rdv
          rw [if_pos ⟨c0, c1⟩, if_neg q1]
        rw [ev] at hK2
        refine hK2 fun z => ?_
        have hH := hH z
        exact ⟨hH.1, F5.it rfl hR4.2.2, hH.2, fun x hx => F5.it rfl (F4.it rfl (g3 x hx))⟩
    · rw [hR1.1]
      exact no fun q => c1 q.2
  · refine iLeT (by omega) (by omega) (iT rfl ⟨in_nI ht (by decide), ?_⟩)
    rw [show n = sk f n 0 by omega]
    exact no fun q => c0 q.1
end P48
section Q48
variable {G : Ge} {μ : Mm} {K : Int32 → Mm → Prop}
theorem Fr.fa5 {μ1 : Mm} (F : Fr pZ μ μ1) : Fa (L1 5) μ μ1 := F.faB pZ_5
theorem Fr.fa11 {μ1 : Mm} (F : Fr pY μ μ1) : Fa (L1 11) μ μ1 := F.faB pY_11
theorem two_fault (x1 : Int32) : Two G m_Cs_fault m_Mo_fault [vr 6 0, vi x1] [vr 7 0, vi x1] := by
  intro μ L ⟨a, hA, hC, hM⟩ hL
  by_cases h1 : rg x1 4
  · obtain ⟨r, hr, rfl⟩ := h1
    have e1 := (hC.2.2.1 r hr).1
    have hz := hA.2.1 r hr
    cases hq : (aX a).1 r with
    | zero =>
      rw [hq] at e1
      refine c_Cs_fault _ (noText_T hr (i0 ⟨in_nI hr (by decide), ?_⟩))
      rw [nI_tn (by omega)]
      refine misT_T e1 (i1 (both_meet (f := 1) (by decide) hA hC hM hL fun μ1 K1 hM1 h => ?_))
      refine c_Mo_fault _ (isText_T hr (i1 ⟨in_nI hr (by decide), ?_⟩))
      rw [nI_tn (by omega), (hM1.2.2.1 r hr).1, hq]
      exact iF (by decide) h
    | succ n =>
      rw [hq] at e1 hz
      have e1 : μ.1 8 r 1 = nI n := e1
      refine c_Cs_fault _ (noText_T hr (i0 ⟨in_nI hr (by decide), ?_⟩))
      rw [nI_tn (by omega)]
      refine misT_F e1 (by omega) (i0 ⟨in_nI hr (by decide), ?_⟩)
      refine read_s (f := (aX a).2 r) hr (by omega) ⟨e1, fun j hj => (hC.2.2.1 r hr).2 j (by omega)⟩ fun μ1 F1 _ => ?_
      have hM1 := hM.fa F1.fa5 (L1_M (by decide))
      have hC1 := hC.fa hA F1.fa5 L1_5
      refine c_Mo_fault _ (isText_T hr (i1 ⟨in_nI hr (by decide), ?_⟩))
      rw [nI_tn (by omega), (hM1.2.2.1 r hr).1, hq]
      refine iN0 (a := n) (by omega) (faultOf_s (n := n) (f := (aX a).2 r) hr (by omega) ⟨?_, fun j hj => (hM1.2.2.1 r hr).2 j (by omega)⟩ fun μ2 F2 _ => hL _ _ ⟨a, hA, hC1.fa hA F2.fa11 (L1_C (by decide)), hM1.fa F2.fa11 L1_W⟩)
      rw [(hM1.2.2.1 r hr).1, hq]
      rfl
  · exact c_Cs_fault _ (noText_F h1 (i1 (c_Mo_fault _ (isText_F h1 (i0 (hL _ _ ⟨a, hA, hC, hM⟩))))))
/-! a new street -/
theorem clr65 : ∀ (d : Nat) {k : Nat} {μ : Mm}, 3 = k + d → (∀ j, j < k → μ.1 4 (j + 1) 6 = 0) → (∀ μ1, (∀ j, j < 3 → μ1.1 4 (j + 1) 6 = 0) → Fr (fun k x _ => decide (k = 4 ∧ 1 ≤ x ∧ x < 4)) μ μ1 → K (μ1.1 4 0 6) μ1) → SS G m_Cs_street 65 [vr 6 0, un, vi (nI k)] [] μ (RI K)
  | 0, k, μ, e, hz, hK => by
    have : k = 3 := by omega
    subst this
    exact b_Cs_street_65 _ (iT (by decide) (hK μ hz Fr.rf))
  | d + 1, k, μ, e, hz, hK => by
    refine b_Cs_street_65 _ (iF (nI_ge (b := 3) (by omega) (by omega)) ⟨in_nI (by omega) (by decide), c_St_clear _ ?_⟩)
    rw [nI_tn (by omega), Nat.add_comm 1 k, nI_1]
    have hp : ∀ s, (fun k x (_ : Nat) => decide (k = 4 ∧ 1 ≤ x ∧ x < 4)) 4 (k + 1) s = true := fun s => decide_eq_true (by omega)
    have F : Fr (fun k x _ => decide (k = 4 ∧ 1 ≤ x ∧ x < 4)) μ (wI (wI (wI (wI μ 4 (k + 1) 5 0) 4 (k + 1) 6 0) 4 (k + 1) 7 0) 4 (k + 1) 8 0) := (((Fr.rf.wI (hp 5)).wI (hp 6)).wI (hp 7)).wI (hp 8)
    refine clr65 d (by omega) (fun j hj => ?_) fun μ1 h1 F1 => hK μ1 h1 (F.tr F1)
    by_cases y : j = k
    · subst y
      rw [wI_n _ _ _ _ (by decide), wI_n _ _ _ _ (by decide), wI_s]
    · have ne : j + 1 ≠ k + 1 := by omega
      rw [wI_i _ _ _ ne, wI_i _ _ _ ne, wI_i _ _ _ ne, wI_i _ _ _ ne]
      exact hz j (by omega)
theorem st55 {N : Nat} (hN : N ≤ 8) (g : Nat → Int32) : ∀ (d : Nat) {x : Nat} {μ : Mm}, N = x + d → μ.1 7 0 11 = nI N → (∀ y, x ≤ y → y < N → μ.1 36 0 y = g y) → SS G m_Mo_street 83 [vr 7 0, un, vi 0] [] (aI μ 34 0 x d g) (RI K) → SS G m_Mo_street 55 [vr 7 0, un, vi (nI x)] [] μ (RI K)
  | 0, x, μ, e, h7, hg, hV => by
    rw [aI_0] at hV
    refine b_Mo_street_55 _ ?_
    rw [h7]
    exact iLeT (by omega) (by omega) hV
  | d + 1, x, μ, e, h7, hg, hV => by
    refine b_Mo_street_55 _ ?_
    rw [h7, nI_1, nI_tn (by omega)]
    refine iLeF (by omega) (by omega) ⟨in_nI (by omega) (by decide), in_nI (by omega) (by decide), st55 hN g d (by omega) (by rw [wI_k _ _ (by decide)]; exact h7) (fun y h1 h2 => by rw [wI_k _ _ (by decide)]; exact hg y (by omega) h2) ?_⟩
    rw [aI_step _ _ _ _ _ g _ (hg x (by omega) (by omega))]
    exact hV
theorem st83 : ∀ (d : Nat) {x : Nat} {μ : Mm}, 16 = x + d → SS G m_Mo_street 104 [vr 7 0, un, vi 0] [] (aI μ 37 0 x d (fun _ => 0)) (RI K) → SS G m_Mo_street 83 [vr 7 0, un, vi (nI x)] [] μ (RI K)
  | 0, x, μ, e, hV => by
    rw [aI_0] at hV
    exact b_Mo_street_83 _ (iT (nI_le (a := 16) (by omega) (by omega)) hV)
  | d + 1, x, μ, e, hV => by
    refine b_Mo_street_83 _ (iF (nI_ge (b := 16) (by omega) (by omega)) ?_)
    rw [nI_1, nI_tn (by omega)]
    refine ⟨in_nI (by omega) (by decide), st83 d (by omega) ?_⟩
    rw [aI_step _ _ _ _ _ (fun _ => 0) _ rfl]
    exact hV
def p104 : Nat → Nat → Nat → Bool := fun k _ _ => decide (k = 32 ∨ k = 33 ∨ k = 37)
/-- houses as they come in -/
def Hin (H : Hs) (h : Nat) (μ : Mm) : Prop := ∀ x, x < h → μ.1 32 0 x = nI (hk H x) ∧ μ.1 33 0 x = nI (hw H x) ∧ μ.1 37 0 x = nI (ho H x) ∧ μ.1 37 0 (10 + x) = -9
theorem st104 {H : Hs} (hH : HI H) {μ0 : Mm} (h10 : μ0.1 7 0 10 = nI (hn H)) (hr : ∀ h, h < hn H → μ0.1 35 0 (3 * h) = nI (hk H h) ∧ μ0.1 35 0 (3 * h + 1) = nI (hw H h) ∧ μ0.1 35 0 (3 * h + 2) = nI (ho H h)) (hz : ∀ x, x < 16 → μ0.1 37 0 x = 0) (hE : ∀ μ1, Hin H (hn H) μ1 → (∀ x, x < 5 → μ1.1 37 0 (5 + x) = 0) → μ1.1 37 0 15 = 0 → Fr p104 μ0 μ1 → SS G m_Mo_street 182 [vr 7 0, un, vi 0] [] (wI μ1 7 0 21 0) (RI K)) : ∀ (d : Nat) {h : Nat} {μ : Mm}, hn H = h + d → Hin H h μ → (∀ x, x < 5 → μ.1 37 0 (5 + x) = 0) → μ.1 37 0 15 = 0 → Fr p104 μ0 μ → SS G m_Mo_street 104 [vr 7 0, un, vi (nI h)] [] μ (RI K)
  | 0, h, μ, e, hi, h5, h15, F => by
    have b1 := hH.1
    refine b_Mo_street_104 _ ?_
    rw [F.it rfl h10]
    refine iLeT (by omega) (by omega) (hE μ ?_ h5 h15 F)
    rw [show hn H = h by omega]
    exact hi
  | d + 1, h, μ, e, hi, h5, h15, F => by
    have b1 := hH.1
    refine b_Mo_street_104 _ ?_
    rw [F.it rfl h10]
    refine iLeF (by omega) (by omega) ?_
    have k1 : ∀ (μ : Mm) s v, (wI μ 32 0 s v).1 35 = μ.1 35 := fun μ s v => wI_k _ _ (by decide)
    have k2 : ∀ (μ : Mm) s v, (wI μ 33 0 s v).1 35 = μ.1 35 := fun μ s v => wI_k _ _ (by decide)
    rw [show (3 : Int32) * nI h = nI (3 * h) from nI_mul 3 h, show nI (3 * h) + 1 = nI (3 * h + 1) from nI_1 _, show nI (3 * h) + 2 = nI (3 * h + 2) from nI_add _ 2, show (10 : Int32) + nI h = nI (10 + h) from nI_add 10 h, nI_1, nI_tn (n := 3 * h) (by omega), nI_tn (n := 3 * h + 1) (by omega), nI_tn (n := 3 * h + 2) (by omega), nI_tn (n := h) (by omega), nI_tn (n := 10 + h) (by omega)]
    simp only [k1, k2]
    rw [F.it rfl (hr h (by omega)).1, F.it rfl (hr h (by omega)).2.1, F.it rfl (hr h (by omega)).2.2]
    refine ⟨in_nI (by omega) (by decide), in_nI (by omega) (by decide), in_nI (by omega) (by decide), in_nI (by omega) (by decide), in_nI (by omega) (by decide), in_nI (by omega) (by decide), in_nI (by omega) (by decide), ?_⟩
    refine st104 hH h10 hr hz hE d (by omega) (fun x hx => ?_) (fun x hx => ?_) ?_ ((((F.wI rfl).wI rfl).wI rfl).wI rfl)
    · rw [wI_k (k' := 32) _ _ (by decide), wI_k (k' := 32) _ _ (by decide), wI_k (k' := 32) _ _ (by decide), wI_k (k' := 33) _ _ (by decide), wI_k (k' := 33) _ _ (by decide)]
      by_cases y : x = h
      · subst y
        rw [wI_s, wI_s, wI_s, wI_n _ _ _ _ (by omega), wI_s]
        exact ⟨rfl, rfl, rfl, rfl⟩
      · obtain ⟨g1, g2, g3, g4⟩ := hi x (by omega)
        rw [wI_n _ _ _ _ y, wI_n _ _ _ _ y, wI_k (k' := 33) _ _ (by decide), wI_n _ _ _ _ (by omega), wI_n _ _ _ _ (by omega), wI_k (k' := 37) _ _ (by decide), wI_k (k' := 37) _ _ (by decide), wI_n _ _ _ _ (by omega), wI_n _ _ _ _ (by omega), wI_k (k' := 37) _ _ (by decide), wI_k (k' := 37) _ _ (by decide)]
        exact ⟨g1, g2, g3, g4⟩
    · rw [wI_n _ _ _ _ (by omega), wI_n _ _ _ _ (by omega), wI_k (k' := 37) _ _ (by decide), wI_k (k' := 37) _ _ (by decide)]
      exact h5 x hx
    · rw [wI_n _ _ _ _ (by omega), wI_n _ _ _ _ (by omega), wI_k (k' := 37) _ _ (by decide), wI_k (k' := 37) _ _ (by decide)]
      exact h15
theorem st182 : ∀ (d : Nat) {x : Nat} {μ : Mm}, 3 = x + d → K (μ.1 7 0 10) (aI μ 39 0 x d (fun _ => 0)) → SS G m_Mo_street 182 [vr 7 0, un, vi (nI x)] [] μ (RI K)
  | 0, x, μ, e, hV => by
    rw [aI_0] at hV
    exact b_Mo_street_182 _ (iT (nI_le (a := 3) (by omega) (by omega)) hV)
  | d + 1, x, μ, e, hV => by
    refine b_Mo_street_182 _ (iF (nI_ge (b := 3) (by omega) (by omega)) ?_)
    rw [nI_1, nI_tn (by omega)]
    refine ⟨in_nI (by omega) (by decide), st182 d (by omega) ?_⟩
    rw [wI_k (k' := 7) _ _ (by decide), aI_step _ _ _ _ _ (fun _ => 0) _ (by decide)]
    exact hV
theorem two_street (x1 : Int32) : Two G m_Cs_street m_Mo_street [vr 6 0, vi x1] [vr 7 0, vi x1] := by
  intro μ L ⟨a, hA, hC, hM⟩ hL
  by_cases h1 : rg x1 4
  · obtain ⟨r, hr, rfl⟩ := h1
    have e1 := (hC.2.2.1 r hr).1
    have hz := hA.2.1 r hr
    cases hq : (aX a).1 r with
    | zero =>
      rw [hq] at e1
      refine c_Cs_street _ (noText_T hr (i0 ⟨in_nI hr (by decide), ?_⟩))
      rw [nI_tn (by omega)]
      refine misT_T e1 (i1 (both_meet (f := 1) (by decide) hA hC hM hL fun μ1 K1 hM1 h => ?_))
      refine c_Mo_street _ (isText_T hr (i1 ⟨in_nI hr (by decide), ?_⟩))
      rw [nI_tn (by omega), (hM1.2.2.1 r hr).1, hq]
      exact iF (by decide) h
    | succ n =>
      rw [hq] at e1 hz
      have e1 : μ.1 8 r 1 = nI n := e1
      have n60 : n ≤ 60 := by omega
      refine c_Cs_street _ (noText_T hr (i0 ⟨in_nI hr (by decide), ?_⟩))
      rw [nI_tn (by omega)]
      refine misT_F e1 (by omega) (i0 ⟨in_nI hr (by decide), ?_⟩)
      refine read_s (f := (aX a).2 r) hr n60 ⟨e1, fun j hj => (hC.2.2.1 r hr).2 j (by omega)⟩ fun μ1 F1 hrd => ?_
      have hM1 := hM.fa F1.fa5 (L1_M (by decide))
      have hC1 := hC.fa hA F1.fa5 L1_5
      refine iB (fun hv => ?_) fun hv => ?_
      · obtain ⟨hSh, hSd⟩ := hrd hv
        obtain ⟨hH, hc, hm1⟩ := rd_ok n60 hv
        generalize hHe : rdH ((aX a).2 r) n = H at hSh hSd hH hc
        generalize hce : rdc ((aX a).2 r) n = c at hSd hc
        have hm1 : 1 ≤ hn H := by rw [← hHe]; exact hm1
        have hD0 : cD c = 0 := by rw [← hce]; rfl
        have b1 := hH.1
        have b2 := hH.2.1
        refine take_s hH hc (by decide) hSh hSd fun μ2 kSh kSd kDy F2 => ?_
        refine clr65 3 (k := 0) rfl (fun j hj => absurd hj (by omega)) fun μ3 hk3 F3 => ?_
        have F2' : Fa (L1 3) μ1 μ2 := F2.faB pT_3
        have F3' : Fa (L1 4) μ2 μ3 := F3.faB fun k x s q => by
          obtain ⟨rfl, q1, q2⟩ := of_decide_eq_true q
          rw [show x = (x - 1) + 1 by omega]
          exact ar_4 (by omega)
        have hM3 := (hM1.fa F2' (L1_M (by decide))).fa F3' (L1_M (by decide))
        have hA3 : AI (aT a, aR a, aX a, H, c, fun _ => none) := ⟨hA.1, hA.2.1, hH, hc, fun k c' _ e => by cases e⟩
        have hC3 : RC (aT a, aR a, aX a, H, c, fun _ => none) μ3 := by
          refine ⟨(hC1.1.fa F2' rfl).fa F3' rfl, (hC1.2.1.fa F2' rfl).fa F3' rfl, (hC1.2.2.1.fa F2' rfl).fa F3' rfl, Cs.fa ⟨kSh, kSd, kDy⟩ hH F3' rfl, fun k hk => hk3 k hk⟩
        rw [hC3.2.2.2.1.1.1]
        refine c_Mo_street _ (isText_T hr (i1 ⟨in_nI hr (by decide), ?_⟩))
        rw [nI_tn (by omega), (hM3.2.2.1 r hr).1, hq]
        refine iN0 (a := n) (by omega) (faultOf_s (n := n) (f := (aX a).2 r) hr n60 ⟨?_, fun j hj => (hM3.2.2.1 r hr).2 j (by omega)⟩ fun μ4 F4 hrd2 => ?_)
        · rw [(hM3.2.2.1 r hr).1, hq]
          rfl
        have hM4 := hM3.fa F4.fa11 L1_W
        have hC4 := hC3.fa hA3 F4.fa11 (L1_C (by decide))
        have hrd2 := hrd2 hv
        rw [hHe, hce] at hrd2
        obtain ⟨g16, g17, gh, gc⟩ := hrd2
        refine iT hv ?_
        rw [wI_n (s' := 17) _ _ _ _ (by decide), g16, g17]
        -- the reference's part
        refine st55 b2 (fun y => μ4.1 36 0 y) (hN H) (x := 0) (by omega) (wI_s _ _ _ _ _) (fun y _ _ => by rw [wI_k _ _ (by decide), wI_k _ _ (by decide)]) ?_
        refine st83 16 (x := 0) rfl ?_
        have F5 : Fa (L1 9) μ4 (aI (aI (wI (wI μ4 7 0 10 (nI (hn H))) 7 0 11 (nI (hN H))) 34 0 0 (hN H) (fun y => μ4.1 36 0 y)) 37 0 0 16 (fun _ => 0)) := (((Fa.rf.wI rfl).wI rfl).aI (fun _ => rfl)).aI (fun _ => rfl)
        have k10 : (aI (aI (wI (wI μ4 7 0 10 (nI (hn H))) 7 0 11 (nI (hN H))) 34 0 0 (hN H) (fun y => μ4.1 36 0 y)) 37 0 0 16 (fun _ => 0)).1 7 0 10 = nI (hn H) := by
          rw [aI_k (by decide), aI_k (by decide), wI_n _ _ _ _ (by decide), wI_s]
        have k11 : (aI (aI (wI (wI μ4 7 0 10 (nI (hn H))) 7 0 11 (nI (hN H))) 34 0 0 (hN H) (fun y => μ4.1 36 0 y)) 37 0 0 16 (fun _ => 0)).1 7 0 11 = nI (hN H) := by
          rw [aI_k (by decide), aI_k (by decide), wI_s]
        have k34 : ∀ x, x < hN H → (aI (aI (wI (wI μ4 7 0 10 (nI (hn H))) 7 0 11 (nI (hN H))) 34 0 0 (hN H) (fun y => μ4.1 36 0 y)) 37 0 0 16 (fun _ => 0)).1 34 0 x = nI (cc c x) := fun x hx => by
          rw [aI_k (by decide), aI_in (by omega) (by omega)]
          exact gc x hx
        have k37 : ∀ x, x < 16 → (aI (aI (wI (wI μ4 7 0 10 (nI (hn H))) 7 0 11 (nI (hN H))) 34 0 0 (hN H) (fun y => μ4.1 36 0 y)) 37 0 0 16 (fun _ => 0)).1 37 0 x = 0 := fun x hx => aI_in (by omega) (by omega)
        have k35 : (aI (aI (wI (wI μ4 7 0 10 (nI (hn H))) 7 0 11 (nI (hN H))) 34 0 0 (hN H) (fun y => μ4.1 36 0 y)) 37 0 0 16 (fun _ => 0)).1 35 = μ4.1 35 := by
          rw [aI_k (by decide), aI_k (by decide), wI_k _ _ (by decide), wI_k _ _ (by decide)]
        generalize aI (aI (wI (wI μ4 7 0 10 (nI (hn H))) 7 0 11 (nI (hN H))) 34 0 0 (hN H) (fun y => μ4.1 36 0 y)) 37 0 0 16 (fun _ => 0) = μ5 at F5 k10 k11 k34 k37 k35 ⊢
        refine st104 hH k10 (by rw [k35]; exact gh) k37 (fun μ6 hin h5 h15 F6 => ?_) (hn H) (h := 0) (by omega) (fun x hx => absurd hx (by omega)) (fun x hx => k37 _ (by omega)) (k37 15 (by decide)) Fr.rf
        refine st182 3 (x := 0) rfl ?_
        have F6' : Fa (L1 9) μ5 μ6 := F6.faB fun k x s q => by
          rcases of_decide_eq_true q with rfl | rfl | rfl <;> rfl
        rw [wI_n (s' := 10) _ _ _ _ (by decide), F6.it rfl k10]
        have F7 : Fa (L1 9) μ6 (wI μ6 7 0 21 0) := Fa.rf.wI rfl
        have F8 : Fa (L1 10) (wI μ6 7 0 21 0) (aI (wI μ6 7 0 21 0) 39 0 0 3 (fun _ => 0)) := Fa.rf.aI (fun _ => rfl)
        have F57 : Fa (L1 9) μ4 (wI μ6 7 0 21 0) := F5.tr (F6'.tr F7)
        refine hL _ _ ⟨_, hA3, (hC4.fa hA3 F57 (L1_C (by decide))).fa hA3 F8 (L1_C (by decide)), (hM4.1.fa F57 rfl).fa F8 rfl, (hM4.2.1.fa F57 rfl).fa F8 rfl, (hM4.2.2.1.fa F57 rfl).fa F8 rfl, Ms.fa ⟨⟨?_, ?_, fun h hh => ?_⟩, ?_, fun x hx => ?_, ⟨?_, fun h hh => ?_⟩, fun i hi => ?_⟩ F8 rfl, fun k hk => ?_⟩
        · rw [wI_n _ _ _ _ (by decide)]
          exact F6.it rfl k10
        · rw [wI_n _ _ _ _ (by decide)]
          exact F6.it rfl k11
        · rw [wI_k _ _ (by decide), wI_k _ _ (by decide)]
          exact ⟨(hin h hh).1, (hin h hh).2.1⟩
        · rw [wI_s]
          show (0 : Int32) = nI (cD c)
          rw [hD0]
          rfl
        · rw [wI_k _ _ (by decide)]
          exact F6.it rfl (k34 x hx)
        · rw [wI_k _ _ (by decide)]
          show _ = nI (vt (sat H (cd c) (cD c)))
          rw [hD0]
          exact h15
        · rw [wI_k _ _ (by decide)]
          show _ = nI (vo (sat H (cd c) (cD c)) h) ∧ _ = nI (vp (sat H (cd c) (cD c)) h) ∧ _ = bI (vb (sat H (cd c) (cD c)) h)
          rw [hD0]
          have hh : h < hn H := hh
          exact ⟨(hin h hh).2.2.1, h5 h (by omega), (hin h hh).2.2.2⟩
        · have hi : i < cD c := hi
          omega
        · show (aI _ _ _ _ _ _).1 39 0 k = 0
          exact aI_in (by omega) (by omega)
      · refine c_Mo_street _ (isText_T hr (i1 ⟨in_nI hr (by decide), ?_⟩))
        rw [nI_tn (by omega), (hM1.2.2.1 r hr).1, hq]
        refine iN0 (a := n) (by omega) (faultOf_s (n := n) (f := (aX a).2 r) hr n60 ⟨?_, fun j hj => (hM1.2.2.1 r hr).2 j (by omega)⟩ fun μ2 F2 _ => iF hv (hL _ _ ⟨a, hA, hC1.fa hA F2.fa11 (L1_C (by decide)), hM1.fa F2.fa11 L1_W⟩))
        rw [(hM1.2.2.1 r hr).1, hq]
        rfl
  · exact c_Cs_street _ (noText_F h1 (i1 (c_Mo_street _ (isText_F h1 (i0 (hL _ _ ⟨a, hA, hC, hM⟩))))))
end Q48
