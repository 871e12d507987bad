/-! mark, wind -/
def lastz (f : Nat → Nat) : Nat → Nat
  | 0 => 0
  | d + 1 => if f (d + 1) = 0 then d + 1 else lastz f d
def frst (f : Nat → Nat) : Nat → Nat → Int32
  | 0, _ => -9
  | n + 1, d => if f d = 0 then frst f n (d + 1) else nI d
theorem hu_lt {k w d : Nat} (hd : d ≤ 99) : hu k w d < 2147483648 := by
  have h1 := hu_le (k := k) (w := w) hd
  have h2 : d * d ≤ 99 * 99 := Nat.mul_le_mul hd hd
  omega
section P37
variable {G : Ge} {μ : Mm} {K : Int32 → Mm → Prop} {q k w h : Nat}
theorem mostW (e0 : μ.1 0 q 0 = nI k) (e1 : μ.1 0 q 1 = nI w) (hk : k ≤ 5) (hw : w ≤ 9) (hK : K (nI (lastz (hu k w) 9)) μ) : ∀ (n d : Nat), 9 = d + n → SS G m_Ho_mostWithoutPain 4 [vr 0 q, vi (nI (lastz (hu k w) d)), vi (nI (d + 1))] [] μ (RI K)
  | 0, d, e => by
    have : d = 9 := by omega
    subst this
    exact b_Ho_mostWithoutPain_4 _ _ _ (iT (by decide) hK)
  | n + 1, d, e => by
    refine b_Ho_mostWithoutPain_4 _ _ _ (iF (nI_nlt (a := 9) (by omega) (by omega)) (painOf_s e0 e1 hk hw (by omega) ?_))
    have hlt := hu_lt (k := k) (w := w) (d := d + 1) (by omega)
    have ih := mostW e0 e1 hk hw hK n (d + 1) (by omega)
    have ih2 : SS G m_Ho_mostWithoutPain 4 [vr 0 q, vi (nI (if hu k w (d + 1) = 0 then d + 1 else lastz (hu k w) d)), vi (nI (d + 1 + 1))] [] μ (RI K) := ih
    rw [nI_1]
    refine iEq (b := 0) hlt (by decide) (fun z => ?_) fun z => ?_
    · rw [if_pos z] at ih2
      exact ih2
    · rw [if_neg z] at ih2
      exact ih2
theorem leastW (e0 : μ.1 0 q 0 = nI k) (e1 : μ.1 0 q 1 = nI w) (hk : k ≤ 5) (hw : w ≤ 9) : ∀ (n d : Nat), 10 = d + n → K (frst (hu k w) n d) μ → SS G m_Ho_leastWithPain 2 [vr 0 q, vi (nI d)] [] μ (RI K)
  | 0, d, e, hK => by
    have : d = 10 := by omega
    subst this
    exact b_Ho_leastWithPain_2 _ _ (iT (by decide) hK)
  | n + 1, d, e, hK => by
    refine b_Ho_leastWithPain_2 _ _ (iF (nI_nlt (a := 9) (by omega) (by omega)) (painOf_s e0 e1 hk hw (by omega) ?_))
    have hlt := hu_lt (k := k) (w := w) (d := d) (by omega)
    have hK2 : K (if hu k w d = 0 then frst (hu k w) n (d + 1) else nI d) μ := hK
    rw [nI_1]
    refine iLe (b := 0) hlt (by decide) (fun z => ?_) fun z => ?_
    · rw [if_pos (by omega)] at hK2
      exact leastW e0 e1 hk hw n (d + 1) (by omega) hK2
    · rw [if_neg (by omega)] at hK2
      exact hK2
theorem painless_s (hh : h < 5) (e0 : μ.1 32 0 h = nI k) (e1 : μ.1 33 0 h = nI w) (hk : k ≤ 5) (hw : w ≤ 9) (hK : K (nI (lastz (hu k w) 9)) μ) : ∀ (n d : Nat), 9 = d + n → SS G m_Mo_painless 4 [vr 7 0, vi (nI h), vi (nI (lastz (hu k w) d)), vi (nI (d + 1))] [] μ (RI K)
  | 0, d, e => by
    have : d = 9 := by omega
    subst this
    exact b_Mo_painless_4 _ _ _ (iT (by decide) hK)
  | n + 1, d, e => by
    refine b_Mo_painless_4 _ _ _ (iF (nI_nlt (a := 9) (by omega) (by omega)) (hurtOf_s hh e0 e1 hk hw (by omega) ?_))
    have hlt := hu_lt (k := k) (w := w) (d := d + 1) (by omega)
    have ih := painless_s hh e0 e1 hk hw hK n (d + 1) (by omega)
    have ih2 : SS G m_Mo_painless 4 [vr 7 0, vi (nI h), vi (nI (if hu k w (d + 1) = 0 then d + 1 else lastz (hu k w) d)), vi (nI (d + 1 + 1))] [] μ (RI K) := ih
    rw [nI_1]
    refine iEq (b := 0) hlt (by decide) (fun z => ?_) fun z => ?_
    · rw [if_pos z] at ih2
      exact ih2
    · rw [if_neg z] at ih2
      exact ih2
theorem hu_0 {k w : Nat} : hu k w 0 = 0 := by
  unfold hu
  rw [Nat.zero_sub, Nat.mul_zero]
theorem painless0 (hh : h < 5) (e0 : μ.1 32 0 h = nI k) (e1 : μ.1 33 0 h = nI w) (hk : k ≤ 5) (hw : w ≤ 9) (hK : K (nI (lastz (hu k w) 9)) μ) : CS G m_Mo_painless [vr 7 0, vi (nI h)] μ (RI K) := by
  refine c_Mo_painless _ (b_Mo_painless_4 _ _ _ (iF (by decide) (hurtOf_s (d := 0) hh e0 e1 hk hw (by decide) (iT (by rw [hu_0]; rfl) ?_))))
  exact painless_s hh e0 e1 hk hw hK 9 0 rfl
theorem firstH (hh : h < 5) (e0 : μ.1 32 0 h = nI k) (e1 : μ.1 33 0 h = nI w) (hk : k ≤ 5) (hw : w ≤ 9) : ∀ (n d : Nat), 10 = d + n → K (frst (hu k w) n d) μ → SS G m_Mo_firstHurt 2 [vr 7 0, vi (nI h), vi (nI d)] [] μ (RI K)
  | 0, d, e, hK => by
    have : d = 10 := by omega
    subst this
    exact b_Mo_firstHurt_2 _ _ (iT (by decide) hK)
  | n + 1, d, e, hK => by
    refine b_Mo_firstHurt_2 _ _ (iF (nI_nlt (a := 9) (by omega) (by omega)) (hurtOf_s hh e0 e1 hk hw (by omega) ?_))
    have hlt := hu_lt (k := k) (w := w) (d := d) (by omega)
    have hK2 : K (if hu k w d = 0 then frst (hu k w) n (d + 1) else nI d) μ := hK
    rw [nI_1]
    refine iLe (b := 0) hlt (by decide) (fun z => ?_) fun z => ?_
    · rw [if_pos (by omega)] at hK2
      exact firstH hh e0 e1 hk hw n (d + 1) (by omega) hK2
    · rw [if_neg (by omega)] at hK2
      exact hK2
def mk5 (k w o s : Nat) : Int32 := match s with
  | 1 => nI (lastz (hu k w) 9)
  | 2 => nI (hu k w 9) - nI ((9 - w) * (9 - w))
  | 3 => nI (o + 1) / 2
  | 4 => nI ((o - w) * (o - w))
  | _ => frst (hu k w) 9 1
theorem tellsAs_s {o s : Nat} (e0 : μ.1 0 q 0 = nI k) (e1 : μ.1 0 q 1 = nI w) (e3 : μ.1 0 q 3 = nI o) (hk : k ≤ 5) (hw : w ≤ 9) (ho : o ≤ 45) (hs : 1 ≤ s) (hs5 : s ≤ 5) (hK : K (mk5 k w o s) μ) : CS G m_Ho_tellsAs [vr 0 q, vi (nI s)] μ (RI K) := by
  refine c_Ho_tellsAs _ _ ?_
  have h5 : s = 1 ∨ s = 2 ∨ s = 3 ∨ s = 4 ∨ s = 5 := by omega
  rcases h5 with rfl | rfl | rfl | rfl | rfl
  · exact iT rfl (c_Ho_mostWithoutPain _ (mostW e0 e1 hk hw hK 9 0 rfl))
  · exact iF (by decide) (iT rfl (painOf_s (d := 9) e0 e1 hk hw (by decide) (plain_s (d := 9) e1 hw (by decide) hK)))
  · refine iF (by decide) (iF (by decide) (iT rfl ⟨by decide, ?_⟩))
    rw [e3, show nI o + 2 - 1 = nI (o + 1) from by rw [show nI o + 2 = nI (o + 1 + 1) from nI_add o 2]; exact nI_pred _]
    exact hK
  · refine iF (by decide) (iF (by decide) (iF (by decide) (iT rfl ?_)))
    rw [e3]
    exact plain_s e1 hw (by omega) hK
  · exact iF (by decide) (iF (by decide) (iF (by decide) (iF (by decide) (c_Ho_leastWithPain _ (leastW e0 e1 hk hw 9 1 rfl hK)))))
theorem isK_cases : ∀ k, k < 6 → ∀ s, s < 6 → isK k s = true → (k = s ∨ (k = 5 ∧ s = 2) ∨ (k = 4 ∧ s = 3)) := by decide
theorem mark_T {o s : Nat} (hh : h < 5) (e0 : μ.1 32 0 h = nI k) (e1 : μ.1 33 0 h = nI w) (e3 : μ.1 37 0 h = nI o) (hk : k ≤ 5) (hw : w ≤ 9) (ho : o ≤ 45) (hs : 1 ≤ s) (hs5 : s ≤ 5) (hi : isK k s = true) (hH : ∀ K1 : Int32 → Mm → Prop, K1 1 μ → CS G m_Mo_isHouse [vr 7 0, vi (nI h)] μ (RI K1)) (hK : K (mk5 k w o s) μ) : CS G m_Mo_mark [vr 7 0, vi (nI h), vi (nI s)] μ (RI K) := by
  have h5' : vp_in (nI h) 5 := in_nI hh (by decide)
  have h16 : vp_in (nI h) 16 := in_nI (by omega) (by decide)
  refine c_Mo_mark _ _ (hH _ (i1 (c_Mo_in _ _ _ (iF (nI_nlt (b := 1) (by omega) (by omega)) (iF (nI_nlt (a := 5) (by omega) (by omega)) ⟨z01, i1 ⟨h5', ?_⟩⟩)))))
  have h5 : s = 1 ∨ s = 2 ∨ s = 3 ∨ s = 4 ∨ s = 5 := by omega
  rw [nI_tn (by omega), e0, e3]
  rcases isK_cases k (by omega) s (by omega) hi with rfl | ⟨rfl, rfl⟩ | ⟨rfl, rfl⟩
  · refine iT rfl ?_
    rcases h5 with rfl | rfl | rfl | rfl | rfl
    · exact iT rfl (painless0 hh e0 e1 hk hw hK)
    · refine iF (by decide) (iT rfl (hurtOf_s (d := 9) hh e0 e1 hk hw (by decide) ⟨h5', ?_⟩))
      rw [e1]
      exact sqd_s (d := 9) (by decide) (by omega) hK
    · refine iF (by decide) (iF (by decide) (iT rfl ⟨h16, by decide, ?_⟩))
      rw [nI_1]
      exact hK
    · refine iF (by decide) (iF (by decide) (iF (by decide) (iT rfl ⟨h16, h5', ?_⟩)))
      rw [e1]
      exact sqd_s (by omega) (by omega) hK
    · exact iF (by decide) (iF (by decide) (iF (by decide) (iF (by decide) (c_Mo_firstHurt _ (firstH hh e0 e1 hk hw 9 1 rfl hK)))))
  · refine iF (by decide) (iT rfl (iT rfl (iF (by decide) (iT rfl (hurtOf_s (d := 9) hh e0 e1 hk hw (by decide) ⟨h5', ?_⟩)))))
    rw [e1]
    exact sqd_s (d := 9) (by decide) (by omega) hK
  · refine iF (by decide) (iF (by decide) (iT rfl (iT rfl (iF (by decide) (iF (by decide) (iT rfl ⟨h16, by decide, ?_⟩))))))
    rw [nI_1]
    exact hK
theorem isK_yes : ∀ k, k < 6 → ∀ s, s < 6 → (k = s ∨ (k = 5 ∧ s = 2) ∨ (k = 4 ∧ s = 3)) → isK k s = true := by decide
theorem isK_no (k : Nat) (hk : k < 6) (s : Nat) (hs : s < 6) (h : isK k s = false) : k ≠ s ∧ ¬ (k = 5 ∧ s = 2) ∧ ¬ (k = 4 ∧ s = 3) := by
  have y : ¬ isK k s = true := by
    rw [h]
    decide
  exact ⟨fun q => y (isK_yes k hk s hs (Or.inl q)), fun q => y (isK_yes k hk s hs (Or.inr (Or.inl q))), fun q => y (isK_yes k hk s hs (Or.inr (Or.inr q)))⟩
theorem mark_F {s : Nat} (hh : h < 5) (e0 : μ.1 32 0 h = nI k) (hk : k ≤ 5) (hs : 1 ≤ s) (hs5 : s ≤ 5) (hi : isK k s = false) (hH : ∀ K1 : Int32 → Mm → Prop, K1 1 μ → CS G m_Mo_isHouse [vr 7 0, vi (nI h)] μ (RI K1)) (hK : CS G m_Mo_meets [vr 7 0, vi 3] μ (RI K)) : CS G m_Mo_mark [vr 7 0, vi (nI h), vi (nI s)] μ (RI K) := by
  refine c_Mo_mark _ _ (hH _ (i1 (c_Mo_in _ _ _ (iF (nI_nlt (b := 1) (by omega) (by omega)) (iF (nI_nlt (a := 5) (by omega) (by omega)) ⟨z01, i1 ⟨in_nI hh (by decide), ?_⟩⟩)))))
  obtain ⟨g1, g2, g3⟩ := isK_no k (by omega) s (by omega) hi
  rw [nI_tn (by omega), e0]
  refine iEqF (by omega) (by omega) g1 (iEq (b := 2) (by omega) (by decide) (fun z => iEq (b := 5) (by omega) (by decide) (fun y => absurd ⟨y, z⟩ g2) fun _ => ?_) fun _ => iEq (b := 3) (by omega) (by decide) (fun z => iEq (b := 4) (by omega) (by decide) (fun y => absurd ⟨y, z⟩ g3) fun _ => hK) fun _ => hK)
  exact iEqF (b := 3) (by omega) (by decide) (by omega) hK
theorem two_mark (x1 x2 : Int32) : Two G m_Cs_mark m_Mo_mark [vr 6 0, vi x1, vi x2] [vr 7 0, vi x1, vi x2] := by
  intro μ L ⟨a, hA, hC, hM⟩ hL
  have b1 := hA.2.2.1.1
  have ok : Ok G μ := ⟨a, hA, hC, hM⟩
  by_cases h1 : rg x1 (hn (aH a))
  · obtain ⟨h, hh, rfl⟩ := h1
    have q := hA.2.2.1.2.2.2 h hh
    refine c_Cs_mark _ _ (noHouse_T hC.2.2.2.1.1.1 (by omega) hh (i0 (iB (fun z1 => ?_) fun z1 => iB (fun z2 => ⟨in_nI (by omega) (by decide), ?_⟩) fun z2 => ?_)))
    · exact c_Mo_mark _ _ (isHouse_T hM.2.2.2.1.1.1 (by omega) hh (i1 (c_Mo_in _ _ _ (iT z1 ⟨z00, i0 (hL _ _ ok)⟩))))
    · obtain ⟨s, hs, rfl⟩ := le_of_n (m := 5) (by decide) z2 (toI_ge z1)
      have hs1 : 1 ≤ s := Nat.not_lt.mp fun y => z1 (nI_lt (b := 1) y (by decide))
      rw [nI_tn (by omega)]
      cases hi : isK (hk (aH a) h) s with
      | true =>
        refine isOf_T (hC.2.2.2.1.1.2.2 h hh).1 q.1 hs hs1 hi (i1 ⟨in_nI (by omega) (by decide), ?_⟩)
        refine tellsAs_s (hC.2.2.2.1.1.2.2 h hh).1 (hC.2.2.2.1.1.2.2 h hh).2.1 (hC.2.2.2.1.2.2.2 h hh).1 q.1 q.2.1 ((SI_now hA.2.2.1 hA.2.2.2.1).owes hh) hs1 hs ?_
        exact mark_T (by omega) (hM.2.2.2.1.1.2.2 h hh).1 (hM.2.2.2.1.1.2.2 h hh).2 (hM.2.2.2.1.2.2.2.1.2 h hh).1 q.1 q.2.1 ((SI_now hA.2.2.1 hA.2.2.2.1).owes hh) hs1 hs hi (fun K1 z => isHouse_T hM.2.2.2.1.1.1 (by omega) hh z) (hL _ _ ok)
      | false =>
        refine isOf_F (hC.2.2.2.1.1.2.2 h hh).1 q.1 hs hs1 hi (i0 (both_meet (f := 3) (by decide) hA hC hM hL fun μ1 K1 hM1 z => ?_))
        exact mark_F (by omega) (hM1.2.2.2.1.1.2.2 h hh).1 q.1 hs1 hs hi (fun K1 z => isHouse_T hM1.2.2.2.1.1.1 (by omega) hh z) z
    · exact c_Mo_mark _ _ (isHouse_T hM.2.2.2.1.1.1 (by omega) hh (i1 (c_Mo_in _ _ _ (iF z1 (iT (nl_le z2) ⟨z00, i0 (hL _ _ ok)⟩)))))
  · exact c_Cs_mark _ _ (noHouse_F hC.2.2.2.1.1.1 (by omega) h1 (i1 (c_Mo_mark _ _ (isHouse_F hM.2.2.2.1.1.1 (by omega) h1 (i0 (hL _ _ ok))))))
theorem two_wind (x1 x2 : Int32) : Two G m_Cs_wind m_Mo_wind [vr 6 0, vi x1, vi x2] [vr 7 0, vi x1, vi x2] := by
  intro μ L ⟨a, hA, hC, hM⟩ hL
  have b1 := hA.2.2.1.2.1
  have ok : Ok G μ := ⟨a, hA, hC, hM⟩
  have hS := hC.2.2.2.1
  have hS2 := hM.2.2.2.1
  have hD := hA.2.2.2.1.1
  by_cases h1 : rg x1 (hN (aH a))
  · obtain ⟨t, ht, rfl⟩ := h1
    by_cases h2 : rg x2 10
    · obtain ⟨v, hv, rfl⟩ := h2
      refine c_Cs_wind _ _ (noNight_T hS.1.2.1 (by omega) ht (i0 (iNl (by omega) (iLeT (b := 9) (by decide) (by omega) ?_))))
      rw [hS.2.1.1, nI_tn (by omega), hS.2.1.2.1 t ht]
      by_cases h0 : cD (aC a) = 0
      · have F1 : Fa (L1 3) μ (wI μ 20 0 t (nI v)) := Fa.rf.wI rfl
        refine iLeT (b := 0) (by decide) (by omega) ⟨in_nI (by omega) (by decide), in_nI (by omega) (by decide), ?_⟩
        have hM1 := hM.fa F1 (L1_M (by decide))
        have hA1 : AI (aT a, aR a, aX a, aH a, (uf (cc (aC a)) t v, cD (aC a), cd (aC a)), aK a) := by
          refine ⟨hA.1, hA.2.1, hA.2.2.1, ⟨hD, fun j hj => ?_, hA.2.2.2.1.2.2⟩, hA.2.2.2.2⟩
          show uf (cc (aC a)) t v j ≤ 9
          by_cases e : j = t
          · subst e
            rw [uf_s]
            omega
          · rw [uf_n e]
            exact hA.2.2.2.1.2.1 j hj
        have hC1 : RC (aT a, aR a, aX a, aH a, (uf (cc (aC a)) t v, cD (aC a), cd (aC a)), aK a) (wI μ 20 0 t (nI v)) := by
          refine ⟨hC.1.fa F1 rfl, hC.2.1.fa F1 rfl, hC.2.2.1.fa F1 rfl, ⟨?_, ⟨?_, fun j hj => ?_, ?_⟩, ?_⟩, hC.2.2.2.2.fa hA.2.2.1 F1 rfl⟩
          · refine ⟨?_, ?_, fun h hh => ?_⟩
            · rw [wI_k _ _ (by decide)]
              exact hS.1.1
            · rw [wI_k _ _ (by decide)]
              exact hS.1.2.1
            · rw [wI_k _ _ (by decide)]
              exact hS.1.2.2 h hh
          · rw [wI_k _ _ (by decide)]
            exact hS.2.1.1
          · by_cases e : j = t
            · subst e
              rw [wI_s]
              show _ = nI (uf (cc (aC a)) j v j)
              rw [uf_s]
            · rw [wI_n _ _ _ _ e]
              show _ = nI (uf (cc (aC a)) t v j)
              rw [uf_n e]
              exact hS.2.1.2.1 j hj
          · intro j hj
            rw [wI_k _ _ (by decide), wI_k _ _ (by decide), wI_k _ _ (by decide)]
            exact hS.2.1.2.2 j hj
          · refine ⟨?_, fun h hh => ?_⟩
            · rw [wI_k _ _ (by decide)]
              exact hS.2.2.1
            · rw [wI_k _ _ (by decide)]
              exact hS.2.2.2 h hh
        generalize wI μ 20 0 t (nI v) = μ1 at F1 hM1 hC1 ⊢
        have hS3 := hM1.2.2.2.1
        refine c_Mo_wind _ _ (isNight_T hS3.1.2.1 (by omega) ht (i1 (in_T (n := 10) (by decide) hv (i1 ?_))))
        rw [hS3.2.1, nI_tn (by omega), hS3.2.2.1 t ht]
        refine iLeT (b := 0) (by decide) (by omega) ⟨in_nI (by omega) (by decide), in_nI (by omega) (by decide), hL _ _ ?_⟩
        have F2 : Fa (L1 9) μ1 (wI μ1 34 0 t (nI v)) := Fa.rf.wI rfl
        refine ⟨_, hA1, hC1.fa hA1 F2 (L1_C (by decide)), hM1.1.fa F2 rfl, hM1.2.1.fa F2 rfl, hM1.2.2.1.fa F2 rfl, ⟨?_, ?_, fun j hj => ?_, ?_, fun i hi => ?_⟩, hM1.2.2.2.2.fa F2 rfl⟩
        · exact hS3.1
        · exact hS3.2.1
        · by_cases e : j = t
          · subst e
            rw [wI_s]
            show _ = nI (uf (cc (aC a)) j v j)
            rw [uf_s]
          · rw [wI_n _ _ _ _ e]
            show _ = nI (uf (cc (aC a)) t v j)
            rw [uf_n e]
            exact hS3.2.2.1 j hj
        · rw [wI_k _ _ (by decide)]
          exact hS3.2.2.2.1
        · rw [wI_k _ _ (by decide)]
          exact hS3.2.2.2.2 i hi
      · refine iLeF (b := 0) (by omega) (by omega) ?_
        refine c_Mo_wind _ _ (isNight_T hS2.1.2.1 (by omega) ht (i1 (in_T (n := 10) (by decide) hv (i1 ?_))))
        rw [hS2.2.1]
        exact iLeF (b := 0) (by omega) (by omega) (hL _ _ ok)
    · refine c_Cs_wind _ _ (noNight_T hS.1.2.1 (by omega) ht (i0 ?_))
      have hm : CS G m_Mo_wind [vr 7 0, vi (nI t), vi x2] μ (RI fun v2 μ2 => L (-1) v2 μ2) := c_Mo_wind _ _ (isNight_T hS2.1.2.1 (by omega) ht (i1 (in_F (n := 10) (by decide) h2 (i0 (hL _ _ ok)))))
      rcases rg_le (n := 9) (by decide) h2 with z | z
      · exact iT z hm
      · exact iF z.1 (iF z.2 hm)
  · exact c_Cs_wind _ _ (noNight_F hS.1.2.1 (by omega) h1 (i1 (c_Mo_wind _ _ (isNight_F hS2.1.2.1 (by omega) h1 (i0 (hL _ _ ok))))))
end P37
