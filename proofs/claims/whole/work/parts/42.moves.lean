/-! deeds, the reference's; bear, sell, night -/
theorem VM.lt {n : Nat} {s : Sv} {f g : Nat → Int32} (h : VM n s f) (hn : n ≤ 5) (e : ∀ j, j < 16 → g j = f j) : VM n s g := ⟨(e 15 (by decide)).trans h.1, fun x hx => ⟨(e _ (by omega)).trans (h.2 x hx).1, (e _ (by omega)).trans (h.2 x hx).2.1, (e _ (by omega)).trans (h.2 x hx).2.2⟩⟩
def pM : Nat → Nat → Nat → Bool := fun k _ s => decide (k = 38 ∨ (k = 7 ∧ s = 21))
def pN : Nat → Nat → Nat → Bool := fun k _ s => decide (k = 37 ∨ k = 38 ∨ (k = 7 ∧ s = 21))
theorem pM_N {k i s : Nat} (h : pN k i s = false) : pM k i s = false := by
  have h := of_decide_eq_false h
  exact decide_eq_false (by omega)
theorem pN_9 : ∀ k i s, pN k i s = true → ar k i s = 9 := by
  intro k i s h
  have h := of_decide_eq_true h
  rcases h with rfl | rfl | ⟨rfl, rfl⟩ <;> rfl
section P42
variable {G : Ge} {μ : Mm} {V : Mm → Prop} {K : Int32 → Mm → Prop} {H : Hs} {c : Sc}
theorem rem2 {D : Nat} (hD : D < 60) (g : Nat → Int32) : ∀ (d : Nat) {x : Nat} {μ : Mm}, 16 = x + d → μ.1 7 0 21 = nI D → (∀ y, x ≤ y → y < 16 → μ.1 37 0 y = g (16 * D + y)) → V (wI (aI μ 38 0 (16 * D + x) d g) 7 0 21 (nI (D + 1))) → SS G m_Mo_remember 2 [vr 7 0, vi (nI x)] [] μ (RV V)
  | 0, x, μ, e, h7, hg, hV => by
    rw [aI_0] at hV
    refine b_Mo_remember_2 _ (iT (nI_le (a := 16) (by omega) (by omega)) ?_)
    rw [h7, nI_1]
    exact hV
  | d + 1, x, μ, e, h7, hg, hV => by
    refine b_Mo_remember_2 _ (iF (nI_ge (b := 16) (by omega) (by omega)) ?_)
    rw [h7, show (16 : Int32) * nI D = nI (16 * D) from nI_mul 16 D, nI_add, nI_1, nI_tn (by omega), nI_tn (by omega)]
    refine ⟨in_nI (by omega) (by decide), in_nI (by omega) (by decide), rem2 hD g d (by omega) (by rw [wI_k _ _ (by decide)]; exact h7) (fun y h1 h2 => by rw [wI_k _ _ (by decide)]; exact hg y (by omega) h2) ?_⟩
    rw [show 16 * D + (x + 1) = 16 * D + x + 1 by omega, aI_step _ _ _ _ _ g _ (hg x (by omega) (by omega))]
    exact hV
theorem remember_s (hH : HI H) (hM : Ms H c μ) (hD : cD c < 60) (hV : ∀ μ1, μ1.1 7 0 21 = nI (cD c + 1) → (∀ i, i ≤ cD c → VM (hn H) (sat H (cd c) i) (fun j => μ1.1 38 0 (16 * i + j))) → Fr pM μ μ1 → V μ1) : CS G m_Mo_remember [vr 7 0] μ (RV V) := by
  have b1 := hH.1
  refine c_Mo_remember (rem2 (D := cD c) hD (fun y => μ.1 37 0 (y - 16 * cD c)) 16 (x := 0) rfl hM.2.1 (fun y _ h2 => by rw [show 16 * cD c + y - 16 * cD c = y by omega]) (hV _ ?_ (fun i hi => ?_) ?_))
  · exact wI_s _ _ _ _ _
  · by_cases q : i = cD c
    · subst q
      refine hM.2.2.2.1.lt b1 fun j hj => ?_
      rw [wI_k _ _ (by decide), aI_in (by omega) (by omega), show 16 * cD c + j - 16 * cD c = j by omega]
    · refine (hM.2.2.2.2 i (by omega)).lt b1 fun j hj => ?_
      rw [wI_k _ _ (by decide), aI_out (by omega)]
  · exact (Fr.rf.aI (fun _ => rfl)).wI rfl
theorem Ms_push {e : Dd} {μ1 : Mm} (hH : HI H) (hM : Ms H c μ) (F : Fr pN μ μ1) (h21 : μ1.1 7 0 21 = nI (cD c + 1)) (hl : ∀ i, i ≤ cD c → VM (hn H) (sat H (cd c) i) (fun j => μ1.1 38 0 (16 * i + j))) (hv : VM (hn H) (sp H e (cs H c)) (μ1.1 37 0)) : Ms H (push c e) μ1 := by
  refine ⟨⟨F.it (decide_eq_false (by omega)) hM.1.1, F.it (decide_eq_false (by omega)) hM.1.2.1, fun h hh => ⟨F.it (decide_eq_false (by omega)) (hM.1.2.2 h hh).1, F.it (decide_eq_false (by omega)) (hM.1.2.2 h hh).2⟩⟩, h21, fun t ht => F.it (decide_eq_false (by omega)) (hM.2.2.1 t ht), ?_, fun i hi => ?_⟩
  · rw [cs_push]
    exact hv
  · have hi : i < cD c + 1 := hi
    rw [sat_push (by omega)]
    exact hl i (by omega)
theorem bears_s {h d : Nat} (hH : HI H) (hc : CI H c) (hM : Ms H c μ) (hD : cD c < 60) (hh : h < hn H) (hd : d ≤ vo (cs H c) h) (hK : ∀ μ1, Ms H (push c (h + 1, 0, d)) μ1 → Fa (L1 9) μ μ1 → K (nI (hu (hk H h) (hw H h) d)) μ1) : CS G m_Mo_bears [vr 7 0, vi (nI h), vi (nI d)] μ (RI K) := by
  have b1 := hH.1
  have ho := (SI_now hH hc).owes hh
  have q := hH.2.2.2 h hh
  refine c_Mo_bears _ _ (hurtOf_s (by omega) (hM.1.2.2 h hh).1 (hM.1.2.2 h hh).2 q.1 q.2.1 (by omega) (remember_s hH hM hD fun μ1 h21 hl F => ?_))
  have hv := hM.2.2.2.1
  have f37 : μ1.1 37 0 = μ.1 37 0 := by
    funext j
    exact (F 37 0 j rfl).1
  rw [show (5 : Int32) + nI h = nI (5 + h) from nI_add 5 h, show (10 : Int32) + nI h = nI (10 + h) from nI_add 10 h, nI_tn (n := h) (by omega), nI_tn (n := 5 + h) (by omega), nI_tn (n := 10 + h) (by omega), wI_n (s' := 5 + h) _ _ _ _ (by omega), f37, (hv.2 h hh).1, (hv.2 h hh).2.1, nI_sub hd, nI_add]
  refine ⟨in_nI (by omega) (by decide), in_nI (by omega) (by decide), in_nI (by omega) (by decide), in_nI (by omega) (by decide), in_nI (by omega) (by decide), ?_⟩
  have F2 : Fr pN μ (wI (wI (wI μ1 37 0 h (nI (vo (cs H c) h - d))) 37 0 (5 + h) (nI (vp (cs H c) h + hu (hk H h) (hw H h) d))) 37 0 (10 + h) (nI d)) := (((F.mono fun _ _ _ => pM_N).wI rfl).wI rfl).wI rfl
  refine hK _ (Ms_push hH hM F2 ?_ (fun i hi => ?_) ⟨?_, fun x hx => ⟨?_, ?_, ?_⟩⟩) (F2.faB pN_9)
  · rw [wI_k _ _ (by decide), wI_k _ _ (by decide), wI_k _ _ (by decide)]
    exact h21
  · rw [wI_k _ _ (by decide), wI_k _ _ (by decide), wI_k _ _ (by decide)]
    exact hl i hi
  · rw [wI_n _ _ _ _ (by omega), wI_n _ _ _ _ (by omega), wI_n _ _ _ _ (by omega), f37]
    exact hv.1
  · show _ = nI (uf (vo (cs H c)) h (vo (cs H c) h - d) x)
    rw [wI_n _ _ _ _ (by omega), wI_n _ _ _ _ (by omega)]
    by_cases y : x = h
    · subst y
      rw [wI_s, uf_s]
    · rw [wI_n _ _ _ _ y, uf_n y, f37]
      exact (hv.2 x hx).1
  · show _ = nI (uf (vp (cs H c)) h (vp (cs H c) h + hu (hk H h) (hw H h) d) x)
    rw [wI_n _ _ _ _ (by omega)]
    by_cases y : x = h
    · subst y
      rw [wI_s, uf_s]
    · rw [wI_n _ _ _ _ (by omega), wI_n _ _ _ _ (by omega), uf_n y, f37]
      exact (hv.2 x hx).2.1
  · show _ = bI (uf (vb (cs H c)) h (d + 1) x)
    by_cases y : x = h
    · subst y
      rw [wI_s, uf_s]
      rfl
    · rw [wI_n _ _ _ _ (by omega), wI_n _ _ _ _ (by omega), wI_n _ _ _ _ (by omega), uf_n y, f37]
      exact (hv.2 x hx).2.2
theorem pass17 (hH : HI H) : ∀ (d : Nat) {h : Nat} {μ : Mm}, μ.1 7 0 10 = nI (hn H) → hn H = h + d → V (aI μ 37 0 (10 + h) d (fun _ => -9)) → SS G m_Mo_passes 17 [vr 7 0, vi (nI h)] [] μ (RV V)
  | 0, h, μ, e6, e, hV => by
    have b1 := hH.1
    rw [aI_0] at hV
    refine b_Mo_passes_17 _ ?_
    rw [e6]
    exact iLeT (by omega) (by omega) hV
  | d + 1, h, μ, e6, e, hV => by
    have b1 := hH.1
    refine b_Mo_passes_17 _ ?_
    rw [e6, show (10 : Int32) + nI h = nI (10 + h) from nI_add 10 h, nI_1, nI_tn (by omega)]
    refine iLeF (by omega) (by omega) ⟨in_nI (by omega) (by decide), pass17 hH d (by rw [wI_k _ _ (by decide)]; exact e6) (by omega) ?_⟩
    rw [show 10 + (h + 1) = 10 + h + 1 by omega, aI_step _ _ _ _ _ (fun _ => -9) _ rfl]
    exact hV
theorem passes_s (hH : HI H) (hM : Ms H c μ) (hD : cD c < 60) (hV : ∀ μ1, Ms H (push c (0, 0, 0)) μ1 → Fa (L1 9) μ μ1 → V μ1) : CS G m_Mo_passes [vr 7 0] μ (RV V) := by
  have b1 := hH.1
  have hv := hM.2.2.2.1
  refine c_Mo_passes (remember_s hH hM hD fun μ1 h21 hl F => ⟨in_nI (n := 15) (by decide) (by decide), in_nI (n := 15) (by decide) (by decide), ?_⟩)
  have f37 : μ1.1 37 0 = μ.1 37 0 := by
    funext j
    exact (F 37 0 j rfl).1
  rw [show Int32.toNatClampNeg 15 = 15 from rfl, f37, hv.1, nI_1]
  refine pass17 hH (hn H) (h := 0) (by rw [wI_k _ _ (by decide)]; exact F.it rfl hM.1.1) (by omega) ?_
  have F2 : Fr pN μ (aI (wI μ1 37 0 15 (nI (vt (cs H c) + 1))) 37 0 (10 + 0) (hn H) (fun _ => -9)) := ((F.mono fun _ _ _ => pM_N).wI rfl).aI (fun _ => rfl)
  refine hV _ (Ms_push hH hM F2 ?_ (fun i hi => ?_) ⟨?_, fun x hx => ⟨?_, ?_, ?_⟩⟩) (F2.faB pN_9)
  · rw [aI_k (by decide), wI_k _ _ (by decide)]
    exact h21
  · rw [aI_k (by decide), wI_k _ _ (by decide)]
    exact hl i hi
  · rw [aI_out (by omega), wI_s]
    rfl
  · rw [aI_out (by omega), wI_n _ _ _ _ (by omega), f37]
    exact (hv.2 x hx).1
  · rw [aI_out (by omega), wI_n _ _ _ _ (by omega), f37]
    exact (hv.2 x hx).2.1
  · rw [aI_in (by omega) (by omega)]
    rfl
end P42
def upC (a : Ab) (c : Sc) : Ab := (aT a, aR a, aX a, aH a, c, aK a)
theorem RC.rest3 {μ μ1 : Mm} {a : Ab} {c : Sc} (h : RC a μ) (hA : AI a) (F : Fa (L1 3) μ μ1) (hc : Cs (aH a) c μ1) : RC (upC a c) μ1 := ⟨h.1.fa F rfl, h.2.1.fa F rfl, h.2.2.1.fa F rfl, hc, h.2.2.2.2.fa hA.2.2.1 F rfl⟩
theorem RM.rest9 {μ μ1 : Mm} {a : Ab} {c : Sc} (h : RM a μ) (F : Fa (L1 9) μ μ1) (hc : Ms (aH a) c μ1) : RM (upC a c) μ1 := ⟨h.1.fa F rfl, h.2.1.fa F rfl, h.2.2.1.fa F rfl, hc, h.2.2.2.2.fa F rfl⟩
theorem AI_upC {a : Ab} {c : Sc} (hA : AI a) (hc : CI (aH a) c) : AI (upC a c) := ⟨hA.1, hA.2.1, hA.2.2.1, hc, hA.2.2.2.2⟩
theorem le1_nat {x : Int32} (h : 1 ≤ x) : ∃ d, 1 ≤ d ∧ d < 2147483648 ∧ x = nI d := by
  have e1 : (1 : Int32).toInt = 1 := rfl
  have e0 : (0 : Int32).toInt = 0 := rfl
  rw [Int32.le_iff_toInt_le] at h
  obtain ⟨d, hd, rfl⟩ := nI_of (x := x) (fun q => by rw [Int32.lt_iff_toInt_lt] at q; omega)
  rw [nI_toInt hd] at h
  exact ⟨d, by omega, hd, rfl⟩
theorem ct_le {H : Hs} {c : Sc} {s : Sv} {h : Nat} : ct H c s h ≤ vo s h := by
  unfold ct
  split
  · exact Nat.min_le_right _ _
  · exact Nat.zero_le _
section Q42
variable {G : Ge}
theorem two_bear (x1 x2 : Int32) : Two G m_Cs_bear m_Mo_bear [vr 6 0, vi x1, vi x2] [vr 7 0, vi x1, vi x2] := by
  intro μ L ⟨a, hA, hC, hM⟩ hL
  have b1 := hA.2.2.1.1
  have ok : Ok G μ := ⟨a, hA, hC, hM⟩
  have hS := hC.2.2.2.1
  have hS2 := hM.2.2.2.1
  have hH := hA.2.2.1
  have hc := hA.2.2.2.1
  have hD := hc.1
  by_cases h1 : rg x1 (hn (aH a))
  · obtain ⟨h, hh, rfl⟩ := h1
    have q := hH.2.2.2 h hh
    have ho := (SI_now hH hc).owes hh
    have hct := ct_le (H := aH a) (c := aC a) (s := cs (aH a) (aC a)) (h := h)
    refine c_Cs_bear _ _ (noHouse_T hS.1.1 (by omega) hh (i0 (iB (fun z => ?_) fun z => ?_)))
    · obtain ⟨d, hd1, hd2, rfl⟩ := le1_nat z
      refine canT_C hS hH hc hh (iLe hd2 (by omega) (fun y => ?_) fun y => ?_)
      · rw [hS.2.1.1]
        by_cases h60 : cD (aC a) < 60
        · refine iLtT (b := 60) (by decide) h60 ?_
          have hdv : dv (aH a) (h + 1, 0, d) (cs (aH a) (aC a)) := ⟨hh, hd1, Nat.le_trans y hct, trivial⟩
          refine act_s (e := (h + 1, 0, d)) hH hc h60 hdv hS rfl rfl rfl fun μ1 hS1 F1 => ⟨in_nI (by omega) (by decide), ?_⟩
          rw [nI_tn (by omega)]
          refine painOf_s (hS1.1.2.2 h hh).1 (hS1.1.2.2 h hh).2.1 q.1 q.2.1 (by omega) ?_
          have hM1 := hM.fa F1 (L1_M (by decide))
          have hC1 := hC.rest3 hA F1 hS1
          have hA1 := AI_upC hA (CI_push hc h60 hdv)
          refine c_Mo_bear _ _ (isHouse_T hM1.2.2.2.1.1.1 (by omega) hh (i1 (iT z (canT_M hM1.2.2.2.1 hH hc hh (iLeT (by omega) y ?_)))))
          rw [hM1.2.2.2.1.2.1]
          refine iEqF (b := 60) (by omega) (by decide) (by omega) (bears_s hH hc hM1.2.2.2.1 h60 hh (Nat.le_trans y hct) fun μ2 hS3 F2 => hL _ _ ⟨_, hA1, hC1.fa hA1 F2 (L1_C (by decide)), hM1.rest9 F2 hS3⟩)
        · refine iLtF (b := 60) (by omega) (by omega) ?_
          refine c_Mo_bear _ _ (isHouse_T hS2.1.1 (by omega) hh (i1 (iT z (canT_M hS2 hH hc hh (iLeT (by omega) y ?_)))))
          rw [hS2.2.1, show cD (aC a) = 60 by omega]
          exact iT rfl (hL _ _ ok)
      · exact c_Mo_bear _ _ (isHouse_T hS2.1.1 (by omega) hh (i1 (iT z (canT_M hS2 hH hc hh (iLeF hd2 y (hL _ _ ok))))))
    · exact c_Mo_bear _ _ (isHouse_T hS2.1.1 (by omega) hh (i1 (iF z (hL _ _ ok))))
  · exact c_Cs_bear _ _ (noHouse_F hS.1.1 (by omega) h1 (i1 (c_Mo_bear _ _ (isHouse_F hS2.1.1 (by omega) h1 (i0 (hL _ _ ok))))))
theorem two_sell (x1 x2 x3 : Int32) : Two G m_Cs_sell m_Mo_sell [vr 6 0, vi x1, vi x2, vi x3] [vr 7 0, vi x1, vi x2, vi x3] := by
  intro μ L ⟨a, hA, hC, hM⟩ hL
  have b1 := hA.2.2.1.1
  have ok : Ok G μ := ⟨a, hA, hC, hM⟩
  have hS := hC.2.2.2.1
  have hS2 := hM.2.2.2.1
  have hH := hA.2.2.1
  have hc := hA.2.2.2.1
  have hD := hc.1
  by_cases h1 : rg x1 (hn (aH a))
  · obtain ⟨h, hh, rfl⟩ := h1
    by_cases h2 : rg x2 (hn (aH a))
    · obtain ⟨k, hk, rfl⟩ := h2
      have ho := (SI_now hH hc).owes hh
      have ho2 := (SI_now hH hc).owes hk
      refine c_Cs_sell _ _ _ (noHouse_T hS.1.1 (by omega) hh (i0 (noHouse_T hS.1.1 (by omega) hk (i0 (iEq (by omega) (by omega) (fun y => ?_) fun y => iB (fun z => ⟨in_nI (by omega) (by decide), ?_⟩) fun z => ?_)))))
      · exact c_Mo_sell _ _ _ (isHouse_T hS2.1.1 (by omega) hh (i1 (isHouse_T hS2.1.1 (by omega) hk (i1 (iT (by rw [y]) (hL _ _ ok))))))
      · obtain ⟨d, hd1, hd2, rfl⟩ := le1_nat z
        rw [nI_tn (by omega), nI_tn (by omega), (hS.2.2.2 h hh).1, (hS.2.2.2 k hk).1]
        refine iLt (by omega) hd2 (fun w => ?_) fun w => ⟨in_nI (by omega) (by decide), ?_⟩
        · refine c_Mo_sell _ _ _ (isHouse_T hS2.1.1 (by omega) hh (i1 (isHouse_T hS2.1.1 (by omega) hk (i1 (iEqF (by omega) (by omega) y (iT z ⟨in_nI (by omega) (by decide), ?_⟩))))))
          rw [nI_tn (by omega), (hS2.2.2.2.1.2 h hh).1]
          exact iLtT hd2 w (hL _ _ ok)
        · rw [nI_add, hS.2.1.1]
          refine iLeT (b := 99) (by decide) (by omega) ?_
          by_cases h60 : cD (aC a) < 60
          · refine iLtT (b := 60) (by decide) h60 ?_
            have hdv : dv (aH a) (h + 1, k + 1, d) (cs (aH a) (aC a)) := ⟨hh, hd1, w, hk, fun q => y q.symm⟩
            refine act_s (e := (h + 1, k + 1, d)) hH hc h60 hdv hS rfl rfl rfl fun μ1 hS1 F1 => ⟨in_nI (by omega) (by decide), ?_⟩
            rw [(hS1.2.2.2 k hk).1, cs_push]
            have hM1 := hM.fa F1 (L1_M (by decide))
            have hC1 := hC.rest3 hA F1 hS1
            have hA1 := AI_upC hA (CI_push hc h60 hdv)
            have hS3 := hM1.2.2.2.1
            refine c_Mo_sell _ _ _ (isHouse_T hS3.1.1 (by omega) hh (i1 (isHouse_T hS3.1.1 (by omega) hk (i1 (iEqF (by omega) (by omega) y (iT z ⟨in_nI (by omega) (by decide), ?_⟩))))))
            rw [nI_tn (by omega), nI_tn (by omega), (hS3.2.2.2.1.2 h hh).1, (hS3.2.2.2.1.2 k hk).1, nI_add, hS3.2.1]
            refine iLtF (by omega) w ⟨in_nI (by omega) (by decide), iLeT (b := 99) (by decide) (by omega) (iEqF (b := 60) (by omega) (by decide) (by omega) (remember_s hH hS3 h60 fun μ2 h21 hl F => ?_))⟩
            have hv := hS3.2.2.2.1
            have f37 : μ2.1 37 0 = μ1.1 37 0 := by
              funext j
              exact (F 37 0 j rfl).1
            have i16 : vp_in (nI h) 16 := in_nI (by omega) (by decide)
            have k16 : vp_in (nI k) 16 := in_nI (by omega) (by decide)
            refine ⟨i16, i16, k16, k16, k16, ?_⟩
            rw [wI_s, wI_n (s' := k) _ _ _ _ (fun q => y q.symm), f37, (hv.2 h hh).1, (hv.2 k hk).1, nI_sub w, nI_add]
            have F2 : Fr pN μ1 (wI (wI μ2 37 0 h (nI (vo (cs (aH a) (aC a)) h - d))) 37 0 k (nI (vo (cs (aH a) (aC a)) k + d))) := ((F.mono fun _ _ _ => pM_N).wI rfl).wI rfl
            have ev : vo (sp (aH a) (h + 1, k + 1, d) (cs (aH a) (aC a))) k = vo (cs (aH a) (aC a)) k + d := by
              show uf (uf (vo (cs (aH a) (aC a))) h (vo (cs (aH a) (aC a)) h - d)) k (uf (vo (cs (aH a) (aC a))) h (vo (cs (aH a) (aC a)) h - d) k + d) k = _
              rw [uf_s, uf_n (fun q => y q.symm)]
            rw [ev]
            refine hL _ _ ⟨_, hA1, hC1.fa hA1 (F2.faB pN_9) (L1_C (by decide)), hM1.rest9 (F2.faB pN_9) (Ms_push hH hS3 F2 ?_ (fun i hi => ?_) ⟨?_, fun x hx => ⟨?_, ?_, ?_⟩⟩)⟩
            · rw [wI_k _ _ (by decide), wI_k _ _ (by decide)]
              exact h21
            · rw [wI_k _ _ (by decide), wI_k _ _ (by decide)]
              exact hl i hi
            · rw [wI_n _ _ _ _ (by omega), wI_n _ _ _ _ (by omega), f37]
              exact hv.1
            · show _ = nI (uf (uf (vo (cs (aH a) (aC a))) h (vo (cs (aH a) (aC a)) h - d)) k (uf (vo (cs (aH a) (aC a))) h (vo (cs (aH a) (aC a)) h - d) k + d) x)
              by_cases r : x = k
              · subst r
                rw [wI_s, uf_s, uf_n (fun q => y q.symm)]
              · rw [wI_n _ _ _ _ r, uf_n r]
                by_cases r2 : x = h
                · subst r2
                  rw [wI_s, uf_s]
                · rw [wI_n _ _ _ _ r2, uf_n r2, f37]
                  exact (hv.2 x hx).1
            · rw [wI_n _ _ _ _ (by omega), wI_n _ _ _ _ (by omega), f37]
              exact (hv.2 x hx).2.1
            · rw [wI_n _ _ _ _ (by omega), wI_n _ _ _ _ (by omega), f37]
              exact (hv.2 x hx).2.2
          · refine iLtF (b := 60) (by omega) (by omega) ?_
            refine c_Mo_sell _ _ _ (isHouse_T hS2.1.1 (by omega) hh (i1 (isHouse_T hS2.1.1 (by omega) hk (i1 (iEqF (by omega) (by omega) y (iT z ⟨in_nI (by omega) (by decide), ?_⟩))))))
            rw [nI_tn (by omega), nI_tn (by omega), (hS2.2.2.2.1.2 h hh).1, (hS2.2.2.2.1.2 k hk).1, nI_add, hS2.2.1]
            refine iLtF (by omega) w ⟨in_nI (by omega) (by decide), iLeT (b := 99) (by decide) (by omega) ?_⟩
            rw [show cD (aC a) = 60 by omega]
            exact iT rfl (hL _ _ ok)
      · exact c_Mo_sell _ _ _ (isHouse_T hS2.1.1 (by omega) hh (i1 (isHouse_T hS2.1.1 (by omega) hk (i1 (iEqF (by omega) (by omega) y (iF z (hL _ _ ok)))))))
    · exact c_Cs_sell _ _ _ (noHouse_T hS.1.1 (by omega) hh (i0 (noHouse_F hS.1.1 (by omega) h2 (i1 (c_Mo_sell _ _ _ (isHouse_T hS2.1.1 (by omega) hh (i1 (isHouse_F hS2.1.1 (by omega) h2 (i0 (hL _ _ ok))))))))))
  · exact c_Cs_sell _ _ _ (noHouse_F hS.1.1 (by omega) h1 (i1 (c_Mo_sell _ _ _ (isHouse_F hS2.1.1 (by omega) h1 (i0 (hL _ _ ok))))))
theorem two_night : Two G m_Cs_night m_Mo_night [vr 6 0] [vr 7 0] := by
  intro μ L ⟨a, hA, hC, hM⟩ hL
  have b1 := hA.2.2.1.1
  have ok : Ok G μ := ⟨a, hA, hC, hM⟩
  have hS := hC.2.2.2.1
  have hS2 := hM.2.2.2.1
  have hH := hA.2.2.1
  have hc := hA.2.2.2.1
  have hD := hc.1
  have hvt := (SI_now hH hc).1
  refine c_Cs_night (cand_C hS hH hc (fun z => i0 ?_) fun z => i1 ?_)
  · have h0 : hn (aH a) ≠ 0 := fun q => by
      have := hH.2.2.1 q
      omega
    rw [hS.2.1.1]
    by_cases h60 : cD (aC a) < 60
    · refine iLtT (b := 60) (by decide) h60 (act_s (e := (0, 0, 0)) hH hc h60 z hS rfl rfl rfl fun μ1 hS1 F1 => ?_)
      have hM1 := hM.fa F1 (L1_M (by decide))
      have hC1 := hC.rest3 hA F1 hS1
      have hA1 := AI_upC hA (CI_push hc h60 (e := (0, 0, 0)) z)
      have hS3 := hM1.2.2.2.1
      rw [hS1.1.2.1, hS1.2.2.1]
      refine c_Mo_night ?_
      rw [hS3.1.1]
      refine iF (nI_ne0 (by omega) (by omega)) (cand_M hS3 hH hc (fun _ => i0 ?_) fun y => absurd y (by omega))
      rw [hS3.2.1]
      refine iEqF (b := 60) (by omega) (by decide) (by omega) (passes_s hH hS3 h60 fun μ2 hS4 F2 => ⟨in_nI (n := 15) (by decide) (by decide), ?_⟩)
      rw [show Int32.toNatClampNeg 15 = 15 from rfl, hS4.2.2.2.1.1, hS4.1.2.1]
      exact hL _ _ ⟨_, hA1, hC1.fa hA1 F2 (L1_C (by decide)), hM1.rest9 F2 hS4⟩
    · refine iLtF (b := 60) (by omega) (by omega) (c_Mo_night ?_)
      rw [hS2.1.1]
      refine iF (nI_ne0 (by omega) (by omega)) (cand_M hS2 hH hc (fun _ => i0 ?_) fun y => absurd y (by omega))
      rw [hS2.2.1, show cD (aC a) = 60 by omega]
      exact iT rfl (hL _ _ ok)
  · refine c_Mo_night ?_
    rw [hS2.1.1]
    exact iB (fun _ => hL _ _ ok) fun _ => cand_M hS2 hH hc (fun y => absurd z (by omega)) fun _ => i1 (hL _ _ ok)
end Q42
