/-! count -/
theorem bit_d : ∀ S, S < 32 → ∀ h, h < 5 → (((nI S >>> (nI h &&& 31)) &&& 1) = 1 ↔ S.testBit h = true) := by decide +kernel
theorem all_d : ∀ n, n < 6 → ((1 : Int32) <<< (nI n &&& 31)) - 1 = nI (2 ^ n - 1) := by decide +kernel
theorem allb_d : ∀ n, n < 6 → ∀ h, h < n → (2 ^ n - 1).testBit h = true := by decide
theorem sm_z {f : Nat → Nat} : ∀ {n : Nat}, (∀ j, j < n → f j = 0) → sm f n = 0
  | 0, _ => rfl
  | n + 1, h => by
    show sm f n + f n = 0
    rw [sm_z (fun j hj => h j (by omega)), h n (by omega)]
/-- all that the houses of a set owe -/
def ow (H : Hs) (s : Sv) (S : Nat) : Nat := sm (fun h => if S.testBit h = true then vo s h else 0) (hn H)
section P38
variable {G : Ge} {μ : Mm} {K : Int32 → Mm → Prop}
theorem isIn_T {S h : Nat} (hS : S < 32) (hh : h < 5) (hb : S.testBit h = true) (hK : K 1 μ) : CS G m_Cs_isIn [vi (nI S), vi (nI h)] μ (RI K) := c_Cs_isIn _ _ (iT ((bit_d S hS h hh).mpr hb) ⟨z01, hK⟩)
theorem isIn_F {S h : Nat} (hS : S < 32) (hh : h < 5) (hb : ¬ S.testBit h = true) (hK : K 0 μ) : CS G m_Cs_isIn [vi (nI S), vi (nI h)] μ (RI K) := c_Cs_isIn _ _ (iF (fun q => hb ((bit_d S hS h hh).mp q)) ⟨z00, hK⟩)
theorem owed_C {H : Hs} {c : Sc} {S : Nat} (hC : Cs H c μ) (hH : HI H) (hS : S < 32) (hK : K (nI (ow H (cs H c) S)) μ) : ∀ (d h : Nat), hn H = h + d → SS G m_St_owedBy 4 [vr 4 0, vi (nI S), vi (nI (sm (fun h => if S.testBit h = true then vo (cs H c) h else 0) h)), vi (nI h)] [] μ (RI K)
  | 0, h, e => by
    have b1 := hH.1
    refine b_St_owedBy_4 _ _ _ _ ?_
    rw [hC.1.1]
    refine iLeT (by omega) (by omega) ?_
    rw [show h = hn H by omega]
    exact hK
  | d + 1, h, e => by
    have b1 := hH.1
    have ih := owed_C hC hH hS hK d (h + 1) (by omega)
    have ih2 : SS G m_St_owedBy 4 [vr 4 0, vi (nI S), vi (nI (sm (fun h => if S.testBit h = true then vo (cs H c) h else 0) h + if S.testBit h = true then vo (cs H c) h else 0)), vi (nI (h + 1))] [] μ (RI K) := ih
    refine b_St_owedBy_4 _ _ _ _ ?_
    rw [hC.1.1]
    refine iLeF (by omega) (by omega) ?_
    by_cases hb : S.testBit h = true
    · rw [if_pos hb] at ih2
      refine isIn_T hS (by omega) hb (i1 ⟨in_nI (by omega) (by decide), ?_⟩)
      rw [nI_tn (by omega), (hC.2.2.2 h (by omega)).1, nI_add, nI_1]
      exact ih2
    · rw [if_neg hb] at ih2
      refine isIn_F hS (by omega) hb (i0 ?_)
      rw [nI_1]
      exact ih2
theorem owedBy_C {H : Hs} {c : Sc} {S : Nat} (hC : Cs H c μ) (hH : HI H) (hS : S < 32) (hK : K (nI (ow H (cs H c) S)) μ) : CS G m_St_owedBy [vr 4 0, vi (nI S)] μ (RI K) := c_St_owedBy _ _ (owed_C hC hH hS hK (hn H) 0 (by omega))
theorem pow_lt {n : Nat} (h : n ≤ 5) : 2 ^ n - 1 < 32 := by
  have : n = 0 ∨ n = 1 ∨ n = 2 ∨ n = 3 ∨ n = 4 ∨ n = 5 := by omega
  rcases this with rfl | rfl | rfl | rfl | rfl | rfl <;> decide
theorem ow_all {H : Hs} {s : Sv} (hH : HI H) : ow H s (2 ^ hn H - 1) = sm (vo s) (hn H) := by
  have b1 := hH.1
  exact sm_cong fun j hj => if_pos (allb_d (hn H) (by omega) j hj)
theorem pain_C {H : Hs} {c : Sc} (hC : Cs H c μ) (hH : HI H) (hK : K (nI (sm (vp (cs H c)) (hn H))) μ) : ∀ (d h : Nat), hn H = h + d → SS G m_St_painTillNow 4 [vr 4 0, vi (nI (sm (vp (cs H c)) h)), vi (nI h)] [] μ (RI K)
  | 0, h, e => by
    have b1 := hH.1
    refine b_St_painTillNow_4 _ _ _ ?_
    rw [hC.1.1]
    refine iLeT (by omega) (by omega) ?_
    rw [show h = hn H by omega]
    exact hK
  | d + 1, h, e => by
    have b1 := hH.1
    have ih := pain_C hC hH hK d (h + 1) (by omega)
    refine b_St_painTillNow_4 _ _ _ ?_
    rw [hC.1.1]
    refine iLeF (by omega) (by omega) ⟨in_nI (by omega) (by decide), ?_⟩
    rw [nI_tn (by omega), (hC.2.2.2 h (by omega)).2.1, nI_add, nI_1]
    exact ih
def pf (H : Hs) (h : Nat) : Nat := if isK (hk H h) 2 = true then 1 else 0
theorem poor_C {H : Hs} {c : Sc} (hC : Cs H c μ) (hH : HI H) (hK : K (nI (sm (pf H) (hn H))) μ) : ∀ (d h : Nat), hn H = h + d → SS G m_St_countOf 4 [vr 4 0, vi 2, vi (nI (sm (pf H) h)), vi (nI h)] [] μ (RI K)
  | 0, h, e => by
    have b1 := hH.1
    refine b_St_countOf_4 _ _ _ _ ?_
    rw [hC.1.1]
    refine iLeT (by omega) (by omega) ?_
    rw [show h = hn H by omega]
    exact hK
  | d + 1, h, e => by
    have b1 := hH.1
    have hk5 := (hH.2.2.2 h (by omega)).1
    have ih := poor_C hC hH hK d (h + 1) (by omega)
    have ih2 : SS G m_St_countOf 4 [vr 4 0, vi 2, vi (nI (sm (pf H) h + if isK (hk H h) 2 = true then 1 else 0)), vi (nI (h + 1))] [] μ (RI K) := ih
    refine b_St_countOf_4 _ _ _ _ ?_
    rw [hC.1.1]
    refine iLeF (by omega) (by omega) ⟨in_nI (by omega) (by decide), ?_⟩
    rw [nI_tn (by omega)]
    cases hi : isK (hk H h) 2 with
    | true =>
      rw [hi, if_pos rfl] at ih2
      refine isOf_T (s := 2) (hC.1.2.2 h (by omega)).1 hk5 (by decide) (by decide) hi (i1 ?_)
      rw [nI_1, nI_1]
      exact ih2
    | false =>
      rw [hi, if_neg (by decide)] at ih2
      refine isOf_F (s := 2) (hC.1.2.2 h (by omega)).1 hk5 (by decide) (by decide) hi (i0 ?_)
      rw [nI_1]
      exact ih2
def zf (r : Rw) (i : Nat) : Nat := if r.1 i = 0 then 0 else 1
theorem there_R {R : Rw} (hR : Cr R μ) (hI : RI2 6 40 R) (hK : K (nI (sm (zf R) 6)) μ) : ∀ (d i : Nat), 6 = i + d → SS G m_Cs_thereOf 5 [un, vr 9 0, vi 6, vi (nI (sm (zf R) i)), vi (nI i)] [] μ (RI K)
  | 0, i, e => by
    have : i = 6 := by omega
    subst this
    exact b_Cs_thereOf_9_5 _ _ _ (iT (by decide) hK)
  | d + 1, i, e => by
    have ih := there_R hR hI hK d (i + 1) (by omega)
    have ih2 : SS G m_Cs_thereOf 5 [un, vr 9 0, vi 6, vi (nI (sm (zf R) i + if R.1 i = 0 then 0 else 1)), vi (nI (i + 1))] [] μ (RI K) := ih
    have hb := hI i (by omega)
    refine b_Cs_thereOf_9_5 _ _ _ (iF (nI_ge (b := 6) (by omega) (by omega)) ⟨in_nI (by omega) (by decide), ?_⟩)
    rw [nI_tn (by omega)]
    simp only [nI_1]
    have es := (hR i (by omega)).1
    cases hz : R.1 i with
    | zero =>
      rw [hz] at es
      rw [hz, if_pos rfl] at ih2
      exact misR_T es (i1 ih2)
    | succ n =>
      rw [hz] at es hb
      rw [hz, if_neg (by omega)] at ih2
      refine misR_F (n := n) es (by omega) (i0 ih2)
theorem there_X {R : Rw} (hR : Cx R μ) (hI : RI2 4 60 R) (hK : K (nI (sm (zf R) 4)) μ) : ∀ (d i : Nat), 4 = i + d → SS G m_Cs_thereOf 5 [un, vr 10 0, vi 4, vi (nI (sm (zf R) i)), vi (nI i)] [] μ (RI K)
  | 0, i, e => by
    have : i = 4 := by omega
    subst this
    exact b_Cs_thereOf_10_5 _ _ _ (iT (by decide) hK)
  | d + 1, i, e => by
    have ih := there_X hR hI hK d (i + 1) (by omega)
    have ih2 : SS G m_Cs_thereOf 5 [un, vr 10 0, vi 4, vi (nI (sm (zf R) i + if R.1 i = 0 then 0 else 1)), vi (nI (i + 1))] [] μ (RI K) := ih
    have hb := hI i (by omega)
    refine b_Cs_thereOf_10_5 _ _ _ (iF (nI_ge (b := 4) (by omega) (by omega)) ⟨in_nI (by omega) (by decide), ?_⟩)
    rw [nI_tn (by omega)]
    simp only [nI_1]
    have es := (hR i (by omega)).1
    cases hz : R.1 i with
    | zero =>
      rw [hz] at es
      rw [hz, if_pos rfl] at ih2
      exact misT_T es (i1 ih2)
    | succ n =>
      rw [hz] at es hb
      rw [hz, if_neg (by omega)] at ih2
      refine misT_F (n := n) es (by omega) (i0 ih2)
def kf (ke : Nat → Option Sc) (k : Nat) : Nat := match ke k with
  | none => 0
  | some _ => 1
theorem empty_K {H : Hs} {ke : Nat → Option Sc} {k : Nat} (hk : k < 3) (hC : Ck H ke μ) (hH : HI H) (hK : KI H ke) (h0 : ke k = none → K 1 μ) (h1 : ∀ c, ke k = some c → K 0 μ) : CS G m_St_isEmpty [vr 4 (k + 1)] μ (RI K) := by
  refine c_St_isEmpty _ ?_
  have h := hC k hk
  unfold Ck1 at h
  cases hq : ke k with
  | none =>
    rw [hq] at h
    exact iT h ⟨z01, h0 hq⟩
  | some c =>
    rw [hq] at h
    have b1 := hH.1
    have h2 := (hK k c hk hq).2
    refine iF ?_ ⟨z00, h1 c hq⟩
    rw [h.1.1]
    exact nI_ne0 (by omega) (by omega)
theorem kept_C {H : Hs} {ke : Nat → Option Sc} (hC : Ck H ke μ) (hH : HI H) (hI : KI H ke) (hK : K (nI (sm (kf ke) 3)) μ) : ∀ (d i : Nat), 3 = i + d → SS G m_Cs_keptStreets 4 [vr 6 0, vi (nI (sm (kf ke) i)), vi (nI i)] [] μ (RI K)
  | 0, i, e => by
    have : i = 3 := by omega
    subst this
    exact b_Cs_keptStreets_4 _ _ (iT (by decide) hK)
  | d + 1, i, e => by
    have ih := kept_C hC hH hI hK d (i + 1) (by omega)
    have ih2 : SS G m_Cs_keptStreets 4 [vr 6 0, vi (nI (sm (kf ke) i + kf ke i)), vi (nI (i + 1))] [] μ (RI K) := ih
    refine b_Cs_keptStreets_4 _ _ (iF (nI_ge (b := 3) (by omega) (by omega)) ⟨in_nI (by omega) (by decide), ?_⟩)
    rw [nI_tn (by omega), Nat.add_comm 1 i]
    simp only [nI_1]
    refine empty_K (by omega) hC hH hI (fun q => i1 ?_) fun c q => i0 ?_
    · rw [show kf ke i = 0 from by unfold kf; rw [q]] at ih2
      exact ih2
    · rw [show kf ke i = 1 from by unfold kf; rw [q]] at ih2
      exact ih2
/-- what count tells -/
def f1 (a : Ab) (x h : Nat) : Nat := if x = 4 then vo (cs (aH a) (aC a)) h else if x = 5 then vp (cs (aH a) (aC a)) h else if x = 6 then pf (aH a) h else 0
def f2 (a : Ab) (x r : Nat) : Nat := if x = 7 then zf (aR a) r else 0
def f3 (a : Ab) (x r : Nat) : Nat := if x = 8 then zf (aX a) r else 0
def f4 (a : Ab) (x k : Nat) : Nat := if x = 9 then kf (aK a) k else 0
def cnt (a : Ab) (x : Nat) : Nat := match x with
  | 0 => hn (aH a)
  | 1 => hN (aH a)
  | 2 => vt (cs (aH a) (aC a))
  | 3 => cD (aC a)
  | _ => sm (f1 a x) (hn (aH a)) + sm (f2 a x) 6 + sm (f3 a x) 4 + sm (f4 a x) 3
theorem cnt4 (a : Ab) : cnt a 4 = sm (vo (cs (aH a) (aC a))) (hn (aH a)) := by
  show sm (f1 a 4) _ + sm (f2 a 4) 6 + sm (f3 a 4) 4 + sm (f4 a 4) 3 = _
  rw [sm_z (f := f2 a 4) fun _ _ => rfl, sm_z (f := f3 a 4) fun _ _ => rfl, sm_z (f := f4 a 4) fun _ _ => rfl]
  rfl
theorem cnt5 (a : Ab) : cnt a 5 = sm (vp (cs (aH a) (aC a))) (hn (aH a)) := by
  show sm (f1 a 5) _ + sm (f2 a 5) 6 + sm (f3 a 5) 4 + sm (f4 a 5) 3 = _
  rw [sm_z (f := f2 a 5) fun _ _ => rfl, sm_z (f := f3 a 5) fun _ _ => rfl, sm_z (f := f4 a 5) fun _ _ => rfl]
  rfl
theorem cnt6 (a : Ab) : cnt a 6 = sm (pf (aH a)) (hn (aH a)) := by
  show sm (f1 a 6) _ + sm (f2 a 6) 6 + sm (f3 a 6) 4 + sm (f4 a 6) 3 = _
  rw [sm_z (f := f2 a 6) fun _ _ => rfl, sm_z (f := f3 a 6) fun _ _ => rfl, sm_z (f := f4 a 6) fun _ _ => rfl]
  rfl
theorem cnt7 (a : Ab) : cnt a 7 = sm (zf (aR a)) 6 := by
  show sm (f1 a 7) _ + sm (f2 a 7) 6 + sm (f3 a 7) 4 + sm (f4 a 7) 3 = _
  rw [sm_z (f := f1 a 7) fun _ _ => rfl, sm_z (f := f3 a 7) fun _ _ => rfl, sm_z (f := f4 a 7) fun _ _ => rfl, Nat.zero_add]
  rfl
theorem cnt8 (a : Ab) : cnt a 8 = sm (zf (aX a)) 4 := by
  show sm (f1 a 8) _ + sm (f2 a 8) 6 + sm (f3 a 8) 4 + sm (f4 a 8) 3 = _
  rw [sm_z (f := f1 a 8) fun _ _ => rfl, sm_z (f := f2 a 8) fun _ _ => rfl, sm_z (f := f4 a 8) fun _ _ => rfl, Nat.zero_add]
  rfl
theorem cnt9 (a : Ab) : cnt a 9 = sm (kf (aK a)) 3 := by
  show sm (f1 a 9) _ + sm (f2 a 9) 6 + sm (f3 a 9) 4 + sm (f4 a 9) 3 = _
  rw [sm_z (f := f1 a 9) fun _ _ => rfl, sm_z (f := f2 a 9) fun _ _ => rfl, sm_z (f := f3 a 9) fun _ _ => rfl, Nat.zero_add]
  rfl
theorem count_C {a : Ab} {x : Nat} (hA : AI a) (hC : RC a μ) (hx : x < 10) (hK : K (nI (cnt a x)) μ) : CS G m_Cs_count [vr 6 0, vi (nI x)] μ (RI K) := by
  have hS := hC.2.2.2.1
  have b1 := hA.2.2.1.1
  refine c_Cs_count _ ?_
  have hx10 : x = 0 ∨ x = 1 ∨ x = 2 ∨ x = 3 ∨ x = 4 ∨ x = 5 ∨ x = 6 ∨ x = 7 ∨ x = 8 ∨ x = 9 := by omega
  rcases hx10 with rfl | rfl | rfl | rfl | rfl | rfl | rfl | rfl | rfl | rfl
  · exact iT rfl (by rw [hS.1.1]; exact hK)
  · exact iF (by decide) (iT rfl (by rw [hS.1.2.1]; exact hK))
  · exact iF (by decide) (iF (by decide) (iT rfl (by rw [hS.2.2.1]; exact hK)))
  · exact iF (by decide) (iF (by decide) (iF (by decide) (iT rfl (by rw [hS.2.1.1]; exact hK))))
  · refine iF (by decide) (iF (by decide) (iF (by decide) (iF (by decide) (iT rfl ?_))))
    rw [hS.1.1, all_d _ (by omega)]
    refine owedBy_C hS hA.2.2.1 (pow_lt b1) ?_
    rw [ow_all hA.2.2.1, ← cnt4]
    exact hK
  · refine iF (by decide) (iF (by decide) (iF (by decide) (iF (by decide) (iF (by decide) (iT rfl (c_St_painTillNow _ (pain_C hS hA.2.2.1 ?_ (hn (aH a)) 0 (by omega))))))))
    rw [← cnt5]
    exact hK
  · refine iF (by decide) (iF (by decide) (iF (by decide) (iF (by decide) (iF (by decide) (iF (by decide) (iT rfl (c_St_countOf _ _ (poor_C hS hA.2.2.1 ?_ (hn (aH a)) 0 (by omega)))))))))
    rw [← cnt6]
    exact hK
  · refine iF (by decide) (iF (by decide) (iF (by decide) (iF (by decide) (iF (by decide) (iF (by decide) (iF (by decide) (iT rfl (c_Cs_thereOf_9 _ (there_R hC.2.1 hA.1 ?_ 6 0 rfl)))))))))
    rw [← cnt7]
    exact hK
  · refine iF (by decide) (iF (by decide) (iF (by decide) (iF (by decide) (iF (by decide) (iF (by decide) (iF (by decide) (iF (by decide) (iT rfl (c_Cs_thereOf_10 _ (there_X hC.2.2.1 hA.2.1 ?_ 4 0 rfl))))))))))
    rw [← cnt8]
    exact hK
  · refine iF (by decide) (iF (by decide) (iF (by decide) (iF (by decide) (iF (by decide) (iF (by decide) (iF (by decide) (iF (by decide) (iF (by decide) (iT rfl (c_Cs_keptStreets (kept_C hC.2.2.2.2 hA.2.2.1 hA.2.2.2.2 ?_ 3 0 rfl)))))))))))
    rw [← cnt9]
    exact hK
end P38
