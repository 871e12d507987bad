/-! rows -/
theorem sub_toInt {n m : Nat} (hn : n < 2147483648) (hm : m < 2147483648) : (nI n - nI m).toInt = (n : Int) - m := by
  rw [Int32.toInt_sub, nI_toInt hn, nI_toInt hm]
  apply Int.bmod_eq_of_le <;> omega
section B30
variable {G : Ge} {μ : Mm} {K : Int32 → Mm → Prop} {V : Mm → Prop} {x : Int32} {r n m j i : Nat}
theorem has_no {P Q1 : Prop} {x : Int32} (hn : n < 2147483648) (hm : m < 2147483648) (hx : ¬ ∃ j, j + m ≤ n ∧ x = nI j) (h : Q1) : if x < 0 then Q1 else if nI n - nI m < x then Q1 else P := by
  refine iB (fun _ => h) fun h0 => iT ?_ h
  obtain ⟨j, hj, rfl⟩ := nI_of h0
  rw [Int32.lt_iff_toInt_lt, sub_toInt hn hm, nI_toInt hj]
  by_cases hc : j + m ≤ n
  · exact absurd ⟨j, hc, rfl⟩ hx
  · omega
theorem has_yes {P Q1 : Prop} (hn : n < 2147483648) (hm : m < 2147483648) (hx : j + m ≤ n) (h : P) : if nI j < 0 then Q1 else if nI n - nI m < nI j then Q1 else P := by
  refine iNl (by omega) (iF ?_ h)
  rw [Int32.lt_iff_toInt_lt, sub_toInt hn hm, nI_toInt (by omega)]
  omega
theorem hasR_T (e : μ.1 3 i 1 = nI n) (hn : n < 2147483648) (hm : m < 2147483648) (hx : j + m ≤ n) (h : K 1 μ) : CS G m_Ro_has [vr 3 i, vi (nI j), vi (nI m)] μ (RI K) := c_Ro_has_R _ _ _ (by rw [e]; exact has_yes hn hm hx ⟨z01, h⟩)
theorem hasR_F (e : μ.1 3 i 1 = nI n) (hn : n < 2147483648) (hm : m < 2147483648) (hx : ¬ ∃ j, j + m ≤ n ∧ x = nI j) (h : K 0 μ) : CS G m_Ro_has [vr 3 i, vi x, vi (nI m)] μ (RI K) := c_Ro_has_R _ _ _ (by rw [e]; exact has_no hn hm hx ⟨z00, h⟩)
theorem hasT_T (e : μ.1 8 i 1 = nI n) (hn : n < 2147483648) (hm : m < 2147483648) (hx : j + m ≤ n) (h : K 1 μ) : CS G m_Ro_has [vr 8 i, vi (nI j), vi (nI m)] μ (RI K) := c_Ro_has_T _ _ _ (by rw [e]; exact has_yes hn hm hx ⟨z01, h⟩)
theorem hasT_F (e : μ.1 8 i 1 = nI n) (hn : n < 2147483648) (hm : m < 2147483648) (hx : ¬ ∃ j, j + m ≤ n ∧ x = nI j) (h : K 0 μ) : CS G m_Ro_has [vr 8 i, vi x, vi (nI m)] μ (RI K) := c_Ro_has_T _ _ _ (by rw [e]; exact has_no hn hm hx ⟨z00, h⟩)
theorem misR_F (e : μ.1 3 i 1 = nI n) (hn : n < 2147483648) (h : K 0 μ) : CS G m_Ro_isMissing [vr 3 i] μ (RI K) := c_Ro_isMissing_R _ (by rw [e]; exact iN0 hn ⟨z00, h⟩)
theorem misR_T (e : μ.1 3 i 1 = -1) (h : K 1 μ) : CS G m_Ro_isMissing [vr 3 i] μ (RI K) := c_Ro_isMissing_R _ (by rw [e]; exact iF (by decide) ⟨z01, h⟩)
theorem misT_F (e : μ.1 8 i 1 = nI n) (hn : n < 2147483648) (h : K 0 μ) : CS G m_Ro_isMissing [vr 8 i] μ (RI K) := c_Ro_isMissing_T _ (by rw [e]; exact iN0 hn ⟨z00, h⟩)
theorem misT_T (e : μ.1 8 i 1 = -1) (h : K 1 μ) : CS G m_Ro_isMissing [vr 8 i] μ (RI K) := c_Ro_isMissing_T _ (by rw [e]; exact iF (by decide) ⟨z01, h⟩)
theorem rcheck (hn : n ≤ m) (hm : m < 2147483648) (h : V μ) : CS G m_Ja_rangeCheck [vi (nI m), vi 0, vi (nI n)] μ (RV V) := c_Ja_rangeCheck _ _ _ (iN0 (by omega) (iT (by decide) (iLeT hm hn h)))
theorem fill40 : ∀ (d : Nat) {j n : Nat} {μ : Mm}, n = j + d → n ≤ 40 → V (aI μ 18 i j d (fun _ => x)) → SS G m_Ja_fill4 10 [vr 18 i, un, vi (nI n), vi x, vi (nI j)] [] μ (RV V)
  | 0, j, n, μ, e, hn, h => by
    rw [aI_0] at h
    exact b_Ja_fill4_40_10 _ _ _ _ (iLeT (by omega) (by omega) h)
  | d + 1, j, n, μ, e, hn, h => by
    refine b_Ja_fill4_40_10 _ _ _ _ (iLeF (by omega) (by omega) ⟨in_nI (by omega) (by decide), ?_⟩)
    rw [nI_1, nI_tn (by omega)]
    refine fill40 d (by omega) hn ?_
    rw [aI_step _ _ _ _ _ (fun _ => x) x rfl]
    exact h
theorem fill60 : ∀ (d : Nat) {j n : Nat} {μ : Mm}, n = j + d → n ≤ 60 → V (aI μ 19 i j d (fun _ => x)) → SS G m_Ja_fill4 10 [vr 19 i, un, vi (nI n), vi x, vi (nI j)] [] μ (RV V)
  | 0, j, n, μ, e, hn, h => by
    rw [aI_0] at h
    exact b_Ja_fill4_60_10 _ _ _ _ (iLeT (by omega) (by omega) h)
  | d + 1, j, n, μ, e, hn, h => by
    refine b_Ja_fill4_60_10 _ _ _ _ (iLeF (by omega) (by omega) ⟨in_nI (by omega) (by decide), ?_⟩)
    rw [nI_1, nI_tn (by omega)]
    refine fill60 d (by omega) hn ?_
    rw [aI_step _ _ _ _ _ (fun _ => x) x rfl]
    exact h
theorem begR (hn : n ≤ 40) (h : V (aI (wI μ 3 i 1 (nI n)) 18 i 0 n (fun _ => x))) : CS G m_Ro_begin [vr 3 i, vi (nI n), vi x] μ (RV V) := c_Ro_begin_R _ _ _ (c_Ja_fill4_40 _ _ _ _ (rcheck hn (by decide) (fill40 (j := 0) n (by omega) hn h)))
theorem begT (hn : n ≤ 60) (h : V (aI (wI μ 8 i 1 (nI n)) 19 i 0 n (fun _ => x))) : CS G m_Ro_begin [vr 8 i, vi (nI n), vi x] μ (RV V) := c_Ro_begin_T _ _ _ (c_Ja_fill4_60 _ _ _ _ (rcheck hn (by decide) (fill60 (j := 0) n (by omega) hn h)))
end B30
section U30
variable {μ μ1 : Mm} {R : Rw} {r z : Nat} {f : Nat → Int32}
theorem Cr_up (h : Cr R μ) (hs : μ1.1 3 r 1 = sz z) (hv : ∀ j, j + 1 < z → μ1.1 18 r j = f j) (h3 : ∀ i, i ≠ r → μ1.1 3 i = μ.1 3 i) (h18 : ∀ i, i ≠ r → μ1.1 18 i = μ.1 18 i) : Cr (uf R.1 r z, uf R.2 r f) μ1 := by
  intro i hi
  by_cases e : i = r
  · subst e
    refine ⟨by rw [hs]; show _ = sz (uf R.1 i z i); rw [uf_s], fun j hj => ?_⟩
    have hj : j + 1 < uf R.1 i z i := hj
    rw [uf_s] at hj
    rw [hv j hj]
    show _ = uf R.2 i f i j
    rw [uf_s]
  · have e1 : (uf R.1 r z, uf R.2 r f).1 i = R.1 i := uf_n e
    have e2 : (uf R.1 r z, uf R.2 r f).2 i = R.2 i := uf_n e
    rw [e1, e2, h3 i e, h18 i e]
    exact h i hi
theorem Cx_up (h : Cx R μ) (hs : μ1.1 8 r 1 = sz z) (hv : ∀ j, j + 1 < z → μ1.1 19 r j = f j) (h3 : ∀ i, i ≠ r → μ1.1 8 i = μ.1 8 i) (h18 : ∀ i, i ≠ r → μ1.1 19 i = μ.1 19 i) : Cx (uf R.1 r z, uf R.2 r f) μ1 := by
  intro i hi
  by_cases e : i = r
  · subst e
    refine ⟨by rw [hs]; show _ = sz (uf R.1 i z i); rw [uf_s], fun j hj => ?_⟩
    have hj : j + 1 < uf R.1 i z i := hj
    rw [uf_s] at hj
    rw [hv j hj]
    show _ = uf R.2 i f i j
    rw [uf_s]
  · have e1 : (uf R.1 r z, uf R.2 r f).1 i = R.1 i := uf_n e
    have e2 : (uf R.1 r z, uf R.2 r f).2 i = R.2 i := uf_n e
    rw [e1, e2, h3 i e, h18 i e]
    exact h i hi
theorem Mr_up (h : Mr R μ) (hR : RI2 6 40 R) (hs : μ1.1 27 0 r = sz z) (hv : ∀ j, j + 1 < z → μ1.1 28 0 (40 * r + j) = f j) (h3 : ∀ i, i ≠ r → μ1.1 27 0 i = μ.1 27 0 i) (h18 : ∀ x, ¬ (40 * r ≤ x ∧ x < 40 * r + 40) → μ1.1 28 0 x = μ.1 28 0 x) : Mr (uf R.1 r z, uf R.2 r f) μ1 := by
  intro i hi
  by_cases e : i = r
  · subst e
    refine ⟨by rw [hs]; show _ = sz (uf R.1 i z i); rw [uf_s], fun j hj => ?_⟩
    have hj : j + 1 < uf R.1 i z i := hj
    rw [uf_s] at hj
    rw [hv j hj]
    show _ = uf R.2 i f i j
    rw [uf_s]
  · have e1 : (uf R.1 r z, uf R.2 r f).1 i = R.1 i := uf_n e
    have e2 : (uf R.1 r z, uf R.2 r f).2 i = R.2 i := uf_n e
    rw [e1, e2, h3 i e]
    have hi2 := hR i hi
    exact ⟨(h i hi).1, fun j hj => by rw [h18 _ (by omega)]; exact (h i hi).2 j hj⟩
theorem Mx_up (h : Mx R μ) (hR : RI2 4 60 R) (hs : μ1.1 30 0 r = sz z) (hv : ∀ j, j + 1 < z → μ1.1 31 0 (60 * r + j) = f j) (h3 : ∀ i, i ≠ r → μ1.1 30 0 i = μ.1 30 0 i) (h18 : ∀ x, ¬ (60 * r ≤ x ∧ x < 60 * r + 60) → μ1.1 31 0 x = μ.1 31 0 x) : Mx (uf R.1 r z, uf R.2 r f) μ1 := by
  intro i hi
  by_cases e : i = r
  · subst e
    refine ⟨by rw [hs]; show _ = sz (uf R.1 i z i); rw [uf_s], fun j hj => ?_⟩
    have hj : j + 1 < uf R.1 i z i := hj
    rw [uf_s] at hj
    rw [hv j hj]
    show _ = uf R.2 i f i j
    rw [uf_s]
  · have e1 : (uf R.1 r z, uf R.2 r f).1 i = R.1 i := uf_n e
    have e2 : (uf R.1 r z, uf R.2 r f).2 i = R.2 i := uf_n e
    rw [e1, e2, h3 i e]
    have hi2 := hR i hi
    exact ⟨(h i hi).1, fun j hj => by rw [h18 _ (by omega)]; exact (h i hi).2 j hj⟩
theorem RI2_up {n m : Nat} (h : RI2 n m R) (hz : z ≤ m + 1) : RI2 n m (uf R.1 r z, uf R.2 r f) := by
  intro i hi
  show uf R.1 r z i ≤ m + 1
  by_cases e : i = r
  · subst e
    rw [uf_s]
    exact hz
  · rw [uf_n e]
    exact h i hi
end U30
/-- the rest of a state stays where only one area of the class's changed -/
theorem RC.rest1 {μ μ1 : Mm} {a : Ab} {R : Rw} (h : RC a μ) (hA : AI a) (F : Fa (L1 1) μ μ1) (hR : Cr R μ1) : RC (aT a, R, a.2.2) μ1 := ⟨h.1.fa F rfl, hR, h.2.2.1.fa F rfl, h.2.2.2.1.fa hA.2.2.1 F rfl, h.2.2.2.2.fa hA.2.2.1 F rfl⟩
theorem RM.rest1 {μ μ1 : Mm} {a : Ab} {R : Rw} (h : RM a μ) (F : Fa (L1 7) μ μ1) (hR : Mr R μ1) : RM (aT a, R, a.2.2) μ1 := ⟨h.1.fa F rfl, hR, h.2.2.1.fa F rfl, h.2.2.2.1.fa F rfl, h.2.2.2.2.fa F rfl⟩
theorem RC.rest2 {μ μ1 : Mm} {a : Ab} {R : Rw} (h : RC a μ) (hA : AI a) (F : Fa (L1 2) μ μ1) (hR : Cx R μ1) : RC (aT a, aR a, R, a.2.2.2) μ1 := ⟨h.1.fa F rfl, h.2.1.fa F rfl, hR, h.2.2.2.1.fa hA.2.2.1 F rfl, h.2.2.2.2.fa hA.2.2.1 F rfl⟩
theorem RM.rest2 {μ μ1 : Mm} {a : Ab} {R : Rw} (h : RM a μ) (F : Fa (L1 8) μ μ1) (hR : Mx R μ1) : RM (aT a, aR a, R, a.2.2.2) μ1 := ⟨h.1.fa F rfl, h.2.1.fa F rfl, hR, h.2.2.2.1.fa F rfl, h.2.2.2.2.fa F rfl⟩
theorem RC.rest0 {μ μ1 : Mm} {a : Ab} {T : Tl} (h : RC a μ) (hA : AI a) (F : Fa (L1 0) μ μ1) (hT : Ct T μ1) : RC (T, a.2) μ1 := ⟨hT, h.2.1.fa F rfl, h.2.2.1.fa F rfl, h.2.2.2.1.fa hA.2.2.1 F rfl, h.2.2.2.2.fa hA.2.2.1 F rfl⟩
theorem RM.rest0 {μ μ1 : Mm} {a : Ab} {T : Tl} (h : RM a μ) (F : Fa (L1 6) μ μ1) (hT : Mt T μ1) : RM (T, a.2) μ1 := ⟨hT, h.2.1.fa F rfl, h.2.2.1.fa F rfl, h.2.2.2.1.fa F rfl, h.2.2.2.2.fa F rfl⟩
theorem L1_M {b : Nat} (hb : b < 6) : ∀ x, 6 ≤ x → x < 11 → L1 b x = false := fun x h _ => by
  show Nat.beq x b = false
  cases e : Nat.beq x b
  · rfl
  · have := Nat.eq_of_beq_eq_true e
    omega
theorem L1_C {b : Nat} (hb : 6 ≤ b) : ∀ x, x < 5 → L1 b x = false := fun x h => by
  show Nat.beq x b = false
  cases e : Nat.beq x b
  · rfl
  · have := Nat.eq_of_beq_eq_true e
    omega
theorem L1_W : ∀ x, 6 ≤ x → x < 11 → L1 11 x = false := fun x _ h => by
  show Nat.beq x 11 = false
  cases e : Nat.beq x 11
  · rfl
  · have := Nat.eq_of_beq_eq_true e
    omega
theorem L1_5 : ∀ x, x < 5 → L1 5 x = false := fun x h => by
  show Nat.beq x 5 = false
  cases e : Nat.beq x 5
  · rfl
  · have := Nat.eq_of_beq_eq_true e
    omega
