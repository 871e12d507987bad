/-! the small methods of both -/
section B29
variable {G : Ge} {μ : Mm} {K : Int32 → Mm → Prop} {x : Int32} {r n : Nat}
theorem in_T (hn : n < 2147483648) (hr : r < n) (h : K 1 μ) : CS G m_Mo_in [vi (nI r), vi 0, vi (nI n - 1)] μ (RI K) := by
  refine c_Mo_in _ _ _ (iNl (by omega) ?_)
  rw [show nI n - 1 = nI (n - 1) from nI_sub (b := 1) (by omega)]
  exact iLtF (by omega) (by omega) ⟨z01, h⟩
theorem in_F (hn : n < 2147483648) (hr : ¬ rg x n) (h : K 0 μ) : CS G m_Mo_in [vi x, vi 0, vi (nI n - 1)] μ (RI K) := by
  refine c_Mo_in _ _ _ (iB (fun _ => ⟨z00, h⟩) fun h0 => ?_)
  refine iT ?_ ⟨z00, h⟩
  rcases rg_no hn hr with q | q
  · exact absurd q h0
  · cases n with
    | zero =>
      rw [neg_sub1]
      have := Int32.lt_iff_toInt_lt (x := x) (y := 0)
      rw [Int32.lt_iff_toInt_lt]
      have e1 : (-1 : Int32).toInt = -1 := rfl
      have e2 : (0 : Int32).toInt = 0 := rfl
      have e3 : ¬ x.toInt < (0 : Int32).toInt := fun q => h0 (this.mpr q)
      omega
    | succ n =>
      rw [nI_pred]
      rw [Int32.le_iff_toInt_le, nI_toInt hn] at q
      rw [Int32.lt_iff_toInt_lt, nI_toInt (by omega)]
      omega
theorem no_T {P Q1 : Prop} (hn : n < 2147483648) (hr : r < n) (h : P) : if nI r < 0 then Q1 else if nI r < nI n then P else Q1 := iNl (by omega) (iLtT hn hr h)
theorem no_F {P Q1 : Prop} (hn : n < 2147483648) (hr : ¬ rg x n) (h : Q1) : if x < 0 then Q1 else if x < nI n then P else Q1 := iB (fun _ => h) fun h0 => iF (rg_nlt hn hr h0) h
theorem noRow_T (hr : r < 6) (h : K 0 μ) : CS G m_Cs_noRow [vr 6 0, vi (nI r)] μ (RI K) := c_Cs_noRow _ (no_T (n := 6) (by decide) hr ⟨z00, h⟩)
theorem noRow_F (hr : ¬ rg x 6) (h : K 1 μ) : CS G m_Cs_noRow [vr 6 0, vi x] μ (RI K) := c_Cs_noRow _ (no_F (n := 6) (by decide) hr ⟨z01, h⟩)
theorem noText_T (hr : r < 4) (h : K 0 μ) : CS G m_Cs_noText [vr 6 0, vi (nI r)] μ (RI K) := c_Cs_noText _ (no_T (n := 4) (by decide) hr ⟨z00, h⟩)
theorem noText_F (hr : ¬ rg x 4) (h : K 1 μ) : CS G m_Cs_noText [vr 6 0, vi x] μ (RI K) := c_Cs_noText _ (no_F (n := 4) (by decide) hr ⟨z01, h⟩)
theorem noKept_T (hr : r < 3) (h : K 0 μ) : CS G m_Cs_noKept [vr 6 0, vi (nI r)] μ (RI K) := c_Cs_noKept _ (no_T (n := 3) (by decide) hr ⟨z00, h⟩)
theorem noKept_F (hr : ¬ rg x 3) (h : K 1 μ) : CS G m_Cs_noKept [vr 6 0, vi x] μ (RI K) := c_Cs_noKept _ (no_F (n := 3) (by decide) hr ⟨z01, h⟩)
theorem noHouse_T (e : μ.1 4 0 6 = nI n) (hn : n < 2147483648) (hr : r < n) (h : K 0 μ) : CS G m_Cs_noHouse [vr 6 0, vi (nI r)] μ (RI K) := c_Cs_noHouse _ (by rw [e]; exact no_T hn hr ⟨z00, h⟩)
theorem noHouse_F (e : μ.1 4 0 6 = nI n) (hn : n < 2147483648) (hr : ¬ rg x n) (h : K 1 μ) : CS G m_Cs_noHouse [vr 6 0, vi x] μ (RI K) := c_Cs_noHouse _ (by rw [e]; exact no_F hn hr ⟨z01, h⟩)
theorem noNight_T (e : μ.1 4 0 5 = nI n) (hn : n < 2147483648) (hr : r < n) (h : K 0 μ) : CS G m_Cs_noNight [vr 6 0, vi (nI r)] μ (RI K) := c_Cs_noNight _ (by rw [e]; exact no_T hn hr ⟨z00, h⟩)
theorem noNight_F (e : μ.1 4 0 5 = nI n) (hn : n < 2147483648) (hr : ¬ rg x n) (h : K 1 μ) : CS G m_Cs_noNight [vr 6 0, vi x] μ (RI K) := c_Cs_noNight _ (by rw [e]; exact no_F hn hr ⟨z01, h⟩)
theorem isRow_T (hr : r < 6) (h : K 1 μ) : CS G m_Mo_isRow [vi (nI r)] μ (RI K) := c_Mo_isRow _ (in_T (n := 6) (by decide) hr ⟨z01, h⟩)
theorem isRow_F (hr : ¬ rg x 6) (h : K 0 μ) : CS G m_Mo_isRow [vi x] μ (RI K) := c_Mo_isRow _ (in_F (n := 6) (by decide) hr ⟨z00, h⟩)
theorem isText_T (hr : r < 4) (h : K 1 μ) : CS G m_Mo_isText [vi (nI r)] μ (RI K) := c_Mo_isText _ (in_T (n := 4) (by decide) hr ⟨z01, h⟩)
theorem isText_F (hr : ¬ rg x 4) (h : K 0 μ) : CS G m_Mo_isText [vi x] μ (RI K) := c_Mo_isText _ (in_F (n := 4) (by decide) hr ⟨z00, h⟩)
theorem isHouse_T (e : μ.1 7 0 10 = nI n) (hn : n < 2147483648) (hr : r < n) (h : K 1 μ) : CS G m_Mo_isHouse [vr 7 0, vi (nI r)] μ (RI K) := c_Mo_isHouse _ (by rw [e]; exact in_T hn hr ⟨z01, h⟩)
theorem isHouse_F (e : μ.1 7 0 10 = nI n) (hn : n < 2147483648) (hr : ¬ rg x n) (h : K 0 μ) : CS G m_Mo_isHouse [vr 7 0, vi x] μ (RI K) := c_Mo_isHouse _ (by rw [e]; exact in_F hn hr ⟨z00, h⟩)
theorem isNight_T (e : μ.1 7 0 11 = nI n) (hn : n < 2147483648) (hr : r < n) (h : K 1 μ) : CS G m_Mo_isNight [vr 7 0, vi (nI r)] μ (RI K) := c_Mo_isNight _ (by rw [e]; exact in_T hn hr ⟨z01, h⟩)
theorem isNight_F (e : μ.1 7 0 11 = nI n) (hn : n < 2147483648) (hr : ¬ rg x n) (h : K 0 μ) : CS G m_Mo_isNight [vr 7 0, vi x] μ (RI K) := c_Mo_isNight _ (by rw [e]; exact in_F hn hr ⟨z00, h⟩)
/-! findings, what is told -/
def meet (f : Nat) (T : Tl) : Tl := (uf T.1 f (T.1 f + 1), nI f, T.2.2)
def tellI (v : Int32) (T : Tl) : Tl := (T.1, T.2.1, v, T.2.2.2)
def tellL (u l : Int64) (T : Tl) : Tl := (T.1, T.2.1, T.2.2.1, u, l)
theorem answer_s {T : Tl} {f : Nat} (hT : Ct T μ) (hf : f < 6) (h : ∀ μ1, Ct (meet f T) μ1 → Fa (L1 0) μ μ1 → K (-3) μ1) : CS G m_Cs_answer [vr 6 0, vi (nI f)] μ (RI K) := by
  refine c_Cs_answer _ ⟨in_nI hf (by decide), in_nI hf (by decide), ?_⟩
  rw [nI_tn (by omega)]
  refine h _ ⟨fun g hg => ?_, ?_, ?_, hT.2.2.2.1, hT.2.2.2.2⟩ ((Fa.rf.wI rfl).wI rfl)
  · by_cases e : g = f
    · subst e
      rw [wI_s, wI_k _ _ (by decide), hT.1 g hg]
      exact (uf_s _ _ _).symm
    · rw [wI_n _ _ _ _ e, wI_k _ _ (by decide), hT.1 g hg]
      exact (uf_n e).symm
  · rw [wI_k _ _ (by decide), wI_s]
    rfl
  · rw [wI_k _ _ (by decide), wI_n _ _ _ _ (by decide)]
    exact hT.2.2.1
theorem meets_s {T : Tl} {f : Nat} (hT : Mt T μ) (hf : f < 6) (h : ∀ μ1, Mt (meet f T) μ1 → Fa (L1 6) μ μ1 → K (-3) μ1) : CS G m_Mo_meets [vr 7 0, vi (nI f)] μ (RI K) := by
  refine c_Mo_meets _ ⟨in_nI hf (by decide), in_nI hf (by decide), ?_⟩
  rw [nI_tn (by omega)]
  refine h _ ⟨fun g hg => ?_, ?_, ?_, hT.2.2.2.1, hT.2.2.2.2⟩ ((Fa.rf.wI rfl).wI rfl)
  · by_cases e : g = f
    · subst e
      rw [wI_s, wI_k _ _ (by decide), hT.1 g hg]
      exact (uf_s _ _ _).symm
    · rw [wI_n _ _ _ _ e, wI_k _ _ (by decide), hT.1 g hg]
      exact (uf_n e).symm
  · rw [wI_k _ _ (by decide), wI_s]
    rfl
  · rw [wI_k _ _ (by decide), wI_n _ _ _ _ (by decide)]
    exact hT.2.2.1
theorem tellC {T : Tl} {v : Int32} (hT : Ct T μ) : Ct (tellI v T) (wI μ 6 0 9 v) := ⟨fun f hf => by rw [wI_k _ _ (by decide)]; exact hT.1 f hf, by rw [wI_n _ _ _ _ (by decide)]; exact hT.2.1, wI_s _ _ _ _ _, hT.2.2.2.1, hT.2.2.2.2⟩
theorem tells_s {T : Tl} {v : Int32} (hT : Mt T μ) (h : ∀ μ1, Mt (tellI v T) μ1 → Fa (L1 6) μ μ1 → K x μ1) : CS G m_Mo_tells [vr 7 0, vi v, vi x] μ (RI K) := by
  refine c_Mo_tells _ _ (h _ ⟨fun f hf => by rw [wI_k _ _ (by decide)]; exact hT.1 f hf, by rw [wI_n _ _ _ _ (by decide)]; exact hT.2.1, wI_s _ _ _ _ _, hT.2.2.2.1, hT.2.2.2.2⟩ (Fa.rf.wI rfl))
/-- both meet a finding -/
theorem both_meet {a : Ab} {f : Nat} {L : Int32 → Int32 → Mm → Prop} {M' : MS} {as' : List Vl} (hf : f < 6) (hA : AI a) (hC : RC a μ) (hM : RM a μ) (hL : ∀ v μ1, Ok G μ1 → L v v μ1)
    (hm : ∀ (μ1 : Mm) (K1 : Int32 → Mm → Prop), RM a μ1 → (CS G m_Mo_meets [vr 7 0, vi (nI f)] μ1 (RI K1)) → CS G M' as' μ1 (RI K1)) : CS G m_Cs_answer [vr 6 0, vi (nI f)] μ (RI fun v1 μ1 => CS G M' as' μ1 (RI fun v2 μ2 => L v1 v2 μ2)) := by
  refine answer_s hC.1 hf fun μ1 hT F => hm μ1 _ (hM.fa F (fun x h _ => by cases x with | zero => exact absurd h (by decide) | succ x => rfl)) (meets_s (hM.1.fa F rfl) hf fun μ2 hT2 F2 => hL _ _ ?_)
  have hM1 := hM.fa F (fun x h _ => by cases x with | zero => exact absurd h (by decide) | succ x => rfl)
  refine ⟨(meet f (aT a), a.2), hA, ⟨hT.fa F2 rfl, (hC.2.1.fa F rfl).fa F2 rfl, (hC.2.2.1.fa F rfl).fa F2 rfl, (hC.2.2.2.1.fa hA.2.2.1 F rfl).fa hA.2.2.1 F2 rfl, (hC.2.2.2.2.fa hA.2.2.1 F rfl).fa hA.2.2.1 F2 rfl⟩, hT2, hM1.2.1.fa F2 rfl, hM1.2.2.1.fa F2 rfl, hM1.2.2.2.1.fa F2 rfl, hM1.2.2.2.2.fa F2 rfl⟩
end B29
