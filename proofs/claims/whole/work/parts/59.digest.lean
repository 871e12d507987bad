/-! digest -/
def dfo (f : Nat → Int64) : Nat → Nat → Int64 → Int64
  | 0, _, s => s
  | d + 1, j, s => dfo f d (j + 1) (31 * s + f j)
def drw (r : Rw) (i : Nat) (s : Int64) : Int64 := dfo (fun j => (r.2 i j).toInt64) (r.1 i - 1) 0 (31 * s + (sz (r.1 i)).toInt64)
def dfr (r : Rw) : Nat → Nat → Int64 → Int64
  | 0, _, s => s
  | d + 1, i, s => dfr r d (i + 1) (drw r i s)
def dq1 (a : Ab) (x : Nat) : Int64 := (nI (cnt a x)).toInt64
def dq2 (a : Ab) (t : Nat) : Int64 := (nI (cc (aC a) t)).toInt64
def dq3 (a : Ab) (h x : Nat) : Int64 := (sd a h x).toInt64
def dq4 (a : Ab) (k : Nat) : Int64 := match aK a k with
  | none => -1
  | some c => (nI (cD c)).toInt64
def dfh (a : Ab) : Nat → Nat → Int64 → Int64
  | 0, _, s => s
  | d + 1, h, s => dfh a d (h + 1) (dfo (dq3 a h) 6 0 s)
def dgs (a : Ab) : Int64 := dfr (aX a) 4 0 (dfr (aR a) 6 0 (dfo (dq4 a) 3 0 (dfh a (hn (aH a)) 0 (dfo (dq2 a) (hN (aH a)) 0 (dfo (dq1 a) 10 0 17)))))
section P59
variable {G : Ge} {μ : Mm} {K : Int64 → Mm → Prop} {V : Mm → Prop} {a : Ab}
theorem dR15 {i z : Nat} {f : Nat → Int32} (hz : z ≤ 41) (e : μ.1 3 i 1 = sz z) (hf : ∀ j, j + 1 < z → μ.1 18 i j = f j) : ∀ (d : Nat) {j : Nat} {s : Int64}, z - 1 = j + d → K (dfo (fun j => (f j).toInt64) d j s) μ → SS G m_Ro_digestOn 15 [vr 3 i, un, un, vl s, un, vi (nI j)] [] μ (RL K)
  | 0, j, s, ed, hK => by
    refine b_Ro_digestOn_R_15 _ _ _ ?_
    rw [e]
    cases z with
    | zero =>
      refine iT ?_ hK
      rw [show j = 0 by omega]
      decide
    | succ n => exact iLeT (a := n) (by omega) (by omega) hK
  | d + 1, j, s, ed, hK => by
    refine b_Ro_digestOn_R_15 _ _ _ ?_
    rw [e, nI_tn (by omega), hf j (by omega), nI_1]
    cases z with
    | zero => omega
    | succ n => exact iLeF (a := n) (by omega) (by omega) ⟨in_nI (by omega) (by decide), dR15 hz e hf d (by omega) hK⟩
theorem dT15 {i z : Nat} {f : Nat → Int32} (hz : z ≤ 61) (e : μ.1 8 i 1 = sz z) (hf : ∀ j, j + 1 < z → μ.1 19 i j = f j) : ∀ (d : Nat) {j : Nat} {s : Int64}, z - 1 = j + d → K (dfo (fun j => (f j).toInt64) d j s) μ → SS G m_Ro_digestOn 15 [vr 8 i, un, un, vl s, un, vi (nI j)] [] μ (RL K)
  | 0, j, s, ed, hK => by
    refine b_Ro_digestOn_T_15 _ _ _ ?_
    rw [e]
    cases z with
    | zero =>
      refine iT ?_ hK
      rw [show j = 0 by omega]
      decide
    | succ n => exact iLeT (a := n) (by omega) (by omega) hK
  | d + 1, j, s, ed, hK => by
    refine b_Ro_digestOn_T_15 _ _ _ ?_
    rw [e, nI_tn (by omega), hf j (by omega), nI_1]
    cases z with
    | zero => omega
    | succ n => exact iLeF (a := n) (by omega) (by omega) ⟨in_nI (by omega) (by decide), dT15 hz e hf d (by omega) hK⟩
theorem dC190 (hA : AI a) (hC : RC a μ) : ∀ (d : Nat) {i : Nat} {s : Int64}, 4 = i + d → K (dfr (aX a) d i s) μ → SS G m_Cs_digest 190 [vr 6 0, vl s, un, vi (nI i), un] [] μ (RL K)
  | 0, i, s, e, hK => b_Cs_digest_190 _ _ (iT (nI_le (a := 4) (by omega) (by omega)) hK)
  | d + 1, i, s, e, hK => by
    refine b_Cs_digest_190 _ _ (iF (nI_ge (b := 4) (by omega) (by omega)) ⟨in_nI (by omega) (by decide), ?_⟩)
    rw [nI_tn (by omega), nI_1]
    refine c_Ro_digestOn_T _ _ ?_
    rw [(hC.2.2.1 i (by omega)).1]
    exact dT15 (j := 0) (hA.2.1 i (by omega)) (hC.2.2.1 i (by omega)).1 (hC.2.2.1 i (by omega)).2 _ (Nat.zero_add _).symm (dC190 hA hC d (by omega) hK)
theorem dC165 (hA : AI a) (hC : RC a μ) : ∀ (d : Nat) {i : Nat} {s : Int64}, 6 = i + d → SS G m_Cs_digest 190 [vr 6 0, vl (dfr (aR a) d i s), un, vi 0, un] [] μ (RL K) → SS G m_Cs_digest 165 [vr 6 0, vl s, un, vi (nI i), un] [] μ (RL K)
  | 0, i, s, e, hK => b_Cs_digest_165 _ _ (iT (nI_le (a := 6) (by omega) (by omega)) hK)
  | d + 1, i, s, e, hK => by
    refine b_Cs_digest_165 _ _ (iF (nI_ge (b := 6) (by omega) (by omega)) ⟨in_nI (by omega) (by decide), ?_⟩)
    rw [nI_tn (by omega), nI_1]
    refine c_Ro_digestOn_R _ _ ?_
    rw [(hC.2.1 i (by omega)).1]
    exact dR15 (j := 0) (hA.1 i (by omega)) (hC.2.1 i (by omega)).1 (hC.2.1 i (by omega)).2 _ (Nat.zero_add _).symm (dC165 hA hC d (by omega) hK)
theorem dC119 (hA : AI a) (hC : RC a μ) : ∀ (d : Nat) {k : Nat} {s : Int64}, 3 = k + d → SS G m_Cs_digest 165 [vr 6 0, vl (dfo (dq4 a) d k s), un, vi 0, un] [] μ (RL K) → SS G m_Cs_digest 119 [vr 6 0, vl s, un, vi (nI k), un] [] μ (RL K)
  | 0, i, s, e, hK => b_Cs_digest_119 _ _ (iT (nI_le (a := 3) (by omega) (by omega)) hK)
  | d + 1, k, s, e, hK => by
    have ih := dC119 hA hC d (k := k + 1) (s := 31 * s + dq4 a k) (by omega) hK
    refine b_Cs_digest_119 _ _ (iF (nI_ge (b := 3) (by omega) (by omega)) ⟨in_nI (by omega) (by decide), ?_⟩)
    rw [nI_tn (by omega), nI_1, Nat.add_comm 1 k]
    refine empty_K (by omega) hC.2.2.2.2 hA.2.2.1 hA.2.2.2.2 (fun q => i1 ?_) fun c q => i0 ⟨in_nI (by omega) (by decide), ?_⟩
    · rw [show dq4 a k = -1 from by unfold dq4; rw [q]] at ih
      exact ih
    · have h := hC.2.2.2.2 k (by omega)
      unfold Ck1 at h
      rw [q] at h
      rw [show dq4 a k = (nI (cD c)).toInt64 from by unfold dq4; rw [q]] at ih
      rw [h.2.1]
      exact ih
theorem dC83 {h : Nat} (hA : AI a) (hC : RC a μ) (hh : h < hn (aH a)) : ∀ (d : Nat) {x : Nat} {s : Int64}, 6 = x + d → SS G m_Cs_digest 69 [vr 6 0, vl (dfo (dq3 a h) d x s), un, vi (nI (h + 1)), un] [] μ (RL K) → SS G m_Cs_digest 83 [vr 6 0, vl s, un, vi (nI h), vi (nI x)] [] μ (RL K)
  | 0, x, s, e, hK => by
    refine b_Cs_digest_83 _ _ _ (iT (nI_le (a := 6) (by omega) (by omega)) ?_)
    rw [nI_1]
    exact hK
  | d + 1, x, s, e, hK => by
    refine b_Cs_digest_83 _ _ _ (iF (nI_ge (b := 6) (by omega) (by omega)) (side_C hA hC hh (by omega) ?_))
    rw [nI_1]
    exact dC83 hA hC hh d (by omega) hK
theorem dC69 (hA : AI a) (hC : RC a μ) : ∀ (d : Nat) {h : Nat} {s : Int64}, hn (aH a) = h + d → SS G m_Cs_digest 119 [vr 6 0, vl (dfh a d h s), un, vi 0, un] [] μ (RL K) → SS G m_Cs_digest 69 [vr 6 0, vl s, un, vi (nI h), un] [] μ (RL K)
  | 0, h, s, e, hK => by
    have b1 := hA.2.2.1.1
    refine b_Cs_digest_69 _ _ ?_
    rw [hC.2.2.2.1.1.1]
    exact iLeT (by omega) (by omega) hK
  | d + 1, h, s, e, hK => by
    have b1 := hA.2.2.1.1
    refine b_Cs_digest_69 _ _ ?_
    rw [hC.2.2.2.1.1.1]
    exact iLeF (by omega) (by omega) (dC83 (x := 0) hA hC (by omega) 6 rfl (dC69 hA hC d (h := h + 1) (by omega) hK))
theorem dC33 (hA : AI a) (hC : RC a μ) : ∀ (d : Nat) {t : Nat} {s : Int64}, hN (aH a) = t + d → SS G m_Cs_digest 69 [vr 6 0, vl (dfo (dq2 a) d t s), un, vi 0, un] [] μ (RL K) → SS G m_Cs_digest 33 [vr 6 0, vl s, un, vi (nI t), un] [] μ (RL K)
  | 0, t, s, e, hK => by
    have b2 := hA.2.2.1.2.1
    refine b_Cs_digest_33 _ _ ?_
    rw [hC.2.2.2.1.1.2.1]
    exact iLeT (by omega) (by omega) hK
  | d + 1, t, s, e, hK => by
    have b2 := hA.2.2.1.2.1
    refine b_Cs_digest_33 _ _ ?_
    rw [hC.2.2.2.1.1.2.1, nI_tn (by omega), hC.2.2.2.1.2.1.2.1 t (by omega), nI_1]
    exact iLeF (by omega) (by omega) ⟨in_nI (by omega) (by decide), dC33 hA hC d (by omega) hK⟩
theorem dC6 (hA : AI a) (hC : RC a μ) : ∀ (d : Nat) {x : Nat} {s : Int64}, 10 = x + d → SS G m_Cs_digest 33 [vr 6 0, vl (dfo (dq1 a) d x s), un, vi 0, un] [] μ (RL K) → SS G m_Cs_digest 6 [vr 6 0, vl s, un, vi (nI x), un] [] μ (RL K)
  | 0, x, s, e, hK => b_Cs_digest_6 _ _ (iT (nI_le (a := 10) (by omega) (by omega)) hK)
  | d + 1, x, s, e, hK => by
    refine b_Cs_digest_6 _ _ (iF (nI_ge (b := 10) (by omega) (by omega)) (count_C hA hC (by omega) ?_))
    rw [nI_1]
    exact dC6 hA hC d (by omega) hK
theorem digest_C (hA : AI a) (hC : RC a μ) (hK : K (dgs a) μ) : CS G m_Cs_digest [vr 6 0] μ (RL K) := c_Cs_digest (dC6 (x := 0) hA hC 10 rfl (dC33 (t := 0) hA hC _ (Nat.zero_add _).symm (dC69 (h := 0) hA hC _ (Nat.zero_add _).symm (dC119 (k := 0) hA hC 3 rfl (dC165 (i := 0) hA hC 6 rfl (dC190 (i := 0) hA hC 4 rfl hK))))))
/-! the reference's -/
theorem mix_s {s v : Int64} (e : μ.2 7 0 36 = s) (hK : ∀ μ1, μ1.2 7 0 36 = 31 * s + v → Fa (L1 11) μ μ1 → V μ1) : CS G m_Mo_mix [vr 7 0, vl v] μ (RV V) := by
  refine c_Mo_mix _ (hK _ ?_ (Fa.rf.wL rfl))
  rw [wL_s, e]
theorem dM109 {i z : Nat} {f : Nat → Int32} (hi : i < 4) (hz : z ≤ 61) : ∀ (d : Nat) {j : Nat} {s : Int64} {μ : Mm}, z - 1 = j + d → RM a μ → (aX a).1 i = z → (∀ j, (aX a).2 i j = f j) → μ.2 7 0 36 = s → (∀ μ1, μ1.2 7 0 36 = dfo (fun j => (f j).toInt64) d j s → Fa (L1 11) μ μ1 → SS G m_Mo_digest 91 [vr 7 0, vi (nI (i + 1)), un] [] μ1 (RL K)) → SS G m_Mo_digest 109 [vr 7 0, vi (nI i), vi (nI j)] [] μ (RL K)
  | 0, j, s, μ, ed, hM, ez, ef, es, hK => by
    refine b_Mo_digest_109 _ _ ⟨in_nI hi (by decide), ?_⟩
    rw [nI_tn (by omega), (hM.2.2.1 i hi).1, ez, nI_1]
    cases z with
    | zero =>
      refine iT ?_ (hK μ es Fa.rf)
      rw [show j = 0 by omega]
      decide
    | succ n => exact iLeT (a := n) (by omega) (by omega) (hK μ es Fa.rf)
  | d + 1, j, s, μ, ed, hM, ez, ef, es, hK => by
    refine b_Mo_digest_109 _ _ ⟨in_nI hi (by decide), ?_⟩
    rw [nI_tn (by omega), (hM.2.2.1 i hi).1, ez]
    cases z with
    | zero => omega
    | succ n =>
      refine iLeF (a := n) (by omega) (by omega) (c_Mo_byteAt _ _ ⟨in_nI hi (by decide), ?_⟩)
      rw [nI_tn (n := i) (by omega), (hM.2.2.1 i hi).1, ez, show (60 : Int32) * nI i = nI (60 * i) from nI_mul 60 i, nI_add, nI_tn (n := 60 * i + j) (by omega), (hM.2.2.1 i hi).2 j (by rw [ez]; omega), ef j]
      refine iLeF (a := n) (by omega) (by omega) ⟨in_nI (by omega) (by decide), mix_s es fun μ1 e1 F1 => ?_⟩
      rw [nI_1]
      exact dM109 hi hz d (by omega) (hM.fa F1 L1_W) ez ef e1 fun μ2 e2 F2 => hK μ2 e2 (F1.tr F2)
theorem dM91 (hA : AI a) : ∀ (d : Nat) {i : Nat} {s : Int64} {μ : Mm}, 4 = i + d → RM a μ → μ.2 7 0 36 = s → (∀ μ1, Fa (L1 11) μ μ1 → K (dfr (aX a) d i s) μ1) → SS G m_Mo_digest 91 [vr 7 0, vi (nI i), un] [] μ (RL K)
  | 0, i, s, μ, e, hM, es, hK => by
    refine b_Mo_digest_91 _ (iT (nI_le (a := 4) (by omega) (by omega)) ?_)
    rw [es]
    exact hK μ Fa.rf
  | d + 1, i, s, μ, e, hM, es, hK => by
    refine b_Mo_digest_91 _ (iF (nI_ge (b := 4) (by omega) (by omega)) ⟨in_nI (by omega) (by decide), ?_⟩)
    rw [nI_tn (by omega), (hM.2.2.1 i (by omega)).1]
    refine mix_s es fun μ1 e1 F1 => ?_
    exact dM109 (j := 0) (by omega) (hA.2.1 i (by omega)) _ (Nat.zero_add _).symm (hM.fa F1 L1_W) rfl (fun _ => rfl) e1 fun μ2 e2 F2 => dM91 hA d (by omega) (hM.fa (F1.tr F2) L1_W) e2 fun μ3 F3 => hK μ3 ((F1.tr F2).tr F3)
theorem dM56 {i z : Nat} {f : Nat → Int32} (hi : i < 6) (hz : z ≤ 41) : ∀ (d : Nat) {j : Nat} {s : Int64} {μ : Mm}, z - 1 = j + d → RM a μ → (aR a).1 i = z → (∀ j, (aR a).2 i j = f j) → μ.2 7 0 36 = s → (∀ μ1, μ1.2 7 0 36 = dfo (fun j => (f j).toInt64) d j s → Fa (L1 11) μ μ1 → SS G m_Mo_digest 37 [vr 7 0, vi (nI (i + 1)), un] [] μ1 (RL K)) → SS G m_Mo_digest 56 [vr 7 0, vi (nI i), vi (nI j)] [] μ (RL K)
  | 0, j, s, μ, ed, hM, ez, ef, es, hK => by
    refine b_Mo_digest_56 _ _ ⟨in_nI hi (by decide), ?_⟩
    rw [nI_tn (by omega), (hM.2.1 i hi).1, ez, nI_1]
    cases z with
    | zero =>
      refine iT ?_ (hK μ es Fa.rf)
      rw [show j = 0 by omega]
      decide
    | succ n => exact iLeT (a := n) (by omega) (by omega) (hK μ es Fa.rf)
  | d + 1, j, s, μ, ed, hM, ez, ef, es, hK => by
    refine b_Mo_digest_56 _ _ ⟨in_nI hi (by decide), ?_⟩
    rw [nI_tn (by omega), (hM.2.1 i hi).1, ez]
    cases z with
    | zero => omega
    | succ n =>
      refine iLeF (a := n) (by omega) (by omega) (rowAt_s hi (by omega) ?_)
      rw [(hM.2.1 i hi).2 j (by rw [ez]; omega), ef j]
      refine mix_s es fun μ1 e1 F1 => ?_
      rw [nI_1]
      exact dM56 hi hz d (by omega) (hM.fa F1 L1_W) ez ef e1 fun μ2 e2 F2 => hK μ2 e2 (F1.tr F2)
theorem dM37 (hA : AI a) : ∀ (d : Nat) {i : Nat} {s : Int64} {μ : Mm}, 6 = i + d → RM a μ → μ.2 7 0 36 = s → (∀ μ1, μ1.2 7 0 36 = dfr (aR a) d i s → Fa (L1 11) μ μ1 → SS G m_Mo_digest 91 [vr 7 0, vi (nI 0), un] [] μ1 (RL K)) → SS G m_Mo_digest 37 [vr 7 0, vi (nI i), un] [] μ (RL K)
  | 0, i, s, μ, e, hM, es, hK => b_Mo_digest_37 _ (iT (nI_le (a := 6) (by omega) (by omega)) (hK μ es Fa.rf))
  | d + 1, i, s, μ, e, hM, es, hK => by
    refine b_Mo_digest_37 _ (iF (nI_ge (b := 6) (by omega) (by omega)) ⟨in_nI (by omega) (by decide), ?_⟩)
    rw [nI_tn (by omega), (hM.2.1 i (by omega)).1]
    refine mix_s es fun μ1 e1 F1 => ?_
    exact dM56 (j := 0) (by omega) (hA.1 i (by omega)) _ (Nat.zero_add _).symm (hM.fa F1 L1_W) rfl (fun _ => rfl) e1 fun μ2 e2 F2 => dM37 hA d (by omega) (hM.fa (F1.tr F2) L1_W) e2 fun μ3 e3 F3 => hK μ3 e3 ((F1.tr F2).tr F3)
theorem dM70 (hA : AI a) : ∀ (d : Nat) {k : Nat} {s : Int64} {μ : Mm}, 3 = k + d → RM a μ → μ.2 7 0 36 = s → (∀ μ1, μ1.2 7 0 36 = dfo (dq4 a) d k s → Fa (L1 11) μ μ1 → V μ1) → SS G m_Mo_mixStreet 70 [vr 7 0, vi (nI k), un] [] μ (RV V)
  | 0, k, s, μ, e, hM, es, hK => b_Mo_mixStreet_70 _ (iT (nI_le (a := 3) (by omega) (by omega)) (hK μ es Fa.rf))
  | d + 1, k, s, μ, e, hM, es, hK => by
    have go : ∀ μ1, μ1.2 7 0 36 = 31 * s + dq4 a k → Fa (L1 11) μ μ1 → SS G m_Mo_mixStreet 70 [vr 7 0, vi (nI (k + 1)), un] [] μ1 (RV V) := fun μ1 e1 F1 => dM70 hA d (by omega) (hM.fa F1 L1_W) e1 fun μ2 e2 F2 => hK μ2 e2 (F1.tr F2)
    refine b_Mo_mixStreet_70 _ (iF (nI_ge (b := 3) (by omega) (by omega)) ⟨in_nI (by omega) (by decide), ?_⟩)
    rw [nI_tn (by omega), nI_1]
    have h := hM.2.2.2.2 k (by omega)
    unfold Mk1 at h
    cases q : (aK a) k with
    | none =>
      rw [q] at h
      rw [show dq4 a k = -1 from by unfold dq4; rw [q]] at go
      exact iT h (mix_s es go)
    | some c =>
      rw [q] at h
      rw [show dq4 a k = (nI (cD c)).toInt64 from by unfold dq4; rw [q]] at go
      refine iF (by rw [h.1]; decide) ⟨in_nI (by omega) (by decide), ?_⟩
      rw [h.2.1]
      exact mix_s es go
theorem dM39 {h : Nat} (hA : AI a) (hh : h < hn (aH a)) : ∀ (d : Nat) {x : Nat} {s : Int64} {μ : Mm}, 6 = x + d → RM a μ → μ.2 7 0 36 = s → (∀ μ1, μ1.2 7 0 36 = dfo (dq3 a h) d x s → Fa (L1 11) μ μ1 → SS G m_Mo_mixStreet 29 [vr 7 0, vi (nI (h + 1)), un] [] μ1 (RV V)) → SS G m_Mo_mixStreet 39 [vr 7 0, vi (nI h), vi (nI x)] [] μ (RV V)
  | 0, x, s, μ, e, hM, es, hK => by
    refine b_Mo_mixStreet_39 _ _ (iT (nI_le (a := 6) (by omega) (by omega)) ?_)
    rw [nI_1]
    exact hK μ es Fa.rf
  | d + 1, x, s, μ, e, hM, es, hK => by
    refine b_Mo_mixStreet_39 _ _ (iF (nI_ge (b := 6) (by omega) (by omega)) (side_M hA hM hh (by omega) (mix_s es fun μ1 e1 F1 => ?_)))
    rw [nI_1]
    exact dM39 hA hh d (by omega) (hM.fa F1 L1_W) e1 fun μ2 e2 F2 => hK μ2 e2 (F1.tr F2)
theorem dM29 (hA : AI a) : ∀ (d : Nat) {h : Nat} {s : Int64} {μ : Mm}, hn (aH a) = h + d → RM a μ → μ.2 7 0 36 = s → (∀ μ1, μ1.2 7 0 36 = dfh a d h s → Fa (L1 11) μ μ1 → SS G m_Mo_mixStreet 70 [vr 7 0, vi (nI 0), un] [] μ1 (RV V)) → SS G m_Mo_mixStreet 29 [vr 7 0, vi (nI h), un] [] μ (RV V)
  | 0, h, s, μ, e, hM, es, hK => by
    have b1 := hA.2.2.1.1
    refine b_Mo_mixStreet_29 _ ?_
    rw [hM.2.2.2.1.1.1]
    exact iLeT (by omega) (by omega) (hK μ es Fa.rf)
  | d + 1, h, s, μ, e, hM, es, hK => by
    have b1 := hA.2.2.1.1
    refine b_Mo_mixStreet_29 _ ?_
    rw [hM.2.2.2.1.1.1]
    exact iLeF (by omega) (by omega) (dM39 (x := 0) hA (by omega) 6 rfl hM es fun μ1 e1 F1 => dM29 hA d (h := h + 1) (by omega) (hM.fa F1 L1_W) e1 fun μ2 e2 F2 => hK μ2 e2 (F1.tr F2))
theorem dM2 (hA : AI a) : ∀ (d : Nat) {t : Nat} {s : Int64} {μ : Mm}, hN (aH a) = t + d → RM a μ → μ.2 7 0 36 = s → (∀ μ1, μ1.2 7 0 36 = dfo (dq2 a) d t s → Fa (L1 11) μ μ1 → SS G m_Mo_mixStreet 29 [vr 7 0, vi (nI 0), un] [] μ1 (RV V)) → SS G m_Mo_mixStreet 2 [vr 7 0, vi (nI t), un] [] μ (RV V)
  | 0, t, s, μ, e, hM, es, hK => by
    have b2 := hA.2.2.1.2.1
    refine b_Mo_mixStreet_2 _ ?_
    rw [hM.2.2.2.1.1.2.1]
    exact iLeT (by omega) (by omega) (hK μ es Fa.rf)
  | d + 1, t, s, μ, e, hM, es, hK => by
    have b2 := hA.2.2.1.2.1
    refine b_Mo_mixStreet_2 _ ?_
    rw [hM.2.2.2.1.1.2.1, nI_tn (by omega), hM.2.2.2.1.2.2.1 t (by omega), nI_1]
    exact iLeF (by omega) (by omega) ⟨in_nI (by omega) (by decide), mix_s es fun μ1 e1 F1 => dM2 hA d (by omega) (hM.fa F1 L1_W) e1 fun μ2 e2 F2 => hK μ2 e2 (F1.tr F2)⟩
theorem dM9 (hA : AI a) : ∀ (d : Nat) {x : Nat} {s : Int64} {μ : Mm}, 10 = x + d → RM a μ → μ.2 7 0 36 = s → (∀ μ1, μ1.2 7 0 36 = dfo (dq1 a) d x s → Fa (L1 11) μ μ1 → CS G m_Mo_mixStreet [vr 7 0] μ1 (RV fun μ2 => SS G m_Mo_digest 37 [vr 7 0, vi 0, un] [] μ2 (RL K))) → SS G m_Mo_digest 9 [vr 7 0, vi (nI x), un] [] μ (RL K)
  | 0, x, s, μ, e, hM, es, hK => b_Mo_digest_9 _ (iT (nI_le (a := 10) (by omega) (by omega)) (hK μ es Fa.rf))
  | d + 1, x, s, μ, e, hM, es, hK => by
    refine b_Mo_digest_9 _ (iF (nI_ge (b := 10) (by omega) (by omega)) (counted_s hA hM (by omega) (mix_s es fun μ1 e1 F1 => ?_)))
    rw [nI_1]
    exact dM9 hA d (by omega) (hM.fa F1 L1_W) e1 fun μ2 e2 F2 => hK μ2 e2 (F1.tr F2)
theorem digest_M (hA : AI a) (hM : RM a μ) (hK : ∀ μ1, Fa (L1 11) μ μ1 → K (dgs a) μ1) : CS G m_Mo_digest [vr 7 0] μ (RL K) := by
  have F0 : Fa (L1 11) μ (wL μ 7 0 36 17) := Fa.rf.wL rfl
  refine c_Mo_digest (dM9 (x := 0) (s := 17) hA 10 rfl (hM.fa F0 L1_W) (wL_s _ _ _ _ _) fun μ1 e1 F1 => c_Mo_mixStreet ?_)
  have T1 := F0.tr F1
  refine dM2 (t := 0) hA _ (Nat.zero_add _).symm (hM.fa T1 L1_W) e1 fun μ2 e2 F2 => ?_
  have T2 := T1.tr F2
  refine dM29 (h := 0) hA _ (Nat.zero_add _).symm (hM.fa T2 L1_W) e2 fun μ3 e3 F3 => ?_
  have T3 := T2.tr F3
  refine dM70 (k := 0) hA 3 rfl (hM.fa T3 L1_W) e3 fun μ4 e4 F4 => ?_
  have T4 := T3.tr F4
  refine dM37 (i := 0) hA 6 rfl (hM.fa T4 L1_W) e4 fun μ5 e5 F5 => ?_
  have T5 := T4.tr F5
  exact dM91 (i := 0) hA 4 rfl (hM.fa T5 L1_W) e5 fun μ6 F6 => hK μ6 (T5.tr F6)
theorem two_digest : Two8 G m_Cs_digest m_Mo_digest [vr 6 0] [vr 7 0] := by
  intro μ L ⟨a, hA, hC, hM⟩ hL
  exact digest_C hA hC (digest_M hA hM fun μ1 F1 => hL _ _ ⟨a, hA, hC.fa hA F1 (L1_C (by decide)), hM.fa F1 L1_W⟩)
end P59
