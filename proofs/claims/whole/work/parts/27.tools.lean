/-! tools for the trees -/
section T27
variable {P Q : Prop}
theorem iT {c : Prop} [Decidable c] (hc : c) (h : P) : if c then P else Q := by rw [if_pos hc]; exact h
theorem iF {c : Prop} [Decidable c] (hc : ¬ c) (h : Q) : if c then P else Q := by rw [if_neg hc]; exact h
theorem iB {c : Prop} [Decidable c] (h1 : c → P) (h2 : ¬ c → Q) : if c then P else Q := by
  by_cases hc : c
  · exact iT hc (h1 hc)
  · exact iF hc (h2 hc)
theorem i0 (h : P) : if (0 : Int32) = 0 then P else Q := iT rfl h
theorem i1 (h : Q) : if (1 : Int32) = 0 then P else Q := iF (by decide) h
theorem iLt {a b : Nat} (ha : a < 2 ^ 31) (hb : b < 2 ^ 31) (h1 : a < b → P) (h2 : b ≤ a → Q) : if nI a < nI b then P else Q := iB (fun h => h1 ((nI_ltI ha hb).mp h)) (fun h => h2 (Nat.not_lt.mp fun q => h ((nI_ltI ha hb).mpr q)))
theorem iLe {a b : Nat} (ha : a < 2 ^ 31) (hb : b < 2 ^ 31) (h1 : a ≤ b → P) (h2 : b < a → Q) : if nI a ≤ nI b then P else Q := iB (fun h => h1 ((nI_leI ha hb).mp h)) (fun h => h2 (Nat.not_le.mp fun q => h ((nI_leI ha hb).mpr q)))
theorem iEq {a b : Nat} (ha : a < 2 ^ 31) (hb : b < 2 ^ 31) (h1 : a = b → P) (h2 : a ≠ b → Q) : if nI a = nI b then P else Q := iB (fun h => h1 ((nI_eq ha hb).mp h)) (fun h => h2 (fun q => h ((nI_eq ha hb).mpr q)))
theorem iLtT {a b : Nat} (hb : b < 2 ^ 31) (hc : a < b) (h : P) : if nI a < nI b then P else Q := iT (nI_lt hc hb) h
theorem iLtF {a b : Nat} (hb : a < 2 ^ 31) (hc : b ≤ a) (h : Q) : if nI a < nI b then P else Q := iF (nI_nlt hc hb) h
theorem iLeT {a b : Nat} (hb : b < 2 ^ 31) (hc : a ≤ b) (h : P) : if nI a ≤ nI b then P else Q := iT (nI_le hc hb) h
theorem iLeF {a b : Nat} (hb : a < 2 ^ 31) (hc : b < a) (h : Q) : if nI a ≤ nI b then P else Q := iF (nI_ge hc hb) h
theorem iEqF {a b : Nat} (ha : a < 2 ^ 31) (hb : b < 2 ^ 31) (hc : a ≠ b) (h : Q) : if nI a = nI b then P else Q := iF (fun q => hc ((nI_eq ha hb).mp q)) h
theorem iNl {a : Nat} (ha : a < 2 ^ 31) (h : Q) : if nI a < 0 then P else Q := iF (nI_pos ha) h
theorem iN0 {a : Nat} (ha : a < 2 ^ 31) (h : P) : if 0 ≤ nI a then P else Q := iT (nI_pos' ha) h
end T27
theorem b01 {v : Int32} {P : Prop} (h0 : v = 0 ∨ v = 1) (h : P) : (v = 0 ∨ v = 1) ∧ P := ⟨h0, h⟩
theorem z00 : (0 : Int32) = 0 ∨ (0 : Int32) = 1 := Or.inl rfl
theorem z01 : (1 : Int32) = 0 ∨ (1 : Int32) = 1 := Or.inr rfl
theorem nI_mul (a b : Nat) : nI a * nI b = nI (a * b) := (Int32.ofNat_mul a b).symm
theorem nI_sub {a b : Nat} (h : b ≤ a) : nI a - nI b = nI (a - b) := by
  have e : nI a = nI (a - b) + nI b := by rw [nI_add, Nat.sub_add_cancel h]
  rw [e]
  exact Int32.add_sub_cancel _ _
theorem nI_tn {n : Nat} (h : n < 2147483648) : (nI n).toNatClampNeg = n := nI_clamp h
theorem in_nI {n N : Nat} (h : n < N) (hN : N < 2147483648) : vp_in (nI n) N := vp_in_nI h hN
/-- a number is in 0 .. n - 1, or it isn't -/
def rg (x : Int32) (n : Nat) : Prop := ∃ r, r < n ∧ x = nI r
theorem rg_no {x : Int32} {n : Nat} (hn : n < 2 ^ 31) (h : ¬ rg x n) : x < 0 ∨ nI n ≤ x := by
  by_cases h0 : x < 0
  · exact Or.inl h0
  · obtain ⟨j, hj, rfl⟩ := nI_of h0
    exact Or.inr (nI_le (Nat.not_lt.mp fun q => h ⟨j, q, rfl⟩) hj)
theorem rg_nlt {x : Int32} {n : Nat} (hn : n < 2 ^ 31) (h : ¬ rg x n) (h0 : ¬ x < 0) : ¬ x < nI n := by
  rcases rg_no hn h with q | q
  · exact absurd q h0
  · intro q2
    rw [Int32.lt_iff_toInt_lt] at q2
    rw [Int32.le_iff_toInt_le] at q
    omega
theorem neg_sub1 : nI 0 - 1 = (-1 : Int32) := by decide
/-- the size of a row: 0 it is missing, n + 1: n -/
def sz (z : Nat) : Int32 := match z with
  | 0 => -1
  | n + 1 => nI n
/-- what was borne: 0 nothing yet, d + 1: d -/
def bI (b : Nat) : Int32 := match b with
  | 0 => -9
  | d + 1 => nI d
theorem sz_pos {z : Nat} (h : 0 < z) : sz z = nI (z - 1) := by
  cases z with
  | zero => exact absurd h (by decide)
  | succ n => rfl
/-! memory -/
theorem wI_s (μ : Mm) (k i s : Nat) (v : Int32) : (wI μ k i s v).1 k i s = v := if_pos ⟨rfl, rfl, rfl⟩
theorem wI_k (μ : Mm) {k i s k' : Nat} (v : Int32) (h : k' ≠ k) : (wI μ k i s v).1 k' = μ.1 k' := by
  funext i' s'
  exact if_neg (fun q => h q.1)
theorem wI_i (μ : Mm) {k i s i' : Nat} (v : Int32) (k' : Nat) (h : i' ≠ i) : (wI μ k i s v).1 k' i' = μ.1 k' i' := by
  funext s'
  exact if_neg (fun q => h q.2.1)
theorem wI_n (μ : Mm) {k i s s' : Nat} (v : Int32) (k' i' : Nat) (h : s' ≠ s) : (wI μ k i s v).1 k' i' s' = μ.1 k' i' s' := if_neg (fun q => h q.2.2)
theorem wL_s (μ : Mm) (k i s : Nat) (v : Int64) : (wL μ k i s v).2 k i s = v := if_pos ⟨rfl, rfl, rfl⟩
theorem wL_k (μ : Mm) {k i s k' : Nat} (v : Int64) (h : k' ≠ k) : (wL μ k i s v).2 k' = μ.2 k' := by
  funext i' s'
  exact if_neg (fun q => h q.1)
theorem wL_n (μ : Mm) {k i s s' : Nat} (v : Int64) (k' i' : Nat) (h : s' ≠ s) : (wL μ k i s v).2 k' i' s' = μ.2 k' i' s' := if_neg (fun q => h q.2.2)
theorem cI_k (μ : Mm) {k0 i0 s0 k i s n k' : Nat} (h : k' ≠ k) : (cI μ k0 i0 s0 k i s n).1 k' = μ.1 k' := by
  funext i' s'
  exact if_neg (fun q => h q.1)
theorem cI_2 (μ : Mm) (k0 i0 s0 k i s n : Nat) : (cI μ k0 i0 s0 k i s n).2 = μ.2 := rfl
/-- what is out of p is as it was -/
def Fr (p : Nat → Nat → Nat → Bool) (μ μ1 : Mm) : Prop := ∀ k i s, p k i s = false → μ1.1 k i s = μ.1 k i s ∧ μ1.2 k i s = μ.2 k i s
theorem Fr.rf {p : Nat → Nat → Nat → Bool} {μ : Mm} : Fr p μ μ := fun _ _ _ _ => ⟨rfl, rfl⟩
theorem Fr.tr {p : Nat → Nat → Nat → Bool} {μ μ1 μ2 : Mm} (h : Fr p μ μ1) (h2 : Fr p μ1 μ2) : Fr p μ μ2 := fun k i s q => ⟨(h2 k i s q).1.trans (h k i s q).1, (h2 k i s q).2.trans (h k i s q).2⟩
theorem Fr.wI {p : Nat → Nat → Nat → Bool} {μ μ1 : Mm} {k i s : Nat} {v : Int32} (h : Fr p μ μ1) (hp : p k i s = true) : Fr p μ (wI μ1 k i s v) := by
  intro k' i' s' q
  refine ⟨?_, (h k' i' s' q).2⟩
  rw [← (h k' i' s' q).1]
  refine if_neg fun e => ?_
  obtain ⟨rfl, rfl, rfl⟩ := e
  rw [hp] at q
  cases q
theorem Fr.wL {p : Nat → Nat → Nat → Bool} {μ μ1 : Mm} {k i s : Nat} {v : Int64} (h : Fr p μ μ1) (hp : p k i s = true) : Fr p μ (wL μ1 k i s v) := by
  intro k' i' s' q
  refine ⟨(h k' i' s' q).1, ?_⟩
  rw [← (h k' i' s' q).2]
  refine if_neg fun e => ?_
  obtain ⟨rfl, rfl, rfl⟩ := e
  rw [hp] at q
  cases q
theorem Fr.cI {p : Nat → Nat → Nat → Bool} {μ μ1 : Mm} {k0 i0 s0 k i s n : Nat} (h : Fr p μ μ1) (hp : ∀ s', p k i s' = true) : Fr p μ (cI μ1 k0 i0 s0 k i s n) := by
  intro k' i' s' q
  refine ⟨?_, (h k' i' s' q).2⟩
  rw [← (h k' i' s' q).1]
  refine if_neg fun e => ?_
  obtain ⟨rfl, rfl, -⟩ := e
  rw [hp] at q
  cases q
theorem Fr.cL {p : Nat → Nat → Nat → Bool} {μ μ1 : Mm} {k0 i0 s0 k i s n : Nat} (h : Fr p μ μ1) (hp : ∀ s', p k i s' = true) : Fr p μ (cL μ1 k0 i0 s0 k i s n) := by
  intro k' i' s' q
  refine ⟨(h k' i' s' q).1, ?_⟩
  rw [← (h k' i' s' q).2]
  refine if_neg fun e => ?_
  obtain ⟨rfl, rfl, -⟩ := e
  rw [hp] at q
  cases q
theorem Fr.mono {p q : Nat → Nat → Nat → Bool} {μ μ1 : Mm} (h : Fr p μ μ1) (hpq : ∀ k i s, q k i s = false → p k i s = false) : Fr q μ μ1 := fun k i s e => h k i s (hpq k i s e)
/-! a stretch of an array -/
def aI (μ : Mm) (k i s n : Nat) (f : Nat → Int32) : Mm := (fun k' i' s' => if k' = k ∧ i' = i ∧ s ≤ s' ∧ s' < s + n then f s' else μ.1 k' i' s', μ.2)
def aL (μ : Mm) (k i s n : Nat) (f : Nat → Int64) : Mm := (μ.1, fun k' i' s' => if k' = k ∧ i' = i ∧ s ≤ s' ∧ s' < s + n then f s' else μ.2 k' i' s')
theorem aI_0 (μ : Mm) (k i s : Nat) (f : Nat → Int32) : aI μ k i s 0 f = μ := by
  refine Prod.ext ?_ rfl
  funext k' i' s'
  exact if_neg (fun q => by omega)
theorem aL_0 (μ : Mm) (k i s : Nat) (f : Nat → Int64) : aL μ k i s 0 f = μ := by
  refine Prod.ext rfl ?_
  funext k' i' s'
  exact if_neg (fun q => by omega)
theorem aI_step (μ : Mm) (k i s m : Nat) (f : Nat → Int32) (v : Int32) (hv : v = f s) : aI (wI μ k i s v) k i (s + 1) m f = aI μ k i s (m + 1) f := by
  refine Prod.ext ?_ rfl
  funext k' i' s'
  show (if k' = k ∧ i' = i ∧ s + 1 ≤ s' ∧ s' < s + 1 + m then f s' else if k' = k ∧ i' = i ∧ s' = s then v else μ.1 k' i' s') = if k' = k ∧ i' = i ∧ s ≤ s' ∧ s' < s + (m + 1) then f s' else μ.1 k' i' s'
  by_cases h : k' = k ∧ i' = i
  · obtain ⟨rfl, rfl⟩ := h
    by_cases e : s' = s
    · subst e
      rw [if_neg (by omega), if_pos ⟨rfl, rfl, rfl⟩, if_pos ⟨rfl, rfl, by omega, by omega⟩, hv]
    · by_cases e2 : s + 1 ≤ s' ∧ s' < s + 1 + m
      · rw [if_pos ⟨rfl, rfl, e2⟩, if_pos ⟨rfl, rfl, by omega, by omega⟩]
      · rw [if_neg (fun q => e2 q.2.2), if_neg (fun q => e q.2.2), if_neg (fun q => by omega)]
  · rw [if_neg (fun q => h ⟨q.1, q.2.1⟩), if_neg (fun q => h ⟨q.1, q.2.1⟩), if_neg (fun q => h ⟨q.1, q.2.1⟩)]
theorem aL_step (μ : Mm) (k i s m : Nat) (f : Nat → Int64) (v : Int64) (hv : v = f s) : aL (wL μ k i s v) k i (s + 1) m f = aL μ k i s (m + 1) f := by
  refine Prod.ext rfl ?_
  funext k' i' s'
  show (if k' = k ∧ i' = i ∧ s + 1 ≤ s' ∧ s' < s + 1 + m then f s' else if k' = k ∧ i' = i ∧ s' = s then v else μ.2 k' i' s') = if k' = k ∧ i' = i ∧ s ≤ s' ∧ s' < s + (m + 1) then f s' else μ.2 k' i' s'
  by_cases h : k' = k ∧ i' = i
  · obtain ⟨rfl, rfl⟩ := h
    by_cases e : s' = s
    · subst e
      rw [if_neg (by omega), if_pos ⟨rfl, rfl, rfl⟩, if_pos ⟨rfl, rfl, by omega, by omega⟩, hv]
    · by_cases e2 : s + 1 ≤ s' ∧ s' < s + 1 + m
      · rw [if_pos ⟨rfl, rfl, e2⟩, if_pos ⟨rfl, rfl, by omega, by omega⟩]
      · rw [if_neg (fun q => e2 q.2.2), if_neg (fun q => e q.2.2), if_neg (fun q => by omega)]
  · rw [if_neg (fun q => h ⟨q.1, q.2.1⟩), if_neg (fun q => h ⟨q.1, q.2.1⟩), if_neg (fun q => h ⟨q.1, q.2.1⟩)]
theorem aI_in {μ : Mm} {k i s n : Nat} {f : Nat → Int32} {j : Nat} (h : s ≤ j) (h2 : j < s + n) : (aI μ k i s n f).1 k i j = f j := if_pos ⟨rfl, rfl, h, h2⟩
theorem aI_out {μ : Mm} {k i s n : Nat} {f : Nat → Int32} {k' i' j : Nat} (h : ¬ (s ≤ j ∧ j < s + n)) : (aI μ k i s n f).1 k' i' j = μ.1 k' i' j := if_neg fun q => h q.2.2
theorem aI_k {μ : Mm} {k i s n : Nat} {f : Nat → Int32} {k' : Nat} (h : k' ≠ k) : (aI μ k i s n f).1 k' = μ.1 k' := by
  funext i' s'
  exact if_neg fun q => h q.1
theorem aI_i {μ : Mm} {k i s n : Nat} {f : Nat → Int32} {k' i' : Nat} (h : i' ≠ i) : (aI μ k i s n f).1 k' i' = μ.1 k' i' := by
  funext s'
  exact if_neg fun q => h q.2.1
theorem aI_2 {μ : Mm} {k i s n : Nat} {f : Nat → Int32} : (aI μ k i s n f).2 = μ.2 := rfl
theorem aL_in {μ : Mm} {k i s n : Nat} {f : Nat → Int64} {j : Nat} (h : s ≤ j) (h2 : j < s + n) : (aL μ k i s n f).2 k i j = f j := if_pos ⟨rfl, rfl, h, h2⟩
theorem aL_out {μ : Mm} {k i s n : Nat} {f : Nat → Int64} {k' i' j : Nat} (h : ¬ (s ≤ j ∧ j < s + n)) : (aL μ k i s n f).2 k' i' j = μ.2 k' i' j := if_neg fun q => h q.2.2
theorem aL_k {μ : Mm} {k i s n : Nat} {f : Nat → Int64} {k' : Nat} (h : k' ≠ k) : (aL μ k i s n f).2 k' = μ.2 k' := by
  funext i' s'
  exact if_neg fun q => h q.1
theorem Fr.aI {p : Nat → Nat → Nat → Bool} {μ μ1 : Mm} {k i s n : Nat} {f : Nat → Int32} (h : Fr p μ μ1) (hp : ∀ s', p k i s' = true) : Fr p μ (aI μ1 k i s n f) := by
  intro k' i' s' q
  refine ⟨?_, (h k' i' s' q).2⟩
  rw [← (h k' i' s' q).1]
  refine if_neg fun e => ?_
  obtain ⟨rfl, rfl, -⟩ := e
  rw [hp] at q
  cases q
theorem Fr.aL {p : Nat → Nat → Nat → Bool} {μ μ1 : Mm} {k i s n : Nat} {f : Nat → Int64} (h : Fr p μ μ1) (hp : ∀ s', p k i s' = true) : Fr p μ (aL μ1 k i s n f) := by
  intro k' i' s' q
  refine ⟨(h k' i' s' q).1, ?_⟩
  rw [← (h k' i' s' q).2]
  refine if_neg fun e => ?_
  obtain ⟨rfl, rfl, -⟩ := e
  rw [hp] at q
  cases q
theorem cI_in {μ : Mm} {k0 i0 s0 k i s n j : Nat} (h : s ≤ j) (h2 : j < s + n) : (cI μ k0 i0 s0 k i s n).1 k i j = μ.1 k0 i0 (s0 + (j - s)) := if_pos ⟨rfl, rfl, h, h2⟩
theorem cI_out {μ : Mm} {k0 i0 s0 k i s n k' i' j : Nat} (h : ¬ (s ≤ j ∧ j < s + n)) : (cI μ k0 i0 s0 k i s n).1 k' i' j = μ.1 k' i' j := if_neg fun q => h q.2.2
theorem cI_i {μ : Mm} {k0 i0 s0 k i s n k' i' : Nat} (h : i' ≠ i) : (cI μ k0 i0 s0 k i s n).1 k' i' = μ.1 k' i' := by
  funext s'
  exact if_neg fun q => h q.2.1
