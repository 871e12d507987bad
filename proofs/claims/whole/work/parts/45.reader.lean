/-! a text is read: what it says -/
def fg (f : Nat → Int32) (n p : Nat) : Bool := decide (p < n ∧ ¬ f p < 48 ∧ ¬ 57 < f p)
def dg (f : Nat → Int32) (p : Nat) : Nat := (f p).toNatClampNeg - 48
theorem fg_dg {f : Nat → Int32} {n p : Nat} (h : fg f n p = true) : p < n ∧ dg f p ≤ 9 ∧ f p = nI (48 + dg f p) := by
  obtain ⟨h1, h2, h3⟩ := of_decide_eq_true h
  have e48 : (48 : Int32).toInt = 48 := rfl
  have e57 : (57 : Int32).toInt = 57 := rfl
  have e0 : (0 : Int32).toInt = 0 := rfl
  rw [Int32.lt_iff_toInt_lt] at h2 h3
  obtain ⟨j, hj, ej⟩ := nI_of (x := f p) (fun q => by rw [Int32.lt_iff_toInt_lt] at q; omega)
  rw [ej, nI_toInt hj] at h2 h3
  unfold dg
  rw [ej, nI_tn hj]
  exact ⟨h1, by omega, by rw [show 48 + (j - 48) = j by omega]⟩
def skp (f : Nat → Int32) : Nat → Nat → Nat
  | 0, p => p
  | d + 1, p => if f p = 32 then skp f d (p + 1) else p
def sk (f : Nat → Int32) (n p : Nat) : Nat := skp f (n - p) p
section SK
variable {f : Nat → Int32} {n p : Nat}
theorem sk_end (h : n ≤ p) : sk f n p = p := by
  unfold sk
  rw [show n - p = 0 by omega]
  rfl
theorem sk_b (h : p < n) (hb : f p = 32) : sk f n p = sk f n (p + 1) := by
  unfold sk
  rw [show n - p = (n - (p + 1)) + 1 by omega]
  exact if_pos hb
theorem sk_n (hb : f p ≠ 32) : sk f n p = p := by
  by_cases h : n ≤ p
  · exact sk_end h
  · unfold sk
    rw [show n - p = (n - (p + 1)) + 1 by omega]
    exact if_neg hb
theorem sk_le : ∀ (d : Nat) {p : Nat}, n = p + d → p ≤ sk f n p ∧ sk f n p ≤ n
  | 0, p, e => by
    rw [sk_end (by omega)]
    omega
  | d + 1, p, e => by
    by_cases hb : f p = 32
    · rw [sk_b (by omega) hb]
      have := sk_le d (p := p + 1) (by omega)
      omega
    · rw [sk_n hb]
      omega
theorem sk_ne : ∀ (d : Nat) {p : Nat}, n = p + d → sk f n p < n → f (sk f n p) ≠ 32
  | 0, p, e => by
    rw [sk_end (by omega)]
    omega
  | d + 1, p, e => by
    by_cases hb : f p = 32
    · rw [sk_b (by omega) hb]
      exact sk_ne d (p := p + 1) (by omega)
    · rw [sk_n hb]
      exact fun _ => hb
theorem skB (h : p ≤ n) : p ≤ sk f n p ∧ sk f n p ≤ n := sk_le (n - p) (by omega)
end SK
def ngt (f : Nat → Int32) (n : Nat) : Nat → Nat → Nat
  | 0, _ => 0
  | d + 1, p => if fg f n p = true then 1 + ngt f n d (p + 1) else 0
theorem ngt_ok {f : Nat → Int32} {n : Nat} : ∀ (d : Nat) {p : Nat}, ngt f n d p ≤ d ∧ (∀ t, t < ngt f n d p → fg f n (p + t) = true) ∧ (p ≤ n → p + ngt f n d p ≤ n)
  | 0, p => ⟨Nat.le_refl _, fun t ht => absurd ht (by show ¬ t < 0; omega), fun h => h⟩
  | d + 1, p => by
    show (if fg f n p = true then 1 + ngt f n d (p + 1) else 0) ≤ d + 1 ∧ (∀ t, t < (if fg f n p = true then 1 + ngt f n d (p + 1) else 0) → _) ∧ (p ≤ n → p + (if fg f n p = true then 1 + ngt f n d (p + 1) else 0) ≤ n)
    by_cases h : fg f n p = true
    · rw [if_pos h]
      obtain ⟨h1, h2, h3⟩ := ngt_ok (f := f) (n := n) d (p := p + 1)
      have hp := (fg_dg h).1
      refine ⟨by omega, fun t ht => ?_, fun _ => ?_⟩
      · cases t with
        | zero => exact h
        | succ t =>
          have := h2 t (by omega)
          rw [show p + 1 + t = p + (t + 1) by omega] at this
          exact this
      · have := h3 (by omega)
        omega
    · rw [if_neg h]
      exact ⟨by omega, fun t ht => absurd ht (by omega), fun h => h⟩
def kd (x : Int32) : Option Nat := if x = 104 then some 0 else if x = 115 then some 1 else if x = 112 then some 2 else if x = 109 then some 3 else if x = 121 then some 4 else if x = 99 then some 5 else none
def kdI (x : Int32) : Int32 := match kd x with
  | none => -9
  | some k => nI k
theorem kd_le {x : Int32} {k : Nat} (h : kd x = some k) : k ≤ 5 := by
  unfold kd at h
  repeat' split at h
  all_goals first
    | cases h; decide
    | cases h
theorem kd_rom : ∀ k, k < 6 → kd (rom 52 k) = some k := by decide +kernel
theorem kd_no {x : Int32} (h : ∀ k, k < 6 → ¬ rom 52 k = x) : kd x = none := by
  unfold kd
  rw [if_neg (fun q => h 0 (by decide) q.symm), if_neg (fun q => h 1 (by decide) q.symm), if_neg (fun q => h 2 (by decide) q.symm), if_neg (fun q => h 3 (by decide) q.symm), if_neg (fun q => h 4 (by decide) q.symm), if_neg (fun q => h 5 (by decide) q.symm)]
theorem kd_fig {f : Nat → Int32} {n p : Nat} (h : fg f n p = true) : kd (f p) = none ∧ f p ≠ 32 := by
  obtain ⟨_, h2, h3⟩ := fg_dg h
  rw [h3]
  have d10 : dg f p = 0 ∨ dg f p = 1 ∨ dg f p = 2 ∨ dg f p = 3 ∨ dg f p = 4 ∨ dg f p = 5 ∨ dg f p = 6 ∨ dg f p = 7 ∨ dg f p = 8 ∨ dg f p = 9 := by omega
  rcases d10 with e | e | e | e | e | e | e | e | e | e <;> rw [e] <;> exact ⟨by decide +kernel, by decide +kernel⟩
abbrev Tq : Type := (Nat → Nat) × (Nat → Nat) × (Nat → Nat)
def tput (T : Tq) (m k w o : Nat) : Tq := (uf T.1 m k, uf T.2.1 m w, uf T.2.2 m o)
def hl (f : Nat → Int32) (n : Nat) : Nat → Nat → Nat → Tq → Int32 × Nat × Tq
  | 0, _, m, T => (0, m, T)
  | u + 1, p, m, T => if n ≤ p then ((if m = 0 then nI p else -9), m, T) else if 5 ≤ m then (nI p, m, T) else match kd (f p) with
    | none => (nI p, m, T)
    | some k => if fg f n (p + 1) = true then (if fg f n (p + 2) = true then hl f n u (sk f n (p + 3)) (m + 1) (tput T m k (dg f (p + 1)) (dg f (p + 2))) else (nI (p + 2), m, T)) else (nI (p + 1), m, T)
section HL
variable {f : Nat → Int32} {n : Nat}
theorem hl_end {u p m : Nat} {T : Tq} (h : n ≤ p) : hl f n (u + 1) p m T = ((if m = 0 then nI p else -9), m, T) := if_pos h
theorem hl_full {u p m : Nat} {T : Tq} (h : ¬ n ≤ p) (h5 : 5 ≤ m) : hl f n (u + 1) p m T = (nI p, m, T) := (if_neg h).trans (if_pos h5)
theorem hl_no {u p m : Nat} {T : Tq} (h : ¬ n ≤ p) (hk : kd (f p) = none) : hl f n (u + 1) p m T = (nI p, m, T) := by
  unfold hl
  rw [if_neg h, hk]
  split <;> rfl
theorem hl_1 {u p m k : Nat} {T : Tq} (h : ¬ n ≤ p) (h5 : ¬ 5 ≤ m) (hk : kd (f p) = some k) (h1 : ¬ fg f n (p + 1) = true) : hl f n (u + 1) p m T = (nI (p + 1), m, T) := by
  unfold hl
  rw [if_neg h, if_neg h5, hk]
  exact if_neg h1
theorem hl_2 {u p m k : Nat} {T : Tq} (h : ¬ n ≤ p) (h5 : ¬ 5 ≤ m) (hk : kd (f p) = some k) (h1 : fg f n (p + 1) = true) (h2 : ¬ fg f n (p + 2) = true) : hl f n (u + 1) p m T = (nI (p + 2), m, T) := by
  unfold hl
  rw [if_neg h, if_neg h5, hk]
  exact (if_pos h1).trans (if_neg h2)
theorem hl_3 {u p m k : Nat} {T : Tq} (h : ¬ n ≤ p) (h5 : ¬ 5 ≤ m) (hk : kd (f p) = some k) (h1 : fg f n (p + 1) = true) (h2 : fg f n (p + 2) = true) : hl f n (u + 1) p m T = hl f n u (sk f n (p + 3)) (m + 1) (tput T m k (dg f (p + 1)) (dg f (p + 2))) := by
  conv => lhs; unfold hl
  rw [if_neg h, if_neg h5, hk]
  exact (if_pos h1).trans (if_pos h2)
def TI (m : Nat) (T : Tq) : Prop := ∀ h, h < m → T.1 h ≤ 5 ∧ T.2.1 h ≤ 9 ∧ T.2.2 h ≤ 9
theorem TI_put {m k w o : Nat} {T : Tq} (hT : TI m T) (hk : k ≤ 5) (hw : w ≤ 9) (ho : o ≤ 9) : TI (m + 1) (tput T m k w o) := by
  intro h hh
  show uf T.1 m k h ≤ 5 ∧ uf T.2.1 m w h ≤ 9 ∧ uf T.2.2 m o h ≤ 9
  by_cases e : h = m
  · subst e
    rw [uf_s, uf_s, uf_s]
    exact ⟨hk, hw, ho⟩
  · rw [uf_n e, uf_n e, uf_n e]
    exact hT h (by omega)
theorem nI_m9 {w : Nat} (h : w < 2147483648) : ¬ nI w = -9 := by
  intro q
  have h2 := congrArg Int32.toInt q
  rw [nI_toInt h] at h2
  have e : (-9 : Int32).toInt = -9 := rfl
  omega
theorem hl_ok (hn : n ≤ 60) : ∀ (u : Nat) {p m : Nat} {T : Tq}, u + m = 6 → m ≤ 5 → p ≤ n → TI m T → (hl f n u p m T).1 = -9 → (hl f n u p m T).2.1 ≤ 5 ∧ 1 ≤ (hl f n u p m T).2.1 ∧ TI (hl f n u p m T).2.1 (hl f n u p m T).2.2
  | 0, p, m, T, e, hm, hp, hT => by omega
  | u + 1, p, m, T, e, hm, hp, hT => by
    by_cases c1 : n ≤ p
    · rw [hl_end c1]
      intro h
      by_cases m0 : m = 0
      · rw [if_pos m0] at h
        exact absurd h (nI_m9 (by omega))
      · exact ⟨hm, Nat.pos_of_ne_zero m0, hT⟩
    by_cases c2 : 5 ≤ m
    · rw [hl_full c1 c2]
      exact fun h => absurd h (nI_m9 (by omega))
    cases hk : kd (f p) with
    | none =>
      rw [hl_no c1 hk]
      exact fun h => absurd h (nI_m9 (by omega))
    | some k =>
      by_cases c3 : fg f n (p + 1) = true
      · by_cases c4 : fg f n (p + 2) = true
        · rw [hl_3 c1 c2 hk c3 c4]
          have hp3 := (fg_dg c4).1
          exact hl_ok hn u (by omega) (by omega) (skB (by omega)).2 (TI_put hT (kd_le hk) (fg_dg c3).2.1 (fg_dg c4).2.1)
        · rw [hl_2 c1 c2 hk c3 c4]
          have hp3 := (fg_dg c3).1
          exact fun h => absurd h (nI_m9 (by omega))
      · rw [hl_1 c1 c2 hk c3]
        exact fun h => absurd h (nI_m9 (by omega))
end HL
def T0 : Tq := (fun _ => 0, fun _ => 0, fun _ => 0)
def rdN (f : Nat → Int32) (n : Nat) : Nat := ngt f n 8 (sk f n 0 + 1)
def rdr (f : Nat → Int32) (n : Nat) : Int32 × Nat × Tq := hl f n 6 (sk f n (sk f n 0 + 1 + rdN f n)) 0 T0
def rdv (f : Nat → Int32) (n : Nat) : Int32 := if sk f n 0 < n ∧ f (sk f n 0) = 110 then (if rdN f n = 0 then nI (sk f n 0 + 1) else (rdr f n).1) else nI (sk f n 0)
def rdH (f : Nat → Int32) (n : Nat) : Hs := ((rdr f n).2.1, rdN f n, (rdr f n).2.2)
def rdc (f : Nat → Int32) (n : Nat) : Sc := (fun t => dg f (sk f n 0 + 1 + t), 0, fun _ => (0, 0, 0))
theorem rd_ok {f : Nat → Int32} {n : Nat} (hn : n ≤ 60) (h : rdv f n = -9) : HI (rdH f n) ∧ CI (rdH f n) (rdc f n) ∧ 1 ≤ (rdr f n).2.1 := by
  have h0 := skB (f := f) (n := n) (p := 0) (by omega)
  unfold rdv at h
  by_cases c1 : sk f n 0 < n ∧ f (sk f n 0) = 110
  · rw [if_pos c1] at h
    by_cases c2 : rdN f n = 0
    · rw [if_pos c2] at h
      exact absurd h (nI_m9 (by omega))
    · rw [if_neg c2] at h
      obtain ⟨g1, g2, g3⟩ := ngt_ok (f := f) (n := n) 8 (p := sk f n 0 + 1)
      have hq := g3 (by omega)
      obtain ⟨k1, k2, k3⟩ := hl_ok hn 6 (p := sk f n (sk f n 0 + 1 + rdN f n)) (m := 0) (T := T0) rfl (by decide) (skB hq).2 (fun h hh => absurd hh (by omega)) h
      refine ⟨⟨k1, g1, fun q => absurd q (by show (rdr f n).2.1 ≠ 0; exact Nat.pos_iff_ne_zero.mp k2), k3⟩, ⟨by show 0 ≤ 60; decide, fun t ht => (fg_dg (g2 t ht)).2.1, fun i hi => absurd hi (by show ¬ i < 0; omega)⟩, k2⟩
  · rw [if_neg c1] at h
    exact absurd h (nI_m9 (by omega))
