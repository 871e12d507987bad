/-! pools: the least hurt of several houses -/
def oS (a b : Option Nat) : Option Nat := match a with
  | none => none
  | some v => oA v b
def pz (A L : Nat → Option Nat) (x d : Nat) : Option Nat := if d ≤ x then oS (A d) (L (x - d)) else none
/-- is a house in a set -/
abbrev hb (s h : Nat) : Bool := s.testBit h
/-- of a set the houses from h on -/
def hiS (s h : Nat) : Nat := s / 2 ^ h * 2 ^ h
/-- the least hurt of the last k houses, those of s among them -/
def SQ (A : Nat → Nat → Option Nat) (n s : Nat) : Nat → Nat → Option Nat
  | 0, x => if x = 0 then some 0 else none
  | k + 1, x => if hb s (n - 1 - k) = true then bst (pz (A (n - 1 - k)) (SQ A n s k) x) 47 else SQ A n s k x
abbrev QH (A : Nat → Nat → Option Nat) (n s h x : Nat) : Option Nat := SQ A n s (n - h) x
theorem oS_some {a b : Option Nat} {v : Nat} (h : oS a b = some v) : ∃ p w, a = some p ∧ b = some w ∧ v = p + w := by
  cases a with
  | none => cases h
  | some p =>
    cases b with
    | none => cases h
    | some w =>
      have h : some (p + w) = some v := h
      cases h
      exact ⟨p, w, rfl, rfl, rfl⟩
theorem oS_B {F A B : Nat} {a b : Option Nat} (ha : oB A a) (hb : oB B b) (hF : A + B ≤ F) : oB F (oS a b) := by
  intro v h
  obtain ⟨p, w, rfl, rfl, rfl⟩ := oS_some h
  have := ha p rfl
  have := hb w rfl
  omega
theorem pz_B {A L : Nat → Option Nat} {F P B x d : Nat} (hA : ∀ y, oB P (A y)) (hL : ∀ y, oB B (L y)) (hF : P + B ≤ F) : oB F (pz A L x d) := by
  unfold pz
  split
  · exact oS_B (hA _) (hL _) hF
  · exact oB_n
theorem SQ_B {A : Nat → Nat → Option Nat} {n s : Nat} (hA : ∀ h y, oB 1296 (A h y)) : ∀ (k x : Nat), oB (1296 * k) (SQ A n s k x)
  | 0, x => by
    intro v h
    have h : (if x = 0 then some 0 else none) = some v := h
    split at h
    · cases h
      exact Nat.zero_le _
    · cases h
  | k + 1, x => by
    show oB (1296 * (k + 1)) (if hb s (n - 1 - k) = true then bst (pz (A (n - 1 - k)) (SQ A n s k) x) 47 else SQ A n s k x)
    split
    · exact bst_B fun e he => pz_B (hA _) (fun y => SQ_B hA k y) (by omega)
    · exact oB_mono (SQ_B hA k x) (by omega)
theorem QH_B {A : Nat → Nat → Option Nat} {n s h x : Nat} (hA : ∀ h y, oB 1296 (A h y)) (hn : n ≤ 5) : oB 6480 (QH A n s h x) := oB_mono (SQ_B hA (n - h) x) (by omega)
theorem QH_n {A : Nat → Nat → Option Nat} {n s x : Nat} : QH A n s n x = if x = 0 then some 0 else none := by
  show SQ A n s (n - n) x = _
  rw [Nat.sub_self]
  rfl
theorem QH_s {A : Nat → Nat → Option Nat} {n s h x : Nat} (hh : h < n) : QH A n s h x = if hb s h = true then bst (pz (A h) (QH A n s (h + 1)) x) 47 else QH A n s (h + 1) x := by
  show SQ A n s (n - h) x = _
  rw [show n - h = (n - (h + 1)) + 1 by omega]
  show (if hb s (n - 1 - (n - (h + 1))) = true then bst (pz (A (n - 1 - (n - (h + 1)))) (SQ A n s (n - (h + 1))) x) 47 else SQ A n s (n - (h + 1)) x) = _
  rw [show n - 1 - (n - (h + 1)) = h by omega]
/-- only the houses from n - k on count -/
theorem SQ_cong {A : Nat → Nat → Option Nat} {n s s2 : Nat} : ∀ (k : Nat), (∀ g, n - k ≤ g → g < n → hb s g = hb s2 g) → k ≤ n → ∀ x, SQ A n s k x = SQ A n s2 k x
  | 0, _, _, x => rfl
  | k + 1, h, hk, x => by
    have ih := SQ_cong (A := A) k (fun g a b => h g (by omega) b) (by omega)
    show (if hb s (n - 1 - k) = true then bst (pz (A (n - 1 - k)) (SQ A n s k) x) 47 else SQ A n s k x) = if hb s2 (n - 1 - k) = true then bst (pz (A (n - 1 - k)) (SQ A n s2 k) x) 47 else SQ A n s2 k x
    rw [h (n - 1 - k) (by omega) (by omega), funext ih]
theorem QH_cong {A : Nat → Nat → Option Nat} {n s s2 h x : Nat} (hc : ∀ g, h ≤ g → g < n → hb s g = hb s2 g) : QH A n s h x = QH A n s2 h x := SQ_cong (n - h) (fun g a b => hc g (by omega) b) (by omega) x
/-- one choice more -/
theorem pzM {A L : Nat → Option Nat} {F x d p : Nat} (hp : A d = some p) (h1 : oB F (bst (pz A L x) d)) (h2 : oB F (oA p (L (x - d)))) : (if d ≤ x then min (eN F (bst (pz A L x) d)) (p + eN F (L (x - d))) else eN F (bst (pz A L x) d)) = eN F (bst (pz A L x) (d + 1)) := by
  show _ = eN F (oM (bst (pz A L x) d) (pz A L x d))
  by_cases q : d ≤ x
  · rw [if_pos q, show pz A L x d = oA p (L (x - d)) from by unfold pz; rw [if_pos q, hp]; rfl]
    exact eN_M h1 h2
  · rw [if_neg q, show pz A L x d = none from if_neg q, oM_n]
theorem pzN {A L : Nat → Option Nat} {x d : Nat} (hp : A d = none) : bst (pz A L x) (d + 1) = bst (pz A L x) d := by
  show oM (bst (pz A L x) d) (pz A L x d) = _
  rw [show pz A L x d = none from by unfold pz; rw [hp]; split <;> rfl, oM_n]
theorem pzE {A L : Nat → Option Nat} {F x d v : Nat} (hd : d ≤ x) (hv : v < F) : eN F (A d) + eN F (L (x - d)) = v ↔ pz A L x d = some v := by
  rw [show pz A L x d = oS (A d) (L (x - d)) from if_pos hd]
  cases A d with
  | none => exact ⟨fun q => by (have q : F + eN F (L (x - d)) = v := q); omega, fun q => by cases q⟩
  | some p =>
    cases L (x - d) with
    | none => exact ⟨fun q => by (have q : p + F = v := q); omega, fun q => by cases q⟩
    | some w => exact ⟨fun q => congrArg some q, fun q => Option.some.inj q⟩
theorem eN_S {F : Nat} {acc a b : Option Nat} (h0 : oB F acc) (h1 : oB F (oS a b)) : min (eN F acc) (eN F a + eN F b) = eN F (oM acc (oS a b)) := by
  have h2 := eN_le h0
  cases a with
  | none =>
    rw [show oS none b = none from rfl, oM_n]
    show min (eN F acc) (F + eN F b) = _
    omega
  | some p => exact eN_M h0 h1
/-! sums from behind -/
theorem sm_rev2 {f : Nat → Nat} {n : Nat} : ∀ (k : Nat), k ≤ n → sm (fun j => f (n - 1 - j)) k + sm f (n - k) = sm f n
  | 0, _ => by
    show 0 + sm f (n - 0) = sm f n
    rw [Nat.sub_zero, Nat.zero_add]
  | k + 1, h => by
    have ih := sm_rev2 (f := f) (n := n) k (by omega)
    have e : sm f (n - k) = sm f (n - (k + 1)) + f (n - 1 - k) := by
      rw [show n - k = (n - (k + 1)) + 1 by omega]
      show sm f (n - (k + 1)) + f (n - (k + 1)) = _
      rw [show n - (k + 1) = n - 1 - k by omega]
    show sm (fun j => f (n - 1 - j)) k + f (n - 1 - k) + sm f (n - (k + 1)) = sm f n
    omega
theorem sm_rev {f : Nat → Nat} {n : Nat} : sm (fun j => f (n - 1 - j)) n = sm f n := by
  have := sm_rev2 (f := f) (n := n) n (Nat.le_refl _)
  rw [Nat.sub_self] at this
  exact this
/-- what can't be borne -/
theorem LPn_top {P top : Nat → Nat} : ∀ (r : Nat) {x v : Nat}, LPn P top r x = some v → x ≤ sm top r
  | 0, x, v, h => by
    have h : (if x = 0 then some 0 else none) = some v := h
    split at h
    · show x ≤ 0
      omega
    · cases h
  | r + 1, x, v, h => by
    obtain ⟨⟨d, hd, e⟩, _⟩ := bst_some (p := pq P (LPn P top r) x) (D := top r + 1) h
    obtain ⟨k1, w, k2, _⟩ := pq_some e
    have := LPn_top r k2
    show x ≤ sm top r + top r
    omega
theorem LL_ms {H : Hs} {c : Sc} {h x v : Nat} (hh : vt (cs H c) ≤ hN H) (e : LL H c h x = some v) : x ≤ ms H c h (hN H) := by
  have h1 := LPn_top _ e
  unfold ms
  rw [← sm_rev]
  refine Nat.le_trans h1 (Nat.le_of_eq (sm_cong fun j hj => ?_))
  show tp H c (cs H c) h (hN H - (j + 1)) = tp H c (cs H c) h (vt (cs H c) + (hN H - vt (cs H c) - 1 - j))
  rw [show vt (cs H c) + (hN H - vt (cs H c) - 1 - j) = hN H - (j + 1) by omega]
theorem ms_le {H : Hs} {c : Sc} {h : Nat} (hH : HI H) (hc : CI H c) : ms H c h (hN H) ≤ 72 := by
  have b2 := hH.2.1
  have := sm_bd (f := fun j => tp H c (cs H c) h (vt (cs H c) + j)) (b := 9) (n := hN H - vt (cs H c)) (fun j hj => Nat.le_trans tp_le (hc.2.1 _ (by omega)))
  unfold ms
  omega
/-! where each has a plan, all have one together -/
abbrev f01 (s : Nat) (w : Nat → Nat) : Nat → Nat := fun g => if hb s g = true then w g else 0
theorem SQ_ex {A : Nat → Nat → Option Nat} {n s : Nat} {w : Nat → Nat} (hw : ∀ g, g < n → w g < 47) (ha : ∀ g, g < n → hb s g = true → ∃ u, A g (w g) = some u) : ∀ (k : Nat), k ≤ n → ∃ v, SQ A n s k (sm (fun j => f01 s w (n - 1 - j)) k) = some v
  | 0, _ => ⟨0, rfl⟩
  | k + 1, hk => by
    obtain ⟨v, hv⟩ := SQ_ex hw ha k (by omega)
    show ∃ v, (if hb s (n - 1 - k) = true then bst (pz (A (n - 1 - k)) (SQ A n s k) (sm (fun j => f01 s w (n - 1 - j)) k + f01 s w (n - 1 - k))) 47 else SQ A n s k (sm (fun j => f01 s w (n - 1 - j)) k + f01 s w (n - 1 - k))) = some v
    by_cases q : hb s (n - 1 - k) = true
    · rw [if_pos q, show f01 s w (n - 1 - k) = w (n - 1 - k) from if_pos q]
      obtain ⟨u, hu⟩ := ha (n - 1 - k) (by omega) q
      refine bst_ex (d := w (n - 1 - k)) (w := u + v) ?_ (hw _ (by omega))
      unfold pz
      rw [if_pos (by omega), Nat.add_sub_cancel, hu, hv]
      rfl
    · rw [if_neg q, show f01 s w (n - 1 - k) = 0 from if_neg q, Nat.add_zero]
      exact ⟨v, hv⟩
theorem QH_ex {A : Nat → Nat → Option Nat} {n s : Nat} {w : Nat → Nat} (hw : ∀ g, g < n → w g < 47) (ha : ∀ g, g < n → hb s g = true → ∃ u, A g (w g) = some u) : ∃ v, QH A n s 0 (sm (f01 s w) n) = some v := by
  have := SQ_ex hw ha n (Nat.le_refl _)
  rw [sm_rev] at this
  exact this
/-- one house more, with its own -/
theorem SQ_more {A : Nat → Nat → Option Nat} {n s s2 h o a : Nat} (hh : h < n) (ho : o < 47) (ha : A h o = some a) (h1 : hb s h = false) (h2 : hb s2 h = true) (h3 : ∀ g, g < n → g ≠ h → hb s2 g = hb s g) : ∀ (k : Nat), k ≤ n → ∀ (x v : Nat), SQ A n s k x = some v → (n - k ≤ h → ∃ w, SQ A n s2 k (x + o) = some w ∧ w ≤ v + a) ∧ (h < n - k → SQ A n s2 k x = some v)
  | 0, _, x, v, e => ⟨fun q => absurd q (by omega), fun _ => e⟩
  | k + 1, hk, x, v, e => by
    have ih := SQ_more hh ho ha h1 h2 h3 k (by omega)
    have e : (if hb s (n - 1 - k) = true then bst (pz (A (n - 1 - k)) (SQ A n s k) x) 47 else SQ A n s k x) = some v := e
    refine ⟨fun q => ?_, fun q => ?_⟩
    · show ∃ w, (if hb s2 (n - 1 - k) = true then bst (pz (A (n - 1 - k)) (SQ A n s2 k) (x + o)) 47 else SQ A n s2 k (x + o)) = some w ∧ w ≤ v + a
      by_cases y : n - 1 - k = h
      · rw [y, h1, if_neg (by decide)] at e
        rw [y, if_pos h2]
        have e2 := (ih x v e).2 (by omega)
        have e3 : pz (A h) (SQ A n s2 k) (x + o) o = some (a + v) := by
          unfold pz
          rw [if_pos (by omega), Nat.add_sub_cancel, ha, e2]
          rfl
        obtain ⟨w, hw⟩ := bst_ex e3 ho
        exact ⟨w, hw, by have := (bst_some hw).2 o _ ho e3; omega⟩
      · rw [h3 _ (by omega) y]
        by_cases z : hb s (n - 1 - k) = true
        · rw [if_pos z] at e ⊢
          obtain ⟨⟨d, hd, e4⟩, _⟩ := bst_some e
          have hdx : d ≤ x := by
            unfold pz at e4
            split at e4
            · assumption
            · cases e4
          rw [show pz (A (n - 1 - k)) (SQ A n s k) x d = oS (A (n - 1 - k) d) (SQ A n s k (x - d)) from if_pos hdx] at e4
          obtain ⟨p, u, p1, p2, p3⟩ := oS_some e4
          obtain ⟨w, w1, w2⟩ := (ih (x - d) u p2).1 (by omega)
          have e5 : pz (A (n - 1 - k)) (SQ A n s2 k) (x + o) d = some (p + w) := by
            unfold pz
            rw [if_pos (by omega), p1, show x + o - d = x - d + o by omega, w1]
            rfl
          obtain ⟨w3, hw3⟩ := bst_ex e5 hd
          exact ⟨w3, hw3, by have := (bst_some hw3).2 d _ hd e5; omega⟩
        · rw [if_neg z] at e ⊢
          exact (ih x v e).1 (by omega)
    · show (if hb s2 (n - 1 - k) = true then bst (pz (A (n - 1 - k)) (SQ A n s2 k) x) 47 else SQ A n s2 k x) = some v
      rw [show SQ A n s2 k = SQ A n s k from funext fun y => SQ_cong k (fun g a b => h3 g b (by omega)) (by omega) y, h3 _ (by omega) (by omega)]
      exact e
/-! bits -/
theorem hi_1 : ∀ s, s < 32 → ∀ h, h < 5 → hb s h = true → (nI (hiS s (h + 1)) ||| (1 <<< (nI h &&& 31))) = nI (hiS s h) := by decide +kernel
theorem hi_2 : ∀ s, s < 32 → ∀ h, h < 5 → hb s h = false → hiS s (h + 1) = hiS s h := by decide +kernel
theorem hi_5a : ∀ s, s < 32 → ∀ q, q < 30 → hb s (q / 6) = true → q / 6 < q % 6 → hiS s (q % 6) ≠ hiS s (q / 6) := by decide +kernel
theorem hi_5 {s h g : Nat} (hs : s < 32) (hh : h < 5) (hg : g < 6) (h1 : hb s h = true) (h2 : h < g) : hiS s g ≠ hiS s h := by
  have := hi_5a s hs (6 * h + g) (by omega)
  rw [show (6 * h + g) / 6 = h by omega, show (6 * h + g) % 6 = g by omega] at this
  exact this h1 h2
theorem hi_6 : ∀ s, s < 32 → ∀ h, h < 6 → hiS s h < 32 := by decide +kernel
theorem hi_4 : ∀ n, n < 6 → ∀ s, s < 2 ^ n → hiS s n = 0 := by decide +kernel
theorem hi_0 (s : Nat) : hiS s 0 = s := by
  show s / 1 * 1 = s
  rw [Nat.div_one, Nat.mul_one]
theorem all_1 : ∀ n, n < 6 → ((1 : Int32) <<< (nI n &&& 31)) = nI (2 ^ n) := by decide +kernel
theorem all_2 : ∀ n, n < 6 → ∀ h, h < n → ((1 : Int32) <<< (nI n &&& 31)) - (1 <<< (nI (h + 1) &&& 31)) = nI (hiS (2 ^ n - 1) (h + 1)) := by decide +kernel
theorem all_3 : ∀ n, n < 6 → ∀ h, h < n → hb (2 ^ n - 1) h = true := by decide +kernel
theorem pow5 {n : Nat} (h : n ≤ 5) : 2 ^ n ≤ 32 := Nat.pow_le_pow_right (n := 2) (by decide) h
