/-! plans: the least hurt -/
def oA (h : Nat) (o : Option Nat) : Option Nat := match o with
  | none => none
  | some v => some (h + v)
def oM (a b : Option Nat) : Option Nat := match a with
  | none => b
  | some v => match b with
    | none => some v
    | some w => some (min v w)
def eN (F : Nat) (o : Option Nat) : Nat := match o with
  | none => F
  | some v => v
/-- no more than F -/
def oB (F : Nat) (o : Option Nat) : Prop := ∀ v, o = some v → v ≤ F
theorem oM_n (a : Option Nat) : oM a none = a := by
  cases a <;> rfl
theorem eN_le {F : Nat} {o : Option Nat} (h : oB F o) : eN F o ≤ F := by
  cases o with
  | none => exact Nat.le_refl _
  | some v => exact h v rfl
theorem oB_M {F : Nat} {a b : Option Nat} (ha : oB F a) (hb : oB F b) : oB F (oM a b) := by
  intro v h
  cases a with
  | none => exact hb v h
  | some x =>
    cases b with
    | none => exact ha v h
    | some y =>
      have h : some (min x y) = some v := h
      cases h
      have := ha x rfl
      omega
theorem oB_A {F h G : Nat} {b : Option Nat} (hb : oB G b) (hF : h + G ≤ F) : oB F (oA h b) := by
  intro v e
  cases b with
  | none => cases e
  | some y =>
    have e : some (h + y) = some v := e
    cases e
    have := hb y rfl
    omega
theorem oB_n {F : Nat} : oB F none := fun v h => by cases h
theorem oB_mono {F G : Nat} {o : Option Nat} (h : oB F o) (hl : F ≤ G) : oB G o := fun v e => Nat.le_trans (h v e) hl
theorem eN_M {F h : Nat} {a b : Option Nat} (ha : oB F a) (hb : oB F (oA h b)) : min (eN F a) (h + eN F b) = eN F (oM a (oA h b)) := by
  cases a with
  | none =>
    cases b with
    | none => show min F (h + F) = F; omega
    | some y =>
      have := hb (h + y) rfl
      show min F (h + y) = h + y
      omega
  | some x =>
    have hx := ha x rfl
    cases b with
    | none => show min x (h + F) = x; omega
    | some y => rfl
theorem eN_lt {F : Nat} {o : Option Nat} (h : oB F o) (hv : ∀ v, o = some v → v < F) : eN F o < F ↔ ∃ v, o = some v := by
  cases o with
  | none => exact ⟨fun q => absurd q (Nat.lt_irrefl _), fun ⟨v, e⟩ => by cases e⟩
  | some v => exact ⟨fun _ => ⟨v, rfl⟩, fun _ => hv v rfl⟩
/-- the least of p 0 .. p (d - 1) -/
def bst (p : Nat → Option Nat) : Nat → Option Nat
  | 0 => none
  | d + 1 => oM (bst p d) (p d)
theorem bst_ext {p : Nat → Option Nat} {d : Nat} : ∀ {D : Nat}, d ≤ D → (∀ e, d ≤ e → e < D → p e = none) → bst p D = bst p d
  | 0, h, _ => by rw [show d = 0 by omega]
  | D + 1, h, hn => by
    by_cases e : d = D + 1
    · rw [e]
    · show oM (bst p D) (p D) = _
      rw [hn D (by omega) (by omega), oM_n]
      exact bst_ext (by omega) (fun e h1 h2 => hn e h1 (by omega))
theorem bst_cong {p q : Nat → Option Nat} : ∀ {D : Nat}, (∀ e, e < D → p e = q e) → bst p D = bst q D
  | 0, _ => rfl
  | D + 1, h => by
    show oM (bst p D) (p D) = oM (bst q D) (q D)
    rw [bst_cong (fun e he => h e (by omega)), h D (by omega)]
theorem bst_B {F : Nat} {p : Nat → Option Nat} : ∀ {D : Nat}, (∀ e, e < D → oB F (p e)) → oB F (bst p D)
  | 0, _ => oB_n
  | D + 1, h => oB_M (bst_B (fun e he => h e (by omega))) (h D (by omega))
theorem oM_some {a b : Option Nat} {v : Nat} (h : oM a b = some v) : (a = some v ∨ b = some v) ∧ (∀ w, a = some w → v ≤ w) ∧ ∀ w, b = some w → v ≤ w := by
  cases a with
  | none => exact ⟨Or.inr h, fun w e => by (cases e), fun w e => by rw [show oM none b = b from rfl, e] at h; cases h; exact Nat.le_refl _⟩
  | some x =>
    cases b with
    | none =>
      have h : some x = some v := h
      cases h
      exact ⟨Or.inl rfl, fun w e => by cases e; exact Nat.le_refl _, fun w e => by cases e⟩
    | some y =>
      have h : some (min x y) = some v := h
      cases h
      refine ⟨?_, fun w e => by cases e; omega, fun w e => by cases e; omega⟩
      by_cases q : x ≤ y
      · exact Or.inl (by rw [Nat.min_eq_left q])
      · exact Or.inr (by rw [Nat.min_eq_right (by omega)])
theorem oM_ex {a b : Option Nat} {w : Nat} (h : a = some w ∨ b = some w) : ∃ v, oM a b = some v := by
  cases a with
  | none =>
    cases b with
    | none => rcases h with h | h <;> cases h
    | some y => exact ⟨y, rfl⟩
  | some x =>
    cases b with
    | none => exact ⟨x, rfl⟩
    | some y => exact ⟨min x y, rfl⟩
theorem bst_some {p : Nat → Option Nat} {v : Nat} : ∀ {D : Nat}, bst p D = some v → (∃ d, d < D ∧ p d = some v) ∧ ∀ d w, d < D → p d = some w → v ≤ w
  | 0, h => by cases h
  | D + 1, h => by
    obtain ⟨h1, h2, h3⟩ := oM_some (a := bst p D) (b := p D) h
    refine ⟨?_, fun d w hd e => ?_⟩
    · rcases h1 with q | q
      · obtain ⟨d, hd, e⟩ := (bst_some q).1
        exact ⟨d, by omega, e⟩
      · exact ⟨D, by omega, q⟩
    · by_cases y : d = D
      · subst y
        exact h3 w e
      · cases hb : bst p D with
        | none =>
          exfalso
          have : ∀ {D : Nat}, d < D → ∃ u, bst p D = some u := by
            intro D
            induction D with
            | zero => exact fun q => absurd q (by omega)
            | succ D ih =>
              intro q
              by_cases z : d = D
              · exact oM_ex (w := w) (Or.inr (by rw [← z]; exact e))
              · obtain ⟨u, hu⟩ := ih (by omega)
                exact oM_ex (w := u) (Or.inl hu)
          obtain ⟨u, hu⟩ := this (D := D) (by omega)
          rw [hb] at hu
          cases hu
        | some u =>
          have g1 := h2 u hb
          have g2 := (bst_some hb).2 d w (by omega) e
          omega
theorem bst_ex {p : Nat → Option Nat} {d w : Nat} (e : p d = some w) : ∀ {D : Nat}, d < D → ∃ v, bst p D = some v
  | 0, h => absurd h (by omega)
  | D + 1, h => by
    by_cases z : d = D
    · exact oM_ex (w := w) (Or.inr (by rw [← z]; exact e))
    · obtain ⟨u, hu⟩ := bst_ex e (D := D) (by omega)
      exact oM_ex (w := u) (Or.inl hu)
/-- the first d from which p is v -/
def fs (p : Nat → Option Nat) (v : Nat) : Nat → Nat → Nat
  | 0, d => d
  | k + 1, d => if p d = some v then d else fs p v k (d + 1)
theorem fs_ok {p : Nat → Option Nat} {v : Nat} : ∀ (k : Nat) {d d1 : Nat}, p d1 = some v → d ≤ d1 → d1 < d + k → p (fs p v k d) = some v ∧ d ≤ fs p v k d ∧ fs p v k d ≤ d1 ∧ ∀ e, d ≤ e → e < fs p v k d → p e ≠ some v
  | 0, d, d1, h, h1, h2 => by omega
  | k + 1, d, d1, h, h1, h2 => by
    by_cases q : p d = some v
    · rw [show fs p v (k + 1) d = d from if_pos q]
      exact ⟨q, Nat.le_refl _, h1, fun e a b => by omega⟩
    · rw [show fs p v (k + 1) d = fs p v k (d + 1) from if_neg q]
      have ne : d ≠ d1 := fun e => q (by rw [e]; exact h)
      obtain ⟨g1, g2, g3, g4⟩ := fs_ok k (d := d + 1) h (by omega) (by omega)
      refine ⟨g1, by omega, g3, fun e a b => ?_⟩
      by_cases y : e = d
      · subst y
        exact q
      · exact g4 e (by omega) b
/-- a night's choices: d degrees tonight, the rest by L -/
def pq (P : Nat → Nat) (L : Nat → Option Nat) (x d : Nat) : Option Nat := if d ≤ x then oA (P d) (L (x - d)) else none
/-- the least hurt by r nights -/
def LPn (P : Nat → Nat) (top : Nat → Nat) : Nat → Nat → Option Nat
  | 0, x => if x = 0 then some 0 else none
  | r + 1, x => bst (pq P (LPn P top r) x) (top r + 1)
theorem pq_B {P : Nat → Nat} {L : Nat → Option Nat} {A B x d : Nat} (hP : P d ≤ A) (hL : ∀ y, oB B (L y)) : oB (A + B) (pq P L x d) := by
  unfold pq
  split
  · exact oB_A (hL _) (by omega)
  · exact oB_n
theorem LPn_B {P top : Nat → Nat} {A : Nat} : ∀ (r : Nat), (∀ j d, j < r → d ≤ top j → P d ≤ A) → ∀ x, oB (A * r) (LPn P top r x)
  | 0, _, x => by
    intro v h
    have h : (if x = 0 then some 0 else none) = some v := h
    split at h
    · cases h
      exact Nat.zero_le _
    · cases h
  | r + 1, h, x => by
    refine bst_B fun e he => ?_
    have := pq_B (P := P) (x := x) (d := e) (h r e (by omega) (by omega)) (LPn_B r (fun j d hj hd => h j d (by omega) hd))
    rw [Nat.mul_succ, Nat.add_comm]
    exact this
theorem pq_some {P : Nat → Nat} {L : Nat → Option Nat} {x d v : Nat} (h : pq P L x d = some v) : d ≤ x ∧ ∃ w, L (x - d) = some w ∧ v = P d + w := by
  unfold pq at h
  split at h
  · rename_i hd
    refine ⟨hd, ?_⟩
    cases e : L (x - d) with
    | none => rw [e] at h; cases h
    | some w =>
      rw [e] at h
      have h : some (P d + w) = some v := h
      cases h
      exact ⟨w, rfl, rfl⟩
  · cases h
/-- the first choice that hurts least -/
def fd (P top : Nat → Nat) (r x : Nat) : Nat := fs (pq P (LPn P top r) x) (eN 0 (LPn P top (r + 1) x)) (top r + 1) 0
theorem fd_ok {P top : Nat → Nat} {r x v : Nat} (h : LPn P top (r + 1) x = some v) : fd P top r x ≤ top r ∧ fd P top r x ≤ x ∧ pq P (LPn P top r) x (fd P top r x) = some v ∧ (∀ e, e < fd P top r x → pq P (LPn P top r) x e ≠ some v) ∧ ∃ w, LPn P top r (x - fd P top r x) = some w := by
  obtain ⟨⟨d, hd, e⟩, _⟩ := bst_some (p := pq P (LPn P top r) x) (D := top r + 1) h
  unfold fd
  rw [h]
  show _ ∧ _ ∧ _ ∧ _ ∧ _
  obtain ⟨g1, g2, g3, g4⟩ := fs_ok (p := pq P (LPn P top r) x) (v := v) (top r + 1) (d := 0) e (by omega) (by omega)
  obtain ⟨k1, w, k2, _⟩ := pq_some g1
  exact ⟨by show fs _ v _ _ ≤ _; omega, k1, g1, fun e he => g4 e (by omega) he, w, k2⟩
/-- the first plan -/
def pln (P top : Nat → Nat) : Nat → Nat → Nat → Nat
  | 0, _, _ => 0
  | r + 1, x, 0 => fd P top r x
  | r + 1, x, j + 1 => pln P top r (x - fd P top r x) j
/-- of a house -/
abbrev hP (H : Hs) (h : Nat) : Nat → Nat := fun d => hu (hk H h) (hw H h) d
abbrev hT (H : Hs) (c : Sc) (h : Nat) : Nat → Nat := fun r => tp H c (cs H c) h (hN H - (r + 1))
abbrev lq (H : Hs) (c : Sc) (h r : Nat) : Nat → Option Nat := LPn (hP H h) (hT H c h) r
theorem hu9 {k w d : Nat} (hd : d ≤ 9) : hu k w d ≤ 162 := by
  have h1 := hu_le (k := k) (w := w) (d := d) (by omega)
  have h2 : d * d ≤ 9 * 9 := Nat.mul_le_mul hd hd
  omega
theorem hT_le {H : Hs} {c : Sc} {h r : Nat} (hc : CI H c) (hr : r < hN H) : hT H c h r ≤ 9 := by
  have h1 := tp_le (H := H) (c := c) (s := cs H c) (h := h) (t := hN H - (r + 1))
  have h2 := hc.2.1 (hN H - (r + 1)) (by omega)
  exact Nat.le_trans h1 h2
theorem lq_B {H : Hs} {c : Sc} {h r x : Nat} (hH : HI H) (hc : CI H c) (hr : r ≤ hN H) : oB 1296 (lq H c h r x) := by
  have b2 := hH.2.1
  refine oB_mono (LPn_B (A := 162) r (fun j d hj hd => hu9 (Nat.le_trans hd (hT_le hc (by omega)))) x) ?_
  have := Nat.mul_le_mul_left 162 (show r ≤ 8 by omega)
  omega
theorem pq_B2 {H : Hs} {c : Sc} {h r x d : Nat} (hH : HI H) (hc : CI H c) (hr : r < hN H) (hd : d ≤ 9) : oB 1458 (pq (hP H h) (lq H c h r) x d) := pq_B (A := 162) (B := 1296) (hu9 hd) (fun y => lq_B hH hc (by omega))
theorem bst_B2 {H : Hs} {c : Sc} {h r x d : Nat} (hH : HI H) (hc : CI H c) (hr : r < hN H) (hd : d ≤ 10) : oB 1458 (bst (pq (hP H h) (lq H c h r) x) d) := bst_B fun e he => pq_B2 hH hc hr (by omega)
