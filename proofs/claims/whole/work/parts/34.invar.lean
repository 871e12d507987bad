/-! what holds of a street however it came about -/
def sm (f : Nat → Nat) : Nat → Nat
  | 0 => 0
  | n + 1 => sm f n + f n
theorem sm_cong {f g : Nat → Nat} : ∀ {n : Nat}, (∀ j, j < n → f j = g j) → sm f n = sm g n
  | 0, _ => rfl
  | n + 1, h => by
    show sm f n + f n = sm g n + g n
    rw [sm_cong (fun j hj => h j (by omega)), h n (by omega)]
theorem sm_le {f : Nat → Nat} : ∀ {n j : Nat}, j < n → f j ≤ sm f n
  | n + 1, j, h => by
    show f j ≤ sm f n + f n
    by_cases e : j = n
    · subst e
      omega
    · have := sm_le (f := f) (n := n) (j := j) (by omega)
      omega
theorem sm_bd {f : Nat → Nat} {b : Nat} : ∀ {n : Nat}, (∀ j, j < n → f j ≤ b) → sm f n ≤ b * n
  | 0, _ => Nat.zero_le _
  | n + 1, h => by
    show sm f n + f n ≤ b * (n + 1)
    have h1 := sm_bd (f := f) (b := b) (n := n) (fun j hj => h j (by omega))
    have h2 := h n (by omega)
    rw [Nat.mul_succ]
    omega
theorem sm_uf {f : Nat → Nat} {w v : Nat} : ∀ {n : Nat}, w < n → sm (uf f w v) n + f w = sm f n + v
  | n + 1, h => by
    show sm (uf f w v) n + uf f w v n + f w = sm f n + f n + v
    by_cases e : w = n
    · subst e
      rw [uf_s, sm_cong (g := f) (fun j hj => uf_n (by omega))]
      omega
    · have := sm_uf (f := f) (w := w) (v := v) (n := n) (by omega)
      rw [uf_n (fun q => e q.symm)]
      omega
theorem hu_le {k w d : Nat} (hd : d ≤ 99) : hu k w d ≤ 2 * (d * d) := by
  unfold hu
  have h1 : (d - wz k w) * (d - wz k w) ≤ d * d := Nat.mul_le_mul (Nat.sub_le _ _) (Nat.sub_le _ _)
  have h2 : tms k ≤ 2 := by
    unfold tms
    split <;> decide
  exact Nat.mul_le_mul h2 h1
/-- its bounds behind i deeds -/
def SI (H : Hs) (i : Nat) (s : Sv) : Prop := vt s ≤ hN H ∧ sm (vo s) (hn H) ≤ 45 ∧ (∀ h, h < hn H → vb s h ≤ 46) ∧ ∀ h, h < hn H → vp s h ≤ 5000 * i
theorem SI.owes {H : Hs} {i : Nat} {s : Sv} (h : SI H i s) {x : Nat} (hx : x < hn H) : vo s x ≤ 45 := Nat.le_trans (sm_le hx) h.2.1
theorem SI_step {H : Hs} {i : Nat} {s : Sv} {e : Dd} (h : SI H i s) (hd : dv H e s) : SI H (i + 1) (sp H e s) := by
  obtain ⟨w, m, d⟩ := e
  cases w with
  | zero => exact ⟨hd, h.2.1, fun _ _ => Nat.zero_le _, fun x hx => Nat.le_trans (h.2.2.2 x hx) (by omega)⟩
  | succ w =>
    obtain ⟨hwn, h1, h2, h3⟩ := hd
    have hwn : w < hn H := hwn
    have h1 : 1 ≤ d := h1
    have h2 : d ≤ vo s w := h2
    have ho := h.owes hwn
    have hsum := h.2.1
    cases m with
    | zero =>
      have hs := sm_uf (f := vo s) (v := vo s w - d) hwn
      refine ⟨h.1, ?_, fun x hx => ?_, fun x hx => ?_⟩
      · show sm (uf (vo s) w (vo s w - d)) (hn H) ≤ 45
        omega
      · show uf (vb s) w (d + 1) x ≤ 46
        by_cases e : x = w
        · subst e
          rw [uf_s]
          omega
        · rw [uf_n e]
          exact h.2.2.1 x hx
      · show uf (vp s) w (vp s w + hu (hk H w) (hw H w) d) x ≤ 5000 * (i + 1)
        have hp := h.2.2.2 x hx
        by_cases e : x = w
        · subst e
          rw [uf_s]
          have g1 := hu_le (k := hk H x) (w := hw H x) (d := d) (by omega)
          have g2 : d * d ≤ 45 * 45 := Nat.mul_le_mul (by omega) (by omega)
          omega
        · rw [uf_n e]
          omega
    | succ m =>
      obtain ⟨hm, hne⟩ := h3
      have hm : m < hn H := hm
      have hne : m ≠ w := hne
      have hs := sm_uf (f := vo s) (v := vo s w - d) hwn
      have hs2 := sm_uf (f := uf (vo s) w (vo s w - d)) (v := uf (vo s) w (vo s w - d) m + d) hm
      refine ⟨h.1, ?_, h.2.2.1, fun x hx => Nat.le_trans (h.2.2.2 x hx) (by omega)⟩
      show sm (uf (uf (vo s) w (vo s w - d)) m (uf (vo s) w (vo s w - d) m + d)) (hn H) ≤ 45
      omega
theorem SI_0 {H : Hs} (hH : HI H) (ds : Nat → Dd) : SI H 0 (sat H ds 0) := by
  refine ⟨Nat.zero_le _, ?_, fun _ _ => Nat.zero_le _, fun _ _ => Nat.zero_le _⟩
  have h1 := sm_bd (f := ho H) (b := 9) (n := hn H) (fun j hj => (hH.2.2.2 j hj).2.2)
  have h2 := hH.1
  show sm (ho H) (hn H) ≤ 45
  omega
theorem SI_at {H : Hs} {c : Sc} (hH : HI H) (hc : CI H c) : ∀ i, i ≤ cD c → SI H i (sat H (cd c) i)
  | 0, _ => SI_0 hH _
  | i + 1, hi => SI_step (SI_at hH hc i (by omega)) (hc.2.2 i (by omega))
theorem SI_now {H : Hs} {c : Sc} (hH : HI H) (hc : CI H c) : SI H (cD c) (cs H c) := SI_at hH hc _ (Nat.le_refl _)
theorem SI.pain {H : Hs} {c : Sc} (hc : CI H c) (h : SI H (cD c) (cs H c)) {x : Nat} (hx : x < hn H) : vp (cs H c) x ≤ 300000 := Nat.le_trans (h.2.2.2 x hx) (by have := hc.1; omega)
/-- deeds behind the i-th count for nothing -/
theorem sat_cong {H : Hs} {f g : Nat → Dd} : ∀ {i : Nat}, (∀ j, j < i → f j = g j) → sat H f i = sat H g i
  | 0, _ => rfl
  | i + 1, h => by
    show sp H (f i) (sat H f i) = sp H (g i) (sat H g i)
    rw [sat_cong (fun j hj => h j (by omega)), h i (by omega)]
/-! what a house can bear -/
def cap (k c : Nat) : Nat := if k = 3 ∨ k = 4 then min c 2 else c
def tp (H : Hs) (c : Sc) (s : Sv) (h t : Nat) : Nat := if t = vt s ∧ vb s h ≠ 0 then 0 else cap (hk H h) (cc c t)
def ct (H : Hs) (c : Sc) (s : Sv) (h : Nat) : Nat := if vt s < hN H then min (tp H c s h (vt s)) (vo s h) else 0
theorem cap_le {k c : Nat} : cap k c ≤ c := by
  unfold cap
  split
  · omega
  · exact Nat.le_refl _
theorem tp_le {H : Hs} {c : Sc} {s : Sv} {h t : Nat} : tp H c s h t ≤ cc c t := by
  unfold tp
  split
  · exact Nat.zero_le _
  · exact cap_le
def isK (k s : Nat) : Bool := Nat.beq k s || (Nat.beq k 4 && Nat.beq s 3) || (Nat.beq k 5 && Nat.beq s 2)
