/-! deeds, the class's -/
theorem nI_m1 {w : Nat} (h : w < 2147483648) : ¬ nI w = -1 := by
  intro q
  have h2 := congrArg Int32.toInt q
  rw [nI_toInt h] at h2
  have e : (-1 : Int32).toInt = -1 := rfl
  omega
def pD (i : Nat) : Nat → Nat → Nat → Bool := fun k x s => decide ((k = 0 ∧ 5 * i ≤ x ∧ x < 5 * i + 5 ∧ 3 ≤ s ∧ s ≤ 5) ∨ (k = 4 ∧ x = i ∧ s = 7))
theorem pD_h {i h s : Nat} (hh : h < 5) (h3 : 3 ≤ s) (h5 : s ≤ 5) : pD i 0 (5 * i + h) s = true := decide_eq_true (Or.inl ⟨rfl, by omega, by omega, h3, h5⟩)
theorem pD_n {i : Nat} : pD i 4 i 7 = true := decide_eq_true (Or.inr ⟨rfl, rfl, rfl⟩)
theorem pD_no {i k x s : Nat} (h : ¬ ((k = 0 ∧ 5 * i ≤ x ∧ x < 5 * i + 5 ∧ 3 ≤ s ∧ s ≤ 5) ∨ (k = 4 ∧ x = i ∧ s = 7))) : pD i k x s = false := decide_eq_false h
theorem Fr.it {p : Nat → Nat → Nat → Bool} {μ μ1 : Mm} {v : Int32} (h : Fr p μ μ1) {k i s : Nat} (hp : p k i s = false) (e : μ.1 k i s = v) : μ1.1 k i s = v := (h k i s hp).1.trans e
/-- the bore of houses a, a + 1, .. is nothing -/
def bN (μ : Mm) (a d : Nat) : Mm := (fun k x s => if k = 0 ∧ a ≤ x ∧ x < a + d ∧ s = 5 then -9 else μ.1 k x s, μ.2)
theorem bN_0 (μ : Mm) (a : Nat) : bN μ a 0 = μ := by
  refine Prod.ext ?_ rfl
  funext k x s
  exact if_neg (fun q => by omega)
theorem bN_step (μ : Mm) (a d : Nat) : bN (wI μ 0 a 5 (-9)) (a + 1) d = bN μ a (d + 1) := by
  refine Prod.ext ?_ rfl
  funext k x s
  show (if k = 0 ∧ a + 1 ≤ x ∧ x < a + 1 + d ∧ s = 5 then (-9 : Int32) else if k = 0 ∧ x = a ∧ s = 5 then -9 else μ.1 k x s) = if k = 0 ∧ a ≤ x ∧ x < a + (d + 1) ∧ s = 5 then -9 else μ.1 k x s
  by_cases h : k = 0 ∧ s = 5
  · obtain ⟨rfl, rfl⟩ := h
    by_cases e : x = a
    · subst e
      rw [if_neg (by omega), if_pos ⟨rfl, rfl, rfl⟩, if_pos ⟨rfl, by omega, by omega, rfl⟩]
    · by_cases e2 : a + 1 ≤ x ∧ x < a + 1 + d
      · rw [if_pos ⟨rfl, e2.1, e2.2, rfl⟩, if_pos ⟨rfl, by omega, by omega, rfl⟩]
      · rw [if_neg (fun q => e2 ⟨q.2.1, q.2.2.1⟩), if_neg (fun q => e q.2.1), if_neg (fun q => by omega)]
  · rw [if_neg (fun q => h ⟨q.1, q.2.2.2⟩), if_neg (fun q => h ⟨q.1, q.2.2⟩), if_neg (fun q => h ⟨q.1, q.2.2.2⟩)]
/-- houses a, a + 1, .. begin anew -/
def rN (μ : Mm) (a d : Nat) : Mm := (fun k x s => if k = 0 ∧ a ≤ x ∧ x < a + d ∧ 3 ≤ s ∧ s ≤ 5 then (if s = 3 then μ.1 0 x 2 else if s = 4 then 0 else -9) else μ.1 k x s, μ.2)
theorem rN_0 (μ : Mm) (a : Nat) : rN μ a 0 = μ := by
  refine Prod.ext ?_ rfl
  funext k x s
  exact if_neg (fun q => by omega)
theorem rN_step (μ : Mm) (a d : Nat) : rN (wI (wI (wI μ 0 a 3 (μ.1 0 a 2)) 0 a 4 0) 0 a 5 (-9)) (a + 1) d = rN μ a (d + 1) := by
  refine Prod.ext ?_ rfl
  funext k x s
  show (if k = 0 ∧ a + 1 ≤ x ∧ x < a + 1 + d ∧ 3 ≤ s ∧ s ≤ 5 then (if s = 3 then (wI (wI (wI μ 0 a 3 (μ.1 0 a 2)) 0 a 4 0) 0 a 5 (-9)).1 0 x 2 else if s = 4 then (0 : Int32) else -9) else (wI (wI (wI μ 0 a 3 (μ.1 0 a 2)) 0 a 4 0) 0 a 5 (-9)).1 k x s) = if k = 0 ∧ a ≤ x ∧ x < a + (d + 1) ∧ 3 ≤ s ∧ s ≤ 5 then (if s = 3 then μ.1 0 x 2 else if s = 4 then 0 else -9) else μ.1 k x s
  rw [wI_n _ _ _ _ (by decide), wI_n _ _ _ _ (by decide), wI_n _ _ _ _ (by decide)]
  by_cases h : k = 0
  · subst h
    by_cases e : x = a
    · subst e
      rw [if_neg (by omega)]
      by_cases h5 : s = 5
      · subst h5
        rw [wI_s, if_pos ⟨rfl, by omega, by omega, by decide, by decide⟩, if_neg (by decide), if_neg (by decide)]
      · rw [wI_n _ _ _ _ h5]
        by_cases h4 : s = 4
        · subst h4
          rw [wI_s, if_pos ⟨rfl, by omega, by omega, by decide, by decide⟩, if_neg (by decide), if_pos rfl]
        · rw [wI_n _ _ _ _ h4]
          by_cases h3 : s = 3
          · subst h3
            rw [wI_s, if_pos ⟨rfl, by omega, by omega, by decide, by decide⟩, if_pos rfl]
          · rw [wI_n _ _ _ _ h3, if_neg (fun q => by omega)]
    · rw [wI_i _ _ _ e, wI_i _ _ _ e, wI_i _ _ _ e]
      by_cases e2 : a + 1 ≤ x ∧ x < a + 1 + d ∧ 3 ≤ s ∧ s ≤ 5
      · have hL : 0 = 0 ∧ a + 1 ≤ x ∧ x < a + 1 + d ∧ 3 ≤ s ∧ s ≤ 5 := ⟨rfl, e2⟩
        have hR : 0 = 0 ∧ a ≤ x ∧ x < a + (d + 1) ∧ 3 ≤ s ∧ s ≤ 5 := ⟨rfl, by omega, by omega, e2.2.2.1, e2.2.2.2⟩
        rw [if_pos hL, if_pos hR]
      · have hL : ¬ (0 = 0 ∧ a + 1 ≤ x ∧ x < a + 1 + d ∧ 3 ≤ s ∧ s ≤ 5) := fun q => e2 q.2
        have hR : ¬ (0 = 0 ∧ a ≤ x ∧ x < a + (d + 1) ∧ 3 ≤ s ∧ s ≤ 5) := by omega
        rw [if_neg hL, if_neg hR]
  · rw [if_neg (fun q => h q.1), if_neg (fun q => h q.1), wI_k _ _ h, wI_k _ _ h, wI_k _ _ h]
theorem bN_k {μ : Mm} {a d k : Nat} (h : k ≠ 0) : (bN μ a d).1 k = μ.1 k := by
  funext x s
  exact if_neg (fun q => h q.1)
theorem bN_s {μ : Mm} {a d k x s : Nat} (h : s ≠ 5) : (bN μ a d).1 k x s = μ.1 k x s := if_neg (fun q => h q.2.2.2)
theorem bN_in {μ : Mm} {a d x : Nat} (h : a ≤ x) (h2 : x < a + d) : (bN μ a d).1 0 x 5 = -9 := if_pos ⟨rfl, h, h2, rfl⟩
theorem rN_k {μ : Mm} {a d k : Nat} (h : k ≠ 0) : (rN μ a d).1 k = μ.1 k := by
  funext x s
  exact if_neg (fun q => h q.1)
theorem rN_3 {μ : Mm} {a d x : Nat} (h : a ≤ x) (h2 : x < a + d) : (rN μ a d).1 0 x 3 = μ.1 0 x 2 := if_pos ⟨rfl, h, h2, by decide, by decide⟩
theorem rN_4 {μ : Mm} {a d x : Nat} (h : a ≤ x) (h2 : x < a + d) : (rN μ a d).1 0 x 4 = 0 := if_pos ⟨rfl, h, h2, by decide, by decide⟩
theorem rN_5 {μ : Mm} {a d x : Nat} (h : a ≤ x) (h2 : x < a + d) : (rN μ a d).1 0 x 5 = -9 := if_pos ⟨rfl, h, h2, by decide, by decide⟩
section P40
variable {G : Ge} {μ : Mm} {V : Mm → Prop} {H : Hs}
theorem passN {i : Nat} (hH : HI H) : ∀ (d : Nat) {h : Nat} {μ : Mm}, μ.1 4 i 6 = nI (hn H) → hn H = h + d → V (bN μ (5 * i + h) d) → SS G m_St_passNight 12 [vr 4 i, vi (nI h)] [] μ (RV V)
  | 0, h, μ, e6, e, hV => by
    have b1 := hH.1
    rw [bN_0] at hV
    refine b_St_passNight_12 _ _ ?_
    rw [e6]
    exact iLeT (by omega) (by omega) hV
  | d + 1, h, μ, e6, e, hV => by
    have b1 := hH.1
    refine b_St_passNight_12 _ _ ?_
    rw [e6]
    refine iLeF (by omega) (by omega) ⟨in_nI (by omega) (by decide), ?_⟩
    rw [nI_tn (by omega), nI_1]
    refine passN hH d (by rw [wI_k _ _ (by decide)]; exact e6) (by omega) ?_
    rw [show 5 * i + (h + 1) = 5 * i + h + 1 by omega, bN_step]
    exact hV
theorem Fr.bN {p : Nat → Nat → Nat → Bool} {μ μ1 : Mm} {a d : Nat} (h : Fr p μ μ1) (hp : ∀ x, a ≤ x → x < a + d → p 0 x 5 = true) : Fr p μ (bN μ1 a d) := by
  intro k x s q
  refine ⟨?_, (h k x s q).2⟩
  rw [← (h k x s q).1]
  refine if_neg fun e => ?_
  obtain ⟨rfl, h1, h2, rfl⟩ := e
  rw [hp x h1 h2] at q
  cases q
theorem Fr.rN {p : Nat → Nat → Nat → Bool} {μ μ1 : Mm} {a d : Nat} (h : Fr p μ μ1) (hp : ∀ x s, a ≤ x → x < a + d → 3 ≤ s → s ≤ 5 → p 0 x s = true) : Fr p μ (rN μ1 a d) := by
  intro k x s q
  refine ⟨?_, (h k x s q).2⟩
  rw [← (h k x s q).1]
  refine if_neg fun e => ?_
  obtain ⟨rfl, h1, h2, h3, h4⟩ := e
  rw [hp x s h1 h2 h3 h4] at q
  cases q
theorem perform_s {i j m : Nat} {s : Sv} {e : Dd} (hH : HI H) (hSh : Sh H i μ) (hDy : Dy (hn H) s i μ) (hs : SI H m s) (hm : m ≤ 60) (hj : j < 60) (e1 : μ.1 21 i j = sz e.1) (e2 : μ.1 22 i j = sz e.2.1) (e3 : μ.1 23 i j = nI e.2.2) (hd : dv H e s) (hV : ∀ μ1, Dy (hn H) (sp H e s) i μ1 → Fr (pD i) μ μ1 → V μ1) : CS G m_St_perform [vr 4 i, vi (nI j)] μ (RV V) := by
  have b1 := hH.1
  have b2 := hH.2.1
  have h60 : vp_in (nI j) 60 := in_nI hj (by decide)
  obtain ⟨w, k, d⟩ := e
  refine c_St_perform _ _ ⟨h60, ?_⟩
  rw [nI_tn (by omega)]
  cases w with
  | zero =>
    have hd : vt s < hN H := hd
    refine iT e1 (c_St_passNight _ ?_)
    rw [hDy.1, nI_1]
    refine passN hH (h := 0) (hn H) (by rw [wI_n _ _ _ _ (by decide)]; exact hSh.1) (by omega) (hV _ ⟨?_, fun h hh => ?_⟩ ?_)
    · rw [bN_k (by decide), wI_s]
      rfl
    · rw [bN_s (by decide), bN_s (by decide), bN_in (by omega) (by omega), wI_k _ _ (by decide)]
      exact ⟨(hDy.2 h hh).1, (hDy.2 h hh).2.1, rfl⟩
    · exact (Fr.rf.wI pD_n).bN (fun x h1 h2 => by rw [show x = 5 * i + (x - 5 * i) by omega]; exact pD_h (by omega) (by decide) (by decide))
  | succ w =>
    obtain ⟨hwn, h1, h2, h3⟩ := hd
    have hwn : w < hn H := hwn
    have h1 : 1 ≤ d := h1
    have h2 : d ≤ vo s w := h2
    have ho := hs.owes hwn
    have hp := hs.2.2.2 w hwn
    have e1 : μ.1 21 i j = nI w := e1
    have e3 : μ.1 23 i j = nI d := e3
    have hkk := (hH.2.2.2 w hwn)
    rw [e1, e3]
    refine iF (nI_m1 (by omega)) ⟨h60, ?_⟩
    have h5 : vp_in (nI w) 5 := in_nI (by omega) (by decide)
    have hw5 : w < 5 := by omega
    rw [nI_tn (n := w) (by omega)]
    cases k with
    | zero =>
      refine iT e2 ⟨h60, h5, h60, c_Ho_bearTonight _ _ ?_⟩
      rw [(hDy.2 w hwn).1, nI_sub h2]
      refine painOf_s (k := hk H w) (w := hw H w) ?_ ?_ hkk.1 hkk.2.1 (by omega) ?_
      · rw [wI_n _ _ _ _ (by decide)]
        exact (hSh.2.2 w hwn).1
      · rw [wI_n _ _ _ _ (by decide)]
        exact (hSh.2.2 w hwn).2.1
      rw [wI_n (s' := 4) _ _ _ _ (by decide), (hDy.2 w hwn).2.1, nI_add]
      refine hV _ ⟨?_, fun h hh => ?_⟩ (((Fr.rf.wI (pD_h hw5 (by decide) (by decide))).wI (pD_h hw5 (by decide) (by decide))).wI (pD_h hw5 (by decide) (by decide)))
      · rw [wI_k _ _ (by decide), wI_k _ _ (by decide), wI_k _ _ (by decide)]
        exact hDy.1
      · by_cases e : h = w
        · subst e
          rw [wI_s, wI_n (s' := 3) _ _ _ _ (by decide), wI_n (s' := 3) _ _ _ _ (by decide), wI_s, wI_n (s' := 4) _ _ _ _ (by decide), wI_s]
          refine ⟨?_, ?_, ?_⟩
          · show _ = nI (uf (vo s) h (vo s h - d) h)
            rw [uf_s]
          · show _ = nI (uf (vp s) h (vp s h + hu (hk H h) (hw H h) d) h)
            rw [uf_s]
          · show _ = bI (uf (vb s) h (d + 1) h)
            rw [uf_s]
            rfl
        · rw [wI_i _ _ _ (by omega), wI_i _ _ _ (by omega), wI_i _ _ _ (by omega)]
          refine ⟨?_, ?_, ?_⟩
          · show _ = nI (uf (vo s) w (vo s w - d) h)
            rw [uf_n e]
            exact (hDy.2 h hh).1
          · show _ = nI (uf (vp s) w (vp s w + hu (hk H w) (hw H w) d) h)
            rw [uf_n e]
            exact (hDy.2 h hh).2.1
          · show _ = bI (uf (vb s) w (d + 1) h)
            rw [uf_n e]
            exact (hDy.2 h hh).2.2
    | succ k =>
      obtain ⟨hkn, hne⟩ := h3
      have hkn : k < hn H := hkn
      have hne : k ≠ w := hne
      have e2 : μ.1 22 i j = nI k := e2
      have hok := hs.owes hkn
      rw [wI_k (k' := 22) _ _ (by decide), wI_k (k' := 23) _ _ (by decide), e2, e3]
      refine iF (nI_m1 (by omega)) ⟨h60, h5, h60, h60, in_nI (by omega) (by decide), h60, ?_⟩
      rw [nI_tn (n := k) (by omega), (hDy.2 w hwn).1, nI_sub h2, wI_i (i' := 5 * i + k) _ _ _ (by omega), (hDy.2 k hkn).1, nI_add]
      refine hV _ ⟨?_, fun h hh => ?_⟩ ((Fr.rf.wI (pD_h hw5 (by decide) (by decide))).wI (pD_h (by omega) (by decide) (by decide)))
      · rw [wI_k _ _ (by decide), wI_k _ _ (by decide)]
        exact hDy.1
      · refine ⟨?_, ?_, ?_⟩
        · show _ = nI (uf (uf (vo s) w (vo s w - d)) k (uf (vo s) w (vo s w - d) k + d) h)
          by_cases e : h = k
          · subst e
            rw [wI_s, uf_s, uf_n hne]
          · rw [wI_i _ _ _ (by omega), uf_n e]
            by_cases e' : h = w
            · subst e'
              rw [wI_s, uf_s]
            · rw [wI_i _ _ _ (by omega), uf_n e']
              exact (hDy.2 h hh).1
        · rw [wI_n _ _ _ _ (by decide), wI_n _ _ _ _ (by decide)]
          exact (hDy.2 h hh).2.1
        · rw [wI_n _ _ _ _ (by decide), wI_n _ _ _ _ (by decide)]
          exact (hDy.2 h hh).2.2
end P40
