/-! replay, act, take: the class's -/
theorem Fr.faB {p : Nat → Nat → Nat → Bool} {μ μ1 : Mm} {b : Nat} (h : Fr p μ μ1) (hp : ∀ k x s, p k x s = true → ar k x s = b) : Fa (L1 b) μ μ1 := by
  refine h.mono fun k x s q => ?_
  cases e : p k x s with
  | false => rfl
  | true =>
    have q : Nat.beq (ar k x s) b = false := q
    rw [hp k x s e, Nat.beq_refl] at q
    cases q
def pR (i : Nat) : Nat → Nat → Nat → Bool := fun k x s => decide ((k = 0 ∧ 5 * i ≤ x ∧ x < 5 * i + 5 ∧ 3 ≤ s ∧ s ≤ 5) ∨ (k = 4 ∧ x = i ∧ (s = 7 ∨ s = 8)))
def pA (i : Nat) : Nat → Nat → Nat → Bool := fun k x s => decide ((k = 0 ∧ 5 * i ≤ x ∧ x < 5 * i + 5 ∧ 3 ≤ s ∧ s ≤ 5) ∨ (k = 4 ∧ x = i ∧ (s = 7 ∨ s = 8)) ∨ ((k = 21 ∨ k = 22 ∨ k = 23) ∧ x = i))
def pH (i : Nat) : Nat → Nat → Nat → Bool := fun k x _ => decide (k = 0 ∧ 5 * i ≤ x ∧ x < 5 * i + 5)
def pT (i : Nat) : Nat → Nat → Nat → Bool := fun k x _ => decide ((k = 0 ∧ 5 * i ≤ x ∧ x < 5 * i + 5) ∨ ((k = 4 ∨ k = 20 ∨ k = 21 ∨ k = 22 ∨ k = 23) ∧ x = i))
theorem pD_R {i k x s : Nat} (h : pR i k x s = false) : pD i k x s = false := by
  have h := of_decide_eq_false h
  exact decide_eq_false (by omega)
theorem pD_A {i k x s : Nat} (h : pA i k x s = false) : pD i k x s = false := by
  have h := of_decide_eq_false h
  exact decide_eq_false (by omega)
theorem pR_T {i k x s : Nat} (h : pT i k x s = false) : pR i k x s = false := by
  have h := of_decide_eq_false h
  exact decide_eq_false (by omega)
theorem pH_T {i k x s : Nat} (h : pT i k x s = false) : pH i k x s = false := by
  have h := of_decide_eq_false h
  exact decide_eq_false (by omega)
theorem ar_3 : ∀ k, (k = 4 ∨ k = 20 ∨ k = 21 ∨ k = 22 ∨ k = 23) → ∀ s, ar k 0 s = 3 := by
  intro k hk s
  rcases hk with rfl | rfl | rfl | rfl | rfl <;> rfl
theorem ar_0 {x s : Nat} (h : x < 5) : ar 0 x s = 3 := by
  show (if x < 5 then 3 else _) = 3
  rw [if_pos h]
theorem pA_3 : ∀ k x s, pA 0 k x s = true → ar k x s = 3 := by
  intro k x s h
  have h := of_decide_eq_true h
  rcases h with h | h | h
  · rw [h.1]
    exact ar_0 (by omega)
  · rw [h.1, h.2.1]
    rfl
  · rw [h.2]
    exact ar_3 k (by omega) s
theorem pR_3 : ∀ k x s, pR 0 k x s = true → ar k x s = 3 := by
  intro k x s h
  have h := of_decide_eq_true h
  rcases h with h | h
  · rw [h.1]
    exact ar_0 (by omega)
  · rw [h.1, h.2.1]
    rfl
theorem pT_3 : ∀ k x s, pT 0 k x s = true → ar k x s = 3 := by
  intro k x s h
  have h := of_decide_eq_true h
  rcases h with h | h
  · rw [h.1]
    exact ar_0 (by omega)
  · rw [h.2]
    exact ar_3 k h.1 s
theorem pT_4 {i : Nat} (hi : i < 3) : ∀ k x s, pT (i + 1) k x s = true → ar k x s = 4 := by
  intro k x s h
  have h := of_decide_eq_true h
  rcases h with h | h
  · rw [h.1, show x = 5 * (i + 1) + (x - 5 * (i + 1)) by omega]
    exact ar_hk hi (by omega)
  · rw [h.2]
    rcases h.1 with rfl | rfl | rfl | rfl | rfl <;> exact ar_4 (s := s) hi
section P41
variable {G : Ge} {μ : Mm} {V : Mm → Prop} {H : Hs}
theorem Sh.fr {p : Nat → Nat → Nat → Bool} {μ1 : Mm} {i : Nat} (h : Sh H i μ) (hH : HI H) (F : Fr p μ μ1) (h6 : p 4 i 6 = false) (h5 : p 4 i 5 = false) (hh : ∀ x s, x < 5 → s < 3 → p 0 (5 * i + x) s = false) : Sh H i μ1 := by
  have b1 := hH.1
  exact ⟨F.it h6 h.1, F.it h5 h.2.1, fun x hx => ⟨F.it (hh x 0 (by omega) (by decide)) (h.2.2 x hx).1, F.it (hh x 1 (by omega) (by decide)) (h.2.2 x hx).2.1, F.it (hh x 2 (by omega) (by decide)) (h.2.2 x hx).2.2⟩⟩
theorem Sh.frD {μ1 : Mm} {i : Nat} (h : Sh H i μ) (hH : HI H) (F : Fr (pD i) μ μ1) : Sh H i μ1 := h.fr hH F (decide_eq_false (by omega)) (decide_eq_false (by omega)) (fun x s _ _ => decide_eq_false (by omega))
theorem Sh.frR {μ1 : Mm} {i : Nat} (h : Sh H i μ) (hH : HI H) (F : Fr (pR i) μ μ1) : Sh H i μ1 := h.fr hH F (decide_eq_false (by omega)) (decide_eq_false (by omega)) (fun x s _ _ => decide_eq_false (by omega))
theorem Sh.frA {μ1 : Mm} {i : Nat} (h : Sh H i μ) (hH : HI H) (F : Fr (pA i) μ μ1) : Sh H i μ1 := h.fr hH F (decide_eq_false (by omega)) (decide_eq_false (by omega)) (fun x s _ _ => decide_eq_false (by omega))
theorem replay7 {i n : Nat} (hH : HI H) : ∀ (d : Nat) {h : Nat} {μ : Mm}, μ.1 4 i 6 = nI (hn H) → hn H = h + d → SS G m_St_replay 37 [vr 4 i, vi (nI n), vi 0] [] (wI (rN μ (5 * i + h) d) 4 i 8 (nI n)) (RV V) → SS G m_St_replay 7 [vr 4 i, vi (nI n), vi (nI h)] [] μ (RV V)
  | 0, h, μ, e6, e, hV => by
    have b1 := hH.1
    rw [rN_0] at hV
    refine b_St_replay_7 _ _ _ ?_
    rw [e6]
    exact iLeT (by omega) (by omega) hV
  | d + 1, h, μ, e6, e, hV => by
    have b1 := hH.1
    refine b_St_replay_7 _ _ _ ?_
    rw [e6]
    refine iLeF (by omega) (by omega) ⟨in_nI (by omega) (by decide), c_Ho_restart _ ?_⟩
    rw [nI_tn (by omega), nI_1]
    refine replay7 hH d (by rw [wI_k _ _ (by decide), wI_k _ _ (by decide), wI_k _ _ (by decide)]; exact e6) (by omega) ?_
    rw [show 5 * i + (h + 1) = 5 * i + h + 1 by omega, rN_step]
    exact hV
theorem replay37 {i n : Nat} {c : Sc} (hH : HI H) (hc : CI H c) (hnc : n ≤ cD c) {μ0 : Mm} (hSh : Sh H i μ0) (hds : ∀ j, j < n → μ0.1 21 i j = sz (cd c j).1 ∧ μ0.1 22 i j = sz (cd c j).2.1 ∧ μ0.1 23 i j = nI (cd c j).2.2) (hV : ∀ μ1, Dy (hn H) (sat H (cd c) n) i μ1 → Fr (pD i) μ0 μ1 → V μ1) : ∀ (d : Nat) {j : Nat} {μ : Mm}, n = j + d → Dy (hn H) (sat H (cd c) j) i μ → Fr (pD i) μ0 μ → SS G m_St_replay 37 [vr 4 i, vi (nI n), vi (nI j)] [] μ (RV V)
  | 0, j, μ, e, hD, F => by
    have b1 := hc.1
    refine b_St_replay_37 _ _ _ (iLeT (by omega) (by omega) (hV _ ?_ F))
    rw [show n = j by omega]
    exact hD
  | d + 1, j, μ, e, hD, F => by
    have b1 := hc.1
    obtain ⟨e1, e2, e3⟩ := hds j (by omega)
    refine b_St_replay_37 _ _ _ (iLeF (by omega) (by omega) (perform_s hH (hSh.frD hH F) hD (SI_at hH hc j (by omega)) (by omega) (by omega) (F.it (decide_eq_false (by omega)) e1) (F.it (decide_eq_false (by omega)) e2) (F.it (decide_eq_false (by omega)) e3) (hc.2.2 j (by omega)) fun μ1 hD1 F1 => ?_))
    rw [nI_1]
    exact replay37 hH hc hnc hSh hds hV d (by omega) hD1 (F.tr F1)
theorem replay_s {i n : Nat} {c : Sc} (hH : HI H) (hc : CI H c) (hnc : n ≤ cD c) (hSh : Sh H i μ) (hds : ∀ j, j < n → μ.1 21 i j = sz (cd c j).1 ∧ μ.1 22 i j = sz (cd c j).2.1 ∧ μ.1 23 i j = nI (cd c j).2.2) (hV : ∀ μ1, Dy (hn H) (sat H (cd c) n) i μ1 → μ1.1 4 i 8 = nI n → Fr (pR i) μ μ1 → V μ1) : CS G m_St_replay [vr 4 i, vi (nI n)] μ (RV V) := by
  have b1 := hH.1
  refine c_St_replay _ _ (replay7 hH (h := 0) (hn H) (by rw [wI_n _ _ _ _ (by decide)]; exact hSh.1) (by omega) ?_)
  have F : Fr (pR i) μ (wI (rN (wI μ 4 i 7 0) (5 * i + 0) (hn H)) 4 i 8 (nI n)) := ((Fr.rf.wI (decide_eq_true (by omega))).rN (fun x s h1 h2 h3 h4 => decide_eq_true (by omega))).wI (decide_eq_true (by omega))
  have e7 : (wI (rN (wI μ 4 i 7 0) (5 * i + 0) (hn H)) 4 i 8 (nI n)).1 4 i 7 = 0 := by
    rw [wI_n _ _ _ _ (by decide), rN_k (by decide), wI_s]
  have e3 : ∀ h, h < hn H → (wI (rN (wI μ 4 i 7 0) (5 * i + 0) (hn H)) 4 i 8 (nI n)).1 0 (5 * i + h) 3 = nI (ho H h) ∧ (wI (rN (wI μ 4 i 7 0) (5 * i + 0) (hn H)) 4 i 8 (nI n)).1 0 (5 * i + h) 4 = 0 ∧ (wI (rN (wI μ 4 i 7 0) (5 * i + 0) (hn H)) 4 i 8 (nI n)).1 0 (5 * i + h) 5 = -9 := by
    intro h hh
    rw [wI_k _ _ (by decide)]
    refine ⟨?_, ?_, ?_⟩
    · rw [rN_3 (by omega) (by omega), wI_k _ _ (by decide)]
      exact (hSh.2.2 h hh).2.2
    · exact rN_4 (by omega) (by omega)
    · exact rN_5 (by omega) (by omega)
  have e8 : (wI (rN (wI μ 4 i 7 0) (5 * i + 0) (hn H)) 4 i 8 (nI n)).1 4 i 8 = nI n := wI_s _ _ _ _ _
  generalize wI (rN (wI μ 4 i 7 0) (5 * i + 0) (hn H)) 4 i 8 (nI n) = μ0 at F e7 e3 e8 ⊢
  refine replay37 hH hc hnc (μ0 := μ0) (hSh.frR hH F) (fun j hj => ⟨F.it (decide_eq_false (by omega)) (hds j hj).1, F.it (decide_eq_false (by omega)) (hds j hj).2.1, F.it (decide_eq_false (by omega)) (hds j hj).2.2⟩) (fun μ1 hD F1 => hV μ1 hD ?_ (F.tr (F1.mono fun _ _ _ => pD_R))) n (j := 0) (by omega) ⟨e7, e3⟩ Fr.rf
  exact F1.it (decide_eq_false (by omega)) e8
/-- one deed more -/
def push (c : Sc) (e : Dd) : Sc := (cc c, cD c + 1, uf (cd c) (cD c) e)
theorem sat_push {c : Sc} {e : Dd} {i : Nat} (hi : i ≤ cD c) : sat H (cd (push c e)) i = sat H (cd c) i := sat_cong fun j hj => uf_n (by omega)
theorem cs_push {c : Sc} {e : Dd} : cs H (push c e) = sp H e (cs H c) := by
  show sp H (uf (cd c) (cD c) e (cD c)) (sat H (cd (push c e)) (cD c)) = _
  rw [uf_s, sat_push (Nat.le_refl _)]
theorem CI_push {c : Sc} {e : Dd} (hc : CI H c) (hD : cD c < 60) (hd : dv H e (cs H c)) : CI H (push c e) := by
  refine ⟨hD, hc.2.1, fun i hi => ?_⟩
  have hi : i < cD c + 1 := hi
  show dv H (uf (cd c) (cD c) e i) (sat H (cd (push c e)) i)
  rw [sat_push (by omega)]
  by_cases q : i = cD c
  · subst q
    rw [uf_s]
    exact hd
  · rw [uf_n q]
    exact hc.2.2 i (by omega)
theorem act_s {c : Sc} {e : Dd} {x1 x2 x3 : Int32} (hH : HI H) (hc : CI H c) (hD : cD c < 60) (hd : dv H e (cs H c)) (hC : Cs H c μ) (h1 : x1 = sz e.1) (h2 : x2 = sz e.2.1) (h3 : x3 = nI e.2.2) (hV : ∀ μ1, Cs H (push c e) μ1 → Fa (L1 3) μ μ1 → V μ1) : CS G m_St_act [vr 4 0, vi x1, vi x2, vi x3] μ (RV V) := by
  have b1 := hH.1
  have k1 : ∀ (μ : Mm) s v, (wI μ 21 0 s v).1 4 = μ.1 4 := fun μ s v => wI_k _ _ (by decide)
  have k2 : ∀ (μ : Mm) s v, (wI μ 22 0 s v).1 4 = μ.1 4 := fun μ s v => wI_k _ _ (by decide)
  have k3 : ∀ (μ : Mm) s v, (wI μ 23 0 s v).1 4 = μ.1 4 := fun μ s v => wI_k _ _ (by decide)
  have h60 : vp_in (nI (cD c)) 60 := in_nI hD (by decide)
  subst h1 h2 h3
  refine c_St_act _ _ _ _ ?_
  simp only [k1, k2, k3, hC.2.1.1]
  rw [nI_tn (by omega)]
  refine iLtT (b := 60) (by decide) hD ⟨h60, h60, h60, ?_⟩
  have F : Fr (pA 0) μ (wI (wI (wI μ 21 0 (cD c) (sz e.1)) 22 0 (cD c) (sz e.2.1)) 23 0 (cD c) (nI e.2.2)) := ((Fr.rf.wI (decide_eq_true (by omega))).wI (decide_eq_true (by omega))).wI (decide_eq_true (by omega))
  have g1 : ∀ j, j < cD c + 1 → (wI (wI (wI μ 21 0 (cD c) (sz e.1)) 22 0 (cD c) (sz e.2.1)) 23 0 (cD c) (nI e.2.2)).1 21 0 j = sz (cd (push c e) j).1 ∧ (wI (wI (wI μ 21 0 (cD c) (sz e.1)) 22 0 (cD c) (sz e.2.1)) 23 0 (cD c) (nI e.2.2)).1 22 0 j = sz (cd (push c e) j).2.1 ∧ (wI (wI (wI μ 21 0 (cD c) (sz e.1)) 22 0 (cD c) (sz e.2.1)) 23 0 (cD c) (nI e.2.2)).1 23 0 j = nI (cd (push c e) j).2.2 := by
    intro j hj
    rw [wI_k (k' := 21) _ _ (by decide), wI_k (k' := 21) _ _ (by decide), wI_k (k' := 22) _ _ (by decide)]
    show _ = sz (uf (cd c) (cD c) e j).1 ∧ _ = sz (uf (cd c) (cD c) e j).2.1 ∧ _ = nI (uf (cd c) (cD c) e j).2.2
    by_cases q : j = cD c
    · subst q
      rw [wI_s, wI_s, wI_s, uf_s]
      exact ⟨rfl, rfl, rfl⟩
    · rw [wI_n _ _ _ _ q, wI_n _ _ _ _ q, wI_n _ _ _ _ q, wI_n _ _ _ _ q, wI_n _ _ _ _ q, wI_n _ _ _ _ q, uf_n q]
      exact hC.2.1.2.2 j (by omega)
  have hDy : Dy (hn H) (cs H c) 0 (wI (wI (wI μ 21 0 (cD c) (sz e.1)) 22 0 (cD c) (sz e.2.1)) 23 0 (cD c) (nI e.2.2)) := by
    refine ⟨?_, fun h hh => ?_⟩
    · rw [k3, k2, k1]
      exact hC.2.2.1
    · rw [wI_k (k' := 0) _ _ (by decide), wI_k (k' := 0) _ _ (by decide), wI_k (k' := 0) _ _ (by decide)]
      exact hC.2.2.2 h hh
  have e8 : (wI (wI (wI μ 21 0 (cD c) (sz e.1)) 22 0 (cD c) (sz e.2.1)) 23 0 (cD c) (nI e.2.2)).1 4 0 8 = nI (cD c) := by
    rw [k3, k2, k1]
    exact hC.2.1.1
  generalize wI (wI (wI μ 21 0 (cD c) (sz e.1)) 22 0 (cD c) (sz e.2.1)) 23 0 (cD c) (nI e.2.2) = μ0 at F g1 hDy e8 ⊢
  have hSh := hC.1.frA hH F
  obtain ⟨q1, q2, q3⟩ := g1 (cD c) (by omega)
  have eu : cd (push c e) (cD c) = e := uf_s _ _ _
  rw [eu] at q1 q2 q3
  refine perform_s hH hSh hDy (SI_now hH hc) (by omega) hD q1 q2 q3 hd fun μ1 hD1 F1 => ?_
  have F2 : Fr (pA 0) μ0 (wI μ1 4 0 8 (μ1.1 4 0 8 + 1)) := (F1.mono fun _ _ _ => pD_A).wI (decide_eq_true (by omega))
  refine hV _ ⟨(hSh.frA hH F2), ⟨?_, fun t ht => ?_, fun j hj => ?_⟩, ?_, fun h hh => ?_⟩ ((F.tr F2).faB pA_3)
  · rw [wI_s, (F1 4 0 8 (decide_eq_false (by omega))).1, e8]
    exact nI_1 _
  · exact F2.it (decide_eq_false (by omega)) (F.it (decide_eq_false (by omega)) (hC.2.1.2.1 t ht))
  · rw [wI_k (k' := 21) _ _ (by decide), wI_k (k' := 22) _ _ (by decide), wI_k (k' := 23) _ _ (by decide)]
    exact ⟨F1.it (decide_eq_false (by omega)) (g1 j hj).1, F1.it (decide_eq_false (by omega)) (g1 j hj).2.1, F1.it (decide_eq_false (by omega)) (g1 j hj).2.2⟩
  · rw [wI_n _ _ _ _ (by decide), cs_push]
    exact hD1.1
  · rw [wI_k _ _ (by decide), cs_push]
    exact hD1.2 h hh
/-- the deeds of one come to another -/
def c3 (μ : Mm) (j i : Nat) : Mm := cI (cI (cI μ 21 j 0 21 i 0 60) 22 j 0 22 i 0 60) 23 j 0 23 i 0 60
theorem take33 {i j : Nat} (hH : HI H) (hij : i ≠ j) {μ0 : Mm} (hSh : ∀ h, h < hn H → μ0.1 0 (5 * j + h) 0 = nI (hk H h) ∧ μ0.1 0 (5 * j + h) 1 = nI (hw H h) ∧ μ0.1 0 (5 * j + h) 2 = nI (ho H h)) (h6 : μ0.1 4 i 6 = nI (hn H))
    (hE : ∀ μ1, Fr (pH i) μ0 μ1 → (∀ h, h < hn H → μ1.1 0 (5 * i + h) 0 = nI (hk H h) ∧ μ1.1 0 (5 * i + h) 1 = nI (hw H h) ∧ μ1.1 0 (5 * i + h) 2 = nI (ho H h)) → CS G m_St_replay [vr 4 i, vi ((c3 μ1 j i).1 4 j 8)] (c3 μ1 j i) (RV V)) : ∀ (d : Nat) {h : Nat} {μ : Mm}, hn H = h + d → Fr (pH i) μ0 μ → (∀ x, x < h → μ.1 0 (5 * i + x) 0 = nI (hk H x) ∧ μ.1 0 (5 * i + x) 1 = nI (hw H x) ∧ μ.1 0 (5 * i + x) 2 = nI (ho H x)) → SS G m_St_take 33 [vr 4 i, vr 4 j, vi (nI h)] [] μ (RV V)
  | 0, h, μ, e, F, hx => by
    have b1 := hH.1
    refine b_St_take_33 _ _ _ ?_
    rw [F.it (k := 4) (decide_eq_false (by omega)) h6]
    refine iLeT (by omega) (by omega) ⟨by decide, by decide, by decide, hE μ F fun x q => hx x (by omega)⟩
  | d + 1, h, μ, e, F, hx => by
    have b1 := hH.1
    have h5 : vp_in (nI h) 5 := in_nI (by omega) (by decide)
    refine b_St_take_33 _ _ _ ?_
    rw [F.it (k := 4) (decide_eq_false (by omega)) h6]
    refine iLeF (by omega) (by omega) ⟨h5, h5, h5, h5, ?_⟩
    rw [nI_tn (by omega), F.it (decide_eq_false (by omega)) (hSh h (by omega)).1, F.it (decide_eq_false (by omega)) (hSh h (by omega)).2.1, F.it (decide_eq_false (by omega)) (hSh h (by omega)).2.2, nI_1]
    refine c_Ho_become _ _ _ _ (c_Ho_restart _ ?_)
    have hp : ∀ s, pH i 0 (5 * i + h) s = true := fun s => decide_eq_true (by omega)
    refine take33 hH hij hSh h6 hE d (by omega) ((((((F.wI (hp _)).wI (hp _)).wI (hp _)).wI (hp _)).wI (hp _)).wI (hp _)) fun x q => ?_
    by_cases y : x = h
    · subst y
      refine ⟨?_, ?_, ?_⟩
      · rw [wI_n _ _ _ _ (by decide), wI_n _ _ _ _ (by decide), wI_n _ _ _ _ (by decide), wI_n _ _ _ _ (by decide), wI_n _ _ _ _ (by decide), wI_s]
      · rw [wI_n _ _ _ _ (by decide), wI_n _ _ _ _ (by decide), wI_n _ _ _ _ (by decide), wI_n _ _ _ _ (by decide), wI_s]
      · rw [wI_n _ _ _ _ (by decide), wI_n _ _ _ _ (by decide), wI_n _ _ _ _ (by decide), wI_s]
    · have ne : 5 * i + x ≠ 5 * i + h := by omega
      rw [wI_i _ _ _ ne, wI_i _ _ _ ne, wI_i _ _ _ ne, wI_i _ _ _ ne, wI_i _ _ _ ne, wI_i _ _ _ ne]
      exact hx x (by omega)
theorem take_s {i j : Nat} {c : Sc} (hH : HI H) (hc : CI H c) (hij : i ≠ j) (hSh : Sh H j μ) (hSd : Sd H c j μ) (hV : ∀ μ1, Sh H i μ1 → Sd H c i μ1 → Dy (hn H) (cs H c) i μ1 → Fr (pT i) μ μ1 → V μ1) : CS G m_St_take [vr 4 i, vr 4 j] μ (RV V) := by
  have b1 := hH.1
  have b2 := hH.2.1
  have b3 := hc.1
  refine c_St_take _ _ ⟨by decide, ?_⟩
  rw [wI_n (s' := 6) _ _ _ _ (by decide), hSh.1, hSh.2.1, show Int32.toNatClampNeg 0 = 0 from rfl, show Int32.toNatClampNeg 8 = 8 from rfl]
  have F : Fr (pT i) μ (cI (wI (wI μ 4 i 5 (nI (hN H))) 4 i 6 (nI (hn H))) 20 j 0 20 i 0 8) := ((Fr.rf.wI (decide_eq_true (by omega))).wI (decide_eq_true (by omega))).cI (fun _ => decide_eq_true (by omega))
  have g6 : (cI (wI (wI μ 4 i 5 (nI (hN H))) 4 i 6 (nI (hn H))) 20 j 0 20 i 0 8).1 4 i 6 = nI (hn H) := by
    rw [cI_k _ (by decide), wI_s]
  have g5 : (cI (wI (wI μ 4 i 5 (nI (hN H))) 4 i 6 (nI (hn H))) 20 j 0 20 i 0 8).1 4 i 5 = nI (hN H) := by
    rw [cI_k _ (by decide), wI_n _ _ _ _ (by decide), wI_s]
  have gc : ∀ t, t < hN H → (cI (wI (wI μ 4 i 5 (nI (hN H))) 4 i 6 (nI (hn H))) 20 j 0 20 i 0 8).1 20 i t = nI (cc c t) := by
    intro t ht
    rw [cI_in (by omega) (by omega), wI_k _ _ (by decide), wI_k _ _ (by decide), show 0 + (t - 0) = t by omega]
    exact hSd.2.1 t ht
  generalize cI (wI (wI μ 4 i 5 (nI (hN H))) 4 i 6 (nI (hn H))) 20 j 0 20 i 0 8 = μ0 at F g6 g5 gc ⊢
  refine take33 hH hij (μ0 := μ0) (fun h hh => ⟨F.it (decide_eq_false (by omega)) (hSh.2.2 h hh).1, F.it (decide_eq_false (by omega)) (hSh.2.2 h hh).2.1, F.it (decide_eq_false (by omega)) (hSh.2.2 h hh).2.2⟩) g6 (fun μ1 F1 hx => ?_) (hn H) (h := 0) (by omega) Fr.rf (fun x q => absurd q (by omega))
  have F2 : Fr (pT i) μ (c3 μ1 j i) := (((F.tr (F1.mono fun _ _ _ => pH_T)).cI (fun _ => decide_eq_true (by omega))).cI (fun _ => decide_eq_true (by omega))).cI (fun _ => decide_eq_true (by omega))
  have hs : ∀ k, k ≠ 21 → k ≠ 22 → k ≠ 23 → (c3 μ1 j i).1 k = μ1.1 k := fun k h1 h2 h3 => by
    unfold c3
    rw [cI_k _ h3, cI_k _ h2, cI_k _ h1]
  have hd : ∀ x, x < cD c → (c3 μ1 j i).1 21 i x = sz (cd c x).1 ∧ (c3 μ1 j i).1 22 i x = sz (cd c x).2.1 ∧ (c3 μ1 j i).1 23 i x = nI (cd c x).2.2 := by
    intro x hx
    have F3 : Fr (pT i) μ μ1 := F.tr (F1.mono fun _ _ _ => pH_T)
    have g21 := F3.it (k := 21) (i := j) (s := x) (decide_eq_false (by omega)) (hSd.2.2 x hx).1
    have g22 := F3.it (k := 22) (i := j) (s := x) (decide_eq_false (by omega)) (hSd.2.2 x hx).2.1
    have g23 := F3.it (k := 23) (i := j) (s := x) (decide_eq_false (by omega)) (hSd.2.2 x hx).2.2
    unfold c3
    refine ⟨?_, ?_, ?_⟩
    · rw [cI_k _ (by decide), cI_k _ (by decide), cI_in (by omega) (by omega), show 0 + (x - 0) = x by omega]
      exact g21
    · rw [cI_k _ (by decide), cI_in (by omega) (by omega), cI_k _ (by decide), show 0 + (x - 0) = x by omega]
      exact g22
    · rw [cI_in (by omega) (by omega), cI_k _ (by decide), cI_k _ (by decide), show 0 + (x - 0) = x by omega]
      exact g23
  have hSh2 : Sh H i (c3 μ1 j i) := by
    refine ⟨?_, ?_, fun h hh => ?_⟩
    · rw [hs 4 (by decide) (by decide) (by decide)]
      exact F1.it (decide_eq_false (by omega)) g6
    · rw [hs 4 (by decide) (by decide) (by decide)]
      exact F1.it (decide_eq_false (by omega)) g5
    · rw [hs 0 (by decide) (by decide) (by decide)]
      exact hx h hh
  have hc2 : ∀ t, t < hN H → (c3 μ1 j i).1 20 i t = nI (cc c t) := by
    intro t ht
    rw [hs 20 (by decide) (by decide) (by decide)]
    exact F1.it (decide_eq_false (by omega)) (gc t ht)
  rw [F2.it (decide_eq_false (by omega)) hSd.1]
  generalize c3 μ1 j i = μ2 at F2 hd hSh2 hc2 ⊢
  refine replay_s hH hc (Nat.le_refl _) hSh2 hd fun μ3 hD3 g8 F3 => hV μ3 (hSh2.frR hH F3) ⟨g8, fun t ht => F3.it (decide_eq_false (by omega)) (hc2 t ht), fun x hx => ⟨F3.it (decide_eq_false (by omega)) (hd x hx).1, F3.it (decide_eq_false (by omega)) (hd x hx).2.1, F3.it (decide_eq_false (by omega)) (hd x hx).2.2⟩⟩ hD3 (F2.tr (F3.mono fun _ _ _ => pR_T))
end P41
