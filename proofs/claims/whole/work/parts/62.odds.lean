/-! odds -/
theorem sm_mul {f : Nat → Nat} {a : Nat} : ∀ (n : Nat), sm (fun j => a * f j) n = a * sm f n
  | 0 => rfl
  | n + 1 => by
    show sm (fun j => a * f j) n + a * f n = a * (sm f n + f n)
    rw [sm_mul n, Nat.mul_add]
theorem sm_shift {f : Nat → Nat} {a : Nat} : ∀ (n : Nat), sm (fun i => if a ≤ i then f (i - a) else 0) (a + n) = sm f n
  | 0 => sm_z fun j hj => if_neg (by omega)
  | n + 1 => by
    show sm (fun i => if a ≤ i then f (i - a) else 0) (a + n) + (if a ≤ a + n then f (a + n - a) else 0) = sm f n + f n
    rw [sm_shift n, if_pos (by omega), Nat.add_sub_cancel_left]
/-- in how many ways m nights bear l at least -/
def Gq (k : Nat) : Nat → Nat → Nat
  | 0, l => dl0 l
  | m + 1, l => sm (fun e => Gq k m (l - cap k e)) 10
theorem Gq_le (k : Nat) : ∀ (m l : Nat), Gq k m l ≤ 10 ^ m
  | 0, l => by
    show (if l = 0 then 1 else 0) ≤ 1
    split <;> decide
  | m + 1, l => by
    have := sm_bd (f := fun e => Gq k m (l - cap k e)) (b := 10 ^ m) (n := 10) (fun j _ => Gq_le k m _)
    rw [Nat.pow_succ]
    exact this
/-- in how many ways j nights bear just x -/
def NK (k : Nat) : Nat → Nat → Nat
  | 0 => dl0
  | j + 1 => Sx k 9 (NK k j)
theorem NK_z (k : Nat) : ∀ (j x : Nat), 9 * j < x → NK k j x = 0
  | 0, x, h => if_neg (by omega)
  | j + 1, x, h => sm_z fun e he => by
    have := cap_le (k := k) (c := e)
    show (if cap k e ≤ x then NK k j (x - cap k e) else 0) = 0
    split
    · exact NK_z k j _ (by omega)
    · rfl
def frs (f : Nat → Nat) (y x : Nat) : Nat := sm (fun i => if y ≤ i then f i else 0) x
theorem frs_NK (k : Nat) : ∀ (j y : Nat), j ≤ 7 → y < 73 → frs (NK k j) y 73 = Gq k j y
  | 0, y, _, hy => by
    show sm (fun i => if y ≤ i then dl0 i else 0) 73 = dl0 y
    rw [sm_ext (d := 1) (by decide) (fun e a b => by
      split
      · exact if_neg (by omega)
      · rfl)]
    show 0 + (if y ≤ 0 then dl0 0 else 0) = dl0 y
    by_cases q : y = 0
    · rw [if_pos (by omega), q]
      rfl
    · rw [if_neg (by omega), show dl0 y = 0 from if_neg q]
  | j + 1, y, hj, hy => by
    show sm (fun i => if y ≤ i then sm (fun e => if cap k e ≤ i then NK k j (i - cap k e) else 0) (9 + 1) else 0) 73 = sm (fun e => Gq k j (y - cap k e)) 10
    rw [show sm (fun i => if y ≤ i then sm (fun e => if cap k e ≤ i then NK k j (i - cap k e) else 0) (9 + 1) else 0) 73 = sm (fun i => sm (fun e => if y ≤ i then (if cap k e ≤ i then NK k j (i - cap k e) else 0) else 0) 10) 73 from sm_cong fun i _ => by
      by_cases q : y ≤ i
      · rw [if_pos q]
        exact sm_cong fun e _ => by rw [if_pos q]
      · rw [if_neg q]
        exact (sm_z fun e _ => if_neg q).symm, sm_swap]
    refine sm_cong fun e he => ?_
    have hv := cap_le (k := k) (c := e)
    rw [← frs_NK k j (y - cap k e) (by omega) (by omega)]
    have e1 : sm (fun i => if y ≤ i then (if cap k e ≤ i then NK k j (i - cap k e) else 0) else 0) 73 = sm (fun i => if cap k e ≤ i then (fun x => if y ≤ x + cap k e then NK k j x else 0) (i - cap k e) else 0) (cap k e + (73 - cap k e)) := by
      rw [show cap k e + (73 - cap k e) = 73 by omega]
      refine sm_cong fun i _ => ?_
      by_cases q : cap k e ≤ i
      · rw [if_pos q, if_pos q]
        show _ = if y ≤ i - cap k e + cap k e then NK k j (i - cap k e) else 0
        rw [Nat.sub_add_cancel q]
      · rw [if_neg q, if_neg q]
        split <;> rfl
    refine (e1.trans (sm_shift (f := fun x => if y ≤ x + cap k e then NK k j x else 0) (a := cap k e) (73 - cap k e))).trans ?_
    show _ = sm (fun i => if y - cap k e ≤ i then NK k j i else 0) 73
    rw [sm_ext (f := fun i => if y - cap k e ≤ i then NK k j i else 0) (d := 73 - cap k e) (n := 73) (by omega) (fun i a b => by
      rw [NK_z k j i (by omega)]
      split <;> rfl)]
    refine sm_cong fun i _ => ?_
    by_cases q : y ≤ i + cap k e
    · rw [if_pos q, if_pos (by omega)]
    · rw [if_neg q, if_neg (by omega)]
/-- a table of n, weighed -/
def lam (n : Nat) (g D : Nat → Nat) : Nat := sm (fun l => D l * g l) n
theorem lam_uf {n : Nat} {g T : Nat → Nat} {w v : Nat} (hw : w < n) : lam n g (uf T w (T w + v)) = lam n g T + v * g w := by
  have h1 : lam n g (uf T w (T w + v)) = sm (uf (fun l => T l * g l) w ((T w + v) * g w)) n := sm_cong fun l _ => by
    by_cases q : l = w
    · subst q
      rw [uf_s, uf_s]
    · rw [uf_n q, uf_n q]
  have h2 := sm_uf (f := fun l => T l * g l) (v := (T w + v) * g w) hw
  rw [h1]
  rw [Nat.add_mul] at h2 ⊢
  show _ = sm (fun l => T l * g l) n + v * g w
  have h3 : sm (uf (fun l => T l * g l) w (T w * g w + v * g w)) n + T w * g w = sm (fun l => T l * g l) n + (T w * g w + v * g w) := h2
  omega
theorem lam_G {n k m : Nat} {D T : Nat → Nat} (h : ∀ g, lam n g T = sm (fun e => sm (fun l => D l * g (l - cap k e)) n) 10) : lam n (Gq k m) T = lam n (Gq k (m + 1)) D := by
  rw [h, sm_swap]
  exact sm_cong fun l _ => sm_mul 10
theorem lam_0 {n : Nat} {D : Nat → Nat} (hn : 1 ≤ n) : lam n dl0 D = D 0 := by
  show sm (fun l => D l * dl0 l) n = D 0
  rw [sm_ext (d := 1) hn (fun e a b => by
    show D e * (if e = 0 then 1 else 0) = 0
    rw [if_neg (by omega), Nat.mul_zero])]
  show 0 + D 0 * 1 = D 0
  omega
section P62
variable {G : Ge} {μ : Mm} {K : Int32 → Mm → Prop} {V : Mm → Prop} {H : Hs} {c : Sc} {h N : Nat}
theorem fro9 {J : Int64 → Mm → Prop} {f : Nat → Nat} {y : Nat} (h0 : ∀ x, x < 73 → μ.2 24 0 x = lN (f x)) (hK : J (lN (frs f y 73)) μ) : ∀ (m x : Nat), 73 = x + m → y ≤ x → SS G m_Wa_from 9 [vr 5 0, un, vl (lN (frs f y x)), un, vi (nI x)] [] μ (RL J)
  | 0, x, e, hy => by
    refine b_Wa_from_9 _ _ (iLeT (by omega) (by omega) ?_)
    rw [show x = 73 by omega]
    exact hK
  | m + 1, x, e, hy => by
    have ih := fro9 h0 hK m (x + 1) (by omega) (by omega)
    have ih2 : SS G m_Wa_from 9 [vr 5 0, un, vl (lN (frs f y x + if y ≤ x then f x else 0)), un, vi (nI (x + 1))] [] μ (RL J) := ih
    rw [if_pos hy] at ih2
    refine b_Wa_from_9 _ _ (iLeF (by omega) (by omega) ⟨in_nI (by omega) (by decide), ?_⟩)
    rw [nI_tn (by omega), h0 x (by omega), lN_add, nI_1]
    exact ih2
theorem from_s {J : Int64 → Mm → Prop} {f : Nat → Nat} {o v : Nat} (ho : o < 73) (hv : v < 73) (h0 : ∀ x, x < 73 → μ.2 24 0 x = lN (f x)) (hK : J (lN (frs f (o - v) 73)) μ) : CS G m_Wa_from [vr 5 0, vi (nI o - nI v)] μ (RL J) := by
  refine c_Wa_from _ (max0 _ ?_)
  rw [mx_sub (by omega) (by omega)]
  have := fro9 (G := G) (J := J) (y := o - v) h0 hK (73 - (o - v)) (o - v) (by omega) (Nat.le_refl _)
  rw [show frs f (o - v) (o - v) = 0 from sm_z fun j hj => if_neg (by omega)] at this
  exact this
/-- how much it can tonight, what it owes aside -/
def tn (H : Hs) (c : Sc) (h : Nat) : Nat := if vt (cs H c) < hN H then tp H c (cs H c) h (vt (cs H c)) else 0
def odU (H : Hs) (c : Sc) (h : Nat) : Nat := Gq (hk H h) (hN H - (vt (cs H c) + 1)) (vo (cs H c) h - tn H c h)
theorem l10 (j : Nat) : lN (10 ^ j) * 10 = lN (10 ^ (j + 1)) := by
  rw [Nat.pow_succ]
  exact lN_mul (10 ^ j) 10
theorem od30 (hH : HI H) (hc : CI H c) (hh : h < hn H) : ∀ (d : Nat) {j : Nat} {μ : Mm}, j + d = hN H - (vt (cs H c) + 1) → Cs H c μ → (∀ y, y < 73 → μ.2 24 0 y = lN (NK (hk H h) j y)) → (∀ μ1, Fa (L1 5) μ μ1 → CS G m_Cs_tell [vr 6 0, vl (lN (odU H c h)), vl (lN (10 ^ (hN H - (vt (cs H c) + 1))))] μ1 (RI K)) → SS G m_Cs_odds 30 [vr 6 0, vi (nI h), vl (lN (10 ^ j)), un, vi (nI (vt (cs H c) + 1 + j))] [] μ (RI K)
  | 0, j, μ, e, hC, h0, hK => by
    have b1 := hH.1
    have b2 := hH.2.1
    have hv := (SI_now hH hc).1
    have ho := (SI_now hH hc).owes hh
    have eo := (hC.2.2.2 h hh).1
    have hk := hK μ Fa.rf
    have ej : hN H - (vt (cs H c) + 1) = j := by omega
    unfold odU at hk
    rw [ej] at hk
    refine b_Cs_odds_30 _ _ _ ?_
    rw [hC.1.2.1, nI_tn (n := h) (by omega)]
    refine iLeT (by omega) (by omega) (cand_C hC hH hc (fun q => i0 ?_) fun q => i1 ⟨in_nI (by omega) (by decide), ?_⟩)
    · rw [hC.2.2.1]
      refine topIn_s hC hH hc hh q ⟨in_nI (by omega) (by decide), ?_⟩
      have ht9 : tp H c (cs H c) h (vt (cs H c)) ≤ 9 := Nat.le_trans tp_le (hc.2.1 _ q)
      rw [eo]
      refine from_s (by omega) (by omega) h0 ?_
      rw [frs_NK _ j _ (by omega) (by omega)]
      rw [show tn H c h = tp H c (cs H c) h (vt (cs H c)) from if_pos q] at hk
      exact hk
    · rw [eo]
      refine from_s (v := 0) (by omega) (by omega) h0 ?_
      rw [frs_NK _ j _ (by omega) (by omega)]
      rw [show tn H c h = 0 from if_neg (by omega)] at hk
      exact hk
  | d + 1, j, μ, e, hC, h0, hK => by
    have b1 := hH.1
    have b2 := hH.2.1
    have hk5 := (hH.2.2.2 h hh).1
    refine b_Cs_odds_30 _ _ _ ?_
    rw [hC.1.2.1, nI_tn (n := h) (by omega), nI_1, l10]
    refine iLeF (by omega) (by omega) ⟨in_nI (by omega) (by decide), spread_s (C := 9) hk5 (by decide) (hC.1.2.2 h hh).1 h0 fun μ1 k1 F1 => ?_⟩
    rw [show vt (cs H c) + 1 + j + 1 = vt (cs H c) + 1 + (j + 1) by omega]
    exact od30 hH hc hh d (j := j + 1) (by omega) (hC.fa hH F1 rfl) k1 fun μ2 F2 => hK μ2 (F1.tr F2)
/-! the reference's -/
theorem oz91 {x1 x4 x5 : Int32} {l2 : Int64} : ∀ (m : Nat) {x : Nat} {μ : Mm}, 101 = x + m → (∀ y, y < x → μ.2 51 0 y = lN 0) → (∀ μ1, (∀ y, y < 101 → μ1.2 51 0 y = lN 0) → FK 51 (fun _ _ => True) μ μ1 → SS G m_Mo_odds 115 [vr 7 0, vi x1, vl l2, un, vi x4, vi x5, vi 0, un, un] [] μ1 (RI K)) → SS G m_Mo_odds 91 [vr 7 0, vi x1, vl l2, un, vi x4, vi x5, vi (nI x), un, un] [] μ (RI K)
  | 0, x, μ, e, h0, hK => b_Mo_odds_91 _ _ _ _ _ (iT (nI_le (a := 101) (by omega) (by omega)) (hK μ (fun y hy => h0 y (by omega)) FK.rf))
  | m + 1, x, μ, e, h0, hK => by
    refine b_Mo_odds_91 _ _ _ _ _ (iF (nI_ge (b := 101) (by omega) (by omega)) ⟨in_nI (by omega) (by decide), ?_⟩)
    rw [nI_tn (by omega), nI_1]
    have F1 : FK 51 (fun _ _ => True) μ (wL μ 51 0 x 0) := FK.rf.wL trivial
    refine oz91 m (by omega) (fun y hy => ?_) fun μ1 k1 k2 => hK μ1 k1 (F1.tr k2)
    by_cases e2 : y = x
    · subst e2
      rw [wL_s]
      rfl
    · rw [wL_n _ _ _ _ e2]
      exact h0 y (by omega)
theorem oz158 (eN : N = 101) {x1 x4 x5 x6 : Int32} {l2 : Int64} {v : Nat} {D T0 : Nat → Nat} (hv : v ≤ 9) : ∀ (m : Nat) {x : Nat} {T : Nat → Nat} {μ : Mm}, 101 = x + m → (∀ y, y < 101 → μ.2 50 0 y = lN (D y)) → (∀ y, y < 101 → μ.2 51 0 y = lN (T y)) → (∀ g, lam N g T = lam N g T0 + sm (fun l => D l * g (l - v)) x) → (∀ (μ1 : Mm) (T1 : Nat → Nat), (∀ y, y < 101 → μ1.2 51 0 y = lN (T1 y)) → (∀ g, lam N g T1 = lam N g T0 + sm (fun l => D l * g (l - v)) N) → FK 51 (fun _ _ => True) μ μ1 → SS G m_Mo_odds 115 [vr 7 0, vi x1, vl l2, un, vi x4, vi x5, vi (x6 + 1), un, un] [] μ1 (RI K)) → SS G m_Mo_odds 158 [vr 7 0, vi x1, vl l2, un, vi x4, vi x5, vi x6, vi (nI v), vi (nI x)] [] μ (RI K)
  | 0, x, T, μ, e, h1, h0, hT, hK => by
    have ex : x = N := by omega
    rw [ex] at hT
    exact b_Mo_odds_158 _ _ _ _ _ _ _ (iT (nI_le (a := 101) (by omega) (by omega)) (hK μ T h0 hT FK.rf))
  | m + 1, x, T, μ, e, h1, h0, hT, hK => by
    have go : ∀ (w : Nat) (a : Int64), w = x - v → a = lN (T w + D x) → SS G m_Mo_odds 158 [vr 7 0, vi x1, vl l2, un, vi x4, vi x5, vi x6, vi (nI v), vi (nI (x + 1))] [] (wL μ 51 0 w a) (RI K) := by
      intro w a ew ea
      have F1 : FK 51 (fun _ _ => True) μ (wL μ 51 0 w a) := FK.rf.wL trivial
      refine oz158 eN hv m (T := uf T w (T w + D x)) (by omega) (fun y hy => by rw [F1.lk _ _ (by decide)]; exact h1 y hy) (fun y hy => ?_) (fun g => ?_) fun μ1 T1 k1 k2 k3 => hK μ1 T1 k1 k2 (F1.tr k3)
      · by_cases e2 : y = w
        · subst e2
          rw [wL_s, uf_s]
          exact ea
        · rw [wL_n _ _ _ _ e2, uf_n e2]
          exact h0 y hy
      · rw [lam_uf (by omega), hT g]
        show _ = lam N g T0 + (sm (fun l => D l * g (l - v)) x + D x * g (x - v))
        rw [ew]
        omega
    refine b_Mo_odds_158 _ _ _ _ _ _ _ (iF (nI_ge (b := 101) (by omega) (by omega)) ?_)
    rw [show Int32.toNatClampNeg 0 = 0 from rfl, nI_tn (n := x) (by omega), h1 x (by omega), nI_1 x]
    refine iLe (by omega) (by omega) (fun q => ⟨in_nI (n := 0) (by decide) (by decide), in_nI (by omega) (by decide), in_nI (n := 0) (by decide) (by decide), ?_⟩) fun q => ?_
    · rw [h0 0 (by decide), lN_add]
      exact go 0 _ (by omega) rfl
    · rw [nI_sub (a := x) (b := v) (by omega), nI_tn (n := x - v) (by omega), h0 (x - v) (by omega), lN_add]
      exact ⟨in_nI (by omega) (by decide), in_nI (by omega) (by decide), in_nI (by omega) (by decide), go (x - v) _ rfl rfl⟩
theorem oz211 {x1 x4 x5 : Int32} {l2 : Int64} {T : Nat → Nat} : ∀ (m : Nat) {x : Nat} {μ : Mm}, 101 = x + m → (∀ y, y < 101 → μ.2 51 0 y = lN (T y)) → (∀ y, y < x → μ.2 50 0 y = lN (T y)) → (∀ μ1, (∀ y, y < 101 → μ1.2 50 0 y = lN (T y)) → FK 50 (fun _ _ => True) μ μ1 → (if x5 = 0 then SS G m_Mo_odds 60 [vr 7 0, vi x1, vl (l2 * 10), un, vi (x4 + 1), un, un, un, un] [] μ1 (RI K) else SS G m_Mo_odds 60 [vr 7 0, vi x1, vl (l2 * 1), un, vi (x4 + 1), un, un, un, un] [] μ1 (RI K))) → SS G m_Mo_odds 211 [vr 7 0, vi x1, vl l2, un, vi x4, vi x5, vi (nI x), un, un] [] μ (RI K)
  | 0, x, μ, e, h1, h0, hK => b_Mo_odds_211 _ _ _ _ _ (iT (nI_le (a := 101) (by omega) (by omega)) (hK μ (fun y hy => h0 y (by omega)) FK.rf))
  | m + 1, x, μ, e, h1, h0, hK => by
    refine b_Mo_odds_211 _ _ _ _ _ (iF (nI_ge (b := 101) (by omega) (by omega)) ⟨in_nI (by omega) (by decide), in_nI (by omega) (by decide), ?_⟩)
    rw [nI_tn (by omega), nI_1, h1 x (by omega)]
    have F1 : FK 50 (fun _ _ => True) μ (wL μ 50 0 x (lN (T x))) := FK.rf.wL trivial
    refine oz211 m (by omega) (fun y hy => by rw [F1.lk _ _ (by decide)]; exact h1 y hy) (fun y hy => ?_) fun μ1 k1 k2 => hK μ1 k1 (F1.tr k2)
    by_cases e2 : y = x
    · subst e2
      exact wL_s _ _ _ _ _
    · rw [wL_n _ _ _ _ e2]
      exact h0 y (by omega)
theorem oz115f (eN : N = 101) {x4 : Int32} {l2 : Int64} {D : Nat → Nat} (hH : HI H) (hh : h < hn H) : ∀ (m : Nat) {e : Nat} {T : Nat → Nat} {μ : Mm}, 10 = e + m → Ms H c μ → (∀ y, y < 101 → μ.2 50 0 y = lN (D y)) → (∀ y, y < 101 → μ.2 51 0 y = lN (T y)) → (∀ g, lam N g T = sm (fun e => sm (fun l => D l * g (l - cap (hk H h) e)) N) e) → (∀ (μ1 : Mm) (T1 : Nat → Nat), (∀ y, y < 101 → μ1.2 50 0 y = lN (T1 y)) → (∀ g, lam N g T1 = sm (fun e => sm (fun l => D l * g (l - cap (hk H h) e)) N) 10) → Fa (L1 11) μ μ1 → SS G m_Mo_odds 60 [vr 7 0, vi (nI h), vl (l2 * 10), un, vi (x4 + 1), un, un, un, un] [] μ1 (RI K)) → SS G m_Mo_odds 115 [vr 7 0, vi (nI h), vl l2, un, vi x4, vi 0, vi (nI e), un, un] [] μ (RI K)
  | 0, e, T, μ, ee, hM, h1, h0, hT, hK => by
    have : e = 10 := by omega
    subst this
    refine b_Mo_odds_115 _ _ _ _ _ (i0 (iT (by decide) (oz211 (T := T) (x := 0) 101 rfl h0 (fun y hy => absurd hy (by omega)) fun μ1 k1 k2 => i0 (hK μ1 T k1 hT (k2.fa (L := L1 11) (fun _ _ => rfl))))))
  | m + 1, e, T, μ, ee, hM, h1, h0, hT, hK => by
    have b1 := hH.1
    have hcap := cap_le (k := hk H h) (c := e)
    refine b_Mo_odds_115 _ _ _ _ _ (i0 (iF (nI_ge (b := 10) (by omega) (by decide)) (i0 (canIn_s (by omega) (hM.1.2.2 h hh).1 (hH.2.2.2 h hh).1 (by omega) ?_))))
    refine oz158 eN (x := 0) (T0 := T) (by omega) 101 rfl h1 h0 (fun g => rfl) fun μ1 T1 k1 k2 k3 => ?_
    rw [nI_1]
    have F1 := k3.fa (L := L1 11) (fun _ _ => rfl)
    refine oz115f eN hH hh m (e := e + 1) (T := T1) (by omega) (hM.fa F1 rfl) (fun y hy => by rw [k3.lk _ _ (by decide)]; exact h1 y hy) k1 (fun g => ?_) fun μ2 T2 j1 j2 j3 => hK μ2 T2 j1 j2 (F1.tr j3)
    rw [k2 g, hT g]
    rfl
theorem oz60f (eN : N = 101) {U n0 : Nat} (hH : HI H) (hc : CI H c) (hh : h < hn H) : ∀ (d : Nat) {t j : Nat} {D : Nat → Nat} {μ : Mm}, hN H = t + d → vt (cs H c) < t → j + d = n0 → Ms H c μ → (∀ y, y < 101 → μ.2 50 0 y = lN (D y)) → lam N (Gq (hk H h) d) D = U → (∀ μ1, Fa (L1 11) μ μ1 → CS G m_Mo_fraction [vr 7 0, vl (lN U), vl (lN (10 ^ n0))] μ1 (RI K)) → SS G m_Mo_odds 60 [vr 7 0, vi (nI h), vl (lN (10 ^ j)), un, vi (nI t), un, un, un, un] [] μ (RI K)
  | 0, t, j, D, μ, et, hv, ej, hM, h1, hU, hK => by
    have b2 := hH.2.1
    refine b_Mo_odds_60 _ _ _ ?_
    rw [hM.1.2.1, show Int32.toNatClampNeg 0 = 0 from rfl, h1 0 (by decide)]
    have hU : lam N dl0 D = U := hU
    rw [lam_0 (by omega)] at hU
    refine iLeT (by omega) (by omega) ⟨in_nI (n := 0) (by decide) (by decide), ?_⟩
    rw [hU, show j = n0 by omega]
    exact hK μ Fa.rf
  | d + 1, t, j, D, μ, et, hv, ej, hM, h1, hU, hK => by
    have b2 := hH.2.1
    refine b_Mo_odds_60 _ _ _ ?_
    rw [hM.1.2.1, show Int32.toNatClampNeg 15 = 15 from rfl, hM.2.2.2.1.1]
    refine iLeF (by omega) (by omega) ⟨in_nI (n := 15) (by decide) (by decide), iEqF (by omega) (by omega) (by omega) ?_⟩
    refine oz91 (x := 0) 101 rfl (fun y hy => absurd hy (by omega)) fun μ1 k1 k2 => ?_
    have F1 := k2.fa (L := L1 11) (fun _ _ => rfl)
    refine oz115f eN (e := 0) (T := fun _ => 0) (D := D) hH hh 10 rfl (hM.fa F1 rfl) (fun y hy => by rw [k2.lk _ _ (by decide)]; exact h1 y hy) k1 (fun g => ?_) fun μ2 T1 j1 j2 F2 => ?_
    · exact sm_z fun l _ => Nat.zero_mul _
    · rw [l10, nI_1]
      refine oz60f eN (U := U) (n0 := n0) hH hc hh d (t := t + 1) (j := j + 1) (D := T1) (by omega) (by omega) (by omega) (hM.fa (F1.tr F2) rfl) j1 ?_ fun μ3 F3 => hK μ3 ((F1.tr F2).tr F3)
      rw [lam_G j2]
      exact hU
theorem oz60 (eN : N = 101) {D : Nat → Nat} (hH : HI H) (hc : CI H c) (hh : h < hn H) (hM : Ms H c μ) (h1 : ∀ y, y < 101 → μ.2 50 0 y = lN (D y)) (hD : ∀ g, lam N g D = g (vo (cs H c) h)) (hK : ∀ μ1, Fa (L1 11) μ μ1 → CS G m_Mo_fraction [vr 7 0, vl (lN (odU H c h)), vl (lN (10 ^ (hN H - (vt (cs H c) + 1))))] μ1 (RI K)) : SS G m_Mo_odds 60 [vr 7 0, vi (nI h), vl 1, un, vi (nI (vt (cs H c))), un, un, un, un] [] μ (RI K) := by
  have b2 := hH.2.1
  have hv := (SI_now hH hc).1
  by_cases q : vt (cs H c) < hN H
  · have ht9 : tp H c (cs H c) h (vt (cs H c)) ≤ 9 := Nat.le_trans tp_le (hc.2.1 _ q)
    refine b_Mo_odds_60 _ _ _ ?_
    rw [hM.1.2.1, show Int32.toNatClampNeg 15 = 15 from rfl, hM.2.2.2.1.1]
    refine iLeF (by omega) (by omega) ⟨in_nI (n := 15) (by decide) (by decide), iT rfl ?_⟩
    refine oz91 (x := 0) 101 rfl (fun y hy => absurd hy (by omega)) fun μ1 k1 k2 => ?_
    have F1 := k2.fa (L := L1 11) (fun _ _ => rfl)
    have hM1 := hM.fa F1 rfl
    refine b_Mo_odds_115 _ _ _ _ _ (i1 (iF (by decide) (i1 (canOn_s hM1 hH hc hh q ?_))))
    refine oz158 eN (x := 0) (D := D) (T := fun _ => 0) (T0 := fun _ => 0) ht9 101 rfl (fun y hy => by rw [k2.lk _ _ (by decide)]; exact h1 y hy) k1 (fun g => rfl) fun μ2 T1 j1 j2 j3 => ?_
    have F2 := F1.tr (j3.fa (L := L1 11) (fun _ _ => rfl))
    refine b_Mo_odds_115 _ _ _ _ _ (i1 (iT (by decide) (oz211 (T := T1) (x := 0) 101 rfl j1 (fun y hy => absurd hy (by omega)) fun μ3 w1 w2 => i1 ?_)))
    have F3 := F2.tr (w2.fa (L := L1 11) (fun _ _ => rfl))
    rw [nI_1]
    refine oz60f eN (U := odU H c h) (n0 := hN H - (vt (cs H c) + 1)) hH hc hh (hN H - (vt (cs H c) + 1)) (j := 0) (D := T1) (by omega) (by omega) (by omega) (hM.fa F3 rfl) w1 ?_ fun μ4 F4 => hK μ4 (F3.tr F4)
    rw [j2]
    have z : lam N (Gq (hk H h) (hN H - (vt (cs H c) + 1))) (fun _ => 0) = 0 := sm_z fun l _ => Nat.zero_mul _
    have e1 := hD (fun l => Gq (hk H h) (hN H - (vt (cs H c) + 1)) (l - tp H c (cs H c) h (vt (cs H c))))
    unfold odU
    rw [z, Nat.zero_add, show tn H c h = tp H c (cs H c) h (vt (cs H c)) from if_pos q]
    exact e1
  · have hk := hK μ Fa.rf
    unfold odU at hk
    rw [show tn H c h = 0 from if_neg q, show hN H - (vt (cs H c) + 1) = 0 by omega, Nat.sub_zero] at hk
    have hk : CS G m_Mo_fraction [vr 7 0, vl (lN (dl0 (vo (cs H c) h))), vl (lN 1)] μ (RI K) := hk
    refine b_Mo_odds_60 _ _ _ ?_
    rw [hM.1.2.1, show Int32.toNatClampNeg 0 = 0 from rfl, h1 0 (by decide), ← lam_0 (D := D) (n := N) (by omega), hD]
    exact iLeT (by omega) (by omega) ⟨in_nI (n := 0) (by decide) (by decide), hk⟩
theorem oz15 (eN : N = 101) (hH : HI H) (hc : CI H c) (hh : h < hn H) (hK : ∀ μ1, Fa (L1 11) μ μ1 → CS G m_Mo_fraction [vr 7 0, vl (lN (odU H c h)), vl (lN (10 ^ (hN H - (vt (cs H c) + 1))))] μ1 (RI K)) : ∀ (m : Nat) {x : Nat} {μ2 : Mm}, 101 = x + m → Ms H c μ2 → Fa (L1 11) μ μ2 → (∀ y, y < x → μ2.2 50 0 y = lN (if y = vo (cs H c) h then 1 else 0)) → SS G m_Mo_odds 15 [vr 7 0, vi (nI h), vl 1, un, vi (nI x), un, un, un, un] [] μ2 (RI K)
  | 0, x, μ2, e, hM, F, h0 => by
    have ho := (SI_now hH hc).owes hh
    refine b_Mo_odds_15 _ _ _ (iT (nI_le (a := 101) (by omega) (by omega)) ⟨in_nI (n := 15) (by decide) (by decide), ?_⟩)
    rw [show Int32.toNatClampNeg 15 = 15 from rfl, hM.2.2.2.1.1]
    refine oz60 eN (D := fun y => if y = vo (cs H c) h then 1 else 0) hH hc hh hM (fun y hy => h0 y (by omega)) (fun g => ?_) fun μ3 F3 => hK μ3 (F.tr F3)
    have := lam_uf (n := N) (g := g) (T := fun _ => 0) (w := vo (cs H c) h) (v := 1) (by omega)
    rw [show lam N g (fun _ => 0) = 0 from sm_z fun l _ => Nat.zero_mul _, Nat.zero_add, Nat.one_mul, Nat.zero_add] at this
    exact this
  | m + 1, x, μ2, e, hM, F, h0 => by
    have b1 := hH.1
    have ho := (SI_now hH hc).owes hh
    have go : ∀ v : Int64, v = lN (if x = vo (cs H c) h then 1 else 0) → SS G m_Mo_odds 15 [vr 7 0, vi (nI h), vl 1, un, vi (nI (x + 1)), un, un, un, un] [] (wL μ2 50 0 x v) (RI K) := by
      intro v hv
      have F1 : FK 50 (fun _ _ => True) μ2 (wL μ2 50 0 x v) := FK.rf.wL trivial
      have F2 := F1.fa (L := L1 11) (fun _ _ => rfl)
      refine oz15 eN hH hc hh hK m (by omega) (hM.fa F2 rfl) (F.tr F2) (fun y hy => ?_)
      by_cases e2 : y = x
      · subst e2
        rw [wL_s]
        exact hv
      · rw [wL_n _ _ _ _ e2]
        exact h0 y (by omega)
    refine b_Mo_odds_15 _ _ _ (iF (nI_ge (b := 101) (by omega) (by omega)) ⟨in_nI (by omega) (by decide), ?_⟩)
    rw [nI_tn (n := h) (by omega), (hM.2.2.2.1.2 h hh).1, nI_tn (n := x) (by omega), nI_1]
    refine iEq (by omega) (by omega) (fun q => ⟨in_nI (by omega) (by decide), go _ ?_⟩) fun q => ⟨in_nI (by omega) (by decide), go _ ?_⟩
    · rw [if_pos q]
      rfl
    · rw [if_neg q]
      rfl
theorem two_odds (x1 : Int32) : Two G m_Cs_odds m_Mo_odds [vr 6 0, vi x1] [vr 7 0, vi x1] := by
  intro μ L ⟨a, hA, hC, hM⟩ hL
  have hH := hA.2.2.1
  have hc := hA.2.2.2.1
  have b1 := hH.1
  have b2 := hH.2.1
  by_cases h1 : rg x1 (hn (aH a))
  · obtain ⟨h, hh, rfl⟩ := h1
    have hS := hC.2.2.2.1
    have p1 : 10 ^ (hN (aH a) - (vt (cs (aH a) (aC a)) + 1)) ≤ 10 ^ 7 := Nat.pow_le_pow_right (by decide) (by omega)
    have p0 : 0 < 10 ^ (hN (aH a) - (vt (cs (aH a) (aC a)) + 1)) := Nat.pow_pos (by decide)
    have p2 : odU (aH a) (aC a) h ≤ 10 ^ (hN (aH a) - (vt (cs (aH a) (aC a)) + 1)) := Gq_le _ _ _
    have hS2 : 10 ^ 7 < 2 ^ 40 := by decide
    refine c_Cs_odds _ (noHouse_T hS.1.1 (by omega) hh (i0 (begin_s fun μ1 g1 F1 => ?_)))
    have hS1 := hS.fa hH F1 rfl
    rw [hS1.2.2.1, nI_1]
    refine od30 (j := 0) hH hc hh _ (Nat.zero_add _) hS1 g1 fun μ2 F2 => ?_
    have T2 := F1.tr F2
    refine both_tell (by omega) p0 (by omega) hA (hC.fa hA T2 L1_5) (hM.fa T2 (L1_M (by decide))) hL fun μ3 K1 hM3 h => ?_
    have hS3 := hM3.2.2.2.1
    exact c_Mo_odds _ (isHouse_T hS3.1.1 (by omega) hh (i1 (oz15 (N := 101) rfl (x := 0) hH hc hh (fun μ4 F4 => h μ4 (hM3.fa F4 L1_W) F4) 101 rfl hS3 Fa.rf (fun y hy => absurd hy (by omega)))))
  · exact c_Cs_odds _ (noHouse_F hC.2.2.2.1.1.1 (by omega) h1 (i1 (c_Mo_odds _ (isHouse_F hM.2.2.2.1.1.1 (by omega) h1 (i0 (hL _ _ ⟨a, hA, hC, hM⟩))))))
end P62
