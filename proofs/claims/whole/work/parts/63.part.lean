/-! part -/
def bitC (x0 : Int32) : Int32 := (((((((x0 - ((Int32.toUInt32 x0 >>> (Int32.toUInt32 1 &&& Int32.toUInt32 31)).toInt32 &&& 1431655765)) &&& 858993459) + ((Int32.toUInt32 (x0 - ((Int32.toUInt32 x0 >>> (Int32.toUInt32 1 &&& Int32.toUInt32 31)).toInt32 &&& 1431655765)) >>> (Int32.toUInt32 2 &&& Int32.toUInt32 31)).toInt32 &&& 858993459)) + (Int32.toUInt32 (((x0 - ((Int32.toUInt32 x0 >>> (Int32.toUInt32 1 &&& Int32.toUInt32 31)).toInt32 &&& 1431655765)) &&& 858993459) + ((Int32.toUInt32 (x0 - ((Int32.toUInt32 x0 >>> (Int32.toUInt32 1 &&& Int32.toUInt32 31)).toInt32 &&& 1431655765)) >>> (Int32.toUInt32 2 &&& Int32.toUInt32 31)).toInt32 &&& 858993459)) >>> (Int32.toUInt32 4 &&& Int32.toUInt32 31)).toInt32) &&& 252645135) + (Int32.toUInt32 (((((x0 - ((Int32.toUInt32 x0 >>> (Int32.toUInt32 1 &&& Int32.toUInt32 31)).toInt32 &&& 1431655765)) &&& 858993459) + ((Int32.toUInt32 (x0 - ((Int32.toUInt32 x0 >>> (Int32.toUInt32 1 &&& Int32.toUInt32 31)).toInt32 &&& 1431655765)) >>> (Int32.toUInt32 2 &&& Int32.toUInt32 31)).toInt32 &&& 858993459)) + (Int32.toUInt32 (((x0 - ((Int32.toUInt32 x0 >>> (Int32.toUInt32 1 &&& Int32.toUInt32 31)).toInt32 &&& 1431655765)) &&& 858993459) + ((Int32.toUInt32 (x0 - ((Int32.toUInt32 x0 >>> (Int32.toUInt32 1 &&& Int32.toUInt32 31)).toInt32 &&& 1431655765)) >>> (Int32.toUInt32 2 &&& Int32.toUInt32 31)).toInt32 &&& 858993459)) >>> (Int32.toUInt32 4 &&& Int32.toUInt32 31)).toInt32) &&& 252645135) >>> (Int32.toUInt32 8 &&& Int32.toUInt32 31)).toInt32) + (Int32.toUInt32 ((((((x0 - ((Int32.toUInt32 x0 >>> (Int32.toUInt32 1 &&& Int32.toUInt32 31)).toInt32 &&& 1431655765)) &&& 858993459) + ((Int32.toUInt32 (x0 - ((Int32.toUInt32 x0 >>> (Int32.toUInt32 1 &&& Int32.toUInt32 31)).toInt32 &&& 1431655765)) >>> (Int32.toUInt32 2 &&& Int32.toUInt32 31)).toInt32 &&& 858993459)) + (Int32.toUInt32 (((x0 - ((Int32.toUInt32 x0 >>> (Int32.toUInt32 1 &&& Int32.toUInt32 31)).toInt32 &&& 1431655765)) &&& 858993459) + ((Int32.toUInt32 (x0 - ((Int32.toUInt32 x0 >>> (Int32.toUInt32 1 &&& Int32.toUInt32 31)).toInt32 &&& 1431655765)) >>> (Int32.toUInt32 2 &&& Int32.toUInt32 31)).toInt32 &&& 858993459)) >>> (Int32.toUInt32 4 &&& Int32.toUInt32 31)).toInt32) &&& 252645135) + (Int32.toUInt32 (((((x0 - ((Int32.toUInt32 x0 >>> (Int32.toUInt32 1 &&& Int32.toUInt32 31)).toInt32 &&& 1431655765)) &&& 858993459) + ((Int32.toUInt32 (x0 - ((Int32.toUInt32 x0 >>> (Int32.toUInt32 1 &&& Int32.toUInt32 31)).toInt32 &&& 1431655765)) >>> (Int32.toUInt32 2 &&& Int32.toUInt32 31)).toInt32 &&& 858993459)) + (Int32.toUInt32 (((x0 - ((Int32.toUInt32 x0 >>> (Int32.toUInt32 1 &&& Int32.toUInt32 31)).toInt32 &&& 1431655765)) &&& 858993459) + ((Int32.toUInt32 (x0 - ((Int32.toUInt32 x0 >>> (Int32.toUInt32 1 &&& Int32.toUInt32 31)).toInt32 &&& 1431655765)) >>> (Int32.toUInt32 2 &&& Int32.toUInt32 31)).toInt32 &&& 858993459)) >>> (Int32.toUInt32 4 &&& Int32.toUInt32 31)).toInt32) &&& 252645135) >>> (Int32.toUInt32 8 &&& Int32.toUInt32 31)).toInt32) >>> (Int32.toUInt32 16 &&& Int32.toUInt32 31)).toInt32) &&& 63
def bc (S : Nat) : Nat := S % 2 + S / 2 % 2 + S / 4 % 2 + S / 8 % 2 + S / 16 % 2
def kb (S : Nat) : Nat := S &&& (S - 1)
def fct (q : Nat) : Nat := match q with
  | 0 => 1
  | 1 => 1
  | 2 => 2
  | 3 => 6
  | 4 => 24
  | _ => 120
theorem bitC_d : ∀ S, S < 32 → bitC (nI S) = nI (bc S) := by decide +kernel
theorem kb_1 : ∀ S, S < 32 → S ≠ 0 → (nI S &&& (nI S - 1)) = nI (kb S) := by decide +kernel
theorem kb_2 : ∀ S, S < 32 → kb S < 32 := by decide +kernel
theorem kb_3 : ∀ S, S < 32 → S ≠ 0 → bc S = bc (kb S) + 1 := by decide +kernel
theorem bc_0 : ∀ S, S < 32 → bc S = 0 → S = 0 := by decide +kernel
theorem fct_d : ∀ q, q < 6 → rom 56 q = nI (fct q) := by decide +kernel
theorem fct_le (q : Nat) : 0 < fct q ∧ fct q ≤ 120 := by
  unfold fct
  split <;> decide
/-! sets -/
theorem bs_d : ∀ t, t < 16 → ∀ h, h < 5 → (nI t <<< (nI (h + 1) &&& 31)) = nI (t * 2 ^ (h + 1)) := by decide +kernel
theorem bs_e : ∀ S, S < 32 → ∀ h, h < 5 → hb S h = false → (nI S ||| (1 <<< (nI h &&& 31))) = nI (S + 2 ^ h) := by decide +kernel
theorem bs_f : ∀ S, S < 32 → ∀ h, h < 5 → hiS S (h + 1) = S → hb S h = false := by decide +kernel
theorem bs_k : ∀ S, S < 32 → ∀ h, h < 5 → hb S h = false → hb (S + 2 ^ h) h = true := by decide +kernel
theorem bs_g : ∀ S, S < 32 → ∀ h, h < 5 → hiS S h = S → hb S h = true → S = S / 2 ^ (h + 1) * 2 ^ (h + 1) + 2 ^ h := by decide +kernel
theorem bs_ja : ∀ S, S < 32 → ∀ q, q < 25 → hb S (q / 5) = false → q % 5 ≠ q / 5 → hb (S + 2 ^ (q / 5)) (q % 5) = hb S (q % 5) := by decide +kernel
theorem bs_j {S h g : Nat} (hS : S < 32) (hh : h < 5) (hg : g < 5) (h0 : hb S h = false) (hne : g ≠ h) : hb (S + 2 ^ h) g = hb S g := by
  have := bs_ja S hS (5 * h + g) (by omega)
  rw [show (5 * h + g) / 5 = h by omega, show (5 * h + g) % 5 = g by omega] at this
  exact this h0 hne
theorem bs_la : ∀ n, n < 6 → ∀ q, q < 160 → q / 5 < 2 ^ n → q % 5 < n → hb (q / 5) (q % 5) = false → q / 5 + 2 ^ (q % 5) < 2 ^ n := by decide +kernel
theorem bs_l {n S h : Nat} (hn : n < 6) (hS : S < 2 ^ n) (hh : h < n) (h0 : hb S h = false) : S + 2 ^ h < 2 ^ n := by
  have p5 := pow5 (n := n) (by omega)
  have := bs_la n hn (5 * S + h) (by omega)
  rw [show (5 * S + h) / 5 = S by omega, show (5 * S + h) % 5 = h by omega] at this
  exact this hS hh h0
theorem bs_ia : ∀ n, n < 6 → ∀ q, q < 160 → q / 5 < 2 ^ n → q % 5 < n → hb (q / 5) (q % 5) = false → bc (q / 5) + 1 ≤ n := by decide +kernel
theorem bs_i {n S h : Nat} (hn : n < 6) (hS : S < 2 ^ n) (hh : h < n) (h0 : hb S h = false) : bc S + 1 ≤ n := by
  have p5 := pow5 (n := n) (by omega)
  have := bs_ia n hn (5 * S + h) (by omega)
  rw [show (5 * S + h) / 5 = S by omega, show (5 * S + h) % 5 = h by omega] at this
  exact this hS hh h0
theorem hbf {S h : Nat} (q : ¬ hb S h = true) : hb S h = false := by
  cases z : hb S h
  · rfl
  · exact absurd z q
section P63
variable {G : Ge} {μ : Mm} {K : Int32 → Mm → Prop} {V : Mm → Prop} {H : Hs} {c : Sc} {h : Nat}
def PS (H : Hs) (c : Sc) (S h : Nat) (μ : Mm) : Prop := ∀ x, x < 47 → μ.1 16 (14 + S) x = nI (eN 1000000 (QH (AA H c) (hn H) S h x))
theorem po26 (hH : HI H) (hc : CI H c) (hh : h < hn H) : ∀ (m : Nat) {t : Nat} {μ : Mm}, 2 ^ (hn H - 1 - h) = t + m → (∀ g, g < hn H → Al H c g μ) → (∀ S, S < 2 ^ hn H → hiS S (h + 1) = S → PS H c S (h + 1) μ) → (∀ t', t' < t → PS H c (t' * 2 ^ (h + 1) + 2 ^ h) h μ) → (∀ μ1, (∀ S, S < 2 ^ hn H → hiS S (h + 1) = S → PS H c S (h + 1) μ1) → (∀ t', t' < 2 ^ (hn H - 1 - h) → PS H c (t' * 2 ^ (h + 1) + 2 ^ h) h μ1) → FK 16 (fun j _ => 14 ≤ j) μ μ1 → SS G m_Pl_poolAllSets 13 [vr 1 0, vi (nI (hn H)), vi (nI h - 1), un, un] [] μ1 (RV V)) → SS G m_Pl_poolAllSets 26 [vr 1 0, vi (nI (hn H)), vi (nI h), vi (nI (hn H - 1 - h)), vi (nI t)] [] μ (RV V)
  | 0, t, μ, e, hA, h1, h0, hK => by
    have b1 := hH.1
    have p5 := pow5 (n := hn H - 1 - h) (by omega)
    refine b_Pl_poolAllSets_26 _ _ _ _ ?_
    rw [all_1 _ (by omega), nI_a1]
    exact iLeT (by omega) (by omega) (hK μ h1 (fun t' ht => h0 t' (by omega)) FK.rf)
  | m + 1, t, μ, e, hA, h1, h0, hK => by
    have b1 := hH.1
    have p5 := pow5 (n := hn H - 1 - h) (by omega)
    have p6 := pow5 b1
    have pn : 2 ^ hn H = 2 ^ (hn H - 1 - h) * 2 ^ (h + 1) := by rw [← Nat.pow_add, show hn H - 1 - h + (h + 1) = hn H by omega]
    have pt : (t + 1) * 2 ^ (h + 1) ≤ 2 ^ hn H := by
      rw [pn]
      exact Nat.mul_le_mul_right _ (by omega)
    have pp : 2 ^ (h + 1) = 2 * 2 ^ h := by rw [Nat.pow_succ, Nat.mul_comm]
    have p0 : 0 < 2 ^ h := Nat.pow_pos (by decide)
    rw [Nat.add_mul, Nat.one_mul] at pt
    have t16 : t < 16 := by
      by_cases z : 16 ≤ t
      · have : 16 * 2 ^ (h + 1) ≤ t * 2 ^ (h + 1) := Nat.mul_le_mul_right _ z
        omega
      · omega
    have hS0 : hiS (t * 2 ^ (h + 1)) (h + 1) = t * 2 ^ (h + 1) := by
      unfold hiS
      rw [Nat.mul_div_cancel _ (by omega)]
    obtain ⟨S0, eS⟩ : ∃ S0, S0 = t * 2 ^ (h + 1) := ⟨_, rfl⟩
    have hb0 := bs_f S0 (by omega) h (by omega) (by rw [eS]; exact hS0)
    refine b_Pl_poolAllSets_26 _ _ _ _ ?_
    rw [all_1 _ (by omega), nI_1 h, nI_1 t, bs_d t t16 h (by omega), ← eS]
    refine iLeF (by omega) (by omega) (join_s (s := S0) (s2 := S0 + 2 ^ h) (A := AA H c h) (L := QH (AA H c) (hn H) S0 (h + 1)) (by omega) (by omega) (by omega) (by omega) (bs_e S0 (by omega) h (by omega) hb0) (AA_B hH hc h) (fun y => QH_B (AA_B hH hc) b1) (hA h hh) (h1 S0 (by omega) (by rw [eS]; exact hS0)) fun μ1 g1 g2 => ?_)
    refine po26 hH hc hh m (t := t + 1) (by omega) (fun g hg y hy => ?_) (fun S hS hSS y hy => ?_) (fun t' ht y hy => ?_) fun μ2 k1 k2 k3 => hK μ2 k1 k2 ((g2.mono fun i _ z => by omega).tr k3)
    · rw [g2.i _ _ (by omega)]
      exact hA g hg y hy
    · rw [g2.i _ _ (fun z => ?_)]
      · exact h1 S hS hSS y hy
      · have e1 := bs_f S (by omega) h (by omega) hSS
        rw [show S = S0 + 2 ^ h by omega, bs_k S0 (by omega) h (by omega) hb0] at e1
        cases e1
    · by_cases z : t' = t
      · subst z
        rw [← eS, g1 y hy, QH_s hh, if_pos (bs_k S0 (by omega) h (by omega) hb0), show (QH (AA H c) (hn H) (S0 + 2 ^ h) (h + 1)) = QH (AA H c) (hn H) S0 (h + 1) from funext fun y => QH_cong fun g ga gb => bs_j (by omega) (by omega) (by omega) hb0 (by omega)]
      · have : t' * 2 ^ (h + 1) + 2 ^ (h + 1) ≤ t * 2 ^ (h + 1) := by
          have := Nat.mul_le_mul_right (2 ^ (h + 1)) (show t' + 1 ≤ t by omega)
          rw [Nat.add_mul, Nat.one_mul] at this
          exact this
        rw [g2.i _ _ (by omega)]
        exact h0 t' (by omega) y hy
theorem po13 (hH : HI H) (hc : CI H c) : ∀ (h : Nat) {μ : Mm}, h ≤ hn H → (∀ g, g < hn H → Al H c g μ) → (∀ S, S < 2 ^ hn H → hiS S h = S → PS H c S h μ) → (∀ μ1, (∀ S, S < 2 ^ hn H → PS H c S 0 μ1) → FK 16 (fun j _ => 14 ≤ j) μ μ1 → V μ1) → SS G m_Pl_poolAllSets 13 [vr 1 0, vi (nI (hn H)), vi (nI h - 1), un, un] [] μ (RV V)
  | 0, μ, hh, hA, h1, hK => b_Pl_poolAllSets_13 _ _ (iT (by rw [neg_sub1]; decide) (hK μ (fun S hS => h1 S hS (hi_0 S)) FK.rf))
  | h + 1, μ, hh, hA, h1, hK => by
    have b1 := hH.1
    have p6 := pow5 b1
    have pn : 2 ^ hn H = 2 ^ (h + 1) * 2 ^ (hn H - 1 - h) := by rw [← Nat.pow_add, show h + 1 + (hn H - 1 - h) = hn H by omega]
    rw [nI_pred]
    refine b_Pl_poolAllSets_13 _ _ (iNl (by omega) ?_)
    rw [show nI (hn H) - 1 = nI (hn H - 1) from nI_sub (b := 1) (by omega), nI_sub (a := hn H - 1) (b := h) (by omega)]
    refine po26 (t := 0) hH hc (by omega) (2 ^ (hn H - 1 - h)) (by omega) hA h1 (fun t' ht => absurd ht (by omega)) fun μ1 k1 k2 k3 => ?_
    refine po13 hH hc h (by omega) (fun g hg y hy => ?_) (fun S hS hSS => ?_) fun μ2 j1 j2 => hK μ2 j1 (k3.tr j2)
    · rw [k3.i _ _ (by omega)]
      exact hA g hg y hy
    · by_cases q : hb S h = true
      · have e1 := bs_g S (by omega) h (by omega) hSS q
        have e2 : S / 2 ^ (h + 1) < 2 ^ (hn H - 1 - h) := Nat.div_lt_of_lt_mul (by rw [← pn]; exact hS)
        have e3 := k2 _ e2
        rw [← e1] at e3
        exact e3
      · have e1 := hi_2 S (by omega) h (by omega) (hbf q)
        intro y hy
        rw [QH_s (by omega), if_neg q]
        exact k1 S hS (by rw [e1]; exact hSS) y hy
theorem poolAll_s (hH : HI H) (hc : CI H c) (hA : ∀ g, g < hn H → Al H c g μ) (hK : ∀ μ1, (∀ S, S < 2 ^ hn H → PS H c S 0 μ1) → FK 16 (fun j _ => 14 ≤ j) μ μ1 → V μ1) : CS G m_Pl_poolAllSets [vr 1 0, vi (nI (hn H))] μ (RV V) := by
  have b1 := hH.1
  refine c_Pl_poolAllSets _ ⟨in_nI (n := 0) (by decide) (by decide), ?_⟩
  rw [show Int32.toNatClampNeg 0 = 0 from rfl]
  refine bearN fun μ1 g1 g2 => po13 hH hc (hn H) (Nat.le_refl _) (fun g hg y hy => ?_) (fun S hS hSS y hy => ?_) fun μ2 k1 k2 => hK μ2 k1 ((g2.mono fun i _ z => by omega).tr k2)
  · rw [g2.i _ _ (by omega)]
    exact hA g hg y hy
  · rw [hi_4 _ (by omega) S hS] at hSS
    rw [← hSS, QH_n]
    exact g1 y hy
theorem savedBy_s {S : Nat} (hH : HI H) (hc : CI H c) (hS : S < 2 ^ hn H) (hal : ∀ g, g < hn H → ∃ u, own H c g = some u) (hC : Cs H c μ) (hA : ∀ g, g < hn H → Al H c g μ) (hP : ∀ S, S < 2 ^ hn H → PS H c S 0 μ) (hK : K (sv2 H c S) μ) : CS G m_Cs_savedBy [vr 6 0, vi (nI S)] μ (RI K) := by
  have b1 := hH.1
  have p6 := pow5 b1
  obtain ⟨v, hv⟩ := alO_m (o := own H c) (s := S) (n := hn H) (fun g a _ => hal g a)
  obtain ⟨w, hw⟩ := all_q hH hc hv
  have ho := ow_le (S := S) hH hc
  refine c_Cs_savedBy _ (painAlone_s hH hc (by omega) hC hA (owedBy_C hC hH (by omega) (pooled_s (by omega) (by omega) ?_)))
  rw [alO_v (F := 1000000) hv, hP S hS _ (by omega), hw]
  unfold sv2 at hK
  rw [hv, hw] at hK
  exact hK
theorem dif4 {v a w w2 : Nat} (h1 : v < 100000) (h2 : a < 100000) (h3 : w < 100000) (h4 : w2 < 100000) (h : w2 ≤ w + a) : nI (v + a) - nI w2 - (nI v - nI w) = nI (a + w - w2) := by
  apply Int32.toInt_inj.mp
  rw [Int32.toInt_sub, sub_toInt (by omega) (by omega), sub_toInt (by omega) (by omega), nI_toInt (by omega)]
  rw [Int.bmod_eq_of_le (by omega) (by omega)]
  omega
theorem sv_dif {S : Nat} (hH : HI H) (hc : CI H c) (hS : S < 2 ^ hn H) (hh : h < hn H) (h0 : hb S h = false) (hal : ∀ g, g < hn H → ∃ u, own H c g = some u) : ∃ d, d ≤ 7776 ∧ sv2 H c (S + 2 ^ h) - sv2 H c S = nI d := by
  have b1 := hH.1
  have p6 := pow5 b1
  have hS2 := bs_l (by omega) hS hh h0
  have ho := (SI_now hH hc).owes hh
  obtain ⟨a, ha⟩ := hal h hh
  have ab : a ≤ 1296 := LL_B hH hc _ a ha
  have k1 := bs_k S (by omega) h (by omega) h0
  have k2 : ∀ g, g < hn H → g ≠ h → hb (S + 2 ^ h) g = hb S g := fun g hg hne => bs_j (by omega) (by omega) (by omega) h0 hne
  have su : ∀ f : Nat → Nat, sm (f01 (S + 2 ^ h) f) (hn H) = sm (f01 S f) (hn H) + f h := by
    intro f
    have e1 : sm (f01 (S + 2 ^ h) f) (hn H) = sm (uf (f01 S f) h (f h)) (hn H) := sm_cong fun g hg => by
      by_cases z : g = h
      · subst z
        rw [uf_s]
        exact if_pos k1
      · rw [uf_n z]
        show (if hb (S + 2 ^ h) g = true then f g else 0) = if hb S g = true then f g else 0
        rw [k2 g hg z]
    have e2 := sm_uf (f := f01 S f) (v := f h) hh
    rw [show f01 S f h = 0 from if_neg (by rw [h0]; decide)] at e2
    rw [e1]
    omega
  obtain ⟨v, hv⟩ := alO_m (o := own H c) (s := S) (n := hn H) (fun g a _ => hal g a)
  obtain ⟨v2, hv2⟩ := alO_m (o := own H c) (s := S + 2 ^ h) (n := hn H) (fun g a _ => hal g a)
  have vb := alO_B (fun g => LL_B hH hc _) hv
  obtain ⟨w, hw⟩ := all_q hH hc hv
  have wb : w ≤ 6480 := QH_B (AA_B hH hc) b1 w hw
  have ev : v2 = v + a := by
    have e1 := su (fun g => eN 0 (own H c g))
    rw [alO_v hv2, alO_v hv, show eN 0 (own H c h) = a from by rw [ha]; rfl] at e1
    exact e1
  have eo : ow H (cs H c) (S + 2 ^ h) = ow H (cs H c) S + vo (cs H c) h := su (vo (cs H c))
  obtain ⟨w2, hw2, hle⟩ := (SQ_more (A := AA H c) (s2 := S + 2 ^ h) hh (by omega) ha h0 k1 k2 (hn H) (Nat.le_refl _) (ow H (cs H c) S) w hw).1 (by omega)
  have hw3 : QH (AA H c) (hn H) (S + 2 ^ h) 0 (ow H (cs H c) (S + 2 ^ h)) = some w2 := by
    rw [eo]
    exact hw2
  refine ⟨a + w - w2, by omega, ?_⟩
  unfold sv2
  rw [hv, hv2, hw, hw3, ev]
  exact dif4 (v := v) (a := a) (w := w) (w2 := w2) (by omega) (by omega) (by omega) (by omega) hle
/-- the sum over the sets without a house -/
def ptI (H : Hs) (c : Sc) (h : Nat) : Nat → Int64
  | 0 => 0
  | S + 1 => if hb S h = true then ptI H c h S else ptI H c h S + (rom 56 (bc S) * rom 56 (hn H - 1 - bc S)).toInt64 * (sv2 H c (S + 2 ^ h) - sv2 H c S).toInt64
theorem ptI_n (hH : HI H) (hc : CI H c) (hh : h < hn H) (hal : ∀ g, g < hn H → ∃ u, own H c g = some u) : ∀ (S : Nat), S ≤ 2 ^ hn H → ∃ U, U ≤ S * 1000000000 ∧ ptI H c h S = lN U
  | 0, _ => ⟨0, Nat.le_refl _, rfl⟩
  | S + 1, hS => by
    have b1 := hH.1
    obtain ⟨U, u1, u2⟩ := ptI_n hH hc hh hal S (by omega)
    show ∃ U, U ≤ (S + 1) * 1000000000 ∧ (if hb S h = true then ptI H c h S else ptI H c h S + (rom 56 (bc S) * rom 56 (hn H - 1 - bc S)).toInt64 * (sv2 H c (S + 2 ^ h) - sv2 H c S).toInt64) = lN U
    by_cases q : hb S h = true
    · rw [if_pos q]
      exact ⟨U, Nat.le_trans u1 (Nat.mul_le_mul_right _ (Nat.le_succ S)), u2⟩
    · have h0 := hbf q
      have hb2 := bs_i (by omega) (show S < 2 ^ hn H by omega) hh h0
      obtain ⟨d, d1, d2⟩ := sv_dif hH hc (show S < 2 ^ hn H by omega) hh h0 hal
      have f1 := fct_le (bc S)
      have f2 := fct_le (hn H - 1 - bc S)
      have f3 : fct (bc S) * fct (hn H - 1 - bc S) ≤ 120 * 120 := Nat.mul_le_mul f1.2 f2.2
      have f4 : fct (bc S) * fct (hn H - 1 - bc S) * d ≤ 14400 * 7776 := Nat.mul_le_mul f3 d1
      refine ⟨U + fct (bc S) * fct (hn H - 1 - bc S) * d, by omega, ?_⟩
      rw [if_neg q, d2, fct_d _ (by omega), fct_d _ (by omega), nI_mul, nI_l (by omega), nI_l (by omega), u2, lN_mul, lN_add]
theorem pa70 (hH : HI H) (hc : CI H c) (hh : h < hn H) (hal : ∀ g, g < hn H → ∃ u, own H c g = some u) (hC : Cs H c μ) (hA : ∀ g, g < hn H → Al H c g μ) (hP : ∀ S, S < 2 ^ hn H → PS H c S 0 μ) (hK : CS G m_Cs_tell [vr 6 0, vl (ptI H c h (2 ^ hn H)), vl (lN (fct (hn H)))] μ (RI K)) : ∀ (m S : Nat), 2 ^ hn H = S + m → SS G m_Cs_part 70 [vr 6 0, vi (nI h), vl (ptI H c h S), un, vi (nI S), un, un] [] μ (RI K)
  | 0, S, e => by
    have b1 := hH.1
    have p6 := pow5 b1
    have f1 := fct_le (hn H)
    refine b_Cs_part_70 _ _ _ ?_
    rw [hC.1.1, all_1 _ (by omega), nI_tn (n := hn H) (by omega), fct_d _ (by omega), nI_l (by omega)]
    refine iLeT (by omega) (by omega) ⟨in_nI (by omega) (by decide), ?_⟩
    rw [show S = 2 ^ hn H by omega]
    exact hK
  | m + 1, S, e => by
    have b1 := hH.1
    have p6 := pow5 b1
    have ih := pa70 hH hc hh hal hC hA hP hK m (S + 1) (by omega)
    have ih2 : SS G m_Cs_part 70 [vr 6 0, vi (nI h), vl (if hb S h = true then ptI H c h S else ptI H c h S + (rom 56 (bc S) * rom 56 (hn H - 1 - bc S)).toInt64 * (sv2 H c (S + 2 ^ h) - sv2 H c S).toInt64), un, vi (nI (S + 1)), un, un] [] μ (RI K) := ih
    refine b_Cs_part_70 _ _ _ ?_
    rw [hC.1.1, all_1 _ (by omega), nI_1]
    refine iLeF (by omega) (by omega) ?_
    by_cases q : hb S h = true
    · rw [if_pos q] at ih2
      exact isIn_T (by omega) (by omega) q (i1 ih2)
    · rw [if_neg q] at ih2
      have h0 := hbf q
      have hb2 := bs_i (by omega) (show S < 2 ^ hn H by omega) hh h0
      have hS2 := bs_l (by omega) (show S < 2 ^ hn H by omega) hh h0
      refine isIn_F (by omega) (by omega) q (i0 (c_Ji_bitCount _ (show _ ∧ _ from ?_)))
      have eb : bitC (nI S) = nI (bc S) := bitC_d S (by omega)
      unfold bitC at eb
      rw [eb, hC.1.1, show nI (hn H) - 1 = nI (hn H - 1) from nI_sub (b := 1) (by omega), nI_sub (a := hn H - 1) (b := bc S) (by omega), nI_tn (n := bc S) (by omega), nI_tn (n := hn H - 1 - bc S) (by omega), bs_e S (by omega) h (by omega) h0]
      exact ⟨in_nI (by omega) (by decide), in_nI (by omega) (by decide), savedBy_s hH hc hS2 hal hC hA hP (savedBy_s hH hc (by omega) hal hC hA hP ih2)⟩
/-! the reference's -/
theorem bits4 : ∀ (m : Nat) {S j : Nat}, S < 32 → bc S = m → K (nI (j + m)) μ → SS G m_Mo_bits 4 [un, vi (nI j), vi (nI S)] [] μ (RI K)
  | 0, S, j, hS, e, hK => by
    rw [bc_0 S hS e]
    exact b_Mo_bits_4 _ _ (iT rfl hK)
  | m + 1, S, j, hS, e, hK => by
    have ne : S ≠ 0 := fun z => by
      rw [z] at e
      exact absurd e (by show ¬ (0 : Nat) = m + 1; omega)
    have e3 := kb_3 S hS ne
    refine b_Mo_bits_4 _ _ (iF (nI_ne0 (by omega) (by omega)) ?_)
    rw [kb_1 S hS ne, nI_1]
    refine bits4 m (kb_2 S hS) (by omega) ?_
    rw [show j + 1 + m = j + (m + 1) by omega]
    exact hK
theorem bits_s {S : Nat} (hS : S < 32) (hK : K (nI (bc S)) μ) : CS G m_Mo_bits [vi (nI S)] μ (RI K) := by
  refine c_Mo_bits _ (bits4 (bc S) (j := 0) hS rfl ?_)
  rw [Nat.zero_add]
  exact hK
theorem tim_d : ∀ q, q < 6 → rom 56 q = nI (fct q) := fct_d
theorem tim4 {q : Nat} (hq : q ≤ 5) (hK : K (rom 56 q) μ) : ∀ (m : Nat) {k : Nat}, 2 ≤ k → k ≤ 6 → q + 1 = k + m → SS G m_Mo_times 4 [vi (nI q), vi (nI (fct (k - 1))), vi (nI k)] [] μ (RI K)
  | 0, k, hk, hk6, e => by
    refine b_Mo_times_4 _ _ _ (iLtT (by omega) (by omega) ?_)
    rw [show k - 1 = q by omega, ← fct_d q (by omega)]
    exact hK
  | m + 1, k, hk, hk6, e => by
    have ih := tim4 hq hK m (k := k + 1) (by omega) (by omega) (by omega)
    refine b_Mo_times_4 _ _ _ (iLtF (by omega) (by omega) ?_)
    have ek : k = 2 ∨ k = 3 ∨ k = 4 ∨ k = 5 := by omega
    rcases ek with rfl | rfl | rfl | rfl <;> exact ih
theorem times_s {q : Nat} (hq : q ≤ 5) (hK : K (rom 56 q) μ) : CS G m_Mo_times [vi (nI q)] μ (RI K) := by
  refine c_Mo_times _ ?_
  by_cases z : q ≤ 1
  · have eq : q = 0 ∨ q = 1 := by omega
    rcases eq with rfl | rfl
    · exact b_Mo_times_4 _ _ _ (iT (by decide) hK)
    · exact b_Mo_times_4 _ _ _ (iT (by decide) hK)
  · exact tim4 hq hK (q - 1) (k := 2) (by omega) (by omega) (by omega)
theorem pa35 (hH : HI H) (hc : CI H c) (hh : h < hn H) (hK : ∀ μ1, Fa (L1 11) μ μ1 → CS G m_Mo_fraction [vr 7 0, vl (ptI H c h (2 ^ hn H)), vl (lN (fct (hn H)))] μ1 (RI K)) : ∀ (m : Nat) {S : Nat} {μ2 : Mm}, 2 ^ hn H = S + m → Ms H c μ2 → (∀ g, g < hn H → AlM H c g μ2) → Fa (L1 11) μ μ2 → SS G m_Mo_part 35 [vr 7 0, vi (nI h), vl (ptI H c h S), un, vi (nI S), un] [] μ2 (RI K)
  | 0, S, μ2, e, hM, hA, F => by
    have b1 := hH.1
    have p6 := pow5 b1
    have p0 : 0 < 2 ^ hn H := Nat.pow_pos (by decide)
    have f1 := fct_le (hn H)
    refine b_Mo_part_35 _ _ _ (c_Mo_everybody ?_)
    rw [hM.1.1, all_d _ (by omega)]
    refine iLtT (by omega) (by omega) (times_s (by omega) ?_)
    rw [fct_d _ (by omega), nI_l (by omega), show S = 2 ^ hn H by omega]
    exact hK μ2 F
  | m + 1, S, μ2, e, hM, hA, F => by
    have b1 := hH.1
    have p6 := pow5 b1
    refine b_Mo_part_35 _ _ _ (c_Mo_everybody ?_)
    rw [hM.1.1, all_d _ (by omega), nI_1]
    refine iLtF (by omega) (by omega) ?_
    by_cases q : hb S h = true
    · have ih := pa35 hH hc hh hK m (S := S + 1) (by omega) hM hA F
      have ih2 : SS G m_Mo_part 35 [vr 7 0, vi (nI h), vl (if hb S h = true then ptI H c h S else ptI H c h S + (rom 56 (bc S) * rom 56 (hn H - 1 - bc S)).toInt64 * (sv2 H c (S + 2 ^ h) - sv2 H c S).toInt64), un, vi (nI (S + 1)), un] [] μ2 (RI K) := ih
      rw [if_pos q] at ih2
      exact moh_T (by omega) (by omega) q (i1 ih2)
    · have h0 := hbf q
      have hb2 := bs_i (by omega) (show S < 2 ^ hn H by omega) hh h0
      have hS2 := bs_l (by omega) (show S < 2 ^ hn H by omega) hh h0
      refine moh_F (by omega) (by omega) q (i0 (bits_s (by omega) (times_s (by omega) (bits_s (by omega) ?_))))
      rw [hM.1.1, show nI (hn H) - 1 = nI (hn H - 1) from nI_sub (b := 1) (by omega), nI_sub (a := hn H - 1) (b := bc S) (by omega), bs_e S (by omega) h (by omega) h0]
      refine times_s (by omega) (savesOf_s hH hc (by omega) hM hA fun μ3 k3 => ?_)
      have F3 := k3.fa (L := L1 11) (fun _ _ => rfl)
      have hM3 := hM.fa F3 rfl
      have hA3 : ∀ g, g < hn H → AlM H c g μ3 := fun g hg y hy => by
        rw [k3.k _ _ (by decide)]
        exact hA g hg y hy
      refine savesOf_s hH hc (by omega) hM3 hA3 fun μ4 k4 => ?_
      have F4 := k4.fa (L := L1 11) (fun _ _ => rfl)
      have ih := pa35 hH hc hh hK m (S := S + 1) (by omega) (hM3.fa F4 rfl) (fun g hg y hy => by rw [k4.k _ _ (by decide)]; exact hA3 g hg y hy) ((F.tr F3).tr F4)
      have ih2 : SS G m_Mo_part 35 [vr 7 0, vi (nI h), vl (if hb S h = true then ptI H c h S else ptI H c h S + (rom 56 (bc S) * rom 56 (hn H - 1 - bc S)).toInt64 * (sv2 H c (S + 2 ^ h) - sv2 H c S).toInt64), un, vi (nI (S + 1)), un] [] μ4 (RI K) := ih
      rw [if_neg q] at ih2
      exact ih2
theorem two_part (x1 : Int32) : Two G m_Cs_part m_Mo_part [vr 6 0, vi x1] [vr 7 0, vi x1] := by
  intro μ L ⟨a, hA, hC, hM⟩ hL
  have hH := hA.2.2.1
  have hc := hA.2.2.2.1
  have b1 := hH.1
  have p6 := pow5 b1
  have pl := pow_lt b1
  by_cases h1 : rg x1 (hn (aH a))
  · obtain ⟨h, hh, rfl⟩ := h1
    have hS := hC.2.2.2.1
    refine c_Cs_part _ (noHouse_T hS.1.1 (by omega) hh (i0 (wAll_s hH hc hS fun μ1 k1 k2 => ?_)))
    have F1 := k2.fa (L := L1 5) (fun _ _ => rfl)
    have hC1 := hC.fa hA F1 L1_5
    have hM1 := hM.fa F1 (L1_M (by decide))
    have hS1 := hC1.2.2.2.1
    rw [hS1.1.1, all_d _ (by omega)]
    refine painAlone_s hH hc pl hS1 k1 ?_
    have mo : ∀ (μ3 : Mm) (K1 : Int32 → Mm → Prop), Ms (aH a) (aC a) μ3 → (∀ μ4, Ms (aH a) (aC a) μ4 → (∀ g, g < hn (aH a) → AlM (aH a) (aC a) g μ4) → Fa (L1 11) μ3 μ4 → (if nI (eN 100000000 (alO (own (aH a) (aC a)) (2 ^ hn (aH a) - 1) (hn (aH a)))) = 100000000 then K1 (-9) μ4 else SS G m_Mo_part 35 [vr 7 0, vi (nI h), vl 0, un, vi 0, un] [] μ4 (RI K1))) → CS G m_Mo_part [vr 7 0, vi (nI h)] μ3 (RI K1) := by
      intro μ3 K1 hm hK
      refine c_Mo_part _ (isHouse_T hm.1.1 (by omega) hh (i1 (layLeasts_s hH hc hm fun μ4 q1 q2 => c_Mo_everybody ?_)))
      have hm4 := hm.fa q2 rfl
      rw [hm4.1.1, all_d _ (by omega)]
      exact byThem_s hH hc pl hm4 q1 (hK μ4 hm4 q1 q2)
    cases e : alO (own (aH a) (aC a)) (2 ^ hn (aH a) - 1) (hn (aH a)) with
    | none =>
      have bs := sm_bd (f := f01 (2 ^ hn (aH a) - 1) (fun g => eN 1000000 (own (aH a) (aC a) g))) (b := 1000000) (n := hn (aH a)) (fun j _ => by
        show (if hb (2 ^ hn (aH a) - 1) j = true then eN 1000000 (own (aH a) (aC a) j) else 0) ≤ _
        split
        · exact eN_le (oB_mono (LL_B hH hc _) (by decide))
        · exact Nat.zero_le _)
      refine iLtF (b := 1000000) (by omega) (alO_n e) (mo μ1 _ hM1.2.2.2.1 fun μ4 hm hl F => ?_)
      rw [e]
      exact iT rfl (hL _ _ ⟨a, hA, hC1.fa hA F (L1_C (by decide)), hM1.fa F L1_W⟩)
    | some v =>
      have hv := alO_B (fun g => LL_B hH hc _) e
      have hal : ∀ g, g < hn (aH a) → ∃ u, own (aH a) (aC a) g = some u := fun g hg => alO_a e g hg (all_3 _ (by omega) g hg)
      rw [alO_v (F := 1000000) e, hS1.1.1]
      refine iLtT (b := 1000000) (by decide) (by omega) (poolAll_s hH hc k1 fun μ2 j1 j2 => ?_)
      have F2 := F1.tr (j2.fa (L := L1 5) (fun _ _ => rfl))
      have hC2 := hC.fa hA F2 L1_5
      have hM2 := hM.fa F2 (L1_M (by decide))
      obtain ⟨U, u1, u2⟩ := ptI_n hH hc hh hal (2 ^ hn (aH a)) (Nat.le_refl _)
      have f1 := fct_le (hn (aH a))
      refine pa70 hH hc hh hal hC2.2.2.2.1 (fun g hg y hy => by rw [j2.i _ _ (by omega)]; exact k1 g hg y hy) j1 ?_ (2 ^ hn (aH a)) 0 (by omega)
      rw [u2]
      refine both_tell (by omega) f1.1 (Nat.lt_of_le_of_lt f1.2 (by decide)) hA hC2 hM2 hL fun μ3 K1 hM3 hk => ?_
      refine mo μ3 K1 hM3.2.2.2.1 fun μ4 hm hl F => ?_
      rw [e]
      refine iF (fun q => ?_) (pa35 (μ := μ4) (S := 0) hH hc hh (fun μ5 F5 => ?_) (2 ^ hn (aH a)) (by omega) hm hl Fa.rf)
      · have := (nI_eq (a := v) (b := 100000000) (by omega) (by decide)).mp q
        omega
      · rw [u2]
        exact hk μ5 (hM3.fa (F.tr F5) L1_W) (F.tr F5)
  · exact c_Cs_part _ (noHouse_F hC.2.2.2.1.1.1 (by omega) h1 (i1 (c_Mo_part _ (isHouse_F hM.2.2.2.1.1.1 (by omega) h1 (i0 (hL _ _ ⟨a, hA, hC, hM⟩))))))
end P63
