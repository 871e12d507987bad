/-! ways -/
theorem sm_add {f g : Nat → Nat} : ∀ (n : Nat), sm (fun j => f j + g j) n = sm f n + sm g n
  | 0 => rfl
  | n + 1 => by
    show sm (fun j => f j + g j) n + (f n + g n) = sm f n + f n + (sm g n + g n)
    rw [sm_add n]
    omega
theorem sm_swap {g : Nat → Nat → Nat} {m : Nat} : ∀ (n : Nat), sm (fun d => sm (fun e => g d e) m) n = sm (fun e => sm (fun d => g d e) n) m
  | 0 => (sm_z fun _ _ => rfl).symm
  | n + 1 => by
    show sm (fun d => sm (fun e => g d e) m) n + sm (fun e => g n e) m = sm (fun e => sm (fun d => g d e) n + g n e) m
    rw [sm_swap n, sm_add]
theorem sm_ext {f : Nat → Nat} {d : Nat} : ∀ {n : Nat}, d ≤ n → (∀ e, d ≤ e → e < n → f e = 0) → sm f n = sm f d
  | 0, h, _ => by rw [show d = 0 by omega]
  | n + 1, h, hz => by
    by_cases e : d = n + 1
    · rw [e]
    · show sm f n + f n = _
      rw [hz n (by omega) (by omega), Nat.add_zero]
      exact sm_ext (by omega) (fun e a b => hz e a (by omega))
theorem sm_pos {f : Nat → Nat} : ∀ {n : Nat}, 0 < sm f n ↔ ∃ j, j < n ∧ 0 < f j
  | 0 => ⟨fun h => absurd h (Nat.lt_irrefl 0), fun ⟨j, h, _⟩ => absurd h (by omega)⟩
  | n + 1 => by
    have ih := sm_pos (f := f) (n := n)
    constructor
    · intro h
      have h : 0 < sm f n + f n := h
      by_cases z : 0 < f n
      · exact ⟨n, by omega, z⟩
      · obtain ⟨j, h1, h2⟩ := ih.mp (by omega)
        exact ⟨j, by omega, h2⟩
    · intro ⟨j, h1, h2⟩
      show 0 < sm f n + f n
      by_cases z : j = n
      · subst z
        omega
      · have := ih.mpr ⟨j, by omega, h2⟩
        omega
/-- up to m more -/
def Bx (m : Nat) (f : Nat → Nat) (x : Nat) : Nat := sm (fun d => if d ≤ x then f (x - d) else 0) (m + 1)
def dl0 (x : Nat) : Nat := if x = 0 then 1 else 0
def up (u : Nat → Nat) : Nat → (Nat → Nat) → Nat → Nat
  | 0, f => f
  | h + 1, f => Bx (u h) (up u h f)
theorem Bx_comm (a b : Nat) (f : Nat → Nat) : Bx a (Bx b f) = Bx b (Bx a f) := by
  have key : ∀ a b : Nat, ∀ x, Bx a (Bx b f) x = sm (fun d => sm (fun e => if d + e ≤ x then f (x - (d + e)) else 0) (b + 1)) (a + 1) := by
    intro a b x
    refine sm_cong fun d _ => ?_
    by_cases q : d ≤ x
    · rw [if_pos q]
      refine sm_cong fun e _ => ?_
      by_cases q2 : d + e ≤ x
      · rw [if_pos q2, if_pos (by omega), show x - d - e = x - (d + e) by omega]
      · rw [if_neg q2, if_neg (by omega)]
    · rw [if_neg q]
      exact (sm_z fun e _ => if_neg (by omega)).symm
  funext x
  rw [key a b x, key b a x, sm_swap]
  refine sm_cong fun e _ => sm_cong fun d _ => ?_
  rw [Nat.add_comm d e]
theorem up_comm (u : Nat → Nat) (a : Nat) (f : Nat → Nat) : ∀ (n : Nat), up u n (Bx a f) = Bx a (up u n f)
  | 0 => rfl
  | n + 1 => by
    show Bx (u n) (up u n (Bx a f)) = Bx a (Bx (u n) (up u n f))
    rw [up_comm u a f n, Bx_comm]
theorem up_cong {u w : Nat → Nat} {f : Nat → Nat} : ∀ {n : Nat}, (∀ j, j < n → u j = w j) → up u n f = up w n f
  | 0, _ => rfl
  | n + 1, h => by
    show Bx (u n) (up u n f) = Bx (w n) (up w n f)
    rw [up_cong (fun j hj => h j (by omega)), h n (by omega)]
theorem up_first (u : Nat → Nat) (f : Nat → Nat) : ∀ (n : Nat), up u (n + 1) f = up (fun j => u (j + 1)) n (Bx (u 0) f)
  | 0 => rfl
  | n + 1 => by
    show Bx (u (n + 1)) (up u (n + 1) f) = Bx (u (n + 1)) (up (fun j => u (j + 1)) n (Bx (u 0) f))
    rw [up_first u f n]
theorem up_rev (u : Nat → Nat) (f : Nat → Nat) : ∀ (n : Nat), up (fun j => u (n - 1 - j)) n f = up u n f
  | 0 => rfl
  | n + 1 => by
    rw [up_first, up_comm]
    show Bx (u (n + 1 - 1 - 0)) (up (fun j => u (n + 1 - 1 - (j + 1))) n f) = Bx (u n) (up u n f)
    rw [show n + 1 - 1 - 0 = n by omega, ← up_rev u f n, up_cong fun j hj => show u (n + 1 - 1 - (j + 1)) = u (n - 1 - j) by rw [show n + 1 - 1 - (j + 1) = n - 1 - j by omega]]
theorem up_pos {u : Nat → Nat} : ∀ (n x : Nat), 0 < up u n dl0 x ↔ x ≤ sm u n
  | 0, x => by
    show 0 < (if x = 0 then 1 else 0) ↔ x ≤ 0
    by_cases q : x = 0
    · rw [if_pos q]
      omega
    · rw [if_neg q]
      omega
  | n + 1, x => by
    have ih := up_pos (u := u) n
    show 0 < sm (fun d => if d ≤ x then up u n dl0 (x - d) else 0) (u n + 1) ↔ x ≤ sm u n + u n
    rw [sm_pos]
    constructor
    · intro ⟨d, h1, h2⟩
      by_cases q : d ≤ x
      · rw [if_pos q] at h2
        have := (ih (x - d)).mp h2
        omega
      · rw [if_neg q] at h2
        omega
    · intro h
      refine ⟨x - sm u n, by omega, ?_⟩
      rw [if_pos (by omega)]
      exact (ih _).mpr (by omega)
theorem up_le {u : Nat → Nat} : ∀ (n x : Nat), (∀ j, j < n → u j ≤ 9) → up u n dl0 x ≤ 10 ^ n
  | 0, x, _ => by
    show (if x = 0 then 1 else 0) ≤ 1
    split <;> decide
  | n + 1, x, h => by
    have ih := fun x => up_le (u := u) n x (fun j hj => h j (by omega))
    have h1 := sm_bd (f := fun d => if d ≤ x then up u n dl0 (x - d) else 0) (b := 10 ^ n) (n := u n + 1) (fun j _ => by
      show (if j ≤ x then up u n dl0 (x - j) else 0) ≤ _
      split
      · exact ih _
      · exact Nat.zero_le _)
    have h2 := h n (by omega)
    refine Nat.le_trans h1 ?_
    rw [Nat.pow_succ]
    exact Nat.mul_le_mul_left _ (by omega)
/-! one night more: by any cold up to C -/
def Sx (k C : Nat) (f : Nat → Nat) (x : Nat) : Nat := sm (fun e => if cap k e ≤ x then f (x - cap k e) else 0) (C + 1)
theorem Sx_Bx {k C : Nat} {f : Nat → Nat} : Sx k (cap k C) f = Bx (cap k C) f := by
  funext x
  refine sm_cong fun e he => ?_
  have : cap k e = e := by
    unfold cap at he ⊢
    split at he
    · rename_i q
      rw [if_pos q]
      omega
    · rename_i q
      rw [if_neg q]
  rw [this]
section P60
variable {G : Ge} {μ : Mm} {K : Int32 → Mm → Prop} {V : Mm → Prop} {x : Int64}
theorem filL : ∀ (d : Nat) {j : Nat} {μ : Mm}, 73 = j + d → V (aL μ 24 0 j d (fun _ => x)) → SS G m_Ja_fillL 6 [vr 24 0, vl x, un, vi (nI j), vi (nI 73)] [] μ (RV V)
  | 0, j, μ, e, h => by
    rw [aL_0] at h
    exact b_Ja_fillL_6 _ _ _ (iLeT (by omega) (by omega) h)
  | d + 1, j, μ, e, h => by
    refine b_Ja_fillL_6 _ _ _ (iLeF (by omega) (by omega) ⟨in_nI (by omega) (by decide), ?_⟩)
    rw [nI_1, nI_tn (by omega)]
    refine filL d (by omega) ?_
    rw [aL_step _ _ _ _ _ (fun _ => x) x rfl]
    exact h
theorem fillL_s (h : ∀ μ1, (∀ y, y < 73 → μ1.2 24 0 y = x) → FK 24 (fun _ _ => True) μ μ1 → V μ1) : CS G m_Ja_fillL [vr 24 0, vl x] μ (RV V) := by
  refine c_Ja_fillL _ (filL 73 (j := 0) rfl (h _ (fun y hy => ?_) (FK.rf.aL fun _ _ _ => trivial)))
  rw [aL_in (by omega) (by omega)]
theorem begin_s (hK : ∀ μ1, (∀ y, y < 73 → μ1.2 24 0 y = lN (dl0 y)) → Fa (L1 5) μ μ1 → V μ1) : CS G m_Wa_begin [vr 5 0] μ (RV V) := by
  refine c_Wa_begin (fillL_s fun μ1 g1 g2 => ⟨in_nI (n := 0) (by decide) (by decide), ?_⟩)
  rw [show Int32.toNatClampNeg 0 = 0 from rfl]
  refine hK _ (fun y hy => ?_) (FK.fa (k0 := 24) (q := fun _ _ => True) (g2.wL trivial) (fun _ _ => rfl))
  by_cases e : y = 0
  · subst e
    rw [wL_s]
    rfl
  · rw [wL_n _ _ _ _ e, g1 y hy, show dl0 y = 0 from if_neg e]
    rfl
theorem spr44 {q C c v : Nat} {f g : Nat → Nat} (hv : v ≤ 9) : ∀ (m : Nat) {x : Nat} {μ : Mm}, 73 = x + m → v ≤ x → (∀ y, y < 73 → μ.2 25 0 y = lN (f y)) → (∀ y, y < 73 → μ.2 24 0 y = lN (if v ≤ y ∧ y < x then g y + f (y - v) else g y)) → (∀ μ1, (∀ y, y < 73 → μ1.2 24 0 y = lN (g y + if v ≤ y then f (y - v) else 0)) → FK 24 (fun _ _ => True) μ μ1 → SS G m_Wa_spread 28 [vr 5 0, vr 0 q, vi (nI C), vi (nI (c + 1)), un, un] [] μ1 (RV V)) → SS G m_Wa_spread 44 [vr 5 0, vr 0 q, vi (nI C), vi (nI c), vi (nI v), vi (nI x)] [] μ (RV V)
  | 0, x, μ, e, hx, h1, h0, hK => by
    refine b_Wa_spread_44 _ _ _ _ _ (iLeT (by omega) (by omega) ?_)
    rw [nI_1]
    refine hK μ (fun y hy => ?_) FK.rf
    rw [h0 y hy]
    by_cases z : v ≤ y
    · rw [if_pos ⟨z, by omega⟩, if_pos z]
    · rw [if_neg (fun q => z q.1), if_neg z, Nat.add_zero]
  | m + 1, x, μ, e, hx, h1, h0, hK => by
    have F1 : FK 24 (fun _ _ => True) μ (wL μ 24 0 x (lN (g x + f (x - v)))) := FK.rf.wL trivial
    refine b_Wa_spread_44 _ _ _ _ _ (iLeF (by omega) (by omega) ?_)
    rw [nI_sub hx, nI_tn (n := x) (by omega), nI_tn (n := x - v) (by omega), h0 x (by omega), h1 (x - v) (by omega), show (if v ≤ x ∧ x < x then g x + f (x - v) else g x) = g x from if_neg (fun z => by omega), lN_add, nI_1 x]
    refine ⟨in_nI (by omega) (by decide), in_nI (by omega) (by decide), in_nI (by omega) (by decide), spr44 (g := g) hv m (by omega) (by omega) (fun y hy => ?_) (fun y hy => ?_) fun μ1 k1 k2 => hK μ1 k1 (F1.tr k2)⟩
    · rw [F1.lk _ _ (by decide)]
      exact h1 y hy
    · by_cases e2 : y = x
      · subst e2
        rw [wL_s, if_pos ⟨hx, by omega⟩]
      · rw [wL_n _ _ _ _ e2, h0 y hy]
        by_cases z : v ≤ y ∧ y < x
        · rw [if_pos z, if_pos ⟨z.1, by omega⟩]
        · rw [if_neg z, if_neg (fun w => z ⟨w.1, by omega⟩)]
theorem spr28 {q k C : Nat} {f : Nat → Nat} (hk : k ≤ 5) (hC : C ≤ 9) : ∀ (m : Nat) {c : Nat} {μ : Mm}, C + 1 = c + m → μ.1 0 q 0 = nI k → (∀ y, y < 73 → μ.2 25 0 y = lN (f y)) → (∀ y, y < 73 → μ.2 24 0 y = lN (sm (fun e => if cap k e ≤ y then f (y - cap k e) else 0) c)) → (∀ μ1, (∀ y, y < 73 → μ1.2 24 0 y = lN (Sx k C f y)) → FK 24 (fun _ _ => True) μ μ1 → V μ1) → SS G m_Wa_spread 28 [vr 5 0, vr 0 q, vi (nI C), vi (nI c), un, un] [] μ (RV V)
  | 0, c, μ, e, e0, h1, h0, hK => by
    refine b_Wa_spread_28 _ _ _ (iLtT (by omega) (by omega) (hK μ (fun y hy => ?_) FK.rf))
    rw [h0 y hy, show c = C + 1 by omega]
    rfl
  | m + 1, c, μ, e, e0, h1, h0, hK => by
    have hc := cap_le (k := k) (c := c)
    refine b_Wa_spread_28 _ _ _ (iLtF (by omega) (by omega) (canAt_s e0 hk (by omega) ?_))
    refine spr44 (f := f) (g := fun y => sm (fun e => if cap k e ≤ y then f (y - cap k e) else 0) c) (by omega) (73 - cap k c) (by omega) (Nat.le_refl _) h1 (fun y hy => ?_) fun μ1 k1 k2 => ?_
    · rw [h0 y hy, if_neg (fun z => by omega)]
    · refine spr28 hk hC m (c := c + 1) (by omega) (by rw [k2.k _ _ (by decide)]; exact e0) (fun y hy => by rw [k2.lk _ _ (by decide)]; exact h1 y hy) (fun y hy => ?_) fun μ2 j1 j2 => hK μ2 j1 (k2.tr j2)
      rw [k1 y hy]
      rfl
theorem spread_s {q k C : Nat} {f : Nat → Nat} (hk : k ≤ 5) (hC : C ≤ 9) (e0 : μ.1 0 q 0 = nI k) (h0 : ∀ y, y < 73 → μ.2 24 0 y = lN (f y)) (hK : ∀ μ1, (∀ y, y < 73 → μ1.2 24 0 y = lN (Sx k C f y)) → Fa (L1 5) μ μ1 → V μ1) : CS G m_Wa_spread [vr 5 0, vr 0 q, vi (nI C)] μ (RV V) := by
  refine c_Wa_spread _ _ ⟨⟨by decide, by decide, by decide, by decide, by decide⟩, ?_⟩
  rw [show Int32.toNatClampNeg 0 = 0 from rfl, nI_tn (n := 73) (by decide)]
  have F0 : FK 25 (fun _ _ => True) μ (cL μ 24 0 0 25 0 0 73) := FK.rf.cL fun _ _ _ => trivial
  have h25 : ∀ y, y < 73 → (cL μ 24 0 0 25 0 0 73).2 25 0 y = lN (f y) := fun y hy => by
    rw [← h0 y hy]
    show (if 25 = 25 ∧ 0 = 0 ∧ 0 ≤ y ∧ y < 0 + 73 then μ.2 24 0 (0 + (y - 0)) else μ.2 25 0 y) = _
    rw [if_pos ⟨rfl, rfl, by omega, by omega⟩, show 0 + (y - 0) = y by omega]
  generalize cL μ 24 0 0 25 0 0 73 = μ1 at F0 h25 ⊢
  refine fillL_s fun μ2 g1 g2 => spr28 (c := 0) (f := f) hk hC (C + 1) (by omega) (by rw [g2.k _ _ (by decide), F0.k _ _ (by decide)]; exact e0) (fun y hy => by rw [g2.lk _ _ (by decide)]; exact h25 y hy) (fun y hy => ?_) fun μ3 k1 k2 => hK μ3 k1 (((F0.fa (L := L1 5) fun _ _ => rfl).tr (g2.fa (L := L1 5) fun _ _ => rfl)).tr (k2.fa (L := L1 5) fun _ _ => rfl))
  rw [g1 y hy]
  rfl
end P60
