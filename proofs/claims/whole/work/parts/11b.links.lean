/-! links by their places in the tables -/
theorem ok_and {a b : Bool} (ha : a = true) (hb : b = true) : (a && b) = true := by rw [ha, hb]; rfl
def tk : Nat → List Cond := fun k => match k with
  | 0 => k2_sels lw_privs
  | 1 => tables_1_1
  | 2 => tables_1_2
  | 3 => tables_1_3
  | 4 => tables_1_4
  | 5 => tables_1_5
  | _ => tables_1_6
theorem tk_sub {k : Nat} {w : Cond} (h : w ∈ tk k) : w ∈ lw_tbl := by
  show w ∈ k2_sels lw_privs ++ (tables_1_1 ++ (tables_1_2 ++ (tables_1_3 ++ (tables_1_4 ++ (tables_1_5 ++ tables_1_6)))))
  match k, h with
  | 0, h => exact List.mem_append_left _ h
  | 1, h => exact List.mem_append_right _ (List.mem_append_left _ h)
  | 2, h => exact List.mem_append_right _ (List.mem_append_right _ (List.mem_append_left _ h))
  | 3, h => exact List.mem_append_right _ (List.mem_append_right _ (List.mem_append_right _ (List.mem_append_left _ h)))
  | 4, h => exact List.mem_append_right _ (List.mem_append_right _ (List.mem_append_right _ (List.mem_append_right _ (List.mem_append_left _ h))))
  | 5, h => exact List.mem_append_right _ (List.mem_append_right _ (List.mem_append_right _ (List.mem_append_right _ (List.mem_append_right _ (List.mem_append_left _ h)))))
  | n + 6, h => exact List.mem_append_right _ (List.mem_append_right _ (List.mem_append_right _ (List.mem_append_right _ (List.mem_append_right _ (List.mem_append_right _ h)))))
def atT (p : Nat × Nat) (w : Cond) : Bool := match (tk p.1)[p.2]? with
  | some v => decide (v = w)
  | none => false
theorem atT_m {p : Nat × Nat} {w : Cond} (h : atT p w = true) : w ∈ lw_tbl := by
  unfold atT at h
  split at h
  · rename_i v hv
    rw [← of_decide_eq_true h]
    exact tk_sub (List.mem_of_getElem? hv)
  · cases h
theorem atT_g {p : Nat × Nat} {w : Cond} (h : atT p w = true) (hg : goodWord w = true) : w ∈ lw_g := List.mem_filter.mpr ⟨atT_m h, hg⟩
theorem atc {k j : Nat} {w : Cond} (h : (tk k)[j]? = some w) (hg : goodWord w = true) : w ∈ lw_g := List.mem_filter.mpr ⟨tk_sub (List.mem_of_getElem? h), hg⟩
def okFs (own : String) (l : List (Nat × Nat × Nat)) (ps : List (Nat × Nat)) : Bool := match l, ps with
  | [], _ => true
  | q :: l, p :: ps => (match vwCl[q.2.1]? with
    | some t => Nat.blt q.2.2 t.2.2 && atT p (Cond.fieldLink own q.1 (t.2.1 q.2.2).1 (t.2.1 q.2.2).2.1 (t.2.1 q.2.2).2.2.1)
    | none => false) && okFs own l ps
  | _ :: _, [] => false
theorem okFs_ok {own : String} {l : List (Nat × Nat × Nat)} {ps : List (Nat × Nat)} (h : okFs own l ps = true) : ∀ q ∈ l, okF own q = true := by
  induction l generalizing ps with
  | nil => intro q hq; cases hq
  | cons a l ih =>
    cases ps with
    | nil => cases h
    | cons p ps =>
      obtain ⟨h1, h2⟩ := ok2 (show (_ && okFs own l ps) = true from h)
      intro q hq
      rcases List.mem_cons.mp hq with rfl | hq
      · unfold okF
        split at h1
        · rename_i t ht
          rw [ht]
          obtain ⟨h3, h4⟩ := ok2 h1
          show (_ && _) = true
          rw [Bool.and_eq_true]
          exact ⟨h3, decide_eq_true (atT_g h4 rfl)⟩
        · cases h1
      · exact ih h2 q hq
def cdQ (q : Nat × Nat × MS) : Prop := q.2.1 = 3 ∨ Cond.code (my q.2.2) (mc q.2.2) (mL q.2.2) (mr q.2.2) ∈ lw_g
def okMq (own : String) (q : Nat × Nat × MS) (ps : List (Nat × Nat)) : Bool := match q with
  | (idx, 3, _) => atT (ps.getD 0 (9, 9999)) (Cond.methodLink own idx arraycopyName)
  | (idx, kd, M) => Nat.beq (mR M).cells 0 && Nat.beq (mR M).slots 0 && atT (ps.getD 0 (9, 9999)) (Cond.initialized (my M).cls) && decide ((my M).cls ≠ "java/lang/invoke/MethodHandle" ∧ (my M).cls ≠ "java/lang/invoke/VarHandle" ∧ (parseMethodDescriptor (my M).desc).map (fun d => d.parameters.length) = some (mN M)) &&
    (match kd with
      | 0 => atT (ps.getD 1 (9, 9999)) (Cond.methodLink own idx (my M)) && atT (ps.getD 2 (9, 9999)) (Cond.instanceMethod (my M)) && atT (ps.getD 3 (9, 9999)) (Cond.selects (my M).cls (my M) (my M)) && decide (vwCl[mK M]?.map (fun q => q.1) = some (my M).cls)
      | 1 => atT (ps.getD 1 (9, 9999)) (Cond.methodLink own idx (my M)) && atT (ps.getD 2 (9, 9999)) (Cond.static (my M))
      | 2 => atT (ps.getD 1 (9, 9999)) (Cond.methodLinkNest own idx (my M) "ColdShares") && atT (ps.getD 2 (9, 9999)) (Cond.static (my M))
      | _ => false)
theorem okMq_ok {own : String} {q : Nat × Nat × MS} {ps : List (Nat × Nat)} (hcd : cdQ q) (h : okMq own q ps = true) : okM own q = true := by
  obtain ⟨idx, kd, M⟩ := q
  have base : kd ≠ 3 → (Nat.beq (mR M).cells 0 && Nat.beq (mR M).slots 0 && atT (ps.getD 0 (9, 9999)) (Cond.initialized (my M).cls) && decide ((my M).cls ≠ "java/lang/invoke/MethodHandle" ∧ (my M).cls ≠ "java/lang/invoke/VarHandle" ∧ (parseMethodDescriptor (my M).desc).map (fun d => d.parameters.length) = some (mN M))) = true →
      (Nat.beq (mR M).cells 0 && Nat.beq (mR M).slots 0 && decide (Cond.code (my M) (mc M) (mL M) (mr M) ∈ lw_g) && decide (Cond.initialized (my M).cls ∈ lw_g) && decide ((my M).cls ≠ "java/lang/invoke/MethodHandle" ∧ (my M).cls ≠ "java/lang/invoke/VarHandle" ∧ (parseMethodDescriptor (my M).desc).map (fun d => d.parameters.length) = some (mN M))) = true := by
    intro hk h
    have h3 : Cond.code (my M) (mc M) (mL M) (mr M) ∈ lw_g := hcd.elim (fun e => absurd e hk) id
    obtain ⟨h, h5⟩ := ok2 h
    obtain ⟨h, h4⟩ := ok2 h
    exact ok_and (ok_and (ok_and h (decide_eq_true h3)) (decide_eq_true (atT_g h4 rfl))) h5
  match kd, h, base with
  | 0, h, base =>
    obtain ⟨h1, h2⟩ := ok2 (show (_ && (atT (ps.getD 1 (9, 9999)) (Cond.methodLink own idx (my M)) && atT (ps.getD 2 (9, 9999)) (Cond.instanceMethod (my M)) && atT (ps.getD 3 (9, 9999)) (Cond.selects (my M).cls (my M) (my M)) && decide (vwCl[mK M]?.map (fun q => q.1) = some (my M).cls))) = true from h)
    obtain ⟨h2, h6⟩ := ok2 h2
    obtain ⟨h2, h5⟩ := ok2 h2
    obtain ⟨h2, h4⟩ := ok2 h2
    show (_ && (_ && _ && _ && _)) = true
    exact ok_and (base (by decide) h1) (ok_and (ok_and (ok_and (decide_eq_true (atT_g h2 rfl)) (decide_eq_true (atT_g h4 rfl))) (decide_eq_true (atT_g h5 rfl))) h6)
  | 1, h, base =>
    obtain ⟨h1, h2⟩ := ok2 (show (_ && (atT (ps.getD 1 (9, 9999)) (Cond.methodLink own idx (my M)) && atT (ps.getD 2 (9, 9999)) (Cond.static (my M)))) = true from h)
    obtain ⟨h2, h4⟩ := ok2 h2
    show (_ && (_ && _)) = true
    exact ok_and (base (by decide) h1) (ok_and (decide_eq_true (atT_g h2 rfl)) (decide_eq_true (atT_g h4 rfl)))
  | 2, h, base =>
    obtain ⟨h1, h2⟩ := ok2 (show (_ && (atT (ps.getD 1 (9, 9999)) (Cond.methodLinkNest own idx (my M) "ColdShares") && atT (ps.getD 2 (9, 9999)) (Cond.static (my M)))) = true from h)
    obtain ⟨h2, h4⟩ := ok2 h2
    show (_ && (_ && _)) = true
    exact ok_and (base (by decide) h1) (ok_and (decide_eq_true (atT_m h2)) (decide_eq_true (atT_g h4 rfl)))
  | 3, h, _ => exact decide_eq_true (atT_g (show atT (ps.getD 0 (9, 9999)) (Cond.methodLink own idx arraycopyName) = true from h) rfl)
  | n + 4, h, _ =>
    obtain ⟨h1, h2⟩ := ok2 (show (_ && false) = true from h)
    cases h2
def okMs (own : String) (l : List (Nat × Nat × MS)) (ps : List (List (Nat × Nat))) : Bool := match l, ps with
  | [], _ => true
  | q :: l, p :: ps => okMq own q p && okMs own l ps
  | _ :: _, [] => false
theorem okMs_ok {own : String} {l : List (Nat × Nat × MS)} {ps : List (List (Nat × Nat))} (hc : ∀ q ∈ l, cdQ q) (h : okMs own l ps = true) : ∀ q ∈ l, okM own q = true := by
  induction l generalizing ps with
  | nil => intro q hq; cases hq
  | cons a l ih =>
    cases ps with
    | nil => cases h
    | cons p ps =>
      obtain ⟨h1, h2⟩ := ok2 (show (okMq own a p && okMs own l ps) = true from h)
      intro q hq
      rcases List.mem_cons.mp hq with rfl | hq
      · exact okMq_ok (hc _ List.mem_cons_self) h1
      · exact ih (fun q hq => hc q (List.mem_cons_of_mem _ hq)) h2 q hq
theorem okMs_nil (own : String) : ∀ q ∈ ([] : List (Nat × Nat × MS)), okM own q = true := fun q h => absurd h List.not_mem_nil
theorem okMs_app {own : String} {l l2 : List (Nat × Nat × MS)} (h : ∀ q ∈ l, okM own q = true) (h2 : ∀ q ∈ l2, okM own q = true) : ∀ q ∈ l ++ l2, okM own q = true := fun q hq => (List.mem_append.mp hq).elim (h q) (h2 q)
theorem cd_nil : ∀ q ∈ ([] : List (Nat × Nat × MS)), cdQ q := fun q h => absurd h List.not_mem_nil
theorem cd_cons {a : Nat × Nat × MS} {l : List (Nat × Nat × MS)} (h : cdQ a) (h2 : ∀ q ∈ l, cdQ q) : ∀ q ∈ a :: l, cdQ q := List.forall_mem_cons.mpr ⟨h, h2⟩
def okIs (own : String) (l : List (Nat × Int32)) (ps : List (Nat × Nat)) : Bool := match l, ps with
  | [], _ => true
  | q :: l, p :: ps => atT p (Cond.constant own q.1 q.2) && okIs own l ps
  | _ :: _, [] => false
theorem okIs_ok {own : String} {l : List (Nat × Int32)} {ps : List (Nat × Nat)} (h : okIs own l ps = true) : ∀ q ∈ l, Cond.constant own q.1 q.2 ∈ lw_g := by
  induction l generalizing ps with
  | nil => intro q hq; cases hq
  | cons a l ih =>
    cases ps with
    | nil => cases h
    | cons p ps =>
      obtain ⟨h1, h2⟩ := ok2 (show (atT p (Cond.constant own a.1 a.2) && okIs own l ps) = true from h)
      intro q hq
      rcases List.mem_cons.mp hq with rfl | hq
      · exact atT_g h1 rfl
      · exact ih h2 q hq
def okJs (own : String) (l : List (Nat × Int64)) (ps : List (Nat × Nat)) : Bool := match l, ps with
  | [], _ => true
  | q :: l, p :: ps => atT p (Cond.constantLong own q.1 q.2) && okJs own l ps
  | _ :: _, [] => false
theorem okJs_ok {own : String} {l : List (Nat × Int64)} {ps : List (Nat × Nat)} (h : okJs own l ps = true) : ∀ q ∈ l, Cond.constantLong own q.1 q.2 ∈ lw_g := by
  induction l generalizing ps with
  | nil => intro q hq; cases hq
  | cons a l ih =>
    cases ps with
    | nil => cases h
    | cons p ps =>
      obtain ⟨h1, h2⟩ := ok2 (show (atT p (Cond.constantLong own a.1 a.2) && okJs own l ps) = true from h)
      intro q hq
      rcases List.mem_cons.mp hq with rfl | hq
      · exact atT_g h1 rfl
      · exact ih h2 q hq
def okGs (own : String) (l : List (Nat × Nat)) (ps : List (Nat × Nat)) : Bool := match l, ps with
  | [], _ => true
  | q :: l, p :: ps => (Nat.ble 52 q.2 && Nat.blt q.2 57 && (atT p (Cond.fieldLink own q.1 "ColdShares" (romN.getD (q.2 - 52) "") "[I") || atT p (Cond.fieldLinkNest own q.1 "ColdShares" (romN.getD (q.2 - 52) "") "[I" "ColdShares"))) && okGs own l ps
  | _ :: _, [] => false
theorem okGs_ok {own : String} {l : List (Nat × Nat)} {ps : List (Nat × Nat)} (h : okGs own l ps = true) : ∀ q ∈ l, okG own q = true := by
  induction l generalizing ps with
  | nil => intro q hq; cases hq
  | cons a l ih =>
    cases ps with
    | nil => cases h
    | cons p ps =>
      obtain ⟨h1, h2⟩ := ok2 (show (_ && okGs own l ps) = true from h)
      intro q hq
      rcases List.mem_cons.mp hq with rfl | hq
      · obtain ⟨h1, h3⟩ := ok2 h1
        unfold okG
        rw [Bool.and_eq_true, Bool.or_eq_true]
        refine ⟨h1, ?_⟩
        rcases (Bool.or_eq_true _ _).mp h3 with h3 | h3
        · exact Or.inl (decide_eq_true (atT_g h3 rfl))
        · exact Or.inr (decide_eq_true (atT_m h3))
      · exact ih h2 q hq
