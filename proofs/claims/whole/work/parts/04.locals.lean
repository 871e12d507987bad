/-! locals by places, and the rows of the kit -/
theorem lp_mem (G : Ge) : ∀ (ls : List Vl) (b j : Nat) (w : Value), (j, w) ∈ lp G b ls ↔ ∃ v : Vl, b ≤ j ∧ ls[j - b]? = some v ∧ (∀ q, v.1 ≠ .retAddr q) ∧ w = mv G v := by
  intro ls
  induction ls with
  | nil =>
    intro b j w
    constructor
    · intro h
      simp [lp] at h
    · rintro ⟨v, -, h, -⟩
      simp at h
  | cons a l ih =>
    intro b j w
    obtain ⟨a1, a2⟩ := a
    have step : (∃ v : Vl, b + 1 ≤ j ∧ l[j - (b + 1)]? = some v ∧ (∀ q, v.1 ≠ .retAddr q) ∧ w = mv G v) → ∃ v : Vl, b ≤ j ∧ ((a1, a2) :: l)[j - b]? = some v ∧ (∀ q, v.1 ≠ .retAddr q) ∧ w = mv G v := by
      rintro ⟨v, h1, h2, h3⟩
      refine ⟨v, by omega, ?_, h3⟩
      rw [show j - b = (j - (b + 1)) + 1 by omega, List.getElem?_cons_succ]
      exact h2
    have back : ∀ v : Vl, b ≤ j → ((a1, a2) :: l)[j - b]? = some v → (j = b ∧ v = (a1, a2)) ∨ (b + 1 ≤ j ∧ l[j - (b + 1)]? = some v) := by
      intro v h1 h2
      by_cases e : j = b
      · subst e
        rw [Nat.sub_self, List.getElem?_cons_zero] at h2
        exact Or.inl ⟨rfl, (Option.some.inj h2).symm⟩
      · right
        refine ⟨by omega, ?_⟩
        rw [show j - b = (j - (b + 1)) + 1 by omega, List.getElem?_cons_succ] at h2
        exact h2
    by_cases hr : ∃ q, a1 = .retAddr q
    · obtain ⟨q, rfl⟩ := hr
      rw [show lp G b ((Value.retAddr q, a2) :: l) = lp G (b + 1) l from rfl, ih]
      refine ⟨step, ?_⟩
      rintro ⟨v, h1, h2, h3, h4⟩
      rcases back v h1 h2 with ⟨-, rfl⟩ | ⟨h5, h6⟩
      · exact absurd rfl (h3 q)
      · exact ⟨v, h5, h6, h3, h4⟩
    · have e : lp G b ((a1, a2) :: l) = (b, mv G (a1, a2)) :: lp G (b + 1) l := by
        cases a1 <;> first | rfl | exact absurd ⟨_, rfl⟩ hr
      rw [e, List.mem_cons, ih]
      constructor
      · rintro (h | h)
        · cases h
          refine ⟨(a1, a2), Nat.le_refl b, ?_, fun q hq => hr ⟨q, hq⟩, rfl⟩
          rw [Nat.sub_self]
          rfl
        · exact step h
      · rintro ⟨v, h1, h2, h3, h4⟩
        rcases back v h1 h2 with ⟨rfl, rfl⟩ | ⟨h5, h6⟩
        · left
          rw [h4]
        · exact Or.inr ⟨v, h5, h6, h3, h4⟩
theorem lget_some : ∀ (ls : List Vl) (k : Nat) (v : Vl), lget ls k = v → (∀ q, v.1 ≠ .retAddr q) → ls[k]? = some v := by
  intro ls
  induction ls with
  | nil =>
    intro k v h hn
    exact absurd (by rw [← h]; rfl) (hn 0)
  | cons a l ih =>
    intro k v h hn
    cases k with
    | zero => rw [← h]; rfl
    | succ n =>
      rw [List.getElem?_cons_succ]
      exact ih n v h hn
theorem lR_get {G : Ge} {L : Array Slot} {n : Nat} {ls : List Vl} {k : Nat} {v : Vl} (h : lR G L n ls) (hv : lget ls k = v) (hn : ∀ q, v.1 ≠ .retAddr q) : L[k]? = some (.val (mv G v)) :=
  h.2.2 (k, mv G v) ((lp_mem G ls 0 k _).mpr ⟨v, Nat.zero_le k, by rw [Nat.sub_zero]; exact lget_some ls k v hv hn, hn, rfl⟩)
theorem lR_vok {ls : List Vl} {k : Nat} {v : Vl} (h : vld ls) (hv : lget ls k = v) (hn : ∀ q, v.1 ≠ .retAddr q) : vok v := h v (List.mem_of_getElem? (lget_some ls k v hv hn))
def clr (a : Vl) : Vl := match a.1 with
  | .long _ => un
  | .double _ => un
  | _ => a
theorem clr_cases (a : Vl) : clr a = un ∨ (clr a = a ∧ a.1.category = 1) := by
  obtain ⟨a1, a2⟩ := a
  cases a1 <;> first | exact Or.inl rfl | exact Or.inr ⟨rfl, rfl⟩
theorem mv_cat (G : Ge) (v : Vl) : (mv G v).category = v.1.category := by
  obtain ⟨a1, a2⟩ := v
  cases a1 <;> rfl
theorem st1_get : ∀ (ls : List Vl) (k j : Nat) (v u : Vl), (st1 ls k v)[j]? = some u → (j = k ∧ u = v) ∨ (j ≠ k ∧ j + 1 ≠ k ∧ ls[j]? = some u) ∨ (j + 1 = k ∧ ∃ a, ls[j]? = some a ∧ u = clr a) := by
  intro ls
  induction ls with
  | nil => intro k j v u h; simp [st1] at h
  | cons a l ih =>
    intro k j v u h
    cases k with
    | zero =>
      cases j with
      | zero => left; exact ⟨rfl, by simpa [st1] using h.symm⟩
      | succ j => right; left; exact ⟨by omega, by omega, by simpa [st1] using h⟩
    | succ k =>
      cases j with
      | zero =>
        cases k with
        | zero =>
          right; right
          refine ⟨rfl, a, rfl, ?_⟩
          have h' : (clr a :: st1 l 0 v)[0]? = some u := h
          simpa using h'.symm
        | succ k =>
          right; left
          have h' : (a :: st1 l (k + 1) v)[0]? = some u := h
          exact ⟨by omega, by omega, by simpa using h'⟩
      | succ j =>
        have h' : (st1 l k v)[j]? = some u := by
          have h2 : (_ :: st1 l k v)[j + 1]? = some u := h
          simpa using h2
        rcases ih k j v u h' with ⟨h1, h2⟩ | ⟨h1, h2, h3⟩ | ⟨h1, b, h2, h3⟩
        · exact Or.inl ⟨by omega, h2⟩
        · exact Or.inr (Or.inl ⟨by omega, by omega, by simpa using h3⟩)
        · exact Or.inr (Or.inr ⟨by omega, b, by simpa using h2, h3⟩)
theorem st2_get : ∀ (ls : List Vl) (k j : Nat) (v u : Vl), (st2 ls k v)[j]? = some u → (j = k ∧ u = v) ∨ (j = k + 1 ∧ u = un) ∨ (j ≠ k ∧ j ≠ k + 1 ∧ j + 1 ≠ k ∧ ls[j]? = some u) ∨ (j + 1 = k ∧ ∃ a, ls[j]? = some a ∧ u = clr a) := by
  intro ls
  induction ls with
  | nil => intro k j v u h; simp [st2] at h
  | cons a l ih =>
    intro k j v u h
    cases l with
    | nil => simp [st2] at h
    | cons b l =>
    cases k with
    | zero =>
      have h' : (v :: un :: l)[j]? = some u := h
      cases j with
      | zero => left; exact ⟨rfl, by simpa using h'.symm⟩
      | succ j =>
        cases j with
        | zero => right; left; exact ⟨rfl, by simpa using h'.symm⟩
        | succ j => right; right; left; exact ⟨by omega, by omega, by omega, by simpa using h'⟩
    | succ k =>
      cases j with
      | zero =>
        cases k with
        | zero =>
          right; right; right
          refine ⟨rfl, a, rfl, ?_⟩
          have h' : (clr a :: st2 (b :: l) 0 v)[0]? = some u := h
          simpa using h'.symm
        | succ k =>
          right; right; left
          have h' : (a :: st2 (b :: l) (k + 1) v)[0]? = some u := h
          exact ⟨by omega, by omega, by omega, by simpa using h'⟩
      | succ j =>
        have h' : (st2 (b :: l) k v)[j]? = some u := by
          have h2 : (_ :: st2 (b :: l) k v)[j + 1]? = some u := h
          simpa using h2
        rcases ih k j v u h' with ⟨h1, h2⟩ | ⟨h1, h2⟩ | ⟨h1, h2, h4, h3⟩ | ⟨h1, c, h2, h3⟩
        · exact Or.inl ⟨by omega, h2⟩
        · exact Or.inr (Or.inl ⟨by omega, h2⟩)
        · exact Or.inr (Or.inr (Or.inl ⟨by omega, by omega, by omega, by simpa using h3⟩))
        · exact Or.inr (Or.inr (Or.inr ⟨by omega, c, by simpa using h2, h3⟩))
theorem lv_mono {L : Array Slot} {n : Nat} {l1 l2 : List (Nat × Value)} (h : lv_has L n l1) (hs : ∀ q ∈ l2, q ∈ l1) : lv_has L n l2 := ⟨h.1, h.2.1, fun q hq => h.2.2 q (hs q hq)⟩
theorem lR_st1 {G : Ge} {L : Array Slot} {n : Nat} {ls : List Vl} {k : Nat} {v : Vl} (h : lv_has L n ((k, mv G v) :: (lp G 0 ls).filter (fun q => !(q.1 == k) && !(q.1 + 1 == k && q.2.category == 2)))) : lR G L n (st1 ls k v) := by
  refine lv_mono h ?_
  rintro ⟨j, w⟩ hq
  obtain ⟨u, -, h1, h2, h3⟩ := (lp_mem G _ 0 j w).mp hq
  rw [Nat.sub_zero] at h1
  subst h3
  rcases st1_get ls k j v u h1 with ⟨rfl, rfl⟩ | ⟨g1, g2, g3⟩ | ⟨g1, a, g2, g3⟩
  · exact List.mem_cons_self
  · refine List.mem_cons_of_mem _ (List.mem_filter.mpr ⟨(lp_mem G ls 0 j _).mpr ⟨u, Nat.zero_le j, g3, h2, rfl⟩, ?_⟩)
    simp [g1, g2]
  · rcases clr_cases a with e | ⟨e, ec⟩
    · rw [g3, e] at h2
      exact absurd rfl (h2 0)
    · rw [e] at g3
      subst g3
      refine List.mem_cons_of_mem _ (List.mem_filter.mpr ⟨(lp_mem G ls 0 j _).mpr ⟨u, Nat.zero_le j, g2, h2, rfl⟩, ?_⟩)
      simp [mv_cat, ec]
      omega
theorem lR_st2 {G : Ge} {L : Array Slot} {n : Nat} {ls : List Vl} {k : Nat} {v : Vl} (h : lv_has L n ((k, mv G v) :: (lp G 0 ls).filter (fun q => !(q.1 == k) && (!(q.1 == k + 1) && !(q.1 + 1 == k && q.2.category == 2))))) : lR G L n (st2 ls k v) := by
  refine lv_mono h ?_
  rintro ⟨j, w⟩ hq
  obtain ⟨u, -, h1, h2, h3⟩ := (lp_mem G _ 0 j w).mp hq
  rw [Nat.sub_zero] at h1
  subst h3
  rcases st2_get ls k j v u h1 with ⟨rfl, rfl⟩ | ⟨g1, g2⟩ | ⟨g1, g2, g4, g3⟩ | ⟨g1, a, g2, g3⟩
  · exact List.mem_cons_self
  · rw [g2] at h2
    exact absurd rfl (h2 0)
  · refine List.mem_cons_of_mem _ (List.mem_filter.mpr ⟨(lp_mem G ls 0 j _).mpr ⟨u, Nat.zero_le j, g3, h2, rfl⟩, ?_⟩)
    simp [g1, g2, g4]
  · rcases clr_cases a with e | ⟨e, ec⟩
    · rw [g3, e] at h2
      exact absurd rfl (h2 0)
    · rw [e] at g3
      subst g3
      refine List.mem_cons_of_mem _ (List.mem_filter.mpr ⟨(lp_mem G ls 0 j _).mpr ⟨u, Nat.zero_le j, g2, h2, rfl⟩, ?_⟩)
      simp [mv_cat, ec]
      omega
theorem vok_un : vok un := rfl
theorem vld_st1 {ls : List Vl} {k : Nat} {v : Vl} (h : vld ls) (hv : vok v) : vld (st1 ls k v) := by
  intro u hu
  obtain ⟨j, hj⟩ := List.getElem?_of_mem hu
  rcases st1_get ls k j v u hj with ⟨-, rfl⟩ | ⟨-, -, g3⟩ | ⟨-, a, g2, g3⟩
  · exact hv
  · exact h u (List.mem_of_getElem? g3)
  · rcases clr_cases a with e | ⟨e, -⟩
    · rw [g3, e]; exact vok_un
    · rw [g3, e]; exact h a (List.mem_of_getElem? g2)
theorem vld_st2 {ls : List Vl} {k : Nat} {v : Vl} (h : vld ls) (hv : vok v) : vld (st2 ls k v) := by
  intro u hu
  obtain ⟨j, hj⟩ := List.getElem?_of_mem hu
  rcases st2_get ls k j v u hj with ⟨-, rfl⟩ | ⟨-, rfl⟩ | ⟨-, -, -, g3⟩ | ⟨-, a, g2, g3⟩
  · exact hv
  · exact vok_un
  · exact h u (List.mem_of_getElem? g3)
  · rcases clr_cases a with e | ⟨e, -⟩
    · rw [g3, e]; exact vok_un
    · rw [g3, e]; exact h a (List.mem_of_getElem? g2)
theorem msk_get : ∀ (bs : List Bool) (ls : List Vl) (j : Nat) (u : Vl), (msk bs ls)[j]? = some u → u = un ∨ ls[j]? = some u := by
  intro bs
  induction bs with
  | nil => intro ls j u h; simp [msk] at h
  | cons b bs ih =>
    intro ls j u h
    cases ls with
    | nil => cases b <;> simp [msk] at h
    | cons a l =>
      cases j with
      | zero =>
        cases b
        · left
          have h' : (un :: msk bs l)[0]? = some u := h
          simpa using h'.symm
        · right
          have h' : (a :: msk bs l)[0]? = some u := h
          simpa using h'
      | succ j =>
        have h' : (msk bs l)[j]? = some u := by
          cases b
          · have h2 : (un :: msk bs l)[j + 1]? = some u := h
            simpa using h2
          · have h2 : (a :: msk bs l)[j + 1]? = some u := h
            simpa using h2
        rcases ih l j u h' with e | e
        · exact Or.inl e
        · right; simpa using e
theorem lR_msk {G : Ge} {L : Array Slot} {n : Nat} {ls : List Vl} (bs : List Bool) (h : lR G L n ls) : lR G L n (msk bs ls) := by
  refine lv_mono h ?_
  rintro ⟨j, w⟩ hq
  obtain ⟨u, -, h1, h2, h3⟩ := (lp_mem G _ 0 j w).mp hq
  rw [Nat.sub_zero] at h1
  rcases msk_get bs ls j u h1 with e | e
  · rw [e] at h2
    exact absurd rfl (h2 0)
  · exact (lp_mem G ls 0 j w).mpr ⟨u, Nat.zero_le j, e, h2, h3⟩
theorem vld_msk {ls : List Vl} (bs : List Bool) (h : vld ls) : vld (msk bs ls) := by
  intro u hu
  obtain ⟨j, hj⟩ := List.getElem?_of_mem hu
  rcases msk_get bs ls j u hj with e | e
  · rw [e]; exact vok_un
  · exact h u (List.mem_of_getElem? e)
theorem vld_cons {v : Vl} {l : List Vl} (hv : vok v) (h : vld l) : vld (v :: l) := by
  intro u hu
  rcases List.mem_cons.mp hu with rfl | h1
  · exact hv
  · exact h u h1
theorem vld_hd {v : Vl} {l : List Vl} (h : vld (v :: l)) : vok v := h v List.mem_cons_self
theorem vld_tl {v : Vl} {l : List Vl} (h : vld (v :: l)) : vld l := fun u hu => h u (List.mem_cons_of_mem _ hu)
