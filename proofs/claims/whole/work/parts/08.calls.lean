/-! calls -/
theorem tbl_good : ∀ w ∈ lw_g, goodWord w = true := by
  intro w h
  exact (List.mem_filter.mp h).2
theorem good_tbl {ws : List Cond} (h : ∀ w ∈ ws, w ∈ lw_g) : GoodIn lw_g ws := fun w hw => ⟨h w hw, good_of_word (tbl_good w (h w hw))⟩
/-- a link of a call -/
def okC (own : String) (q : Nat × Nat × MS) : Bool := match q with
  | (idx, kd, M) => Nat.beq (mR M).cells 0 && Nat.beq (mR M).slots 0 && decide (Cond.code (my M) (mc M) (mL M) (mr M) ∈ lw_g) && decide (Cond.initialized (my M).cls ∈ lw_g) && decide ((my M).cls ≠ "java/lang/invoke/MethodHandle" ∧ (my M).cls ≠ "java/lang/invoke/VarHandle" ∧ (parseMethodDescriptor (my M).desc).map (fun d => d.parameters.length) = some (mN M)) &&
    (match kd with
      | 0 => decide (Cond.methodLink own idx (my M) ∈ lw_g) && decide (Cond.instanceMethod (my M) ∈ lw_g) && decide (Cond.selects (my M).cls (my M) (my M) ∈ lw_g) && decide (vwCl[mK M]?.map (fun q => q.1) = some (my M).cls)
      | 1 => decide (Cond.methodLink own idx (my M) ∈ lw_g) && decide (Cond.static (my M) ∈ lw_g)
      | 2 => decide (Cond.methodLinkNest own idx (my M) "ColdShares" ∈ lw_tbl) && decide (Cond.static (my M) ∈ lw_g)
      | _ => false)
def okA (own : String) (idx : Nat) : Bool := decide (Cond.methodLink own idx arraycopyName ∈ lw_g)
theorem arrcopy_in : Cond.native arraycopyName ∈ lw_g ∧ Cond.static arraycopyName ∈ lw_g ∧ Cond.initialized "java/lang/System" ∈ lw_g := by decide +kernel
theorem mws_good {M : MS} (h : Cond.code (my M) (mc M) (mL M) (mr M) ∈ lw_g) : ∀ w ∈ mws M, w ∈ lw_g := by
  intro w hw
  rcases List.mem_cons.mp hw with rfl | hw
  · exact h
  · exact hw
theorem wsum_cat (G : Ge) : ∀ r : List Vl, ((r.map (mv G)).map fun v => v.category).sum = wsum r
  | [] => rfl
  | v :: r => by
    have h := wsum_cat G r
    rw [List.map_cons, List.map_cons, List.sum_cons, h, mv_cat]
    obtain ⟨a, b⟩ := v
    cases a <;> rfl
theorem popA_c : ∀ (n : Nat) (st acc : List Vl) (K : List Vl → List Vl → Prop), popA n st acc K → ∃ as r, as.length = n ∧ st = as.reverse ++ r ∧ K (as ++ acc) r
  | 0, st, acc, K, h => ⟨[], st, rfl, rfl, h⟩
  | n + 1, v :: st, acc, K, h => by
    obtain ⟨as, r, h1, h2, h3⟩ := popA_c n st (v :: acc) K h
    refine ⟨as ++ [v], r, by simp [h1], by rw [h2]; simp, ?_⟩
    rw [List.append_assoc]
    exact h3
  | n + 1, [], acc, K, h => h.elim
theorem vld_app {a b : List Vl} (h : vld (a ++ b)) : vld a ∧ vld b := ⟨fun v hv => h v (List.mem_append_left _ hv), fun v hv => h v (List.mem_append_right _ hv)⟩
theorem vld_rev {a : List Vl} (h : vld a.reverse) : vld a := fun v hv => h v (List.mem_reverse.mpr hv)
section S4
variable {G : Ge} {M M' : MS} {pc : Nat} {ls : List Vl} {μ : Mm} {Φ Ψ : Ph}
theorem run_to {p : Program} {e : Env} {R : Room} {s : State} {m : MethodId} {args : Array Value} {below : List Frame} {meth : Method} {c : Code} {H : Heap} {locs : List Loc} {cells slots : Nat} {Q : State → Prop} {L : Array Slot} {st0 rest : List Value} {a : Array Value}
    (hr : va_Run p (gl G) e R s m args below meth c H locs cells slots 0 0 (F0 m pc L st0) rest (Qq G Ψ a) (Aw G)) (hS : va_S (Aw G) s.heap H locs)
    (kk : ∀ (r : Option Value) (μ' : Mm) (H1 : Heap) (locs1 : List Loc), Ψ r μ' → Hd G μ' H1 → va_S (Aw G) s.heap H1 locs1 → W p (gl G) e R s m args below meth c H1 locs1 cells slots Q (F0 m (pc + 3) L (r.toList ++ rest))) : W p (gl G) e R s m args below meth c H locs cells slots Q (F0 m pc L st0) := by
  intro T hT X
  obtain ⟨v, st₀, t, T', L', h0, X', hL, e1, e2, ⟨⟨r, μ', hv, hp, hb⟩, hz, hk⟩, st⟩ := hr T hT X
  cases hv
  rw [h0] at hz hk
  obtain ⟨t2, a1, b1⟩ := kk v μ' T'.heap (locs ++ L') hp (by rw [e1]; exact hb)
    ⟨Nat.le_trans hS.1 (by rw [e1]; exact hz), fun q h1 h2 => by rw [e1, hk q (Nat.lt_of_lt_of_le h1 hS.1) h2]; exact hS.2.1 q h1 h2, fun q hq => by
      rcases List.mem_append.mp hq with h | h
      · exact hS.2.2 q h
      · exact hL q h⟩ T' rfl X'
  exact ⟨t2, st t2 a1, b1⟩
theorem pre_ok {s U : State} {H : Heap} {locs : List Loc} {as : List Vl} (hK : Kn G s) (hH : Hd G μ H) (hS : va_S (Aw G) s.heap H locs) (hv : vld as) (hU : U.heap = H) (hW : s.WarmedH U.vm) : Pq G as μ (as.map (mv G)).toArray U :=
  ⟨rfl, hv, Kn_moved hW.alike (nest_warm hW) (fun a h1 h2 => by rw [hU]; exact hS.2.1 a h1 h2) hK, by rw [hU]; exact hH⟩
theorem SS_callV {idx k i : Nat} {as r : List Vl} (hd : decode (mc M) pc = .ok (.invokevirtual idx, 3)) (hc : okC (my M).cls (idx, 0, M') = true) (ht : ktag k = 0) (hcl : kcl k = mK M') (hn : as.length = mN M') (hw : wsum r ≤ 8) (hfr : (mR M').frames + 1 ≤ (mR M).frames) (hlo : 8 + (mL M' + 11) + (mR M').locals ≤ (mR M).locals)
    (hM : CS G M' (vr k i :: as) μ Ψ) (h : ∀ v μ', Ψ v μ' → ∃ x : List Vl, v.toList = x.map (mv G) ∧ vld x ∧ SS G M (pc + 3) ls (x ++ r) μ' Φ) : SS G M pc ls (as.reverse ++ (.ref k, i) :: r) μ Φ := by
  intro p e s m args below meth c cells slots Q E R H locs L hH hS hL hl hst
  unfold okC at hc
  simp only [Bool.and_eq_true, decide_eq_true_eq] at hc
  obtain ⟨⟨⟨⟨⟨c1, c2⟩, c3⟩, c4⟩, c5⟩, ⟨⟨c6, c7⟩, c8⟩, c9⟩ := hc
  have c1 : (mR M').cells = 0 := Nat.eq_of_beq_eq_true c1
  have c2 : (mR M').slots = 0 := Nat.eq_of_beq_eq_true c2
  have hts := E.2.2.2.2.2.2.1
  have hK := E.2.2.2.2.2.2.2.1
  have hv1 := vld_app hst
  have hvr := vld_hd hv1.2
  have hk := tag_lt ht (by decide)
  have hi := vok_num hvr
  obtain ⟨cell, q1, q2, q3, q4⟩ := cellAt_obj ht (hH.1 k i hk hi)
  have cw : CallW (mR M) s args (my M).cls (my M').cls idx (my M') (mc M') (mL M') (mr M') (mws M') (mR M') 0 0 (mN M') :=
    cwV (mN M') hts (good_tbl (fun w hw => by
      rcases List.mem_append.mp hw with h1 | h1
      · simp only [List.mem_cons, List.not_mem_nil, or_false] at h1
        rcases h1 with rfl | rfl | rfl | rfl
        · exact c6
        · exact c7
        · exact c8
        · exact c4
      · exact mws_good c3 w h1)) rfl c1 c2 ⟨rfl, c5⟩ ⟨hfr, hlo⟩
  have hcell : ∃ cellB : Cell, H[gad G k i]? = some cellB ∧ cellB.vm.isStatics = false ∧ s.vm.findClass (my M').cls = some cellB.cls := by
    refine ⟨cell, q1, by rw [q3]; rfl, ?_⟩
    cases hq : vwCl[mK M']? with
    | none => rw [hq] at c9; cases c9
    | some q =>
      rw [hq] at c9
      have e9 : q.1 = (my M').cls := Option.some.inj c9
      obtain ⟨-, hfc, -⟩ := hK.1.1 (mK M') q hq
      rw [q2, hcl, ← e9]
      exact hfc
  have hrun := va_runV (e := e) (below := below) (meth := meth) (H := H) (locs := locs) (cells := cells) (slots := slots) (As := as.map (mv G)) (rest := r.map (mv G)) (g := F0 m pc L ((as.reverse ++ (Value.ref k, i) :: r).map (mv G))) (b := gad G k i) ⟨E.1, E.2.1, E.2.2.2.2.1, E.2.2.2.2.2.1, hts⟩ hM cw
    ⟨Pq_blind G _ μ, hcell, fun U hU hW => pre_ok hK hH hS (vld_cons hvr (vld_rev hv1.1)) hU hW⟩ rfl (by simpa using hn) hL.1 (by simp [mv]) (by rw [wsum_cat]; show 2 * 0 + _ ≤ 8; omega) hd ⟨E.2.2.2.2.2.2.2.2.1, E.2.2.2.2.2.2.2.2.2⟩
  refine run_to hrun hS (fun v μ' H1 locs1 hp hH1 hS1 => ?_)
  obtain ⟨x, hx, hxv, hxs⟩ := h v μ' hp
  rw [hx, ← List.map_append]
  exact hxs p e s m args below meth c cells slots Q E R H1 locs1 L hH1 hS1 hL hl (fun u hu => (List.mem_append.mp hu).elim (hxv u) (vld_tl hv1.2 u))
theorem SS_callS {idx : Nat} {as r : List Vl} (hd : decode (mc M) pc = .ok (.invokestatic idx, 3)) (hc : okC (my M).cls (idx, 1, M') = true ∨ okC (my M).cls (idx, 2, M') = true) (hn : as.length = mN M') (hw : wsum r ≤ 8) (hfr : (mR M').frames + 1 ≤ (mR M).frames) (hlo : 8 + (mL M' + 11) + (mR M').locals ≤ (mR M).locals)
    (hM : CS G M' as μ Ψ) (h : ∀ v μ', Ψ v μ' → ∃ x : List Vl, v.toList = x.map (mv G) ∧ vld x ∧ SS G M (pc + 3) ls (x ++ r) μ' Φ) : SS G M pc ls (as.reverse ++ r) μ Φ := by
  intro p e s m args below meth c cells slots Q E R H locs L hH hS hL hl hst
  have hts := E.2.2.2.2.2.2.1
  have hK := E.2.2.2.2.2.2.2.1
  have hv1 := vld_app hst
  have hp : PreS s H (Pq G as μ) (as.map (mv G)) := ⟨Pq_blind G _ μ, fun U hU hW => pre_ok hK hH hS (vld_rev hv1.1) hU hW⟩
  have kk : ∀ (v : Option Value) (μ' : Mm) (H1 : Heap) (locs1 : List Loc), Ψ v μ' → Hd G μ' H1 → va_S (Aw G) s.heap H1 locs1 → W p (gl G) e (mR M) s m args below meth c H1 locs1 cells slots Q (F0 m (pc + 3) L (v.toList ++ r.map (mv G))) := by
    intro v μ' H1 locs1 hp hH1 hS1
    obtain ⟨x, hx, hxv, hxs⟩ := h v μ' hp
    rw [hx, ← List.map_append]
    exact hxs p e s m args below meth c cells slots Q E R H1 locs1 L hH1 hS1 hL hl (fun u hu => (List.mem_append.mp hu).elim (hxv u) (hv1.2 u))
  rcases hc with hc | hc
  · unfold okC at hc
    simp only [Bool.and_eq_true, decide_eq_true_eq] at hc
    obtain ⟨⟨⟨⟨⟨c1, c2⟩, c3⟩, c4⟩, c5⟩, c6, c7⟩ := hc
    have c1 : (mR M').cells = 0 := Nat.eq_of_beq_eq_true c1
    have c2 : (mR M').slots = 0 := Nat.eq_of_beq_eq_true c2
    have cw : CallB (mR M) s args (my M).cls idx (my M') (mc M') (mL M') (mr M') (mws M') (mR M') 0 0 (mN M') ∧ (Cond.static (my M')).before args s = true :=
      va_cwS (mN M') hts (good_tbl (fun w hw => by
        rcases List.mem_append.mp hw with h1 | h1
        · simp only [List.mem_cons, List.not_mem_nil, or_false] at h1
          rcases h1 with rfl | rfl | rfl
          · exact c6
          · exact c7
          · exact c4
        · exact mws_good c3 w h1)) rfl c1 c2 c5 ⟨hfr, hlo⟩
    exact run_to (va_runS (e := e) (below := below) (meth := meth) (H := H) (locs := locs) (cells := cells) (slots := slots) (As := as.map (mv G)) (rest := r.map (mv G)) (g := F0 m pc L ((as.reverse ++ r).map (mv G))) ⟨E.1, E.2.1, E.2.2.2.2.1, E.2.2.2.2.2.1, hts⟩ hM cw hp rfl (by simpa using hn) hL.1 (by simp) (by rw [wsum_cat]; show 2 * 0 + _ ≤ 8; omega) hd ⟨E.2.2.2.2.2.2.2.2.1, E.2.2.2.2.2.2.2.2.2⟩) hS kk
  · unfold okC at hc
    simp only [Bool.and_eq_true, decide_eq_true_eq] at hc
    obtain ⟨⟨⟨⟨⟨c1, c2⟩, c3⟩, c4⟩, c5⟩, c6, c7⟩ := hc
    have c1 : (mR M').cells = 0 := Nat.eq_of_beq_eq_true c1
    have c2 : (mR M').slots = 0 := Nat.eq_of_beq_eq_true c2
    have cw : va_CN (mR M) s args (my M).cls idx (my M') "ColdShares" (mc M') (mL M') (mr M') (mws M') (mR M') 0 0 (mN M') :=
      ⟨⟨c1, c2, hfr, hlo, pay_in hts (good_tbl (mws_good c3)), List.mem_cons_self⟩, hts _ c3, hts _ c4, ⟨c5.1, c5.2.1⟩, fun sig hs => by
        have h2 := c5.2.2
        rw [hs] at h2
        exact (Option.some.inj h2).symm, va_Nw.use rfl (hK.2.2.2.2.2.2.2 _ c6 rfl)⟩
    exact run_to (va_runSN (e := e) (below := below) (meth := meth) (H := H) (locs := locs) (cells := cells) (slots := slots) (As := as.map (mv G)) (rest := r.map (mv G)) (g := F0 m pc L ((as.reverse ++ r).map (mv G))) ⟨E.1, E.2.1, E.2.2.2.2.1, E.2.2.2.2.2.1, hts⟩ hM ⟨cw, hts _ c7, trivial⟩ hp rfl (by simpa using hn) hL.1 (by simp) (by rw [wsum_cat]; show 2 * 0 + _ ≤ 8; omega) hd ⟨E.2.2.2.2.2.2.2.2.1, E.2.2.2.2.2.2.2.2.2⟩) hS kk
/-! what a call gives -/
theorem callK_c {as r : List Vl} {nx : List Vl → Mm → Prop} (h : callK G M' as μ r nx) (N : ∀ st1 μ1, nx st1 μ1 → SS G M (pc + 3) ls st1 μ1 Φ) : ∃ Ψ : Ph, CS G M' as μ Ψ ∧ ∀ v μ', Ψ v μ' → ∃ x : List Vl, v.toList = x.map (mv G) ∧ vld x ∧ SS G M (pc + 3) ls (x ++ r) μ' Φ := by
  have hI : CS G M' as μ (RI (fun v μ' => nx (vi v :: r) μ')) → ∃ Ψ : Ph, CS G M' as μ Ψ ∧ ∀ v μ', Ψ v μ' → ∃ x : List Vl, v.toList = x.map (mv G) ∧ vld x ∧ SS G M (pc + 3) ls (x ++ r) μ' Φ := by
    intro h
    refine ⟨_, h, fun v μ' hv => ?_⟩
    unfold RI at hv
    split at hv
    · exact ⟨[vi _], rfl, fun u hu => by rw [List.mem_singleton.mp hu]; rfl, N _ _ hv⟩
    · exact hv.elim
  unfold callK at h
  split at h
  · refine ⟨_, h, fun v μ' hv => ?_⟩
    unfold RV at hv
    split at hv
    · exact ⟨[], rfl, (fun u hu => absurd hu List.not_mem_nil), N _ _ hv⟩
    · exact hv.elim
  · exact hI h
  · exact hI h
  · refine ⟨_, h, fun v μ' hv => ?_⟩
    unfold RL at hv
    split at hv
    · exact ⟨[vl _], rfl, fun u hu => by rw [List.mem_singleton.mp hu]; rfl, N _ _ hv⟩
    · exact hv.elim
  · exact h.elim
end S4
