section S7
variable {G : Ge} {M : MS} {lk : Lk} {ls st : List Vl} {μ : Mm} {Φ : Ph} {nx : Nat → List Vl → List Vl → Mm → Prop}
theorem call_ok {i a len : Nat} (h : (Nat.beq len 3 && Nat.blt a lk.2.1.length && (match lk.2.1.getD a (0, 9, m0) with
      | (i', _, M') => Nat.beq i i' && Nat.ble ((mR M').frames + 1) (mR M).frames && Nat.ble (8 + (mL M' + 11) + (mR M').locals) (mR M).locals)) = true) : len = 3 ∧ lk.2.1.getD a (0, 9, m0) ∈ lk.2.1 ∧ i = (lk.2.1.getD a (0, 9, m0)).1 ∧ (mR (lk.2.1.getD a (0, 9, m0)).2.2).frames + 1 ≤ (mR M).frames ∧ 8 + (mL (lk.2.1.getD a (0, 9, m0)).2.2 + 11) + (mR (lk.2.1.getD a (0, 9, m0)).2.2).locals ≤ (mR M).locals := by
  obtain ⟨h, h2⟩ := ok2 h
  obtain ⟨h0, h1⟩ := ok2 h
  have hm := getD_mem (d := (0, 9, m0)) (Nat.le_of_ble_eq_true h1)
  generalize lk.2.1.getD a (0, 9, m0) = q at h2 hm
  obtain ⟨i', kd, M'⟩ := q
  obtain ⟨h2, h4⟩ := ok2 h2
  obtain ⟨h2, h3⟩ := ok2 h2
  exact ⟨beqN h0, hm, beqN h2, Nat.le_of_ble_eq_true h3, Nat.le_of_ble_eq_true h4⟩
theorem call_okS {i a len : Nat} (h : (Nat.beq len 3 && Nat.blt a lk.2.1.length && (match lk.2.1.getD a (0, 9, m0) with
      | (i', 3, _) => Nat.beq i i' && Nat.ble 1 (mR M).frames && Nat.ble 26 (mR M).locals
      | (i', _, M') => Nat.beq i i' && Nat.ble ((mR M').frames + 1) (mR M).frames && Nat.ble (8 + (mL M' + 11) + (mR M').locals) (mR M).locals)) = true) : len = 3 ∧ lk.2.1.getD a (0, 9, m0) ∈ lk.2.1 ∧ i = (lk.2.1.getD a (0, 9, m0)).1 ∧ ((lk.2.1.getD a (0, 9, m0)).2.1 = 3 → 1 ≤ (mR M).frames ∧ 26 ≤ (mR M).locals) ∧ ((lk.2.1.getD a (0, 9, m0)).2.1 ≠ 3 → (mR (lk.2.1.getD a (0, 9, m0)).2.2).frames + 1 ≤ (mR M).frames ∧ 8 + (mL (lk.2.1.getD a (0, 9, m0)).2.2 + 11) + (mR (lk.2.1.getD a (0, 9, m0)).2.2).locals ≤ (mR M).locals) := by
  obtain ⟨h, h2⟩ := ok2 h
  obtain ⟨h0, h1⟩ := ok2 h
  have hm := getD_mem (d := (0, 9, m0)) (Nat.le_of_ble_eq_true h1)
  generalize lk.2.1.getD a (0, 9, m0) = q at h2 hm
  obtain ⟨i', kd, M'⟩ := q
  by_cases hk : kd = 3
  · subst hk
    obtain ⟨h2, h4⟩ := ok2 h2
    obtain ⟨h2, h3⟩ := ok2 h2
    exact ⟨beqN h0, hm, beqN h2, fun _ => ⟨Nat.le_of_ble_eq_true h3, Nat.le_of_ble_eq_true h4⟩, fun h => absurd rfl h⟩
  · have h2 : (Nat.beq i i' && Nat.ble ((mR M').frames + 1) (mR M).frames && Nat.ble (8 + (mL M' + 11) + (mR M').locals) (mR M).locals) = true := by
      match kd, hk, h2 with
      | 0, _, h => exact h
      | 1, _, h => exact h
      | 2, _, h => exact h
      | 3, hk, _ => exact absurd rfl hk
      | n + 4, _, h => exact h
    obtain ⟨h2, h4⟩ := ok2 h2
    obtain ⟨h2, h3⟩ := ok2 h2
    exact ⟨beqN h0, hm, beqN h2, fun h => absurd h hk, fun _ => ⟨Nat.le_of_ble_eq_true h3, Nat.le_of_ble_eq_true h4⟩⟩
set_option maxHeartbeats 1000000 in
theorem stp_s (e : En) (hlk : okL (my M).cls lk) (hd : decode (mc M) e.1 = .ok (e.2.1, e.2.2.1)) (ho : okI M lk e = true) (N : ∀ pc1 ls1 st1 μ1, nx pc1 ls1 st1 μ1 → SS G M pc1 ls1 st1 μ1 Φ) (h : stp G M lk.2.1 e nx ls st μ Φ) : SS G M e.1 ls st μ Φ := by
  obtain ⟨pc, ins, len, a, b, c, d, cs⟩ := e
  replace hd : decode (mc M) pc = .ok (ins, len) := hd
  show SS G M pc ls st μ Φ
  cases ins
  case iconst n =>
    obtain ⟨h0, hc⟩ := ok2 ho
    cases beqN h0
    exact s_iconst hd (of_decide_eq_true hc) N h
  case bipush n =>
    obtain ⟨h0, hc⟩ := ok2 ho
    cases beqN h0
    exact s_bipush hd (of_decide_eq_true hc) N h
  case sipush n =>
    obtain ⟨h0, hc⟩ := ok2 ho
    cases beqN h0
    exact s_sipush hd (of_decide_eq_true hc) N h
  case ldc i =>
    obtain ⟨h0, hc⟩ := ok2 ho
    cases beqN h0
    exact s_ldc hd (hlk.2.2.1 _ (of_decide_eq_true hc)) N h
  case ldc_w i =>
    obtain ⟨h0, hc⟩ := ok2 ho
    cases beqN h0
    exact s_ldc_w hd (hlk.2.2.1 _ (of_decide_eq_true hc)) N h
  case lconst n =>
    obtain ⟨h0, hc⟩ := ok2 ho
    cases beqN h0
    exact s_lconst hd (of_decide_eq_true hc) N h
  case ldc2_w i =>
    obtain ⟨h0, hc⟩ := ok2 ho
    cases beqN h0
    exact s_ldc2_w hd (hlk.2.2.2.1 _ (of_decide_eq_true hc)) N h
  case iload_n k =>
    cases beqN ho
    obtain ⟨x, i, hx, g1⟩ := lI_c h
    exact s_iload_n hd hx N g1
  case iload k =>
    cases beqN ho
    obtain ⟨x, i, hx, g1⟩ := lI_c h
    exact s_iload hd hx N g1
  case lload_n k =>
    cases beqN ho
    obtain ⟨x, i, hx, g1⟩ := lJ_c h
    exact s_lload_n hd hx N g1
  case lload k =>
    cases beqN ho
    obtain ⟨x, i, hx, g1⟩ := lJ_c h
    exact s_lload hd hx N g1
  case aload_n k =>
    cases beqN ho
    obtain ⟨x, i, hx, g1⟩ := lA_c h
    exact s_aload_n hd hx N g1
  case aload k =>
    cases beqN ho
    obtain ⟨x, i, hx, g1⟩ := lA_c h
    exact s_aload hd hx N g1
  case istore_n k =>
    cases beqN ho
    exact s_istore_n hd N h
  case istore k =>
    cases beqN ho
    exact s_istore hd N h
  case lstore_n k =>
    cases beqN ho
    exact s_lstore_n hd N h
  case lstore k =>
    cases beqN ho
    exact s_lstore hd N h
  case astore_n k =>
    cases beqN ho
    exact s_astore_n hd N h
  case astore k =>
    cases beqN ho
    exact s_astore hd N h
  case iinc k n =>
    obtain ⟨h0, hc⟩ := ok2 ho
    cases beqN h0
    obtain ⟨x, i, hx, g1⟩ := lI_c h
    exact s_iinc hd (of_decide_eq_true hc) hx N g1
  case iadd =>
    cases beqN ho
    exact s_iadd hd N h
  case isub =>
    cases beqN ho
    exact s_isub hd N h
  case imul =>
    cases beqN ho
    exact s_imul hd N h
  case iand =>
    cases beqN ho
    exact s_iand hd N h
  case ior =>
    cases beqN ho
    exact s_ior hd N h
  case ishl =>
    cases beqN ho
    exact s_ishl hd N h
  case ishr =>
    cases beqN ho
    exact s_ishr hd N h
  case iushr =>
    cases beqN ho
    exact s_iushr hd N h
  case idiv =>
    cases beqN ho
    exact s_idiv hd N h
  case ladd =>
    cases beqN ho
    exact s_ladd hd N h
  case lmul =>
    cases beqN ho
    exact s_lmul hd N h
  case ldiv =>
    cases beqN ho
    exact s_ldiv hd N h
  case lrem =>
    cases beqN ho
    exact s_lrem hd N h
  case lneg =>
    cases beqN ho
    exact s_lneg hd N h
  case lcmp =>
    cases beqN ho
    exact s_lcmp hd N h
  case i2l =>
    cases beqN ho
    exact s_i2l hd N h
  case l2i =>
    cases beqN ho
    exact s_l2i hd N h
  case i2b =>
    cases beqN ho
    exact s_i2b hd N h
  case dup =>
    cases beqN ho
    match st, h with
    | v :: r, h => exact s_dup hd rfl N h
  case pop =>
    cases beqN ho
    match st, h with
    | v :: r, h => exact s_pop hd rfl N h
  case dup2 =>
    cases beqN ho
    match st, h with
    | v :: w :: r, h => exact s_dup2 hd rfl N h
  case goto off =>
    obtain ⟨h0, hc⟩ := ok2 ho
    cases beqN h0
    exact s_goto hd (of_decide_eq_true hc) N h
  case ifCond cd off =>
    obtain ⟨h0, hc⟩ := ok2 ho
    cases beqN h0
    cases cd
    case eq => exact s_if_eq hd (of_decide_eq_true hc) N h
    case ne => exact s_if_ne hd (of_decide_eq_true hc) N h
    case lt => exact s_if_lt hd (of_decide_eq_true hc) N h
    case ge => exact s_if_ge hd (of_decide_eq_true hc) N h
    case gt => exact s_if_gt hd (of_decide_eq_true hc) N h
    case le => exact s_if_le hd (of_decide_eq_true hc) N h
  case if_icmp cd off =>
    obtain ⟨h0, hc⟩ := ok2 ho
    cases beqN h0
    cases cd
    case eq => exact s_icmp_eq hd (of_decide_eq_true hc) N h
    case ne => exact s_icmp_ne hd (of_decide_eq_true hc) N h
    case lt => exact s_icmp_lt hd (of_decide_eq_true hc) N h
    case ge => exact s_icmp_ge hd (of_decide_eq_true hc) N h
    case gt => exact s_icmp_gt hd (of_decide_eq_true hc) N h
    case le => exact s_icmp_le hd (of_decide_eq_true hc) N h
  case ifnull off =>
    obtain ⟨h0, hc⟩ := ok2 ho
    cases beqN h0
    match st, h with
    | (.null, e1) :: r, h => exact s_ifnullN rfl hd (of_decide_eq_true hc) N h
    | (.ref x, e1) :: r, h => exact s_ifnullR rfl hd N h
  case tableswitch dflt lo hi offs =>
    obtain ⟨x, e1, r, rfl, g1⟩ := p1_c h
    exact SS_table hd ho N g1
  case lookupswitch dflt ps =>
    obtain ⟨x, e1, r, rfl, g1⟩ := p1_c h
    exact SS_lookup hd ho N g1
  case getfield i =>
    obtain ⟨h0, hc⟩ := ok2 ho
    cases beqN h0
    obtain ⟨k, j, r, rfl, g1⟩ := pr_c h
    exact gF_s hd (hlk.1 _ (of_decide_eq_true hc)) N g1
  case putfield i =>
    obtain ⟨h0, hc⟩ := ok2 ho
    cases beqN h0
    exact pF_s hd (hlk.1 _ (of_decide_eq_true hc)) N h
  case getstatic i =>
    obtain ⟨h0, hc⟩ := ok2 ho
    cases beqN h0
    exact SS_gets hd (hlk.2.2.2.2 _ (of_decide_eq_true hc)) (N _ _ _ _ h)
  case iaload =>
    cases beqN ho
    obtain ⟨j, e1, k, i, r, rfl, g1⟩ := pa_c h
    split at g1
    · rename_i ht
      exact SS_iald hd ht g1.1 (N _ _ _ _ g1.2)
    · rename_i ht
      exact SS_rald hd ht g1.1 (N _ _ _ _ g1.2)
    · rename_i ht
      exact SS_sald hd ht g1.1 (N _ _ _ _ g1.2)
    · exact g1.elim
  case laload =>
    cases beqN ho
    obtain ⟨j, e1, k, i, r, rfl, g1⟩ := pa_c h
    split at g1
    · rename_i ht
      exact SS_lald hd ht g1.1 (N _ _ _ _ g1.2)
    · exact g1.elim
  case baload =>
    cases beqN ho
    obtain ⟨j, e1, k, i, r, rfl, g1⟩ := pa_c h
    split at g1
    · rename_i ht
      exact SS_bald hd ht g1.1 (N _ _ _ _ g1.2)
    · rename_i ht
      exact SS_zald hd ht g1.1 (N _ _ _ _ g1.2)
    · exact g1.elim
  case aaload =>
    cases beqN ho
    obtain ⟨j, e1, k, i, r, rfl, g1⟩ := pa_c h
    split at g1
    · rename_i ht
      exact SS_aald hd ht g1.1 (N _ _ _ _ g1.2)
    · exact g1.elim
  case iastore =>
    cases beqN ho
    obtain ⟨x, e1, j, e2, k, i, r, rfl, g1⟩ := ps_c h
    split at g1
    · rename_i ht
      exact SS_iast hd ht g1.1 (N _ _ _ _ g1.2)
    · exact g1.elim
  case lastore =>
    cases beqN ho
    obtain ⟨x, e1, j, e2, k, i, r, rfl, g1⟩ := pls_c h
    split at g1
    · rename_i ht
      exact SS_last hd ht g1.1 (N _ _ _ _ g1.2)
    · exact g1.elim
  case bastore =>
    cases beqN ho
    obtain ⟨x, e1, j, e2, k, i, r, rfl, g1⟩ := ps_c h
    split at g1
    · rename_i ht
      exact SS_bast hd ht g1.1 (N _ _ _ _ g1.2)
    · rename_i ht
      exact SS_zast hd ht g1.1 (N _ _ _ _ g1.2)
    · exact g1.elim
  case arraylength =>
    cases beqN ho
    obtain ⟨k, i, r, rfl, g1⟩ := pr_c h
    split at g1
    · rename_i ht
      exact SS_alen hd (Or.inl ht) (N _ _ _ _ g1)
    · rename_i ht
      exact SS_alen hd (Or.inr ht) (N _ _ _ _ g1)
    · rename_i ht
      exact SS_slen hd ht (N _ _ _ _ g1)
    · exact g1.elim
  case invokevirtual i =>
    obtain ⟨rfl, hm, hi, h4, h5⟩ := call_ok ho
    exact cV_s hd (hlk.2.1 _ hm) hi h4 h5 N h
  case invokestatic i =>
    obtain ⟨rfl, hm, hi, h4, h5⟩ := call_okS ho
    exact cS_s hd (hlk.2.1 _ hm) hi h4 h5 N h
  case ireturn =>
    cases beqN ho
    replace h : eI M st μ Φ := h
    unfold eI at h
    split at h
    · split at h
      · rename_i hr
        intro p e s m args below meth c cells slots Q E R H locs L hH hS hL hl hst
        exact R _ μ H locs L pc h hH hS ⟨hd, Or.inl hr⟩
      · rename_i hr
        intro p e s m args below meth c cells slots Q E R H locs L hH hS hL hl hst
        exact R _ μ H locs L pc h.2 hH hS ⟨hd, Or.inr ⟨hr, h.1⟩⟩
      · exact h.elim
    · exact h.elim
  case lreturn =>
    cases beqN ho
    replace h : eJ M st μ Φ := h
    unfold eJ at h
    split at h
    · split at h
      · rename_i hr
        intro p e s m args below meth c cells slots Q E R H locs L hH hS hL hl hst
        exact R _ μ H locs L pc h hH hS ⟨hd, hr⟩
      · exact h.elim
    · exact h.elim
  case return_ =>
    cases beqN ho
    replace h : eV M st μ Φ := h
    unfold eV at h
    split at h
    · split at h
      · rename_i hr
        intro p e s m args below meth c cells slots Q E R H locs L hH hS hL hl hst
        exact R _ μ H locs L pc h hH hS ⟨hd, hr⟩
      · exact h.elim
    · exact h.elim
  all_goals exact False.elim h
theorem fnd_c {pc : Nat} {tb : List En} {e : En} (h : fnd pc tb = some e) : e ∈ tb ∧ e.1 = pc := by
  induction tb with
  | nil => cases h
  | cons x l ih =>
    unfold fnd at h
    split at h
    · rename_i hb
      cases h
      exact ⟨List.mem_cons_self, beqN hb⟩
    · exact ⟨List.mem_cons_of_mem _ (ih h).1, (ih h).2⟩
/-- all of a block's rows are as the code has them -/
def okB (M : MS) (lk : Lk) (tb : List En) : Bool := tb.all (fun e => decide (decode (mc M) e.1 = .ok (e.2.1, e.2.2.1)) && okI M lk e)
theorem wp_s {tb : List En} {cu : List (Nat × List Bool)} (hlk : okL (my M).cls lk) (hok : okB M lk tb = true) : ∀ (n : Nat) (fst : Bool) (pc : Nat) (ls st : List Vl) (μ : Mm), wp G M lk.2.1 tb cu Φ n fst pc ls st μ → SS G M pc ls st μ Φ := by
  intro n
  induction n with
  | zero => intro fst pc ls st μ h; exact h.elim
  | succ n ih =>
    intro fst pc ls st μ h
    unfold wp at h
    split at h
    · rename_i bs hbs
      intro p e s m args below meth c cells slots Q E R H locs L hH hS hL hl hst
      exact h p e s m args below meth c cells slots Q E R H locs L hH hS (lR_msk bs hL) (vld_msk bs hl) hst
    · split at h
      · rename_i e he
        obtain ⟨hm, rfl⟩ := fnd_c he
        have hq := ok2 (List.all_eq_true.mp hok e hm)
        exact stp_s e hlk (of_decide_eq_true hq.1) hq.2 (fun pc1 ls1 st1 μ1 hx => ih false pc1 ls1 st1 μ1 hx) h
      · exact h.elim
/-- the locals at the beginning -/
def entL : Nat → List Vl → List Vl
  | n, [] => List.replicate n un
  | n, v :: vs => match vcat v with
    | 2 => v :: un :: entL (n - 2) vs
    | _ => v :: entL (n - 1) vs
theorem vcat_12 (v : Vl) : vcat v = v.1.category ∧ (vcat v = 1 ∨ vcat v = 2) := by
  obtain ⟨a, b⟩ := v
  cases a <;> first | exact ⟨rfl, Or.inl rfl⟩ | exact ⟨rfl, Or.inr rfl⟩
theorem lp_un (G : Ge) : ∀ (n b : Nat), lp G b (List.replicate n un) = []
  | 0, _ => rfl
  | n + 1, b => lp_un G n (b + 1)
theorem lp_ent (G : Ge) : ∀ (as : List Vl) (n b : Nat) (q : Nat × Value), q ∈ lp G b (entL n as) → q ∈ lv_args b (as.map (mv G))
  | [], n, b, q, h => by
    rw [show entL n [] = List.replicate n un from rfl, lp_un] at h
    cases h
  | v :: vs, n, b, q, h => by
    have hc := vcat_12 v
    have hargs : lv_args b ((v :: vs).map (mv G)) = (b, mv G v) :: lv_args (if (mv G v).category = 2 then b + 2 else b + 1) (vs.map (mv G)) := rfl
    rw [hargs, mv_cat, ← hc.1]
    have hcons : ∀ l : List Vl, q ∈ lp G b (v :: l) → q = (b, mv G v) ∨ q ∈ lp G (b + 1) l := by
      intro l hq
      obtain ⟨a1, a2⟩ := v
      cases a1 <;> first | exact Or.inr hq | exact List.mem_cons.mp hq
    rcases hc.2 with e | e
    · rw [show entL n (v :: vs) = v :: entL (n - 1) vs by simp [entL, e]] at h
      rw [if_neg (by rw [e]; decide)]
      rcases hcons _ h with rfl | h
      · exact List.mem_cons_self
      · exact List.mem_cons_of_mem _ (lp_ent G vs (n - 1) (b + 1) q h)
    · rw [show entL n (v :: vs) = v :: un :: entL (n - 2) vs by simp [entL, e]] at h
      rw [if_pos e]
      rcases hcons _ h with rfl | h
      · exact List.mem_cons_self
      · exact List.mem_cons_of_mem _ (lp_ent G vs (n - 2) (b + 2) q h)
theorem vld_ent : ∀ (as : List Vl) (n : Nat), vld as → vld (entL n as)
  | [], n, _ => by
    intro u hu
    rw [List.eq_of_mem_replicate (show u ∈ List.replicate n un from hu)]
    exact vok_un
  | v :: vs, n, h => by
    rcases (vcat_12 v).2 with e | e
    · rw [show entL n (v :: vs) = v :: entL (n - 1) vs by simp [entL, e]]
      exact vld_cons (vld_hd h) (vld_ent vs _ (vld_tl h))
    · rw [show entL n (v :: vs) = v :: un :: entL (n - 2) vs by simp [entL, e]]
      exact vld_cons (vld_hd h) (vld_cons vok_un (vld_ent vs _ (vld_tl h)))
theorem lg_len (G : Ge) : ∀ as : List Vl, (lg_sl (as.map (mv G))).length = wsum as
  | [] => rfl
  | v :: vs => by
    have h := lg_len G vs
    rw [List.map_cons]
    unfold lg_sl at h ⊢
    rw [List.flatMap_cons, List.length_append, h, mv_cat, ← (vcat_12 v).1]
    rcases (vcat_12 v).2 with e | e
    · rw [if_neg (by rw [e]; decide)]
      show 1 + wsum vs = vcat v + wsum vs
      rw [e]
    · rw [if_pos e]
      show 2 + wsum vs = vcat v + wsum vs
      rw [e]
theorem Met.ofWF {l : Launch} {y : MethodName} {ws ws' : List Cond} {rm : Room} {Pc : Array Value → State → Prop} {Qc : Array Value → State → Outcome → State → Prop} {mc ms : Nat} {free : Addr → Prop} {cc : ByteArray} {maxL : Nat} {ret : Option FieldType}
    (hy : plainFor y = true) (hw : ws = Cond.code y cc maxL ret :: ws')
    (body : ∀ p e s m args below meth c s₁, BodyLoose p l y (headSpec ws rm) cc maxL ret e s m args below meth c s₁ → c.maxLocals = maxL → Pc args s →
      W p l e (headSpec ws rm).room s m args below meth c s.heap [] 0 0 (MQ below Qc args s mc ms free) (entryFrame m args maxL)) : Met l y ws rm Pc Qc mc ms free := by
  refine MetFree.of_bodySF (code := cc) (maxLocals := maxL) (ret := ret) hy ?_ ?_
  · intro args s m h hn
    obtain ⟨meth, c, h1, h2, h3, h4, h5, h6, -, -⟩ := Cond.code_spec hn (atoms_spec (ws := ws) h _ (by rw [hw]; exact List.mem_cons_self))
    exact ⟨meth, c, h1, h2, h3, h4, h5, h6⟩
  · intro p e s m args below meth c s₁ B hml hP _
    have hh0 : s₁.heap = s.heap := by rw [B.state]; rfl
    obtain ⟨t, a1, o, b1, b2, b3⟩ := body p e s m args below meth c s₁ B hml hP s₁ hh0 (Stand.of_body B)
    exact ⟨t, o, a1, b1, b2, ⟨b3.1, b3.2⟩⟩
/-- a contract out of the walk of the body -/
theorem CS_of {as : List Vl} (hy : plainFor (my M) = true) (hn : wsum as ≤ mL M) (h : SS G M 0 (entL (mL M) as) [] μ Φ) : CS G M as μ Φ := by
  refine Met.ofWF (cc := mc M) (maxL := mL M) (ret := mr M) hy rfl ?_
  intro p e s m args below meth c s₁ B hml hv
  obtain ⟨rfl, hvl, hK, hH⟩ := hv
  have hts := atoms_spec (ws := mws M) B.pre
  have hown : s.vm.findClass (my M).cls = some m.cls := findClass_of_methodNamed B.named
  have hl := lv_entry (as.map (mv G)) (n := mL M) (by rw [lg_len]; exact hn)
  rw [lg_entry_eq]
  generalize (lg_sl (as.map (mv G)) ++ List.replicate (mL M - (lg_sl (as.map (mv G))).length) Slot.unset).toArray = L at hl ⊢
  have hlocks := B.notSynchronized
  have hx := B.exec
  have hb := B.bytes
  refine h p e s m _ below meth c 0 0 _ ⟨B.exec, B.bytes, B.returns, B.notSynchronized, hml, hown, fun w hw => hts w (List.mem_cons_of_mem _ hw), hK, Nat.zero_le _, Nat.zero_le _⟩ ?_ s.heap [] L hH va_S.rf (lv_mono hl (fun q hq => lp_ent G as (mL M) 0 q hq)) (vld_ent as _ hvl) (fun u hu => by cases hu)
  intro r μ' H locs L' pc hΦ hH' hS hm
  match r, hm with
  | some (.int v), hm =>
    rcases hm.2 with hr | ⟨hr, hv⟩
    · exact W.iret (v := v) hx hb (by rw [B.returns]; exact hr) (fun t ht hW => ⟨⟨_, μ', rfl, hΦ, by rw [ht]; exact hH'⟩, hS.F ht⟩) hS.2.2 hm.1
    · exact W.zret (v := v) (ty := .boolean) hx hb (by rw [B.returns]; exact hr) (by rcases hv with rfl | rfl <;> decide) (fun t ht hW => ⟨⟨_, μ', rfl, hΦ, by rw [ht]; exact hH'⟩, hS.F ht⟩) hS.2.2 hm.1
  | some (.long v), hm =>
    exact W.lret (v := v) hx hb (by rw [B.returns]; exact hm.2) (fun t ht hW => ⟨⟨_, μ', rfl, hΦ, by rw [ht]; exact hH'⟩, hS.F ht⟩) hS.2.2 hm.1
  | none, hm =>
    exact W.vret hx hb (by rw [B.returns]; exact hm.2) (fun t ht hW => ⟨⟨_, μ', rfl, hΦ, by rw [ht]; exact hH'⟩, hS.F ht⟩) hS.2.2 hm.1
  | some (.float _), hm => exact hm.elim
  | some (.double _), hm => exact hm.elim
  | some .null, hm => exact hm.elim
  | some (.ref _), hm => exact hm.elim
  | some (.retAddr _), hm => exact hm.elim
end S7
