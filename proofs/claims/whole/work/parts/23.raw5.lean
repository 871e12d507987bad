section R4
variable {G : Ge} {M : MS} {ms : Nat → MS} {lk : Lk} {ls st : List Vl} {cs cs' : Rm} {k w : Nat} {nx : Nx} {cl : Nat → List Vl → Rm → Option Rm}
set_option maxHeartbeats 1000000 in
theorem rst_s (e : En) (hlk : okL (my M).cls lk) (hok : okRE M ms lk e = true) (hf : 1 ≤ (mR M).frames) (N : ∀ pc1 ls1 st1 cs1 k1 w1, nx pc1 ls1 st1 cs1 k1 w1 = some cs' → RS G M pc1 ls1 st1 cs1 k1 w1 cs')
    (C : ∀ j as cs1 cs2, cl j as cs1 = some cs2 → RS G (ms j) 0 (entL (mL (ms j)) as) [] cs1 0 0 cs2) (h : rst M ms e nx cl ls st cs k w = some cs') : RS G M e.1 ls st cs k w cs' := by
  obtain ⟨hd0, ho⟩ := ok2 hok
  have hd := of_decide_eq_true hd0
  clear hd0 hok
  obtain ⟨pc, ins, len, a, b, c, d, cz⟩ := e
  replace hd : decode (mc M) pc = .ok (ins, len) := hd
  show RS G M pc ls st cs k w cs'
  cases ins
  case aload_n i =>
    cases beqN ho
    obtain ⟨x, hx, g⟩ := xa_c h
    exact RS_go (fun p e s m args below meth c Q E H locs L hL kk => lv_aload_n E.1 E.2.1 hd rfl (lR_get hL hx (fun q h => by cases h)) kk) (N _ _ _ _ _ _ g)
  case iload_n i =>
    cases beqN ho
    obtain ⟨x, y, hx, g⟩ := xi_c h
    exact RS_go (fun p e s m args below meth c Q E H locs L hL kk => lv_iload_n E.1 E.2.1 hd rfl (lR_get hL hx (fun q h => by cases h)) kk) (N _ _ _ _ _ _ g)
  case iconst n =>
    obtain ⟨h0, hc⟩ := ok2 ho
    cases beqN h0
    exact RS_go (fun p e s m args below meth cc Q E H locs L hL kk => lv_iconst E.1 E.2.1 hd (of_decide_eq_true hc) kk) (N _ _ _ _ _ _ h)
  case bipush n =>
    obtain ⟨h0, hc⟩ := ok2 ho
    cases beqN h0
    exact RS_go (fun p e s m args below meth cc Q E H locs L hL kk => lv_bipush E.1 E.2.1 hd (of_decide_eq_true hc) kk) (N _ _ _ _ _ _ h)
  case sipush n =>
    obtain ⟨h0, hc⟩ := ok2 ho
    cases beqN h0
    exact RS_go (fun p e s m args below meth cc Q E H locs L hL kk => lv_sipush E.1 E.2.1 hd (of_decide_eq_true hc) kk) (N _ _ _ _ _ _ h)
  case lconst n =>
    obtain ⟨h0, hc⟩ := ok2 ho
    cases beqN h0
    exact RS_go (fun p e s m args below meth cc Q E H locs L hL kk => lv_lconst E.1 E.2.1 hd (of_decide_eq_true hc) kk) (N _ _ _ _ _ _ h)
  case aconst_null =>
    cases beqN ho
    exact RS_go (fun p e s m args below meth cc Q E H locs L hL kk => lv_null E.1 E.2.1 hd kk) (N _ _ _ _ _ _ h)
  case dup =>
    cases beqN ho
    obtain ⟨o, r, rfl, g⟩ := xr_c h
    exact RS_go (fun p e s m args below meth cc Q E H locs L hL kk => lv_dup E.1 E.2.1 hd rfl kk) (N _ _ _ _ _ _ g)
  case istore_n i =>
    cases beqN ho
    obtain ⟨x, e1, r, rfl, g⟩ := x1_c h
    split at g
    · rename_i hlt
      intro p e s m args below meth c Q E R H locs L hH hS hL
      refine lv_istore_n E.1 E.2.1 hd rfl hL hlt rfl (fun L1 hL1 => ?_)
      exact N _ _ _ _ _ _ g p e s m args below meth c Q E R H locs L1 hH hS (lR_st1 (v := vi x) hL1)
    · cases g
  case iinc i n =>
    obtain ⟨h0, hc⟩ := ok2 ho
    cases beqN h0
    have hc := of_decide_eq_true hc
    obtain ⟨x, e0, hx, g⟩ := xi_c h
    split at g
    · rename_i hlt
      intro p e s m args below meth c' Q E R H locs L hH hS hL
      obtain ⟨j, hj⟩ := List.getElem?_of_mem ((lp_mem G ls 0 i (.int x)).mpr ⟨(.int x, e0), Nat.zero_le i, by rw [Nat.sub_zero]; exact lget_some ls i _ hx (fun q h => by cases h), (fun q h => by cases h), rfl⟩)
      refine lv_iinc (v := x + c) E.1 E.2.1 hd hL hj (by rw [hc]) hlt rfl (fun L1 hL1 => ?_)
      exact N _ _ _ _ _ _ g p e s m args below meth c' Q E R H locs L1 hH hS (lR_st1 (v := vi (x + c)) hL1)
    · cases g
  case if_icmp cd off =>
    obtain ⟨h0, hc⟩ := ok2 ho
    cases beqN h0
    cases cd
    case ge =>
      obtain ⟨x, y, e1, e2, r, rfl, g⟩ := x2_c h
      intro p e s m args below meth c' Q E R H locs L hH hS hL
      refine lv_icmp_ge E.1 E.2.1 hd (of_decide_eq_true hc) (fun hcnd => ?_) (fun hcnd => ?_)
      · rw [if_pos hcnd] at g
        exact N _ _ _ _ _ _ g p e s m args below meth c' Q E R H locs L hH hS hL
      · rw [if_neg hcnd] at g
        exact N _ _ _ _ _ _ g p e s m args below meth c' Q E R H locs L hH hS hL
    all_goals cases h
  case goto off =>
    obtain ⟨h0, hc⟩ := ok2 ho
    cases beqN h0
    exact RS_go (fun p e s m args below meth cc Q E H locs L hL kk => lv_goto E.1 E.2.1 hd (of_decide_eq_true hc) kk) (N _ _ _ _ _ _ h)
  case new i =>
    obtain ⟨h0, hc⟩ := ok2 ho
    cases beqN h0
    split at hc
    · rename_i t ht
      obtain ⟨hc, c4⟩ := ok2 hc
      obtain ⟨hc, c3⟩ := ok2 hc
      obtain ⟨c1, c2⟩ := ok2 hc
      cases beqN c1
      replace h : (if k + 1 ≤ (mR M).cells ∧ w + t.2.2 ≤ (mR M).slots then nx (pc + 3) ls ((.ref cs.length, 0) :: st) (cs ++ [(0, a, t.2.2, [])]) (k + 1) (w + t.2.2) else none) = some cs' := h
      split at h
      · rename_i hr
        exact RS_new hd ⟨t.1, t.2.1, ht, of_decide_eq_true c2, of_decide_eq_true c3, of_decide_eq_true c4⟩ hr.1 hr.2 (N _ _ _ _ _ _ h)
      · cases h
    · cases hc
  case newarray t =>
    obtain ⟨h0, hc⟩ := ok2 ho
    cases beqN h0
    obtain ⟨n, e1, r, rfl, g⟩ := x1_c h
    split at g
    · rename_i hr
      exact RS_newa hd (of_decide_eq_true hc) hr.1 hr.2.1 hr.2.2.1 hr.2.2.2 (N _ _ _ _ _ _ g)
    · cases g
  case anewarray i =>
    obtain ⟨ho, c3⟩ := ok2 ho
    obtain ⟨ho, c2⟩ := ok2 ho
    obtain ⟨h0, c1⟩ := ok2 ho
    cases beqN h0
    have a4 : 4 ≤ a := Nat.le_of_ble_eq_true c1
    have a7 : a < 7 := Nat.le_of_ble_eq_true c2
    have c3 := of_decide_eq_true c3
    obtain ⟨n, e1, r, rfl, g⟩ := x1_c h
    split at g
    · rename_i hr
      have ha : a = 4 ∨ a = 5 ∨ a = 6 := by omega
      rcases ha with rfl | rfl | rfl
      · exact RS_anew hd ⟨rfl, by decide, by decide⟩ c3 hr.1 hr.2.1 hr.2.2.1 hr.2.2.2 (N _ _ _ _ _ _ g)
      · exact RS_anew hd ⟨rfl, by decide, by decide⟩ c3 hr.1 hr.2.1 hr.2.2.1 hr.2.2.2 (N _ _ _ _ _ _ g)
      · exact RS_anew hd ⟨rfl, by decide, by decide⟩ c3 hr.1 hr.2.1 hr.2.2.1 hr.2.2.2 (N _ _ _ _ _ _ g)
    · cases g
  case multianewarray i n0 =>
    obtain ⟨ho, c2⟩ := ok2 ho
    obtain ⟨h0, c1⟩ := ok2 ho
    cases beqN h0
    cases beqN c1
    obtain ⟨n, m2, e1, e2, r, rfl, g⟩ := x2_c h
    split at g
    · rename_i hr
      exact RS_multi hd (of_decide_eq_true c2) hr.1 hr.2.1 hr.2.2.1 hr.2.2.2.1 hr.2.2.2.2.1 hr.2.2.2.2.2 (N _ _ _ _ _ _ g)
    · cases g
  case putfield i =>
    obtain ⟨h0, hc⟩ := ok2 ho
    cases beqN h0
    obtain ⟨v, o, r, rfl, g⟩ := xp_c h
    obtain ⟨n, u, hq, g⟩ := xo_c g
    split at g
    · rename_i hr
      exact RS_put hd (hlk.1 _ (of_decide_eq_true hc)) hr.1 hq hr.2.1 hr.2.2 (N _ _ _ _ _ _ g)
    · cases g
  case getfield i =>
    obtain ⟨h0, hc⟩ := ok2 ho
    cases beqN h0
    obtain ⟨o, r, rfl, g⟩ := xr_c h
    obtain ⟨n, u, hq, g⟩ := xo_c g
    split at g
    · rename_i hr
      exact RS_get hd (hlk.1 _ (of_decide_eq_true hc)) hq hr (N _ _ _ _ _ _ g)
    · cases g
  case iastore =>
    cases beqN ho
    obtain ⟨v, j, e1, o, r, rfl, g⟩ := xs_c h
    obtain ⟨x, e2, rfl, g⟩ := xi_c g
    obtain ⟨n, u, hq, g⟩ := xo_c g
    split at g
    · rename_i hr
      exact RS_iast hd hq (fun q => q.elim hr.1 (fun q => by omega)) (N _ _ _ _ _ _ g)
    · cases g
  case aastore =>
    obtain ⟨ho, c3⟩ := ok2 ho
    obtain ⟨ho, c2⟩ := ok2 ho
    obtain ⟨h0, c1⟩ := ok2 ho
    cases beqN h0
    have b4 : 4 ≤ b := Nat.le_of_ble_eq_true c1
    have b7 : b < 7 := Nat.le_of_ble_eq_true c2
    have c3 := of_decide_eq_true c3
    obtain ⟨v, j, e1, o, r, rfl, g⟩ := xs_c h
    obtain ⟨o2, rfl, g⟩ := xa_c g
    obtain ⟨n2, u2, hq2, g⟩ := xo_c g
    obtain ⟨n, u, hq, g⟩ := xo_c g
    split at g
    · rename_i hr
      cases hv : vwCl[a]? with
      | none => rw [hv] at c3; cases c3
      | some t =>
        rw [hv] at c3
        exact RS_aast hd hq hq2 ⟨by omega, b4, (Option.some.inj c3).symm⟩ hv (fun q => q.elim hr.1 (fun q => by omega)) (N _ _ _ _ _ _ g)
    · cases g
  case invokestatic i =>
    obtain ⟨ho, c2⟩ := ok2 ho
    obtain ⟨h0, c1⟩ := ok2 ho
    cases beqN h0
    obtain ⟨x, y, e1, e2, r, rfl, g⟩ := x2_c h
    split at g
    · rename_i hr
      exact RS_max hd (of_decide_eq_true c1) hf hr.1 hr.2.1 hr.2.2 (N _ _ _ _ _ _ g)
    · cases g
  case invokespecial i =>
    obtain ⟨h0, hc⟩ := ok2 ho
    cases beqN h0
    cases a with
    | zero =>
      obtain ⟨c1, c2⟩ := ok2 (show (decide (Cond.methodLink (my M).cls i objectInit ∈ lw_g) && Nat.ble 1 (mR M).frames) = true from hc)
      obtain ⟨o, r, rfl, g⟩ := xr_c h
      split at g
      · rename_i hr
        exact RS_obj hd (of_decide_eq_true c1) hf hr (N _ _ _ _ _ _ g)
      · cases g
    | succ j =>
      replace hc : (okN (my M).cls i (ms j) && decide ((my (ms j)).name = "<init>") && decide (mr (ms j) = none) && plainFor (my (ms j)) && Nat.ble (1 + mN (ms j)) (mL (ms j)) && Nat.ble ((mR (ms j)).frames + 1) (mR M).frames && Nat.ble (8 + (mL (ms j) + 11) + (mR (ms j)).locals) (mR M).locals) = true := hc
      obtain ⟨hc, c7⟩ := ok2 hc
      obtain ⟨hc, c6⟩ := ok2 hc
      obtain ⟨hc, c5⟩ := ok2 hc
      obtain ⟨hc, c4⟩ := ok2 hc
      obtain ⟨hc, c3⟩ := ok2 hc
      obtain ⟨c1, c2⟩ := ok2 hc
      have c2 := of_decide_eq_true c2
      have c3 := of_decide_eq_true c3
      obtain ⟨as, o, r, e1, rfl, g⟩ := xn_c _ _ _ _ _ h
      rw [List.append_nil] at g
      split at g
      · rename_i hr
        obtain ⟨cs1, g1, g2⟩ := Option.bind_eq_some_iff.mp g
        have hM := CR_of (G := G) c4 c2 c3 hr.1 (C j _ cs cs1 g1)
        intro p e s m args below meth c' Q E R H locs L hH hS hL
        refine ctor_W (as := as) (o := o) (e1 := 0) (r := r) E.1 E.2.1 E.2.2.2.2.1 E.2.2.2.2.2.1 E.2.2.2.2.2.2.1 E.2.2.2.2.2.2.2.1 hd c1 c2 c3 hM e1 hL.1 (Nat.le_of_ble_eq_true c6) (Nat.le_of_ble_eq_true c7) hr.2.2.1 hr.2.2.2 hr.2.1 hH hS (fun H1 locs1 hH1 hS1 => ?_)
        exact N _ _ _ _ _ _ g2 p e s m args below meth c' Q E R H1 locs1 L hH1 hS1 hL
      · cases g
  case return_ =>
    cases beqN ho
    obtain ⟨rfl, g⟩ := xv_c h
    split at g
    · rename_i hr
      cases g
      intro p e s m args below meth c' Q E R H locs L hH hS hL
      exact W.widen hr.1 hr.2 (R H locs L pc hH hS hd)
    · cases g
  all_goals exact absurd (show (none : Option Rm) = some cs' from h) (by intro h; cases h)
end R4
