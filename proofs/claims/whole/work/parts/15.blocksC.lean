def tc_Mo_finding : List En := [e0 0 (.aload_n 0) 1, eF 1 (.getfield 95) 3 7 0, e0 4 .ireturn 1]
set_option maxRecDepth 100000 in
theorem c_Mo_finding {G : Ge}  {μ : Mm} {K : Int32 → Mm → Prop} (h :
  K (μ.1 7 0 0) μ) :
  CS G m_Mo_finding [vr 7 0] μ (RI K) :=
  CS_of pf_Mo_finding (Nat.le_of_ble_eq_true rfl) (show SS G m_Mo_finding 0 [vr 7 0] [] μ (RI K) from wp_s (M := m_Mo_finding) (lk := lk_Mo) (tb := tc_Mo_finding) (cu := []) lk_Mo_ok (by decide +kernel) 6 true 0 _ _ _ h)
def tc_Mo_in : List En := [e0 0 (.iload_n 0) 1, e0 1 (.iload_n 1) 1, eT 2 (.if_icmp .lt 12) 3 14, e0 5 (.iload_n 0) 1, e0 6 (.iload_n 2) 1, eT 7 (.if_icmp .gt 7) 3 14, eC 10 (.iconst 1) 1 1, eT 11 (.goto 4) 3 15, eC 14 (.iconst 0) 1 0, e0 15 .ireturn 1]
set_option maxRecDepth 100000 in
theorem c_Mo_in {G : Ge} (x0 : Int32) (x1 : Int32) (x2 : Int32) {μ : Mm} {K : Int32 → Mm → Prop} (h :
  (if x0 < x1 then
   (((0 : Int32) = 0 ∨ (0 : Int32) = 1) ∧ K 0 μ)
  else
   (if x2 < x0 then
    (((0 : Int32) = 0 ∨ (0 : Int32) = 1) ∧ K 0 μ)
   else
    (((1 : Int32) = 0 ∨ (1 : Int32) = 1) ∧ K 1 μ)))) :
  CS G m_Mo_in [vi x0, vi x1, vi x2] μ (RI K) :=
  CS_of pf_Mo_in (Nat.le_of_ble_eq_true rfl) (show SS G m_Mo_in 0 [vi x0, vi x1, vi x2] [] μ (RI K) from wp_s (M := m_Mo_in) (lk := lk_Mo) (tb := tc_Mo_in) (cu := []) lk_Mo_ok (by decide +kernel) 12 true 0 _ _ _ h)
def tc_Mo_findings : List En := [e0 0 (.iload_n 1) 1, eC 1 (.iconst 1) 1 1, eC 2 (.iconst 5) 1 5, eT 3 (.invokestatic 99) 3 0, eT 6 (.ifCond .eq 12) 3 18, e0 9 (.aload_n 0) 1, eF 10 (.getfield 7) 3 7 1, e0 13 (.iload_n 1) 1, e0 14 .iaload 1, eT 15 (.goto 4) 3 19, eC 18 (.iconst (-1)) 1 (-1), e0 19 .ireturn 1]
set_option maxRecDepth 100000 in
theorem c_Mo_findings {G : Ge} (x1 : Int32) {μ : Mm} {K : Int32 → Mm → Prop} (h :
  (CS G m_Mo_in [vi x1, vi 1, vi 5] μ (RI fun v1 μ1 =>
   (if v1 = 0 then
    K (-1) μ1
   else
    (vp_in x1 6 ∧
     K (μ1.1 26 0 x1.toNatClampNeg) μ1))))) :
  CS G m_Mo_findings [vr 7 0, vi x1] μ (RI K) :=
  CS_of pf_Mo_findings (Nat.le_of_ble_eq_true rfl) (show SS G m_Mo_findings 0 [vr 7 0, vi x1] [] μ (RI K) from wp_s (M := m_Mo_findings) (lk := lk_Mo) (tb := tc_Mo_findings) (cu := []) lk_Mo_ok (by decide +kernel) 14 true 0 _ _ _ h)
def tc_Mo_asked : List En := [e0 0 (.aload_n 0) 1, eF 1 (.getfield 103) 3 7 2, e0 4 .ireturn 1]
set_option maxRecDepth 100000 in
theorem c_Mo_asked {G : Ge}  {μ : Mm} {K : Int32 → Mm → Prop} (h :
  K (μ.1 7 0 2) μ) :
  CS G m_Mo_asked [vr 7 0] μ (RI K) :=
  CS_of pf_Mo_asked (Nat.le_of_ble_eq_true rfl) (show SS G m_Mo_asked 0 [vr 7 0] [] μ (RI K) from wp_s (M := m_Mo_asked) (lk := lk_Mo) (tb := tc_Mo_asked) (cu := []) lk_Mo_ok (by decide +kernel) 6 true 0 _ _ _ h)
def tc_Mo_upper : List En := [e0 0 (.aload_n 0) 1, eF 1 (.getfield 106) 3 7 3, e0 4 .lreturn 1]
set_option maxRecDepth 100000 in
theorem c_Mo_upper {G : Ge}  {μ : Mm} {K : Int64 → Mm → Prop} (h :
  K (μ.2 7 0 3) μ) :
  CS G m_Mo_upper [vr 7 0] μ (RL K) :=
  CS_of pf_Mo_upper (Nat.le_of_ble_eq_true rfl) (show SS G m_Mo_upper 0 [vr 7 0] [] μ (RL K) from wp_s (M := m_Mo_upper) (lk := lk_Mo) (tb := tc_Mo_upper) (cu := []) lk_Mo_ok (by decide +kernel) 6 true 0 _ _ _ h)
def tc_Mo_lower : List En := [e0 0 (.aload_n 0) 1, eF 1 (.getfield 13) 3 7 4, e0 4 .lreturn 1]
set_option maxRecDepth 100000 in
theorem c_Mo_lower {G : Ge}  {μ : Mm} {K : Int64 → Mm → Prop} (h :
  K (μ.2 7 0 4) μ) :
  CS G m_Mo_lower [vr 7 0] μ (RL K) :=
  CS_of pf_Mo_lower (Nat.le_of_ble_eq_true rfl) (show SS G m_Mo_lower 0 [vr 7 0] [] μ (RL K) from wp_s (M := m_Mo_lower) (lk := lk_Mo) (tb := tc_Mo_lower) (cu := []) lk_Mo_ok (by decide +kernel) 6 true 0 _ _ _ h)
def tc_Mo_isRow : List En := [e0 0 (.iload_n 0) 1, eC 1 (.iconst 0) 1 0, eC 2 (.iconst 5) 1 5, eT 3 (.invokestatic 99) 3 0, e0 6 .ireturn 1]
set_option maxRecDepth 100000 in
theorem c_Mo_isRow {G : Ge} (x0 : Int32) {μ : Mm} {K : Int32 → Mm → Prop} (h :
  (CS G m_Mo_in [vi x0, vi 0, vi 5] μ (RI fun v1 μ1 =>
   ((v1 = 0 ∨ v1 = 1) ∧ K v1 μ1)))) :
  CS G m_Mo_isRow [vi x0] μ (RI K) :=
  CS_of pf_Mo_isRow (Nat.le_of_ble_eq_true rfl) (show SS G m_Mo_isRow 0 [vi x0] [] μ (RI K) from wp_s (M := m_Mo_isRow) (lk := lk_Mo) (tb := tc_Mo_isRow) (cu := []) lk_Mo_ok (by decide +kernel) 8 true 0 _ _ _ h)
def tc_Mo_meets : List En := [e0 0 (.aload_n 0) 1, e0 1 (.iload_n 1) 1, eF 2 (.putfield 95) 3 7 0, e0 5 (.aload_n 0) 1, eF 6 (.getfield 7) 3 7 1, e0 9 (.iload_n 1) 1, e0 10 .dup2 1, e0 11 .iaload 1, eC 12 (.iconst 1) 1 1, e0 13 .iadd 1, e0 14 .iastore 1, eC 15 (.bipush (-3)) 2 (-3), e0 17 .ireturn 1]
set_option maxRecDepth 100000 in
theorem c_Mo_meets {G : Ge} (x1 : Int32) {μ : Mm} {K : Int32 → Mm → Prop} (h :
  (vp_in x1 6 ∧
   (vp_in x1 6 ∧
    K (-3) (wI (wI μ 7 0 0 x1) 26 0 x1.toNatClampNeg (((wI μ 7 0 0 x1).1 26 0 x1.toNatClampNeg) + 1))))) :
  CS G m_Mo_meets [vr 7 0, vi x1] μ (RI K) :=
  CS_of pf_Mo_meets (Nat.le_of_ble_eq_true rfl) (show SS G m_Mo_meets 0 [vr 7 0, vi x1] [] μ (RI K) from wp_s (M := m_Mo_meets) (lk := lk_Mo) (tb := tc_Mo_meets) (cu := []) lk_Mo_ok (by decide +kernel) 16 true 0 _ _ _ h)
def tc_Mo_row : List En := [e0 0 (.iload_n 1) 1, eT 1 (.invokestatic 109) 3 1, eT 4 (.ifCond .eq 9) 3 13, e0 7 (.iload_n 2) 1, eC 8 (.bipush 40) 2 40, eT 10 (.if_icmp .le 5) 3 15, eC 13 (.iconst (-1)) 1 (-1), e0 14 .ireturn 1, e0 15 (.iload_n 2) 1, eT 16 (.ifCond .ge 9) 3 25, e0 19 (.aload_n 0) 1, eC 20 (.iconst 5) 1 5, eT 21 (.invokevirtual 113) 3 2, e0 24 .ireturn 1, e0 25 (.aload_n 0) 1, eF 26 (.getfield 17) 3 7 5, e0 29 (.iload_n 1) 1, e0 30 (.iload_n 2) 1, e0 31 .iastore 1, eC 32 (.iconst 0) 1 0, e0 33 (.istore_n 3) 1]
set_option maxRecDepth 100000 in
theorem c_Mo_row {G : Ge} (x1 : Int32) (x2 : Int32) {μ : Mm} {K : Int32 → Mm → Prop} (h :
  (CS G m_Mo_isRow [vi x1] μ (RI fun v1 μ1 =>
   (if v1 = 0 then
    K (-1) μ1
   else
    (if x2 ≤ 40 then
     (if 0 ≤ x2 then
      (vp_in x1 6 ∧
       SS G m_Mo_row 34 [vr 7 0, vi x1, vi x2, vi 0] [] (wI μ1 27 0 x1.toNatClampNeg x2) (RI K))
     else
      (CS G m_Mo_meets [vr 7 0, vi 5] μ1 (RI fun v2 μ2 =>
       K v2 μ2)))
    else
     K (-1) μ1))))) :
  CS G m_Mo_row [vr 7 0, vi x1, vi x2] μ (RI K) :=
  CS_of pf_Mo_row (Nat.le_of_ble_eq_true rfl) (show SS G m_Mo_row 0 [vr 7 0, vi x1, vi x2, un] [] μ (RI K) from wp_s (M := m_Mo_row) (lk := lk_Mo) (tb := tc_Mo_row) (cu := [(34, [true, true, true, true])]) lk_Mo_ok (by decide +kernel) 19 true 0 _ _ _ h)
def tb_Mo_row_34 : List En := [e0 34 (.iload_n 3) 1, eC 35 (.bipush 40) 2 40, eT 37 (.if_icmp .ge 21) 3 58, e0 40 (.aload_n 0) 1, eF 41 (.getfield 20) 3 7 6, eC 44 (.bipush 40) 2 40, e0 46 (.iload_n 1) 1, e0 47 .imul 1, e0 48 (.iload_n 3) 1, e0 49 .iadd 1, eC 50 (.iconst 0) 1 0, e0 51 .iastore 1, eC 52 (.iinc 3 1) 3 1, eT 55 (.goto (-21)) 3 34, e0 58 (.iload_n 2) 1, e0 59 .ireturn 1]
set_option maxRecDepth 100000 in
theorem b_Mo_row_34 {G : Ge} (x1 : Int32) (x2 : Int32) (x3 : Int32) {μ : Mm} {K : Int32 → Mm → Prop} (h :
  (if (40 : Int32) ≤ x3 then
   K x2 μ
  else
   (vp_in ((40 * x1) + x3) 240 ∧
    SS G m_Mo_row 34 [vr 7 0, vi x1, vi x2, vi (x3 + 1)] [] (wI μ 28 0 (Int32.toNatClampNeg ((40 * x1) + x3)) 0) (RI K)))) :
  SS G m_Mo_row 34 [vr 7 0, vi x1, vi x2, vi x3] [] μ (RI K) :=
  wp_s (M := m_Mo_row) (lk := lk_Mo) (tb := tb_Mo_row_34) (cu := [(34, [true, true, true, true])]) lk_Mo_ok (by decide +kernel) 18 true _ _ _ _ h
def tc_Mo_rowAt : List En := [e0 0 (.aload_n 0) 1, eF 1 (.getfield 20) 3 7 6, eC 4 (.bipush 40) 2 40, e0 6 (.iload_n 1) 1, e0 7 .imul 1, e0 8 (.iload_n 2) 1, e0 9 .iadd 1, e0 10 .iaload 1, e0 11 .ireturn 1]
set_option maxRecDepth 100000 in
theorem c_Mo_rowAt {G : Ge} (x1 : Int32) (x2 : Int32) {μ : Mm} {K : Int32 → Mm → Prop} (h :
  (vp_in ((40 * x1) + x2) 240 ∧
   K (μ.1 28 0 (Int32.toNatClampNeg ((40 * x1) + x2))) μ)) :
  CS G m_Mo_rowAt [vr 7 0, vi x1, vi x2] μ (RI K) :=
  CS_of pf_Mo_rowAt (Nat.le_of_ble_eq_true rfl) (show SS G m_Mo_rowAt 0 [vr 7 0, vi x1, vi x2] [] μ (RI K) from wp_s (M := m_Mo_rowAt) (lk := lk_Mo) (tb := tc_Mo_rowAt) (cu := []) lk_Mo_ok (by decide +kernel) 12 true 0 _ _ _ h)
def tc_Mo_tells : List En := [e0 0 (.aload_n 0) 1, e0 1 (.iload_n 1) 1, eF 2 (.putfield 103) 3 7 2, e0 5 (.iload_n 2) 1, e0 6 .ireturn 1]
set_option maxRecDepth 100000 in
theorem c_Mo_tells {G : Ge} (x1 : Int32) (x2 : Int32) {μ : Mm} {K : Int32 → Mm → Prop} (h :
  K x2 (wI μ 7 0 2 x1)) :
  CS G m_Mo_tells [vr 7 0, vi x1, vi x2] μ (RI K) :=
  CS_of pf_Mo_tells (Nat.le_of_ble_eq_true rfl) (show SS G m_Mo_tells 0 [vr 7 0, vi x1, vi x2] [] μ (RI K) from wp_s (M := m_Mo_tells) (lk := lk_Mo) (tb := tc_Mo_tells) (cu := []) lk_Mo_ok (by decide +kernel) 8 true 0 _ _ _ h)
def tc_Mo_lay : List En := [e0 0 (.iload_n 1) 1, eT 1 (.invokestatic 109) 3 1, eT 4 (.ifCond .ne 5) 3 9, eC 7 (.iconst (-1)) 1 (-1), e0 8 .ireturn 1, e0 9 (.aload_n 0) 1, eF 10 (.getfield 17) 3 7 5, e0 13 (.iload_n 1) 1, e0 14 .iaload 1, eT 15 (.ifCond .ge 9) 3 24, e0 18 (.aload_n 0) 1, eC 19 (.iconst 1) 1 1, eT 20 (.invokevirtual 113) 3 2, e0 23 .ireturn 1, e0 24 (.iload_n 2) 1, eC 25 (.iconst 0) 1 0, e0 26 (.aload_n 0) 1, eF 27 (.getfield 17) 3 7 5, e0 30 (.iload_n 1) 1, e0 31 .iaload 1, eC 32 (.iconst 1) 1 1, e0 33 .isub 1, eT 34 (.invokestatic 99) 3 0, eT 37 (.ifCond .ne 9) 3 46, e0 40 (.aload_n 0) 1, eC 41 (.iconst 2) 1 2, eT 42 (.invokevirtual 113) 3 2, e0 45 .ireturn 1, e0 46 (.aload_n 0) 1, e0 47 (.iload_n 1) 1, e0 48 (.iload_n 2) 1, eT 49 (.invokevirtual 117) 3 3, e0 52 (.istore 4) 2, e0 54 (.aload_n 0) 1, eF 55 (.getfield 20) 3 7 6, eC 58 (.bipush 40) 2 40, e0 60 (.iload_n 1) 1, e0 61 .imul 1, e0 62 (.iload_n 2) 1, e0 63 .iadd 1, e0 64 (.iload_n 3) 1, e0 65 .iastore 1, e0 66 (.aload_n 0) 1, e0 67 (.iload 4) 2, eC 69 (.iconst 1) 1 1, eT 70 (.invokevirtual 121) 3 4, e0 73 .ireturn 1]
set_option maxRecDepth 100000 in
theorem c_Mo_lay {G : Ge} (x1 : Int32) (x2 : Int32) (x3 : Int32) {μ : Mm} {K : Int32 → Mm → Prop} (h :
  (CS G m_Mo_isRow [vi x1] μ (RI fun v1 μ1 =>
   (if v1 = 0 then
    K (-1) μ1
   else
    (vp_in x1 6 ∧
     (if 0 ≤ (μ1.1 27 0 x1.toNatClampNeg) then
      (vp_in x1 6 ∧
       (CS G m_Mo_in [vi x2, vi 0, vi ((μ1.1 27 0 x1.toNatClampNeg) - 1)] μ1 (RI fun v2 μ2 =>
        (if v2 = 0 then
         (CS G m_Mo_meets [vr 7 0, vi 2] μ2 (RI fun v3 μ3 =>
          K v3 μ3))
        else
         (CS G m_Mo_rowAt [vr 7 0, vi x1, vi x2] μ2 (RI fun v4 μ4 =>
          (vp_in ((40 * x1) + x2) 240 ∧
           (CS G m_Mo_tells [vr 7 0, vi v4, vi 1] (wI μ4 28 0 (Int32.toNatClampNeg ((40 * x1) + x2)) x3) (RI fun v5 μ5 =>
            K v5 μ5)))))))))
     else
      (CS G m_Mo_meets [vr 7 0, vi 1] μ1 (RI fun v6 μ6 =>
       K v6 μ6)))))))) :
  CS G m_Mo_lay [vr 7 0, vi x1, vi x2, vi x3] μ (RI K) :=
  CS_of pf_Mo_lay (Nat.le_of_ble_eq_true rfl) (show SS G m_Mo_lay 0 [vr 7 0, vi x1, vi x2, vi x3, un] [] μ (RI K) from wp_s (M := m_Mo_lay) (lk := lk_Mo) (tb := tc_Mo_lay) (cu := []) lk_Mo_ok (by decide +kernel) 40 true 0 _ _ _ h)
def tc_Mo_at : List En := [e0 0 (.iload_n 1) 1, eT 1 (.invokestatic 109) 3 1, eT 4 (.ifCond .ne 5) 3 9, eC 7 (.iconst (-1)) 1 (-1), e0 8 .ireturn 1, e0 9 (.aload_n 0) 1, eF 10 (.getfield 17) 3 7 5, e0 13 (.iload_n 1) 1, e0 14 .iaload 1, eT 15 (.ifCond .ge 9) 3 24, e0 18 (.aload_n 0) 1, eC 19 (.iconst 1) 1 1, eT 20 (.invokevirtual 113) 3 2, e0 23 .ireturn 1, e0 24 (.iload_n 2) 1, eC 25 (.iconst 0) 1 0, e0 26 (.aload_n 0) 1, eF 27 (.getfield 17) 3 7 5, e0 30 (.iload_n 1) 1, e0 31 .iaload 1, eC 32 (.iconst 1) 1 1, e0 33 .isub 1, eT 34 (.invokestatic 99) 3 0, eT 37 (.ifCond .eq 17) 3 54, e0 40 (.aload_n 0) 1, e0 41 (.aload_n 0) 1, e0 42 (.iload_n 1) 1, e0 43 (.iload_n 2) 1, eT 44 (.invokevirtual 117) 3 3, eC 47 (.iconst 1) 1 1, eT 48 (.invokevirtual 121) 3 4, eT 51 (.goto 8) 3 59, e0 54 (.aload_n 0) 1, eC 55 (.iconst 2) 1 2, eT 56 (.invokevirtual 113) 3 2, e0 59 .ireturn 1]
set_option maxRecDepth 100000 in
theorem c_Mo_at {G : Ge} (x1 : Int32) (x2 : Int32) {μ : Mm} {K : Int32 → Mm → Prop} (h :
  (CS G m_Mo_isRow [vi x1] μ (RI fun v1 μ1 =>
   (if v1 = 0 then
    K (-1) μ1
   else
    (vp_in x1 6 ∧
     (if 0 ≤ (μ1.1 27 0 x1.toNatClampNeg) then
      (vp_in x1 6 ∧
       (CS G m_Mo_in [vi x2, vi 0, vi ((μ1.1 27 0 x1.toNatClampNeg) - 1)] μ1 (RI fun v2 μ2 =>
        (if v2 = 0 then
         (CS G m_Mo_meets [vr 7 0, vi 2] μ2 (RI fun v3 μ3 =>
          K v3 μ3))
        else
         (CS G m_Mo_rowAt [vr 7 0, vi x1, vi x2] μ2 (RI fun v4 μ4 =>
          (CS G m_Mo_tells [vr 7 0, vi v4, vi 1] μ4 (RI fun v5 μ5 =>
           K v5 μ5))))))))
     else
      (CS G m_Mo_meets [vr 7 0, vi 1] μ1 (RI fun v6 μ6 =>
       K v6 μ6)))))))) :
  CS G m_Mo_at [vr 7 0, vi x1, vi x2] μ (RI K) :=
  CS_of pf_Mo_at (Nat.le_of_ble_eq_true rfl) (show SS G m_Mo_at 0 [vr 7 0, vi x1, vi x2] [] μ (RI K) from wp_s (M := m_Mo_at) (lk := lk_Mo) (tb := tc_Mo_at) (cu := []) lk_Mo_ok (by decide +kernel) 30 true 0 _ _ _ h)
def tc_Mo_tear : List En := [e0 0 (.iload_n 1) 1, eT 1 (.invokestatic 109) 3 1, eT 4 (.ifCond .ne 5) 3 9, eC 7 (.iconst (-1)) 1 (-1), e0 8 .ireturn 1, e0 9 (.aload_n 0) 1, eF 10 (.getfield 17) 3 7 5, e0 13 (.iload_n 1) 1, e0 14 .iaload 1, eT 15 (.ifCond .ge 9) 3 24, e0 18 (.aload_n 0) 1, eC 19 (.iconst 1) 1 1, eT 20 (.invokevirtual 113) 3 2, e0 23 .ireturn 1, e0 24 (.aload_n 0) 1, eF 25 (.getfield 17) 3 7 5, e0 28 (.iload_n 1) 1, eC 29 (.iconst (-1)) 1 (-1), e0 30 .iastore 1, eC 31 (.iconst 1) 1 1, e0 32 .ireturn 1]
set_option maxRecDepth 100000 in
theorem c_Mo_tear {G : Ge} (x1 : Int32) {μ : Mm} {K : Int32 → Mm → Prop} (h :
  (CS G m_Mo_isRow [vi x1] μ (RI fun v1 μ1 =>
   (if v1 = 0 then
    K (-1) μ1
   else
    (vp_in x1 6 ∧
     (if 0 ≤ (μ1.1 27 0 x1.toNatClampNeg) then
      (vp_in x1 6 ∧
       K 1 (wI μ1 27 0 x1.toNatClampNeg (-1)))
     else
      (CS G m_Mo_meets [vr 7 0, vi 1] μ1 (RI fun v2 μ2 =>
       K v2 μ2)))))))) :
  CS G m_Mo_tear [vr 7 0, vi x1] μ (RI K) :=
  CS_of pf_Mo_tear (Nat.le_of_ble_eq_true rfl) (show SS G m_Mo_tear 0 [vr 7 0, vi x1] [] μ (RI K) from wp_s (M := m_Mo_tear) (lk := lk_Mo) (tb := tc_Mo_tear) (cu := []) lk_Mo_ok (by decide +kernel) 18 true 0 _ _ _ h)
def tc_Mo_copy : List En := [e0 0 (.iload_n 1) 1, eT 1 (.invokestatic 109) 3 1, eT 4 (.ifCond .eq 10) 3 14, e0 7 (.iload_n 3) 1, eT 8 (.invokestatic 109) 3 1, eT 11 (.ifCond .ne 5) 3 16, eC 14 (.iconst (-1)) 1 (-1), e0 15 .ireturn 1, e0 16 (.iload 5) 2, eT 18 (.ifCond .ge 9) 3 27, e0 21 (.aload_n 0) 1, eC 22 (.iconst 5) 1 5, eT 23 (.invokevirtual 113) 3 2, e0 26 .ireturn 1, e0 27 (.aload_n 0) 1, eF 28 (.getfield 17) 3 7 5, e0 31 (.iload_n 1) 1, e0 32 .iaload 1, eT 33 (.ifCond .lt 12) 3 45, e0 36 (.aload_n 0) 1, eF 37 (.getfield 17) 3 7 5, e0 40 (.iload_n 3) 1, e0 41 .iaload 1, eT 42 (.ifCond .ge 9) 3 51, e0 45 (.aload_n 0) 1, eC 46 (.iconst 1) 1 1, eT 47 (.invokevirtual 113) 3 2, e0 50 .ireturn 1, e0 51 (.iload_n 2) 1, eT 52 (.ifCond .lt 43) 3 95, e0 55 (.iload 4) 2, eT 57 (.ifCond .lt 38) 3 95, e0 60 (.iload_n 2) 1, e0 61 .i2l 1, e0 62 (.iload 5) 2, e0 64 .i2l 1, e0 65 .ladd 1, e0 66 (.aload_n 0) 1, eF 67 (.getfield 17) 3 7 5, e0 70 (.iload_n 1) 1, e0 71 .iaload 1, e0 72 .i2l 1, e0 73 .lcmp 1, eT 74 (.ifCond .gt 21) 3 95, e0 77 (.iload 4) 2, e0 79 .i2l 1, e0 80 (.iload 5) 2, e0 82 .i2l 1, e0 83 .ladd 1, e0 84 (.aload_n 0) 1, eF 85 (.getfield 17) 3 7 5, e0 88 (.iload_n 3) 1, e0 89 .iaload 1, e0 90 .i2l 1, e0 91 .lcmp 1, eT 92 (.ifCond .le 9) 3 101, e0 95 (.aload_n 0) 1, eC 96 (.iconst 2) 1 2, eT 97 (.invokevirtual 113) 3 2, e0 100 .ireturn 1, eC 101 (.iconst 0) 1 0, e0 102 (.istore 6) 2]
set_option maxRecDepth 100000 in
theorem c_Mo_copy {G : Ge} (x1 : Int32) (x2 : Int32) (x3 : Int32) (x4 : Int32) (x5 : Int32) {μ : Mm} {K : Int32 → Mm → Prop} (h :
  (CS G m_Mo_isRow [vi x1] μ (RI fun v1 μ1 =>
   (if v1 = 0 then
    K (-1) μ1
   else
    (CS G m_Mo_isRow [vi x3] μ1 (RI fun v2 μ2 =>
     (if v2 = 0 then
      K (-1) μ2
     else
      (if 0 ≤ x5 then
       (vp_in x1 6 ∧
        (if (μ2.1 27 0 x1.toNatClampNeg) < 0 then
         (CS G m_Mo_meets [vr 7 0, vi 1] μ2 (RI fun v3 μ3 =>
          K v3 μ3))
        else
         (vp_in x3 6 ∧
          (if 0 ≤ (μ2.1 27 0 x3.toNatClampNeg) then
           (if x2 < 0 then
            (CS G m_Mo_meets [vr 7 0, vi 2] μ2 (RI fun v4 μ4 =>
             K v4 μ4))
           else
            (if x4 < 0 then
             (CS G m_Mo_meets [vr 7 0, vi 2] μ2 (RI fun v5 μ5 =>
              K v5 μ5))
            else
             (vp_in x1 6 ∧
              (if 0 < (lg_cmp ((Int32.toInt64 x2) + (Int32.toInt64 x5)) (Int32.toInt64 (μ2.1 27 0 x1.toNatClampNeg))) then
               (CS G m_Mo_meets [vr 7 0, vi 2] μ2 (RI fun v6 μ6 =>
                K v6 μ6))
              else
               (vp_in x3 6 ∧
                (if (lg_cmp ((Int32.toInt64 x4) + (Int32.toInt64 x5)) (Int32.toInt64 (μ2.1 27 0 x3.toNatClampNeg))) ≤ 0 then
                 SS G m_Mo_copy 104 [vr 7 0, vi x1, vi x2, vi x3, vi x4, vi x5, vi 0] [] μ2 (RI K)
                else
                 (CS G m_Mo_meets [vr 7 0, vi 2] μ2 (RI fun v7 μ7 =>
                  K v7 μ7))))))))
          else
           (CS G m_Mo_meets [vr 7 0, vi 1] μ2 (RI fun v8 μ8 =>
            K v8 μ8))))))
      else
       (CS G m_Mo_meets [vr 7 0, vi 5] μ2 (RI fun v9 μ9 =>
        K v9 μ9)))))))))) :
  CS G m_Mo_copy [vr 7 0, vi x1, vi x2, vi x3, vi x4, vi x5] μ (RI K) :=
  CS_of pf_Mo_copy (Nat.le_of_ble_eq_true rfl) (show SS G m_Mo_copy 0 [vr 7 0, vi x1, vi x2, vi x3, vi x4, vi x5, un] [] μ (RI K) from wp_s (M := m_Mo_copy) (lk := lk_Mo) (tb := tc_Mo_copy) (cu := [(104, [true, true, true, true, true, true, true]), (136, [true, false, false, true, true, true, true])]) lk_Mo_ok (by decide +kernel) 53 true 0 _ _ _ h)
def tb_Mo_copy_104 : List En := [e0 104 (.iload 6) 2, e0 106 (.iload 5) 2, eT 108 (.if_icmp .ge 25) 3 133, e0 111 (.aload_n 0) 1, eF 112 (.getfield 23) 3 7 7, e0 115 (.iload 6) 2, e0 117 (.aload_n 0) 1, e0 118 (.iload_n 1) 1, e0 119 (.iload_n 2) 1, e0 120 (.iload 6) 2, e0 122 .iadd 1, eT 123 (.invokevirtual 117) 3 3, e0 126 .iastore 1, eC 127 (.iinc 6 1) 3 1, eT 130 (.goto (-26)) 3 104, eC 133 (.iconst 0) 1 0, e0 134 (.istore 6) 2]
set_option maxRecDepth 100000 in
theorem b_Mo_copy_104 {G : Ge} (x1 : Int32) (x2 : Int32) (x3 : Int32) (x4 : Int32) (x5 : Int32) (x6 : Int32) {μ : Mm} {K : Int32 → Mm → Prop} (h :
  (if x5 ≤ x6 then
   SS G m_Mo_copy 136 [vr 7 0, un, un, vi x3, vi x4, vi x5, vi 0] [] μ (RI K)
  else
   (CS G m_Mo_rowAt [vr 7 0, vi x1, vi (x2 + x6)] μ (RI fun v1 μ1 =>
    (vp_in x6 40 ∧
     SS G m_Mo_copy 104 [vr 7 0, vi x1, vi x2, vi x3, vi x4, vi x5, vi (x6 + 1)] [] (wI μ1 29 0 x6.toNatClampNeg v1) (RI K)))))) :
  SS G m_Mo_copy 104 [vr 7 0, vi x1, vi x2, vi x3, vi x4, vi x5, vi x6] [] μ (RI K) :=
  wp_s (M := m_Mo_copy) (lk := lk_Mo) (tb := tb_Mo_copy_104) (cu := [(104, [true, true, true, true, true, true, true]), (136, [true, false, false, true, true, true, true])]) lk_Mo_ok (by decide +kernel) 19 true _ _ _ _ h
def tb_Mo_copy_136 : List En := [e0 136 (.iload 6) 2, e0 138 (.iload 5) 2, eT 140 (.if_icmp .ge 31) 3 171, e0 143 (.aload_n 0) 1, eF 144 (.getfield 20) 3 7 6, eC 147 (.bipush 40) 2 40, e0 149 (.iload_n 3) 1, e0 150 .imul 1, e0 151 (.iload 4) 2, e0 153 .iadd 1, e0 154 (.iload 6) 2, e0 156 .iadd 1, e0 157 (.aload_n 0) 1, eF 158 (.getfield 23) 3 7 7, e0 161 (.iload 6) 2, e0 163 .iaload 1, e0 164 .iastore 1, eC 165 (.iinc 6 1) 3 1, eT 168 (.goto (-32)) 3 136, eC 171 (.iconst 1) 1 1, e0 172 .ireturn 1]
set_option maxRecDepth 100000 in
theorem b_Mo_copy_136 {G : Ge} (x3 : Int32) (x4 : Int32) (x5 : Int32) (x6 : Int32) {μ : Mm} {K : Int32 → Mm → Prop} (h :
  (if x5 ≤ x6 then
   K 1 μ
  else
   (vp_in x6 40 ∧
    (vp_in (((40 * x3) + x4) + x6) 240 ∧
     SS G m_Mo_copy 136 [vr 7 0, un, un, vi x3, vi x4, vi x5, vi (x6 + 1)] [] (wI μ 28 0 (Int32.toNatClampNeg (((40 * x3) + x4) + x6)) (μ.1 29 0 x6.toNatClampNeg)) (RI K))))) :
  SS G m_Mo_copy 136 [vr 7 0, un, un, vi x3, vi x4, vi x5, vi x6] [] μ (RI K) :=
  wp_s (M := m_Mo_copy) (lk := lk_Mo) (tb := tb_Mo_copy_136) (cu := [(104, [true, true, true, true, true, true, true]), (136, [true, false, false, true, true, true, true])]) lk_Mo_ok (by decide +kernel) 23 true _ _ _ _ h
def tc_Mo_mean : List En := [e0 0 (.iload_n 1) 1, eT 1 (.invokestatic 109) 3 1, eT 4 (.ifCond .ne 5) 3 9, eC 7 (.iconst (-1)) 1 (-1), e0 8 .ireturn 1, e0 9 (.aload_n 0) 1, eF 10 (.getfield 17) 3 7 5, e0 13 (.iload_n 1) 1, e0 14 .iaload 1, eT 15 (.ifCond .ge 9) 3 24, e0 18 (.aload_n 0) 1, eC 19 (.iconst 1) 1 1, eT 20 (.invokevirtual 113) 3 2, e0 23 .ireturn 1, e0 24 (.aload_n 0) 1, eF 25 (.getfield 17) 3 7 5, e0 28 (.iload_n 1) 1, e0 29 .iaload 1, eT 30 (.ifCond .ne 9) 3 39, e0 33 (.aload_n 0) 1, eC 34 (.iconst 4) 1 4, eT 35 (.invokevirtual 113) 3 2, e0 38 .ireturn 1, eD 39 (.lconst 0) 1 0, e0 40 (.lstore_n 2) 1, eC 41 (.iconst 0) 1 0, e0 42 (.istore 4) 2]
set_option maxRecDepth 100000 in
theorem c_Mo_mean {G : Ge} (x1 : Int32) {μ : Mm} {K : Int32 → Mm → Prop} (h :
  (CS G m_Mo_isRow [vi x1] μ (RI fun v1 μ1 =>
   (if v1 = 0 then
    K (-1) μ1
   else
    (vp_in x1 6 ∧
     (if 0 ≤ (μ1.1 27 0 x1.toNatClampNeg) then
      (vp_in x1 6 ∧
       (if (μ1.1 27 0 x1.toNatClampNeg) = 0 then
        (CS G m_Mo_meets [vr 7 0, vi 4] μ1 (RI fun v2 μ2 =>
         K v2 μ2))
       else
        SS G m_Mo_mean 44 [vr 7 0, vi x1, vl 0, un, vi 0] [] μ1 (RI K)))
     else
      (CS G m_Mo_meets [vr 7 0, vi 1] μ1 (RI fun v3 μ3 =>
       K v3 μ3)))))))) :
  CS G m_Mo_mean [vr 7 0, vi x1] μ (RI K) :=
  CS_of pf_Mo_mean (Nat.le_of_ble_eq_true rfl) (show SS G m_Mo_mean 0 [vr 7 0, vi x1, un, un, un] [] μ (RI K) from wp_s (M := m_Mo_mean) (lk := lk_Mo) (tb := tc_Mo_mean) (cu := [(44, [true, true, true, false, true])]) lk_Mo_ok (by decide +kernel) 21 true 0 _ _ _ h)
def tb_Mo_mean_44 : List En := [e0 44 (.iload 4) 2, e0 46 (.aload_n 0) 1, eF 47 (.getfield 17) 3 7 5, e0 50 (.iload_n 1) 1, e0 51 .iaload 1, eT 52 (.if_icmp .ge 20) 3 72, e0 55 (.lload_n 2) 1, e0 56 (.aload_n 0) 1, e0 57 (.iload_n 1) 1, e0 58 (.iload 4) 2, eT 60 (.invokevirtual 117) 3 3, e0 63 .i2l 1, e0 64 .ladd 1, e0 65 (.lstore_n 2) 1, eC 66 (.iinc 4 1) 3 1, eT 69 (.goto (-25)) 3 44, e0 72 (.aload_n 0) 1, e0 73 (.lload_n 2) 1, e0 74 (.aload_n 0) 1, eF 75 (.getfield 17) 3 7 5, e0 78 (.iload_n 1) 1, e0 79 .iaload 1, e0 80 .i2l 1, e0 81 .ldiv 1, e0 82 .l2i 1, eC 83 (.iconst 1) 1 1, eT 84 (.invokevirtual 121) 3 4, e0 87 .ireturn 1]
set_option maxRecDepth 100000 in
theorem b_Mo_mean_44 {G : Ge} (x1 : Int32) (l2 : Int64) (x4 : Int32) {μ : Mm} {K : Int32 → Mm → Prop} (h :
  (vp_in x1 6 ∧
   (if (μ.1 27 0 x1.toNatClampNeg) ≤ x4 then
    (vp_in x1 6 ∧
     (¬ ((Int32.toInt64 (μ.1 27 0 x1.toNatClampNeg)) : Int64) = 0 ∧
      (CS G m_Mo_tells [vr 7 0, vi (Int64.toInt32 (l2 / (Int32.toInt64 (μ.1 27 0 x1.toNatClampNeg)))), vi 1] μ (RI fun v1 μ1 =>
       K v1 μ1))))
   else
    (CS G m_Mo_rowAt [vr 7 0, vi x1, vi x4] μ (RI fun v2 μ2 =>
     SS G m_Mo_mean 44 [vr 7 0, vi x1, vl (l2 + (Int32.toInt64 v2)), un, vi (x4 + 1)] [] μ2 (RI K)))))) :
  SS G m_Mo_mean 44 [vr 7 0, vi x1, vl l2, un, vi x4] [] μ (RI K) :=
  wp_s (M := m_Mo_mean) (lk := lk_Mo) (tb := tb_Mo_mean_44) (cu := [(44, [true, true, true, false, true])]) lk_Mo_ok (by decide +kernel) 21 true _ _ _ _ h
def tc_Mo_isText : List En := [e0 0 (.iload_n 0) 1, eC 1 (.iconst 0) 1 0, eC 2 (.iconst 3) 1 3, eT 3 (.invokestatic 99) 3 0, e0 6 .ireturn 1]
set_option maxRecDepth 100000 in
theorem c_Mo_isText {G : Ge} (x0 : Int32) {μ : Mm} {K : Int32 → Mm → Prop} (h :
  (CS G m_Mo_in [vi x0, vi 0, vi 3] μ (RI fun v1 μ1 =>
   ((v1 = 0 ∨ v1 = 1) ∧ K v1 μ1)))) :
  CS G m_Mo_isText [vi x0] μ (RI K) :=
  CS_of pf_Mo_isText (Nat.le_of_ble_eq_true rfl) (show SS G m_Mo_isText 0 [vi x0] [] μ (RI K) from wp_s (M := m_Mo_isText) (lk := lk_Mo) (tb := tc_Mo_isText) (cu := []) lk_Mo_ok (by decide +kernel) 8 true 0 _ _ _ h)
def tc_Mo_text : List En := [e0 0 (.iload_n 1) 1, eT 1 (.invokestatic 124) 3 5, eT 4 (.ifCond .eq 9) 3 13, e0 7 (.iload_n 2) 1, eC 8 (.bipush 60) 2 60, eT 10 (.if_icmp .le 5) 3 15, eC 13 (.iconst (-1)) 1 (-1), e0 14 .ireturn 1, e0 15 (.iload_n 2) 1, eT 16 (.ifCond .ge 9) 3 25, e0 19 (.aload_n 0) 1, eC 20 (.iconst 5) 1 5, eT 21 (.invokevirtual 113) 3 2, e0 24 .ireturn 1, e0 25 (.aload_n 0) 1, eF 26 (.getfield 26) 3 7 8, e0 29 (.iload_n 1) 1, e0 30 (.iload_n 2) 1, e0 31 .iastore 1, eC 32 (.iconst 0) 1 0, e0 33 (.istore_n 3) 1]
set_option maxRecDepth 100000 in
theorem c_Mo_text {G : Ge} (x1 : Int32) (x2 : Int32) {μ : Mm} {K : Int32 → Mm → Prop} (h :
  (CS G m_Mo_isText [vi x1] μ (RI fun v1 μ1 =>
   (if v1 = 0 then
    K (-1) μ1
   else
    (if x2 ≤ 60 then
     (if 0 ≤ x2 then
      (vp_in x1 4 ∧
       SS G m_Mo_text 34 [vr 7 0, vi x1, vi x2, vi 0] [] (wI μ1 30 0 x1.toNatClampNeg x2) (RI K))
     else
      (CS G m_Mo_meets [vr 7 0, vi 5] μ1 (RI fun v2 μ2 =>
       K v2 μ2)))
    else
     K (-1) μ1))))) :
  CS G m_Mo_text [vr 7 0, vi x1, vi x2] μ (RI K) :=
  CS_of pf_Mo_text (Nat.le_of_ble_eq_true rfl) (show SS G m_Mo_text 0 [vr 7 0, vi x1, vi x2, un] [] μ (RI K) from wp_s (M := m_Mo_text) (lk := lk_Mo) (tb := tc_Mo_text) (cu := [(34, [true, true, true, true])]) lk_Mo_ok (by decide +kernel) 19 true 0 _ _ _ h)
def tb_Mo_text_34 : List En := [e0 34 (.iload_n 3) 1, eC 35 (.bipush 60) 2 60, eT 37 (.if_icmp .ge 22) 3 59, e0 40 (.aload_n 0) 1, eF 41 (.getfield 29) 3 7 9, eC 44 (.bipush 60) 2 60, e0 46 (.iload_n 1) 1, e0 47 .imul 1, e0 48 (.iload_n 3) 1, e0 49 .iadd 1, eC 50 (.bipush 32) 2 32, e0 52 .bastore 1, eC 53 (.iinc 3 1) 3 1, eT 56 (.goto (-22)) 3 34, e0 59 (.iload_n 2) 1, e0 60 .ireturn 1]
set_option maxRecDepth 100000 in
theorem b_Mo_text_34 {G : Ge} (x1 : Int32) (x2 : Int32) (x3 : Int32) {μ : Mm} {K : Int32 → Mm → Prop} (h :
  (if (60 : Int32) ≤ x3 then
   K x2 μ
  else
   (vp_in ((60 * x1) + x3) 240 ∧
    SS G m_Mo_text 34 [vr 7 0, vi x1, vi x2, vi (x3 + 1)] [] (wI μ 31 0 (Int32.toNatClampNeg ((60 * x1) + x3)) (Int8.toInt32 (Int32.toInt8 32))) (RI K)))) :
  SS G m_Mo_text 34 [vr 7 0, vi x1, vi x2, vi x3] [] μ (RI K) :=
  wp_s (M := m_Mo_text) (lk := lk_Mo) (tb := tb_Mo_text_34) (cu := [(34, [true, true, true, true])]) lk_Mo_ok (by decide +kernel) 18 true _ _ _ _ h
def tc_Mo_put : List En := [e0 0 (.iload_n 1) 1, eT 1 (.invokestatic 124) 3 5, eT 4 (.ifCond .ne 5) 3 9, eC 7 (.iconst (-1)) 1 (-1), e0 8 .ireturn 1, e0 9 (.aload_n 0) 1, eF 10 (.getfield 26) 3 7 8, e0 13 (.iload_n 1) 1, e0 14 .iaload 1, eT 15 (.ifCond .ge 9) 3 24, e0 18 (.aload_n 0) 1, eC 19 (.iconst 1) 1 1, eT 20 (.invokevirtual 113) 3 2, e0 23 .ireturn 1, e0 24 (.iload_n 2) 1, eC 25 (.iconst 0) 1 0, e0 26 (.aload_n 0) 1, eF 27 (.getfield 26) 3 7 8, e0 30 (.iload_n 1) 1, e0 31 .iaload 1, eC 32 (.iconst 1) 1 1, e0 33 .isub 1, eT 34 (.invokestatic 99) 3 0, eT 37 (.ifCond .ne 9) 3 46, e0 40 (.aload_n 0) 1, eC 41 (.iconst 2) 1 2, eT 42 (.invokevirtual 113) 3 2, e0 45 .ireturn 1, e0 46 (.aload_n 0) 1, eF 47 (.getfield 29) 3 7 9, eC 50 (.bipush 60) 2 60, e0 52 (.iload_n 1) 1, e0 53 .imul 1, e0 54 (.iload_n 2) 1, e0 55 .iadd 1, e0 56 .baload 1, e0 57 (.istore 4) 2, e0 59 (.aload_n 0) 1, eF 60 (.getfield 29) 3 7 9, eC 63 (.bipush 60) 2 60, e0 65 (.iload_n 1) 1, e0 66 .imul 1, e0 67 (.iload_n 2) 1, e0 68 .iadd 1, e0 69 (.iload_n 3) 1, e0 70 .i2b 1, e0 71 .bastore 1, eC 72 (.sipush 1000) 3 1000, e0 75 (.iload 4) 2, e0 77 .iadd 1, e0 78 .ireturn 1]
set_option maxRecDepth 100000 in
theorem c_Mo_put {G : Ge} (x1 : Int32) (x2 : Int32) (x3 : Int32) {μ : Mm} {K : Int32 → Mm → Prop} (h :
  (CS G m_Mo_isText [vi x1] μ (RI fun v1 μ1 =>
   (if v1 = 0 then
    K (-1) μ1
   else
    (vp_in x1 4 ∧
     (if 0 ≤ (μ1.1 30 0 x1.toNatClampNeg) then
      (vp_in x1 4 ∧
       (CS G m_Mo_in [vi x2, vi 0, vi ((μ1.1 30 0 x1.toNatClampNeg) - 1)] μ1 (RI fun v2 μ2 =>
        (if v2 = 0 then
         (CS G m_Mo_meets [vr 7 0, vi 2] μ2 (RI fun v3 μ3 =>
          K v3 μ3))
        else
         (vp_in ((60 * x1) + x2) 240 ∧
          (vp_in ((60 * x1) + x2) 240 ∧
           K (1000 + (μ2.1 31 0 (Int32.toNatClampNeg ((60 * x1) + x2)))) (wI μ2 31 0 (Int32.toNatClampNeg ((60 * x1) + x2)) (Int8.toInt32 (Int32.toInt8 (Int8.toInt32 (Int32.toInt8 x3)))))))))))
     else
      (CS G m_Mo_meets [vr 7 0, vi 1] μ1 (RI fun v4 μ4 =>
       K v4 μ4)))))))) :
  CS G m_Mo_put [vr 7 0, vi x1, vi x2, vi x3] μ (RI K) :=
  CS_of pf_Mo_put (Nat.le_of_ble_eq_true rfl) (show SS G m_Mo_put 0 [vr 7 0, vi x1, vi x2, vi x3, un] [] μ (RI K) from wp_s (M := m_Mo_put) (lk := lk_Mo) (tb := tc_Mo_put) (cu := []) lk_Mo_ok (by decide +kernel) 44 true 0 _ _ _ h)
def tc_Mo_byteAt : List En := [e0 0 (.iload_n 2) 1, e0 1 (.aload_n 0) 1, eF 2 (.getfield 26) 3 7 8, e0 5 (.iload_n 1) 1, e0 6 .iaload 1, eT 7 (.if_icmp .ge 17) 3 24, e0 10 (.aload_n 0) 1, eF 11 (.getfield 29) 3 7 9, eC 14 (.bipush 60) 2 60, e0 16 (.iload_n 1) 1, e0 17 .imul 1, e0 18 (.iload_n 2) 1, e0 19 .iadd 1, e0 20 .baload 1, eT 21 (.goto 4) 3 25, eC 24 (.iconst 0) 1 0, e0 25 .ireturn 1]
set_option maxRecDepth 100000 in
theorem c_Mo_byteAt {G : Ge} (x1 : Int32) (x2 : Int32) {μ : Mm} {K : Int32 → Mm → Prop} (h :
  (vp_in x1 4 ∧
   (if (μ.1 30 0 x1.toNatClampNeg) ≤ x2 then
    K 0 μ
   else
    (vp_in ((60 * x1) + x2) 240 ∧
     K (μ.1 31 0 (Int32.toNatClampNeg ((60 * x1) + x2))) μ)))) :
  CS G m_Mo_byteAt [vr 7 0, vi x1, vi x2] μ (RI K) :=
  CS_of pf_Mo_byteAt (Nat.le_of_ble_eq_true rfl) (show SS G m_Mo_byteAt 0 [vr 7 0, vi x1, vi x2] [] μ (RI K) from wp_s (M := m_Mo_byteAt) (lk := lk_Mo) (tb := tc_Mo_byteAt) (cu := []) lk_Mo_ok (by decide +kernel) 19 true 0 _ _ _ h)
def tc_Mo_isFigure : List En := [e0 0 (.aload_n 0) 1, e0 1 (.iload_n 1) 1, e0 2 (.aload_n 0) 1, eF 3 (.getfield 127) 3 7 15, eT 6 (.invokevirtual 130) 3 6, eC 9 (.bipush 48) 2 48, eC 11 (.bipush 57) 2 57, eT 13 (.invokestatic 99) 3 0, e0 16 .ireturn 1]
set_option maxRecDepth 100000 in
theorem c_Mo_isFigure {G : Ge} (x1 : Int32) {μ : Mm} {K : Int32 → Mm → Prop} (h :
  (CS G m_Mo_byteAt [vr 7 0, vi x1, vi (μ.1 7 0 15)] μ (RI fun v1 μ1 =>
   (CS G m_Mo_in [vi v1, vi 48, vi 57] μ1 (RI fun v2 μ2 =>
    ((v2 = 0 ∨ v2 = 1) ∧ K v2 μ2)))))) :
  CS G m_Mo_isFigure [vr 7 0, vi x1] μ (RI K) :=
  CS_of pf_Mo_isFigure (Nat.le_of_ble_eq_true rfl) (show SS G m_Mo_isFigure 0 [vr 7 0, vi x1] [] μ (RI K) from wp_s (M := m_Mo_isFigure) (lk := lk_Mo) (tb := tc_Mo_isFigure) (cu := []) lk_Mo_ok (by decide +kernel) 12 true 0 _ _ _ h)
def tc_Mo_readsNights : List En := [e0 0 (.aload_n 0) 1, e0 1 (.iload_n 1) 1, e0 2 (.aload_n 0) 1, eF 3 (.getfield 127) 3 7 15, eT 6 (.invokevirtual 130) 3 6, eC 9 (.bipush 110) 2 110, eT 11 (.if_icmp .eq 5) 3 16, eC 14 (.iconst 0) 1 0, e0 15 .ireturn 1, e0 16 (.aload_n 0) 1, e0 17 .dup 1, eF 18 (.getfield 127) 3 7 15, eC 21 (.iconst 1) 1 1, e0 22 .iadd 1, eF 23 (.putfield 127) 3 7 15]
set_option maxRecDepth 100000 in
theorem c_Mo_readsNights {G : Ge} (x1 : Int32) {μ : Mm} {K : Int32 → Mm → Prop} (h :
  (CS G m_Mo_byteAt [vr 7 0, vi x1, vi (μ.1 7 0 15)] μ (RI fun v1 μ1 =>
   (if v1 = 110 then
    SS G m_Mo_readsNights 26 [vr 7 0, vi x1] [] (wI μ1 7 0 15 ((μ1.1 7 0 15) + 1)) (RI K)
   else
    (((0 : Int32) = 0 ∨ (0 : Int32) = 1) ∧ K 0 μ1))))) :
  CS G m_Mo_readsNights [vr 7 0, vi x1] μ (RI K) :=
  CS_of pf_Mo_readsNights (Nat.le_of_ble_eq_true rfl) (show SS G m_Mo_readsNights 0 [vr 7 0, vi x1] [] μ (RI K) from wp_s (M := m_Mo_readsNights) (lk := lk_Mo) (tb := tc_Mo_readsNights) (cu := [(26, [true, true])]) lk_Mo_ok (by decide +kernel) 17 true 0 _ _ _ h)
def tb_Mo_readsNights_26 : List En := [e0 26 (.aload_n 0) 1, e0 27 (.iload_n 1) 1, eT 28 (.invokevirtual 133) 3 7, eT 31 (.ifCond .eq 56) 3 87, e0 34 (.aload_n 0) 1, eF 35 (.getfield 136) 3 7 17, eC 38 (.bipush 8) 2 8, eT 40 (.if_icmp .ge 47) 3 87, e0 43 (.aload_n 0) 1, eF 44 (.getfield 45) 3 7 19, e0 47 (.aload_n 0) 1, eF 48 (.getfield 136) 3 7 17, e0 51 (.aload_n 0) 1, e0 52 (.iload_n 1) 1, e0 53 (.aload_n 0) 1, eF 54 (.getfield 127) 3 7 15, eT 57 (.invokevirtual 130) 3 6, eC 60 (.bipush 48) 2 48, e0 62 .isub 1, e0 63 .iastore 1, e0 64 (.aload_n 0) 1, e0 65 .dup 1, eF 66 (.getfield 136) 3 7 17, eC 69 (.iconst 1) 1 1, e0 70 .iadd 1, eF 71 (.putfield 136) 3 7 17, e0 74 (.aload_n 0) 1, e0 75 .dup 1, eF 76 (.getfield 127) 3 7 15, eC 79 (.iconst 1) 1 1, e0 80 .iadd 1, eF 81 (.putfield 127) 3 7 15, eT 84 (.goto (-58)) 3 26, e0 87 (.aload_n 0) 1, eF 88 (.getfield 136) 3 7 17, eT 91 (.ifCond .le 15) 3 106, e0 94 (.aload_n 0) 1, e0 95 (.iload_n 1) 1, eT 96 (.invokevirtual 133) 3 7, eT 99 (.ifCond .ne 7) 3 106, eC 102 (.iconst 1) 1 1, eT 103 (.goto 4) 3 107, eC 106 (.iconst 0) 1 0, e0 107 .ireturn 1]
set_option maxRecDepth 100000 in
theorem b_Mo_readsNights_26 {G : Ge} (x1 : Int32) {μ : Mm} {K : Int32 → Mm → Prop} (h :
  (CS G m_Mo_isFigure [vr 7 0, vi x1] μ (RI fun v1 μ1 =>
   (if v1 = 0 then
    (if (μ1.1 7 0 17) ≤ 0 then
     (((0 : Int32) = 0 ∨ (0 : Int32) = 1) ∧ K 0 μ1)
    else
     (CS G m_Mo_isFigure [vr 7 0, vi x1] μ1 (RI fun v2 μ2 =>
      (if v2 = 0 then
       (((1 : Int32) = 0 ∨ (1 : Int32) = 1) ∧ K 1 μ2)
      else
       (((0 : Int32) = 0 ∨ (0 : Int32) = 1) ∧ K 0 μ2)))))
   else
    (if (8 : Int32) ≤ (μ1.1 7 0 17) then
     (if (μ1.1 7 0 17) ≤ 0 then
      (((0 : Int32) = 0 ∨ (0 : Int32) = 1) ∧ K 0 μ1)
     else
      (CS G m_Mo_isFigure [vr 7 0, vi x1] μ1 (RI fun v3 μ3 =>
       (if v3 = 0 then
        (((1 : Int32) = 0 ∨ (1 : Int32) = 1) ∧ K 1 μ3)
       else
        (((0 : Int32) = 0 ∨ (0 : Int32) = 1) ∧ K 0 μ3)))))
    else
     (CS G m_Mo_byteAt [vr 7 0, vi x1, vi (μ1.1 7 0 15)] μ1 (RI fun v4 μ4 =>
      (vp_in (μ1.1 7 0 17) 8 ∧
       SS G m_Mo_readsNights 26 [vr 7 0, vi x1] [] (wI (wI (wI μ4 36 0 (Int32.toNatClampNeg (μ1.1 7 0 17)) (v4 - 48)) 7 0 17 (((wI μ4 36 0 (Int32.toNatClampNeg (μ1.1 7 0 17)) (v4 - 48)).1 7 0 17) + 1)) 7 0 15 (((wI (wI μ4 36 0 (Int32.toNatClampNeg (μ1.1 7 0 17)) (v4 - 48)) 7 0 17 (((wI μ4 36 0 (Int32.toNatClampNeg (μ1.1 7 0 17)) (v4 - 48)).1 7 0 17) + 1)).1 7 0 15) + 1)) (RI K))))))))) :
  SS G m_Mo_readsNights 26 [vr 7 0, vi x1] [] μ (RI K) :=
  wp_s (M := m_Mo_readsNights) (lk := lk_Mo) (tb := tb_Mo_readsNights_26) (cu := [(26, [true, true])]) lk_Mo_ok (by decide +kernel) 37 true _ _ _ _ h
def tc_Mo_kindOf : List En := [e0 0 (.iload_n 0) 1, eS 1 (.lookupswitch 71 #[(99, 69), (104, 59), (109, 65), (112, 63), (115, 61), (121, 67)]) 59 72 [(99, 70), (104, 60), (109, 66), (112, 64), (115, 62), (121, 68)], eC 60 (.iconst 0) 1 0, e0 61 .ireturn 1, eC 62 (.iconst 1) 1 1, e0 63 .ireturn 1, eC 64 (.iconst 2) 1 2, e0 65 .ireturn 1, eC 66 (.iconst 3) 1 3, e0 67 .ireturn 1, eC 68 (.iconst 4) 1 4, e0 69 .ireturn 1, eC 70 (.iconst 5) 1 5, e0 71 .ireturn 1, eC 72 (.bipush (-9)) 2 (-9), e0 74 .ireturn 1]
set_option maxRecDepth 100000 in
theorem c_Mo_kindOf {G : Ge} (x0 : Int32) {μ : Mm} {K : Int32 → Mm → Prop} (h :
  (if x0 = 99 then
   K 5 μ
  else
   (if x0 = 104 then
    K 0 μ
   else
    (if x0 = 109 then
     K 3 μ
    else
     (if x0 = 112 then
      K 2 μ
     else
      (if x0 = 115 then
       K 1 μ
      else
       (if x0 = 121 then
        K 4 μ
       else
        K (-9) μ))))))) :
  CS G m_Mo_kindOf [vi x0] μ (RI K) :=
  CS_of pf_Mo_kindOf (Nat.le_of_ble_eq_true rfl) (show SS G m_Mo_kindOf 0 [vi x0] [] μ (RI K) from wp_s (M := m_Mo_kindOf) (lk := lk_Mo) (tb := tc_Mo_kindOf) (cu := []) lk_Mo_ok (by decide +kernel) 7 true 0 _ _ _ h)
def tc_Mo_readsHouse : List En := [e0 0 (.aload_n 0) 1, e0 1 (.iload_n 1) 1, e0 2 (.aload_n 0) 1, eF 3 (.getfield 127) 3 7 15, eT 6 (.invokevirtual 130) 3 6, eT 9 (.invokestatic 139) 3 8, e0 12 (.istore_n 2) 1, e0 13 (.iload_n 2) 1, eC 14 (.bipush (-9)) 2 (-9), eT 16 (.if_icmp .eq 11) 3 27, e0 19 (.aload_n 0) 1, eF 20 (.getfield 142) 3 7 16, eC 23 (.iconst 5) 1 5, eT 24 (.if_icmp .ne 5) 3 29, eC 27 (.iconst 0) 1 0, e0 28 .ireturn 1, eC 29 (.iconst 3) 1 3, e0 30 (.aload_n 0) 1, eF 31 (.getfield 142) 3 7 16, e0 34 .imul 1, e0 35 (.istore_n 3) 1, e0 36 (.aload_n 0) 1, e0 37 .dup 1, eF 38 (.getfield 127) 3 7 15, eC 41 (.iconst 1) 1 1, e0 42 .iadd 1, eF 43 (.putfield 127) 3 7 15, e0 46 (.aload_n 0) 1, eF 47 (.getfield 42) 3 7 18, e0 50 (.iload_n 3) 1, e0 51 (.iload_n 2) 1, e0 52 .iastore 1, eC 53 (.iconst 1) 1 1, e0 54 (.istore 4) 2]
set_option maxRecDepth 100000 in
theorem c_Mo_readsHouse {G : Ge} (x1 : Int32) {μ : Mm} {K : Int32 → Mm → Prop} (h :
  (CS G m_Mo_byteAt [vr 7 0, vi x1, vi (μ.1 7 0 15)] μ (RI fun v1 μ1 =>
   (CS G m_Mo_kindOf [vi v1] μ1 (RI fun v2 μ2 =>
    (if v2 = (-9) then
     (((0 : Int32) = 0 ∨ (0 : Int32) = 1) ∧ K 0 μ2)
    else
     (if (μ2.1 7 0 16) = 5 then
      (((0 : Int32) = 0 ∨ (0 : Int32) = 1) ∧ K 0 μ2)
     else
      (vp_in (3 * (μ2.1 7 0 16)) 15 ∧
       SS G m_Mo_readsHouse 56 [vr 7 0, vi x1, un, vi (3 * (μ2.1 7 0 16)), vi 1] [] (wI (wI μ2 7 0 15 ((μ2.1 7 0 15) + 1)) 35 0 (Int32.toNatClampNeg (3 * (μ2.1 7 0 16))) v2) (RI K))))))))) :
  CS G m_Mo_readsHouse [vr 7 0, vi x1] μ (RI K) :=
  CS_of pf_Mo_readsHouse (Nat.le_of_ble_eq_true rfl) (show SS G m_Mo_readsHouse 0 [vr 7 0, vi x1, un, un, un] [] μ (RI K) from wp_s (M := m_Mo_readsHouse) (lk := lk_Mo) (tb := tc_Mo_readsHouse) (cu := [(56, [true, true, false, true, true])]) lk_Mo_ok (by decide +kernel) 36 true 0 _ _ _ h)
def tb_Mo_readsHouse_56 : List En := [e0 56 (.iload 4) 2, eC 58 (.iconst 3) 1 3, eT 59 (.if_icmp .ge 50) 3 109, e0 62 (.aload_n 0) 1, e0 63 (.iload_n 1) 1, eT 64 (.invokevirtual 133) 3 7, eT 67 (.ifCond .ne 5) 3 72, eC 70 (.iconst 0) 1 0, e0 71 .ireturn 1, e0 72 (.aload_n 0) 1, eF 73 (.getfield 42) 3 7 18, e0 76 (.iload_n 3) 1, e0 77 (.iload 4) 2, e0 79 .iadd 1, e0 80 (.aload_n 0) 1, e0 81 (.iload_n 1) 1, e0 82 (.aload_n 0) 1, eF 83 (.getfield 127) 3 7 15, eT 86 (.invokevirtual 130) 3 6, eC 89 (.bipush 48) 2 48, e0 91 .isub 1, e0 92 .iastore 1, e0 93 (.aload_n 0) 1, e0 94 .dup 1, eF 95 (.getfield 127) 3 7 15, eC 98 (.iconst 1) 1 1, e0 99 .iadd 1, eF 100 (.putfield 127) 3 7 15, eC 103 (.iinc 4 1) 3 1, eT 106 (.goto (-50)) 3 56, e0 109 (.aload_n 0) 1, e0 110 .dup 1, eF 111 (.getfield 142) 3 7 16, eC 114 (.iconst 1) 1 1, e0 115 .iadd 1, eF 116 (.putfield 142) 3 7 16, eC 119 (.iconst 1) 1 1, e0 120 .ireturn 1]
set_option maxRecDepth 100000 in
theorem b_Mo_readsHouse_56 {G : Ge} (x1 : Int32) (x3 : Int32) (x4 : Int32) {μ : Mm} {K : Int32 → Mm → Prop} (h :
  (if (3 : Int32) ≤ x4 then
   (((1 : Int32) = 0 ∨ (1 : Int32) = 1) ∧ K 1 (wI μ 7 0 16 ((μ.1 7 0 16) + 1)))
  else
   (CS G m_Mo_isFigure [vr 7 0, vi x1] μ (RI fun v1 μ1 =>
    (if v1 = 0 then
     (((0 : Int32) = 0 ∨ (0 : Int32) = 1) ∧ K 0 μ1)
    else
     (CS G m_Mo_byteAt [vr 7 0, vi x1, vi (μ1.1 7 0 15)] μ1 (RI fun v2 μ2 =>
      (vp_in (x3 + x4) 15 ∧
       SS G m_Mo_readsHouse 56 [vr 7 0, vi x1, un, vi x3, vi (x4 + 1)] [] (wI (wI μ2 35 0 (Int32.toNatClampNeg (x3 + x4)) (v2 - 48)) 7 0 15 (((wI μ2 35 0 (Int32.toNatClampNeg (x3 + x4)) (v2 - 48)).1 7 0 15) + 1)) (RI K))))))))) :
  SS G m_Mo_readsHouse 56 [vr 7 0, vi x1, un, vi x3, vi x4] [] μ (RI K) :=
  wp_s (M := m_Mo_readsHouse) (lk := lk_Mo) (tb := tb_Mo_readsHouse_56) (cu := [(56, [true, true, false, true, true])]) lk_Mo_ok (by decide +kernel) 32 true _ _ _ _ h
def tc_Mo_faultOf : List En := [e0 0 (.aload_n 0) 1, eC 1 (.iconst 0) 1 0, eF 2 (.putfield 127) 3 7 15, e0 5 (.aload_n 0) 1, eC 6 (.iconst 0) 1 0, eF 7 (.putfield 142) 3 7 16, e0 10 (.aload_n 0) 1, eC 11 (.iconst 0) 1 0, eF 12 (.putfield 136) 3 7 17]
set_option maxRecDepth 100000 in
theorem c_Mo_faultOf {G : Ge} (x1 : Int32) {μ : Mm} {K : Int32 → Mm → Prop} (h :
  SS G m_Mo_faultOf 15 [vr 7 0, vi x1] [] (wI (wI (wI μ 7 0 15 0) 7 0 16 0) 7 0 17 0) (RI K)) :
  CS G m_Mo_faultOf [vr 7 0, vi x1] μ (RI K) :=
  CS_of pf_Mo_faultOf (Nat.le_of_ble_eq_true rfl) (show SS G m_Mo_faultOf 0 [vr 7 0, vi x1] [] μ (RI K) from wp_s (M := m_Mo_faultOf) (lk := lk_Mo) (tb := tc_Mo_faultOf) (cu := [(15, [true, true])]) lk_Mo_ok (by decide +kernel) 13 true 0 _ _ _ h)
def tb_Mo_faultOf_15 : List En := [e0 15 (.aload_n 0) 1, eF 16 (.getfield 127) 3 7 15, e0 19 (.aload_n 0) 1, eF 20 (.getfield 26) 3 7 8, e0 23 (.iload_n 1) 1, e0 24 .iaload 1, eT 25 (.if_icmp .ge 61) 3 86, e0 28 (.aload_n 0) 1, e0 29 (.iload_n 1) 1, e0 30 (.aload_n 0) 1, eF 31 (.getfield 127) 3 7 15, eT 34 (.invokevirtual 130) 3 6, eC 37 (.bipush 32) 2 32, eT 39 (.if_icmp .ne 16) 3 55, e0 42 (.aload_n 0) 1, e0 43 .dup 1, eF 44 (.getfield 127) 3 7 15, eC 47 (.iconst 1) 1 1, e0 48 .iadd 1, eF 49 (.putfield 127) 3 7 15, eT 52 (.goto (-37)) 3 15, e0 55 (.aload_n 0) 1, eF 56 (.getfield 136) 3 7 17, eT 59 (.ifCond .ne 14) 3 73, e0 62 (.aload_n 0) 1, e0 63 (.iload_n 1) 1, eT 64 (.invokevirtual 145) 3 9, eT 67 (.ifCond .eq 14) 3 81, eT 70 (.goto (-55)) 3 15, e0 73 (.aload_n 0) 1, e0 74 (.iload_n 1) 1, eT 75 (.invokevirtual 148) 3 10, eT 78 (.ifCond .ne (-63)) 3 15, e0 81 (.aload_n 0) 1, eF 82 (.getfield 127) 3 7 15, e0 85 .ireturn 1, e0 86 (.aload_n 0) 1, eF 87 (.getfield 142) 3 7 16, eT 90 (.ifCond .ne 12) 3 102, e0 93 (.aload_n 0) 1, eF 94 (.getfield 26) 3 7 8, e0 97 (.iload_n 1) 1, e0 98 .iaload 1, eT 99 (.goto 5) 3 104, eC 102 (.bipush (-9)) 2 (-9), e0 104 .ireturn 1]
set_option maxRecDepth 100000 in
theorem b_Mo_faultOf_15 {G : Ge} (x1 : Int32) {μ : Mm} {K : Int32 → Mm → Prop} (h :
  (vp_in x1 4 ∧
   (if (μ.1 30 0 x1.toNatClampNeg) ≤ (μ.1 7 0 15) then
    (if (μ.1 7 0 16) = 0 then
     (vp_in x1 4 ∧
      K (μ.1 30 0 x1.toNatClampNeg) μ)
    else
     K (-9) μ)
   else
    (CS G m_Mo_byteAt [vr 7 0, vi x1, vi (μ.1 7 0 15)] μ (RI fun v1 μ1 =>
     (if v1 = 32 then
      SS G m_Mo_faultOf 15 [vr 7 0, vi x1] [] (wI μ1 7 0 15 ((μ1.1 7 0 15) + 1)) (RI K)
     else
      (if (μ1.1 7 0 17) = 0 then
       (CS G m_Mo_readsNights [vr 7 0, vi x1] μ1 (RI fun v2 μ2 =>
        (if v2 = 0 then
         K (μ2.1 7 0 15) μ2
        else
         SS G m_Mo_faultOf 15 [vr 7 0, vi x1] [] μ2 (RI K))))
      else
       (CS G m_Mo_readsHouse [vr 7 0, vi x1] μ1 (RI fun v3 μ3 =>
        (if v3 = 0 then
         K (μ3.1 7 0 15) μ3
        else
         SS G m_Mo_faultOf 15 [vr 7 0, vi x1] [] μ3 (RI K))))))))))) :
  SS G m_Mo_faultOf 15 [vr 7 0, vi x1] [] μ (RI K) :=
  wp_s (M := m_Mo_faultOf) (lk := lk_Mo) (tb := tb_Mo_faultOf_15) (cu := [(15, [true, true])]) lk_Mo_ok (by decide +kernel) 27 true _ _ _ _ h
def tc_Mo_fault : List En := [e0 0 (.iload_n 1) 1, eT 1 (.invokestatic 124) 3 5, eT 4 (.ifCond .ne 5) 3 9, eC 7 (.iconst (-1)) 1 (-1), e0 8 .ireturn 1, e0 9 (.aload_n 0) 1, eF 10 (.getfield 26) 3 7 8, e0 13 (.iload_n 1) 1, e0 14 .iaload 1, eT 15 (.ifCond .ge 11) 3 26, e0 18 (.aload_n 0) 1, eC 19 (.iconst 1) 1 1, eT 20 (.invokevirtual 113) 3 2, eT 23 (.goto 8) 3 31, e0 26 (.aload_n 0) 1, e0 27 (.iload_n 1) 1, eT 28 (.invokevirtual 151) 3 11, e0 31 .ireturn 1]
set_option maxRecDepth 100000 in
theorem c_Mo_fault {G : Ge} (x1 : Int32) {μ : Mm} {K : Int32 → Mm → Prop} (h :
  (CS G m_Mo_isText [vi x1] μ (RI fun v1 μ1 =>
   (if v1 = 0 then
    K (-1) μ1
   else
    (vp_in x1 4 ∧
     (if 0 ≤ (μ1.1 30 0 x1.toNatClampNeg) then
      (CS G m_Mo_faultOf [vr 7 0, vi x1] μ1 (RI fun v2 μ2 =>
       K v2 μ2))
     else
      (CS G m_Mo_meets [vr 7 0, vi 1] μ1 (RI fun v3 μ3 =>
       K v3 μ3)))))))) :
  CS G m_Mo_fault [vr 7 0, vi x1] μ (RI K) :=
  CS_of pf_Mo_fault (Nat.le_of_ble_eq_true rfl) (show SS G m_Mo_fault 0 [vr 7 0, vi x1] [] μ (RI K) from wp_s (M := m_Mo_fault) (lk := lk_Mo) (tb := tc_Mo_fault) (cu := []) lk_Mo_ok (by decide +kernel) 16 true 0 _ _ _ h)
def tc_Mo_street : List En := [e0 0 (.iload_n 1) 1, eT 1 (.invokestatic 124) 3 5, eT 4 (.ifCond .ne 5) 3 9, eC 7 (.iconst (-1)) 1 (-1), e0 8 .ireturn 1, e0 9 (.aload_n 0) 1, eF 10 (.getfield 26) 3 7 8, e0 13 (.iload_n 1) 1, e0 14 .iaload 1, eT 15 (.ifCond .ge 9) 3 24, e0 18 (.aload_n 0) 1, eC 19 (.iconst 1) 1 1, eT 20 (.invokevirtual 113) 3 2, e0 23 .ireturn 1, e0 24 (.aload_n 0) 1, e0 25 (.iload_n 1) 1, eT 26 (.invokevirtual 151) 3 11, eC 29 (.bipush (-9)) 2 (-9), eT 31 (.if_icmp .eq 6) 3 37, eC 34 (.bipush (-4)) 2 (-4), e0 36 .ireturn 1, e0 37 (.aload_n 0) 1, e0 38 (.aload_n 0) 1, eF 39 (.getfield 142) 3 7 16, eF 42 (.putfield 154) 3 7 10, e0 45 (.aload_n 0) 1, e0 46 (.aload_n 0) 1, eF 47 (.getfield 136) 3 7 17, eF 50 (.putfield 157) 3 7 11, eC 53 (.iconst 0) 1 0, e0 54 (.istore_n 2) 1]
set_option maxRecDepth 100000 in
theorem c_Mo_street {G : Ge} (x1 : Int32) {μ : Mm} {K : Int32 → Mm → Prop} (h :
  (CS G m_Mo_isText [vi x1] μ (RI fun v1 μ1 =>
   (if v1 = 0 then
    K (-1) μ1
   else
    (vp_in x1 4 ∧
     (if 0 ≤ (μ1.1 30 0 x1.toNatClampNeg) then
      (CS G m_Mo_faultOf [vr 7 0, vi x1] μ1 (RI fun v2 μ2 =>
       (if v2 = (-9) then
        SS G m_Mo_street 55 [vr 7 0, un, vi 0] [] (wI (wI μ2 7 0 10 (μ2.1 7 0 16)) 7 0 11 ((wI μ2 7 0 10 (μ2.1 7 0 16)).1 7 0 17)) (RI K)
       else
        K (-4) μ2)))
     else
      (CS G m_Mo_meets [vr 7 0, vi 1] μ1 (RI fun v3 μ3 =>
       K v3 μ3)))))))) :
  CS G m_Mo_street [vr 7 0, vi x1] μ (RI K) :=
  CS_of pf_Mo_street (Nat.le_of_ble_eq_true rfl) (show SS G m_Mo_street 0 [vr 7 0, vi x1, un] [] μ (RI K) from wp_s (M := m_Mo_street) (lk := lk_Mo) (tb := tc_Mo_street) (cu := [(55, [true, false, true]), (83, [true, false, true]), (104, [true, false, true]), (182, [true, false, true])]) lk_Mo_ok (by decide +kernel) 27 true 0 _ _ _ h)
def tb_Mo_street_55 : List En := [e0 55 (.iload_n 2) 1, e0 56 (.aload_n 0) 1, eF 57 (.getfield 157) 3 7 11, eT 60 (.if_icmp .ge 21) 3 81, e0 63 (.aload_n 0) 1, eF 64 (.getfield 39) 3 7 14, e0 67 (.iload_n 2) 1, e0 68 (.aload_n 0) 1, eF 69 (.getfield 45) 3 7 19, e0 72 (.iload_n 2) 1, e0 73 .iaload 1, e0 74 .iastore 1, eC 75 (.iinc 2 1) 3 1, eT 78 (.goto (-23)) 3 55, eC 81 (.iconst 0) 1 0, e0 82 (.istore_n 2) 1]
set_option maxRecDepth 100000 in
theorem b_Mo_street_55 {G : Ge} (x2 : Int32) {μ : Mm} {K : Int32 → Mm → Prop} (h :
  (if (μ.1 7 0 11) ≤ x2 then
   SS G m_Mo_street 83 [vr 7 0, un, vi 0] [] μ (RI K)
  else
   (vp_in x2 8 ∧
    (vp_in x2 8 ∧
     SS G m_Mo_street 55 [vr 7 0, un, vi (x2 + 1)] [] (wI μ 34 0 x2.toNatClampNeg (μ.1 36 0 x2.toNatClampNeg)) (RI K))))) :
  SS G m_Mo_street 55 [vr 7 0, un, vi x2] [] μ (RI K) :=
  wp_s (M := m_Mo_street) (lk := lk_Mo) (tb := tb_Mo_street_55) (cu := [(55, [true, false, true]), (83, [true, false, true]), (104, [true, false, true]), (182, [true, false, true])]) lk_Mo_ok (by decide +kernel) 18 true _ _ _ _ h
def tb_Mo_street_83 : List En := [e0 83 (.iload_n 2) 1, eC 84 (.bipush 16) 2 16, eT 86 (.if_icmp .ge 16) 3 102, e0 89 (.aload_n 0) 1, eF 90 (.getfield 48) 3 7 20, e0 93 (.iload_n 2) 1, eC 94 (.iconst 0) 1 0, e0 95 .iastore 1, eC 96 (.iinc 2 1) 3 1, eT 99 (.goto (-16)) 3 83, eC 102 (.iconst 0) 1 0, e0 103 (.istore_n 2) 1]
set_option maxRecDepth 100000 in
theorem b_Mo_street_83 {G : Ge} (x2 : Int32) {μ : Mm} {K : Int32 → Mm → Prop} (h :
  (if (16 : Int32) ≤ x2 then
   SS G m_Mo_street 104 [vr 7 0, un, vi 0] [] μ (RI K)
  else
   (vp_in x2 16 ∧
    SS G m_Mo_street 83 [vr 7 0, un, vi (x2 + 1)] [] (wI μ 37 0 x2.toNatClampNeg 0) (RI K)))) :
  SS G m_Mo_street 83 [vr 7 0, un, vi x2] [] μ (RI K) :=
  wp_s (M := m_Mo_street) (lk := lk_Mo) (tb := tb_Mo_street_83) (cu := [(55, [true, false, true]), (83, [true, false, true]), (104, [true, false, true]), (182, [true, false, true])]) lk_Mo_ok (by decide +kernel) 14 true _ _ _ _ h
def tb_Mo_street_104 : List En := [e0 104 (.iload_n 2) 1, e0 105 (.aload_n 0) 1, eF 106 (.getfield 154) 3 7 10, eT 109 (.if_icmp .ge 66) 3 175, e0 112 (.aload_n 0) 1, eF 113 (.getfield 33) 3 7 12, e0 116 (.iload_n 2) 1, e0 117 (.aload_n 0) 1, eF 118 (.getfield 42) 3 7 18, eC 121 (.iconst 3) 1 3, e0 122 (.iload_n 2) 1, e0 123 .imul 1, e0 124 .iaload 1, e0 125 .iastore 1, e0 126 (.aload_n 0) 1, eF 127 (.getfield 36) 3 7 13, e0 130 (.iload_n 2) 1, e0 131 (.aload_n 0) 1, eF 132 (.getfield 42) 3 7 18, eC 135 (.iconst 3) 1 3, e0 136 (.iload_n 2) 1, e0 137 .imul 1, eC 138 (.iconst 1) 1 1, e0 139 .iadd 1, e0 140 .iaload 1, e0 141 .iastore 1, e0 142 (.aload_n 0) 1, eF 143 (.getfield 48) 3 7 20, e0 146 (.iload_n 2) 1, e0 147 (.aload_n 0) 1, eF 148 (.getfield 42) 3 7 18, eC 151 (.iconst 3) 1 3, e0 152 (.iload_n 2) 1, e0 153 .imul 1, eC 154 (.iconst 2) 1 2, e0 155 .iadd 1, e0 156 .iaload 1, e0 157 .iastore 1, e0 158 (.aload_n 0) 1, eF 159 (.getfield 48) 3 7 20, eC 162 (.bipush 10) 2 10, e0 164 (.iload_n 2) 1, e0 165 .iadd 1, eC 166 (.bipush (-9)) 2 (-9), e0 168 .iastore 1, eC 169 (.iinc 2 1) 3 1, eT 172 (.goto (-68)) 3 104, e0 175 (.aload_n 0) 1, eC 176 (.iconst 0) 1 0, eF 177 (.putfield 160) 3 7 21, eC 180 (.iconst 0) 1 0, e0 181 (.istore_n 2) 1]
set_option maxRecDepth 100000 in
theorem b_Mo_street_104 {G : Ge} (x2 : Int32) {μ : Mm} {K : Int32 → Mm → Prop} (h :
  (if (μ.1 7 0 10) ≤ x2 then
   SS G m_Mo_street 182 [vr 7 0, un, vi 0] [] (wI μ 7 0 21 0) (RI K)
  else
   (vp_in (3 * x2) 15 ∧
    (vp_in x2 5 ∧
     (vp_in ((3 * x2) + 1) 15 ∧
      (vp_in x2 5 ∧
       (vp_in ((3 * x2) + 2) 15 ∧
        (vp_in x2 16 ∧
         (vp_in (10 + x2) 16 ∧
          SS G m_Mo_street 104 [vr 7 0, un, vi (x2 + 1)] [] (wI (wI (wI (wI μ 32 0 x2.toNatClampNeg (μ.1 35 0 (Int32.toNatClampNeg (3 * x2)))) 33 0 x2.toNatClampNeg ((wI μ 32 0 x2.toNatClampNeg (μ.1 35 0 (Int32.toNatClampNeg (3 * x2)))).1 35 0 (Int32.toNatClampNeg ((3 * x2) + 1)))) 37 0 x2.toNatClampNeg ((wI (wI μ 32 0 x2.toNatClampNeg (μ.1 35 0 (Int32.toNatClampNeg (3 * x2)))) 33 0 x2.toNatClampNeg ((wI μ 32 0 x2.toNatClampNeg (μ.1 35 0 (Int32.toNatClampNeg (3 * x2)))).1 35 0 (Int32.toNatClampNeg ((3 * x2) + 1)))).1 35 0 (Int32.toNatClampNeg ((3 * x2) + 2)))) 37 0 (Int32.toNatClampNeg (10 + x2)) (-9)) (RI K)))))))))) :
  SS G m_Mo_street 104 [vr 7 0, un, vi x2] [] μ (RI K) :=
  wp_s (M := m_Mo_street) (lk := lk_Mo) (tb := tb_Mo_street_104) (cu := [(55, [true, false, true]), (83, [true, false, true]), (104, [true, false, true]), (182, [true, false, true])]) lk_Mo_ok (by decide +kernel) 51 true _ _ _ _ h
def tb_Mo_street_182 : List En := [e0 182 (.iload_n 2) 1, eC 183 (.iconst 3) 1 3, eT 184 (.if_icmp .ge 16) 3 200, e0 187 (.aload_n 0) 1, eF 188 (.getfield 54) 3 7 23, e0 191 (.iload_n 2) 1, eC 192 (.iconst 0) 1 0, e0 193 .bastore 1, eC 194 (.iinc 2 1) 3 1, eT 197 (.goto (-15)) 3 182, e0 200 (.aload_n 0) 1, eF 201 (.getfield 154) 3 7 10, e0 204 .ireturn 1]
set_option maxRecDepth 100000 in
theorem b_Mo_street_182 {G : Ge} (x2 : Int32) {μ : Mm} {K : Int32 → Mm → Prop} (h :
  (if (3 : Int32) ≤ x2 then
   K (μ.1 7 0 10) μ
  else
   (vp_in x2 3 ∧
    SS G m_Mo_street 182 [vr 7 0, un, vi (x2 + 1)] [] (wI μ 39 0 x2.toNatClampNeg (0 &&& 1)) (RI K)))) :
  SS G m_Mo_street 182 [vr 7 0, un, vi x2] [] μ (RI K) :=
  wp_s (M := m_Mo_street) (lk := lk_Mo) (tb := tb_Mo_street_182) (cu := [(55, [true, false, true]), (83, [true, false, true]), (104, [true, false, true]), (182, [true, false, true])]) lk_Mo_ok (by decide +kernel) 14 true _ _ _ _ h
def tc_Mo_isHouse : List En := [e0 0 (.iload_n 1) 1, eC 1 (.iconst 0) 1 0, e0 2 (.aload_n 0) 1, eF 3 (.getfield 154) 3 7 10, eC 6 (.iconst 1) 1 1, e0 7 .isub 1, eT 8 (.invokestatic 99) 3 0, e0 11 .ireturn 1]
set_option maxRecDepth 100000 in
theorem c_Mo_isHouse {G : Ge} (x1 : Int32) {μ : Mm} {K : Int32 → Mm → Prop} (h :
  (CS G m_Mo_in [vi x1, vi 0, vi ((μ.1 7 0 10) - 1)] μ (RI fun v1 μ1 =>
   ((v1 = 0 ∨ v1 = 1) ∧ K v1 μ1)))) :
  CS G m_Mo_isHouse [vr 7 0, vi x1] μ (RI K) :=
  CS_of pf_Mo_isHouse (Nat.le_of_ble_eq_true rfl) (show SS G m_Mo_isHouse 0 [vr 7 0, vi x1] [] μ (RI K) from wp_s (M := m_Mo_isHouse) (lk := lk_Mo) (tb := tc_Mo_isHouse) (cu := []) lk_Mo_ok (by decide +kernel) 11 true 0 _ _ _ h)
def tc_Mo_isCandlemas : List En := [e0 0 (.aload_n 0) 1, eF 1 (.getfield 48) 3 7 20, eC 4 (.bipush 15) 2 15, e0 6 .iaload 1, e0 7 (.aload_n 0) 1, eF 8 (.getfield 157) 3 7 11, eT 11 (.if_icmp .ne 7) 3 18, eC 14 (.iconst 1) 1 1, eT 15 (.goto 4) 3 19, eC 18 (.iconst 0) 1 0, e0 19 .ireturn 1]
set_option maxRecDepth 100000 in
theorem c_Mo_isCandlemas {G : Ge}  {μ : Mm} {K : Int32 → Mm → Prop} (h :
  (vp_in 15 16 ∧
   (if (μ.1 37 0 (Int32.toNatClampNeg 15)) = (μ.1 7 0 11) then
    (((1 : Int32) = 0 ∨ (1 : Int32) = 1) ∧ K 1 μ)
   else
    (((0 : Int32) = 0 ∨ (0 : Int32) = 1) ∧ K 0 μ)))) :
  CS G m_Mo_isCandlemas [vr 7 0] μ (RI K) :=
  CS_of pf_Mo_isCandlemas (Nat.le_of_ble_eq_true rfl) (show SS G m_Mo_isCandlemas 0 [vr 7 0] [] μ (RI K) from wp_s (M := m_Mo_isCandlemas) (lk := lk_Mo) (tb := tc_Mo_isCandlemas) (cu := []) lk_Mo_ok (by decide +kernel) 13 true 0 _ _ _ h)
def tc_Mo_didBear : List En := [e0 0 (.aload_n 0) 1, eF 1 (.getfield 48) 3 7 20, eC 4 (.bipush 10) 2 10, e0 6 (.iload_n 1) 1, e0 7 .iadd 1, e0 8 .iaload 1, eC 9 (.bipush (-9)) 2 (-9), eT 11 (.if_icmp .eq 7) 3 18, eC 14 (.iconst 1) 1 1, eT 15 (.goto 4) 3 19, eC 18 (.iconst 0) 1 0, e0 19 .ireturn 1]
set_option maxRecDepth 100000 in
theorem c_Mo_didBear {G : Ge} (x1 : Int32) {μ : Mm} {K : Int32 → Mm → Prop} (h :
  (vp_in (10 + x1) 16 ∧
   (if (μ.1 37 0 (Int32.toNatClampNeg (10 + x1))) = (-9) then
    (((0 : Int32) = 0 ∨ (0 : Int32) = 1) ∧ K 0 μ)
   else
    (((1 : Int32) = 0 ∨ (1 : Int32) = 1) ∧ K 1 μ)))) :
  CS G m_Mo_didBear [vr 7 0, vi x1] μ (RI K) :=
  CS_of pf_Mo_didBear (Nat.le_of_ble_eq_true rfl) (show SS G m_Mo_didBear 0 [vr 7 0, vi x1] [] μ (RI K) from wp_s (M := m_Mo_didBear) (lk := lk_Mo) (tb := tc_Mo_didBear) (cu := []) lk_Mo_ok (by decide +kernel) 14 true 0 _ _ _ h)
