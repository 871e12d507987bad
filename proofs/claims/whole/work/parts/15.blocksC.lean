def tc_Mo_finding : List En := [e0 0 (.aload_n 0) 1, eF 1 (.getfield 95) 3 7 0, e0 4 .ireturn 1]
set_option maxRecDepth 100000 in
theorem c_Mo_finding {G : Ge}  {μ : Mm} {K : Int32 → Mm → Prop} (h :
  K (μ.1 7 0 0) μ) :
  CS G m_Mo_finding [vr 7 0] μ (RI K) :=
  CS_of pf_Mo_finding (Nat.le_of_ble_eq_true rfl) (show SS G m_Mo_finding 0 [vr 7 0] [] μ (RI K) from wp_s (M := m_Mo_finding) (lk := lk_Mo) (tb := tc_Mo_finding) (cu := []) lk_Mo_ok (by decide +kernel) 6 true 0 _ _ _ h)
def tc_Mo_in : List En := [e0 0 (.iload_n 0) 1, e0 1 (.iload_n 1) 1, eT 2 (.if_icmp .lt 12) 3 14, e0 5 (.iload_n 0) 1, e0 6 (.iload_n 2) 1, eT 7 (.if_icmp .gt 7) 3 14, eC 10 (.iconst 1) 1 1, eT 11 (.goto 4) 3 15, eC 14 (.iconst 0) 1 0, e0 15 .ireturn 1]
set_option maxRecDepth 100000 in
theorem c_Mo_in {G : Ge} (x0 : Int32) (x1 : Int32) (x2 : Int32) {μ : Mm} {K : Int32 → Mm → Prop} (h :
  (if x0 < x1 then
   (((0 : Int32) = 0 ∨ (0 : Int32) = 1) ∧ K 0 μ)
  else
   (if x2 < x0 then
    (((0 : Int32) = 0 ∨ (0 : Int32) = 1) ∧ K 0 μ)
   else
    (((1 : Int32) = 0 ∨ (1 : Int32) = 1) ∧ K 1 μ)))) :
  CS G m_Mo_in [vi x0, vi x1, vi x2] μ (RI K) :=
  CS_of pf_Mo_in (Nat.le_of_ble_eq_true rfl) (show SS G m_Mo_in 0 [vi x0, vi x1, vi x2] [] μ (RI K) from wp_s (M := m_Mo_in) (lk := lk_Mo) (tb := tc_Mo_in) (cu := []) lk_Mo_ok (by decide +kernel) 12 true 0 _ _ _ h)
def tc_Mo_findings : List En := [e0 0 (.iload_n 1) 1, eC 1 (.iconst 1) 1 1, eC 2 (.iconst 5) 1 5, eT 3 (.invokestatic 99) 3 0, eT 6 (.ifCond .eq 12) 3 18, e0 9 (.aload_n 0) 1, eF 10 (.getfield 7) 3 7 1, e0 13 (.iload_n 1) 1, e0 14 .iaload 1, eT 15 (.goto 4) 3 19, eC 18 (.iconst (-1)) 1 (-1), e0 19 .ireturn 1]
set_option maxRecDepth 100000 in
theorem c_Mo_findings {G : Ge} (x1 : Int32) {μ : Mm} {K : Int32 → Mm → Prop} (h :
  (CS G m_Mo_in [vi x1, vi 1, vi 5] μ (RI fun v1 μ1 =>
   (if v1 = 0 then
    K (-1) μ1
   else
    (vp_in x1 6 ∧
     K (μ1.1 26 0 x1.toNatClampNeg) μ1))))) :
  CS G m_Mo_findings [vr 7 0, vi x1] μ (RI K) :=
  CS_of pf_Mo_findings (Nat.le_of_ble_eq_true rfl) (show SS G m_Mo_findings 0 [vr 7 0, vi x1] [] μ (RI K) from wp_s (M := m_Mo_findings) (lk := lk_Mo) (tb := tc_Mo_findings) (cu := []) lk_Mo_ok (by decide +kernel) 14 true 0 _ _ _ h)
def tc_Mo_asked : List En := [e0 0 (.aload_n 0) 1, eF 1 (.getfield 103) 3 7 2, e0 4 .ireturn 1]
set_option maxRecDepth 100000 in
theorem c_Mo_asked {G : Ge}  {μ : Mm} {K : Int32 → Mm → Prop} (h :
  K (μ.1 7 0 2) μ) :
  CS G m_Mo_asked [vr 7 0] μ (RI K) :=
  CS_of pf_Mo_asked (Nat.le_of_ble_eq_true rfl) (show SS G m_Mo_asked 0 [vr 7 0] [] μ (RI K) from wp_s (M := m_Mo_asked) (lk := lk_Mo) (tb := tc_Mo_asked) (cu := []) lk_Mo_ok (by decide +kernel) 6 true 0 _ _ _ h)
def tc_Mo_upper : List En := [e0 0 (.aload_n 0) 1, eF 1 (.getfield 106) 3 7 3, e0 4 .lreturn 1]
set_option maxRecDepth 100000 in
theorem c_Mo_upper {G : Ge}  {μ : Mm} {K : Int64 → Mm → Prop} (h :
  K (μ.2 7 0 3) μ) :
  CS G m_Mo_upper [vr 7 0] μ (RL K) :=
  CS_of pf_Mo_upper (Nat.le_of_ble_eq_true rfl) (show SS G m_Mo_upper 0 [vr 7 0] [] μ (RL K) from wp_s (M := m_Mo_upper) (lk := lk_Mo) (tb := tc_Mo_upper) (cu := []) lk_Mo_ok (by decide +kernel) 6 true 0 _ _ _ h)
def tc_Mo_lower : List En := [e0 0 (.aload_n 0) 1, eF 1 (.getfield 13) 3 7 4, e0 4 .lreturn 1]
set_option maxRecDepth 100000 in
theorem c_Mo_lower {G : Ge}  {μ : Mm} {K : Int64 → Mm → Prop} (h :
  K (μ.2 7 0 4) μ) :
  CS G m_Mo_lower [vr 7 0] μ (RL K) :=
  CS_of pf_Mo_lower (Nat.le_of_ble_eq_true rfl) (show SS G m_Mo_lower 0 [vr 7 0] [] μ (RL K) from wp_s (M := m_Mo_lower) (lk := lk_Mo) (tb := tc_Mo_lower) (cu := []) lk_Mo_ok (by decide +kernel) 6 true 0 _ _ _ h)
def tc_Mo_isRow : List En := [e0 0 (.iload_n 0) 1, eC 1 (.iconst 0) 1 0, eC 2 (.iconst 5) 1 5, eT 3 (.invokestatic 99) 3 0, e0 6 .ireturn 1]
set_option maxRecDepth 100000 in
theorem c_Mo_isRow {G : Ge} (x0 : Int32) {μ : Mm} {K : Int32 → Mm → Prop} (h :
  (CS G m_Mo_in [vi x0, vi 0, vi 5] μ (RI fun v1 μ1 =>
   ((v1 = 0 ∨ v1 = 1) ∧ K v1 μ1)))) :
  CS G m_Mo_isRow [vi x0] μ (RI K) :=
  CS_of pf_Mo_isRow (Nat.le_of_ble_eq_true rfl) (show SS G m_Mo_isRow 0 [vi x0] [] μ (RI K) from wp_s (M := m_Mo_isRow) (lk := lk_Mo) (tb := tc_Mo_isRow) (cu := []) lk_Mo_ok (by decide +kernel) 8 true 0 _ _ _ h)
def tc_Mo_meets : List En := [e0 0 (.aload_n 0) 1, e0 1 (.iload_n 1) 1, eF 2 (.putfield 95) 3 7 0, e0 5 (.aload_n 0) 1, eF 6 (.getfield 7) 3 7 1, e0 9 (.iload_n 1) 1, e0 10 .dup2 1, e0 11 .iaload 1, eC 12 (.iconst 1) 1 1, e0 13 .iadd 1, e0 14 .iastore 1, eC 15 (.bipush (-3)) 2 (-3), e0 17 .ireturn 1]
set_option maxRecDepth 100000 in
theorem c_Mo_meets {G : Ge} (x1 : Int32) {μ : Mm} {K : Int32 → Mm → Prop} (h :
  (vp_in x1 6 ∧
   (vp_in x1 6 ∧
    K (-3) (wI (wI μ 7 0 0 x1) 26 0 x1.toNatClampNeg (((wI μ 7 0 0 x1).1 26 0 x1.toNatClampNeg) + 1))))) :
  CS G m_Mo_meets [vr 7 0, vi x1] μ (RI K) :=
  CS_of pf_Mo_meets (Nat.le_of_ble_eq_true rfl) (show SS G m_Mo_meets 0 [vr 7 0, vi x1] [] μ (RI K) from wp_s (M := m_Mo_meets) (lk := lk_Mo) (tb := tc_Mo_meets) (cu := []) lk_Mo_ok (by decide +kernel) 16 true 0 _ _ _ h)
def tc_Mo_row : List En := [e0 0 (.iload_n 1) 1, eT 1 (.invokestatic 109) 3 1, eT 4 (.ifCond .eq 9) 3 13, e0 7 (.iload_n 2) 1, eC 8 (.bipush 40) 2 40, eT 10 (.if_icmp .le 5) 3 15, eC 13 (.iconst (-1)) 1 (-1), e0 14 .ireturn 1, e0 15 (.iload_n 2) 1, eT 16 (.ifCond .ge 9) 3 25, e0 19 (.aload_n 0) 1, eC 20 (.iconst 5) 1 5, eT 21 (.invokevirtual 113) 3 2, e0 24 .ireturn 1, e0 25 (.aload_n 0) 1, eF 26 (.getfield 17) 3 7 5, e0 29 (.iload_n 1) 1, e0 30 (.iload_n 2) 1, e0 31 .iastore 1, eC 32 (.iconst 0) 1 0, e0 33 (.istore_n 3) 1]
set_option maxRecDepth 100000 in
theorem c_Mo_row {G : Ge} (x1 : Int32) (x2 : Int32) {μ : Mm} {K : Int32 → Mm → Prop} (h :
  (CS G m_Mo_isRow [vi x1] μ (RI fun v1 μ1 =>
   (if v1 = 0 then
    K (-1) μ1
   else
    (if x2 ≤ 40 then
     (if 0 ≤ x2 then
      (vp_in x1 6 ∧
       SS G m_Mo_row 34 [vr 7 0, vi x1, vi x2, vi 0] [] (wI μ1 27 0 x1.toNatClampNeg x2) (RI K))
     else
      (CS G m_Mo_meets [vr 7 0, vi 5] μ1 (RI fun v2 μ2 =>
       K v2 μ2)))
    else
     K (-1) μ1))))) :
  CS G m_Mo_row [vr 7 0, vi x1, vi x2] μ (RI K) :=
  CS_of pf_Mo_row (Nat.le_of_ble_eq_true rfl) (show SS G m_Mo_row 0 [vr 7 0, vi x1, vi x2, un] [] μ (RI K) from wp_s (M := m_Mo_row) (lk := lk_Mo) (tb := tc_Mo_row) (cu := [(34, [true, true, true, true])]) lk_Mo_ok (by decide +kernel) 19 true 0 _ _ _ h)
def tb_Mo_row_34 : List En := [e0 34 (.iload_n 3) 1, eC 35 (.bipush 40) 2 40, eT 37 (.if_icmp .ge 21) 3 58, e0 40 (.aload_n 0) 1, eF 41 (.getfield 20) 3 7 6, eC 44 (.bipush 40) 2 40, e0 46 (.iload_n 1) 1, e0 47 .imul 1, e0 48 (.iload_n 3) 1, e0 49 .iadd 1, eC 50 (.iconst 0) 1 0, e0 51 .iastore 1, eC 52 (.iinc 3 1) 3 1, eT 55 (.goto (-21)) 3 34, e0 58 (.iload_n 2) 1, e0 59 .ireturn 1]
set_option maxRecDepth 100000 in
theorem b_Mo_row_34 {G : Ge} (x1 : Int32) (x2 : Int32) (x3 : Int32) {μ : Mm} {K : Int32 → Mm → Prop} (h :
  (if (40 : Int32) ≤ x3 then
   K x2 μ
  else
   (vp_in ((40 * x1) + x3) 240 ∧
    SS G m_Mo_row 34 [vr 7 0, vi x1, vi x2, vi (x3 + 1)] [] (wI μ 28 0 (Int32.toNatClampNeg ((40 * x1) + x3)) 0) (RI K)))) :
  SS G m_Mo_row 34 [vr 7 0, vi x1, vi x2, vi x3] [] μ (RI K) :=
  wp_s (M := m_Mo_row) (lk := lk_Mo) (tb := tb_Mo_row_34) (cu := [(34, [true, true, true, true])]) lk_Mo_ok (by decide +kernel) 18 true _ _ _ _ h
def tc_Mo_rowAt : List En := [e0 0 (.aload_n 0) 1, eF 1 (.getfield 20) 3 7 6, eC 4 (.bipush 40) 2 40, e0 6 (.iload_n 1) 1, e0 7 .imul 1, e0 8 (.iload_n 2) 1, e0 9 .iadd 1, e0 10 .iaload 1, e0 11 .ireturn 1]
set_option maxRecDepth 100000 in
theorem c_Mo_rowAt {G : Ge} (x1 : Int32) (x2 : Int32) {μ : Mm} {K : Int32 → Mm → Prop} (h :
  (vp_in ((40 * x1) + x2) 240 ∧
   K (μ.1 28 0 (Int32.toNatClampNeg ((40 * x1) + x2))) μ)) :
  CS G m_Mo_rowAt [vr 7 0, vi x1, vi x2] μ (RI K) :=
  CS_of pf_Mo_rowAt (Nat.le_of_ble_eq_true rfl) (show SS G m_Mo_rowAt 0 [vr 7 0, vi x1, vi x2] [] μ (RI K) from wp_s (M := m_Mo_rowAt) (lk := lk_Mo) (tb := tc_Mo_rowAt) (cu := []) lk_Mo_ok (by decide +kernel) 12 true 0 _ _ _ h)
def tc_Mo_tells : List En := [e0 0 (.aload_n 0) 1, e0 1 (.iload_n 1) 1, eF 2 (.putfield 103) 3 7 2, e0 5 (.iload_n 2) 1, e0 6 .ireturn 1]
set_option maxRecDepth 100000 in
theorem c_Mo_tells {G : Ge} (x1 : Int32) (x2 : Int32) {μ : Mm} {K : Int32 → Mm → Prop} (h :
  K x2 (wI μ 7 0 2 x1)) :
  CS G m_Mo_tells [vr 7 0, vi x1, vi x2] μ (RI K) :=
  CS_of pf_Mo_tells (Nat.le_of_ble_eq_true rfl) (show SS G m_Mo_tells 0 [vr 7 0, vi x1, vi x2] [] μ (RI K) from wp_s (M := m_Mo_tells) (lk := lk_Mo) (tb := tc_Mo_tells) (cu := []) lk_Mo_ok (by decide +kernel) 8 true 0 _ _ _ h)
def tc_Mo_lay : List En := [e0 0 (.iload_n 1) 1, eT 1 (.invokestatic 109) 3 1, eT 4 (.ifCond .ne 5) 3 9, eC 7 (.iconst (-1)) 1 (-1), e0 8 .ireturn 1, e0 9 (.aload_n 0) 1, eF 10 (.getfield 17) 3 7 5, e0 13 (.iload_n 1) 1, e0 14 .iaload 1, eT 15 (.ifCond .ge 9) 3 24, e0 18 (.aload_n 0) 1, eC 19 (.iconst 1) 1 1, eT 20 (.invokevirtual 113) 3 2, e0 23 .ireturn 1, e0 24 (.iload_n 2) 1, eC 25 (.iconst 0) 1 0, e0 26 (.aload_n 0) 1, eF 27 (.getfield 17) 3 7 5, e0 30 (.iload_n 1) 1, e0 31 .iaload 1, eC 32 (.iconst 1) 1 1, e0 33 .isub 1, eT 34 (.invokestatic 99) 3 0, eT 37 (.ifCond .ne 9) 3 46, e0 40 (.aload_n 0) 1, eC 41 (.iconst 2) 1 2, eT 42 (.invokevirtual 113) 3 2, e0 45 .ireturn 1, e0 46 (.aload_n 0) 1, e0 47 (.iload_n 1) 1, e0 48 (.iload_n 2) 1, eT 49 (.invokevirtual 117) 3 3, e0 52 (.istore 4) 2, e0 54 (.aload_n 0) 1, eF 55 (.getfield 20) 3 7 6, eC 58 (.bipush 40) 2 40, e0 60 (.iload_n 1) 1, e0 61 .imul 1, e0 62 (.iload_n 2) 1, e0 63 .iadd 1, e0 64 (.iload_n 3) 1, e0 65 .iastore 1, e0 66 (.aload_n 0) 1, e0 67 (.iload 4) 2, eC 69 (.iconst 1) 1 1, eT 70 (.invokevirtual 121) 3 4, e0 73 .ireturn 1]
set_option maxRecDepth 100000 in
theorem c_Mo_lay {G : Ge} (x1 : Int32) (x2 : Int32) (x3 : Int32) {μ : Mm} {K : Int32 → Mm → Prop} (h :
  (CS G m_Mo_isRow [vi x1] μ (RI fun v1 μ1 =>
   (if v1 = 0 then
    K (-1) μ1
   else
    (vp_in x1 6 ∧
     (if 0 ≤ (μ1.1 27 0 x1.toNatClampNeg) then
      (vp_in x1 6 ∧
       (CS G m_Mo_in [vi x2, vi 0, vi ((μ1.1 27 0 x1.toNatClampNeg) - 1)] μ1 (RI fun v2 μ2 =>
        (if v2 = 0 then
         (CS G m_Mo_meets [vr 7 0, vi 2] μ2 (RI fun v3 μ3 =>
          K v3 μ3))
        else
         (CS G m_Mo_rowAt [vr 7 0, vi x1, vi x2] μ2 (RI fun v4 μ4 =>
          (vp_in ((40 * x1) + x2) 240 ∧
           (CS G m_Mo_tells [vr 7 0, vi v4, vi 1] (wI μ4 28 0 (Int32.toNatClampNeg ((40 * x1) + x2)) x3) (RI fun v5 μ5 =>
            K v5 μ5)))))))))
     else
      (CS G m_Mo_meets [vr 7 0, vi 1] μ1 (RI fun v6 μ6 =>
       K v6 μ6)))))))) :
  CS G m_Mo_lay [vr 7 0, vi x1, vi x2, vi x3] μ (RI K) :=
  CS_of pf_Mo_lay (Nat.le_of_ble_eq_true rfl) (show SS G m_Mo_lay 0 [vr 7 0, vi x1, vi x2, vi x3, un] [] μ (RI K) from wp_s (M := m_Mo_lay) (lk := lk_Mo) (tb := tc_Mo_lay) (cu := []) lk_Mo_ok (by decide +kernel) 40 true 0 _ _ _ h)
def tc_Mo_at : List En := [e0 0 (.iload_n 1) 1, eT 1 (.invokestatic 109) 3 1, eT 4 (.ifCond .ne 5) 3 9, eC 7 (.iconst (-1)) 1 (-1), e0 8 .ireturn 1, e0 9 (.aload_n 0) 1, eF 10 (.getfield 17) 3 7 5, e0 13 (.iload_n 1) 1, e0 14 .iaload 1, eT 15 (.ifCond .ge 9) 3 24, e0 18 (.aload_n 0) 1, eC 19 (.iconst 1) 1 1, eT 20 (.invokevirtual 113) 3 2, e0 23 .ireturn 1, e0 24 (.iload_n 2) 1, eC 25 (.iconst 0) 1 0, e0 26 (.aload_n 0) 1, eF 27 (.getfield 17) 3 7 5, e0 30 (.iload_n 1) 1, e0 31 .iaload 1, eC 32 (.iconst 1) 1 1, e0 33 .isub 1, eT 34 (.invokestatic 99) 3 0, eT 37 (.ifCond .eq 17) 3 54, e0 40 (.aload_n 0) 1, e0 41 (.aload_n 0) 1, e0 42 (.iload_n 1) 1, e0 43 (.iload_n 2) 1, eT 44 (.invokevirtual 117) 3 3, eC 47 (.iconst 1) 1 1, eT 48 (.invokevirtual 121) 3 4, eT 51 (.goto 8) 3 59, e0 54 (.aload_n 0) 1, eC 55 (.iconst 2) 1 2, eT 56 (.invokevirtual 113) 3 2, e0 59 .ireturn 1]
set_option maxRecDepth 100000 in
theorem c_Mo_at {G : Ge} (x1 : Int32) (x2 : Int32) {μ : Mm} {K : Int32 → Mm → Prop} (h :
  (CS G m_Mo_isRow [vi x1] μ (RI fun v1 μ1 =>
   (if v1 = 0 then
    K (-1) μ1
   else
    (vp_in x1 6 ∧
     (if 0 ≤ (μ1.1 27 0 x1.toNatClampNeg) then
      (vp_in x1 6 ∧
       (CS G m_Mo_in [vi x2, vi 0, vi ((μ1.1 27 0 x1.toNatClampNeg) - 1)] μ1 (RI fun v2 μ2 =>
        (if v2 = 0 then
         (CS G m_Mo_meets [vr 7 0, vi 2] μ2 (RI fun v3 μ3 =>
          K v3 μ3))
        else
         (CS G m_Mo_rowAt [vr 7 0, vi x1, vi x2] μ2 (RI fun v4 μ4 =>
          (CS G m_Mo_tells [vr 7 0, vi v4, vi 1] μ4 (RI fun v5 μ5 =>
           K v5 μ5))))))))
     else
      (CS G m_Mo_meets [vr 7 0, vi 1] μ1 (RI fun v6 μ6 =>
       K v6 μ6)))))))) :
  CS G m_Mo_at [vr 7 0, vi x1, vi x2] μ (RI K) :=
  CS_of pf_Mo_at (Nat.le_of_ble_eq_true rfl) (show SS G m_Mo_at 0 [vr 7 0, vi x1, vi x2] [] μ (RI K) from wp_s (M := m_Mo_at) (lk := lk_Mo) (tb := tc_Mo_at) (cu := []) lk_Mo_ok (by decide +kernel) 30 true 0 _ _ _ h)
def tc_Mo_tear : List En := [e0 0 (.iload_n 1) 1, eT 1 (.invokestatic 109) 3 1, eT 4 (.ifCond .ne 5) 3 9, eC 7 (.iconst (-1)) 1 (-1), e0 8 .ireturn 1, e0 9 (.aload_n 0) 1, eF 10 (.getfield 17) 3 7 5, e0 13 (.iload_n 1) 1, e0 14 .iaload 1, eT 15 (.ifCond .ge 9) 3 24, e0 18 (.aload_n 0) 1, eC 19 (.iconst 1) 1 1, eT 20 (.invokevirtual 113) 3 2, e0 23 .ireturn 1, e0 24 (.aload_n 0) 1, eF 25 (.getfield 17) 3 7 5, e0 28 (.iload_n 1) 1, eC 29 (.iconst (-1)) 1 (-1), e0 30 .iastore 1, eC 31 (.iconst 1) 1 1, e0 32 .ireturn 1]
set_option maxRecDepth 100000 in
theorem c_Mo_tear {G : Ge} (x1 : Int32) {μ : Mm} {K : Int32 → Mm → Prop} (h :
  (CS G m_Mo_isRow [vi x1] μ (RI fun v1 μ1 =>
   (if v1 = 0 then
    K (-1) μ1
   else
    (vp_in x1 6 ∧
     (if 0 ≤ (μ1.1 27 0 x1.toNatClampNeg) then
      (vp_in x1 6 ∧
       K 1 (wI μ1 27 0 x1.toNatClampNeg (-1)))
     else
      (CS G m_Mo_meets [vr 7 0, vi 1] μ1 (RI fun v2 μ2 =>
       K v2 μ2)))))))) :
  CS G m_Mo_tear [vr 7 0, vi x1] μ (RI K) :=
  CS_of pf_Mo_tear (Nat.le_of_ble_eq_true rfl) (show SS G m_Mo_tear 0 [vr 7 0, vi x1] [] μ (RI K) from wp_s (M := m_Mo_tear) (lk := lk_Mo) (tb := tc_Mo_tear) (cu := []) lk_Mo_ok (by decide +kernel) 18 true 0 _ _ _ h)
def tc_Mo_copy : List En := [e0 0 (.iload_n 1) 1, eT 1 (.invokestatic 109) 3 1, eT 4 (.ifCond .eq 10) 3 14, e0 7 (.iload_n 3) 1, eT 8 (.invokestatic 109) 3 1, eT 11 (.ifCond .ne 5) 3 16, eC 14 (.iconst (-1)) 1 (-1), e0 15 .ireturn 1, e0 16 (.iload 5) 2, eT 18 (.ifCond .ge 9) 3 27, e0 21 (.aload_n 0) 1, eC 22 (.iconst 5) 1 5, eT 23 (.invokevirtual 113) 3 2, e0 26 .ireturn 1, e0 27 (.aload_n 0) 1, eF 28 (.getfield 17) 3 7 5, e0 31 (.iload_n 1) 1, e0 32 .iaload 1, eT 33 (.ifCond .lt 12) 3 45, e0 36 (.aload_n 0) 1, eF 37 (.getfield 17) 3 7 5, e0 40 (.iload_n 3) 1, e0 41 .iaload 1, eT 42 (.ifCond .ge 9) 3 51, e0 45 (.aload_n 0) 1, eC 46 (.iconst 1) 1 1, eT 47 (.invokevirtual 113) 3 2, e0 50 .ireturn 1, e0 51 (.iload_n 2) 1, eT 52 (.ifCond .lt 43) 3 95, e0 55 (.iload 4) 2, eT 57 (.ifCond .lt 38) 3 95, e0 60 (.iload_n 2) 1, e0 61 .i2l 1, e0 62 (.iload 5) 2, e0 64 .i2l 1, e0 65 .ladd 1, e0 66 (.aload_n 0) 1, eF 67 (.getfield 17) 3 7 5, e0 70 (.iload_n 1) 1, e0 71 .iaload 1, e0 72 .i2l 1, e0 73 .lcmp 1, eT 74 (.ifCond .gt 21) 3 95, e0 77 (.iload 4) 2, e0 79 .i2l 1, e0 80 (.iload 5) 2, e0 82 .i2l 1, e0 83 .ladd 1, e0 84 (.aload_n 0) 1, eF 85 (.getfield 17) 3 7 5, e0 88 (.iload_n 3) 1, e0 89 .iaload 1, e0 90 .i2l 1, e0 91 .lcmp 1, eT 92 (.ifCond .le 9) 3 101, e0 95 (.aload_n 0) 1, eC 96 (.iconst 2) 1 2, eT 97 (.invokevirtual 113) 3 2, e0 100 .ireturn 1, eC 101 (.iconst 0) 1 0, e0 102 (.istore 6) 2]
set_option maxRecDepth 100000 in
theorem c_Mo_copy {G : Ge} (x1 : Int32) (x2 : Int32) (x3 : Int32) (x4 : Int32) (x5 : Int32) {μ : Mm} {K : Int32 → Mm → Prop} (h :
  (CS G m_Mo_isRow [vi x1] μ (RI fun v1 μ1 =>
   (if v1 = 0 then
    K (-1) μ1
   else
    (CS G m_Mo_isRow [vi x3] μ1 (RI fun v2 μ2 =>
     (if v2 = 0 then
      K (-1) μ2
     else
      (if 0 ≤ x5 then
       (vp_in x1 6 ∧
        (if (μ2.1 27 0 x1.toNatClampNeg) < 0 then
         (CS G m_Mo_meets [vr 7 0, vi 1] μ2 (RI fun v3 μ3 =>
          K v3 μ3))
        else
         (vp_in x3 6 ∧
          (if 0 ≤ (μ2.1 27 0 x3.toNatClampNeg) then
           (if x2 < 0 then
            (CS G m_Mo_meets [vr 7 0, vi 2] μ2 (RI fun v4 μ4 =>
             K v4 μ4))
           else
            (if x4 < 0 then
             (CS G m_Mo_meets [vr 7 0, vi 2] μ2 (RI fun v5 μ5 =>
              K v5 μ5))
            else
             (vp_in x1 6 ∧
              (if 0 < (lg_cmp ((Int32.toInt64 x2) + (Int32.toInt64 x5)) (Int32.toInt64 (μ2.1 27 0 x1.toNatClampNeg))) then
               (CS G m_Mo_meets [vr 7 0, vi 2] μ2 (RI fun v6 μ6 =>
                K v6 μ6))
              else
               (vp_in x3 6 ∧
                (if (lg_cmp ((Int32.toInt64 x4) + (Int32.toInt64 x5)) (Int32.toInt64 (μ2.1 27 0 x3.toNatClampNeg))) ≤ 0 then
                 SS G m_Mo_copy 104 [vr 7 0, vi x1, vi x2, vi x3, vi x4, vi x5, vi 0] [] μ2 (RI K)
                else
                 (CS G m_Mo_meets [vr 7 0, vi 2] μ2 (RI fun v7 μ7 =>
                  K v7 μ7))))))))
          else
           (CS G m_Mo_meets [vr 7 0, vi 1] μ2 (RI fun v8 μ8 =>
            K v8 μ8))))))
      else
       (CS G m_Mo_meets [vr 7 0, vi 5] μ2 (RI fun v9 μ9 =>
        K v9 μ9)))))))))) :
  CS G m_Mo_copy [vr 7 0, vi x1, vi x2, vi x3, vi x4, vi x5] μ (RI K) :=
  CS_of pf_Mo_copy (Nat.le_of_ble_eq_true rfl) (show SS G m_Mo_copy 0 [vr 7 0, vi x1, vi x2, vi x3, vi x4, vi x5, un] [] μ (RI K) from wp_s (M := m_Mo_copy) (lk := lk_Mo) (tb := tc_Mo_copy) (cu := [(104, [true, true, true, true, true, true, true]), (136, [true, false, false, true, true, true, true])]) lk_Mo_ok (by decide +kernel) 53 true 0 _ _ _ h)
def tb_Mo_copy_104 : List En := [e0 104 (.iload 6) 2, e0 106 (.iload 5) 2, eT 108 (.if_icmp .ge 25) 3 133, e0 111 (.aload_n 0) 1, eF 112 (.getfield 23) 3 7 7, e0 115 (.iload 6) 2, e0 117 (.aload_n 0) 1, e0 118 (.iload_n 1) 1, e0 119 (.iload_n 2) 1, e0 120 (.iload 6) 2, e0 122 .iadd 1, eT 123 (.invokevirtual 117) 3 3, e0 126 .iastore 1, eC 127 (.iinc 6 1) 3 1, eT 130 (.goto (-26)) 3 104, eC 133 (.iconst 0) 1 0, e0 134 (.istore 6) 2]
set_option maxRecDepth 100000 in
theorem b_Mo_copy_104 {G : Ge} (x1 : Int32) (x2 : Int32) (x3 : Int32) (x4 : Int32) (x5 : Int32) (x6 : Int32) {μ : Mm} {K : Int32 → Mm → Prop} (h :
  (if x5 ≤ x6 then
   SS G m_Mo_copy 136 [vr 7 0, un, un, vi x3, vi x4, vi x5, vi 0] [] μ (RI K)
  else
   (CS G m_Mo_rowAt [vr 7 0, vi x1, vi (x2 + x6)] μ (RI fun v1 μ1 =>
    (vp_in x6 40 ∧
     SS G m_Mo_copy 104 [vr 7 0, vi x1, vi x2, vi x3, vi x4, vi x5, vi (x6 + 1)] [] (wI μ1 29 0 x6.toNatClampNeg v1) (RI K)))))) :
  SS G m_Mo_copy 104 [vr 7 0, vi x1, vi x2, vi x3, vi x4, vi x5, vi x6] [] μ (RI K) :=
  wp_s (M := m_Mo_copy) (lk := lk_Mo) (tb := tb_Mo_copy_104) (cu := [(104, [true, true, true, true, true, true, true]), (136, [true, false, false, true, true, true, true])]) lk_Mo_ok (by decide +kernel) 19 true _ _ _ _ h
def tb_Mo_copy_136 : List En := [e0 136 (.iload 6) 2, e0 138 (.iload 5) 2, eT 140 (.if_icmp .ge 31) 3 171, e0 143 (.aload_n 0) 1, eF 144 (.getfield 20) 3 7 6, eC 147 (.bipush 40) 2 40, e0 149 (.iload_n 3) 1, e0 150 .imul 1, e0 151 (.iload 4) 2, e0 153 .iadd 1, e0 154 (.iload 6) 2, e0 156 .iadd 1, e0 157 (.aload_n 0) 1, eF 158 (.getfield 23) 3 7 7, e0 161 (.iload 6) 2, e0 163 .iaload 1, e0 164 .iastore 1, eC 165 (.iinc 6 1) 3 1, eT 168 (.goto (-32)) 3 136, eC 171 (.iconst 1) 1 1, e0 172 .ireturn 1]
set_option maxRecDepth 100000 in
theorem b_Mo_copy_136 {G : Ge} (x3 : Int32) (x4 : Int32) (x5 : Int32) (x6 : Int32) {μ : Mm} {K : Int32 → Mm → Prop} (h :
  (if x5 ≤ x6 then
   K 1 μ
  else
   (vp_in x6 40 ∧
    (vp_in (((40 * x3) + x4) + x6) 240 ∧
     SS G m_Mo_copy 136 [vr 7 0, un, un, vi x3, vi x4, vi x5, vi (x6 + 1)] [] (wI μ 28 0 (Int32.toNatClampNeg (((40 * x3) + x4) + x6)) (μ.1 29 0 x6.toNatClampNeg)) (RI K))))) :
  SS G m_Mo_copy 136 [vr 7 0, un, un, vi x3, vi x4, vi x5, vi x6] [] μ (RI K) :=
  wp_s (M := m_Mo_copy) (lk := lk_Mo) (tb := tb_Mo_copy_136) (cu := [(104, [true, true, true, true, true, true, true]), (136, [true, false, false, true, true, true, true])]) lk_Mo_ok (by decide +kernel) 23 true _ _ _ _ h
def tc_Mo_mean : List En := [e0 0 (.iload_n 1) 1, eT 1 (.invokestatic 109) 3 1, eT 4 (.ifCond .ne 5) 3 9, eC 7 (.iconst (-1)) 1 (-1), e0 8 .ireturn 1, e0 9 (.aload_n 0) 1, eF 10 (.getfield 17) 3 7 5, e0 13 (.iload_n 1) 1, e0 14 .iaload 1, eT 15 (.ifCond .ge 9) 3 24, e0 18 (.aload_n 0) 1, eC 19 (.iconst 1) 1 1, eT 20 (.invokevirtual 113) 3 2, e0 23 .ireturn 1, e0 24 (.aload_n 0) 1, eF 25 (.getfield 17) 3 7 5, e0 28 (.iload_n 1) 1, e0 29 .iaload 1, eT 30 (.ifCond .ne 9) 3 39, e0 33 (.aload_n 0) 1, eC 34 (.iconst 4) 1 4, eT 35 (.invokevirtual 113) 3 2, e0 38 .ireturn 1, eD 39 (.lconst 0) 1 0, e0 40 (.lstore_n 2) 1, eC 41 (.iconst 0) 1 0, e0 42 (.istore 4) 2]
set_option maxRecDepth 100000 in
theorem c_Mo_mean {G : Ge} (x1 : Int32) {μ : Mm} {K : Int32 → Mm → Prop} (h :
  (CS G m_Mo_isRow [vi x1] μ (RI fun v1 μ1 =>
   (if v1 = 0 then
    K (-1) μ1
   else
    (vp_in x1 6 ∧
     (if 0 ≤ (μ1.1 27 0 x1.toNatClampNeg) then
      (vp_in x1 6 ∧
       (if (μ1.1 27 0 x1.toNatClampNeg) = 0 then
        (CS G m_Mo_meets [vr 7 0, vi 4] μ1 (RI fun v2 μ2 =>
         K v2 μ2))
       else
        SS G m_Mo_mean 44 [vr 7 0, vi x1, vl 0, un, vi 0] [] μ1 (RI K)))
     else
      (CS G m_Mo_meets [vr 7 0, vi 1] μ1 (RI fun v3 μ3 =>
       K v3 μ3)))))))) :
  CS G m_Mo_mean [vr 7 0, vi x1] μ (RI K) :=
  CS_of pf_Mo_mean (Nat.le_of_ble_eq_true rfl) (show SS G m_Mo_mean 0 [vr 7 0, vi x1, un, un, un] [] μ (RI K) from wp_s (M := m_Mo_mean) (lk := lk_Mo) (tb := tc_Mo_mean) (cu := [(44, [true, true, true, false, true])]) lk_Mo_ok (by decide +kernel) 21 true 0 _ _ _ h)
def tb_Mo_mean_44 : List En := [e0 44 (.iload 4) 2, e0 46 (.aload_n 0) 1, eF 47 (.getfield 17) 3 7 5, e0 50 (.iload_n 1) 1, e0 51 .iaload 1, eT 52 (.if_icmp .ge 20) 3 72, e0 55 (.lload_n 2) 1, e0 56 (.aload_n 0) 1, e0 57 (.iload_n 1) 1, e0 58 (.iload 4) 2, eT 60 (.invokevirtual 117) 3 3, e0 63 .i2l 1, e0 64 .ladd 1, e0 65 (.lstore_n 2) 1, eC 66 (.iinc 4 1) 3 1, eT 69 (.goto (-25)) 3 44, e0 72 (.aload_n 0) 1, e0 73 (.lload_n 2) 1, e0 74 (.aload_n 0) 1, eF 75 (.getfield 17) 3 7 5, e0 78 (.iload_n 1) 1, e0 79 .iaload 1, e0 80 .i2l 1, e0 81 .ldiv 1, e0 82 .l2i 1, eC 83 (.iconst 1) 1 1, eT 84 (.invokevirtual 121) 3 4, e0 87 .ireturn 1]
set_option maxRecDepth 100000 in
theorem b_Mo_mean_44 {G : Ge} (x1 : Int32) (l2 : Int64) (x4 : Int32) {μ : Mm} {K : Int32 → Mm → Prop} (h :
  (vp_in x1 6 ∧
   (if (μ.1 27 0 x1.toNatClampNeg) ≤ x4 then
    (vp_in x1 6 ∧
     (¬ ((Int32.toInt64 (μ.1 27 0 x1.toNatClampNeg)) : Int64) = 0 ∧
      (CS G m_Mo_tells [vr 7 0, vi (Int64.toInt32 (l2 / (Int32.toInt64 (μ.1 27 0 x1.toNatClampNeg)))), vi 1] μ (RI fun v1 μ1 =>
       K v1 μ1))))
   else
    (CS G m_Mo_rowAt [vr 7 0, vi x1, vi x4] μ (RI fun v2 μ2 =>
     SS G m_Mo_mean 44 [vr 7 0, vi x1, vl (l2 + (Int32.toInt64 v2)), un, vi (x4 + 1)] [] μ2 (RI K)))))) :
  SS G m_Mo_mean 44 [vr 7 0, vi x1, vl l2, un, vi x4] [] μ (RI K) :=
  wp_s (M := m_Mo_mean) (lk := lk_Mo) (tb := tb_Mo_mean_44) (cu := [(44, [true, true, true, false, true])]) lk_Mo_ok (by decide +kernel) 21 true _ _ _ _ h
def tc_Mo_isText : List En := [e0 0 (.iload_n 0) 1, eC 1 (.iconst 0) 1 0, eC 2 (.iconst 3) 1 3, eT 3 (.invokestatic 99) 3 0, e0 6 .ireturn 1]
set_option maxRecDepth 100000 in
theorem c_Mo_isText {G : Ge} (x0 : Int32) {μ : Mm} {K : Int32 → Mm → Prop} (h :
  (CS G m_Mo_in [vi x0, vi 0, vi 3] μ (RI fun v1 μ1 =>
   ((v1 = 0 ∨ v1 = 1) ∧ K v1 μ1)))) :
  CS G m_Mo_isText [vi x0] μ (RI K) :=
  CS_of pf_Mo_isText (Nat.le_of_ble_eq_true rfl) (show SS G m_Mo_isText 0 [vi x0] [] μ (RI K) from wp_s (M := m_Mo_isText) (lk := lk_Mo) (tb := tc_Mo_isText) (cu := []) lk_Mo_ok (by decide +kernel) 8 true 0 _ _ _ h)
def tc_Mo_text : List En := [e0 0 (.iload_n 1) 1, eT 1 (.invokestatic 124) 3 5, eT 4 (.ifCond .eq 9) 3 13, e0 7 (.iload_n 2) 1, eC 8 (.bipush 60) 2 60, eT 10 (.if_icmp .le 5) 3 15, eC 13 (.iconst (-1)) 1 (-1), e0 14 .ireturn 1, e0 15 (.iload_n 2) 1, eT 16 (.ifCond .ge 9) 3 25, e0 19 (.aload_n 0) 1, eC 20 (.iconst 5) 1 5, eT 21 (.invokevirtual 113) 3 2, e0 24 .ireturn 1, e0 25 (.aload_n 0) 1, eF 26 (.getfield 26) 3 7 8, e0 29 (.iload_n 1) 1, e0 30 (.iload_n 2) 1, e0 31 .iastore 1, eC 32 (.iconst 0) 1 0, e0 33 (.istore_n 3) 1]
set_option maxRecDepth 100000 in
theorem c_Mo_text {G : Ge} (x1 : Int32) (x2 : Int32) {μ : Mm} {K : Int32 → Mm → Prop} (h :
  (CS G m_Mo_isText [vi x1] μ (RI fun v1 μ1 =>
   (if v1 = 0 then
    K (-1) μ1
   else
    (if x2 ≤ 60 then
     (if 0 ≤ x2 then
      (vp_in x1 4 ∧
       SS G m_Mo_text 34 [vr 7 0, vi x1, vi x2, vi 0] [] (wI μ1 30 0 x1.toNatClampNeg x2) (RI K))
     else
      (CS G m_Mo_meets [vr 7 0, vi 5] μ1 (RI fun v2 μ2 =>
       K v2 μ2)))
    else
     K (-1) μ1))))) :
  CS G m_Mo_text [vr 7 0, vi x1, vi x2] μ (RI K) :=
  CS_of pf_Mo_text (Nat.le_of_ble_eq_true rfl) (show SS G m_Mo_text 0 [vr 7 0, vi x1, vi x2, un] [] μ (RI K) from wp_s (M := m_Mo_text) (lk := lk_Mo) (tb := tc_Mo_text) (cu := [(34, [true, true, true, true])]) lk_Mo_ok (by decide +kernel) 19 true 0 _ _ _ h)
def tb_Mo_text_34 : List En := [e0 34 (.iload_n 3) 1, eC 35 (.bipush 60) 2 60, eT 37 (.if_icmp .ge 22) 3 59, e0 40 (.aload_n 0) 1, eF 41 (.getfield 29) 3 7 9, eC 44 (.bipush 60) 2 60, e0 46 (.iload_n 1) 1, e0 47 .imul 1, e0 48 (.iload_n 3) 1, e0 49 .iadd 1, eC 50 (.bipush 32) 2 32, e0 52 .bastore 1, eC 53 (.iinc 3 1) 3 1, eT 56 (.goto (-22)) 3 34, e0 59 (.iload_n 2) 1, e0 60 .ireturn 1]
set_option maxRecDepth 100000 in
theorem b_Mo_text_34 {G : Ge} (x1 : Int32) (x2 : Int32) (x3 : Int32) {μ : Mm} {K : Int32 → Mm → Prop} (h :
  (if (60 : Int32) ≤ x3 then
   K x2 μ
  else
   (vp_in ((60 * x1) + x3) 240 ∧
    SS G m_Mo_text 34 [vr 7 0, vi x1, vi x2, vi (x3 + 1)] [] (wI μ 31 0 (Int32.toNatClampNeg ((60 * x1) + x3)) (Int8.toInt32 (Int32.toInt8 32))) (RI K)))) :
  SS G m_Mo_text 34 [vr 7 0, vi x1, vi x2, vi x3] [] μ (RI K) :=
  wp_s (M := m_Mo_text) (lk := lk_Mo) (tb := tb_Mo_text_34) (cu := [(34, [true, true, true, true])]) lk_Mo_ok (by decide +kernel) 18 true _ _ _ _ h
def tc_Mo_put : List En := [e0 0 (.iload_n 1) 1, eT 1 (.invokestatic 124) 3 5, eT 4 (.ifCond .ne 5) 3 9, eC 7 (.iconst (-1)) 1 (-1), e0 8 .ireturn 1, e0 9 (.aload_n 0) 1, eF 10 (.getfield 26) 3 7 8, e0 13 (.iload_n 1) 1, e0 14 .iaload 1, eT 15 (.ifCond .ge 9) 3 24, e0 18 (.aload_n 0) 1, eC 19 (.iconst 1) 1 1, eT 20 (.invokevirtual 113) 3 2, e0 23 .ireturn 1, e0 24 (.iload_n 2) 1, eC 25 (.iconst 0) 1 0, e0 26 (.aload_n 0) 1, eF 27 (.getfield 26) 3 7 8, e0 30 (.iload_n 1) 1, e0 31 .iaload 1, eC 32 (.iconst 1) 1 1, e0 33 .isub 1, eT 34 (.invokestatic 99) 3 0, eT 37 (.ifCond .ne 9) 3 46, e0 40 (.aload_n 0) 1, eC 41 (.iconst 2) 1 2, eT 42 (.invokevirtual 113) 3 2, e0 45 .ireturn 1, e0 46 (.aload_n 0) 1, eF 47 (.getfield 29) 3 7 9, eC 50 (.bipush 60) 2 60, e0 52 (.iload_n 1) 1, e0 53 .imul 1, e0 54 (.iload_n 2) 1, e0 55 .iadd 1, e0 56 .baload 1, e0 57 (.istore 4) 2, e0 59 (.aload_n 0) 1, eF 60 (.getfield 29) 3 7 9, eC 63 (.bipush 60) 2 60, e0 65 (.iload_n 1) 1, e0 66 .imul 1, e0 67 (.iload_n 2) 1, e0 68 .iadd 1, e0 69 (.iload_n 3) 1, e0 70 .i2b 1, e0 71 .bastore 1, eC 72 (.sipush 1000) 3 1000, e0 75 (.iload 4) 2, e0 77 .iadd 1, e0 78 .ireturn 1]
set_option maxRecDepth 100000 in
theorem c_Mo_put {G : Ge} (x1 : Int32) (x2 : Int32) (x3 : Int32) {μ : Mm} {K : Int32 → Mm → Prop} (h :
  (CS G m_Mo_isText [vi x1] μ (RI fun v1 μ1 =>
   (if v1 = 0 then
    K (-1) μ1
   else
    (vp_in x1 4 ∧
     (if 0 ≤ (μ1.1 30 0 x1.toNatClampNeg) then
      (vp_in x1 4 ∧
       (CS G m_Mo_in [vi x2, vi 0, vi ((μ1.1 30 0 x1.toNatClampNeg) - 1)] μ1 (RI fun v2 μ2 =>
        (if v2 = 0 then
         (CS G m_Mo_meets [vr 7 0, vi 2] μ2 (RI fun v3 μ3 =>
          K v3 μ3))
        else
         (vp_in ((60 * x1) + x2) 240 ∧
          (vp_in ((60 * x1) + x2) 240 ∧
           K (1000 + (μ2.1 31 0 (Int32.toNatClampNeg ((60 * x1) + x2)))) (wI μ2 31 0 (Int32.toNatClampNeg ((60 * x1) + x2)) (Int8.toInt32 (Int32.toInt8 (Int8.toInt32 (Int32.toInt8 x3)))))))))))
     else
      (CS G m_Mo_meets [vr 7 0, vi 1] μ1 (RI fun v4 μ4 =>
       K v4 μ4)))))))) :
  CS G m_Mo_put [vr 7 0, vi x1, vi x2, vi x3] μ (RI K) :=
  CS_of pf_Mo_put (Nat.le_of_ble_eq_true rfl) (show SS G m_Mo_put 0 [vr 7 0, vi x1, vi x2, vi x3, un] [] μ (RI K) from wp_s (M := m_Mo_put) (lk := lk_Mo) (tb := tc_Mo_put) (cu := []) lk_Mo_ok (by decide +kernel) 44 true 0 _ _ _ h)
def tc_Mo_byteAt : List En := [e0 0 (.iload_n 2) 1, e0 1 (.aload_n 0) 1, eF 2 (.getfield 26) 3 7 8, e0 5 (.iload_n 1) 1, e0 6 .iaload 1, eT 7 (.if_icmp .ge 17) 3 24, e0 10 (.aload_n 0) 1, eF 11 (.getfield 29) 3 7 9, eC 14 (.bipush 60) 2 60, e0 16 (.iload_n 1) 1, e0 17 .imul 1, e0 18 (.iload_n 2) 1, e0 19 .iadd 1, e0 20 .baload 1, eT 21 (.goto 4) 3 25, eC 24 (.iconst 0) 1 0, e0 25 .ireturn 1]
set_option maxRecDepth 100000 in
theorem c_Mo_byteAt {G : Ge} (x1 : Int32) (x2 : Int32) {μ : Mm} {K : Int32 → Mm → Prop} (h :
  (vp_in x1 4 ∧
   (if (μ.1 30 0 x1.toNatClampNeg) ≤ x2 then
    K 0 μ
   else
    (vp_in ((60 * x1) + x2) 240 ∧
     K (μ.1 31 0 (Int32.toNatClampNeg ((60 * x1) + x2))) μ)))) :
  CS G m_Mo_byteAt [vr 7 0, vi x1, vi x2] μ (RI K) :=
  CS_of pf_Mo_byteAt (Nat.le_of_ble_eq_true rfl) (show SS G m_Mo_byteAt 0 [vr 7 0, vi x1, vi x2] [] μ (RI K) from wp_s (M := m_Mo_byteAt) (lk := lk_Mo) (tb := tc_Mo_byteAt) (cu := []) lk_Mo_ok (by decide +kernel) 19 true 0 _ _ _ h)
def tc_Mo_isFigure : List En := [e0 0 (.aload_n 0) 1, e0 1 (.iload_n 1) 1, e0 2 (.aload_n 0) 1, eF 3 (.getfield 127) 3 7 15, eT 6 (.invokevirtual 130) 3 6, eC 9 (.bipush 48) 2 48, eC 11 (.bipush 57) 2 57, eT 13 (.invokestatic 99) 3 0, e0 16 .ireturn 1]
set_option maxRecDepth 100000 in
theorem c_Mo_isFigure {G : Ge} (x1 : Int32) {μ : Mm} {K : Int32 → Mm → Prop} (h :
  (CS G m_Mo_byteAt [vr 7 0, vi x1, vi (μ.1 7 0 15)] μ (RI fun v1 μ1 =>
   (CS G m_Mo_in [vi v1, vi 48, vi 57] μ1 (RI fun v2 μ2 =>
    ((v2 = 0 ∨ v2 = 1) ∧ K v2 μ2)))))) :
  CS G m_Mo_isFigure [vr 7 0, vi x1] μ (RI K) :=
  CS_of pf_Mo_isFigure (Nat.le_of_ble_eq_true rfl) (show SS G m_Mo_isFigure 0 [vr 7 0, vi x1] [] μ (RI K) from wp_s (M := m_Mo_isFigure) (lk := lk_Mo) (tb := tc_Mo_isFigure) (cu := []) lk_Mo_ok (by decide +kernel) 12 true 0 _ _ _ h)
def tc_Mo_readsNights : List En := [e0 0 (.aload_n 0) 1, e0 1 (.iload_n 1) 1, e0 2 (.aload_n 0) 1, eF 3 (.getfield 127) 3 7 15, eT 6 (.invokevirtual 130) 3 6, eC 9 (.bipush 110) 2 110, eT 11 (.if_icmp .eq 5) 3 16, eC 14 (.iconst 0) 1 0, e0 15 .ireturn 1, e0 16 (.aload_n 0) 1, e0 17 .dup 1, eF 18 (.getfield 127) 3 7 15, eC 21 (.iconst 1) 1 1, e0 22 .iadd 1, eF 23 (.putfield 127) 3 7 15]
set_option maxRecDepth 100000 in
theorem c_Mo_readsNights {G : Ge} (x1 : Int32) {μ : Mm} {K : Int32 → Mm → Prop} (h :
  (CS G m_Mo_byteAt [vr 7 0, vi x1, vi (μ.1 7 0 15)] μ (RI fun v1 μ1 =>
   (if v1 = 110 then
    SS G m_Mo_readsNights 26 [vr 7 0, vi x1] [] (wI μ1 7 0 15 ((μ1.1 7 0 15) + 1)) (RI K)
   else
    (((0 : Int32) = 0 ∨ (0 : Int32) = 1) ∧ K 0 μ1))))) :
  CS G m_Mo_readsNights [vr 7 0, vi x1] μ (RI K) :=
  CS_of pf_Mo_readsNights (Nat.le_of_ble_eq_true rfl) (show SS G m_Mo_readsNights 0 [vr 7 0, vi x1] [] μ (RI K) from wp_s (M := m_Mo_readsNights) (lk := lk_Mo) (tb := tc_Mo_readsNights) (cu := [(26, [true, true])]) lk_Mo_ok (by decide +kernel) 17 true 0 _ _ _ h)
def tb_Mo_readsNights_26 : List En := [e0 26 (.aload_n 0) 1, e0 27 (.iload_n 1) 1, eT 28 (.invokevirtual 133) 3 7, eT 31 (.ifCond .eq 56) 3 87, e0 34 (.aload_n 0) 1, eF 35 (.getfield 136) 3 7 17, eC 38 (.bipush 8) 2 8, eT 40 (.if_icmp .ge 47) 3 87, e0 43 (.aload_n 0) 1, eF 44 (.getfield 45) 3 7 19, e0 47 (.aload_n 0) 1, eF 48 (.getfield 136) 3 7 17, e0 51 (.aload_n 0) 1, e0 52 (.iload_n 1) 1, e0 53 (.aload_n 0) 1, eF 54 (.getfield 127) 3 7 15, eT 57 (.invokevirtual 130) 3 6, eC 60 (.bipush 48) 2 48, e0 62 .isub 1, e0 63 .iastore 1, e0 64 (.aload_n 0) 1, e0 65 .dup 1, eF 66 (.getfield 136) 3 7 17, eC 69 (.iconst 1) 1 1, e0 70 .iadd 1, eF 71 (.putfield 136) 3 7 17, e0 74 (.aload_n 0) 1, e0 75 .dup 1, eF 76 (.getfield 127) 3 7 15, eC 79 (.iconst 1) 1 1, e0 80 .iadd 1, eF 81 (.putfield 127) 3 7 15, eT 84 (.goto (-58)) 3 26, e0 87 (.aload_n 0) 1, eF 88 (.getfield 136) 3 7 17, eT 91 (.ifCond .le 15) 3 106, e0 94 (.aload_n 0) 1, e0 95 (.iload_n 1) 1, eT 96 (.invokevirtual 133) 3 7, eT 99 (.ifCond .ne 7) 3 106, eC 102 (.iconst 1) 1 1, eT 103 (.goto 4) 3 107, eC 106 (.iconst 0) 1 0, e0 107 .ireturn 1]
set_option maxRecDepth 100000 in
theorem b_Mo_readsNights_26 {G : Ge} (x1 : Int32) {μ : Mm} {K : Int32 → Mm → Prop} (h :
  (CS G m_Mo_isFigure [vr 7 0, vi x1] μ (RI fun v1 μ1 =>
   (if v1 = 0 then
    (if (μ1.1 7 0 17) ≤ 0 then
     (((0 : Int32) = 0 ∨ (0 : Int32) = 1) ∧ K 0 μ1)
    else
     (CS G m_Mo_isFigure [vr 7 0, vi x1] μ1 (RI fun v2 μ2 =>
      (if v2 = 0 then
       (((1 : Int32) = 0 ∨ (1 : Int32) = 1) ∧ K 1 μ2)
      else
       (((0 : Int32) = 0 ∨ (0 : Int32) = 1) ∧ K 0 μ2)))))
   else
    (if (8 : Int32) ≤ (μ1.1 7 0 17) then
     (if (μ1.1 7 0 17) ≤ 0 then
      (((0 : Int32) = 0 ∨ (0 : Int32) = 1) ∧ K 0 μ1)
     else
      (CS G m_Mo_isFigure [vr 7 0, vi x1] μ1 (RI fun v3 μ3 =>
       (if v3 = 0 then
        (((1 : Int32) = 0 ∨ (1 : Int32) = 1) ∧ K 1 μ3)
       else
        (((0 : Int32) = 0 ∨ (0 : Int32) = 1) ∧ K 0 μ3)))))
    else
     (CS G m_Mo_byteAt [vr 7 0, vi x1, vi (μ1.1 7 0 15)] μ1 (RI fun v4 μ4 =>
      (vp_in (μ1.1 7 0 17) 8 ∧
       SS G m_Mo_readsNights 26 [vr 7 0, vi x1] [] (wI (wI (wI μ4 36 0 (Int32.toNatClampNeg (μ1.1 7 0 17)) (v4 - 48)) 7 0 17 (((wI μ4 36 0 (Int32.toNatClampNeg (μ1.1 7 0 17)) (v4 - 48)).1 7 0 17) + 1)) 7 0 15 (((wI (wI μ4 36 0 (Int32.toNatClampNeg (μ1.1 7 0 17)) (v4 - 48)) 7 0 17 (((wI μ4 36 0 (Int32.toNatClampNeg (μ1.1 7 0 17)) (v4 - 48)).1 7 0 17) + 1)).1 7 0 15) + 1)) (RI K))))))))) :
  SS G m_Mo_readsNights 26 [vr 7 0, vi x1] [] μ (RI K) :=
  wp_s (M := m_Mo_readsNights) (lk := lk_Mo) (tb := tb_Mo_readsNights_26) (cu := [(26, [true, true])]) lk_Mo_ok (by decide +kernel) 37 true _ _ _ _ h
def tc_Mo_kindOf : List En := [e0 0 (.iload_n 0) 1, eS 1 (.lookupswitch 71 #[(99, 69), (104, 59), (109, 65), (112, 63), (115, 61), (121, 67)]) 59 72 [(99, 70), (104, 60), (109, 66), (112, 64), (115, 62), (121, 68)], eC 60 (.iconst 0) 1 0, e0 61 .ireturn 1, eC 62 (.iconst 1) 1 1, e0 63 .ireturn 1, eC 64 (.iconst 2) 1 2, e0 65 .ireturn 1, eC 66 (.iconst 3) 1 3, e0 67 .ireturn 1, eC 68 (.iconst 4) 1 4, e0 69 .ireturn 1, eC 70 (.iconst 5) 1 5, e0 71 .ireturn 1, eC 72 (.bipush (-9)) 2 (-9), e0 74 .ireturn 1]
set_option maxRecDepth 100000 in
theorem c_Mo_kindOf {G : Ge} (x0 : Int32) {μ : Mm} {K : Int32 → Mm → Prop} (h :
  (if x0 = 99 then
   K 5 μ
  else
   (if x0 = 104 then
    K 0 μ
   else
    (if x0 = 109 then
     K 3 μ
    else
     (if x0 = 112 then
      K 2 μ
     else
      (if x0 = 115 then
       K 1 μ
      else
       (if x0 = 121 then
        K 4 μ
       else
        K (-9) μ))))))) :
  CS G m_Mo_kindOf [vi x0] μ (RI K) :=
  CS_of pf_Mo_kindOf (Nat.le_of_ble_eq_true rfl) (show SS G m_Mo_kindOf 0 [vi x0] [] μ (RI K) from wp_s (M := m_Mo_kindOf) (lk := lk_Mo) (tb := tc_Mo_kindOf) (cu := []) lk_Mo_ok (by decide +kernel) 7 true 0 _ _ _ h)
def tc_Mo_readsHouse : List En := [e0 0 (.aload_n 0) 1, e0 1 (.iload_n 1) 1, e0 2 (.aload_n 0) 1, eF 3 (.getfield 127) 3 7 15, eT 6 (.invokevirtual 130) 3 6, eT 9 (.invokestatic 139) 3 8, e0 12 (.istore_n 2) 1, e0 13 (.iload_n 2) 1, eC 14 (.bipush (-9)) 2 (-9), eT 16 (.if_icmp .eq 11) 3 27, e0 19 (.aload_n 0) 1, eF 20 (.getfield 142) 3 7 16, eC 23 (.iconst 5) 1 5, eT 24 (.if_icmp .ne 5) 3 29, eC 27 (.iconst 0) 1 0, e0 28 .ireturn 1, eC 29 (.iconst 3) 1 3, e0 30 (.aload_n 0) 1, eF 31 (.getfield 142) 3 7 16, e0 34 .imul 1, e0 35 (.istore_n 3) 1, e0 36 (.aload_n 0) 1, e0 37 .dup 1, eF 38 (.getfield 127) 3 7 15, eC 41 (.iconst 1) 1 1, e0 42 .iadd 1, eF 43 (.putfield 127) 3 7 15, e0 46 (.aload_n 0) 1, eF 47 (.getfield 42) 3 7 18, e0 50 (.iload_n 3) 1, e0 51 (.iload_n 2) 1, e0 52 .iastore 1, eC 53 (.iconst 1) 1 1, e0 54 (.istore 4) 2]
set_option maxRecDepth 100000 in
theorem c_Mo_readsHouse {G : Ge} (x1 : Int32) {μ : Mm} {K : Int32 → Mm → Prop} (h :
  (CS G m_Mo_byteAt [vr 7 0, vi x1, vi (μ.1 7 0 15)] μ (RI fun v1 μ1 =>
   (CS G m_Mo_kindOf [vi v1] μ1 (RI fun v2 μ2 =>
    (if v2 = (-9) then
     (((0 : Int32) = 0 ∨ (0 : Int32) = 1) ∧ K 0 μ2)
    else
     (if (μ2.1 7 0 16) = 5 then
      (((0 : Int32) = 0 ∨ (0 : Int32) = 1) ∧ K 0 μ2)
     else
      (vp_in (3 * (μ2.1 7 0 16)) 15 ∧
       SS G m_Mo_readsHouse 56 [vr 7 0, vi x1, un, vi (3 * (μ2.1 7 0 16)), vi 1] [] (wI (wI μ2 7 0 15 ((μ2.1 7 0 15) + 1)) 35 0 (Int32.toNatClampNeg (3 * (μ2.1 7 0 16))) v2) (RI K))))))))) :
  CS G m_Mo_readsHouse [vr 7 0, vi x1] μ (RI K) :=
  CS_of pf_Mo_readsHouse (Nat.le_of_ble_eq_true rfl) (show SS G m_Mo_readsHouse 0 [vr 7 0, vi x1, un, un, un] [] μ (RI K) from wp_s (M := m_Mo_readsHouse) (lk := lk_Mo) (tb := tc_Mo_readsHouse) (cu := [(56, [true, true, false, true, true])]) lk_Mo_ok (by decide +kernel) 36 true 0 _ _ _ h)
def tb_Mo_readsHouse_56 : List En := [e0 56 (.iload 4) 2, eC 58 (.iconst 3) 1 3, eT 59 (.if_icmp .ge 50) 3 109, e0 62 (.aload_n 0) 1, e0 63 (.iload_n 1) 1, eT 64 (.invokevirtual 133) 3 7, eT 67 (.ifCond .ne 5) 3 72, eC 70 (.iconst 0) 1 0, e0 71 .ireturn 1, e0 72 (.aload_n 0) 1, eF 73 (.getfield 42) 3 7 18, e0 76 (.iload_n 3) 1, e0 77 (.iload 4) 2, e0 79 .iadd 1, e0 80 (.aload_n 0) 1, e0 81 (.iload_n 1) 1, e0 82 (.aload_n 0) 1, eF 83 (.getfield 127) 3 7 15, eT 86 (.invokevirtual 130) 3 6, eC 89 (.bipush 48) 2 48, e0 91 .isub 1, e0 92 .iastore 1, e0 93 (.aload_n 0) 1, e0 94 .dup 1, eF 95 (.getfield 127) 3 7 15, eC 98 (.iconst 1) 1 1, e0 99 .iadd 1, eF 100 (.putfield 127) 3 7 15, eC 103 (.iinc 4 1) 3 1, eT 106 (.goto (-50)) 3 56, e0 109 (.aload_n 0) 1, e0 110 .dup 1, eF 111 (.getfield 142) 3 7 16, eC 114 (.iconst 1) 1 1, e0 115 .iadd 1, eF 116 (.putfield 142) 3 7 16, eC 119 (.iconst 1) 1 1, e0 120 .ireturn 1]
set_option maxRecDepth 100000 in
theorem b_Mo_readsHouse_56 {G : Ge} (x1 : Int32) (x3 : Int32) (x4 : Int32) {μ : Mm} {K : Int32 → Mm → Prop} (h :
  (if (3 : Int32) ≤ x4 then
   (((1 : Int32) = 0 ∨ (1 : Int32) = 1) ∧ K 1 (wI μ 7 0 16 ((μ.1 7 0 16) + 1)))
  else
   (CS G m_Mo_isFigure [vr 7 0, vi x1] μ (RI fun v1 μ1 =>
    (if v1 = 0 then
     (((0 : Int32) = 0 ∨ (0 : Int32) = 1) ∧ K 0 μ1)
    else
     (CS G m_Mo_byteAt [vr 7 0, vi x1, vi (μ1.1 7 0 15)] μ1 (RI fun v2 μ2 =>
      (vp_in (x3 + x4) 15 ∧
       SS G m_Mo_readsHouse 56 [vr 7 0, vi x1, un, vi x3, vi (x4 + 1)] [] (wI (wI μ2 35 0 (Int32.toNatClampNeg (x3 + x4)) (v2 - 48)) 7 0 15 (((wI μ2 35 0 (Int32.toNatClampNeg (x3 + x4)) (v2 - 48)).1 7 0 15) + 1)) (RI K))))))))) :
  SS G m_Mo_readsHouse 56 [vr 7 0, vi x1, un, vi x3, vi x4] [] μ (RI K) :=
  wp_s (M := m_Mo_readsHouse) (lk := lk_Mo) (tb := tb_Mo_readsHouse_56) (cu := [(56, [true, true, false, true, true])]) lk_Mo_ok (by decide +kernel) 32 true _ _ _ _ h
def tc_Mo_faultOf : List En := [e0 0 (.aload_n 0) 1, eC 1 (.iconst 0) 1 0, eF 2 (.putfield 127) 3 7 15, e0 5 (.aload_n 0) 1, eC 6 (.iconst 0) 1 0, eF 7 (.putfield 142) 3 7 16, e0 10 (.aload_n 0) 1, eC 11 (.iconst 0) 1 0, eF 12 (.putfield 136) 3 7 17]
set_option maxRecDepth 100000 in
theorem c_Mo_faultOf {G : Ge} (x1 : Int32) {μ : Mm} {K : Int32 → Mm → Prop} (h :
  SS G m_Mo_faultOf 15 [vr 7 0, vi x1] [] (wI (wI (wI μ 7 0 15 0) 7 0 16 0) 7 0 17 0) (RI K)) :
  CS G m_Mo_faultOf [vr 7 0, vi x1] μ (RI K) :=
  CS_of pf_Mo_faultOf (Nat.le_of_ble_eq_true rfl) (show SS G m_Mo_faultOf 0 [vr 7 0, vi x1] [] μ (RI K) from wp_s (M := m_Mo_faultOf) (lk := lk_Mo) (tb := tc_Mo_faultOf) (cu := [(15, [true, true])]) lk_Mo_ok (by decide +kernel) 13 true 0 _ _ _ h)
def tb_Mo_faultOf_15 : List En := [e0 15 (.aload_n 0) 1, eF 16 (.getfield 127) 3 7 15, e0 19 (.aload_n 0) 1, eF 20 (.getfield 26) 3 7 8, e0 23 (.iload_n 1) 1, e0 24 .iaload 1, eT 25 (.if_icmp .ge 61) 3 86, e0 28 (.aload_n 0) 1, e0 29 (.iload_n 1) 1, e0 30 (.aload_n 0) 1, eF 31 (.getfield 127) 3 7 15, eT 34 (.invokevirtual 130) 3 6, eC 37 (.bipush 32) 2 32, eT 39 (.if_icmp .ne 16) 3 55, e0 42 (.aload_n 0) 1, e0 43 .dup 1, eF 44 (.getfield 127) 3 7 15, eC 47 (.iconst 1) 1 1, e0 48 .iadd 1, eF 49 (.putfield 127) 3 7 15, eT 52 (.goto (-37)) 3 15, e0 55 (.aload_n 0) 1, eF 56 (.getfield 136) 3 7 17, eT 59 (.ifCond .ne 14) 3 73, e0 62 (.aload_n 0) 1, e0 63 (.iload_n 1) 1, eT 64 (.invokevirtual 145) 3 9, eT 67 (.ifCond .eq 14) 3 81, eT 70 (.goto (-55)) 3 15, e0 73 (.aload_n 0) 1, e0 74 (.iload_n 1) 1, eT 75 (.invokevirtual 148) 3 10, eT 78 (.ifCond .ne (-63)) 3 15, e0 81 (.aload_n 0) 1, eF 82 (.getfield 127) 3 7 15, e0 85 .ireturn 1, e0 86 (.aload_n 0) 1, eF 87 (.getfield 142) 3 7 16, eT 90 (.ifCond .ne 12) 3 102, e0 93 (.aload_n 0) 1, eF 94 (.getfield 26) 3 7 8, e0 97 (.iload_n 1) 1, e0 98 .iaload 1, eT 99 (.goto 5) 3 104, eC 102 (.bipush (-9)) 2 (-9), e0 104 .ireturn 1]
set_option maxRecDepth 100000 in
theorem b_Mo_faultOf_15 {G : Ge} (x1 : Int32) {μ : Mm} {K : Int32 → Mm → Prop} (h :
  (vp_in x1 4 ∧
   (if (μ.1 30 0 x1.toNatClampNeg) ≤ (μ.1 7 0 15) then
    (if (μ.1 7 0 16) = 0 then
     (vp_in x1 4 ∧
      K (μ.1 30 0 x1.toNatClampNeg) μ)
    else
     K (-9) μ)
   else
    (CS G m_Mo_byteAt [vr 7 0, vi x1, vi (μ.1 7 0 15)] μ (RI fun v1 μ1 =>
     (if v1 = 32 then
      SS G m_Mo_faultOf 15 [vr 7 0, vi x1] [] (wI μ1 7 0 15 ((μ1.1 7 0 15) + 1)) (RI K)
     else
      (if (μ1.1 7 0 17) = 0 then
       (CS G m_Mo_readsNights [vr 7 0, vi x1] μ1 (RI fun v2 μ2 =>
        (if v2 = 0 then
         K (μ2.1 7 0 15) μ2
        else
         SS G m_Mo_faultOf 15 [vr 7 0, vi x1] [] μ2 (RI K))))
      else
       (CS G m_Mo_readsHouse [vr 7 0, vi x1] μ1 (RI fun v3 μ3 =>
        (if v3 = 0 then
         K (μ3.1 7 0 15) μ3
        else
         SS G m_Mo_faultOf 15 [vr 7 0, vi x1] [] μ3 (RI K))))))))))) :
  SS G m_Mo_faultOf 15 [vr 7 0, vi x1] [] μ (RI K) :=
  wp_s (M := m_Mo_faultOf) (lk := lk_Mo) (tb := tb_Mo_faultOf_15) (cu := [(15, [true, true])]) lk_Mo_ok (by decide +kernel) 27 true _ _ _ _ h
def tc_Mo_fault : List En := [e0 0 (.iload_n 1) 1, eT 1 (.invokestatic 124) 3 5, eT 4 (.ifCond .ne 5) 3 9, eC 7 (.iconst (-1)) 1 (-1), e0 8 .ireturn 1, e0 9 (.aload_n 0) 1, eF 10 (.getfield 26) 3 7 8, e0 13 (.iload_n 1) 1, e0 14 .iaload 1, eT 15 (.ifCond .ge 11) 3 26, e0 18 (.aload_n 0) 1, eC 19 (.iconst 1) 1 1, eT 20 (.invokevirtual 113) 3 2, eT 23 (.goto 8) 3 31, e0 26 (.aload_n 0) 1, e0 27 (.iload_n 1) 1, eT 28 (.invokevirtual 151) 3 11, e0 31 .ireturn 1]
set_option maxRecDepth 100000 in
theorem c_Mo_fault {G : Ge} (x1 : Int32) {μ : Mm} {K : Int32 → Mm → Prop} (h :
  (CS G m_Mo_isText [vi x1] μ (RI fun v1 μ1 =>
   (if v1 = 0 then
    K (-1) μ1
   else
    (vp_in x1 4 ∧
     (if 0 ≤ (μ1.1 30 0 x1.toNatClampNeg) then
      (CS G m_Mo_faultOf [vr 7 0, vi x1] μ1 (RI fun v2 μ2 =>
       K v2 μ2))
     else
      (CS G m_Mo_meets [vr 7 0, vi 1] μ1 (RI fun v3 μ3 =>
       K v3 μ3)))))))) :
  CS G m_Mo_fault [vr 7 0, vi x1] μ (RI K) :=
  CS_of pf_Mo_fault (Nat.le_of_ble_eq_true rfl) (show SS G m_Mo_fault 0 [vr 7 0, vi x1] [] μ (RI K) from wp_s (M := m_Mo_fault) (lk := lk_Mo) (tb := tc_Mo_fault) (cu := []) lk_Mo_ok (by decide +kernel) 16 true 0 _ _ _ h)
def tc_Mo_street : List En := [e0 0 (.iload_n 1) 1, eT 1 (.invokestatic 124) 3 5, eT 4 (.ifCond .ne 5) 3 9, eC 7 (.iconst (-1)) 1 (-1), e0 8 .ireturn 1, e0 9 (.aload_n 0) 1, eF 10 (.getfield 26) 3 7 8, e0 13 (.iload_n 1) 1, e0 14 .iaload 1, eT 15 (.ifCond .ge 9) 3 24, e0 18 (.aload_n 0) 1, eC 19 (.iconst 1) 1 1, eT 20 (.invokevirtual 113) 3 2, e0 23 .ireturn 1, e0 24 (.aload_n 0) 1, e0 25 (.iload_n 1) 1, eT 26 (.invokevirtual 151) 3 11, eC 29 (.bipush (-9)) 2 (-9), eT 31 (.if_icmp .eq 6) 3 37, eC 34 (.bipush (-4)) 2 (-4), e0 36 .ireturn 1, e0 37 (.aload_n 0) 1, e0 38 (.aload_n 0) 1, eF 39 (.getfield 142) 3 7 16, eF 42 (.putfield 154) 3 7 10, e0 45 (.aload_n 0) 1, e0 46 (.aload_n 0) 1, eF 47 (.getfield 136) 3 7 17, eF 50 (.putfield 157) 3 7 11, eC 53 (.iconst 0) 1 0, e0 54 (.istore_n 2) 1]
set_option maxRecDepth 100000 in
theorem c_Mo_street {G : Ge} (x1 : Int32) {μ : Mm} {K : Int32 → Mm → Prop} (h :
  (CS G m_Mo_isText [vi x1] μ (RI fun v1 μ1 =>
   (if v1 = 0 then
    K (-1) μ1
   else
    (vp_in x1 4 ∧
     (if 0 ≤ (μ1.1 30 0 x1.toNatClampNeg) then
      (CS G m_Mo_faultOf [vr 7 0, vi x1] μ1 (RI fun v2 μ2 =>
       (if v2 = (-9) then
        SS G m_Mo_street 55 [vr 7 0, un, vi 0] [] (wI (wI μ2 7 0 10 (μ2.1 7 0 16)) 7 0 11 ((wI μ2 7 0 10 (μ2.1 7 0 16)).1 7 0 17)) (RI K)
       else
        K (-4) μ2)))
     else
      (CS G m_Mo_meets [vr 7 0, vi 1] μ1 (RI fun v3 μ3 =>
       K v3 μ3)))))))) :
  CS G m_Mo_street [vr 7 0, vi x1] μ (RI K) :=
  CS_of pf_Mo_street (Nat.le_of_ble_eq_true rfl) (show SS G m_Mo_street 0 [vr 7 0, vi x1, un] [] μ (RI K) from wp_s (M := m_Mo_street) (lk := lk_Mo) (tb := tc_Mo_street) (cu := [(55, [true, false, true]), (83, [true, false, true]), (104, [true, false, true]), (182, [true, false, true])]) lk_Mo_ok (by decide +kernel) 27 true 0 _ _ _ h)
def tb_Mo_street_55 : List En := [e0 55 (.iload_n 2) 1, e0 56 (.aload_n 0) 1, eF 57 (.getfield 157) 3 7 11, eT 60 (.if_icmp .ge 21) 3 81, e0 63 (.aload_n 0) 1, eF 64 (.getfield 39) 3 7 14, e0 67 (.iload_n 2) 1, e0 68 (.aload_n 0) 1, eF 69 (.getfield 45) 3 7 19, e0 72 (.iload_n 2) 1, e0 73 .iaload 1, e0 74 .iastore 1, eC 75 (.iinc 2 1) 3 1, eT 78 (.goto (-23)) 3 55, eC 81 (.iconst 0) 1 0, e0 82 (.istore_n 2) 1]
set_option maxRecDepth 100000 in
theorem b_Mo_street_55 {G : Ge} (x2 : Int32) {μ : Mm} {K : Int32 → Mm → Prop} (h :
  (if (μ.1 7 0 11) ≤ x2 then
   SS G m_Mo_street 83 [vr 7 0, un, vi 0] [] μ (RI K)
  else
   (vp_in x2 8 ∧
    (vp_in x2 8 ∧
     SS G m_Mo_street 55 [vr 7 0, un, vi (x2 + 1)] [] (wI μ 34 0 x2.toNatClampNeg (μ.1 36 0 x2.toNatClampNeg)) (RI K))))) :
  SS G m_Mo_street 55 [vr 7 0, un, vi x2] [] μ (RI K) :=
  wp_s (M := m_Mo_street) (lk := lk_Mo) (tb := tb_Mo_street_55) (cu := [(55, [true, false, true]), (83, [true, false, true]), (104, [true, false, true]), (182, [true, false, true])]) lk_Mo_ok (by decide +kernel) 18 true _ _ _ _ h
def tb_Mo_street_83 : List En := [e0 83 (.iload_n 2) 1, eC 84 (.bipush 16) 2 16, eT 86 (.if_icmp .ge 16) 3 102, e0 89 (.aload_n 0) 1, eF 90 (.getfield 48) 3 7 20, e0 93 (.iload_n 2) 1, eC 94 (.iconst 0) 1 0, e0 95 .iastore 1, eC 96 (.iinc 2 1) 3 1, eT 99 (.goto (-16)) 3 83, eC 102 (.iconst 0) 1 0, e0 103 (.istore_n 2) 1]
set_option maxRecDepth 100000 in
theorem b_Mo_street_83 {G : Ge} (x2 : Int32) {μ : Mm} {K : Int32 → Mm → Prop} (h :
  (if (16 : Int32) ≤ x2 then
   SS G m_Mo_street 104 [vr 7 0, un, vi 0] [] μ (RI K)
  else
   (vp_in x2 16 ∧
    SS G m_Mo_street 83 [vr 7 0, un, vi (x2 + 1)] [] (wI μ 37 0 x2.toNatClampNeg 0) (RI K)))) :
  SS G m_Mo_street 83 [vr 7 0, un, vi x2] [] μ (RI K) :=
  wp_s (M := m_Mo_street) (lk := lk_Mo) (tb := tb_Mo_street_83) (cu := [(55, [true, false, true]), (83, [true, false, true]), (104, [true, false, true]), (182, [true, false, true])]) lk_Mo_ok (by decide +kernel) 14 true _ _ _ _ h
def tb_Mo_street_104 : List En := [e0 104 (.iload_n 2) 1, e0 105 (.aload_n 0) 1, eF 106 (.getfield 154) 3 7 10, eT 109 (.if_icmp .ge 66) 3 175, e0 112 (.aload_n 0) 1, eF 113 (.getfield 33) 3 7 12, e0 116 (.iload_n 2) 1, e0 117 (.aload_n 0) 1, eF 118 (.getfield 42) 3 7 18, eC 121 (.iconst 3) 1 3, e0 122 (.iload_n 2) 1, e0 123 .imul 1, e0 124 .iaload 1, e0 125 .iastore 1, e0 126 (.aload_n 0) 1, eF 127 (.getfield 36) 3 7 13, e0 130 (.iload_n 2) 1, e0 131 (.aload_n 0) 1, eF 132 (.getfield 42) 3 7 18, eC 135 (.iconst 3) 1 3, e0 136 (.iload_n 2) 1, e0 137 .imul 1, eC 138 (.iconst 1) 1 1, e0 139 .iadd 1, e0 140 .iaload 1, e0 141 .iastore 1, e0 142 (.aload_n 0) 1, eF 143 (.getfield 48) 3 7 20, e0 146 (.iload_n 2) 1, e0 147 (.aload_n 0) 1, eF 148 (.getfield 42) 3 7 18, eC 151 (.iconst 3) 1 3, e0 152 (.iload_n 2) 1, e0 153 .imul 1, eC 154 (.iconst 2) 1 2, e0 155 .iadd 1, e0 156 .iaload 1, e0 157 .iastore 1, e0 158 (.aload_n 0) 1, eF 159 (.getfield 48) 3 7 20, eC 162 (.bipush 10) 2 10, e0 164 (.iload_n 2) 1, e0 165 .iadd 1, eC 166 (.bipush (-9)) 2 (-9), e0 168 .iastore 1, eC 169 (.iinc 2 1) 3 1, eT 172 (.goto (-68)) 3 104, e0 175 (.aload_n 0) 1, eC 176 (.iconst 0) 1 0, eF 177 (.putfield 160) 3 7 21, eC 180 (.iconst 0) 1 0, e0 181 (.istore_n 2) 1]
set_option maxRecDepth 100000 in
theorem b_Mo_street_104 {G : Ge} (x2 : Int32) {μ : Mm} {K : Int32 → Mm → Prop} (h :
  (if (μ.1 7 0 10) ≤ x2 then
   SS G m_Mo_street 182 [vr 7 0, un, vi 0] [] (wI μ 7 0 21 0) (RI K)
  else
   (vp_in (3 * x2) 15 ∧
    (vp_in x2 5 ∧
     (vp_in ((3 * x2) + 1) 15 ∧
      (vp_in x2 5 ∧
       (vp_in ((3 * x2) + 2) 15 ∧
        (vp_in x2 16 ∧
         (vp_in (10 + x2) 16 ∧
          SS G m_Mo_street 104 [vr 7 0, un, vi (x2 + 1)] [] (wI (wI (wI (wI μ 32 0 x2.toNatClampNeg (μ.1 35 0 (Int32.toNatClampNeg (3 * x2)))) 33 0 x2.toNatClampNeg ((wI μ 32 0 x2.toNatClampNeg (μ.1 35 0 (Int32.toNatClampNeg (3 * x2)))).1 35 0 (Int32.toNatClampNeg ((3 * x2) + 1)))) 37 0 x2.toNatClampNeg ((wI (wI μ 32 0 x2.toNatClampNeg (μ.1 35 0 (Int32.toNatClampNeg (3 * x2)))) 33 0 x2.toNatClampNeg ((wI μ 32 0 x2.toNatClampNeg (μ.1 35 0 (Int32.toNatClampNeg (3 * x2)))).1 35 0 (Int32.toNatClampNeg ((3 * x2) + 1)))).1 35 0 (Int32.toNatClampNeg ((3 * x2) + 2)))) 37 0 (Int32.toNatClampNeg (10 + x2)) (-9)) (RI K)))))))))) :
  SS G m_Mo_street 104 [vr 7 0, un, vi x2] [] μ (RI K) :=
  wp_s (M := m_Mo_street) (lk := lk_Mo) (tb := tb_Mo_street_104) (cu := [(55, [true, false, true]), (83, [true, false, true]), (104, [true, false, true]), (182, [true, false, true])]) lk_Mo_ok (by decide +kernel) 51 true _ _ _ _ h
def tb_Mo_street_182 : List En := [e0 182 (.iload_n 2) 1, eC 183 (.iconst 3) 1 3, eT 184 (.if_icmp .ge 16) 3 200, e0 187 (.aload_n 0) 1, eF 188 (.getfield 54) 3 7 23, e0 191 (.iload_n 2) 1, eC 192 (.iconst 0) 1 0, e0 193 .bastore 1, eC 194 (.iinc 2 1) 3 1, eT 197 (.goto (-15)) 3 182, e0 200 (.aload_n 0) 1, eF 201 (.getfield 154) 3 7 10, e0 204 .ireturn 1]
set_option maxRecDepth 100000 in
theorem b_Mo_street_182 {G : Ge} (x2 : Int32) {μ : Mm} {K : Int32 → Mm → Prop} (h :
  (if (3 : Int32) ≤ x2 then
   K (μ.1 7 0 10) μ
  else
   (vp_in x2 3 ∧
    SS G m_Mo_street 182 [vr 7 0, un, vi (x2 + 1)] [] (wI μ 39 0 x2.toNatClampNeg (0 &&& 1)) (RI K)))) :
  SS G m_Mo_street 182 [vr 7 0, un, vi x2] [] μ (RI K) :=
  wp_s (M := m_Mo_street) (lk := lk_Mo) (tb := tb_Mo_street_182) (cu := [(55, [true, false, true]), (83, [true, false, true]), (104, [true, false, true]), (182, [true, false, true])]) lk_Mo_ok (by decide +kernel) 14 true _ _ _ _ h
def tc_Mo_isHouse : List En := [e0 0 (.iload_n 1) 1, eC 1 (.iconst 0) 1 0, e0 2 (.aload_n 0) 1, eF 3 (.getfield 154) 3 7 10, eC 6 (.iconst 1) 1 1, e0 7 .isub 1, eT 8 (.invokestatic 99) 3 0, e0 11 .ireturn 1]
set_option maxRecDepth 100000 in
theorem c_Mo_isHouse {G : Ge} (x1 : Int32) {μ : Mm} {K : Int32 → Mm → Prop} (h :
  (CS G m_Mo_in [vi x1, vi 0, vi ((μ.1 7 0 10) - 1)] μ (RI fun v1 μ1 =>
   ((v1 = 0 ∨ v1 = 1) ∧ K v1 μ1)))) :
  CS G m_Mo_isHouse [vr 7 0, vi x1] μ (RI K) :=
  CS_of pf_Mo_isHouse (Nat.le_of_ble_eq_true rfl) (show SS G m_Mo_isHouse 0 [vr 7 0, vi x1] [] μ (RI K) from wp_s (M := m_Mo_isHouse) (lk := lk_Mo) (tb := tc_Mo_isHouse) (cu := []) lk_Mo_ok (by decide +kernel) 11 true 0 _ _ _ h)
def tc_Mo_isCandlemas : List En := [e0 0 (.aload_n 0) 1, eF 1 (.getfield 48) 3 7 20, eC 4 (.bipush 15) 2 15, e0 6 .iaload 1, e0 7 (.aload_n 0) 1, eF 8 (.getfield 157) 3 7 11, eT 11 (.if_icmp .ne 7) 3 18, eC 14 (.iconst 1) 1 1, eT 15 (.goto 4) 3 19, eC 18 (.iconst 0) 1 0, e0 19 .ireturn 1]
set_option maxRecDepth 100000 in
theorem c_Mo_isCandlemas {G : Ge}  {μ : Mm} {K : Int32 → Mm → Prop} (h :
  (vp_in 15 16 ∧
   (if (μ.1 37 0 (Int32.toNatClampNeg 15)) = (μ.1 7 0 11) then
    (((1 : Int32) = 0 ∨ (1 : Int32) = 1) ∧ K 1 μ)
   else
    (((0 : Int32) = 0 ∨ (0 : Int32) = 1) ∧ K 0 μ)))) :
  CS G m_Mo_isCandlemas [vr 7 0] μ (RI K) :=
  CS_of pf_Mo_isCandlemas (Nat.le_of_ble_eq_true rfl) (show SS G m_Mo_isCandlemas 0 [vr 7 0] [] μ (RI K) from wp_s (M := m_Mo_isCandlemas) (lk := lk_Mo) (tb := tc_Mo_isCandlemas) (cu := []) lk_Mo_ok (by decide +kernel) 13 true 0 _ _ _ h)
def tc_Mo_didBear : List En := [e0 0 (.aload_n 0) 1, eF 1 (.getfield 48) 3 7 20, eC 4 (.bipush 10) 2 10, e0 6 (.iload_n 1) 1, e0 7 .iadd 1, e0 8 .iaload 1, eC 9 (.bipush (-9)) 2 (-9), eT 11 (.if_icmp .eq 7) 3 18, eC 14 (.iconst 1) 1 1, eT 15 (.goto 4) 3 19, eC 18 (.iconst 0) 1 0, e0 19 .ireturn 1]
set_option maxRecDepth 100000 in
theorem c_Mo_didBear {G : Ge} (x1 : Int32) {μ : Mm} {K : Int32 → Mm → Prop} (h :
  (vp_in (10 + x1) 16 ∧
   (if (μ.1 37 0 (Int32.toNatClampNeg (10 + x1))) = (-9) then
    (((0 : Int32) = 0 ∨ (0 : Int32) = 1) ∧ K 0 μ)
   else
    (((1 : Int32) = 0 ∨ (1 : Int32) = 1) ∧ K 1 μ)))) :
  CS G m_Mo_didBear [vr 7 0, vi x1] μ (RI K) :=
  CS_of pf_Mo_didBear (Nat.le_of_ble_eq_true rfl) (show SS G m_Mo_didBear 0 [vr 7 0, vi x1] [] μ (RI K) from wp_s (M := m_Mo_didBear) (lk := lk_Mo) (tb := tc_Mo_didBear) (cu := []) lk_Mo_ok (by decide +kernel) 14 true 0 _ _ _ h)
def tc_Mo_isMiser : List En := [e0 0 (.aload_n 0) 1, eF 1 (.getfield 33) 3 7 12, e0 4 (.iload_n 1) 1, e0 5 .iaload 1, eC 6 (.iconst 3) 1 3, eT 7 (.if_icmp .eq 13) 3 20, e0 10 (.aload_n 0) 1, eF 11 (.getfield 33) 3 7 12, e0 14 (.iload_n 1) 1, e0 15 .iaload 1, eC 16 (.iconst 4) 1 4, eT 17 (.if_icmp .ne 7) 3 24, eC 20 (.iconst 1) 1 1, eT 21 (.goto 4) 3 25, eC 24 (.iconst 0) 1 0, e0 25 .ireturn 1]
set_option maxRecDepth 100000 in
theorem c_Mo_isMiser {G : Ge} (x1 : Int32) {μ : Mm} {K : Int32 → Mm → Prop} (h :
  (vp_in x1 5 ∧
   (if (μ.1 32 0 x1.toNatClampNeg) = 3 then
    (((1 : Int32) = 0 ∨ (1 : Int32) = 1) ∧ K 1 μ)
   else
    (vp_in x1 5 ∧
     (if (μ.1 32 0 x1.toNatClampNeg) = 4 then
      (((1 : Int32) = 0 ∨ (1 : Int32) = 1) ∧ K 1 μ)
     else
      (((0 : Int32) = 0 ∨ (0 : Int32) = 1) ∧ K 0 μ)))))) :
  CS G m_Mo_isMiser [vr 7 0, vi x1] μ (RI K) :=
  CS_of pf_Mo_isMiser (Nat.le_of_ble_eq_true rfl) (show SS G m_Mo_isMiser 0 [vr 7 0, vi x1] [] μ (RI K) from wp_s (M := m_Mo_isMiser) (lk := lk_Mo) (tb := tc_Mo_isMiser) (cu := []) lk_Mo_ok (by decide +kernel) 18 true 0 _ _ _ h)
def tc_Mo_lesser : List En := [e0 0 (.iload_n 0) 1, e0 1 (.iload_n 1) 1, eT 2 (.if_icmp .ge 7) 3 9, e0 5 (.iload_n 0) 1, eT 6 (.goto 4) 3 10, e0 9 (.iload_n 1) 1, e0 10 .ireturn 1]
set_option maxRecDepth 100000 in
theorem c_Mo_lesser {G : Ge} (x0 : Int32) (x1 : Int32) {μ : Mm} {K : Int32 → Mm → Prop} (h :
  (if x1 ≤ x0 then
   K x1 μ
  else
   K x0 μ)) :
  CS G m_Mo_lesser [vi x0, vi x1] μ (RI K) :=
  CS_of pf_Mo_lesser (Nat.le_of_ble_eq_true rfl) (show SS G m_Mo_lesser 0 [vi x0, vi x1] [] μ (RI K) from wp_s (M := m_Mo_lesser) (lk := lk_Mo) (tb := tc_Mo_lesser) (cu := []) lk_Mo_ok (by decide +kernel) 9 true 0 _ _ _ h)
def tc_Mo_canIn : List En := [e0 0 (.aload_n 0) 1, e0 1 (.iload_n 1) 1, eT 2 (.invokevirtual 166) 3 13, eT 5 (.ifCond .eq 11) 3 16, eC 8 (.iconst 2) 1 2, e0 9 (.iload_n 2) 1, eT 10 (.invokestatic 169) 3 14, eT 13 (.goto 4) 3 17, e0 16 (.iload_n 2) 1, e0 17 .ireturn 1]
set_option maxRecDepth 100000 in
theorem c_Mo_canIn {G : Ge} (x1 : Int32) (x2 : Int32) {μ : Mm} {K : Int32 → Mm → Prop} (h :
  (CS G m_Mo_isMiser [vr 7 0, vi x1] μ (RI fun v1 μ1 =>
   (if v1 = 0 then
    K x2 μ1
   else
    (CS G m_Mo_lesser [vi 2, vi x2] μ1 (RI fun v2 μ2 =>
     K v2 μ2)))))) :
  CS G m_Mo_canIn [vr 7 0, vi x1, vi x2] μ (RI K) :=
  CS_of pf_Mo_canIn (Nat.le_of_ble_eq_true rfl) (show SS G m_Mo_canIn 0 [vr 7 0, vi x1, vi x2] [] μ (RI K) from wp_s (M := m_Mo_canIn) (lk := lk_Mo) (tb := tc_Mo_canIn) (cu := []) lk_Mo_ok (by decide +kernel) 12 true 0 _ _ _ h)
def tc_Mo_canOn : List En := [e0 0 (.iload_n 2) 1, e0 1 (.aload_n 0) 1, eF 2 (.getfield 48) 3 7 20, eC 5 (.bipush 15) 2 15, e0 7 .iaload 1, eT 8 (.if_icmp .ne 15) 3 23, e0 11 (.aload_n 0) 1, e0 12 (.iload_n 1) 1, eT 13 (.invokevirtual 172) 3 15, eT 16 (.ifCond .eq 7) 3 23, eC 19 (.iconst 0) 1 0, eT 20 (.goto 14) 3 34, e0 23 (.aload_n 0) 1, e0 24 (.iload_n 1) 1, e0 25 (.aload_n 0) 1, eF 26 (.getfield 39) 3 7 14, e0 29 (.iload_n 2) 1, e0 30 .iaload 1, eT 31 (.invokevirtual 175) 3 16, e0 34 .ireturn 1]
set_option maxRecDepth 100000 in
theorem c_Mo_canOn {G : Ge} (x1 : Int32) (x2 : Int32) {μ : Mm} {K : Int32 → Mm → Prop} (h :
  (vp_in 15 16 ∧
   (if x2 = (μ.1 37 0 (Int32.toNatClampNeg 15)) then
    (CS G m_Mo_didBear [vr 7 0, vi x1] μ (RI fun v1 μ1 =>
     (if v1 = 0 then
      (vp_in x2 8 ∧
       (CS G m_Mo_canIn [vr 7 0, vi x1, vi (μ1.1 34 0 x2.toNatClampNeg)] μ1 (RI fun v2 μ2 =>
        K v2 μ2)))
     else
      K 0 μ1)))
   else
    (vp_in x2 8 ∧
     (CS G m_Mo_canIn [vr 7 0, vi x1, vi (μ.1 34 0 x2.toNatClampNeg)] μ (RI fun v3 μ3 =>
      K v3 μ3)))))) :
  CS G m_Mo_canOn [vr 7 0, vi x1, vi x2] μ (RI K) :=
  CS_of pf_Mo_canOn (Nat.le_of_ble_eq_true rfl) (show SS G m_Mo_canOn 0 [vr 7 0, vi x1, vi x2] [] μ (RI K) from wp_s (M := m_Mo_canOn) (lk := lk_Mo) (tb := tc_Mo_canOn) (cu := []) lk_Mo_ok (by decide +kernel) 21 true 0 _ _ _ h)
def tc_Mo_canTonight : List En := [e0 0 (.aload_n 0) 1, eT 1 (.invokevirtual 178) 3 17, eT 4 (.ifCond .eq 7) 3 11, eC 7 (.iconst 0) 1 0, eT 8 (.goto 24) 3 32, e0 11 (.aload_n 0) 1, eF 12 (.getfield 48) 3 7 20, e0 15 (.iload_n 1) 1, e0 16 .iaload 1, e0 17 (.aload_n 0) 1, e0 18 (.iload_n 1) 1, e0 19 (.aload_n 0) 1, eF 20 (.getfield 48) 3 7 20, eC 23 (.bipush 15) 2 15, e0 25 .iaload 1, eT 26 (.invokevirtual 182) 3 18, eT 29 (.invokestatic 169) 3 14, e0 32 .ireturn 1]
set_option maxRecDepth 100000 in
theorem c_Mo_canTonight {G : Ge} (x1 : Int32) {μ : Mm} {K : Int32 → Mm → Prop} (h :
  (CS G m_Mo_isCandlemas [vr 7 0] μ (RI fun v1 μ1 =>
   (if v1 = 0 then
    (vp_in x1 16 ∧
     (vp_in 15 16 ∧
      (CS G m_Mo_canOn [vr 7 0, vi x1, vi (μ1.1 37 0 (Int32.toNatClampNeg 15))] μ1 (RI fun v2 μ2 =>
       (CS G m_Mo_lesser [vi (μ1.1 37 0 x1.toNatClampNeg), vi v2] μ2 (RI fun v3 μ3 =>
        K v3 μ3))))))
   else
    K 0 μ1)))) :
  CS G m_Mo_canTonight [vr 7 0, vi x1] μ (RI K) :=
  CS_of pf_Mo_canTonight (Nat.le_of_ble_eq_true rfl) (show SS G m_Mo_canTonight 0 [vr 7 0, vi x1] [] μ (RI K) from wp_s (M := m_Mo_canTonight) (lk := lk_Mo) (tb := tc_Mo_canTonight) (cu := []) lk_Mo_ok (by decide +kernel) 19 true 0 _ _ _ h)
def tc_Mo_houseTells : List En := [e0 0 (.iload_n 2) 1, eS 1 (.tableswitch 75 0 4 #[35, 42, 49, 56, 65]) 35 76 [(0, 36), (1, 43), (2, 50), (3, 57), (4, 66)], e0 36 (.aload_n 0) 1, eF 37 (.getfield 33) 3 7 12, e0 40 (.iload_n 1) 1, e0 41 .iaload 1, e0 42 .ireturn 1, e0 43 (.aload_n 0) 1, eF 44 (.getfield 36) 3 7 13, e0 47 (.iload_n 1) 1, e0 48 .iaload 1, e0 49 .ireturn 1, e0 50 (.aload_n 0) 1, eF 51 (.getfield 48) 3 7 20, e0 54 (.iload_n 1) 1, e0 55 .iaload 1, e0 56 .ireturn 1, e0 57 (.aload_n 0) 1, eF 58 (.getfield 48) 3 7 20, eC 61 (.iconst 5) 1 5, e0 62 (.iload_n 1) 1, e0 63 .iadd 1, e0 64 .iaload 1, e0 65 .ireturn 1, e0 66 (.aload_n 0) 1, eF 67 (.getfield 48) 3 7 20, eC 70 (.bipush 10) 2 10, e0 72 (.iload_n 1) 1, e0 73 .iadd 1, e0 74 .iaload 1, e0 75 .ireturn 1, e0 76 (.aload_n 0) 1, e0 77 (.iload_n 1) 1, eT 78 (.invokevirtual 185) 3 19, e0 81 .ireturn 1]
set_option maxRecDepth 100000 in
theorem c_Mo_houseTells {G : Ge} (x1 : Int32) (x2 : Int32) {μ : Mm} {K : Int32 → Mm → Prop} (h :
  (if x2 = 0 then
   (vp_in x1 5 ∧
    K (μ.1 32 0 x1.toNatClampNeg) μ)
  else
   (if x2 = 1 then
    (vp_in x1 5 ∧
     K (μ.1 33 0 x1.toNatClampNeg) μ)
   else
    (if x2 = 2 then
     (vp_in x1 16 ∧
      K (μ.1 37 0 x1.toNatClampNeg) μ)
    else
     (if x2 = 3 then
      (vp_in (5 + x1) 16 ∧
       K (μ.1 37 0 (Int32.toNatClampNeg (5 + x1))) μ)
     else
      (if x2 = 4 then
       (vp_in (10 + x1) 16 ∧
        K (μ.1 37 0 (Int32.toNatClampNeg (10 + x1))) μ)
      else
       (CS G m_Mo_canTonight [vr 7 0, vi x1] μ (RI fun v1 μ1 =>
        K v1 μ1)))))))) :
  CS G m_Mo_houseTells [vr 7 0, vi x1, vi x2] μ (RI K) :=
  CS_of pf_Mo_houseTells (Nat.le_of_ble_eq_true rfl) (show SS G m_Mo_houseTells 0 [vr 7 0, vi x1, vi x2] [] μ (RI K) from wp_s (M := m_Mo_houseTells) (lk := lk_Mo) (tb := tc_Mo_houseTells) (cu := []) lk_Mo_ok (by decide +kernel) 12 true 0 _ _ _ h)
def tc_Mo_house : List En := [e0 0 (.aload_n 0) 1, e0 1 (.iload_n 1) 1, eT 2 (.invokevirtual 188) 3 20, eT 5 (.ifCond .eq 26) 3 31, e0 8 (.iload_n 2) 1, eC 9 (.iconst 0) 1 0, eC 10 (.iconst 5) 1 5, eT 11 (.invokestatic 99) 3 0, eT 14 (.ifCond .eq 17) 3 31, e0 17 (.aload_n 0) 1, e0 18 (.aload_n 0) 1, e0 19 (.iload_n 1) 1, e0 20 (.iload_n 2) 1, eT 21 (.invokevirtual 191) 3 21, eC 24 (.iconst 1) 1 1, eT 25 (.invokevirtual 121) 3 4, eT 28 (.goto 4) 3 32, eC 31 (.iconst (-1)) 1 (-1), e0 32 .ireturn 1]
set_option maxRecDepth 100000 in
theorem c_Mo_house {G : Ge} (x1 : Int32) (x2 : Int32) {μ : Mm} {K : Int32 → Mm → Prop} (h :
  (CS G m_Mo_isHouse [vr 7 0, vi x1] μ (RI fun v1 μ1 =>
   (if v1 = 0 then
    K (-1) μ1
   else
    (CS G m_Mo_in [vi x2, vi 0, vi 5] μ1 (RI fun v2 μ2 =>
     (if v2 = 0 then
      K (-1) μ2
     else
      (CS G m_Mo_houseTells [vr 7 0, vi x1, vi x2] μ2 (RI fun v3 μ3 =>
       (CS G m_Mo_tells [vr 7 0, vi v3, vi 1] μ3 (RI fun v4 μ4 =>
        K v4 μ4))))))))))) :
  CS G m_Mo_house [vr 7 0, vi x1, vi x2] μ (RI K) :=
  CS_of pf_Mo_house (Nat.le_of_ble_eq_true rfl) (show SS G m_Mo_house 0 [vr 7 0, vi x1, vi x2] [] μ (RI K) from wp_s (M := m_Mo_house) (lk := lk_Mo) (tb := tc_Mo_house) (cu := []) lk_Mo_ok (by decide +kernel) 21 true 0 _ _ _ h)
def tc_Mo_isNight : List En := [e0 0 (.iload_n 1) 1, eC 1 (.iconst 0) 1 0, e0 2 (.aload_n 0) 1, eF 3 (.getfield 157) 3 7 11, eC 6 (.iconst 1) 1 1, e0 7 .isub 1, eT 8 (.invokestatic 99) 3 0, e0 11 .ireturn 1]
set_option maxRecDepth 100000 in
theorem c_Mo_isNight {G : Ge} (x1 : Int32) {μ : Mm} {K : Int32 → Mm → Prop} (h :
  (CS G m_Mo_in [vi x1, vi 0, vi ((μ.1 7 0 11) - 1)] μ (RI fun v1 μ1 =>
   ((v1 = 0 ∨ v1 = 1) ∧ K v1 μ1)))) :
  CS G m_Mo_isNight [vr 7 0, vi x1] μ (RI K) :=
  CS_of pf_Mo_isNight (Nat.le_of_ble_eq_true rfl) (show SS G m_Mo_isNight 0 [vr 7 0, vi x1] [] μ (RI K) from wp_s (M := m_Mo_isNight) (lk := lk_Mo) (tb := tc_Mo_isNight) (cu := []) lk_Mo_ok (by decide +kernel) 11 true 0 _ _ _ h)
def tc_Mo_cold : List En := [e0 0 (.aload_n 0) 1, e0 1 (.iload_n 1) 1, eT 2 (.invokevirtual 194) 3 22, eT 5 (.ifCond .eq 12) 3 17, e0 8 (.aload_n 0) 1, eF 9 (.getfield 39) 3 7 14, e0 12 (.iload_n 1) 1, e0 13 .iaload 1, eT 14 (.goto 4) 3 18, eC 17 (.iconst (-1)) 1 (-1), e0 18 .ireturn 1]
set_option maxRecDepth 100000 in
theorem c_Mo_cold {G : Ge} (x1 : Int32) {μ : Mm} {K : Int32 → Mm → Prop} (h :
  (CS G m_Mo_isNight [vr 7 0, vi x1] μ (RI fun v1 μ1 =>
   (if v1 = 0 then
    K (-1) μ1
   else
    (vp_in x1 8 ∧
     K (μ1.1 34 0 x1.toNatClampNeg) μ1))))) :
  CS G m_Mo_cold [vr 7 0, vi x1] μ (RI K) :=
  CS_of pf_Mo_cold (Nat.le_of_ble_eq_true rfl) (show SS G m_Mo_cold 0 [vr 7 0, vi x1] [] μ (RI K) from wp_s (M := m_Mo_cold) (lk := lk_Mo) (tb := tc_Mo_cold) (cu := []) lk_Mo_ok (by decide +kernel) 13 true 0 _ _ _ h)
def tc_Mo_squared : List En := [e0 0 (.iload_n 0) 1, e0 1 (.iload_n 1) 1, eT 2 (.if_icmp .le 13) 3 15, e0 5 (.iload_n 0) 1, e0 6 (.iload_n 1) 1, e0 7 .isub 1, e0 8 (.iload_n 0) 1, e0 9 (.iload_n 1) 1, e0 10 .isub 1, e0 11 .imul 1, eT 12 (.goto 4) 3 16, eC 15 (.iconst 0) 1 0, e0 16 .ireturn 1]
set_option maxRecDepth 100000 in
theorem c_Mo_squared {G : Ge} (x0 : Int32) (x1 : Int32) {μ : Mm} {K : Int32 → Mm → Prop} (h :
  (if x0 ≤ x1 then
   K 0 μ
  else
   K ((x0 - x1) * (x0 - x1)) μ)) :
  CS G m_Mo_squared [vi x0, vi x1] μ (RI K) :=
  CS_of pf_Mo_squared (Nat.le_of_ble_eq_true rfl) (show SS G m_Mo_squared 0 [vi x0, vi x1] [] μ (RI K) from wp_s (M := m_Mo_squared) (lk := lk_Mo) (tb := tc_Mo_squared) (cu := []) lk_Mo_ok (by decide +kernel) 15 true 0 _ _ _ h)
def tc_Mo_hurtOf : List En := [e0 0 (.aload_n 0) 1, eF 1 (.getfield 33) 3 7 12, e0 4 (.iload_n 1) 1, e0 5 .iaload 1, eS 6 (.tableswitch 90 1 5 #[34, 47, 90, 88, 60]) 34 96 [(1, 40), (2, 53), (3, 96), (4, 94), (5, 66)], e0 40 (.iload_n 2) 1, e0 41 (.aload_n 0) 1, eF 42 (.getfield 36) 3 7 13, e0 45 (.iload_n 1) 1, e0 46 .iaload 1, eC 47 (.iconst 2) 1 2, e0 48 .iadd 1, eT 49 (.invokestatic 163) 3 12, e0 52 .ireturn 1, eC 53 (.iconst 2) 1 2, e0 54 (.iload_n 2) 1, e0 55 (.aload_n 0) 1, eF 56 (.getfield 36) 3 7 13, e0 59 (.iload_n 1) 1, e0 60 .iaload 1, eT 61 (.invokestatic 163) 3 12, e0 64 .imul 1, e0 65 .ireturn 1, eC 66 (.iconst 2) 1 2, e0 67 (.iload_n 2) 1, e0 68 (.aload_n 0) 1, eF 69 (.getfield 36) 3 7 13, e0 72 (.iload_n 1) 1, e0 73 .iaload 1, eT 74 (.ifCond .le 14) 3 88, e0 77 (.aload_n 0) 1, eF 78 (.getfield 36) 3 7 13, e0 81 (.iload_n 1) 1, e0 82 .iaload 1, eC 83 (.iconst 1) 1 1, e0 84 .isub 1, eT 85 (.goto 4) 3 89, eC 88 (.iconst 0) 1 0, eT 89 (.invokestatic 163) 3 12, e0 92 .imul 1, e0 93 .ireturn 1, eC 94 (.iconst 0) 1 0, e0 95 .ireturn 1, e0 96 (.iload_n 2) 1, e0 97 (.aload_n 0) 1, eF 98 (.getfield 36) 3 7 13, e0 101 (.iload_n 1) 1, e0 102 .iaload 1, eT 103 (.invokestatic 163) 3 12, e0 106 .ireturn 1]
set_option maxRecDepth 100000 in
theorem c_Mo_hurtOf {G : Ge} (x1 : Int32) (x2 : Int32) {μ : Mm} {K : Int32 → Mm → Prop} (h :
  (vp_in x1 5 ∧
   (if (μ.1 32 0 x1.toNatClampNeg) = 1 then
    (vp_in x1 5 ∧
     (CS G m_Mo_squared [vi x2, vi ((μ.1 33 0 x1.toNatClampNeg) + 2)] μ (RI fun v6 μ6 =>
      K v6 μ6)))
   else
    (if (μ.1 32 0 x1.toNatClampNeg) = 2 then
     (vp_in x1 5 ∧
      (CS G m_Mo_squared [vi x2, vi (μ.1 33 0 x1.toNatClampNeg)] μ (RI fun v5 μ5 =>
       K (2 * v5) μ5)))
    else
     (if (μ.1 32 0 x1.toNatClampNeg) = 3 then
      (vp_in x1 5 ∧
       (CS G m_Mo_squared [vi x2, vi (μ.1 33 0 x1.toNatClampNeg)] μ (RI fun v4 μ4 =>
        K v4 μ4)))
     else
      (if (μ.1 32 0 x1.toNatClampNeg) = 4 then
       K 0 μ
      else
       (if (μ.1 32 0 x1.toNatClampNeg) = 5 then
        (vp_in x1 5 ∧
         (if (μ.1 33 0 x1.toNatClampNeg) ≤ 0 then
          (CS G m_Mo_squared [vi x2, vi 0] μ (RI fun v2 μ2 =>
           K (2 * v2) μ2))
         else
          (vp_in x1 5 ∧
           (CS G m_Mo_squared [vi x2, vi ((μ.1 33 0 x1.toNatClampNeg) - 1)] μ (RI fun v3 μ3 =>
            K (2 * v3) μ3)))))
       else
        (vp_in x1 5 ∧
         (CS G m_Mo_squared [vi x2, vi (μ.1 33 0 x1.toNatClampNeg)] μ (RI fun v1 μ1 =>
          K v1 μ1)))))))))) :
  CS G m_Mo_hurtOf [vr 7 0, vi x1, vi x2] μ (RI K) :=
  CS_of pf_Mo_hurtOf (Nat.le_of_ble_eq_true rfl) (show SS G m_Mo_hurtOf 0 [vr 7 0, vi x1, vi x2] [] μ (RI K) from wp_s (M := m_Mo_hurtOf) (lk := lk_Mo) (tb := tc_Mo_hurtOf) (cu := []) lk_Mo_ok (by decide +kernel) 25 true 0 _ _ _ h)
def tc_Mo_painless : List En := [eC 0 (.iconst 0) 1 0, e0 1 (.istore_n 2) 1, eC 2 (.iconst 0) 1 0, e0 3 (.istore_n 3) 1]
set_option maxRecDepth 100000 in
theorem c_Mo_painless {G : Ge} (x1 : Int32) {μ : Mm} {K : Int32 → Mm → Prop} (h :
  SS G m_Mo_painless 4 [vr 7 0, vi x1, vi 0, vi 0] [] μ (RI K)) :
  CS G m_Mo_painless [vr 7 0, vi x1] μ (RI K) :=
  CS_of pf_Mo_painless (Nat.le_of_ble_eq_true rfl) (show SS G m_Mo_painless 0 [vr 7 0, vi x1, un, un] [] μ (RI K) from wp_s (M := m_Mo_painless) (lk := lk_Mo) (tb := tc_Mo_painless) (cu := [(4, [true, true, true, true])]) lk_Mo_ok (by decide +kernel) 8 true 0 _ _ _ h)
def tb_Mo_painless_4 : List En := [e0 4 (.iload_n 3) 1, eC 5 (.bipush 9) 2 9, eT 7 (.if_icmp .gt 24) 3 31, e0 10 (.aload_n 0) 1, e0 11 (.iload_n 1) 1, e0 12 (.iload_n 3) 1, eT 13 (.invokevirtual 197) 3 23, eT 16 (.ifCond .ne 7) 3 23, e0 19 (.iload_n 3) 1, eT 20 (.goto 4) 3 24, e0 23 (.iload_n 2) 1, e0 24 (.istore_n 2) 1, eC 25 (.iinc 3 1) 3 1, eT 28 (.goto (-24)) 3 4, e0 31 (.iload_n 2) 1, e0 32 .ireturn 1]
set_option maxRecDepth 100000 in
theorem b_Mo_painless_4 {G : Ge} (x1 : Int32) (x2 : Int32) (x3 : Int32) {μ : Mm} {K : Int32 → Mm → Prop} (h :
  (if (9 : Int32) < x3 then
   K x2 μ
  else
   (CS G m_Mo_hurtOf [vr 7 0, vi x1, vi x3] μ (RI fun v1 μ1 =>
    (if v1 = 0 then
     SS G m_Mo_painless 4 [vr 7 0, vi x1, vi x3, vi (x3 + 1)] [] μ1 (RI K)
    else
     SS G m_Mo_painless 4 [vr 7 0, vi x1, vi x2, vi (x3 + 1)] [] μ1 (RI K)))))) :
  SS G m_Mo_painless 4 [vr 7 0, vi x1, vi x2, vi x3] [] μ (RI K) :=
  wp_s (M := m_Mo_painless) (lk := lk_Mo) (tb := tb_Mo_painless_4) (cu := [(4, [true, true, true, true])]) lk_Mo_ok (by decide +kernel) 17 true _ _ _ _ h
def tc_Mo_firstHurt : List En := [eC 0 (.iconst 1) 1 1, e0 1 (.istore_n 2) 1]
set_option maxRecDepth 100000 in
theorem c_Mo_firstHurt {G : Ge} (x1 : Int32) {μ : Mm} {K : Int32 → Mm → Prop} (h :
  SS G m_Mo_firstHurt 2 [vr 7 0, vi x1, vi 1] [] μ (RI K)) :
  CS G m_Mo_firstHurt [vr 7 0, vi x1] μ (RI K) :=
  CS_of pf_Mo_firstHurt (Nat.le_of_ble_eq_true rfl) (show SS G m_Mo_firstHurt 0 [vr 7 0, vi x1, un] [] μ (RI K) from wp_s (M := m_Mo_firstHurt) (lk := lk_Mo) (tb := tc_Mo_firstHurt) (cu := [(2, [true, true, true])]) lk_Mo_ok (by decide +kernel) 6 true 0 _ _ _ h)
def tb_Mo_firstHurt_2 : List En := [e0 2 (.iload_n 2) 1, eC 3 (.bipush 9) 2 9, eT 5 (.if_icmp .gt 20) 3 25, e0 8 (.aload_n 0) 1, e0 9 (.iload_n 1) 1, e0 10 (.iload_n 2) 1, eT 11 (.invokevirtual 197) 3 23, eT 14 (.ifCond .le 5) 3 19, e0 17 (.iload_n 2) 1, e0 18 .ireturn 1, eC 19 (.iinc 2 1) 3 1, eT 22 (.goto (-20)) 3 2, eC 25 (.bipush (-9)) 2 (-9), e0 27 .ireturn 1]
set_option maxRecDepth 100000 in
theorem b_Mo_firstHurt_2 {G : Ge} (x1 : Int32) (x2 : Int32) {μ : Mm} {K : Int32 → Mm → Prop} (h :
  (if (9 : Int32) < x2 then
   K (-9) μ
  else
   (CS G m_Mo_hurtOf [vr 7 0, vi x1, vi x2] μ (RI fun v1 μ1 =>
    (if v1 ≤ 0 then
     SS G m_Mo_firstHurt 2 [vr 7 0, vi x1, vi (x2 + 1)] [] μ1 (RI K)
    else
     K x2 μ1))))) :
  SS G m_Mo_firstHurt 2 [vr 7 0, vi x1, vi x2] [] μ (RI K) :=
  wp_s (M := m_Mo_firstHurt) (lk := lk_Mo) (tb := tb_Mo_firstHurt_2) (cu := [(2, [true, true, true])]) lk_Mo_ok (by decide +kernel) 14 true _ _ _ _ h
def tc_Mo_mark : List En := [e0 0 (.aload_n 0) 1, e0 1 (.iload_n 1) 1, eT 2 (.invokevirtual 188) 3 20, eT 5 (.ifCond .eq 12) 3 17, e0 8 (.iload_n 2) 1, eC 9 (.iconst 1) 1 1, eC 10 (.iconst 5) 1 5, eT 11 (.invokestatic 99) 3 0, eT 14 (.ifCond .ne 5) 3 19, eC 17 (.iconst (-1)) 1 (-1), e0 18 .ireturn 1, e0 19 (.aload_n 0) 1, eF 20 (.getfield 33) 3 7 12, e0 23 (.iload_n 1) 1, e0 24 .iaload 1, e0 25 (.istore_n 3) 1, e0 26 (.iload_n 3) 1, e0 27 (.iload_n 2) 1, eT 28 (.if_icmp .eq 29) 3 57, e0 31 (.iload_n 2) 1, eC 32 (.iconst 2) 1 2, eT 33 (.if_icmp .ne 8) 3 41, e0 36 (.iload_n 3) 1, eC 37 (.iconst 5) 1 5, eT 38 (.if_icmp .eq 19) 3 57, e0 41 (.iload_n 2) 1, eC 42 (.iconst 3) 1 3, eT 43 (.if_icmp .ne 8) 3 51, e0 46 (.iload_n 3) 1, eC 47 (.iconst 4) 1 4, eT 48 (.if_icmp .eq 9) 3 57, e0 51 (.aload_n 0) 1, eC 52 (.iconst 3) 1 3, eT 53 (.invokevirtual 113) 3 2, e0 56 .ireturn 1, e0 57 (.iload_n 2) 1, eS 58 (.tableswitch 83 1 4 #[30, 36, 56, 67]) 30 141 [(1, 88), (2, 94), (3, 114), (4, 125)], e0 88 (.aload_n 0) 1, e0 89 (.iload_n 1) 1, eT 90 (.invokevirtual 200) 3 24, e0 93 .ireturn 1, e0 94 (.aload_n 0) 1, e0 95 (.iload_n 1) 1, eC 96 (.bipush 9) 2 9, eT 98 (.invokevirtual 197) 3 23, eC 101 (.bipush 9) 2 9, e0 103 (.aload_n 0) 1, eF 104 (.getfield 36) 3 7 13, e0 107 (.iload_n 1) 1, e0 108 .iaload 1, eT 109 (.invokestatic 163) 3 12, e0 112 .isub 1, e0 113 .ireturn 1, e0 114 (.aload_n 0) 1, eF 115 (.getfield 48) 3 7 20, e0 118 (.iload_n 1) 1, e0 119 .iaload 1, eC 120 (.iconst 1) 1 1, e0 121 .iadd 1, eC 122 (.iconst 2) 1 2, e0 123 .idiv 1, e0 124 .ireturn 1, e0 125 (.aload_n 0) 1, eF 126 (.getfield 48) 3 7 20, e0 129 (.iload_n 1) 1, e0 130 .iaload 1, e0 131 (.aload_n 0) 1, eF 132 (.getfield 36) 3 7 13, e0 135 (.iload_n 1) 1, e0 136 .iaload 1, eT 137 (.invokestatic 163) 3 12, e0 140 .ireturn 1, e0 141 (.aload_n 0) 1, e0 142 (.iload_n 1) 1, eT 143 (.invokevirtual 203) 3 25, e0 146 .ireturn 1]
set_option maxRecDepth 100000 in
theorem c_Mo_mark {G : Ge} (x1 : Int32) (x2 : Int32) {μ : Mm} {K : Int32 → Mm → Prop} (h :
  (CS G m_Mo_isHouse [vr 7 0, vi x1] μ (RI fun v1 μ1 =>
   (if v1 = 0 then
    K (-1) μ1
   else
    (CS G m_Mo_in [vi x2, vi 1, vi 5] μ1 (RI fun v2 μ2 =>
     (if v2 = 0 then
      K (-1) μ2
     else
      (vp_in x1 5 ∧
       (if (μ2.1 32 0 x1.toNatClampNeg) = x2 then
        (if x2 = 1 then
         (CS G m_Mo_painless [vr 7 0, vi x1] μ2 (RI fun v7 μ7 =>
          K v7 μ7))
        else
         (if x2 = 2 then
          (CS G m_Mo_hurtOf [vr 7 0, vi x1, vi 9] μ2 (RI fun v5 μ5 =>
           (vp_in x1 5 ∧
            (CS G m_Mo_squared [vi 9, vi (μ5.1 33 0 x1.toNatClampNeg)] μ5 (RI fun v6 μ6 =>
             K (v5 - v6) μ6)))))
         else
          (if x2 = 3 then
           (vp_in x1 16 ∧
            (¬ (2 : Int32) = 0 ∧
             K (((μ2.1 37 0 x1.toNatClampNeg) + 1) / 2) μ2))
          else
           (if x2 = 4 then
            (vp_in x1 16 ∧
             (vp_in x1 5 ∧
              (CS G m_Mo_squared [vi (μ2.1 37 0 x1.toNatClampNeg), vi (μ2.1 33 0 x1.toNatClampNeg)] μ2 (RI fun v4 μ4 =>
               K v4 μ4))))
           else
            (CS G m_Mo_firstHurt [vr 7 0, vi x1] μ2 (RI fun v3 μ3 =>
             K v3 μ3))))))
       else
        (if x2 = 2 then
         (if (μ2.1 32 0 x1.toNatClampNeg) = 5 then
          (if x2 = 1 then
           (CS G m_Mo_painless [vr 7 0, vi x1] μ2 (RI fun v12 μ12 =>
            K v12 μ12))
          else
           (if x2 = 2 then
            (CS G m_Mo_hurtOf [vr 7 0, vi x1, vi 9] μ2 (RI fun v10 μ10 =>
             (vp_in x1 5 ∧
              (CS G m_Mo_squared [vi 9, vi (μ10.1 33 0 x1.toNatClampNeg)] μ10 (RI fun v11 μ11 =>
               K (v10 - v11) μ11)))))
           else
            (if x2 = 3 then
             (vp_in x1 16 ∧
              (¬ (2 : Int32) = 0 ∧
               K (((μ2.1 37 0 x1.toNatClampNeg) + 1) / 2) μ2))
            else
             (if x2 = 4 then
              (vp_in x1 16 ∧
               (vp_in x1 5 ∧
                (CS G m_Mo_squared [vi (μ2.1 37 0 x1.toNatClampNeg), vi (μ2.1 33 0 x1.toNatClampNeg)] μ2 (RI fun v9 μ9 =>
                 K v9 μ9))))
             else
              (CS G m_Mo_firstHurt [vr 7 0, vi x1] μ2 (RI fun v8 μ8 =>
               K v8 μ8))))))
         else
          (if x2 = 3 then
           (if (μ2.1 32 0 x1.toNatClampNeg) = 4 then
            (if x2 = 1 then
             (CS G m_Mo_painless [vr 7 0, vi x1] μ2 (RI fun v17 μ17 =>
              K v17 μ17))
            else
             (if x2 = 2 then
              (CS G m_Mo_hurtOf [vr 7 0, vi x1, vi 9] μ2 (RI fun v15 μ15 =>
               (vp_in x1 5 ∧
                (CS G m_Mo_squared [vi 9, vi (μ15.1 33 0 x1.toNatClampNeg)] μ15 (RI fun v16 μ16 =>
                 K (v15 - v16) μ16)))))
             else
              (if x2 = 3 then
               (vp_in x1 16 ∧
                (¬ (2 : Int32) = 0 ∧
                 K (((μ2.1 37 0 x1.toNatClampNeg) + 1) / 2) μ2))
              else
               (if x2 = 4 then
                (vp_in x1 16 ∧
                 (vp_in x1 5 ∧
                  (CS G m_Mo_squared [vi (μ2.1 37 0 x1.toNatClampNeg), vi (μ2.1 33 0 x1.toNatClampNeg)] μ2 (RI fun v14 μ14 =>
                   K v14 μ14))))
               else
                (CS G m_Mo_firstHurt [vr 7 0, vi x1] μ2 (RI fun v13 μ13 =>
                 K v13 μ13))))))
           else
            (CS G m_Mo_meets [vr 7 0, vi 3] μ2 (RI fun v18 μ18 =>
             K v18 μ18)))
          else
           (CS G m_Mo_meets [vr 7 0, vi 3] μ2 (RI fun v19 μ19 =>
            K v19 μ19))))
        else
         (if x2 = 3 then
          (if (μ2.1 32 0 x1.toNatClampNeg) = 4 then
           (if x2 = 1 then
            (CS G m_Mo_painless [vr 7 0, vi x1] μ2 (RI fun v24 μ24 =>
             K v24 μ24))
           else
            (if x2 = 2 then
             (CS G m_Mo_hurtOf [vr 7 0, vi x1, vi 9] μ2 (RI fun v22 μ22 =>
              (vp_in x1 5 ∧
               (CS G m_Mo_squared [vi 9, vi (μ22.1 33 0 x1.toNatClampNeg)] μ22 (RI fun v23 μ23 =>
                K (v22 - v23) μ23)))))
            else
             (if x2 = 3 then
              (vp_in x1 16 ∧
               (¬ (2 : Int32) = 0 ∧
                K (((μ2.1 37 0 x1.toNatClampNeg) + 1) / 2) μ2))
             else
              (if x2 = 4 then
               (vp_in x1 16 ∧
                (vp_in x1 5 ∧
                 (CS G m_Mo_squared [vi (μ2.1 37 0 x1.toNatClampNeg), vi (μ2.1 33 0 x1.toNatClampNeg)] μ2 (RI fun v21 μ21 =>
                  K v21 μ21))))
              else
               (CS G m_Mo_firstHurt [vr 7 0, vi x1] μ2 (RI fun v20 μ20 =>
                K v20 μ20))))))
          else
           (CS G m_Mo_meets [vr 7 0, vi 3] μ2 (RI fun v25 μ25 =>
            K v25 μ25)))
         else
          (CS G m_Mo_meets [vr 7 0, vi 3] μ2 (RI fun v26 μ26 =>
           K v26 μ26))))))))))))) :
  CS G m_Mo_mark [vr 7 0, vi x1, vi x2] μ (RI K) :=
  CS_of pf_Mo_mark (Nat.le_of_ble_eq_true rfl) (show SS G m_Mo_mark 0 [vr 7 0, vi x1, vi x2, un] [] μ (RI K) from wp_s (M := m_Mo_mark) (lk := lk_Mo) (tb := tc_Mo_mark) (cu := []) lk_Mo_ok (by decide +kernel) 46 true 0 _ _ _ h)
def tc_Mo_wind : List En := [e0 0 (.aload_n 0) 1, e0 1 (.iload_n 1) 1, eT 2 (.invokevirtual 194) 3 22, eT 5 (.ifCond .eq 13) 3 18, e0 8 (.iload_n 2) 1, eC 9 (.iconst 0) 1 0, eC 10 (.bipush 9) 2 9, eT 12 (.invokestatic 99) 3 0, eT 15 (.ifCond .ne 5) 3 20, eC 18 (.iconst (-1)) 1 (-1), e0 19 .ireturn 1, e0 20 (.aload_n 0) 1, eF 21 (.getfield 160) 3 7 21, eT 24 (.ifCond .le 6) 3 30, eC 27 (.bipush (-4)) 2 (-4), e0 29 .ireturn 1, e0 30 (.aload_n 0) 1, eF 31 (.getfield 39) 3 7 14, e0 34 (.iload_n 1) 1, e0 35 .iaload 1, e0 36 (.istore_n 3) 1, e0 37 (.aload_n 0) 1, eF 38 (.getfield 39) 3 7 14, e0 41 (.iload_n 1) 1, e0 42 (.iload_n 2) 1, e0 43 .iastore 1, e0 44 (.iload_n 3) 1, e0 45 .ireturn 1]
set_option maxRecDepth 100000 in
theorem c_Mo_wind {G : Ge} (x1 : Int32) (x2 : Int32) {μ : Mm} {K : Int32 → Mm → Prop} (h :
  (CS G m_Mo_isNight [vr 7 0, vi x1] μ (RI fun v1 μ1 =>
   (if v1 = 0 then
    K (-1) μ1
   else
    (CS G m_Mo_in [vi x2, vi 0, vi 9] μ1 (RI fun v2 μ2 =>
     (if v2 = 0 then
      K (-1) μ2
     else
      (if (μ2.1 7 0 21) ≤ 0 then
       (vp_in x1 8 ∧
        (vp_in x1 8 ∧
         K (μ2.1 34 0 x1.toNatClampNeg) (wI μ2 34 0 x1.toNatClampNeg x2)))
      else
       K (-4) μ2)))))))) :
  CS G m_Mo_wind [vr 7 0, vi x1, vi x2] μ (RI K) :=
  CS_of pf_Mo_wind (Nat.le_of_ble_eq_true rfl) (show SS G m_Mo_wind 0 [vr 7 0, vi x1, vi x2, un] [] μ (RI K) from wp_s (M := m_Mo_wind) (lk := lk_Mo) (tb := tc_Mo_wind) (cu := []) lk_Mo_ok (by decide +kernel) 27 true 0 _ _ _ h)
def tc_Mo_remember : List En := [eC 0 (.iconst 0) 1 0, e0 1 (.istore_n 1) 1]
set_option maxRecDepth 100000 in
theorem c_Mo_remember {G : Ge}  {μ : Mm} {K : Mm → Prop} (h :
  SS G m_Mo_remember 2 [vr 7 0, vi 0] [] μ (RV K)) :
  CS G m_Mo_remember [vr 7 0] μ (RV K) :=
  CS_of pf_Mo_remember (Nat.le_of_ble_eq_true rfl) (show SS G m_Mo_remember 0 [vr 7 0, un] [] μ (RV K) from wp_s (M := m_Mo_remember) (lk := lk_Mo) (tb := tc_Mo_remember) (cu := [(2, [true, true])]) lk_Mo_ok (by decide +kernel) 6 true 0 _ _ _ h)
def tb_Mo_remember_2 : List En := [e0 2 (.iload_n 1) 1, eC 3 (.bipush 16) 2 16, eT 5 (.if_icmp .ge 29) 3 34, e0 8 (.aload_n 0) 1, eF 9 (.getfield 51) 3 7 22, eC 12 (.bipush 16) 2 16, e0 14 (.aload_n 0) 1, eF 15 (.getfield 160) 3 7 21, e0 18 .imul 1, e0 19 (.iload_n 1) 1, e0 20 .iadd 1, e0 21 (.aload_n 0) 1, eF 22 (.getfield 48) 3 7 20, e0 25 (.iload_n 1) 1, e0 26 .iaload 1, e0 27 .iastore 1, eC 28 (.iinc 1 1) 3 1, eT 31 (.goto (-29)) 3 2, e0 34 (.aload_n 0) 1, e0 35 .dup 1, eF 36 (.getfield 160) 3 7 21, eC 39 (.iconst 1) 1 1, e0 40 .iadd 1, eF 41 (.putfield 160) 3 7 21, e0 44 .return_ 1]
set_option maxRecDepth 100000 in
theorem b_Mo_remember_2 {G : Ge} (x1 : Int32) {μ : Mm} {K : Mm → Prop} (h :
  (if (16 : Int32) ≤ x1 then
   K (wI μ 7 0 21 ((μ.1 7 0 21) + 1))
  else
   (vp_in x1 16 ∧
    (vp_in ((16 * (μ.1 7 0 21)) + x1) 960 ∧
     SS G m_Mo_remember 2 [vr 7 0, vi (x1 + 1)] [] (wI μ 38 0 (Int32.toNatClampNeg ((16 * (μ.1 7 0 21)) + x1)) (μ.1 37 0 x1.toNatClampNeg)) (RV K))))) :
  SS G m_Mo_remember 2 [vr 7 0, vi x1] [] μ (RV K) :=
  wp_s (M := m_Mo_remember) (lk := lk_Mo) (tb := tb_Mo_remember_2) (cu := [(2, [true, true])]) lk_Mo_ok (by decide +kernel) 22 true _ _ _ _ h
def tc_Mo_bears : List En := [e0 0 (.aload_n 0) 1, e0 1 (.iload_n 1) 1, e0 2 (.iload_n 2) 1, eT 3 (.invokevirtual 197) 3 23, e0 6 (.istore_n 3) 1, e0 7 (.aload_n 0) 1, eT 8 (.invokevirtual 206) 3 26, e0 11 (.aload_n 0) 1, eF 12 (.getfield 48) 3 7 20, e0 15 (.iload_n 1) 1, e0 16 .dup2 1, e0 17 .iaload 1, e0 18 (.iload_n 2) 1, e0 19 .isub 1, e0 20 .iastore 1, e0 21 (.aload_n 0) 1, eF 22 (.getfield 48) 3 7 20, eC 25 (.iconst 5) 1 5, e0 26 (.iload_n 1) 1, e0 27 .iadd 1, e0 28 .dup2 1, e0 29 .iaload 1, e0 30 (.iload_n 3) 1, e0 31 .iadd 1, e0 32 .iastore 1, e0 33 (.aload_n 0) 1, eF 34 (.getfield 48) 3 7 20, eC 37 (.bipush 10) 2 10, e0 39 (.iload_n 1) 1, e0 40 .iadd 1, e0 41 (.iload_n 2) 1, e0 42 .iastore 1, e0 43 (.iload_n 3) 1, e0 44 .ireturn 1]
set_option maxRecDepth 100000 in
theorem c_Mo_bears {G : Ge} (x1 : Int32) (x2 : Int32) {μ : Mm} {K : Int32 → Mm → Prop} (h :
  (CS G m_Mo_hurtOf [vr 7 0, vi x1, vi x2] μ (RI fun v1 μ1 =>
   (CS G m_Mo_remember [vr 7 0] μ1 (RV fun μ2 =>
    (vp_in x1 16 ∧
     (vp_in x1 16 ∧
      (vp_in (5 + x1) 16 ∧
       (vp_in (5 + x1) 16 ∧
        (vp_in (10 + x1) 16 ∧
         K v1 (wI (wI (wI μ2 37 0 x1.toNatClampNeg ((μ2.1 37 0 x1.toNatClampNeg) - x2)) 37 0 (Int32.toNatClampNeg (5 + x1)) (((wI μ2 37 0 x1.toNatClampNeg ((μ2.1 37 0 x1.toNatClampNeg) - x2)).1 37 0 (Int32.toNatClampNeg (5 + x1))) + v1)) 37 0 (Int32.toNatClampNeg (10 + x1)) x2))))))))))) :
  CS G m_Mo_bears [vr 7 0, vi x1, vi x2] μ (RI K) :=
  CS_of pf_Mo_bears (Nat.le_of_ble_eq_true rfl) (show SS G m_Mo_bears 0 [vr 7 0, vi x1, vi x2, un] [] μ (RI K) from wp_s (M := m_Mo_bears) (lk := lk_Mo) (tb := tc_Mo_bears) (cu := []) lk_Mo_ok (by decide +kernel) 37 true 0 _ _ _ h)
def tc_Mo_bear : List En := [e0 0 (.aload_n 0) 1, e0 1 (.iload_n 1) 1, eT 2 (.invokevirtual 188) 3 20, eT 5 (.ifCond .eq 8) 3 13, e0 8 (.iload_n 2) 1, eC 9 (.iconst 1) 1 1, eT 10 (.if_icmp .ge 5) 3 15, eC 13 (.iconst (-1)) 1 (-1), e0 14 .ireturn 1, e0 15 (.iload_n 2) 1, e0 16 (.aload_n 0) 1, e0 17 (.iload_n 1) 1, eT 18 (.invokevirtual 185) 3 19, eT 21 (.if_icmp .le 6) 3 27, eC 24 (.bipush (-4)) 2 (-4), e0 26 .ireturn 1, e0 27 (.aload_n 0) 1, eF 28 (.getfield 160) 3 7 21, eC 31 (.bipush 60) 2 60, eT 33 (.if_icmp .ne 8) 3 41, eC 36 (.bipush (-2)) 2 (-2), eT 38 (.goto 9) 3 47, e0 41 (.aload_n 0) 1, e0 42 (.iload_n 1) 1, e0 43 (.iload_n 2) 1, eT 44 (.invokevirtual 209) 3 27, e0 47 .ireturn 1]
set_option maxRecDepth 100000 in
theorem c_Mo_bear {G : Ge} (x1 : Int32) (x2 : Int32) {μ : Mm} {K : Int32 → Mm → Prop} (h :
  (CS G m_Mo_isHouse [vr 7 0, vi x1] μ (RI fun v1 μ1 =>
   (if v1 = 0 then
    K (-1) μ1
   else
    (if (1 : Int32) ≤ x2 then
     (CS G m_Mo_canTonight [vr 7 0, vi x1] μ1 (RI fun v2 μ2 =>
      (if x2 ≤ v2 then
       (if (μ2.1 7 0 21) = 60 then
        K (-2) μ2
       else
        (CS G m_Mo_bears [vr 7 0, vi x1, vi x2] μ2 (RI fun v3 μ3 =>
         K v3 μ3)))
      else
       K (-4) μ2)))
    else
     K (-1) μ1))))) :
  CS G m_Mo_bear [vr 7 0, vi x1, vi x2] μ (RI K) :=
  CS_of pf_Mo_bear (Nat.le_of_ble_eq_true rfl) (show SS G m_Mo_bear 0 [vr 7 0, vi x1, vi x2] [] μ (RI K) from wp_s (M := m_Mo_bear) (lk := lk_Mo) (tb := tc_Mo_bear) (cu := []) lk_Mo_ok (by decide +kernel) 24 true 0 _ _ _ h)
def tc_Mo_sell : List En := [e0 0 (.aload_n 0) 1, e0 1 (.iload_n 1) 1, eT 2 (.invokevirtual 188) 3 20, eT 5 (.ifCond .eq 21) 3 26, e0 8 (.aload_n 0) 1, e0 9 (.iload_n 2) 1, eT 10 (.invokevirtual 188) 3 20, eT 13 (.ifCond .eq 13) 3 26, e0 16 (.iload_n 1) 1, e0 17 (.iload_n 2) 1, eT 18 (.if_icmp .eq 8) 3 26, e0 21 (.iload_n 3) 1, eC 22 (.iconst 1) 1 1, eT 23 (.if_icmp .ge 5) 3 28, eC 26 (.iconst (-1)) 1 (-1), e0 27 .ireturn 1, e0 28 (.aload_n 0) 1, eF 29 (.getfield 48) 3 7 20, e0 32 (.iload_n 1) 1, e0 33 .iaload 1, e0 34 (.iload_n 3) 1, eT 35 (.if_icmp .lt 16) 3 51, e0 38 (.aload_n 0) 1, eF 39 (.getfield 48) 3 7 20, e0 42 (.iload_n 2) 1, e0 43 .iaload 1, e0 44 (.iload_n 3) 1, e0 45 .iadd 1, eC 46 (.bipush 99) 2 99, eT 48 (.if_icmp .le 6) 3 54, eC 51 (.bipush (-4)) 2 (-4), e0 53 .ireturn 1, e0 54 (.aload_n 0) 1, eF 55 (.getfield 160) 3 7 21, eC 58 (.bipush 60) 2 60, eT 60 (.if_icmp .ne 6) 3 66, eC 63 (.bipush (-2)) 2 (-2), e0 65 .ireturn 1, e0 66 (.aload_n 0) 1, eT 67 (.invokevirtual 206) 3 26, e0 70 (.aload_n 0) 1, eF 71 (.getfield 48) 3 7 20, e0 74 (.iload_n 1) 1, e0 75 .dup2 1, e0 76 .iaload 1, e0 77 (.iload_n 3) 1, e0 78 .isub 1, e0 79 .iastore 1, e0 80 (.aload_n 0) 1, eF 81 (.getfield 48) 3 7 20, e0 84 (.iload_n 2) 1, e0 85 .dup2 1, e0 86 .iaload 1, e0 87 (.iload_n 3) 1, e0 88 .iadd 1, e0 89 .iastore 1, e0 90 (.aload_n 0) 1, eF 91 (.getfield 48) 3 7 20, e0 94 (.iload_n 2) 1, e0 95 .iaload 1, e0 96 .ireturn 1]
set_option maxRecDepth 100000 in
theorem c_Mo_sell {G : Ge} (x1 : Int32) (x2 : Int32) (x3 : Int32) {μ : Mm} {K : Int32 → Mm → Prop} (h :
  (CS G m_Mo_isHouse [vr 7 0, vi x1] μ (RI fun v1 μ1 =>
   (if v1 = 0 then
    K (-1) μ1
   else
    (CS G m_Mo_isHouse [vr 7 0, vi x2] μ1 (RI fun v2 μ2 =>
     (if v2 = 0 then
      K (-1) μ2
     else
      (if x1 = x2 then
       K (-1) μ2
      else
       (if (1 : Int32) ≤ x3 then
        (vp_in x1 16 ∧
         (if (μ2.1 37 0 x1.toNatClampNeg) < x3 then
          K (-4) μ2
         else
          (vp_in x2 16 ∧
           (if ((μ2.1 37 0 x2.toNatClampNeg) + x3) ≤ 99 then
            (if (μ2.1 7 0 21) = 60 then
             K (-2) μ2
            else
             (CS G m_Mo_remember [vr 7 0] μ2 (RV fun μ3 =>
              (vp_in x1 16 ∧
               (vp_in x1 16 ∧
                (vp_in x2 16 ∧
                 (vp_in x2 16 ∧
                  (vp_in x2 16 ∧
                   K ((wI (wI μ3 37 0 x1.toNatClampNeg ((μ3.1 37 0 x1.toNatClampNeg) - x3)) 37 0 x2.toNatClampNeg (((wI μ3 37 0 x1.toNatClampNeg ((μ3.1 37 0 x1.toNatClampNeg) - x3)).1 37 0 x2.toNatClampNeg) + x3)).1 37 0 x2.toNatClampNeg) (wI (wI μ3 37 0 x1.toNatClampNeg ((μ3.1 37 0 x1.toNatClampNeg) - x3)) 37 0 x2.toNatClampNeg (((wI μ3 37 0 x1.toNatClampNeg ((μ3.1 37 0 x1.toNatClampNeg) - x3)).1 37 0 x2.toNatClampNeg) + x3))))))))))
           else
            K (-4) μ2))))
       else
        K (-1) μ2))))))))) :
  CS G m_Mo_sell [vr 7 0, vi x1, vi x2, vi x3] μ (RI K) :=
  CS_of pf_Mo_sell (Nat.le_of_ble_eq_true rfl) (show SS G m_Mo_sell 0 [vr 7 0, vi x1, vi x2, vi x3] [] μ (RI K) from wp_s (M := m_Mo_sell) (lk := lk_Mo) (tb := tc_Mo_sell) (cu := []) lk_Mo_ok (by decide +kernel) 58 true 0 _ _ _ h)
def tc_Mo_passes : List En := [e0 0 (.aload_n 0) 1, eT 1 (.invokevirtual 206) 3 26, e0 4 (.aload_n 0) 1, eF 5 (.getfield 48) 3 7 20, eC 8 (.bipush 15) 2 15, e0 10 .dup2 1, e0 11 .iaload 1, eC 12 (.iconst 1) 1 1, e0 13 .iadd 1, e0 14 .iastore 1, eC 15 (.iconst 0) 1 0, e0 16 (.istore_n 1) 1]
set_option maxRecDepth 100000 in
theorem c_Mo_passes {G : Ge}  {μ : Mm} {K : Mm → Prop} (h :
  (CS G m_Mo_remember [vr 7 0] μ (RV fun μ1 =>
   (vp_in 15 16 ∧
    (vp_in 15 16 ∧
     SS G m_Mo_passes 17 [vr 7 0, vi 0] [] (wI μ1 37 0 (Int32.toNatClampNeg 15) ((μ1.1 37 0 (Int32.toNatClampNeg 15)) + 1)) (RV K)))))) :
  CS G m_Mo_passes [vr 7 0] μ (RV K) :=
  CS_of pf_Mo_passes (Nat.le_of_ble_eq_true rfl) (show SS G m_Mo_passes 0 [vr 7 0, un] [] μ (RV K) from wp_s (M := m_Mo_passes) (lk := lk_Mo) (tb := tc_Mo_passes) (cu := [(17, [true, true])]) lk_Mo_ok (by decide +kernel) 16 true 0 _ _ _ h)
def tb_Mo_passes_17 : List En := [e0 17 (.iload_n 1) 1, e0 18 (.aload_n 0) 1, eF 19 (.getfield 154) 3 7 10, eT 22 (.if_icmp .ge 20) 3 42, e0 25 (.aload_n 0) 1, eF 26 (.getfield 48) 3 7 20, eC 29 (.bipush 10) 2 10, e0 31 (.iload_n 1) 1, e0 32 .iadd 1, eC 33 (.bipush (-9)) 2 (-9), e0 35 .iastore 1, eC 36 (.iinc 1 1) 3 1, eT 39 (.goto (-22)) 3 17, e0 42 .return_ 1]
set_option maxRecDepth 100000 in
theorem b_Mo_passes_17 {G : Ge} (x1 : Int32) {μ : Mm} {K : Mm → Prop} (h :
  (if (μ.1 7 0 10) ≤ x1 then
   K μ
  else
   (vp_in (10 + x1) 16 ∧
    SS G m_Mo_passes 17 [vr 7 0, vi (x1 + 1)] [] (wI μ 37 0 (Int32.toNatClampNeg (10 + x1)) (-9)) (RV K)))) :
  SS G m_Mo_passes 17 [vr 7 0, vi x1] [] μ (RV K) :=
  wp_s (M := m_Mo_passes) (lk := lk_Mo) (tb := tb_Mo_passes_17) (cu := [(17, [true, true])]) lk_Mo_ok (by decide +kernel) 17 true _ _ _ _ h
def tc_Mo_night : List En := [e0 0 (.aload_n 0) 1, eF 1 (.getfield 154) 3 7 10, eT 4 (.ifCond .eq 10) 3 14, e0 7 (.aload_n 0) 1, eT 8 (.invokevirtual 178) 3 17, eT 11 (.ifCond .eq 6) 3 17, eC 14 (.bipush (-4)) 2 (-4), e0 16 .ireturn 1, e0 17 (.aload_n 0) 1, eF 18 (.getfield 160) 3 7 21, eC 21 (.bipush 60) 2 60, eT 23 (.if_icmp .ne 6) 3 29, eC 26 (.bipush (-2)) 2 (-2), e0 28 .ireturn 1, e0 29 (.aload_n 0) 1, eT 30 (.invokevirtual 212) 3 28, e0 33 (.aload_n 0) 1, eF 34 (.getfield 157) 3 7 11, e0 37 (.aload_n 0) 1, eF 38 (.getfield 48) 3 7 20, eC 41 (.bipush 15) 2 15, e0 43 .iaload 1, e0 44 .isub 1, e0 45 .ireturn 1]
set_option maxRecDepth 100000 in
theorem c_Mo_night {G : Ge}  {μ : Mm} {K : Int32 → Mm → Prop} (h :
  (if (μ.1 7 0 10) = 0 then
   K (-4) μ
  else
   (CS G m_Mo_isCandlemas [vr 7 0] μ (RI fun v1 μ1 =>
    (if v1 = 0 then
     (if (μ1.1 7 0 21) = 60 then
      K (-2) μ1
     else
      (CS G m_Mo_passes [vr 7 0] μ1 (RV fun μ2 =>
       (vp_in 15 16 ∧
        K ((μ2.1 7 0 11) - (μ2.1 37 0 (Int32.toNatClampNeg 15))) μ2))))
    else
     K (-4) μ1))))) :
  CS G m_Mo_night [vr 7 0] μ (RI K) :=
  CS_of pf_Mo_night (Nat.le_of_ble_eq_true rfl) (show SS G m_Mo_night 0 [vr 7 0] [] μ (RI K) from wp_s (M := m_Mo_night) (lk := lk_Mo) (tb := tc_Mo_night) (cu := []) lk_Mo_ok (by decide +kernel) 23 true 0 _ _ _ h)
def tc_Mo_undo : List En := [e0 0 (.iload_n 1) 1, eC 1 (.iconst 0) 1 0, e0 2 (.aload_n 0) 1, eF 3 (.getfield 160) 3 7 21, eT 6 (.invokestatic 99) 3 0, eT 9 (.ifCond .ne 5) 3 14, eC 12 (.iconst (-1)) 1 (-1), e0 13 .ireturn 1, e0 14 (.aload_n 0) 1, eF 15 (.getfield 160) 3 7 21, e0 18 (.iload_n 1) 1, e0 19 .isub 1, e0 20 (.istore_n 2) 1, eC 21 (.iconst 0) 1 0, e0 22 (.istore_n 3) 1]
set_option maxRecDepth 100000 in
theorem c_Mo_undo {G : Ge} (x1 : Int32) {μ : Mm} {K : Int32 → Mm → Prop} (h :
  (CS G m_Mo_in [vi x1, vi 0, vi (μ.1 7 0 21)] μ (RI fun v1 μ1 =>
   (if v1 = 0 then
    K (-1) μ1
   else
    SS G m_Mo_undo 23 [vr 7 0, vi x1, vi ((μ1.1 7 0 21) - x1), vi 0] [] μ1 (RI K))))) :
  CS G m_Mo_undo [vr 7 0, vi x1] μ (RI K) :=
  CS_of pf_Mo_undo (Nat.le_of_ble_eq_true rfl) (show SS G m_Mo_undo 0 [vr 7 0, vi x1, un, un] [] μ (RI K) from wp_s (M := m_Mo_undo) (lk := lk_Mo) (tb := tc_Mo_undo) (cu := [(23, [true, true, true, true])]) lk_Mo_ok (by decide +kernel) 17 true 0 _ _ _ h)
def tb_Mo_undo_23 : List En := [e0 23 (.iload_n 3) 1, eC 24 (.bipush 16) 2 16, eT 26 (.if_icmp .ge 30) 3 56, e0 29 (.iload_n 2) 1, eT 30 (.ifCond .le 26) 3 56, e0 33 (.aload_n 0) 1, eF 34 (.getfield 48) 3 7 20, e0 37 (.iload_n 3) 1, e0 38 (.aload_n 0) 1, eF 39 (.getfield 51) 3 7 22, eC 42 (.bipush 16) 2 16, e0 44 (.iload_n 1) 1, e0 45 .imul 1, e0 46 (.iload_n 3) 1, e0 47 .iadd 1, e0 48 .iaload 1, e0 49 .iastore 1, eC 50 (.iinc 3 1) 3 1, eT 53 (.goto (-30)) 3 23, e0 56 (.aload_n 0) 1, e0 57 (.iload_n 1) 1, eF 58 (.putfield 160) 3 7 21, e0 61 (.iload_n 2) 1, e0 62 .ireturn 1]
set_option maxRecDepth 100000 in
theorem b_Mo_undo_23 {G : Ge} (x1 : Int32) (x2 : Int32) (x3 : Int32) {μ : Mm} {K : Int32 → Mm → Prop} (h :
  (if (16 : Int32) ≤ x3 then
   K x2 (wI μ 7 0 21 x1)
  else
   (if x2 ≤ 0 then
    K x2 (wI μ 7 0 21 x1)
   else
    (vp_in ((16 * x1) + x3) 960 ∧
     (vp_in x3 16 ∧
      SS G m_Mo_undo 23 [vr 7 0, vi x1, vi x2, vi (x3 + 1)] [] (wI μ 37 0 x3.toNatClampNeg (μ.1 38 0 (Int32.toNatClampNeg ((16 * x1) + x3)))) (RI K)))))) :
  SS G m_Mo_undo 23 [vr 7 0, vi x1, vi x2, vi x3] [] μ (RI K) :=
  wp_s (M := m_Mo_undo) (lk := lk_Mo) (tb := tb_Mo_undo_23) (cu := [(23, [true, true, true, true])]) lk_Mo_ok (by decide +kernel) 23 true _ _ _ _ h
def tc_Mo_keep : List En := [e0 0 (.iload_n 1) 1, eC 1 (.iconst 0) 1 0, eC 2 (.iconst 2) 1 2, eT 3 (.invokestatic 99) 3 0, eT 6 (.ifCond .ne 5) 3 11, eC 9 (.iconst (-1)) 1 (-1), e0 10 .ireturn 1, e0 11 (.aload_n 0) 1, eF 12 (.getfield 154) 3 7 10, eT 15 (.ifCond .ne 6) 3 21, eC 18 (.bipush (-4)) 2 (-4), e0 20 .ireturn 1, e0 21 (.aload_n 0) 1, eF 22 (.getfield 54) 3 7 23, e0 25 (.iload_n 1) 1, eC 26 (.iconst 1) 1 1, e0 27 .bastore 1, e0 28 (.aload_n 0) 1, eF 29 (.getfield 58) 3 7 24, e0 32 (.iload_n 1) 1, e0 33 (.aload_n 0) 1, eF 34 (.getfield 160) 3 7 21, e0 37 .iastore 1, eC 38 (.iconst 0) 1 0, e0 39 (.istore_n 2) 1]
set_option maxRecDepth 100000 in
theorem c_Mo_keep {G : Ge} (x1 : Int32) {μ : Mm} {K : Int32 → Mm → Prop} (h :
  (CS G m_Mo_in [vi x1, vi 0, vi 2] μ (RI fun v1 μ1 =>
   (if v1 = 0 then
    K (-1) μ1
   else
    (if (μ1.1 7 0 10) = 0 then
     K (-4) μ1
    else
     (vp_in x1 3 ∧
      (vp_in x1 3 ∧
       SS G m_Mo_keep 40 [vr 7 0, vi x1, vi 0] [] (wI (wI μ1 39 0 x1.toNatClampNeg (1 &&& 1)) 40 0 x1.toNatClampNeg ((wI μ1 39 0 x1.toNatClampNeg (1 &&& 1)).1 7 0 21)) (RI K)))))))) :
  CS G m_Mo_keep [vr 7 0, vi x1] μ (RI K) :=
  CS_of pf_Mo_keep (Nat.le_of_ble_eq_true rfl) (show SS G m_Mo_keep 0 [vr 7 0, vi x1, un] [] μ (RI K) from wp_s (M := m_Mo_keep) (lk := lk_Mo) (tb := tc_Mo_keep) (cu := [(40, [true, true, true]), (71, [true, true, true]), (102, [true, true, true])]) lk_Mo_ok (by decide +kernel) 25 true 0 _ _ _ h)
def tb_Mo_keep_40 : List En := [e0 40 (.iload_n 2) 1, eC 41 (.bipush 8) 2 8, eT 43 (.if_icmp .ge 26) 3 69, e0 46 (.aload_n 0) 1, eF 47 (.getfield 61) 3 7 25, eC 50 (.bipush 8) 2 8, e0 52 (.iload_n 1) 1, e0 53 .imul 1, e0 54 (.iload_n 2) 1, e0 55 .iadd 1, e0 56 (.aload_n 0) 1, eF 57 (.getfield 39) 3 7 14, e0 60 (.iload_n 2) 1, e0 61 .iaload 1, e0 62 .iastore 1, eC 63 (.iinc 2 1) 3 1, eT 66 (.goto (-26)) 3 40, eC 69 (.iconst 0) 1 0, e0 70 (.istore_n 2) 1]
set_option maxRecDepth 100000 in
theorem b_Mo_keep_40 {G : Ge} (x1 : Int32) (x2 : Int32) {μ : Mm} {K : Int32 → Mm → Prop} (h :
  (if (8 : Int32) ≤ x2 then
   SS G m_Mo_keep 71 [vr 7 0, vi x1, vi 0] [] μ (RI K)
  else
   (vp_in x2 8 ∧
    (vp_in ((8 * x1) + x2) 24 ∧
     SS G m_Mo_keep 40 [vr 7 0, vi x1, vi (x2 + 1)] [] (wI μ 41 0 (Int32.toNatClampNeg ((8 * x1) + x2)) (μ.1 34 0 x2.toNatClampNeg)) (RI K))))) :
  SS G m_Mo_keep 40 [vr 7 0, vi x1, vi x2] [] μ (RI K) :=
  wp_s (M := m_Mo_keep) (lk := lk_Mo) (tb := tb_Mo_keep_40) (cu := [(40, [true, true, true]), (71, [true, true, true]), (102, [true, true, true])]) lk_Mo_ok (by decide +kernel) 21 true _ _ _ _ h
def tb_Mo_keep_71 : List En := [e0 71 (.iload_n 2) 1, eC 72 (.bipush 16) 2 16, eT 74 (.if_icmp .ge 26) 3 100, e0 77 (.aload_n 0) 1, eF 78 (.getfield 64) 3 7 26, eC 81 (.bipush 16) 2 16, e0 83 (.iload_n 1) 1, e0 84 .imul 1, e0 85 (.iload_n 2) 1, e0 86 .iadd 1, e0 87 (.aload_n 0) 1, eF 88 (.getfield 48) 3 7 20, e0 91 (.iload_n 2) 1, e0 92 .iaload 1, e0 93 .iastore 1, eC 94 (.iinc 2 1) 3 1, eT 97 (.goto (-26)) 3 71, eC 100 (.iconst 0) 1 0, e0 101 (.istore_n 2) 1]
set_option maxRecDepth 100000 in
theorem b_Mo_keep_71 {G : Ge} (x1 : Int32) (x2 : Int32) {μ : Mm} {K : Int32 → Mm → Prop} (h :
  (if (16 : Int32) ≤ x2 then
   SS G m_Mo_keep 102 [vr 7 0, vi x1, vi 0] [] μ (RI K)
  else
   (vp_in x2 16 ∧
    (vp_in ((16 * x1) + x2) 48 ∧
     SS G m_Mo_keep 71 [vr 7 0, vi x1, vi (x2 + 1)] [] (wI μ 42 0 (Int32.toNatClampNeg ((16 * x1) + x2)) (μ.1 37 0 x2.toNatClampNeg)) (RI K))))) :
  SS G m_Mo_keep 71 [vr 7 0, vi x1, vi x2] [] μ (RI K) :=
  wp_s (M := m_Mo_keep) (lk := lk_Mo) (tb := tb_Mo_keep_71) (cu := [(40, [true, true, true]), (71, [true, true, true]), (102, [true, true, true])]) lk_Mo_ok (by decide +kernel) 21 true _ _ _ _ h
def tb_Mo_keep_102 : List En := [e0 102 (.iload_n 2) 1, eC 103 (.bipush 16) 2 16, e0 105 (.aload_n 0) 1, eF 106 (.getfield 160) 3 7 21, e0 109 .imul 1, eT 110 (.if_icmp .ge 27) 3 137, e0 113 (.aload_n 0) 1, eF 114 (.getfield 67) 3 7 27, eC 117 (.sipush 960) 3 960, e0 120 (.iload_n 1) 1, e0 121 .imul 1, e0 122 (.iload_n 2) 1, e0 123 .iadd 1, e0 124 (.aload_n 0) 1, eF 125 (.getfield 51) 3 7 22, e0 128 (.iload_n 2) 1, e0 129 .iaload 1, e0 130 .iastore 1, eC 131 (.iinc 2 1) 3 1, eT 134 (.goto (-32)) 3 102, e0 137 (.aload_n 0) 1, eF 138 (.getfield 160) 3 7 21, e0 141 .ireturn 1]
set_option maxRecDepth 100000 in
theorem b_Mo_keep_102 {G : Ge} (x1 : Int32) (x2 : Int32) {μ : Mm} {K : Int32 → Mm → Prop} (h :
  (if (16 * (μ.1 7 0 21)) ≤ x2 then
   K (μ.1 7 0 21) μ
  else
   (vp_in x2 960 ∧
    (vp_in ((960 * x1) + x2) 2880 ∧
     SS G m_Mo_keep 102 [vr 7 0, vi x1, vi (x2 + 1)] [] (wI μ 43 0 (Int32.toNatClampNeg ((960 * x1) + x2)) (μ.1 38 0 x2.toNatClampNeg)) (RI K))))) :
  SS G m_Mo_keep 102 [vr 7 0, vi x1, vi x2] [] μ (RI K) :=
  wp_s (M := m_Mo_keep) (lk := lk_Mo) (tb := tb_Mo_keep_102) (cu := [(40, [true, true, true]), (71, [true, true, true]), (102, [true, true, true])]) lk_Mo_ok (by decide +kernel) 24 true _ _ _ _ h
def tc_Mo_on : List En := [e0 0 (.iload_n 1) 1, eC 1 (.iconst 0) 1 0, eC 2 (.iconst 2) 1 2, eT 3 (.invokestatic 99) 3 0, eT 6 (.ifCond .ne 5) 3 11, eC 9 (.iconst (-1)) 1 (-1), e0 10 .ireturn 1, e0 11 (.aload_n 0) 1, eF 12 (.getfield 54) 3 7 23, e0 15 (.iload_n 1) 1, e0 16 .baload 1, eT 17 (.ifCond .ne 9) 3 26, e0 20 (.aload_n 0) 1, eC 21 (.iconst 1) 1 1, eT 22 (.invokevirtual 113) 3 2, e0 25 .ireturn 1, e0 26 (.aload_n 0) 1, e0 27 (.aload_n 0) 1, eF 28 (.getfield 58) 3 7 24, e0 31 (.iload_n 1) 1, e0 32 .iaload 1, eF 33 (.putfield 160) 3 7 21, eC 36 (.iconst 0) 1 0, e0 37 (.istore_n 2) 1]
set_option maxRecDepth 100000 in
theorem c_Mo_on {G : Ge} (x1 : Int32) {μ : Mm} {K : Int32 → Mm → Prop} (h :
  (CS G m_Mo_in [vi x1, vi 0, vi 2] μ (RI fun v1 μ1 =>
   (if v1 = 0 then
    K (-1) μ1
   else
    (vp_in x1 3 ∧
     (if (μ1.1 39 0 x1.toNatClampNeg) = 0 then
      (CS G m_Mo_meets [vr 7 0, vi 1] μ1 (RI fun v2 μ2 =>
       K v2 μ2))
     else
      (vp_in x1 3 ∧
       SS G m_Mo_on 38 [vr 7 0, vi x1, vi 0] [] (wI μ1 7 0 21 (μ1.1 40 0 x1.toNatClampNeg)) (RI K)))))))) :
  CS G m_Mo_on [vr 7 0, vi x1] μ (RI K) :=
  CS_of pf_Mo_on (Nat.le_of_ble_eq_true rfl) (show SS G m_Mo_on 0 [vr 7 0, vi x1, un] [] μ (RI K) from wp_s (M := m_Mo_on) (lk := lk_Mo) (tb := tc_Mo_on) (cu := [(38, [true, true, true]), (69, [true, true, true]), (100, [true, true, true])]) lk_Mo_ok (by decide +kernel) 22 true 0 _ _ _ h)
def tb_Mo_on_38 : List En := [e0 38 (.iload_n 2) 1, eC 39 (.bipush 8) 2 8, eT 41 (.if_icmp .ge 26) 3 67, e0 44 (.aload_n 0) 1, eF 45 (.getfield 39) 3 7 14, e0 48 (.iload_n 2) 1, e0 49 (.aload_n 0) 1, eF 50 (.getfield 61) 3 7 25, eC 53 (.bipush 8) 2 8, e0 55 (.iload_n 1) 1, e0 56 .imul 1, e0 57 (.iload_n 2) 1, e0 58 .iadd 1, e0 59 .iaload 1, e0 60 .iastore 1, eC 61 (.iinc 2 1) 3 1, eT 64 (.goto (-26)) 3 38, eC 67 (.iconst 0) 1 0, e0 68 (.istore_n 2) 1]
set_option maxRecDepth 100000 in
theorem b_Mo_on_38 {G : Ge} (x1 : Int32) (x2 : Int32) {μ : Mm} {K : Int32 → Mm → Prop} (h :
  (if (8 : Int32) ≤ x2 then
   SS G m_Mo_on 69 [vr 7 0, vi x1, vi 0] [] μ (RI K)
  else
   (vp_in ((8 * x1) + x2) 24 ∧
    (vp_in x2 8 ∧
     SS G m_Mo_on 38 [vr 7 0, vi x1, vi (x2 + 1)] [] (wI μ 34 0 x2.toNatClampNeg (μ.1 41 0 (Int32.toNatClampNeg ((8 * x1) + x2)))) (RI K))))) :
  SS G m_Mo_on 38 [vr 7 0, vi x1, vi x2] [] μ (RI K) :=
  wp_s (M := m_Mo_on) (lk := lk_Mo) (tb := tb_Mo_on_38) (cu := [(38, [true, true, true]), (69, [true, true, true]), (100, [true, true, true])]) lk_Mo_ok (by decide +kernel) 21 true _ _ _ _ h
def tb_Mo_on_69 : List En := [e0 69 (.iload_n 2) 1, eC 70 (.bipush 16) 2 16, eT 72 (.if_icmp .ge 26) 3 98, e0 75 (.aload_n 0) 1, eF 76 (.getfield 48) 3 7 20, e0 79 (.iload_n 2) 1, e0 80 (.aload_n 0) 1, eF 81 (.getfield 64) 3 7 26, eC 84 (.bipush 16) 2 16, e0 86 (.iload_n 1) 1, e0 87 .imul 1, e0 88 (.iload_n 2) 1, e0 89 .iadd 1, e0 90 .iaload 1, e0 91 .iastore 1, eC 92 (.iinc 2 1) 3 1, eT 95 (.goto (-26)) 3 69, eC 98 (.iconst 0) 1 0, e0 99 (.istore_n 2) 1]
set_option maxRecDepth 100000 in
theorem b_Mo_on_69 {G : Ge} (x1 : Int32) (x2 : Int32) {μ : Mm} {K : Int32 → Mm → Prop} (h :
  (if (16 : Int32) ≤ x2 then
   SS G m_Mo_on 100 [vr 7 0, vi x1, vi 0] [] μ (RI K)
  else
   (vp_in ((16 * x1) + x2) 48 ∧
    (vp_in x2 16 ∧
     SS G m_Mo_on 69 [vr 7 0, vi x1, vi (x2 + 1)] [] (wI μ 37 0 x2.toNatClampNeg (μ.1 42 0 (Int32.toNatClampNeg ((16 * x1) + x2)))) (RI K))))) :
  SS G m_Mo_on 69 [vr 7 0, vi x1, vi x2] [] μ (RI K) :=
  wp_s (M := m_Mo_on) (lk := lk_Mo) (tb := tb_Mo_on_69) (cu := [(38, [true, true, true]), (69, [true, true, true]), (100, [true, true, true])]) lk_Mo_ok (by decide +kernel) 21 true _ _ _ _ h
def tb_Mo_on_100 : List En := [e0 100 (.iload_n 2) 1, eC 101 (.bipush 16) 2 16, e0 103 (.aload_n 0) 1, eF 104 (.getfield 160) 3 7 21, e0 107 .imul 1, eT 108 (.if_icmp .ge 27) 3 135, e0 111 (.aload_n 0) 1, eF 112 (.getfield 51) 3 7 22, e0 115 (.iload_n 2) 1, e0 116 (.aload_n 0) 1, eF 117 (.getfield 67) 3 7 27, eC 120 (.sipush 960) 3 960, e0 123 (.iload_n 1) 1, e0 124 .imul 1, e0 125 (.iload_n 2) 1, e0 126 .iadd 1, e0 127 .iaload 1, e0 128 .iastore 1, eC 129 (.iinc 2 1) 3 1, eT 132 (.goto (-32)) 3 100, e0 135 (.aload_n 0) 1, eF 136 (.getfield 160) 3 7 21, e0 139 .ireturn 1]
set_option maxRecDepth 100000 in
theorem b_Mo_on_100 {G : Ge} (x1 : Int32) (x2 : Int32) {μ : Mm} {K : Int32 → Mm → Prop} (h :
  (if (16 * (μ.1 7 0 21)) ≤ x2 then
   K (μ.1 7 0 21) μ
  else
   (vp_in ((960 * x1) + x2) 2880 ∧
    (vp_in x2 960 ∧
     SS G m_Mo_on 100 [vr 7 0, vi x1, vi (x2 + 1)] [] (wI μ 38 0 x2.toNatClampNeg (μ.1 43 0 (Int32.toNatClampNeg ((960 * x1) + x2)))) (RI K))))) :
  SS G m_Mo_on 100 [vr 7 0, vi x1, vi x2] [] μ (RI K) :=
  wp_s (M := m_Mo_on) (lk := lk_Mo) (tb := tb_Mo_on_100) (cu := [(38, [true, true, true]), (69, [true, true, true]), (100, [true, true, true])]) lk_Mo_ok (by decide +kernel) 24 true _ _ _ _ h
def tc_Mo_hurt : List En := [e0 0 (.aload_n 0) 1, e0 1 (.iload_n 1) 1, eT 2 (.invokevirtual 188) 3 20, eT 5 (.ifCond .eq 22) 3 27, e0 8 (.iload_n 2) 1, eC 9 (.iconst 0) 1 0, eC 10 (.bipush 9) 2 9, eT 12 (.invokestatic 99) 3 0, eT 15 (.ifCond .eq 12) 3 27, e0 18 (.aload_n 0) 1, e0 19 (.iload_n 1) 1, e0 20 (.iload_n 2) 1, eT 21 (.invokevirtual 197) 3 23, eT 24 (.goto 4) 3 28, eC 27 (.iconst (-1)) 1 (-1), e0 28 .ireturn 1]
set_option maxRecDepth 100000 in
theorem c_Mo_hurt {G : Ge} (x1 : Int32) (x2 : Int32) {μ : Mm} {K : Int32 → Mm → Prop} (h :
  (CS G m_Mo_isHouse [vr 7 0, vi x1] μ (RI fun v1 μ1 =>
   (if v1 = 0 then
    K (-1) μ1
   else
    (CS G m_Mo_in [vi x2, vi 0, vi 9] μ1 (RI fun v2 μ2 =>
     (if v2 = 0 then
      K (-1) μ2
     else
      (CS G m_Mo_hurtOf [vr 7 0, vi x1, vi x2] μ2 (RI fun v3 μ3 =>
       K v3 μ3))))))))) :
  CS G m_Mo_hurt [vr 7 0, vi x1, vi x2] μ (RI K) :=
  CS_of pf_Mo_hurt (Nat.le_of_ble_eq_true rfl) (show SS G m_Mo_hurt 0 [vr 7 0, vi x1, vi x2] [] μ (RI K) from wp_s (M := m_Mo_hurt) (lk := lk_Mo) (tb := tc_Mo_hurt) (cu := []) lk_Mo_ok (by decide +kernel) 18 true 0 _ _ _ h)
def tc_Mo_mostOf : List En := [eC 0 (.iconst 0) 1 0, e0 1 (.istore_n 2) 1, e0 2 (.aload_n 0) 1, eF 3 (.getfield 48) 3 7 20, eC 6 (.bipush 15) 2 15, e0 8 .iaload 1, e0 9 (.istore_n 3) 1]
set_option maxRecDepth 100000 in
theorem c_Mo_mostOf {G : Ge} (x1 : Int32) {μ : Mm} {K : Int32 → Mm → Prop} (h :
  (vp_in 15 16 ∧
   SS G m_Mo_mostOf 10 [vr 7 0, vi x1, vi 0, vi (μ.1 37 0 (Int32.toNatClampNeg 15))] [] μ (RI K))) :
  CS G m_Mo_mostOf [vr 7 0, vi x1] μ (RI K) :=
  CS_of pf_Mo_mostOf (Nat.le_of_ble_eq_true rfl) (show SS G m_Mo_mostOf 0 [vr 7 0, vi x1, un, un] [] μ (RI K) from wp_s (M := m_Mo_mostOf) (lk := lk_Mo) (tb := tc_Mo_mostOf) (cu := [(10, [true, true, true, true])]) lk_Mo_ok (by decide +kernel) 11 true 0 _ _ _ h)
def tb_Mo_mostOf_10 : List En := [e0 10 (.iload_n 3) 1, e0 11 (.aload_n 0) 1, eF 12 (.getfield 157) 3 7 11, eT 15 (.if_icmp .ge 18) 3 33, e0 18 (.iload_n 2) 1, e0 19 (.aload_n 0) 1, e0 20 (.iload_n 1) 1, e0 21 (.iload_n 3) 1, eT 22 (.invokevirtual 182) 3 18, e0 25 .iadd 1, e0 26 (.istore_n 2) 1, eC 27 (.iinc 3 1) 3 1, eT 30 (.goto (-20)) 3 10, e0 33 (.iload_n 2) 1, e0 34 .ireturn 1]
set_option maxRecDepth 100000 in
theorem b_Mo_mostOf_10 {G : Ge} (x1 : Int32) (x2 : Int32) (x3 : Int32) {μ : Mm} {K : Int32 → Mm → Prop} (h :
  (if (μ.1 7 0 11) ≤ x3 then
   K x2 μ
  else
   (CS G m_Mo_canOn [vr 7 0, vi x1, vi x3] μ (RI fun v1 μ1 =>
    SS G m_Mo_mostOf 10 [vr 7 0, vi x1, vi (x2 + v1), vi (x3 + 1)] [] μ1 (RI K))))) :
  SS G m_Mo_mostOf 10 [vr 7 0, vi x1, vi x2, vi x3] [] μ (RI K) :=
  wp_s (M := m_Mo_mostOf) (lk := lk_Mo) (tb := tb_Mo_mostOf_10) (cu := [(10, [true, true, true, true])]) lk_Mo_ok (by decide +kernel) 17 true _ _ _ _ h
def tc_Mo_most : List En := [e0 0 (.aload_n 0) 1, e0 1 (.iload_n 1) 1, eT 2 (.invokevirtual 188) 3 20, eT 5 (.ifCond .eq 11) 3 16, e0 8 (.aload_n 0) 1, e0 9 (.iload_n 1) 1, eT 10 (.invokevirtual 220) 3 30, eT 13 (.goto 4) 3 17, eC 16 (.iconst (-1)) 1 (-1), e0 17 .ireturn 1]
set_option maxRecDepth 100000 in
theorem c_Mo_most {G : Ge} (x1 : Int32) {μ : Mm} {K : Int32 → Mm → Prop} (h :
  (CS G m_Mo_isHouse [vr 7 0, vi x1] μ (RI fun v1 μ1 =>
   (if v1 = 0 then
    K (-1) μ1
   else
    (CS G m_Mo_mostOf [vr 7 0, vi x1] μ1 (RI fun v2 μ2 =>
     K v2 μ2)))))) :
  CS G m_Mo_most [vr 7 0, vi x1] μ (RI K) :=
  CS_of pf_Mo_most (Nat.le_of_ble_eq_true rfl) (show SS G m_Mo_most 0 [vr 7 0, vi x1] [] μ (RI K) from wp_s (M := m_Mo_most) (lk := lk_Mo) (tb := tc_Mo_most) (cu := []) lk_Mo_ok (by decide +kernel) 12 true 0 _ _ _ h)
def tc_Mo_layPlans : List En := [eC 0 (.iconst 0) 1 0, e0 1 (.istore_n 2) 1]
set_option maxRecDepth 100000 in
theorem c_Mo_layPlans {G : Ge} (x1 : Int32) {μ : Mm} {K : Mm → Prop} (h :
  SS G m_Mo_layPlans 2 [vr 7 0, vi x1, vi 0, un, un, un] [] μ (RV K)) :
  CS G m_Mo_layPlans [vr 7 0, vi x1] μ (RV K) :=
  CS_of pf_Mo_layPlans (Nat.le_of_ble_eq_true rfl) (show SS G m_Mo_layPlans 0 [vr 7 0, vi x1, un, un, un, un] [] μ (RV K) from wp_s (M := m_Mo_layPlans) (lk := lk_Mo) (tb := tc_Mo_layPlans) (cu := [(2, [true, true, true, false, false, false]), (45, [true, true, true, false, false, false]), (58, [true, true, true, true, false, false]), (71, [true, true, true, true, true, true])]) lk_Mo_ok (by decide +kernel) 6 true 0 _ _ _ h)
def tb_Mo_layPlans_2 : List En := [e0 2 (.iload_n 2) 1, eC 3 (.bipush 101) 2 101, eT 5 (.if_icmp .ge 33) 3 38, e0 8 (.aload_n 0) 1, eF 9 (.getfield 70) 3 7 28, eC 12 (.bipush 101) 2 101, e0 14 (.aload_n 0) 1, eF 15 (.getfield 157) 3 7 11, e0 18 .imul 1, e0 19 (.iload_n 2) 1, e0 20 .iadd 1, e0 21 (.iload_n 2) 1, eT 22 (.ifCond .ne 7) 3 29, eC 25 (.iconst 0) 1 0, eT 26 (.goto 5) 3 31, eC 29 (.ldc 215) 2 100000000, e0 31 .iastore 1, eC 32 (.iinc 2 1) 3 1, eT 35 (.goto (-33)) 3 2, e0 38 (.aload_n 0) 1, eF 39 (.getfield 157) 3 7 11, eC 42 (.iconst 1) 1 1, e0 43 .isub 1, e0 44 (.istore_n 2) 1]
set_option maxRecDepth 100000 in
theorem b_Mo_layPlans_2 {G : Ge} (x1 : Int32) (x2 : Int32) {μ : Mm} {K : Mm → Prop} (h :
  (if (101 : Int32) ≤ x2 then
   SS G m_Mo_layPlans 45 [vr 7 0, vi x1, vi ((μ.1 7 0 11) - 1), un, un, un] [] μ (RV K)
  else
   (if x2 = 0 then
    (vp_in ((101 * (μ.1 7 0 11)) + x2) 909 ∧
     SS G m_Mo_layPlans 2 [vr 7 0, vi x1, vi (x2 + 1), un, un, un] [] (wI μ 44 0 (Int32.toNatClampNeg ((101 * (μ.1 7 0 11)) + x2)) 0) (RV K))
   else
    (vp_in ((101 * (μ.1 7 0 11)) + x2) 909 ∧
     SS G m_Mo_layPlans 2 [vr 7 0, vi x1, vi (x2 + 1), un, un, un] [] (wI μ 44 0 (Int32.toNatClampNeg ((101 * (μ.1 7 0 11)) + x2)) 100000000) (RV K))))) :
  SS G m_Mo_layPlans 2 [vr 7 0, vi x1, vi x2, un, un, un] [] μ (RV K) :=
  wp_s (M := m_Mo_layPlans) (lk := lk_Mo) (tb := tb_Mo_layPlans_2) (cu := [(2, [true, true, true, false, false, false]), (45, [true, true, true, false, false, false]), (58, [true, true, true, true, false, false]), (71, [true, true, true, true, true, true])]) lk_Mo_ok (by decide +kernel) 22 true _ _ _ _ h
def tb_Mo_layPlans_45 : List En := [e0 45 (.iload_n 2) 1, e0 46 (.aload_n 0) 1, eF 47 (.getfield 48) 3 7 20, eC 50 (.bipush 15) 2 15, e0 52 .iaload 1, eT 53 (.if_icmp .lt 102) 3 155, eC 56 (.iconst 0) 1 0, e0 57 (.istore_n 3) 1, e0 155 .return_ 1]
set_option maxRecDepth 100000 in
theorem b_Mo_layPlans_45 {G : Ge} (x1 : Int32) (x2 : Int32) {μ : Mm} {K : Mm → Prop} (h :
  (vp_in 15 16 ∧
   (if x2 < (μ.1 37 0 (Int32.toNatClampNeg 15)) then
    K μ
   else
    SS G m_Mo_layPlans 58 [vr 7 0, vi x1, vi x2, vi 0, un, un] [] μ (RV K)))) :
  SS G m_Mo_layPlans 45 [vr 7 0, vi x1, vi x2, un, un, un] [] μ (RV K) :=
  wp_s (M := m_Mo_layPlans) (lk := lk_Mo) (tb := tb_Mo_layPlans_45) (cu := [(2, [true, true, true, false, false, false]), (45, [true, true, true, false, false, false]), (58, [true, true, true, true, false, false]), (71, [true, true, true, true, true, true])]) lk_Mo_ok (by decide +kernel) 12 true _ _ _ _ h
def tb_Mo_layPlans_58 : List En := [e0 58 (.iload_n 3) 1, eC 59 (.bipush 101) 2 101, eT 61 (.if_icmp .ge 88) 3 149, eC 64 (.ldc 215) 2 100000000, e0 66 (.istore 4) 2, eC 68 (.iconst 0) 1 0, e0 69 (.istore 5) 2, eC 149 (.iinc 2 (-1)) 3 (-1), eT 152 (.goto (-107)) 3 45]
set_option maxRecDepth 100000 in
theorem b_Mo_layPlans_58 {G : Ge} (x1 : Int32) (x2 : Int32) (x3 : Int32) {μ : Mm} {K : Mm → Prop} (h :
  (if (101 : Int32) ≤ x3 then
   SS G m_Mo_layPlans 45 [vr 7 0, vi x1, vi (x2 + (-1)), un, un, un] [] μ (RV K)
  else
   SS G m_Mo_layPlans 71 [vr 7 0, vi x1, vi x2, vi x3, vi 100000000, vi 0] [] μ (RV K))) :
  SS G m_Mo_layPlans 58 [vr 7 0, vi x1, vi x2, vi x3, un, un] [] μ (RV K) :=
  wp_s (M := m_Mo_layPlans) (lk := lk_Mo) (tb := tb_Mo_layPlans_58) (cu := [(2, [true, true, true, false, false, false]), (45, [true, true, true, false, false, false]), (58, [true, true, true, true, false, false]), (71, [true, true, true, true, true, true])]) lk_Mo_ok (by decide +kernel) 11 true _ _ _ _ h
def tb_Mo_layPlans_71 : List En := [e0 71 (.iload 5) 2, e0 73 (.aload_n 0) 1, e0 74 (.iload_n 1) 1, e0 75 (.iload_n 2) 1, eT 76 (.invokevirtual 182) 3 18, eT 79 (.if_icmp .gt 46) 3 125, e0 82 (.iload 5) 2, e0 84 (.iload_n 3) 1, eT 85 (.if_icmp .gt 40) 3 125, e0 88 (.iload 4) 2, e0 90 (.aload_n 0) 1, e0 91 (.iload_n 1) 1, e0 92 (.iload 5) 2, eT 94 (.invokevirtual 197) 3 23, e0 97 (.aload_n 0) 1, eF 98 (.getfield 70) 3 7 28, eC 101 (.bipush 101) 2 101, e0 103 (.iload_n 2) 1, eC 104 (.iconst 1) 1 1, e0 105 .iadd 1, e0 106 .imul 1, e0 107 (.iload_n 3) 1, e0 108 .iadd 1, e0 109 (.iload 5) 2, e0 111 .isub 1, e0 112 .iaload 1, e0 113 .iadd 1, eT 114 (.invokestatic 169) 3 14, e0 117 (.istore 4) 2, eC 119 (.iinc 5 1) 3 1, eT 122 (.goto (-51)) 3 71, e0 125 (.aload_n 0) 1, eF 126 (.getfield 70) 3 7 28, eC 129 (.bipush 101) 2 101, e0 131 (.iload_n 2) 1, e0 132 .imul 1, e0 133 (.iload_n 3) 1, e0 134 .iadd 1, eC 135 (.ldc 215) 2 100000000, e0 137 (.iload 4) 2, eT 139 (.invokestatic 169) 3 14, e0 142 .iastore 1, eC 143 (.iinc 3 1) 3 1, eT 146 (.goto (-88)) 3 58]
set_option maxRecDepth 100000 in
theorem b_Mo_layPlans_71 {G : Ge} (x1 : Int32) (x2 : Int32) (x3 : Int32) (x4 : Int32) (x5 : Int32) {μ : Mm} {K : Mm → Prop} (h :
  (CS G m_Mo_canOn [vr 7 0, vi x1, vi x2] μ (RI fun v1 μ1 =>
   (if v1 < x5 then
    (CS G m_Mo_lesser [vi 100000000, vi x4] μ1 (RI fun v2 μ2 =>
     (vp_in ((101 * x2) + x3) 909 ∧
      SS G m_Mo_layPlans 58 [vr 7 0, vi x1, vi x2, vi (x3 + 1), un, un] [] (wI μ2 44 0 (Int32.toNatClampNeg ((101 * x2) + x3)) v2) (RV K))))
   else
    (if x3 < x5 then
     (CS G m_Mo_lesser [vi 100000000, vi x4] μ1 (RI fun v3 μ3 =>
      (vp_in ((101 * x2) + x3) 909 ∧
       SS G m_Mo_layPlans 58 [vr 7 0, vi x1, vi x2, vi (x3 + 1), un, un] [] (wI μ3 44 0 (Int32.toNatClampNeg ((101 * x2) + x3)) v3) (RV K))))
    else
     (CS G m_Mo_hurtOf [vr 7 0, vi x1, vi x5] μ1 (RI fun v4 μ4 =>
      (vp_in (((101 * (x2 + 1)) + x3) - x5) 909 ∧
       (CS G m_Mo_lesser [vi x4, vi (v4 + (μ4.1 44 0 (Int32.toNatClampNeg (((101 * (x2 + 1)) + x3) - x5))))] μ4 (RI fun v5 μ5 =>
        SS G m_Mo_layPlans 71 [vr 7 0, vi x1, vi x2, vi x3, vi v5, vi (x5 + 1)] [] μ5 (RV K))))))))))) :
  SS G m_Mo_layPlans 71 [vr 7 0, vi x1, vi x2, vi x3, vi x4, vi x5] [] μ (RV K) :=
  wp_s (M := m_Mo_layPlans) (lk := lk_Mo) (tb := tb_Mo_layPlans_71) (cu := [(2, [true, true, true, false, false, false]), (45, [true, true, true, false, false, false]), (58, [true, true, true, true, false, false]), (71, [true, true, true, true, true, true])]) lk_Mo_ok (by decide +kernel) 35 true _ _ _ _ h
def tc_Mo_layRow_46 : List En := [e0 0 (.aload_n 0) 1, eF 1 (.getfield 17) 3 7 5, e0 4 (.iload_n 1) 1, e0 5 (.iload_n 3) 1, e0 6 .iastore 1, eC 7 (.iconst 0) 1 0, e0 8 (.istore 4) 2]
set_option maxRecDepth 100000 in
theorem c_Mo_layRow_46 {G : Ge} (x1 : Int32) (x3 : Int32) {μ : Mm} {K : Mm → Prop} (h :
  (vp_in x1 6 ∧
   SS G m_Mo_layRow 10 [vr 7 0, vi x1, vr 46 0, vi x3, vi 0] [] (wI μ 27 0 x1.toNatClampNeg x3) (RV K))) :
  CS G m_Mo_layRow [vr 7 0, vi x1, vr 46 0, vi x3] μ (RV K) :=
  CS_of pf_Mo_layRow (Nat.le_of_ble_eq_true rfl) (show SS G m_Mo_layRow 0 [vr 7 0, vi x1, vr 46 0, vi x3, un] [] μ (RV K) from wp_s (M := m_Mo_layRow) (lk := lk_Mo) (tb := tc_Mo_layRow_46) (cu := [(10, [true, true, true, true, true])]) lk_Mo_ok (by decide +kernel) 11 true 0 _ _ _ h)
def tb_Mo_layRow_46_10 : List En := [e0 10 (.iload 4) 2, eC 12 (.bipush 40) 2 40, eT 14 (.if_icmp .ge 35) 3 49, e0 17 (.aload_n 0) 1, eF 18 (.getfield 20) 3 7 6, eC 21 (.bipush 40) 2 40, e0 23 (.iload_n 1) 1, e0 24 .imul 1, e0 25 (.iload 4) 2, e0 27 .iadd 1, e0 28 (.iload 4) 2, e0 30 (.iload_n 3) 1, eT 31 (.if_icmp .ge 10) 3 41, e0 34 (.aload_n 2) 1, e0 35 (.iload 4) 2, e0 37 .iaload 1, eT 38 (.goto 4) 3 42, eC 41 (.iconst 0) 1 0, e0 42 .iastore 1, eC 43 (.iinc 4 1) 3 1, eT 46 (.goto (-36)) 3 10, e0 49 .return_ 1]
set_option maxRecDepth 100000 in
theorem b_Mo_layRow_46_10 {G : Ge} (x1 : Int32) (x3 : Int32) (x4 : Int32) {μ : Mm} {K : Mm → Prop} (h :
  (if (40 : Int32) ≤ x4 then
   K μ
  else
   (if x3 ≤ x4 then
    (vp_in ((40 * x1) + x4) 240 ∧
     SS G m_Mo_layRow 10 [vr 7 0, vi x1, vr 46 0, vi x3, vi (x4 + 1)] [] (wI μ 28 0 (Int32.toNatClampNeg ((40 * x1) + x4)) 0) (RV K))
   else
    (vp_in x4 8 ∧
     (vp_in ((40 * x1) + x4) 240 ∧
      SS G m_Mo_layRow 10 [vr 7 0, vi x1, vr 46 0, vi x3, vi (x4 + 1)] [] (wI μ 28 0 (Int32.toNatClampNeg ((40 * x1) + x4)) (μ.1 46 0 x4.toNatClampNeg)) (RV K)))))) :
  SS G m_Mo_layRow 10 [vr 7 0, vi x1, vr 46 0, vi x3, vi x4] [] μ (RV K) :=
  wp_s (M := m_Mo_layRow) (lk := lk_Mo) (tb := tb_Mo_layRow_46_10) (cu := [(10, [true, true, true, true, true])]) lk_Mo_ok (by decide +kernel) 24 true _ _ _ _ h
def tc_Mo_layRow_48 : List En := [e0 0 (.aload_n 0) 1, eF 1 (.getfield 17) 3 7 5, e0 4 (.iload_n 1) 1, e0 5 (.iload_n 3) 1, e0 6 .iastore 1, eC 7 (.iconst 0) 1 0, e0 8 (.istore 4) 2]
set_option maxRecDepth 100000 in
theorem c_Mo_layRow_48 {G : Ge} (x1 : Int32) (x3 : Int32) {μ : Mm} {K : Mm → Prop} (h :
  (vp_in x1 6 ∧
   SS G m_Mo_layRow 10 [vr 7 0, vi x1, vr 48 0, vi x3, vi 0] [] (wI μ 27 0 x1.toNatClampNeg x3) (RV K))) :
  CS G m_Mo_layRow [vr 7 0, vi x1, vr 48 0, vi x3] μ (RV K) :=
  CS_of pf_Mo_layRow (Nat.le_of_ble_eq_true rfl) (show SS G m_Mo_layRow 0 [vr 7 0, vi x1, vr 48 0, vi x3, un] [] μ (RV K) from wp_s (M := m_Mo_layRow) (lk := lk_Mo) (tb := tc_Mo_layRow_48) (cu := [(10, [true, true, true, true, true])]) lk_Mo_ok (by decide +kernel) 11 true 0 _ _ _ h)
def tb_Mo_layRow_48_10 : List En := [e0 10 (.iload 4) 2, eC 12 (.bipush 40) 2 40, eT 14 (.if_icmp .ge 35) 3 49, e0 17 (.aload_n 0) 1, eF 18 (.getfield 20) 3 7 6, eC 21 (.bipush 40) 2 40, e0 23 (.iload_n 1) 1, e0 24 .imul 1, e0 25 (.iload 4) 2, e0 27 .iadd 1, e0 28 (.iload 4) 2, e0 30 (.iload_n 3) 1, eT 31 (.if_icmp .ge 10) 3 41, e0 34 (.aload_n 2) 1, e0 35 (.iload 4) 2, e0 37 .iaload 1, eT 38 (.goto 4) 3 42, eC 41 (.iconst 0) 1 0, e0 42 .iastore 1, eC 43 (.iinc 4 1) 3 1, eT 46 (.goto (-36)) 3 10, e0 49 .return_ 1]
set_option maxRecDepth 100000 in
theorem b_Mo_layRow_48_10 {G : Ge} (x1 : Int32) (x3 : Int32) (x4 : Int32) {μ : Mm} {K : Mm → Prop} (h :
  (if (40 : Int32) ≤ x4 then
   K μ
  else
   (if x3 ≤ x4 then
    (vp_in ((40 * x1) + x4) 240 ∧
     SS G m_Mo_layRow 10 [vr 7 0, vi x1, vr 48 0, vi x3, vi (x4 + 1)] [] (wI μ 28 0 (Int32.toNatClampNeg ((40 * x1) + x4)) 0) (RV K))
   else
    (vp_in x4 5 ∧
     (vp_in ((40 * x1) + x4) 240 ∧
      SS G m_Mo_layRow 10 [vr 7 0, vi x1, vr 48 0, vi x3, vi (x4 + 1)] [] (wI μ 28 0 (Int32.toNatClampNeg ((40 * x1) + x4)) (μ.1 48 0 x4.toNatClampNeg)) (RV K)))))) :
  SS G m_Mo_layRow 10 [vr 7 0, vi x1, vr 48 0, vi x3, vi x4] [] μ (RV K) :=
  wp_s (M := m_Mo_layRow) (lk := lk_Mo) (tb := tb_Mo_layRow_48_10) (cu := [(10, [true, true, true, true, true])]) lk_Mo_ok (by decide +kernel) 24 true _ _ _ _ h
def tc_Mo_least : List En := [e0 0 (.aload_n 0) 1, e0 1 (.iload_n 1) 1, eT 2 (.invokevirtual 188) 3 20, eT 5 (.ifCond .eq 10) 3 15, e0 8 (.iload_n 2) 1, eT 9 (.invokestatic 109) 3 1, eT 12 (.ifCond .ne 5) 3 17, eC 15 (.iconst (-1)) 1 (-1), e0 16 .ireturn 1, e0 17 (.aload_n 0) 1, e0 18 (.iload_n 1) 1, eT 19 (.invokevirtual 216) 3 29, e0 22 (.aload_n 0) 1, eF 23 (.getfield 48) 3 7 20, e0 26 (.iload_n 1) 1, e0 27 .iaload 1, e0 28 (.istore_n 3) 1, e0 29 (.aload_n 0) 1, eF 30 (.getfield 70) 3 7 28, eC 33 (.bipush 101) 2 101, e0 35 (.aload_n 0) 1, eF 36 (.getfield 48) 3 7 20, eC 39 (.bipush 15) 2 15, e0 41 .iaload 1, e0 42 .imul 1, e0 43 (.iload_n 3) 1, e0 44 .iadd 1, e0 45 .iaload 1, e0 46 (.istore 4) 2, e0 48 (.iload 4) 2, eC 50 (.ldc 215) 2 100000000, eT 52 (.if_icmp .ne 6) 3 58, eC 55 (.bipush (-9)) 2 (-9), e0 57 .ireturn 1, eC 58 (.iconst 0) 1 0, e0 59 (.istore 5) 2, e0 61 (.aload_n 0) 1, eF 62 (.getfield 48) 3 7 20, eC 65 (.bipush 15) 2 15, e0 67 .iaload 1, e0 68 (.istore 6) 2]
set_option maxRecDepth 100000 in
theorem c_Mo_least {G : Ge} (x1 : Int32) (x2 : Int32) {μ : Mm} {K : Int32 → Mm → Prop} (h :
  (CS G m_Mo_isHouse [vr 7 0, vi x1] μ (RI fun v1 μ1 =>
   (if v1 = 0 then
    K (-1) μ1
   else
    (CS G m_Mo_isRow [vi x2] μ1 (RI fun v2 μ2 =>
     (if v2 = 0 then
      K (-1) μ2
     else
      (CS G m_Mo_layPlans [vr 7 0, vi x1] μ2 (RV fun μ3 =>
       (vp_in x1 16 ∧
        (vp_in 15 16 ∧
         (vp_in ((101 * (μ3.1 37 0 (Int32.toNatClampNeg 15))) + (μ3.1 37 0 x1.toNatClampNeg)) 909 ∧
          (if (μ3.1 44 0 (Int32.toNatClampNeg ((101 * (μ3.1 37 0 (Int32.toNatClampNeg 15))) + (μ3.1 37 0 x1.toNatClampNeg)))) = 100000000 then
           K (-9) μ3
          else
           (vp_in 15 16 ∧
            SS G m_Mo_least 70 [vr 7 0, vi x1, vi x2, vi (μ3.1 37 0 x1.toNatClampNeg), vi (μ3.1 44 0 (Int32.toNatClampNeg ((101 * (μ3.1 37 0 (Int32.toNatClampNeg 15))) + (μ3.1 37 0 x1.toNatClampNeg)))), vi 0, vi (μ3.1 37 0 (Int32.toNatClampNeg 15)), un] [] μ3 (RI K))))))))))))))) :
  CS G m_Mo_least [vr 7 0, vi x1, vi x2] μ (RI K) :=
  CS_of pf_Mo_least (Nat.le_of_ble_eq_true rfl) (show SS G m_Mo_least 0 [vr 7 0, vi x1, vi x2, un, un, un, un, un] [] μ (RI K) from wp_s (M := m_Mo_least) (lk := lk_Mo) (tb := tc_Mo_least) (cu := [(70, [true, true, true, true, true, true, true, false]), (82, [true, true, true, true, true, true, true, true])]) lk_Mo_ok (by decide +kernel) 41 true 0 _ _ _ h)
def tb_Mo_least_70 : List En := [e0 70 (.iload 6) 2, e0 72 (.aload_n 0) 1, eF 73 (.getfield 157) 3 7 11, eT 76 (.if_icmp .ge 75) 3 151, eC 79 (.iconst 0) 1 0, e0 80 (.istore 7) 2, e0 151 (.aload_n 0) 1, e0 152 (.iload_n 2) 1, e0 153 (.aload_n 0) 1, eF 154 (.getfield 76) 3 7 30, e0 157 (.iload 5) 2, eT 159 (.invokevirtual 223) 3 31, e0 162 (.iload 4) 2, e0 164 .ireturn 1]
set_option maxRecDepth 100000 in
theorem b_Mo_least_70 {G : Ge} (x1 : Int32) (x2 : Int32) (x3 : Int32) (x4 : Int32) (x5 : Int32) (x6 : Int32) {μ : Mm} {K : Int32 → Mm → Prop} (h :
  (if (μ.1 7 0 11) ≤ x6 then
   (CS G m_Mo_layRow [vr 7 0, vi x2, vr 46 0, vi x5] μ (RV fun μ1 =>
    K x4 μ1))
  else
   SS G m_Mo_least 82 [vr 7 0, vi x1, vi x2, vi x3, vi x4, vi x5, vi x6, vi 0] [] μ (RI K))) :
  SS G m_Mo_least 70 [vr 7 0, vi x1, vi x2, vi x3, vi x4, vi x5, vi x6, un] [] μ (RI K) :=
  wp_s (M := m_Mo_least) (lk := lk_Mo) (tb := tb_Mo_least_70) (cu := [(70, [true, true, true, true, true, true, true, false]), (82, [true, true, true, true, true, true, true, true])]) lk_Mo_ok (by decide +kernel) 15 true _ _ _ _ h
def tb_Mo_least_82 : List En := [e0 82 (.aload_n 0) 1, e0 83 (.iload_n 1) 1, e0 84 (.iload 7) 2, eT 86 (.invokevirtual 197) 3 23, e0 89 (.aload_n 0) 1, eF 90 (.getfield 70) 3 7 28, eC 93 (.bipush 101) 2 101, e0 95 (.iload 6) 2, eC 97 (.iconst 1) 1 1, e0 98 .iadd 1, e0 99 .imul 1, e0 100 (.iload_n 3) 1, e0 101 .iadd 1, e0 102 (.iload 7) 2, e0 104 .isub 1, e0 105 .iaload 1, e0 106 .iadd 1, e0 107 (.aload_n 0) 1, eF 108 (.getfield 70) 3 7 28, eC 111 (.bipush 101) 2 101, e0 113 (.iload 6) 2, e0 115 .imul 1, e0 116 (.iload_n 3) 1, e0 117 .iadd 1, e0 118 .iaload 1, eT 119 (.if_icmp .eq 9) 3 128, eC 122 (.iinc 7 1) 3 1, eT 125 (.goto (-43)) 3 82, e0 128 (.aload_n 0) 1, eF 129 (.getfield 76) 3 7 30, e0 132 (.iload 5) 2, e0 134 (.iload 7) 2, e0 136 .iastore 1, eC 137 (.iinc 5 1) 3 1, e0 140 (.iload_n 3) 1, e0 141 (.iload 7) 2, e0 143 .isub 1, e0 144 (.istore_n 3) 1, eC 145 (.iinc 6 1) 3 1, eT 148 (.goto (-78)) 3 70]
set_option maxRecDepth 100000 in
theorem b_Mo_least_82 {G : Ge} (x1 : Int32) (x2 : Int32) (x3 : Int32) (x4 : Int32) (x5 : Int32) (x6 : Int32) (x7 : Int32) {μ : Mm} {K : Int32 → Mm → Prop} (h :
  (CS G m_Mo_hurtOf [vr 7 0, vi x1, vi x7] μ (RI fun v1 μ1 =>
   (vp_in (((101 * (x6 + 1)) + x3) - x7) 909 ∧
    (vp_in ((101 * x6) + x3) 909 ∧
     (if (v1 + (μ1.1 44 0 (Int32.toNatClampNeg (((101 * (x6 + 1)) + x3) - x7)))) = (μ1.1 44 0 (Int32.toNatClampNeg ((101 * x6) + x3))) then
      (vp_in x5 8 ∧
       SS G m_Mo_least 70 [vr 7 0, vi x1, vi x2, vi (x3 - x7), vi x4, vi (x5 + 1), vi (x6 + 1), un] [] (wI μ1 46 0 x5.toNatClampNeg x7) (RI K))
     else
      SS G m_Mo_least 82 [vr 7 0, vi x1, vi x2, vi x3, vi x4, vi x5, vi x6, vi (x7 + 1)] [] μ1 (RI K))))))) :
  SS G m_Mo_least 82 [vr 7 0, vi x1, vi x2, vi x3, vi x4, vi x5, vi x6, vi x7] [] μ (RI K) :=
  wp_s (M := m_Mo_least) (lk := lk_Mo) (tb := tb_Mo_least_82) (cu := [(70, [true, true, true, true, true, true, true, false]), (82, [true, true, true, true, true, true, true, true])]) lk_Mo_ok (by decide +kernel) 42 true _ _ _ _ h
def tc_Mo_layLeasts : List En := [eC 0 (.iconst 0) 1 0, e0 1 (.istore_n 1) 1]
set_option maxRecDepth 100000 in
theorem c_Mo_layLeasts {G : Ge}  {μ : Mm} {K : Mm → Prop} (h :
  SS G m_Mo_layLeasts 2 [vr 7 0, vi 0, un] [] μ (RV K)) :
  CS G m_Mo_layLeasts [vr 7 0] μ (RV K) :=
  CS_of pf_Mo_layLeasts (Nat.le_of_ble_eq_true rfl) (show SS G m_Mo_layLeasts 0 [vr 7 0, un, un] [] μ (RV K) from wp_s (M := m_Mo_layLeasts) (lk := lk_Mo) (tb := tc_Mo_layLeasts) (cu := [(2, [true, true, false]), (17, [true, true, true])]) lk_Mo_ok (by decide +kernel) 6 true 0 _ _ _ h)
def tb_Mo_layLeasts_2 : List En := [e0 2 (.iload_n 1) 1, e0 3 (.aload_n 0) 1, eF 4 (.getfield 154) 3 7 10, eT 7 (.if_icmp .ge 56) 3 63, e0 10 (.aload_n 0) 1, e0 11 (.iload_n 1) 1, eT 12 (.invokevirtual 216) 3 29, eC 15 (.iconst 0) 1 0, e0 16 (.istore_n 2) 1, e0 63 .return_ 1]
set_option maxRecDepth 100000 in
theorem b_Mo_layLeasts_2 {G : Ge} (x1 : Int32) {μ : Mm} {K : Mm → Prop} (h :
  (if (μ.1 7 0 10) ≤ x1 then
   K μ
  else
   (CS G m_Mo_layPlans [vr 7 0, vi x1] μ (RV fun μ1 =>
    SS G m_Mo_layLeasts 17 [vr 7 0, vi x1, vi 0] [] μ1 (RV K))))) :
  SS G m_Mo_layLeasts 2 [vr 7 0, vi x1, un] [] μ (RV K) :=
  wp_s (M := m_Mo_layLeasts) (lk := lk_Mo) (tb := tb_Mo_layLeasts_2) (cu := [(2, [true, true, false]), (17, [true, true, true])]) lk_Mo_ok (by decide +kernel) 13 true _ _ _ _ h
def tb_Mo_layLeasts_17 : List En := [e0 17 (.iload_n 2) 1, eC 18 (.bipush 101) 2 101, eT 20 (.if_icmp .ge 37) 3 57, e0 23 (.aload_n 0) 1, eF 24 (.getfield 73) 3 7 29, eC 27 (.bipush 101) 2 101, e0 29 (.iload_n 1) 1, e0 30 .imul 1, e0 31 (.iload_n 2) 1, e0 32 .iadd 1, e0 33 (.aload_n 0) 1, eF 34 (.getfield 70) 3 7 28, eC 37 (.bipush 101) 2 101, e0 39 (.aload_n 0) 1, eF 40 (.getfield 48) 3 7 20, eC 43 (.bipush 15) 2 15, e0 45 .iaload 1, e0 46 .imul 1, e0 47 (.iload_n 2) 1, e0 48 .iadd 1, e0 49 .iaload 1, e0 50 .iastore 1, eC 51 (.iinc 2 1) 3 1, eT 54 (.goto (-37)) 3 17, eC 57 (.iinc 1 1) 3 1, eT 60 (.goto (-58)) 3 2]
set_option maxRecDepth 100000 in
theorem b_Mo_layLeasts_17 {G : Ge} (x1 : Int32) (x2 : Int32) {μ : Mm} {K : Mm → Prop} (h :
  (if (101 : Int32) ≤ x2 then
   SS G m_Mo_layLeasts 2 [vr 7 0, vi (x1 + 1), un] [] μ (RV K)
  else
   (vp_in 15 16 ∧
    (vp_in ((101 * (μ.1 37 0 (Int32.toNatClampNeg 15))) + x2) 909 ∧
     (vp_in ((101 * x1) + x2) 505 ∧
      SS G m_Mo_layLeasts 17 [vr 7 0, vi x1, vi (x2 + 1)] [] (wI μ 45 0 (Int32.toNatClampNeg ((101 * x1) + x2)) (μ.1 44 0 (Int32.toNatClampNeg ((101 * (μ.1 37 0 (Int32.toNatClampNeg 15))) + x2)))) (RV K)))))) :
  SS G m_Mo_layLeasts 17 [vr 7 0, vi x1, vi x2] [] μ (RV K) :=
  wp_s (M := m_Mo_layLeasts) (lk := lk_Mo) (tb := tb_Mo_layLeasts_17) (cu := [(2, [true, true, false]), (17, [true, true, true])]) lk_Mo_ok (by decide +kernel) 28 true _ _ _ _ h
def tc_Mo_leastOf : List En := [e0 0 (.aload_n 0) 1, eF 1 (.getfield 73) 3 7 29, eC 4 (.bipush 101) 2 101, e0 6 (.iload_n 1) 1, e0 7 .imul 1, e0 8 (.iload_n 2) 1, e0 9 .iadd 1, e0 10 .iaload 1, e0 11 .ireturn 1]
set_option maxRecDepth 100000 in
theorem c_Mo_leastOf {G : Ge} (x1 : Int32) (x2 : Int32) {μ : Mm} {K : Int32 → Mm → Prop} (h :
  (vp_in ((101 * x1) + x2) 505 ∧
   K (μ.1 45 0 (Int32.toNatClampNeg ((101 * x1) + x2))) μ)) :
  CS G m_Mo_leastOf [vr 7 0, vi x1, vi x2] μ (RI K) :=
  CS_of pf_Mo_leastOf (Nat.le_of_ble_eq_true rfl) (show SS G m_Mo_leastOf 0 [vr 7 0, vi x1, vi x2] [] μ (RI K) from wp_s (M := m_Mo_leastOf) (lk := lk_Mo) (tb := tc_Mo_leastOf) (cu := []) lk_Mo_ok (by decide +kernel) 12 true 0 _ _ _ h)
def tc_Mo_price : List En := [e0 0 (.aload_n 0) 1, e0 1 (.iload_n 1) 1, eT 2 (.invokevirtual 188) 3 20, eT 5 (.ifCond .ne 5) 3 10, eC 8 (.iconst (-1)) 1 (-1), e0 9 .ireturn 1, e0 10 (.aload_n 0) 1, eT 11 (.invokevirtual 227) 3 32, e0 14 (.aload_n 0) 1, e0 15 (.iload_n 1) 1, e0 16 (.aload_n 0) 1, eF 17 (.getfield 48) 3 7 20, e0 20 (.iload_n 1) 1, e0 21 .iaload 1, eT 22 (.invokevirtual 230) 3 33, e0 25 (.istore_n 2) 1, e0 26 (.aload_n 0) 1, e0 27 (.iload_n 1) 1, e0 28 (.aload_n 0) 1, eF 29 (.getfield 48) 3 7 20, e0 32 (.iload_n 1) 1, e0 33 .iaload 1, eC 34 (.iconst 1) 1 1, e0 35 .iadd 1, eT 36 (.invokevirtual 230) 3 33, e0 39 (.istore_n 3) 1, e0 40 (.iload_n 2) 1, eC 41 (.ldc 215) 2 100000000, eT 43 (.if_icmp .eq 9) 3 52, e0 46 (.iload_n 3) 1, eC 47 (.ldc 215) 2 100000000, eT 49 (.if_icmp .ne 8) 3 57, eC 52 (.bipush (-9)) 2 (-9), eT 54 (.goto 6) 3 60, e0 57 (.iload_n 3) 1, e0 58 (.iload_n 2) 1, e0 59 .isub 1, e0 60 .ireturn 1]
set_option maxRecDepth 100000 in
theorem c_Mo_price {G : Ge} (x1 : Int32) {μ : Mm} {K : Int32 → Mm → Prop} (h :
  (CS G m_Mo_isHouse [vr 7 0, vi x1] μ (RI fun v1 μ1 =>
   (if v1 = 0 then
    K (-1) μ1
   else
    (CS G m_Mo_layLeasts [vr 7 0] μ1 (RV fun μ2 =>
     (vp_in x1 16 ∧
      (CS G m_Mo_leastOf [vr 7 0, vi x1, vi (μ2.1 37 0 x1.toNatClampNeg)] μ2 (RI fun v3 μ3 =>
       (vp_in x1 16 ∧
        (CS G m_Mo_leastOf [vr 7 0, vi x1, vi ((μ3.1 37 0 x1.toNatClampNeg) + 1)] μ3 (RI fun v4 μ4 =>
         (if v3 = 100000000 then
          K (-9) μ4
         else
          (if v4 = 100000000 then
           K (-9) μ4
          else
           K (v4 - v3) μ4)))))))))))))) :
  CS G m_Mo_price [vr 7 0, vi x1] μ (RI K) :=
  CS_of pf_Mo_price (Nat.le_of_ble_eq_true rfl) (show SS G m_Mo_price 0 [vr 7 0, vi x1, un, un] [] μ (RI K) from wp_s (M := m_Mo_price) (lk := lk_Mo) (tb := tc_Mo_price) (cu := []) lk_Mo_ok (by decide +kernel) 37 true 0 _ _ _ h)
def tc_Mo_late : List En := [e0 0 (.aload_n 0) 1, eT 1 (.invokevirtual 227) 3 32, eC 4 (.iconst 0) 1 0, e0 5 (.istore_n 1) 1, eC 6 (.iconst 0) 1 0, e0 7 (.istore_n 2) 1, eC 8 (.iconst 0) 1 0, e0 9 (.istore_n 3) 1]
set_option maxRecDepth 100000 in
theorem c_Mo_late {G : Ge}  {μ : Mm} {K : Int32 → Mm → Prop} (h :
  (CS G m_Mo_layLeasts [vr 7 0] μ (RV fun μ1 =>
   SS G m_Mo_late 10 [vr 7 0, vi 0, vi 0, vi 0, un] [] μ1 (RI K)))) :
  CS G m_Mo_late [vr 7 0] μ (RI K) :=
  CS_of pf_Mo_late (Nat.le_of_ble_eq_true rfl) (show SS G m_Mo_late 0 [vr 7 0, un, un, un, un] [] μ (RI K) from wp_s (M := m_Mo_late) (lk := lk_Mo) (tb := tc_Mo_late) (cu := [(10, [true, true, true, true, false])]) lk_Mo_ok (by decide +kernel) 12 true 0 _ _ _ h)
def tb_Mo_late_10 : List En := [e0 10 (.iload_n 3) 1, e0 11 (.aload_n 0) 1, eF 12 (.getfield 154) 3 7 10, eT 15 (.if_icmp .ge 55) 3 70, e0 18 (.aload_n 0) 1, e0 19 (.iload_n 3) 1, e0 20 (.aload_n 0) 1, eF 21 (.getfield 48) 3 7 20, e0 24 (.iload_n 3) 1, e0 25 .iaload 1, eT 26 (.invokevirtual 230) 3 33, e0 29 (.istore 4) 2, e0 31 (.iload_n 1) 1, e0 32 (.iload 4) 2, eC 34 (.ldc 215) 2 100000000, eT 36 (.if_icmp .ne 9) 3 45, eC 39 (.iconst 1) 1 1, e0 40 (.iload_n 3) 1, e0 41 .ishl 1, eT 42 (.goto 4) 3 46, eC 45 (.iconst 0) 1 0, e0 46 .ior 1, e0 47 (.istore_n 1) 1, e0 48 (.iload_n 2) 1, e0 49 (.iload 4) 2, eC 51 (.ldc 215) 2 100000000, eT 53 (.if_icmp .ne 7) 3 60, eC 56 (.iconst 0) 1 0, eT 57 (.goto 5) 3 62, e0 60 (.iload 4) 2, e0 62 .iadd 1, e0 63 (.istore_n 2) 1, eC 64 (.iinc 3 1) 3 1, eT 67 (.goto (-57)) 3 10, e0 70 (.aload_n 0) 1, e0 71 (.iload_n 2) 1, e0 72 (.iload_n 1) 1, eT 73 (.invokevirtual 121) 3 4, e0 76 .ireturn 1]
set_option maxRecDepth 100000 in
theorem b_Mo_late_10 {G : Ge} (x1 : Int32) (x2 : Int32) (x3 : Int32) {μ : Mm} {K : Int32 → Mm → Prop} (h :
  (if (μ.1 7 0 10) ≤ x3 then
   (CS G m_Mo_tells [vr 7 0, vi x2, vi x1] μ (RI fun v1 μ1 =>
    K v1 μ1))
  else
   (vp_in x3 16 ∧
    (CS G m_Mo_leastOf [vr 7 0, vi x3, vi (μ.1 37 0 x3.toNatClampNeg)] μ (RI fun v2 μ2 =>
     (if v2 = 100000000 then
      (if v2 = 100000000 then
       SS G m_Mo_late 10 [vr 7 0, vi (x1 ||| (1 <<< (x3 &&& 31))), vi (x2 + 0), vi (x3 + 1), un] [] μ2 (RI K)
      else
       SS G m_Mo_late 10 [vr 7 0, vi (x1 ||| (1 <<< (x3 &&& 31))), vi (x2 + v2), vi (x3 + 1), un] [] μ2 (RI K))
     else
      (if v2 = 100000000 then
       SS G m_Mo_late 10 [vr 7 0, vi (x1 ||| 0), vi (x2 + 0), vi (x3 + 1), un] [] μ2 (RI K)
      else
       SS G m_Mo_late 10 [vr 7 0, vi (x1 ||| 0), vi (x2 + v2), vi (x3 + 1), un] [] μ2 (RI K)))))))) :
  SS G m_Mo_late 10 [vr 7 0, vi x1, vi x2, vi x3, un] [] μ (RI K) :=
  wp_s (M := m_Mo_late) (lk := lk_Mo) (tb := tb_Mo_late_10) (cu := [(10, [true, true, true, true, false])]) lk_Mo_ok (by decide +kernel) 36 true _ _ _ _ h
def tc_Mo_gainOf : List En := [e0 0 (.aload_n 0) 1, eF 1 (.getfield 48) 3 7 20, e0 4 (.iload_n 1) 1, e0 5 .iaload 1, eT 6 (.ifCond .ne 6) 3 12, eC 9 (.bipush (-9)) 2 (-9), e0 11 .ireturn 1, e0 12 (.aload_n 0) 1, e0 13 (.iload_n 1) 1, e0 14 (.aload_n 0) 1, eF 15 (.getfield 48) 3 7 20, e0 18 (.iload_n 1) 1, e0 19 .iaload 1, eT 20 (.invokevirtual 230) 3 33, e0 23 (.istore_n 3) 1, e0 24 (.aload_n 0) 1, e0 25 (.iload_n 2) 1, e0 26 (.aload_n 0) 1, eF 27 (.getfield 48) 3 7 20, e0 30 (.iload_n 2) 1, e0 31 .iaload 1, eT 32 (.invokevirtual 230) 3 33, e0 35 (.istore 4) 2, e0 37 (.aload_n 0) 1, e0 38 (.iload_n 1) 1, e0 39 (.aload_n 0) 1, eF 40 (.getfield 48) 3 7 20, e0 43 (.iload_n 1) 1, e0 44 .iaload 1, eC 45 (.iconst 1) 1 1, e0 46 .isub 1, eT 47 (.invokevirtual 230) 3 33, e0 50 (.istore 5) 2, e0 52 (.aload_n 0) 1, e0 53 (.iload_n 2) 1, e0 54 (.aload_n 0) 1, eF 55 (.getfield 48) 3 7 20, e0 58 (.iload_n 2) 1, e0 59 .iaload 1, eC 60 (.iconst 1) 1 1, e0 61 .iadd 1, eT 62 (.invokevirtual 230) 3 33, e0 65 (.istore 6) 2, e0 67 (.iload_n 3) 1, eC 68 (.ldc 215) 2 100000000, eT 70 (.if_icmp .ge 28) 3 98, e0 73 (.iload 4) 2, eC 75 (.ldc 215) 2 100000000, eT 77 (.if_icmp .ge 21) 3 98, e0 80 (.iload 5) 2, eC 82 (.ldc 215) 2 100000000, eT 84 (.if_icmp .ge 14) 3 98, e0 87 (.iload 6) 2, eC 89 (.ldc 215) 2 100000000, eT 91 (.if_icmp .ge 7) 3 98, eC 94 (.iconst 1) 1 1, eT 95 (.goto 4) 3 99, eC 98 (.iconst 0) 1 0, e0 99 (.istore 7) 2, e0 101 (.iload 7) 2, eT 103 (.ifCond .eq 19) 3 122, eC 106 (.bipush 100) 2 100, e0 108 (.iload_n 3) 1, e0 109 .iadd 1, e0 110 (.iload 4) 2, e0 112 .iadd 1, e0 113 (.iload 5) 2, e0 115 .isub 1, e0 116 (.iload 6) 2, e0 118 .isub 1, eT 119 (.goto 5) 3 124, eC 122 (.bipush (-9)) 2 (-9), e0 124 .ireturn 1]
set_option maxRecDepth 100000 in
theorem c_Mo_gainOf {G : Ge} (x1 : Int32) (x2 : Int32) {μ : Mm} {K : Int32 → Mm → Prop} (h :
  (vp_in x1 16 ∧
   (if (μ.1 37 0 x1.toNatClampNeg) = 0 then
    K (-9) μ
   else
    (vp_in x1 16 ∧
     (CS G m_Mo_leastOf [vr 7 0, vi x1, vi (μ.1 37 0 x1.toNatClampNeg)] μ (RI fun v1 μ1 =>
      (vp_in x2 16 ∧
       (CS G m_Mo_leastOf [vr 7 0, vi x2, vi (μ1.1 37 0 x2.toNatClampNeg)] μ1 (RI fun v2 μ2 =>
        (vp_in x1 16 ∧
         (CS G m_Mo_leastOf [vr 7 0, vi x1, vi ((μ2.1 37 0 x1.toNatClampNeg) - 1)] μ2 (RI fun v3 μ3 =>
          (vp_in x2 16 ∧
           (CS G m_Mo_leastOf [vr 7 0, vi x2, vi ((μ3.1 37 0 x2.toNatClampNeg) + 1)] μ3 (RI fun v4 μ4 =>
            (if (100000000 : Int32) ≤ v1 then
             (if (0 : Int32) = 0 then
              K (-9) μ4
             else
              K ((((100 + v1) + v2) - v3) - v4) μ4)
            else
             (if (100000000 : Int32) ≤ v2 then
              (if (0 : Int32) = 0 then
               K (-9) μ4
              else
               K ((((100 + v1) + v2) - v3) - v4) μ4)
             else
              (if (100000000 : Int32) ≤ v3 then
               (if (0 : Int32) = 0 then
                K (-9) μ4
               else
                K ((((100 + v1) + v2) - v3) - v4) μ4)
              else
               (if (100000000 : Int32) ≤ v4 then
                (if (0 : Int32) = 0 then
                 K (-9) μ4
                else
                 K ((((100 + v1) + v2) - v3) - v4) μ4)
               else
                (if (1 : Int32) = 0 then
                 K (-9) μ4
                else
                 K ((((100 + v1) + v2) - v3) - v4) μ4)))))))))))))))))))) :
  CS G m_Mo_gainOf [vr 7 0, vi x1, vi x2] μ (RI K) :=
  CS_of pf_Mo_gainOf (Nat.le_of_ble_eq_true rfl) (show SS G m_Mo_gainOf 0 [vr 7 0, vi x1, vi x2, un, un, un, un, un] [] μ (RI K) from wp_s (M := m_Mo_gainOf) (lk := lk_Mo) (tb := tc_Mo_gainOf) (cu := []) lk_Mo_ok (by decide +kernel) 72 true 0 _ _ _ h)
def tc_Mo_gain : List En := [e0 0 (.aload_n 0) 1, e0 1 (.iload_n 1) 1, eT 2 (.invokevirtual 188) 3 20, eT 5 (.ifCond .eq 16) 3 21, e0 8 (.aload_n 0) 1, e0 9 (.iload_n 2) 1, eT 10 (.invokevirtual 188) 3 20, eT 13 (.ifCond .eq 8) 3 21, e0 16 (.iload_n 1) 1, e0 17 (.iload_n 2) 1, eT 18 (.if_icmp .ne 5) 3 23, eC 21 (.iconst (-1)) 1 (-1), e0 22 .ireturn 1, e0 23 (.aload_n 0) 1, eT 24 (.invokevirtual 227) 3 32, e0 27 (.aload_n 0) 1, e0 28 (.iload_n 1) 1, e0 29 (.iload_n 2) 1, eT 30 (.invokevirtual 233) 3 34, e0 33 .ireturn 1]
set_option maxRecDepth 100000 in
theorem c_Mo_gain {G : Ge} (x1 : Int32) (x2 : Int32) {μ : Mm} {K : Int32 → Mm → Prop} (h :
  (CS G m_Mo_isHouse [vr 7 0, vi x1] μ (RI fun v1 μ1 =>
   (if v1 = 0 then
    K (-1) μ1
   else
    (CS G m_Mo_isHouse [vr 7 0, vi x2] μ1 (RI fun v2 μ2 =>
     (if v2 = 0 then
      K (-1) μ2
     else
      (if x1 = x2 then
       K (-1) μ2
      else
       (CS G m_Mo_layLeasts [vr 7 0] μ2 (RV fun μ3 =>
        (CS G m_Mo_gainOf [vr 7 0, vi x1, vi x2] μ3 (RI fun v4 μ4 =>
         K v4 μ4)))))))))))) :
  CS G m_Mo_gain [vr 7 0, vi x1, vi x2] μ (RI K) :=
  CS_of pf_Mo_gain (Nat.le_of_ble_eq_true rfl) (show SS G m_Mo_gain 0 [vr 7 0, vi x1, vi x2] [] μ (RI K) from wp_s (M := m_Mo_gain) (lk := lk_Mo) (tb := tc_Mo_gain) (cu := []) lk_Mo_ok (by decide +kernel) 21 true 0 _ _ _ h)
def tc_Mo_sales : List En := [e0 0 (.aload_n 0) 1, eT 1 (.invokevirtual 227) 3 32, eC 4 (.iconst 0) 1 0, e0 5 (.istore_n 1) 1, eC 6 (.bipush (-9)) 2 (-9), e0 8 (.istore_n 2) 1, eC 9 (.bipush 100) 2 100, e0 11 (.istore_n 3) 1, eC 12 (.iconst 0) 1 0, e0 13 (.istore 4) 2]
set_option maxRecDepth 100000 in
theorem c_Mo_sales {G : Ge}  {μ : Mm} {K : Int32 → Mm → Prop} (h :
  (CS G m_Mo_layLeasts [vr 7 0] μ (RV fun μ1 =>
   SS G m_Mo_sales 15 [vr 7 0, vi 0, vi (-9), vi 100, vi 0, un, un] [] μ1 (RI K)))) :
  CS G m_Mo_sales [vr 7 0] μ (RI K) :=
  CS_of pf_Mo_sales (Nat.le_of_ble_eq_true rfl) (show SS G m_Mo_sales 0 [vr 7 0, un, un, un, un, un, un] [] μ (RI K) from wp_s (M := m_Mo_sales) (lk := lk_Mo) (tb := tc_Mo_sales) (cu := [(15, [true, true, true, true, true, false, false]), (27, [true, true, true, true, true, true, false])]) lk_Mo_ok (by decide +kernel) 14 true 0 _ _ _ h)
def tb_Mo_sales_15 : List En := [e0 15 (.iload 4) 2, e0 17 (.aload_n 0) 1, eF 18 (.getfield 154) 3 7 10, eT 21 (.if_icmp .ge 96) 3 117, eC 24 (.iconst 0) 1 0, e0 25 (.istore 5) 2, e0 117 (.aload_n 0) 1, e0 118 (.iload_n 2) 1, e0 119 (.iload_n 1) 1, eT 120 (.invokevirtual 121) 3 4, e0 123 .ireturn 1]
set_option maxRecDepth 100000 in
theorem b_Mo_sales_15 {G : Ge} (x1 : Int32) (x2 : Int32) (x3 : Int32) (x4 : Int32) {μ : Mm} {K : Int32 → Mm → Prop} (h :
  (if (μ.1 7 0 10) ≤ x4 then
   (CS G m_Mo_tells [vr 7 0, vi x2, vi x1] μ (RI fun v1 μ1 =>
    K v1 μ1))
  else
   SS G m_Mo_sales 27 [vr 7 0, vi x1, vi x2, vi x3, vi x4, vi 0, un] [] μ (RI K))) :
  SS G m_Mo_sales 15 [vr 7 0, vi x1, vi x2, vi x3, vi x4, un, un] [] μ (RI K) :=
  wp_s (M := m_Mo_sales) (lk := lk_Mo) (tb := tb_Mo_sales_15) (cu := [(15, [true, true, true, true, true, false, false]), (27, [true, true, true, true, true, true, false])]) lk_Mo_ok (by decide +kernel) 12 true _ _ _ _ h
def tb_Mo_sales_27 : List En := [e0 27 (.iload 5) 2, e0 29 (.aload_n 0) 1, eF 30 (.getfield 154) 3 7 10, eT 33 (.if_icmp .ge 78) 3 111, e0 36 (.iload 4) 2, e0 38 (.iload 5) 2, eT 40 (.if_icmp .ne 8) 3 48, eC 43 (.bipush (-9)) 2 (-9), eT 45 (.goto 11) 3 56, e0 48 (.aload_n 0) 1, e0 49 (.iload 4) 2, e0 51 (.iload 5) 2, eT 53 (.invokevirtual 233) 3 34, e0 56 (.istore 6) 2, e0 58 (.iload_n 1) 1, e0 59 (.iload 6) 2, eC 61 (.bipush 100) 2 100, eT 63 (.if_icmp .le 7) 3 70, eC 66 (.iconst 1) 1 1, eT 67 (.goto 4) 3 71, eC 70 (.iconst 0) 1 0, e0 71 .iadd 1, e0 72 (.istore_n 1) 1, e0 73 (.iload 6) 2, e0 75 (.iload_n 3) 1, eT 76 (.if_icmp .le 14) 3 90, eC 79 (.bipush 6) 2 6, e0 81 (.iload 4) 2, e0 83 .imul 1, e0 84 (.iload 5) 2, e0 86 .iadd 1, eT 87 (.goto 4) 3 91, e0 90 (.iload_n 2) 1, e0 91 (.istore_n 2) 1, e0 92 (.iload 6) 2, e0 94 (.iload_n 3) 1, eT 95 (.if_icmp .le 8) 3 103, e0 98 (.iload 6) 2, eT 100 (.goto 4) 3 104, e0 103 (.iload_n 3) 1, e0 104 (.istore_n 3) 1, eC 105 (.iinc 5 1) 3 1, eT 108 (.goto (-81)) 3 27, eC 111 (.iinc 4 1) 3 1, eT 114 (.goto (-99)) 3 15]
set_option maxRecDepth 100000 in
theorem b_Mo_sales_27 {G : Ge} (x1 : Int32) (x2 : Int32) (x3 : Int32) (x4 : Int32) (x5 : Int32) {μ : Mm} {K : Int32 → Mm → Prop} (h :
  (if (μ.1 7 0 10) ≤ x5 then
   SS G m_Mo_sales 15 [vr 7 0, vi x1, vi x2, vi x3, vi (x4 + 1), un, un] [] μ (RI K)
  else
   (if x4 = x5 then
    (if ((-9) : Int32) ≤ 100 then
     (if ((-9) : Int32) ≤ x3 then
      (if ((-9) : Int32) ≤ x3 then
       SS G m_Mo_sales 27 [vr 7 0, vi (x1 + 0), vi x2, vi x3, vi x4, vi (x5 + 1), un] [] μ (RI K)
      else
       SS G m_Mo_sales 27 [vr 7 0, vi (x1 + 0), vi x2, vi (-9), vi x4, vi (x5 + 1), un] [] μ (RI K))
     else
      (if ((-9) : Int32) ≤ x3 then
       SS G m_Mo_sales 27 [vr 7 0, vi (x1 + 0), vi ((6 * x4) + x5), vi x3, vi x4, vi (x5 + 1), un] [] μ (RI K)
      else
       SS G m_Mo_sales 27 [vr 7 0, vi (x1 + 0), vi ((6 * x4) + x5), vi (-9), vi x4, vi (x5 + 1), un] [] μ (RI K)))
    else
     (if ((-9) : Int32) ≤ x3 then
      (if ((-9) : Int32) ≤ x3 then
       SS G m_Mo_sales 27 [vr 7 0, vi (x1 + 1), vi x2, vi x3, vi x4, vi (x5 + 1), un] [] μ (RI K)
      else
       SS G m_Mo_sales 27 [vr 7 0, vi (x1 + 1), vi x2, vi (-9), vi x4, vi (x5 + 1), un] [] μ (RI K))
     else
      (if ((-9) : Int32) ≤ x3 then
       SS G m_Mo_sales 27 [vr 7 0, vi (x1 + 1), vi ((6 * x4) + x5), vi x3, vi x4, vi (x5 + 1), un] [] μ (RI K)
      else
       SS G m_Mo_sales 27 [vr 7 0, vi (x1 + 1), vi ((6 * x4) + x5), vi (-9), vi x4, vi (x5 + 1), un] [] μ (RI K))))
   else
    (CS G m_Mo_gainOf [vr 7 0, vi x4, vi x5] μ (RI fun v1 μ1 =>
     (if v1 ≤ 100 then
      (if v1 ≤ x3 then
       (if v1 ≤ x3 then
        SS G m_Mo_sales 27 [vr 7 0, vi (x1 + 0), vi x2, vi x3, vi x4, vi (x5 + 1), un] [] μ1 (RI K)
       else
        SS G m_Mo_sales 27 [vr 7 0, vi (x1 + 0), vi x2, vi v1, vi x4, vi (x5 + 1), un] [] μ1 (RI K))
      else
       (if v1 ≤ x3 then
        SS G m_Mo_sales 27 [vr 7 0, vi (x1 + 0), vi ((6 * x4) + x5), vi x3, vi x4, vi (x5 + 1), un] [] μ1 (RI K)
       else
        SS G m_Mo_sales 27 [vr 7 0, vi (x1 + 0), vi ((6 * x4) + x5), vi v1, vi x4, vi (x5 + 1), un] [] μ1 (RI K)))
     else
      (if v1 ≤ x3 then
       (if v1 ≤ x3 then
        SS G m_Mo_sales 27 [vr 7 0, vi (x1 + 1), vi x2, vi x3, vi x4, vi (x5 + 1), un] [] μ1 (RI K)
       else
        SS G m_Mo_sales 27 [vr 7 0, vi (x1 + 1), vi x2, vi v1, vi x4, vi (x5 + 1), un] [] μ1 (RI K))
      else
       (if v1 ≤ x3 then
        SS G m_Mo_sales 27 [vr 7 0, vi (x1 + 1), vi ((6 * x4) + x5), vi x3, vi x4, vi (x5 + 1), un] [] μ1 (RI K)
       else
        SS G m_Mo_sales 27 [vr 7 0, vi (x1 + 1), vi ((6 * x4) + x5), vi v1, vi x4, vi (x5 + 1), un] [] μ1 (RI K))))))))) :
  SS G m_Mo_sales 27 [vr 7 0, vi x1, vi x2, vi x3, vi x4, vi x5, un] [] μ (RI K) :=
  wp_s (M := m_Mo_sales) (lk := lk_Mo) (tb := tb_Mo_sales_27) (cu := [(15, [true, true, true, true, true, false, false]), (27, [true, true, true, true, true, true, false])]) lk_Mo_ok (by decide +kernel) 42 true _ _ _ _ h
def tc_Mo_everybody : List En := [eC 0 (.iconst 1) 1 1, e0 1 (.aload_n 0) 1, eF 2 (.getfield 154) 3 7 10, e0 5 .ishl 1, eC 6 (.iconst 1) 1 1, e0 7 .isub 1, e0 8 .ireturn 1]
set_option maxRecDepth 100000 in
theorem c_Mo_everybody {G : Ge}  {μ : Mm} {K : Int32 → Mm → Prop} (h :
  K ((1 <<< ((μ.1 7 0 10) &&& 31)) - 1) μ) :
  CS G m_Mo_everybody [vr 7 0] μ (RI K) :=
  CS_of pf_Mo_everybody (Nat.le_of_ble_eq_true rfl) (show SS G m_Mo_everybody 0 [vr 7 0] [] μ (RI K) from wp_s (M := m_Mo_everybody) (lk := lk_Mo) (tb := tc_Mo_everybody) (cu := []) lk_Mo_ok (by decide +kernel) 10 true 0 _ _ _ h)
def tc_Mo_has : List En := [e0 0 (.iload_n 0) 1, e0 1 (.iload_n 1) 1, e0 2 .ishr 1, eC 3 (.iconst 1) 1 1, e0 4 .iand 1, eC 5 (.iconst 1) 1 1, eT 6 (.if_icmp .ne 7) 3 13, eC 9 (.iconst 1) 1 1, eT 10 (.goto 4) 3 14, eC 13 (.iconst 0) 1 0, e0 14 .ireturn 1]
set_option maxRecDepth 100000 in
theorem c_Mo_has {G : Ge} (x0 : Int32) (x1 : Int32) {μ : Mm} {K : Int32 → Mm → Prop} (h :
  (if ((x0 >>> (x1 &&& 31)) &&& 1) = 1 then
   (((1 : Int32) = 0 ∨ (1 : Int32) = 1) ∧ K 1 μ)
  else
   (((0 : Int32) = 0 ∨ (0 : Int32) = 1) ∧ K 0 μ))) :
  CS G m_Mo_has [vi x0, vi x1] μ (RI K) :=
  CS_of pf_Mo_has (Nat.le_of_ble_eq_true rfl) (show SS G m_Mo_has 0 [vi x0, vi x1] [] μ (RI K) from wp_s (M := m_Mo_has) (lk := lk_Mo) (tb := tc_Mo_has) (cu := []) lk_Mo_ok (by decide +kernel) 13 true 0 _ _ _ h)
def tc_Mo_owedBy : List En := [eC 0 (.iconst 0) 1 0, e0 1 (.istore_n 2) 1, eC 2 (.iconst 0) 1 0, e0 3 (.istore_n 3) 1]
set_option maxRecDepth 100000 in
theorem c_Mo_owedBy {G : Ge} (x1 : Int32) {μ : Mm} {K : Int32 → Mm → Prop} (h :
  SS G m_Mo_owedBy 4 [vr 7 0, vi x1, vi 0, vi 0] [] μ (RI K)) :
  CS G m_Mo_owedBy [vr 7 0, vi x1] μ (RI K) :=
  CS_of pf_Mo_owedBy (Nat.le_of_ble_eq_true rfl) (show SS G m_Mo_owedBy 0 [vr 7 0, vi x1, un, un] [] μ (RI K) from wp_s (M := m_Mo_owedBy) (lk := lk_Mo) (tb := tc_Mo_owedBy) (cu := [(4, [true, true, true, true])]) lk_Mo_ok (by decide +kernel) 8 true 0 _ _ _ h)
def tb_Mo_owedBy_4 : List En := [e0 4 (.iload_n 3) 1, e0 5 (.aload_n 0) 1, eF 6 (.getfield 154) 3 7 10, eT 9 (.if_icmp .ge 30) 3 39, e0 12 (.iload_n 2) 1, e0 13 (.iload_n 1) 1, e0 14 (.iload_n 3) 1, eT 15 (.invokestatic 236) 3 35, eT 18 (.ifCond .eq 12) 3 30, e0 21 (.aload_n 0) 1, eF 22 (.getfield 48) 3 7 20, e0 25 (.iload_n 3) 1, e0 26 .iaload 1, eT 27 (.goto 4) 3 31, eC 30 (.iconst 0) 1 0, e0 31 .iadd 1, e0 32 (.istore_n 2) 1, eC 33 (.iinc 3 1) 3 1, eT 36 (.goto (-32)) 3 4, e0 39 (.iload_n 2) 1, e0 40 .ireturn 1]
set_option maxRecDepth 100000 in
theorem b_Mo_owedBy_4 {G : Ge} (x1 : Int32) (x2 : Int32) (x3 : Int32) {μ : Mm} {K : Int32 → Mm → Prop} (h :
  (if (μ.1 7 0 10) ≤ x3 then
   K x2 μ
  else
   (CS G m_Mo_has [vi x1, vi x3] μ (RI fun v1 μ1 =>
    (if v1 = 0 then
     SS G m_Mo_owedBy 4 [vr 7 0, vi x1, vi (x2 + 0), vi (x3 + 1)] [] μ1 (RI K)
    else
     (vp_in x3 16 ∧
      SS G m_Mo_owedBy 4 [vr 7 0, vi x1, vi (x2 + (μ1.1 37 0 x3.toNatClampNeg)), vi (x3 + 1)] [] μ1 (RI K))))))) :
  SS G m_Mo_owedBy 4 [vr 7 0, vi x1, vi x2, vi x3] [] μ (RI K) :=
  wp_s (M := m_Mo_owedBy) (lk := lk_Mo) (tb := tb_Mo_owedBy_4) (cu := [(4, [true, true, true, true])]) lk_Mo_ok (by decide +kernel) 22 true _ _ _ _ h
def tc_Mo_sharedAt : List En := [eC 0 (.sipush 501) 3 501, e0 3 (.iload_n 0) 1, e0 4 .imul 1, e0 5 (.iload_n 1) 1, e0 6 .iadd 1, e0 7 .ireturn 1]
set_option maxRecDepth 100000 in
theorem c_Mo_sharedAt {G : Ge} (x0 : Int32) (x1 : Int32) {μ : Mm} {K : Int32 → Mm → Prop} (h :
  K ((501 * x0) + x1) μ) :
  CS G m_Mo_sharedAt [vi x0, vi x1] μ (RI K) :=
  CS_of pf_Mo_sharedAt (Nat.le_of_ble_eq_true rfl) (show SS G m_Mo_sharedAt 0 [vi x0, vi x1] [] μ (RI K) from wp_s (M := m_Mo_sharedAt) (lk := lk_Mo) (tb := tc_Mo_sharedAt) (cu := []) lk_Mo_ok (by decide +kernel) 9 true 0 _ _ _ h)
def tc_Mo_shareOf : List En := [e0 0 (.aload_n 0) 1, e0 1 (.iload_n 1) 1, eT 2 (.invokevirtual 240) 3 36, e0 5 (.istore_n 2) 1, eC 6 (.iconst 0) 1 0, e0 7 (.istore_n 3) 1]
set_option maxRecDepth 100000 in
theorem c_Mo_shareOf {G : Ge} (x1 : Int32) {μ : Mm} {K : Int32 → Mm → Prop} (h :
  (CS G m_Mo_owedBy [vr 7 0, vi x1] μ (RI fun v1 μ1 =>
   SS G m_Mo_shareOf 8 [vr 7 0, vi x1, vi v1, vi 0, un, un, un, un, un] [] μ1 (RI K)))) :
  CS G m_Mo_shareOf [vr 7 0, vi x1] μ (RI K) :=
  CS_of pf_Mo_shareOf (Nat.le_of_ble_eq_true rfl) (show SS G m_Mo_shareOf 0 [vr 7 0, vi x1, un, un, un, un, un, un, un] [] μ (RI K) from wp_s (M := m_Mo_shareOf) (lk := lk_Mo) (tb := tc_Mo_shareOf) (cu := [(8, [true, true, true, true, false, false, false, false, false]), (49, [true, true, true, true, false, false, false, false, false]), (80, [true, true, true, true, true, true, false, false, false]), (93, [true, true, true, true, true, true, true, true, false])]) lk_Mo_ok (by decide +kernel) 10 true 0 _ _ _ h)
def tb_Mo_shareOf_8 : List En := [e0 8 (.iload_n 3) 1, e0 9 (.iload_n 2) 1, eT 10 (.if_icmp .gt 32) 3 42, e0 13 (.aload_n 0) 1, eF 14 (.getfield 79) 3 7 31, e0 17 (.aload_n 0) 1, eF 18 (.getfield 154) 3 7 10, e0 21 (.iload_n 3) 1, eT 22 (.invokestatic 243) 3 37, e0 25 (.iload_n 3) 1, eT 26 (.ifCond .ne 7) 3 33, eC 29 (.iconst 0) 1 0, eT 30 (.goto 5) 3 35, eC 33 (.ldc 215) 2 100000000, e0 35 .iastore 1, eC 36 (.iinc 3 1) 3 1, eT 39 (.goto (-31)) 3 8, e0 42 (.aload_n 0) 1, eF 43 (.getfield 154) 3 7 10, eC 46 (.iconst 1) 1 1, e0 47 .isub 1, e0 48 (.istore_n 3) 1]
set_option maxRecDepth 100000 in
theorem b_Mo_shareOf_8 {G : Ge} (x1 : Int32) (x2 : Int32) (x3 : Int32) {μ : Mm} {K : Int32 → Mm → Prop} (h :
  (if x2 < x3 then
   SS G m_Mo_shareOf 49 [vr 7 0, vi x1, vi x2, vi ((μ.1 7 0 10) - 1), un, un, un, un, un] [] μ (RI K)
  else
   (CS G m_Mo_sharedAt [vi (μ.1 7 0 10), vi x3] μ (RI fun v1 μ1 =>
    (if x3 = 0 then
     (vp_in v1 3006 ∧
      SS G m_Mo_shareOf 8 [vr 7 0, vi x1, vi x2, vi (x3 + 1), un, un, un, un, un] [] (wI μ1 47 0 v1.toNatClampNeg 0) (RI K))
    else
     (vp_in v1 3006 ∧
      SS G m_Mo_shareOf 8 [vr 7 0, vi x1, vi x2, vi (x3 + 1), un, un, un, un, un] [] (wI μ1 47 0 v1.toNatClampNeg 100000000) (RI K))))))) :
  SS G m_Mo_shareOf 8 [vr 7 0, vi x1, vi x2, vi x3, un, un, un, un, un] [] μ (RI K) :=
  wp_s (M := m_Mo_shareOf) (lk := lk_Mo) (tb := tb_Mo_shareOf_8) (cu := [(8, [true, true, true, true, false, false, false, false, false]), (49, [true, true, true, true, false, false, false, false, false]), (80, [true, true, true, true, true, true, false, false, false]), (93, [true, true, true, true, true, true, true, true, false])]) lk_Mo_ok (by decide +kernel) 20 true _ _ _ _ h
def tb_Mo_shareOf_49 : List En := [e0 49 (.iload_n 3) 1, eT 50 (.ifCond .lt 140) 3 190, e0 53 (.iload_n 1) 1, e0 54 (.iload_n 3) 1, eT 55 (.invokestatic 236) 3 35, eT 58 (.ifCond .eq 16) 3 74, eC 61 (.bipush 99) 2 99, e0 63 (.aload_n 0) 1, e0 64 (.iload_n 3) 1, eT 65 (.invokevirtual 220) 3 30, eT 68 (.invokestatic 169) 3 14, eT 71 (.goto 4) 3 75, eC 74 (.iconst 0) 1 0, e0 75 (.istore 4) 2, eC 77 (.iconst 0) 1 0, e0 78 (.istore 5) 2, e0 190 (.aload_n 0) 1, eF 191 (.getfield 79) 3 7 31, eC 194 (.iconst 0) 1 0, e0 195 (.iload_n 2) 1, eT 196 (.invokestatic 243) 3 37, e0 199 .iaload 1, e0 200 .ireturn 1]
set_option maxRecDepth 100000 in
theorem b_Mo_shareOf_49 {G : Ge} (x1 : Int32) (x2 : Int32) (x3 : Int32) {μ : Mm} {K : Int32 → Mm → Prop} (h :
  (if x3 < 0 then
   (CS G m_Mo_sharedAt [vi 0, vi x2] μ (RI fun v1 μ1 =>
    (vp_in v1 3006 ∧
     K (μ1.1 47 0 v1.toNatClampNeg) μ1)))
  else
   (CS G m_Mo_has [vi x1, vi x3] μ (RI fun v2 μ2 =>
    (if v2 = 0 then
     SS G m_Mo_shareOf 80 [vr 7 0, vi x1, vi x2, vi x3, vi 0, vi 0, un, un, un] [] μ2 (RI K)
    else
     (CS G m_Mo_mostOf [vr 7 0, vi x3] μ2 (RI fun v3 μ3 =>
      (CS G m_Mo_lesser [vi 99, vi v3] μ3 (RI fun v4 μ4 =>
       SS G m_Mo_shareOf 80 [vr 7 0, vi x1, vi x2, vi x3, vi v4, vi 0, un, un, un] [] μ4 (RI K)))))))))) :
  SS G m_Mo_shareOf 49 [vr 7 0, vi x1, vi x2, vi x3, un, un, un, un, un] [] μ (RI K) :=
  wp_s (M := m_Mo_shareOf) (lk := lk_Mo) (tb := tb_Mo_shareOf_49) (cu := [(8, [true, true, true, true, false, false, false, false, false]), (49, [true, true, true, true, false, false, false, false, false]), (80, [true, true, true, true, true, true, false, false, false]), (93, [true, true, true, true, true, true, true, true, false])]) lk_Mo_ok (by decide +kernel) 19 true _ _ _ _ h
def tb_Mo_shareOf_80 : List En := [e0 80 (.iload 5) 2, e0 82 (.iload_n 2) 1, eT 83 (.if_icmp .gt 101) 3 184, eC 86 (.ldc 215) 2 100000000, e0 88 (.istore 6) 2, eC 90 (.iconst 0) 1 0, e0 91 (.istore 7) 2, eC 184 (.iinc 3 (-1)) 3 (-1), eT 187 (.goto (-138)) 3 49]
set_option maxRecDepth 100000 in
theorem b_Mo_shareOf_80 {G : Ge} (x1 : Int32) (x2 : Int32) (x3 : Int32) (x4 : Int32) (x5 : Int32) {μ : Mm} {K : Int32 → Mm → Prop} (h :
  (if x2 < x5 then
   SS G m_Mo_shareOf 49 [vr 7 0, vi x1, vi x2, vi (x3 + (-1)), un, un, un, un, un] [] μ (RI K)
  else
   SS G m_Mo_shareOf 93 [vr 7 0, vi x1, vi x2, vi x3, vi x4, vi x5, vi 100000000, vi 0, un] [] μ (RI K))) :
  SS G m_Mo_shareOf 80 [vr 7 0, vi x1, vi x2, vi x3, vi x4, vi x5, un, un, un] [] μ (RI K) :=
  wp_s (M := m_Mo_shareOf) (lk := lk_Mo) (tb := tb_Mo_shareOf_80) (cu := [(8, [true, true, true, true, false, false, false, false, false]), (49, [true, true, true, true, false, false, false, false, false]), (80, [true, true, true, true, true, true, false, false, false]), (93, [true, true, true, true, true, true, true, true, false])]) lk_Mo_ok (by decide +kernel) 11 true _ _ _ _ h
def tb_Mo_shareOf_93 : List En := [e0 93 (.iload 7) 2, e0 95 (.iload 4) 2, eT 97 (.if_icmp .gt 63) 3 160, e0 100 (.iload 7) 2, e0 102 (.iload 5) 2, eT 104 (.if_icmp .gt 56) 3 160, e0 107 (.iload_n 1) 1, e0 108 (.iload_n 3) 1, eT 109 (.invokestatic 236) 3 35, eT 112 (.ifCond .eq 13) 3 125, e0 115 (.aload_n 0) 1, e0 116 (.iload_n 3) 1, e0 117 (.iload 7) 2, eT 119 (.invokevirtual 230) 3 33, eT 122 (.goto 4) 3 126, eC 125 (.iconst 0) 1 0, e0 126 (.istore 8) 2, e0 128 (.iload 6) 2, e0 130 (.iload 8) 2, e0 132 (.aload_n 0) 1, eF 133 (.getfield 79) 3 7 31, e0 136 (.iload_n 3) 1, eC 137 (.iconst 1) 1 1, e0 138 .iadd 1, e0 139 (.iload 5) 2, e0 141 (.iload 7) 2, e0 143 .isub 1, eT 144 (.invokestatic 243) 3 37, e0 147 .iaload 1, e0 148 .iadd 1, eT 149 (.invokestatic 169) 3 14, e0 152 (.istore 6) 2, eC 154 (.iinc 7 1) 3 1, eT 157 (.goto (-64)) 3 93, e0 160 (.aload_n 0) 1, eF 161 (.getfield 79) 3 7 31, e0 164 (.iload_n 3) 1, e0 165 (.iload 5) 2, eT 167 (.invokestatic 243) 3 37, eC 170 (.ldc 215) 2 100000000, e0 172 (.iload 6) 2, eT 174 (.invokestatic 169) 3 14, e0 177 .iastore 1, eC 178 (.iinc 5 1) 3 1, eT 181 (.goto (-101)) 3 80]
set_option maxRecDepth 100000 in
theorem b_Mo_shareOf_93 {G : Ge} (x1 : Int32) (x2 : Int32) (x3 : Int32) (x4 : Int32) (x5 : Int32) (x6 : Int32) (x7 : Int32) {μ : Mm} {K : Int32 → Mm → Prop} (h :
  (if x4 < x7 then
   (CS G m_Mo_sharedAt [vi x3, vi x5] μ (RI fun v1 μ1 =>
    (CS G m_Mo_lesser [vi 100000000, vi x6] μ1 (RI fun v2 μ2 =>
     (vp_in v1 3006 ∧
      SS G m_Mo_shareOf 80 [vr 7 0, vi x1, vi x2, vi x3, vi x4, vi (x5 + 1), un, un, un] [] (wI μ2 47 0 v1.toNatClampNeg v2) (RI K))))))
  else
   (if x5 < x7 then
    (CS G m_Mo_sharedAt [vi x3, vi x5] μ (RI fun v3 μ3 =>
     (CS G m_Mo_lesser [vi 100000000, vi x6] μ3 (RI fun v4 μ4 =>
      (vp_in v3 3006 ∧
       SS G m_Mo_shareOf 80 [vr 7 0, vi x1, vi x2, vi x3, vi x4, vi (x5 + 1), un, un, un] [] (wI μ4 47 0 v3.toNatClampNeg v4) (RI K))))))
   else
    (CS G m_Mo_has [vi x1, vi x3] μ (RI fun v5 μ5 =>
     (if v5 = 0 then
      (CS G m_Mo_sharedAt [vi (x3 + 1), vi (x5 - x7)] μ5 (RI fun v6 μ6 =>
       (vp_in v6 3006 ∧
        (CS G m_Mo_lesser [vi x6, vi (0 + (μ6.1 47 0 v6.toNatClampNeg))] μ6 (RI fun v7 μ7 =>
         SS G m_Mo_shareOf 93 [vr 7 0, vi x1, vi x2, vi x3, vi x4, vi x5, vi v7, vi (x7 + 1), un] [] μ7 (RI K))))))
     else
      (CS G m_Mo_leastOf [vr 7 0, vi x3, vi x7] μ5 (RI fun v8 μ8 =>
       (CS G m_Mo_sharedAt [vi (x3 + 1), vi (x5 - x7)] μ8 (RI fun v9 μ9 =>
        (vp_in v9 3006 ∧
         (CS G m_Mo_lesser [vi x6, vi (v8 + (μ9.1 47 0 v9.toNatClampNeg))] μ9 (RI fun v10 μ10 =>
          SS G m_Mo_shareOf 93 [vr 7 0, vi x1, vi x2, vi x3, vi x4, vi x5, vi v10, vi (x7 + 1), un] [] μ10 (RI K)))))))))))))) :
  SS G m_Mo_shareOf 93 [vr 7 0, vi x1, vi x2, vi x3, vi x4, vi x5, vi x6, vi x7, un] [] μ (RI K) :=
  wp_s (M := m_Mo_shareOf) (lk := lk_Mo) (tb := tb_Mo_shareOf_93) (cu := [(8, [true, true, true, true, false, false, false, false, false]), (49, [true, true, true, true, false, false, false, false, false]), (80, [true, true, true, true, true, true, false, false, false]), (93, [true, true, true, true, true, true, true, true, false])]) lk_Mo_ok (by decide +kernel) 37 true _ _ _ _ h
def tc_Mo_share : List En := [e0 0 (.iload_n 1) 1, eT 1 (.invokestatic 109) 3 1, eT 4 (.ifCond .ne 5) 3 9, eC 7 (.iconst (-1)) 1 (-1), e0 8 .ireturn 1, e0 9 (.aload_n 0) 1, eF 10 (.getfield 154) 3 7 10, eT 13 (.ifCond .ne 6) 3 19, eC 16 (.bipush (-4)) 2 (-4), e0 18 .ireturn 1, e0 19 (.aload_n 0) 1, eT 20 (.invokevirtual 227) 3 32, e0 23 (.aload_n 0) 1, e0 24 (.aload_n 0) 1, eT 25 (.invokevirtual 246) 3 38, eT 28 (.invokevirtual 250) 3 39, e0 31 (.istore_n 2) 1, e0 32 (.iload_n 2) 1, eC 33 (.ldc 215) 2 100000000, eT 35 (.if_icmp .ne 6) 3 41, eC 38 (.bipush (-9)) 2 (-9), e0 40 .ireturn 1, e0 41 (.aload_n 0) 1, e0 42 (.aload_n 0) 1, eT 43 (.invokevirtual 246) 3 38, eT 46 (.invokevirtual 240) 3 36, e0 49 (.istore_n 3) 1, eC 50 (.iconst 0) 1 0, e0 51 (.istore 4) 2]
set_option maxRecDepth 100000 in
theorem c_Mo_share {G : Ge} (x1 : Int32) {μ : Mm} {K : Int32 → Mm → Prop} (h :
  (CS G m_Mo_isRow [vi x1] μ (RI fun v1 μ1 =>
   (if v1 = 0 then
    K (-1) μ1
   else
    (if (μ1.1 7 0 10) = 0 then
     K (-4) μ1
    else
     (CS G m_Mo_layLeasts [vr 7 0] μ1 (RV fun μ2 =>
      (CS G m_Mo_everybody [vr 7 0] μ2 (RI fun v3 μ3 =>
       (CS G m_Mo_shareOf [vr 7 0, vi v3] μ3 (RI fun v4 μ4 =>
        (if v4 = 100000000 then
         K (-9) μ4
        else
         (CS G m_Mo_everybody [vr 7 0] μ4 (RI fun v5 μ5 =>
          (CS G m_Mo_owedBy [vr 7 0, vi v5] μ5 (RI fun v6 μ6 =>
           SS G m_Mo_share 53 [vr 7 0, vi x1, vi v4, vi v6, vi 0, un] [] μ6 (RI K))))))))))))))))) :
  CS G m_Mo_share [vr 7 0, vi x1] μ (RI K) :=
  CS_of pf_Mo_share (Nat.le_of_ble_eq_true rfl) (show SS G m_Mo_share 0 [vr 7 0, vi x1, un, un, un, un] [] μ (RI K) from wp_s (M := m_Mo_share) (lk := lk_Mo) (tb := tc_Mo_share) (cu := [(53, [true, true, true, true, true, false]), (65, [true, true, true, true, true, true])]) lk_Mo_ok (by decide +kernel) 27 true 0 _ _ _ h)
def tb_Mo_share_53 : List En := [e0 53 (.iload 4) 2, e0 55 (.aload_n 0) 1, eF 56 (.getfield 154) 3 7 10, eT 59 (.if_icmp .ge 71) 3 130, eC 62 (.iconst 0) 1 0, e0 63 (.istore 5) 2, e0 130 (.aload_n 0) 1, e0 131 (.iload_n 1) 1, e0 132 (.aload_n 0) 1, eF 133 (.getfield 82) 3 7 32, e0 136 (.aload_n 0) 1, eF 137 (.getfield 154) 3 7 10, eT 140 (.invokevirtual 223) 3 31, e0 143 (.iload_n 2) 1, e0 144 .ireturn 1]
set_option maxRecDepth 100000 in
theorem b_Mo_share_53 {G : Ge} (x1 : Int32) (x2 : Int32) (x3 : Int32) (x4 : Int32) {μ : Mm} {K : Int32 → Mm → Prop} (h :
  (if (μ.1 7 0 10) ≤ x4 then
   (CS G m_Mo_layRow [vr 7 0, vi x1, vr 48 0, vi (μ.1 7 0 10)] μ (RV fun μ1 =>
    K x2 μ1))
  else
   SS G m_Mo_share 65 [vr 7 0, vi x1, vi x2, vi x3, vi x4, vi 0] [] μ (RI K))) :
  SS G m_Mo_share 53 [vr 7 0, vi x1, vi x2, vi x3, vi x4, un] [] μ (RI K) :=
  wp_s (M := m_Mo_share) (lk := lk_Mo) (tb := tb_Mo_share_53) (cu := [(53, [true, true, true, true, true, false]), (65, [true, true, true, true, true, true])]) lk_Mo_ok (by decide +kernel) 16 true _ _ _ _ h
def tb_Mo_share_65 : List En := [e0 65 (.aload_n 0) 1, e0 66 (.iload 4) 2, e0 68 (.iload 5) 2, eT 70 (.invokevirtual 230) 3 33, e0 73 (.aload_n 0) 1, eF 74 (.getfield 79) 3 7 31, e0 77 (.iload 4) 2, eC 79 (.iconst 1) 1 1, e0 80 .iadd 1, e0 81 (.iload_n 3) 1, e0 82 (.iload 5) 2, e0 84 .isub 1, eT 85 (.invokestatic 243) 3 37, e0 88 .iaload 1, e0 89 .iadd 1, e0 90 (.aload_n 0) 1, eF 91 (.getfield 79) 3 7 31, e0 94 (.iload 4) 2, e0 96 (.iload_n 3) 1, eT 97 (.invokestatic 243) 3 37, e0 100 .iaload 1, eT 101 (.if_icmp .eq 9) 3 110, eC 104 (.iinc 5 1) 3 1, eT 107 (.goto (-42)) 3 65, e0 110 (.aload_n 0) 1, eF 111 (.getfield 82) 3 7 32, e0 114 (.iload 4) 2, e0 116 (.iload 5) 2, e0 118 .iastore 1, e0 119 (.iload_n 3) 1, e0 120 (.iload 5) 2, e0 122 .isub 1, e0 123 (.istore_n 3) 1, eC 124 (.iinc 4 1) 3 1, eT 127 (.goto (-74)) 3 53]
set_option maxRecDepth 100000 in
theorem b_Mo_share_65 {G : Ge} (x1 : Int32) (x2 : Int32) (x3 : Int32) (x4 : Int32) (x5 : Int32) {μ : Mm} {K : Int32 → Mm → Prop} (h :
  (CS G m_Mo_leastOf [vr 7 0, vi x4, vi x5] μ (RI fun v1 μ1 =>
   (CS G m_Mo_sharedAt [vi (x4 + 1), vi (x3 - x5)] μ1 (RI fun v2 μ2 =>
    (vp_in v2 3006 ∧
     (CS G m_Mo_sharedAt [vi x4, vi x3] μ2 (RI fun v3 μ3 =>
      (vp_in v3 3006 ∧
       (if (v1 + (μ2.1 47 0 v2.toNatClampNeg)) = (μ3.1 47 0 v3.toNatClampNeg) then
        (vp_in x4 5 ∧
         SS G m_Mo_share 53 [vr 7 0, vi x1, vi x2, vi (x3 - x5), vi (x4 + 1), un] [] (wI μ3 48 0 x4.toNatClampNeg x5) (RI K))
       else
        SS G m_Mo_share 65 [vr 7 0, vi x1, vi x2, vi x3, vi x4, vi (x5 + 1)] [] μ3 (RI K))))))))))) :
  SS G m_Mo_share 65 [vr 7 0, vi x1, vi x2, vi x3, vi x4, vi x5] [] μ (RI K) :=
  wp_s (M := m_Mo_share) (lk := lk_Mo) (tb := tb_Mo_share_65) (cu := [(53, [true, true, true, true, true, false]), (65, [true, true, true, true, true, true])]) lk_Mo_ok (by decide +kernel) 37 true _ _ _ _ h
def tc_Mo_byThemselves : List En := [eC 0 (.iconst 0) 1 0, e0 1 (.istore_n 2) 1, eC 2 (.iconst 0) 1 0, e0 3 (.istore_n 3) 1]
set_option maxRecDepth 100000 in
theorem c_Mo_byThemselves {G : Ge} (x1 : Int32) {μ : Mm} {K : Int32 → Mm → Prop} (h :
  SS G m_Mo_byThemselves 4 [vr 7 0, vi x1, vi 0, vi 0] [] μ (RI K)) :
  CS G m_Mo_byThemselves [vr 7 0, vi x1] μ (RI K) :=
  CS_of pf_Mo_byThemselves (Nat.le_of_ble_eq_true rfl) (show SS G m_Mo_byThemselves 0 [vr 7 0, vi x1, un, un] [] μ (RI K) from wp_s (M := m_Mo_byThemselves) (lk := lk_Mo) (tb := tc_Mo_byThemselves) (cu := [(4, [true, true, true, true])]) lk_Mo_ok (by decide +kernel) 8 true 0 _ _ _ h)
def tb_Mo_byThemselves_4 : List En := [e0 4 (.iload_n 3) 1, e0 5 (.aload_n 0) 1, eF 6 (.getfield 154) 3 7 10, eT 9 (.if_icmp .ge 35) 3 44, e0 12 (.iload_n 2) 1, e0 13 (.iload_n 1) 1, e0 14 (.iload_n 3) 1, eT 15 (.invokestatic 236) 3 35, eT 18 (.ifCond .eq 17) 3 35, e0 21 (.aload_n 0) 1, e0 22 (.iload_n 3) 1, e0 23 (.aload_n 0) 1, eF 24 (.getfield 48) 3 7 20, e0 27 (.iload_n 3) 1, e0 28 .iaload 1, eT 29 (.invokevirtual 230) 3 33, eT 32 (.goto 4) 3 36, eC 35 (.iconst 0) 1 0, e0 36 .iadd 1, e0 37 (.istore_n 2) 1, eC 38 (.iinc 3 1) 3 1, eT 41 (.goto (-37)) 3 4, eC 44 (.ldc 215) 2 100000000, e0 46 (.iload_n 2) 1, eT 47 (.invokestatic 169) 3 14, e0 50 .ireturn 1]
set_option maxRecDepth 100000 in
theorem b_Mo_byThemselves_4 {G : Ge} (x1 : Int32) (x2 : Int32) (x3 : Int32) {μ : Mm} {K : Int32 → Mm → Prop} (h :
  (if (μ.1 7 0 10) ≤ x3 then
   (CS G m_Mo_lesser [vi 100000000, vi x2] μ (RI fun v1 μ1 =>
    K v1 μ1))
  else
   (CS G m_Mo_has [vi x1, vi x3] μ (RI fun v2 μ2 =>
    (if v2 = 0 then
     SS G m_Mo_byThemselves 4 [vr 7 0, vi x1, vi (x2 + 0), vi (x3 + 1)] [] μ2 (RI K)
    else
     (vp_in x3 16 ∧
      (CS G m_Mo_leastOf [vr 7 0, vi x3, vi (μ2.1 37 0 x3.toNatClampNeg)] μ2 (RI fun v3 μ3 =>
       SS G m_Mo_byThemselves 4 [vr 7 0, vi x1, vi (x2 + v3), vi (x3 + 1)] [] μ3 (RI K))))))))) :
  SS G m_Mo_byThemselves 4 [vr 7 0, vi x1, vi x2, vi x3] [] μ (RI K) :=
  wp_s (M := m_Mo_byThemselves) (lk := lk_Mo) (tb := tb_Mo_byThemselves_4) (cu := [(4, [true, true, true, true])]) lk_Mo_ok (by decide +kernel) 25 true _ _ _ _ h
def tc_Mo_savesOf : List En := [e0 0 (.aload_n 0) 1, e0 1 (.iload_n 1) 1, eT 2 (.invokevirtual 253) 3 40, e0 5 (.istore_n 2) 1, e0 6 (.iload_n 2) 1, eC 7 (.ldc 215) 2 100000000, eT 9 (.if_icmp .ne 8) 3 17, eC 12 (.bipush (-9)) 2 (-9), eT 14 (.goto 10) 3 24, e0 17 (.iload_n 2) 1, e0 18 (.aload_n 0) 1, e0 19 (.iload_n 1) 1, eT 20 (.invokevirtual 250) 3 39, e0 23 .isub 1, e0 24 .ireturn 1]
set_option maxRecDepth 100000 in
theorem c_Mo_savesOf {G : Ge} (x1 : Int32) {μ : Mm} {K : Int32 → Mm → Prop} (h :
  (CS G m_Mo_byThemselves [vr 7 0, vi x1] μ (RI fun v1 μ1 =>
   (if v1 = 100000000 then
    K (-9) μ1
   else
    (CS G m_Mo_shareOf [vr 7 0, vi x1] μ1 (RI fun v2 μ2 =>
     K (v1 - v2) μ2)))))) :
  CS G m_Mo_savesOf [vr 7 0, vi x1] μ (RI K) :=
  CS_of pf_Mo_savesOf (Nat.le_of_ble_eq_true rfl) (show SS G m_Mo_savesOf 0 [vr 7 0, vi x1, un] [] μ (RI K) from wp_s (M := m_Mo_savesOf) (lk := lk_Mo) (tb := tc_Mo_savesOf) (cu := []) lk_Mo_ok (by decide +kernel) 16 true 0 _ _ _ h)
def tc_Mo_saves : List En := [e0 0 (.iload_n 1) 1, eC 1 (.iconst 0) 1 0, e0 2 (.aload_n 0) 1, eT 3 (.invokevirtual 246) 3 38, eT 6 (.invokestatic 99) 3 0, eT 9 (.ifCond .ne 5) 3 14, eC 12 (.iconst (-1)) 1 (-1), e0 13 .ireturn 1, e0 14 (.aload_n 0) 1, eT 15 (.invokevirtual 227) 3 32, e0 18 (.aload_n 0) 1, e0 19 (.iload_n 1) 1, eT 20 (.invokevirtual 256) 3 41, e0 23 .ireturn 1]
set_option maxRecDepth 100000 in
theorem c_Mo_saves {G : Ge} (x1 : Int32) {μ : Mm} {K : Int32 → Mm → Prop} (h :
  (CS G m_Mo_everybody [vr 7 0] μ (RI fun v1 μ1 =>
   (CS G m_Mo_in [vi x1, vi 0, vi v1] μ1 (RI fun v2 μ2 =>
    (if v2 = 0 then
     K (-1) μ2
    else
     (CS G m_Mo_layLeasts [vr 7 0] μ2 (RV fun μ3 =>
      (CS G m_Mo_savesOf [vr 7 0, vi x1] μ3 (RI fun v4 μ4 =>
       K v4 μ4)))))))))) :
  CS G m_Mo_saves [vr 7 0, vi x1] μ (RI K) :=
  CS_of pf_Mo_saves (Nat.le_of_ble_eq_true rfl) (show SS G m_Mo_saves 0 [vr 7 0, vi x1] [] μ (RI K) from wp_s (M := m_Mo_saves) (lk := lk_Mo) (tb := tc_Mo_saves) (cu := []) lk_Mo_ok (by decide +kernel) 15 true 0 _ _ _ h)
def tc_Mo_bits : List En := [eC 0 (.iconst 0) 1 0, e0 1 (.istore_n 1) 1, e0 2 (.iload_n 0) 1, e0 3 (.istore_n 2) 1]
set_option maxRecDepth 100000 in
theorem c_Mo_bits {G : Ge} (x0 : Int32) {μ : Mm} {K : Int32 → Mm → Prop} (h :
  SS G m_Mo_bits 4 [un, vi 0, vi x0] [] μ (RI K)) :
  CS G m_Mo_bits [vi x0] μ (RI K) :=
  CS_of pf_Mo_bits (Nat.le_of_ble_eq_true rfl) (show SS G m_Mo_bits 0 [vi x0, un, un] [] μ (RI K) from wp_s (M := m_Mo_bits) (lk := lk_Mo) (tb := tc_Mo_bits) (cu := [(4, [false, true, true])]) lk_Mo_ok (by decide +kernel) 8 true 0 _ _ _ h)
def tb_Mo_bits_4 : List En := [e0 4 (.iload_n 2) 1, eT 5 (.ifCond .eq 15) 3 20, eC 8 (.iinc 1 1) 3 1, e0 11 (.iload_n 2) 1, e0 12 (.iload_n 2) 1, eC 13 (.iconst 1) 1 1, e0 14 .isub 1, e0 15 .iand 1, e0 16 (.istore_n 2) 1, eT 17 (.goto (-13)) 3 4, e0 20 (.iload_n 1) 1, e0 21 .ireturn 1]
set_option maxRecDepth 100000 in
theorem b_Mo_bits_4 {G : Ge} (x1 : Int32) (x2 : Int32) {μ : Mm} {K : Int32 → Mm → Prop} (h :
  (if x2 = 0 then
   K x1 μ
  else
   SS G m_Mo_bits 4 [un, vi (x1 + 1), vi (x2 &&& (x2 - 1))] [] μ (RI K))) :
  SS G m_Mo_bits 4 [un, vi x1, vi x2] [] μ (RI K) :=
  wp_s (M := m_Mo_bits) (lk := lk_Mo) (tb := tb_Mo_bits_4) (cu := [(4, [false, true, true])]) lk_Mo_ok (by decide +kernel) 14 true _ _ _ _ h
def tc_Mo_times : List En := [eC 0 (.iconst 1) 1 1, e0 1 (.istore_n 1) 1, eC 2 (.iconst 2) 1 2, e0 3 (.istore_n 2) 1]
set_option maxRecDepth 100000 in
theorem c_Mo_times {G : Ge} (x0 : Int32) {μ : Mm} {K : Int32 → Mm → Prop} (h :
  SS G m_Mo_times 4 [vi x0, vi 1, vi 2] [] μ (RI K)) :
  CS G m_Mo_times [vi x0] μ (RI K) :=
  CS_of pf_Mo_times (Nat.le_of_ble_eq_true rfl) (show SS G m_Mo_times 0 [vi x0, un, un] [] μ (RI K) from wp_s (M := m_Mo_times) (lk := lk_Mo) (tb := tc_Mo_times) (cu := [(4, [true, true, true])]) lk_Mo_ok (by decide +kernel) 8 true 0 _ _ _ h)
def tb_Mo_times_4 : List En := [e0 4 (.iload_n 2) 1, e0 5 (.iload_n 0) 1, eT 6 (.if_icmp .gt 13) 3 19, e0 9 (.iload_n 1) 1, e0 10 (.iload_n 2) 1, e0 11 .imul 1, e0 12 (.istore_n 1) 1, eC 13 (.iinc 2 1) 3 1, eT 16 (.goto (-12)) 3 4, e0 19 (.iload_n 1) 1, e0 20 .ireturn 1]
set_option maxRecDepth 100000 in
theorem b_Mo_times_4 {G : Ge} (x0 : Int32) (x1 : Int32) (x2 : Int32) {μ : Mm} {K : Int32 → Mm → Prop} (h :
  (if x0 < x2 then
   K x1 μ
  else
   SS G m_Mo_times 4 [vi x0, vi (x1 * x2), vi (x2 + 1)] [] μ (RI K))) :
  SS G m_Mo_times 4 [vi x0, vi x1, vi x2] [] μ (RI K) :=
  wp_s (M := m_Mo_times) (lk := lk_Mo) (tb := tb_Mo_times_4) (cu := [(4, [true, true, true])]) lk_Mo_ok (by decide +kernel) 13 true _ _ _ _ h
def tc_Mo_fraction : List En := [e0 0 (.lload_n 1) 1, eD 1 (.lconst 0) 1 0, e0 2 .lcmp 1, eT 3 (.ifCond .ge 8) 3 11, e0 6 (.lload_n 1) 1, e0 7 .lneg 1, eT 8 (.goto 4) 3 12, e0 11 (.lload_n 1) 1, e0 12 (.lstore 5) 2, e0 14 (.lload_n 3) 1, e0 15 (.lstore 7) 2]
set_option maxRecDepth 100000 in
theorem c_Mo_fraction {G : Ge} (l1 : Int64) (l3 : Int64) {μ : Mm} {K : Int32 → Mm → Prop} (h :
  (if 0 ≤ (lg_cmp l1 0) then
   SS G m_Mo_fraction 17 [vr 7 0, vl l1, un, vl l3, un, vl l1, un, vl l3, un, un, un] [] μ (RI K)
  else
   SS G m_Mo_fraction 17 [vr 7 0, vl l1, un, vl l3, un, vl (-l1), un, vl l3, un, un, un] [] μ (RI K))) :
  CS G m_Mo_fraction [vr 7 0, vl l1, vl l3] μ (RI K) :=
  CS_of pf_Mo_fraction (Nat.le_of_ble_eq_true rfl) (show SS G m_Mo_fraction 0 [vr 7 0, vl l1, un, vl l3, un, un, un, un, un, un, un] [] μ (RI K) from wp_s (M := m_Mo_fraction) (lk := lk_Mo) (tb := tc_Mo_fraction) (cu := [(17, [true, true, false, true, false, true, false, true, false, false, false])]) lk_Mo_ok (by decide +kernel) 14 true 0 _ _ _ h)
def tb_Mo_fraction_17 : List En := [e0 17 (.lload 7) 2, eD 19 (.lconst 0) 1 0, e0 20 .lcmp 1, eT 21 (.ifCond .eq 21) 3 42, e0 24 (.lload 5) 2, e0 26 (.lload 7) 2, e0 28 .lrem 1, e0 29 (.lstore 9) 2, e0 31 (.lload 7) 2, e0 33 (.lstore 5) 2, e0 35 (.lload 9) 2, e0 37 (.lstore 7) 2, eT 39 (.goto (-22)) 3 17, e0 42 (.aload_n 0) 1, e0 43 (.lload_n 1) 1, e0 44 (.lload 5) 2, e0 46 .ldiv 1, eF 47 (.putfield 106) 3 7 3, e0 50 (.aload_n 0) 1, e0 51 (.lload_n 3) 1, e0 52 (.lload 5) 2, e0 54 .ldiv 1, eF 55 (.putfield 13) 3 7 4, eC 58 (.iconst 1) 1 1, e0 59 .ireturn 1]
set_option maxRecDepth 100000 in
theorem b_Mo_fraction_17 {G : Ge} (l1 : Int64) (l3 : Int64) (l5 : Int64) (l7 : Int64) {μ : Mm} {K : Int32 → Mm → Prop} (h :
  (if (lg_cmp l7 0) = 0 then
   (¬ (l5 : Int64) = 0 ∧
    (¬ (l5 : Int64) = 0 ∧
     K 1 (wL (wL μ 7 0 3 (l1 / l5)) 7 0 4 (l3 / l5))))
  else
   (¬ (l7 : Int64) = 0 ∧
    SS G m_Mo_fraction 17 [vr 7 0, vl l1, un, vl l3, un, vl l7, un, vl (l5 - l5 / l7 * l7), un, un, un] [] μ (RI K)))) :
  SS G m_Mo_fraction 17 [vr 7 0, vl l1, un, vl l3, un, vl l5, un, vl l7, un, un, un] [] μ (RI K) :=
  wp_s (M := m_Mo_fraction) (lk := lk_Mo) (tb := tb_Mo_fraction_17) (cu := [(17, [true, true, false, true, false, true, false, true, false, false, false])]) lk_Mo_ok (by decide +kernel) 19 true _ _ _ _ h
def tc_Mo_part : List En := [e0 0 (.aload_n 0) 1, e0 1 (.iload_n 1) 1, eT 2 (.invokevirtual 188) 3 20, eT 5 (.ifCond .ne 5) 3 10, eC 8 (.iconst (-1)) 1 (-1), e0 9 .ireturn 1, e0 10 (.aload_n 0) 1, eT 11 (.invokevirtual 227) 3 32, e0 14 (.aload_n 0) 1, e0 15 (.aload_n 0) 1, eT 16 (.invokevirtual 246) 3 38, eT 19 (.invokevirtual 253) 3 40, eC 22 (.ldc 215) 2 100000000, eT 24 (.if_icmp .ne 6) 3 30, eC 27 (.bipush (-9)) 2 (-9), e0 29 .ireturn 1, eD 30 (.lconst 0) 1 0, e0 31 (.lstore_n 2) 1, eC 32 (.iconst 0) 1 0, e0 33 (.istore 4) 2]
set_option maxRecDepth 100000 in
theorem c_Mo_part {G : Ge} (x1 : Int32) {μ : Mm} {K : Int32 → Mm → Prop} (h :
  (CS G m_Mo_isHouse [vr 7 0, vi x1] μ (RI fun v1 μ1 =>
   (if v1 = 0 then
    K (-1) μ1
   else
    (CS G m_Mo_layLeasts [vr 7 0] μ1 (RV fun μ2 =>
     (CS G m_Mo_everybody [vr 7 0] μ2 (RI fun v3 μ3 =>
      (CS G m_Mo_byThemselves [vr 7 0, vi v3] μ3 (RI fun v4 μ4 =>
       (if v4 = 100000000 then
        K (-9) μ4
       else
        SS G m_Mo_part 35 [vr 7 0, vi x1, vl 0, un, vi 0, un] [] μ4 (RI K)))))))))))) :
  CS G m_Mo_part [vr 7 0, vi x1] μ (RI K) :=
  CS_of pf_Mo_part (Nat.le_of_ble_eq_true rfl) (show SS G m_Mo_part 0 [vr 7 0, vi x1, un, un, un, un] [] μ (RI K) from wp_s (M := m_Mo_part) (lk := lk_Mo) (tb := tc_Mo_part) (cu := [(35, [true, true, true, false, true, false])]) lk_Mo_ok (by decide +kernel) 20 true 0 _ _ _ h)
def tb_Mo_part_35 : List En := [e0 35 (.iload 4) 2, e0 37 (.aload_n 0) 1, eT 38 (.invokevirtual 246) 3 38, eT 41 (.if_icmp .gt 69) 3 110, e0 44 (.iload 4) 2, e0 46 (.iload_n 1) 1, eT 47 (.invokestatic 236) 3 35, eT 50 (.ifCond .ne 54) 3 104, e0 53 (.iload 4) 2, eT 55 (.invokestatic 259) 3 42, eT 58 (.invokestatic 262) 3 43, e0 61 (.aload_n 0) 1, eF 62 (.getfield 154) 3 7 10, eC 65 (.iconst 1) 1 1, e0 66 .isub 1, e0 67 (.iload 4) 2, eT 69 (.invokestatic 259) 3 42, e0 72 .isub 1, eT 73 (.invokestatic 262) 3 43, e0 76 .imul 1, e0 77 (.istore 5) 2, e0 79 (.lload_n 2) 1, e0 80 (.iload 5) 2, e0 82 .i2l 1, e0 83 (.aload_n 0) 1, e0 84 (.iload 4) 2, eC 86 (.iconst 1) 1 1, e0 87 (.iload_n 1) 1, e0 88 .ishl 1, e0 89 .ior 1, eT 90 (.invokevirtual 256) 3 41, e0 93 (.aload_n 0) 1, e0 94 (.iload 4) 2, eT 96 (.invokevirtual 256) 3 41, e0 99 .isub 1, e0 100 .i2l 1, e0 101 .lmul 1, e0 102 .ladd 1, e0 103 (.lstore_n 2) 1, eC 104 (.iinc 4 1) 3 1, eT 107 (.goto (-72)) 3 35, e0 110 (.aload_n 0) 1, e0 111 (.lload_n 2) 1, e0 112 (.aload_n 0) 1, eF 113 (.getfield 154) 3 7 10, eT 116 (.invokestatic 262) 3 43, e0 119 .i2l 1, eT 120 (.invokevirtual 265) 3 44, e0 123 .ireturn 1]
set_option maxRecDepth 100000 in
theorem b_Mo_part_35 {G : Ge} (x1 : Int32) (l2 : Int64) (x4 : Int32) {μ : Mm} {K : Int32 → Mm → Prop} (h :
  (CS G m_Mo_everybody [vr 7 0] μ (RI fun v1 μ1 =>
   (if v1 < x4 then
    (CS G m_Mo_times [vi (μ1.1 7 0 10)] μ1 (RI fun v2 μ2 =>
     (CS G m_Mo_fraction [vr 7 0, vl l2, vl (Int32.toInt64 v2)] μ2 (RI fun v3 μ3 =>
      K v3 μ3))))
   else
    (CS G m_Mo_has [vi x4, vi x1] μ1 (RI fun v4 μ4 =>
     (if v4 = 0 then
      (CS G m_Mo_bits [vi x4] μ4 (RI fun v5 μ5 =>
       (CS G m_Mo_times [vi v5] μ5 (RI fun v6 μ6 =>
        (CS G m_Mo_bits [vi x4] μ6 (RI fun v7 μ7 =>
         (CS G m_Mo_times [vi (((μ6.1 7 0 10) - 1) - v7)] μ7 (RI fun v8 μ8 =>
          (CS G m_Mo_savesOf [vr 7 0, vi (x4 ||| (1 <<< (x1 &&& 31)))] μ8 (RI fun v9 μ9 =>
           (CS G m_Mo_savesOf [vr 7 0, vi x4] μ9 (RI fun v10 μ10 =>
            SS G m_Mo_part 35 [vr 7 0, vi x1, vl (l2 + ((Int32.toInt64 (v6 * v8)) * (Int32.toInt64 (v9 - v10)))), un, vi (x4 + 1), un] [] μ10 (RI K)))))))))))))
     else
      SS G m_Mo_part 35 [vr 7 0, vi x1, vl l2, un, vi (x4 + 1), un] [] μ4 (RI K)))))))) :
  SS G m_Mo_part 35 [vr 7 0, vi x1, vl l2, un, vi x4, un] [] μ (RI K) :=
  wp_s (M := m_Mo_part) (lk := lk_Mo) (tb := tb_Mo_part_35) (cu := [(35, [true, true, true, false, true, false])]) lk_Mo_ok (by decide +kernel) 45 true _ _ _ _ h
def tc_Mo_wayAt : List En := [eC 0 (.bipush 46) 2 46, e0 2 (.iload_n 0) 1, e0 3 .imul 1, e0 4 (.iload_n 1) 1, e0 5 .iadd 1, e0 6 .ireturn 1]
set_option maxRecDepth 100000 in
theorem c_Mo_wayAt {G : Ge} (x0 : Int32) (x1 : Int32) {μ : Mm} {K : Int32 → Mm → Prop} (h :
  K ((46 * x0) + x1) μ) :
  CS G m_Mo_wayAt [vi x0, vi x1] μ (RI K) :=
  CS_of pf_Mo_wayAt (Nat.le_of_ble_eq_true rfl) (show SS G m_Mo_wayAt 0 [vi x0, vi x1] [] μ (RI K) from wp_s (M := m_Mo_wayAt) (lk := lk_Mo) (tb := tc_Mo_wayAt) (cu := []) lk_Mo_ok (by decide +kernel) 9 true 0 _ _ _ h)
def tc_Mo_waysOf : List En := [eC 0 (.iconst 0) 1 0, e0 1 (.istore 4) 2]
set_option maxRecDepth 100000 in
theorem c_Mo_waysOf {G : Ge} (x1 : Int32) (x2 : Int32) (x3 : Int32) {μ : Mm} {K : Int32 → Mm → Prop} (h :
  SS G m_Mo_waysOf 3 [vr 7 0, vi x1, vi x2, vi x3, vi 0, un, un, un, un] [] μ (RI K)) :
  CS G m_Mo_waysOf [vr 7 0, vi x1, vi x2, vi x3] μ (RI K) :=
  CS_of pf_Mo_waysOf (Nat.le_of_ble_eq_true rfl) (show SS G m_Mo_waysOf 0 [vr 7 0, vi x1, vi x2, vi x3, un, un, un, un, un] [] μ (RI K) from wp_s (M := m_Mo_waysOf) (lk := lk_Mo) (tb := tc_Mo_waysOf) (cu := [(3, [true, true, true, true, true, false, false, false, false]), (48, [true, true, true, true, true, false, false, false, false]), (80, [true, true, true, true, true, true, true, false, false]), (93, [true, true, true, true, true, true, true, true, true])]) lk_Mo_ok (by decide +kernel) 6 true 0 _ _ _ h)
def tb_Mo_waysOf_3 : List En := [e0 3 (.iload 4) 2, eC 5 (.bipush 45) 2 45, eT 7 (.if_icmp .gt 33) 3 40, e0 10 (.aload_n 0) 1, eF 11 (.getfield 85) 3 7 33, e0 14 (.aload_n 0) 1, eF 15 (.getfield 154) 3 7 10, e0 18 (.iload 4) 2, eT 20 (.invokestatic 269) 3 45, e0 23 (.iload 4) 2, eT 25 (.ifCond .ne 7) 3 32, eC 28 (.iconst 1) 1 1, eT 29 (.goto 4) 3 33, eC 32 (.iconst 0) 1 0, e0 33 .iastore 1, eC 34 (.iinc 4 1) 3 1, eT 37 (.goto (-34)) 3 3, e0 40 (.aload_n 0) 1, eF 41 (.getfield 154) 3 7 10, eC 44 (.iconst 1) 1 1, e0 45 .isub 1, e0 46 (.istore 4) 2]
set_option maxRecDepth 100000 in
theorem b_Mo_waysOf_3 {G : Ge} (x1 : Int32) (x2 : Int32) (x3 : Int32) (x4 : Int32) {μ : Mm} {K : Int32 → Mm → Prop} (h :
  (if (45 : Int32) < x4 then
   SS G m_Mo_waysOf 48 [vr 7 0, vi x1, vi x2, vi x3, vi ((μ.1 7 0 10) - 1), un, un, un, un] [] μ (RI K)
  else
   (CS G m_Mo_wayAt [vi (μ.1 7 0 10), vi x4] μ (RI fun v1 μ1 =>
    (if x4 = 0 then
     (vp_in v1 276 ∧
      SS G m_Mo_waysOf 3 [vr 7 0, vi x1, vi x2, vi x3, vi (x4 + 1), un, un, un, un] [] (wI μ1 49 0 v1.toNatClampNeg 1) (RI K))
    else
     (vp_in v1 276 ∧
      SS G m_Mo_waysOf 3 [vr 7 0, vi x1, vi x2, vi x3, vi (x4 + 1), un, un, un, un] [] (wI μ1 49 0 v1.toNatClampNeg 0) (RI K))))))) :
  SS G m_Mo_waysOf 3 [vr 7 0, vi x1, vi x2, vi x3, vi x4, un, un, un, un] [] μ (RI K) :=
  wp_s (M := m_Mo_waysOf) (lk := lk_Mo) (tb := tb_Mo_waysOf_3) (cu := [(3, [true, true, true, true, true, false, false, false, false]), (48, [true, true, true, true, true, false, false, false, false]), (80, [true, true, true, true, true, true, true, false, false]), (93, [true, true, true, true, true, true, true, true, true])]) lk_Mo_ok (by decide +kernel) 20 true _ _ _ _ h
def tb_Mo_waysOf_48 : List En := [e0 48 (.iload 4) 2, eT 50 (.ifCond .lt 111) 3 161, e0 53 (.iload 4) 2, e0 55 (.iload_n 3) 1, eT 56 (.if_icmp .ne 7) 3 63, eC 59 (.iconst 0) 1 0, eT 60 (.goto 15) 3 75, e0 63 (.aload_n 0) 1, e0 64 (.iload 4) 2, e0 66 (.aload_n 0) 1, eF 67 (.getfield 39) 3 7 14, e0 70 (.iload_n 1) 1, e0 71 .iaload 1, eT 72 (.invokevirtual 175) 3 16, e0 75 (.istore 5) 2, eC 77 (.iconst 0) 1 0, e0 78 (.istore 6) 2, e0 161 (.aload_n 0) 1, eF 162 (.getfield 85) 3 7 33, eC 165 (.iconst 0) 1 0, e0 166 (.iload_n 2) 1, eT 167 (.invokestatic 269) 3 45, e0 170 .iaload 1, e0 171 .ireturn 1]
set_option maxRecDepth 100000 in
theorem b_Mo_waysOf_48 {G : Ge} (x1 : Int32) (x2 : Int32) (x3 : Int32) (x4 : Int32) {μ : Mm} {K : Int32 → Mm → Prop} (h :
  (if x4 < 0 then
   (CS G m_Mo_wayAt [vi 0, vi x2] μ (RI fun v1 μ1 =>
    (vp_in v1 276 ∧
     K (μ1.1 49 0 v1.toNatClampNeg) μ1)))
  else
   (if x4 = x3 then
    SS G m_Mo_waysOf 80 [vr 7 0, vi x1, vi x2, vi x3, vi x4, vi 0, vi 0, un, un] [] μ (RI K)
   else
    (vp_in x1 8 ∧
     (CS G m_Mo_canIn [vr 7 0, vi x4, vi (μ.1 34 0 x1.toNatClampNeg)] μ (RI fun v2 μ2 =>
      SS G m_Mo_waysOf 80 [vr 7 0, vi x1, vi x2, vi x3, vi x4, vi v2, vi 0, un, un] [] μ2 (RI K))))))) :
  SS G m_Mo_waysOf 48 [vr 7 0, vi x1, vi x2, vi x3, vi x4, un, un, un, un] [] μ (RI K) :=
  wp_s (M := m_Mo_waysOf) (lk := lk_Mo) (tb := tb_Mo_waysOf_48) (cu := [(3, [true, true, true, true, true, false, false, false, false]), (48, [true, true, true, true, true, false, false, false, false]), (80, [true, true, true, true, true, true, true, false, false]), (93, [true, true, true, true, true, true, true, true, true])]) lk_Mo_ok (by decide +kernel) 19 true _ _ _ _ h
def tb_Mo_waysOf_80 : List En := [e0 80 (.iload 6) 2, eC 82 (.bipush 45) 2 45, eT 84 (.if_icmp .gt 71) 3 155, eC 87 (.iconst 0) 1 0, e0 88 (.istore 7) 2, eC 90 (.iconst 0) 1 0, e0 91 (.istore 8) 2, eC 155 (.iinc 4 (-1)) 3 (-1), eT 158 (.goto (-110)) 3 48]
set_option maxRecDepth 100000 in
theorem b_Mo_waysOf_80 {G : Ge} (x1 : Int32) (x2 : Int32) (x3 : Int32) (x4 : Int32) (x5 : Int32) (x6 : Int32) {μ : Mm} {K : Int32 → Mm → Prop} (h :
  (if (45 : Int32) < x6 then
   SS G m_Mo_waysOf 48 [vr 7 0, vi x1, vi x2, vi x3, vi (x4 + (-1)), un, un, un, un] [] μ (RI K)
  else
   SS G m_Mo_waysOf 93 [vr 7 0, vi x1, vi x2, vi x3, vi x4, vi x5, vi x6, vi 0, vi 0] [] μ (RI K))) :
  SS G m_Mo_waysOf 80 [vr 7 0, vi x1, vi x2, vi x3, vi x4, vi x5, vi x6, un, un] [] μ (RI K) :=
  wp_s (M := m_Mo_waysOf) (lk := lk_Mo) (tb := tb_Mo_waysOf_80) (cu := [(3, [true, true, true, true, true, false, false, false, false]), (48, [true, true, true, true, true, false, false, false, false]), (80, [true, true, true, true, true, true, true, false, false]), (93, [true, true, true, true, true, true, true, true, true])]) lk_Mo_ok (by decide +kernel) 11 true _ _ _ _ h
def tb_Mo_waysOf_93 : List En := [e0 93 (.iload 8) 2, e0 95 (.iload 5) 2, eT 97 (.if_icmp .gt 38) 3 135, e0 100 (.iload 8) 2, e0 102 (.iload 6) 2, eT 104 (.if_icmp .gt 31) 3 135, e0 107 (.iload 7) 2, e0 109 (.aload_n 0) 1, eF 110 (.getfield 85) 3 7 33, e0 113 (.iload 4) 2, eC 115 (.iconst 1) 1 1, e0 116 .iadd 1, e0 117 (.iload 6) 2, e0 119 (.iload 8) 2, e0 121 .isub 1, eT 122 (.invokestatic 269) 3 45, e0 125 .iaload 1, e0 126 .iadd 1, e0 127 (.istore 7) 2, eC 129 (.iinc 8 1) 3 1, eT 132 (.goto (-39)) 3 93, e0 135 (.aload_n 0) 1, eF 136 (.getfield 85) 3 7 33, e0 139 (.iload 4) 2, e0 141 (.iload 6) 2, eT 143 (.invokestatic 269) 3 45, e0 146 (.iload 7) 2, e0 148 .iastore 1, eC 149 (.iinc 6 1) 3 1, eT 152 (.goto (-72)) 3 80]
set_option maxRecDepth 100000 in
theorem b_Mo_waysOf_93 {G : Ge} (x1 : Int32) (x2 : Int32) (x3 : Int32) (x4 : Int32) (x5 : Int32) (x6 : Int32) (x7 : Int32) (x8 : Int32) {μ : Mm} {K : Int32 → Mm → Prop} (h :
  (if x5 < x8 then
   (CS G m_Mo_wayAt [vi x4, vi x6] μ (RI fun v1 μ1 =>
    (vp_in v1 276 ∧
     SS G m_Mo_waysOf 80 [vr 7 0, vi x1, vi x2, vi x3, vi x4, vi x5, vi (x6 + 1), un, un] [] (wI μ1 49 0 v1.toNatClampNeg x7) (RI K))))
  else
   (if x6 < x8 then
    (CS G m_Mo_wayAt [vi x4, vi x6] μ (RI fun v2 μ2 =>
     (vp_in v2 276 ∧
      SS G m_Mo_waysOf 80 [vr 7 0, vi x1, vi x2, vi x3, vi x4, vi x5, vi (x6 + 1), un, un] [] (wI μ2 49 0 v2.toNatClampNeg x7) (RI K))))
   else
    (CS G m_Mo_wayAt [vi (x4 + 1), vi (x6 - x8)] μ (RI fun v3 μ3 =>
     (vp_in v3 276 ∧
      SS G m_Mo_waysOf 93 [vr 7 0, vi x1, vi x2, vi x3, vi x4, vi x5, vi x6, vi (x7 + (μ3.1 49 0 v3.toNatClampNeg)), vi (x8 + 1)] [] μ3 (RI K))))))) :
  SS G m_Mo_waysOf 93 [vr 7 0, vi x1, vi x2, vi x3, vi x4, vi x5, vi x6, vi x7, vi x8] [] μ (RI K) :=
  wp_s (M := m_Mo_waysOf) (lk := lk_Mo) (tb := tb_Mo_waysOf_93) (cu := [(3, [true, true, true, true, true, false, false, false, false]), (48, [true, true, true, true, true, false, false, false, false]), (80, [true, true, true, true, true, true, true, false, false]), (93, [true, true, true, true, true, true, true, true, true])]) lk_Mo_ok (by decide +kernel) 25 true _ _ _ _ h
def tc_Mo_ice : List En := [e0 0 (.aload_n 0) 1, e0 1 (.iload_n 1) 1, eT 2 (.invokevirtual 194) 3 22, eT 5 (.ifCond .eq 13) 3 18, e0 8 (.iload_n 2) 1, eC 9 (.iconst 0) 1 0, eC 10 (.bipush 45) 2 45, eT 12 (.invokestatic 99) 3 0, eT 15 (.ifCond .ne 5) 3 20, eC 18 (.iconst (-1)) 1 (-1), e0 19 .ireturn 1, e0 20 (.aload_n 0) 1, e0 21 (.iload_n 1) 1, e0 22 (.iload_n 2) 1, eC 23 (.bipush (-9)) 2 (-9), eT 25 (.invokevirtual 272) 3 46, e0 28 (.istore_n 3) 1, eC 29 (.iconst 0) 1 0, e0 30 (.istore 4) 2, eC 32 (.iconst 0) 1 0, e0 33 (.istore 5) 2]
set_option maxRecDepth 100000 in
theorem c_Mo_ice {G : Ge} (x1 : Int32) (x2 : Int32) {μ : Mm} {K : Int32 → Mm → Prop} (h :
  (CS G m_Mo_isNight [vr 7 0, vi x1] μ (RI fun v1 μ1 =>
   (if v1 = 0 then
    K (-1) μ1
   else
    (CS G m_Mo_in [vi x2, vi 0, vi 45] μ1 (RI fun v2 μ2 =>
     (if v2 = 0 then
      K (-1) μ2
     else
      (CS G m_Mo_waysOf [vr 7 0, vi x1, vi x2, vi (-9)] μ2 (RI fun v3 μ3 =>
       SS G m_Mo_ice 35 [vr 7 0, vi x1, vi x2, vi v3, vi 0, vi 0] [] μ3 (RI K)))))))))) :
  CS G m_Mo_ice [vr 7 0, vi x1, vi x2] μ (RI K) :=
  CS_of pf_Mo_ice (Nat.le_of_ble_eq_true rfl) (show SS G m_Mo_ice 0 [vr 7 0, vi x1, vi x2, un, un, un] [] μ (RI K) from wp_s (M := m_Mo_ice) (lk := lk_Mo) (tb := tc_Mo_ice) (cu := [(35, [true, true, true, true, true, true])]) lk_Mo_ok (by decide +kernel) 23 true 0 _ _ _ h)
def tb_Mo_ice_35 : List En := [e0 35 (.iload 5) 2, e0 37 (.aload_n 0) 1, eF 38 (.getfield 154) 3 7 10, eT 41 (.if_icmp .ge 37) 3 78, e0 44 (.iload 4) 2, e0 46 (.iload_n 3) 1, eT 47 (.ifCond .le 21) 3 68, e0 50 (.aload_n 0) 1, e0 51 (.iload_n 1) 1, e0 52 (.iload_n 2) 1, e0 53 (.iload 5) 2, eT 55 (.invokevirtual 272) 3 46, eT 58 (.ifCond .ne 10) 3 68, eC 61 (.iconst 1) 1 1, e0 62 (.iload 5) 2, e0 64 .ishl 1, eT 65 (.goto 4) 3 69, eC 68 (.iconst 0) 1 0, e0 69 .ior 1, e0 70 (.istore 4) 2, eC 72 (.iinc 5 1) 3 1, eT 75 (.goto (-40)) 3 35, e0 78 (.aload_n 0) 1, e0 79 (.iload_n 3) 1, e0 80 .i2l 1, eD 81 (.lconst 1) 1 1, eT 82 (.invokevirtual 265) 3 44, e0 85 .pop 1, e0 86 (.aload_n 0) 1, e0 87 (.iload 4) 2, eC 89 (.iconst 1) 1 1, eT 90 (.invokevirtual 121) 3 4, e0 93 .ireturn 1]
set_option maxRecDepth 100000 in
theorem b_Mo_ice_35 {G : Ge} (x1 : Int32) (x2 : Int32) (x3 : Int32) (x4 : Int32) (x5 : Int32) {μ : Mm} {K : Int32 → Mm → Prop} (h :
  (if (μ.1 7 0 10) ≤ x5 then
   (CS G m_Mo_fraction [vr 7 0, vl (Int32.toInt64 x3), vl 1] μ (RI fun v1 μ1 =>
    (CS G m_Mo_tells [vr 7 0, vi x4, vi 1] μ1 (RI fun v2 μ2 =>
     K v2 μ2))))
  else
   (if x3 ≤ 0 then
    SS G m_Mo_ice 35 [vr 7 0, vi x1, vi x2, vi x3, vi (x4 ||| 0), vi (x5 + 1)] [] μ (RI K)
   else
    (CS G m_Mo_waysOf [vr 7 0, vi x1, vi x2, vi x5] μ (RI fun v3 μ3 =>
     (if v3 = 0 then
      SS G m_Mo_ice 35 [vr 7 0, vi x1, vi x2, vi x3, vi (x4 ||| (1 <<< (x5 &&& 31))), vi (x5 + 1)] [] μ3 (RI K)
     else
      SS G m_Mo_ice 35 [vr 7 0, vi x1, vi x2, vi x3, vi (x4 ||| 0), vi (x5 + 1)] [] μ3 (RI K))))))) :
  SS G m_Mo_ice 35 [vr 7 0, vi x1, vi x2, vi x3, vi x4, vi x5] [] μ (RI K) :=
  wp_s (M := m_Mo_ice) (lk := lk_Mo) (tb := tb_Mo_ice_35) (cu := [(35, [true, true, true, true, true, true])]) lk_Mo_ok (by decide +kernel) 25 true _ _ _ _ h
def tc_Mo_odds : List En := [e0 0 (.aload_n 0) 1, e0 1 (.iload_n 1) 1, eT 2 (.invokevirtual 188) 3 20, eT 5 (.ifCond .ne 5) 3 10, eC 8 (.iconst (-1)) 1 (-1), e0 9 .ireturn 1, eD 10 (.lconst 1) 1 1, e0 11 (.lstore_n 2) 1, eC 12 (.iconst 0) 1 0, e0 13 (.istore 4) 2]
set_option maxRecDepth 100000 in
theorem c_Mo_odds {G : Ge} (x1 : Int32) {μ : Mm} {K : Int32 → Mm → Prop} (h :
  (CS G m_Mo_isHouse [vr 7 0, vi x1] μ (RI fun v1 μ1 =>
   (if v1 = 0 then
    K (-1) μ1
   else
    SS G m_Mo_odds 15 [vr 7 0, vi x1, vl 1, un, vi 0, un, un, un, un] [] μ1 (RI K))))) :
  CS G m_Mo_odds [vr 7 0, vi x1] μ (RI K) :=
  CS_of pf_Mo_odds (Nat.le_of_ble_eq_true rfl) (show SS G m_Mo_odds 0 [vr 7 0, vi x1, un, un, un, un, un, un, un] [] μ (RI K) from wp_s (M := m_Mo_odds) (lk := lk_Mo) (tb := tc_Mo_odds) (cu := [(15, [true, true, true, false, true, false, false, false, false]), (60, [true, true, true, false, true, false, false, false, false]), (91, [true, true, true, false, true, true, true, false, false]), (115, [true, true, true, false, true, true, true, false, false]), (158, [true, true, true, false, true, true, true, true, true]), (211, [true, true, true, false, true, true, true, false, false])]) lk_Mo_ok (by decide +kernel) 12 true 0 _ _ _ h)
def tb_Mo_odds_15 : List En := [e0 15 (.iload 4) 2, eC 17 (.bipush 101) 2 101, eT 19 (.if_icmp .ge 32) 3 51, e0 22 (.aload_n 0) 1, eF 23 (.getfield 88) 3 7 34, e0 26 (.iload 4) 2, e0 28 (.iload 4) 2, e0 30 (.aload_n 0) 1, eF 31 (.getfield 48) 3 7 20, e0 34 (.iload_n 1) 1, e0 35 .iaload 1, eT 36 (.if_icmp .ne 7) 3 43, eD 39 (.lconst 1) 1 1, eT 40 (.goto 4) 3 44, eD 43 (.lconst 0) 1 0, e0 44 .lastore 1, eC 45 (.iinc 4 1) 3 1, eT 48 (.goto (-33)) 3 15, e0 51 (.aload_n 0) 1, eF 52 (.getfield 48) 3 7 20, eC 55 (.bipush 15) 2 15, e0 57 .iaload 1, e0 58 (.istore 4) 2]
set_option maxRecDepth 100000 in
theorem b_Mo_odds_15 {G : Ge} (x1 : Int32) (l2 : Int64) (x4 : Int32) {μ : Mm} {K : Int32 → Mm → Prop} (h :
  (if (101 : Int32) ≤ x4 then
   (vp_in 15 16 ∧
    SS G m_Mo_odds 60 [vr 7 0, vi x1, vl l2, un, vi (μ.1 37 0 (Int32.toNatClampNeg 15)), un, un, un, un] [] μ (RI K))
  else
   (vp_in x1 16 ∧
    (if x4 = (μ.1 37 0 x1.toNatClampNeg) then
     (vp_in x4 101 ∧
      SS G m_Mo_odds 15 [vr 7 0, vi x1, vl l2, un, vi (x4 + 1), un, un, un, un] [] (wL μ 50 0 x4.toNatClampNeg 1) (RI K))
    else
     (vp_in x4 101 ∧
      SS G m_Mo_odds 15 [vr 7 0, vi x1, vl l2, un, vi (x4 + 1), un, un, un, un] [] (wL μ 50 0 x4.toNatClampNeg 0) (RI K)))))) :
  SS G m_Mo_odds 15 [vr 7 0, vi x1, vl l2, un, vi x4, un, un, un, un] [] μ (RI K) :=
  wp_s (M := m_Mo_odds) (lk := lk_Mo) (tb := tb_Mo_odds_15) (cu := [(15, [true, true, true, false, true, false, false, false, false]), (60, [true, true, true, false, true, false, false, false, false]), (91, [true, true, true, false, true, true, true, false, false]), (115, [true, true, true, false, true, true, true, false, false]), (158, [true, true, true, false, true, true, true, true, true]), (211, [true, true, true, false, true, true, true, false, false])]) lk_Mo_ok (by decide +kernel) 21 true _ _ _ _ h
def tb_Mo_odds_60 : List En := [e0 60 (.iload 4) 2, e0 62 (.aload_n 0) 1, eF 63 (.getfield 157) 3 7 11, eT 66 (.if_icmp .ge 193) 3 259, e0 69 (.iload 4) 2, e0 71 (.aload_n 0) 1, eF 72 (.getfield 48) 3 7 20, eC 75 (.bipush 15) 2 15, e0 77 .iaload 1, eT 78 (.if_icmp .ne 7) 3 85, eC 81 (.iconst 1) 1 1, eT 82 (.goto 4) 3 86, eC 85 (.iconst 0) 1 0, e0 86 (.istore 5) 2, eC 88 (.iconst 0) 1 0, e0 89 (.istore 6) 2, e0 259 (.aload_n 0) 1, e0 260 (.aload_n 0) 1, eF 261 (.getfield 88) 3 7 34, eC 264 (.iconst 0) 1 0, e0 265 .laload 1, e0 266 (.lload_n 2) 1, eT 267 (.invokevirtual 265) 3 44, e0 270 .ireturn 1]
set_option maxRecDepth 100000 in
theorem b_Mo_odds_60 {G : Ge} (x1 : Int32) (l2 : Int64) (x4 : Int32) {μ : Mm} {K : Int32 → Mm → Prop} (h :
  (if (μ.1 7 0 11) ≤ x4 then
   (vp_in 0 101 ∧
    (CS G m_Mo_fraction [vr 7 0, vl (μ.2 50 0 (Int32.toNatClampNeg 0)), vl l2] μ (RI fun v1 μ1 =>
     K v1 μ1)))
  else
   (vp_in 15 16 ∧
    (if x4 = (μ.1 37 0 (Int32.toNatClampNeg 15)) then
     SS G m_Mo_odds 91 [vr 7 0, vi x1, vl l2, un, vi x4, vi 1, vi 0, un, un] [] μ (RI K)
    else
     SS G m_Mo_odds 91 [vr 7 0, vi x1, vl l2, un, vi x4, vi 0, vi 0, un, un] [] μ (RI K))))) :
  SS G m_Mo_odds 60 [vr 7 0, vi x1, vl l2, un, vi x4, un, un, un, un] [] μ (RI K) :=
  wp_s (M := m_Mo_odds) (lk := lk_Mo) (tb := tb_Mo_odds_60) (cu := [(15, [true, true, true, false, true, false, false, false, false]), (60, [true, true, true, false, true, false, false, false, false]), (91, [true, true, true, false, true, true, true, false, false]), (115, [true, true, true, false, true, true, true, false, false]), (158, [true, true, true, false, true, true, true, true, true]), (211, [true, true, true, false, true, true, true, false, false])]) lk_Mo_ok (by decide +kernel) 19 true _ _ _ _ h
def tb_Mo_odds_91 : List En := [e0 91 (.iload 6) 2, eC 93 (.bipush 101) 2 101, eT 95 (.if_icmp .ge 17) 3 112, e0 98 (.aload_n 0) 1, eF 99 (.getfield 92) 3 7 35, e0 102 (.iload 6) 2, eD 104 (.lconst 0) 1 0, e0 105 .lastore 1, eC 106 (.iinc 6 1) 3 1, eT 109 (.goto (-18)) 3 91, eC 112 (.iconst 0) 1 0, e0 113 (.istore 6) 2]
set_option maxRecDepth 100000 in
theorem b_Mo_odds_91 {G : Ge} (x1 : Int32) (l2 : Int64) (x4 : Int32) (x5 : Int32) (x6 : Int32) {μ : Mm} {K : Int32 → Mm → Prop} (h :
  (if (101 : Int32) ≤ x6 then
   SS G m_Mo_odds 115 [vr 7 0, vi x1, vl l2, un, vi x4, vi x5, vi 0, un, un] [] μ (RI K)
  else
   (vp_in x6 101 ∧
    SS G m_Mo_odds 91 [vr 7 0, vi x1, vl l2, un, vi x4, vi x5, vi (x6 + 1), un, un] [] (wL μ 51 0 x6.toNatClampNeg 0) (RI K)))) :
  SS G m_Mo_odds 91 [vr 7 0, vi x1, vl l2, un, vi x4, vi x5, vi x6, un, un] [] μ (RI K) :=
  wp_s (M := m_Mo_odds) (lk := lk_Mo) (tb := tb_Mo_odds_91) (cu := [(15, [true, true, true, false, true, false, false, false, false]), (60, [true, true, true, false, true, false, false, false, false]), (91, [true, true, true, false, true, true, true, false, false]), (115, [true, true, true, false, true, true, true, false, false]), (158, [true, true, true, false, true, true, true, true, true]), (211, [true, true, true, false, true, true, true, false, false])]) lk_Mo_ok (by decide +kernel) 14 true _ _ _ _ h
def tb_Mo_odds_115 : List En := [e0 115 (.iload 6) 2, e0 117 (.iload 5) 2, eT 119 (.ifCond .eq 7) 3 126, eC 122 (.iconst 1) 1 1, eT 123 (.goto 5) 3 128, eC 126 (.bipush 10) 2 10, eT 128 (.if_icmp .ge 80) 3 208, e0 131 (.iload 5) 2, eT 133 (.ifCond .eq 13) 3 146, e0 136 (.aload_n 0) 1, e0 137 (.iload_n 1) 1, e0 138 (.iload 4) 2, eT 140 (.invokevirtual 182) 3 18, eT 143 (.goto 10) 3 153, e0 146 (.aload_n 0) 1, e0 147 (.iload_n 1) 1, e0 148 (.iload 6) 2, eT 150 (.invokevirtual 175) 3 16, e0 153 (.istore 7) 2, eC 155 (.iconst 0) 1 0, e0 156 (.istore 8) 2, eC 208 (.iconst 0) 1 0, e0 209 (.istore 6) 2]
set_option maxRecDepth 100000 in
theorem b_Mo_odds_115 {G : Ge} (x1 : Int32) (l2 : Int64) (x4 : Int32) (x5 : Int32) (x6 : Int32) {μ : Mm} {K : Int32 → Mm → Prop} (h :
  (if x5 = 0 then
   (if (10 : Int32) ≤ x6 then
    SS G m_Mo_odds 211 [vr 7 0, vi x1, vl l2, un, vi x4, vi x5, vi 0, un, un] [] μ (RI K)
   else
    (if x5 = 0 then
     (CS G m_Mo_canIn [vr 7 0, vi x1, vi x6] μ (RI fun v1 μ1 =>
      SS G m_Mo_odds 158 [vr 7 0, vi x1, vl l2, un, vi x4, vi x5, vi x6, vi v1, vi 0] [] μ1 (RI K)))
    else
     (CS G m_Mo_canOn [vr 7 0, vi x1, vi x4] μ (RI fun v2 μ2 =>
      SS G m_Mo_odds 158 [vr 7 0, vi x1, vl l2, un, vi x4, vi x5, vi x6, vi v2, vi 0] [] μ2 (RI K)))))
  else
   (if (1 : Int32) ≤ x6 then
    SS G m_Mo_odds 211 [vr 7 0, vi x1, vl l2, un, vi x4, vi x5, vi 0, un, un] [] μ (RI K)
   else
    (if x5 = 0 then
     (CS G m_Mo_canIn [vr 7 0, vi x1, vi x6] μ (RI fun v3 μ3 =>
      SS G m_Mo_odds 158 [vr 7 0, vi x1, vl l2, un, vi x4, vi x5, vi x6, vi v3, vi 0] [] μ3 (RI K)))
    else
     (CS G m_Mo_canOn [vr 7 0, vi x1, vi x4] μ (RI fun v4 μ4 =>
      SS G m_Mo_odds 158 [vr 7 0, vi x1, vl l2, un, vi x4, vi x5, vi x6, vi v4, vi 0] [] μ4 (RI K))))))) :
  SS G m_Mo_odds 115 [vr 7 0, vi x1, vl l2, un, vi x4, vi x5, vi x6, un, un] [] μ (RI K) :=
  wp_s (M := m_Mo_odds) (lk := lk_Mo) (tb := tb_Mo_odds_115) (cu := [(15, [true, true, true, false, true, false, false, false, false]), (60, [true, true, true, false, true, false, false, false, false]), (91, [true, true, true, false, true, true, true, false, false]), (115, [true, true, true, false, true, true, true, false, false]), (158, [true, true, true, false, true, true, true, true, true]), (211, [true, true, true, false, true, true, true, false, false])]) lk_Mo_ok (by decide +kernel) 20 true _ _ _ _ h
def tb_Mo_odds_158 : List En := [e0 158 (.iload 8) 2, eC 160 (.bipush 101) 2 101, eT 162 (.if_icmp .ge 40) 3 202, e0 165 (.aload_n 0) 1, eF 166 (.getfield 92) 3 7 35, e0 169 (.iload 8) 2, e0 171 (.iload 7) 2, eT 173 (.if_icmp .le 11) 3 184, e0 176 (.iload 8) 2, e0 178 (.iload 7) 2, e0 180 .isub 1, eT 181 (.goto 4) 3 185, eC 184 (.iconst 0) 1 0, e0 185 .dup2 1, e0 186 .laload 1, e0 187 (.aload_n 0) 1, eF 188 (.getfield 88) 3 7 34, e0 191 (.iload 8) 2, e0 193 .laload 1, e0 194 .ladd 1, e0 195 .lastore 1, eC 196 (.iinc 8 1) 3 1, eT 199 (.goto (-41)) 3 158, eC 202 (.iinc 6 1) 3 1, eT 205 (.goto (-90)) 3 115]
set_option maxRecDepth 100000 in
theorem b_Mo_odds_158 {G : Ge} (x1 : Int32) (l2 : Int64) (x4 : Int32) (x5 : Int32) (x6 : Int32) (x7 : Int32) (x8 : Int32) {μ : Mm} {K : Int32 → Mm → Prop} (h :
  (if (101 : Int32) ≤ x8 then
   SS G m_Mo_odds 115 [vr 7 0, vi x1, vl l2, un, vi x4, vi x5, vi (x6 + 1), un, un] [] μ (RI K)
  else
   (if x8 ≤ x7 then
    (vp_in 0 101 ∧
     (vp_in x8 101 ∧
      (vp_in 0 101 ∧
       SS G m_Mo_odds 158 [vr 7 0, vi x1, vl l2, un, vi x4, vi x5, vi x6, vi x7, vi (x8 + 1)] [] (wL μ 51 0 (Int32.toNatClampNeg 0) ((μ.2 51 0 (Int32.toNatClampNeg 0)) + (μ.2 50 0 x8.toNatClampNeg))) (RI K))))
   else
    (vp_in (x8 - x7) 101 ∧
     (vp_in x8 101 ∧
      (vp_in (x8 - x7) 101 ∧
       SS G m_Mo_odds 158 [vr 7 0, vi x1, vl l2, un, vi x4, vi x5, vi x6, vi x7, vi (x8 + 1)] [] (wL μ 51 0 (Int32.toNatClampNeg (x8 - x7)) ((μ.2 51 0 (Int32.toNatClampNeg (x8 - x7))) + (μ.2 50 0 x8.toNatClampNeg))) (RI K))))))) :
  SS G m_Mo_odds 158 [vr 7 0, vi x1, vl l2, un, vi x4, vi x5, vi x6, vi x7, vi x8] [] μ (RI K) :=
  wp_s (M := m_Mo_odds) (lk := lk_Mo) (tb := tb_Mo_odds_158) (cu := [(15, [true, true, true, false, true, false, false, false, false]), (60, [true, true, true, false, true, false, false, false, false]), (91, [true, true, true, false, true, true, true, false, false]), (115, [true, true, true, false, true, true, true, false, false]), (158, [true, true, true, false, true, true, true, true, true]), (211, [true, true, true, false, true, true, true, false, false])]) lk_Mo_ok (by decide +kernel) 26 true _ _ _ _ h
def tb_Mo_odds_211 : List En := [e0 211 (.iload 6) 2, eC 213 (.bipush 101) 2 101, eT 215 (.if_icmp .ge 23) 3 238, e0 218 (.aload_n 0) 1, eF 219 (.getfield 88) 3 7 34, e0 222 (.iload 6) 2, e0 224 (.aload_n 0) 1, eF 225 (.getfield 92) 3 7 35, e0 228 (.iload 6) 2, e0 230 .laload 1, e0 231 .lastore 1, eC 232 (.iinc 6 1) 3 1, eT 235 (.goto (-24)) 3 211, e0 238 (.lload_n 2) 1, e0 239 (.iload 5) 2, eT 241 (.ifCond .eq 7) 3 248, eD 244 (.lconst 1) 1 1, eT 245 (.goto 6) 3 251, eD 248 (.ldc2_w 276) 3 10, e0 251 .lmul 1, e0 252 (.lstore_n 2) 1, eC 253 (.iinc 4 1) 3 1, eT 256 (.goto (-196)) 3 60]
set_option maxRecDepth 100000 in
theorem b_Mo_odds_211 {G : Ge} (x1 : Int32) (l2 : Int64) (x4 : Int32) (x5 : Int32) (x6 : Int32) {μ : Mm} {K : Int32 → Mm → Prop} (h :
  (if (101 : Int32) ≤ x6 then
   (if x5 = 0 then
    SS G m_Mo_odds 60 [vr 7 0, vi x1, vl (l2 * 10), un, vi (x4 + 1), un, un, un, un] [] μ (RI K)
   else
    SS G m_Mo_odds 60 [vr 7 0, vi x1, vl (l2 * 1), un, vi (x4 + 1), un, un, un, un] [] μ (RI K))
  else
   (vp_in x6 101 ∧
    (vp_in x6 101 ∧
     SS G m_Mo_odds 211 [vr 7 0, vi x1, vl l2, un, vi x4, vi x5, vi (x6 + 1), un, un] [] (wL μ 50 0 x6.toNatClampNeg (μ.2 51 0 x6.toNatClampNeg)) (RI K))))) :
  SS G m_Mo_odds 211 [vr 7 0, vi x1, vl l2, un, vi x4, vi x5, vi x6, un, un] [] μ (RI K) :=
  wp_s (M := m_Mo_odds) (lk := lk_Mo) (tb := tb_Mo_odds_211) (cu := [(15, [true, true, true, false, true, false, false, false, false]), (60, [true, true, true, false, true, false, false, false, false]), (91, [true, true, true, false, true, true, true, false, false]), (115, [true, true, true, false, true, true, true, false, false]), (158, [true, true, true, false, true, true, true, true, true]), (211, [true, true, true, false, true, true, true, false, false])]) lk_Mo_ok (by decide +kernel) 17 true _ _ _ _ h
def tc_Mo_risk : List En := [e0 0 (.aload_n 0) 1, e0 1 (.iload_n 1) 1, eT 2 (.invokevirtual 188) 3 20, eT 5 (.ifCond .ne 5) 3 10, eC 8 (.iconst (-1)) 1 (-1), e0 9 .ireturn 1, eC 10 (.iconst 0) 1 0, e0 11 (.istore_n 2) 1, eC 12 (.iconst 0) 1 0, e0 13 (.istore_n 3) 1]
set_option maxRecDepth 100000 in
theorem c_Mo_risk {G : Ge} (x1 : Int32) {μ : Mm} {K : Int32 → Mm → Prop} (h :
  (CS G m_Mo_isHouse [vr 7 0, vi x1] μ (RI fun v1 μ1 =>
   (if v1 = 0 then
    K (-1) μ1
   else
    SS G m_Mo_risk 14 [vr 7 0, vi x1, vi 0, vi 0] [] μ1 (RI K))))) :
  CS G m_Mo_risk [vr 7 0, vi x1] μ (RI K) :=
  CS_of pf_Mo_risk (Nat.le_of_ble_eq_true rfl) (show SS G m_Mo_risk 0 [vr 7 0, vi x1, un, un] [] μ (RI K) from wp_s (M := m_Mo_risk) (lk := lk_Mo) (tb := tc_Mo_risk) (cu := [(14, [true, true, true, true])]) lk_Mo_ok (by decide +kernel) 12 true 0 _ _ _ h)
def tb_Mo_risk_14 : List En := [e0 14 (.iload_n 3) 1, eC 15 (.bipush 10) 2 10, eT 17 (.if_icmp .ge 31) 3 48, e0 20 (.iload_n 2) 1, e0 21 (.aload_n 0) 1, e0 22 (.iload_n 1) 1, e0 23 (.aload_n 0) 1, e0 24 (.iload_n 1) 1, e0 25 (.iload_n 3) 1, eT 26 (.invokevirtual 175) 3 16, eT 29 (.invokevirtual 197) 3 23, eT 32 (.ifCond .le 7) 3 39, eC 35 (.iconst 1) 1 1, eT 36 (.goto 4) 3 40, eC 39 (.iconst 0) 1 0, e0 40 .iadd 1, e0 41 (.istore_n 2) 1, eC 42 (.iinc 3 1) 3 1, eT 45 (.goto (-31)) 3 14, e0 48 (.aload_n 0) 1, e0 49 (.iload_n 2) 1, e0 50 .i2l 1, eD 51 (.ldc2_w 276) 3 10, eT 54 (.invokevirtual 265) 3 44, e0 57 .ireturn 1]
set_option maxRecDepth 100000 in
theorem b_Mo_risk_14 {G : Ge} (x1 : Int32) (x2 : Int32) (x3 : Int32) {μ : Mm} {K : Int32 → Mm → Prop} (h :
  (if (10 : Int32) ≤ x3 then
   (CS G m_Mo_fraction [vr 7 0, vl (Int32.toInt64 x2), vl 10] μ (RI fun v1 μ1 =>
    K v1 μ1))
  else
   (CS G m_Mo_canIn [vr 7 0, vi x1, vi x3] μ (RI fun v2 μ2 =>
    (CS G m_Mo_hurtOf [vr 7 0, vi x1, vi v2] μ2 (RI fun v3 μ3 =>
     (if v3 ≤ 0 then
      SS G m_Mo_risk 14 [vr 7 0, vi x1, vi (x2 + 0), vi (x3 + 1)] [] μ3 (RI K)
     else
      SS G m_Mo_risk 14 [vr 7 0, vi x1, vi (x2 + 1), vi (x3 + 1)] [] μ3 (RI K)))))))) :
  SS G m_Mo_risk 14 [vr 7 0, vi x1, vi x2, vi x3] [] μ (RI K) :=
  wp_s (M := m_Mo_risk) (lk := lk_Mo) (tb := tb_Mo_risk_14) (cu := [(14, [true, true, true, true])]) lk_Mo_ok (by decide +kernel) 22 true _ _ _ _ h
def tc_Mo_lots : List En := [e0 0 (.iload_n 1) 1, eC 1 (.iconst 1) 1 1, eC 2 (.bipush 8) 2 8, eT 4 (.invokestatic 99) 3 0, eT 7 (.ifCond .eq 14) 3 21, e0 10 (.iload_n 2) 1, eC 11 (.iconst 1) 1 1, eC 12 (.ldc_w 278) 3 2147483646, eT 15 (.invokestatic 99) 3 0, eT 18 (.ifCond .ne 5) 3 23, eC 21 (.iconst (-1)) 1 (-1), e0 22 .ireturn 1, e0 23 (.aload_n 0) 1, eF 24 (.getfield 154) 3 7 10, eT 27 (.ifCond .eq 10) 3 37, e0 30 (.aload_n 0) 1, eT 31 (.invokevirtual 178) 3 17, eT 34 (.ifCond .eq 6) 3 40, eC 37 (.bipush (-4)) 2 (-4), e0 39 .ireturn 1, e0 40 (.aload_n 0) 1, eF 41 (.getfield 160) 3 7 21, eC 44 (.bipush 6) 2 6, e0 46 (.iload_n 1) 1, e0 47 .imul 1, e0 48 .iadd 1, eC 49 (.bipush 60) 2 60, eT 51 (.if_icmp .le 6) 3 57, eC 54 (.bipush (-2)) 2 (-2), e0 56 .ireturn 1, e0 57 (.iload_n 2) 1, e0 58 .i2l 1, e0 59 (.lstore_n 3) 1, eC 60 (.iconst 0) 1 0, e0 61 (.istore 5) 2, eC 63 (.iconst 0) 1 0, e0 64 (.istore 6) 2]
set_option maxRecDepth 100000 in
theorem c_Mo_lots {G : Ge} (x1 : Int32) (x2 : Int32) {μ : Mm} {K : Int32 → Mm → Prop} (h :
  (CS G m_Mo_in [vi x1, vi 1, vi 8] μ (RI fun v1 μ1 =>
   (if v1 = 0 then
    K (-1) μ1
   else
    (CS G m_Mo_in [vi x2, vi 1, vi 2147483646] μ1 (RI fun v2 μ2 =>
     (if v2 = 0 then
      K (-1) μ2
     else
      (if (μ2.1 7 0 10) = 0 then
       K (-4) μ2
      else
       (CS G m_Mo_isCandlemas [vr 7 0] μ2 (RI fun v3 μ3 =>
        (if v3 = 0 then
         (if ((μ3.1 7 0 21) + (6 * x1)) ≤ 60 then
          SS G m_Mo_lots 66 [vr 7 0, vi x1, un, vl (Int32.toInt64 x2), un, vi 0, vi 0, un, un] [] μ3 (RI K)
         else
          K (-2) μ3)
        else
         K (-4) μ3))))))))))) :
  CS G m_Mo_lots [vr 7 0, vi x1, vi x2] μ (RI K) :=
  CS_of pf_Mo_lots (Nat.le_of_ble_eq_true rfl) (show SS G m_Mo_lots 0 [vr 7 0, vi x1, vi x2, un, un, un, un, un, un] [] μ (RI K) from wp_s (M := m_Mo_lots) (lk := lk_Mo) (tb := tc_Mo_lots) (cu := [(66, [true, true, false, true, false, true, true, false, false]), (82, [true, true, false, true, false, true, true, true, false])]) lk_Mo_ok (by decide +kernel) 35 true 0 _ _ _ h)
def tb_Mo_lots_66 : List En := [e0 66 (.iload 6) 2, e0 68 (.iload_n 1) 1, eT 69 (.if_icmp .ge 97) 3 166, e0 72 (.aload_n 0) 1, eT 73 (.invokevirtual 178) 3 17, eT 76 (.ifCond .ne 90) 3 166, eC 79 (.iconst 0) 1 0, e0 80 (.istore 7) 2, e0 166 (.iload 5) 2, e0 168 .ireturn 1]
set_option maxRecDepth 100000 in
theorem b_Mo_lots_66 {G : Ge} (x1 : Int32) (l3 : Int64) (x5 : Int32) (x6 : Int32) {μ : Mm} {K : Int32 → Mm → Prop} (h :
  (if x1 ≤ x6 then
   K x5 μ
  else
   (CS G m_Mo_isCandlemas [vr 7 0] μ (RI fun v1 μ1 =>
    (if v1 = 0 then
     SS G m_Mo_lots 82 [vr 7 0, vi x1, un, vl l3, un, vi x5, vi x6, vi 0, un] [] μ1 (RI K)
    else
     K x5 μ1))))) :
  SS G m_Mo_lots 66 [vr 7 0, vi x1, un, vl l3, un, vi x5, vi x6, un, un] [] μ (RI K) :=
  wp_s (M := m_Mo_lots) (lk := lk_Mo) (tb := tb_Mo_lots_66) (cu := [(66, [true, true, false, true, false, true, true, false, false]), (82, [true, true, false, true, false, true, true, true, false])]) lk_Mo_ok (by decide +kernel) 12 true _ _ _ _ h
def tb_Mo_lots_82 : List En := [e0 82 (.iload 7) 2, e0 84 (.aload_n 0) 1, eF 85 (.getfield 154) 3 7 10, eT 88 (.if_icmp .ge 68) 3 156, e0 91 (.aload_n 0) 1, e0 92 (.iload 7) 2, eT 94 (.invokevirtual 172) 3 15, eT 97 (.ifCond .ne 53) 3 150, eD 100 (.ldc2_w 279) 3 48271, e0 103 (.lload_n 3) 1, e0 104 .lmul 1, eD 105 (.ldc2_w 281) 3 2147483647, e0 108 .lrem 1, e0 109 (.lstore_n 3) 1, e0 110 (.lload_n 3) 1, eD 111 (.ldc2_w 283) 3 8, e0 114 .ldiv 1, e0 115 (.aload_n 0) 1, e0 116 (.iload 7) 2, eT 118 (.invokevirtual 185) 3 19, eC 121 (.iconst 1) 1 1, e0 122 .iadd 1, e0 123 .i2l 1, e0 124 .lrem 1, e0 125 .l2i 1, e0 126 (.istore 8) 2, e0 128 (.iload 5) 2, e0 130 (.iload 8) 2, eT 132 (.ifCond .ne 7) 3 139, eC 135 (.iconst 0) 1 0, eT 136 (.goto 11) 3 147, e0 139 (.aload_n 0) 1, e0 140 (.iload 7) 2, e0 142 (.iload 8) 2, eT 144 (.invokevirtual 209) 3 27, e0 147 .iadd 1, e0 148 (.istore 5) 2, eC 150 (.iinc 7 1) 3 1, eT 153 (.goto (-71)) 3 82, e0 156 (.aload_n 0) 1, eT 157 (.invokevirtual 212) 3 28, eC 160 (.iinc 6 1) 3 1, eT 163 (.goto (-97)) 3 66]
set_option maxRecDepth 100000 in
theorem b_Mo_lots_82 {G : Ge} (x1 : Int32) (l3 : Int64) (x5 : Int32) (x6 : Int32) (x7 : Int32) {μ : Mm} {K : Int32 → Mm → Prop} (h :
  (if (μ.1 7 0 10) ≤ x7 then
   (CS G m_Mo_passes [vr 7 0] μ (RV fun μ1 =>
    SS G m_Mo_lots 66 [vr 7 0, vi x1, un, vl l3, un, vi x5, vi (x6 + 1), un, un] [] μ1 (RI K)))
  else
   (CS G m_Mo_didBear [vr 7 0, vi x7] μ (RI fun v2 μ2 =>
    (if v2 = 0 then
     (¬ (2147483647 : Int64) = 0 ∧
      (¬ (8 : Int64) = 0 ∧
       (CS G m_Mo_canTonight [vr 7 0, vi x7] μ2 (RI fun v3 μ3 =>
        (¬ ((Int32.toInt64 (v3 + 1)) : Int64) = 0 ∧
         (if (Int64.toInt32 ((((48271 * l3) - (48271 * l3) / 2147483647 * 2147483647) / 8) - (((48271 * l3) - (48271 * l3) / 2147483647 * 2147483647) / 8) / (Int32.toInt64 (v3 + 1)) * (Int32.toInt64 (v3 + 1)))) = 0 then
          SS G m_Mo_lots 82 [vr 7 0, vi x1, un, vl ((48271 * l3) - (48271 * l3) / 2147483647 * 2147483647), un, vi (x5 + 0), vi x6, vi (x7 + 1), un] [] μ3 (RI K)
         else
          (CS G m_Mo_bears [vr 7 0, vi x7, vi (Int64.toInt32 ((((48271 * l3) - (48271 * l3) / 2147483647 * 2147483647) / 8) - (((48271 * l3) - (48271 * l3) / 2147483647 * 2147483647) / 8) / (Int32.toInt64 (v3 + 1)) * (Int32.toInt64 (v3 + 1))))] μ3 (RI fun v4 μ4 =>
           SS G m_Mo_lots 82 [vr 7 0, vi x1, un, vl ((48271 * l3) - (48271 * l3) / 2147483647 * 2147483647), un, vi (x5 + v4), vi x6, vi (x7 + 1), un] [] μ4 (RI K)))))))))
    else
     SS G m_Mo_lots 82 [vr 7 0, vi x1, un, vl l3, un, vi x5, vi x6, vi (x7 + 1), un] [] μ2 (RI K)))))) :
  SS G m_Mo_lots 82 [vr 7 0, vi x1, un, vl l3, un, vi x5, vi x6, vi x7, un] [] μ (RI K) :=
  wp_s (M := m_Mo_lots) (lk := lk_Mo) (tb := tb_Mo_lots_82) (cu := [(66, [true, true, false, true, false, true, true, false, false]), (82, [true, true, false, true, false, true, true, true, false])]) lk_Mo_ok (by decide +kernel) 41 true _ _ _ _ h
def tc_Mo_counted : List En := [eC 0 (.iconst 0) 1 0, e0 1 (.istore_n 2) 1, eC 2 (.iconst 0) 1 0, e0 3 (.istore_n 3) 1]
set_option maxRecDepth 100000 in
theorem c_Mo_counted {G : Ge} (x1 : Int32) {μ : Mm} {K : Int32 → Mm → Prop} (h :
  SS G m_Mo_counted 4 [vr 7 0, vi x1, vi 0, vi 0] [] μ (RI K)) :
  CS G m_Mo_counted [vr 7 0, vi x1] μ (RI K) :=
  CS_of pf_Mo_counted (Nat.le_of_ble_eq_true rfl) (show SS G m_Mo_counted 0 [vr 7 0, vi x1, un, un] [] μ (RI K) from wp_s (M := m_Mo_counted) (lk := lk_Mo) (tb := tc_Mo_counted) (cu := [(4, [true, true, true, true]), (84, [true, true, true, true]), (121, [true, true, true, true]), (157, [true, true, true, true])]) lk_Mo_ok (by decide +kernel) 8 true 0 _ _ _ h)
def tb_Mo_counted_4 : List En := [e0 4 (.iload_n 3) 1, e0 5 (.aload_n 0) 1, eF 6 (.getfield 154) 3 7 10, eT 9 (.if_icmp .ge 73) 3 82, e0 12 (.iload_n 2) 1, e0 13 (.iload_n 1) 1, eC 14 (.iconst 4) 1 4, eT 15 (.if_icmp .ne 12) 3 27, e0 18 (.aload_n 0) 1, eF 19 (.getfield 48) 3 7 20, e0 22 (.iload_n 3) 1, e0 23 .iaload 1, eT 24 (.goto 50) 3 74, e0 27 (.iload_n 1) 1, eC 28 (.iconst 5) 1 5, eT 29 (.if_icmp .ne 14) 3 43, e0 32 (.aload_n 0) 1, eF 33 (.getfield 48) 3 7 20, eC 36 (.iconst 5) 1 5, e0 37 (.iload_n 3) 1, e0 38 .iadd 1, e0 39 .iaload 1, eT 40 (.goto 34) 3 74, e0 43 (.iload_n 1) 1, eC 44 (.bipush 6) 2 6, eT 46 (.if_icmp .ne 27) 3 73, e0 49 (.aload_n 0) 1, eF 50 (.getfield 33) 3 7 12, e0 53 (.iload_n 3) 1, e0 54 .iaload 1, eC 55 (.iconst 2) 1 2, eT 56 (.if_icmp .eq 13) 3 69, e0 59 (.aload_n 0) 1, eF 60 (.getfield 33) 3 7 12, e0 63 (.iload_n 3) 1, e0 64 .iaload 1, eC 65 (.iconst 5) 1 5, eT 66 (.if_icmp .ne 7) 3 73, eC 69 (.iconst 1) 1 1, eT 70 (.goto 4) 3 74, eC 73 (.iconst 0) 1 0, e0 74 .iadd 1, e0 75 (.istore_n 2) 1, eC 76 (.iinc 3 1) 3 1, eT 79 (.goto (-75)) 3 4, eC 82 (.iconst 0) 1 0, e0 83 (.istore_n 3) 1]
set_option maxRecDepth 100000 in
theorem b_Mo_counted_4 {G : Ge} (x1 : Int32) (x2 : Int32) (x3 : Int32) {μ : Mm} {K : Int32 → Mm → Prop} (h :
  (if (μ.1 7 0 10) ≤ x3 then
   SS G m_Mo_counted 84 [vr 7 0, vi x1, vi x2, vi 0] [] μ (RI K)
  else
   (if x1 = 4 then
    (vp_in x3 16 ∧
     SS G m_Mo_counted 4 [vr 7 0, vi x1, vi (x2 + (μ.1 37 0 x3.toNatClampNeg)), vi (x3 + 1)] [] μ (RI K))
   else
    (if x1 = 5 then
     (vp_in (5 + x3) 16 ∧
      SS G m_Mo_counted 4 [vr 7 0, vi x1, vi (x2 + (μ.1 37 0 (Int32.toNatClampNeg (5 + x3)))), vi (x3 + 1)] [] μ (RI K))
    else
     (if x1 = 6 then
      (vp_in x3 5 ∧
       (if (μ.1 32 0 x3.toNatClampNeg) = 2 then
        SS G m_Mo_counted 4 [vr 7 0, vi x1, vi (x2 + 1), vi (x3 + 1)] [] μ (RI K)
       else
        (vp_in x3 5 ∧
         (if (μ.1 32 0 x3.toNatClampNeg) = 5 then
          SS G m_Mo_counted 4 [vr 7 0, vi x1, vi (x2 + 1), vi (x3 + 1)] [] μ (RI K)
         else
          SS G m_Mo_counted 4 [vr 7 0, vi x1, vi (x2 + 0), vi (x3 + 1)] [] μ (RI K)))))
     else
      SS G m_Mo_counted 4 [vr 7 0, vi x1, vi (x2 + 0), vi (x3 + 1)] [] μ (RI K)))))) :
  SS G m_Mo_counted 4 [vr 7 0, vi x1, vi x2, vi x3] [] μ (RI K) :=
  wp_s (M := m_Mo_counted) (lk := lk_Mo) (tb := tb_Mo_counted_4) (cu := [(4, [true, true, true, true]), (84, [true, true, true, true]), (121, [true, true, true, true]), (157, [true, true, true, true])]) lk_Mo_ok (by decide +kernel) 36 true _ _ _ _ h
def tb_Mo_counted_84 : List En := [e0 84 (.iload_n 3) 1, eC 85 (.bipush 6) 2 6, eT 87 (.if_icmp .ge 32) 3 119, e0 90 (.iload_n 2) 1, e0 91 (.iload_n 1) 1, eC 92 (.bipush 7) 2 7, eT 94 (.if_icmp .ne 16) 3 110, e0 97 (.aload_n 0) 1, eF 98 (.getfield 17) 3 7 5, e0 101 (.iload_n 3) 1, e0 102 .iaload 1, eT 103 (.ifCond .lt 7) 3 110, eC 106 (.iconst 1) 1 1, eT 107 (.goto 4) 3 111, eC 110 (.iconst 0) 1 0, e0 111 .iadd 1, e0 112 (.istore_n 2) 1, eC 113 (.iinc 3 1) 3 1, eT 116 (.goto (-32)) 3 84, eC 119 (.iconst 0) 1 0, e0 120 (.istore_n 3) 1]
set_option maxRecDepth 100000 in
theorem b_Mo_counted_84 {G : Ge} (x1 : Int32) (x2 : Int32) (x3 : Int32) {μ : Mm} {K : Int32 → Mm → Prop} (h :
  (if (6 : Int32) ≤ x3 then
   SS G m_Mo_counted 121 [vr 7 0, vi x1, vi x2, vi 0] [] μ (RI K)
  else
   (if x1 = 7 then
    (vp_in x3 6 ∧
     (if (μ.1 27 0 x3.toNatClampNeg) < 0 then
      SS G m_Mo_counted 84 [vr 7 0, vi x1, vi (x2 + 0), vi (x3 + 1)] [] μ (RI K)
     else
      SS G m_Mo_counted 84 [vr 7 0, vi x1, vi (x2 + 1), vi (x3 + 1)] [] μ (RI K)))
   else
    SS G m_Mo_counted 84 [vr 7 0, vi x1, vi (x2 + 0), vi (x3 + 1)] [] μ (RI K)))) :
  SS G m_Mo_counted 84 [vr 7 0, vi x1, vi x2, vi x3] [] μ (RI K) :=
  wp_s (M := m_Mo_counted) (lk := lk_Mo) (tb := tb_Mo_counted_84) (cu := [(4, [true, true, true, true]), (84, [true, true, true, true]), (121, [true, true, true, true]), (157, [true, true, true, true])]) lk_Mo_ok (by decide +kernel) 22 true _ _ _ _ h
def tb_Mo_counted_121 : List En := [e0 121 (.iload_n 3) 1, eC 122 (.iconst 4) 1 4, eT 123 (.if_icmp .ge 32) 3 155, e0 126 (.iload_n 2) 1, e0 127 (.iload_n 1) 1, eC 128 (.bipush 8) 2 8, eT 130 (.if_icmp .ne 16) 3 146, e0 133 (.aload_n 0) 1, eF 134 (.getfield 26) 3 7 8, e0 137 (.iload_n 3) 1, e0 138 .iaload 1, eT 139 (.ifCond .lt 7) 3 146, eC 142 (.iconst 1) 1 1, eT 143 (.goto 4) 3 147, eC 146 (.iconst 0) 1 0, e0 147 .iadd 1, e0 148 (.istore_n 2) 1, eC 149 (.iinc 3 1) 3 1, eT 152 (.goto (-31)) 3 121, eC 155 (.iconst 0) 1 0, e0 156 (.istore_n 3) 1]
set_option maxRecDepth 100000 in
theorem b_Mo_counted_121 {G : Ge} (x1 : Int32) (x2 : Int32) (x3 : Int32) {μ : Mm} {K : Int32 → Mm → Prop} (h :
  (if (4 : Int32) ≤ x3 then
   SS G m_Mo_counted 157 [vr 7 0, vi x1, vi x2, vi 0] [] μ (RI K)
  else
   (if x1 = 8 then
    (vp_in x3 4 ∧
     (if (μ.1 30 0 x3.toNatClampNeg) < 0 then
      SS G m_Mo_counted 121 [vr 7 0, vi x1, vi (x2 + 0), vi (x3 + 1)] [] μ (RI K)
     else
      SS G m_Mo_counted 121 [vr 7 0, vi x1, vi (x2 + 1), vi (x3 + 1)] [] μ (RI K)))
   else
    SS G m_Mo_counted 121 [vr 7 0, vi x1, vi (x2 + 0), vi (x3 + 1)] [] μ (RI K)))) :
  SS G m_Mo_counted 121 [vr 7 0, vi x1, vi x2, vi x3] [] μ (RI K) :=
  wp_s (M := m_Mo_counted) (lk := lk_Mo) (tb := tb_Mo_counted_121) (cu := [(4, [true, true, true, true]), (84, [true, true, true, true]), (121, [true, true, true, true]), (157, [true, true, true, true])]) lk_Mo_ok (by decide +kernel) 22 true _ _ _ _ h
def tb_Mo_counted_157 : List En := [e0 157 (.iload_n 3) 1, eC 158 (.iconst 3) 1 3, eT 159 (.if_icmp .ge 32) 3 191, e0 162 (.iload_n 2) 1, e0 163 (.iload_n 1) 1, eC 164 (.bipush 9) 2 9, eT 166 (.if_icmp .ne 16) 3 182, e0 169 (.aload_n 0) 1, eF 170 (.getfield 54) 3 7 23, e0 173 (.iload_n 3) 1, e0 174 .baload 1, eT 175 (.ifCond .eq 7) 3 182, eC 178 (.iconst 1) 1 1, eT 179 (.goto 4) 3 183, eC 182 (.iconst 0) 1 0, e0 183 .iadd 1, e0 184 (.istore_n 2) 1, eC 185 (.iinc 3 1) 3 1, eT 188 (.goto (-31)) 3 157, e0 191 (.iload_n 1) 1, eS 192 (.tableswitch 55 0 3 #[32, 37, 42, 50]) 32 247 [(0, 224), (1, 229), (2, 234), (3, 242)], e0 224 (.aload_n 0) 1, eF 225 (.getfield 154) 3 7 10, e0 228 .ireturn 1, e0 229 (.aload_n 0) 1, eF 230 (.getfield 157) 3 7 11, e0 233 .ireturn 1, e0 234 (.aload_n 0) 1, eF 235 (.getfield 48) 3 7 20, eC 238 (.bipush 15) 2 15, e0 240 .iaload 1, e0 241 .ireturn 1, e0 242 (.aload_n 0) 1, eF 243 (.getfield 160) 3 7 21, e0 246 .ireturn 1, e0 247 (.iload_n 2) 1, e0 248 .ireturn 1]
set_option maxRecDepth 100000 in
theorem b_Mo_counted_157 {G : Ge} (x1 : Int32) (x2 : Int32) (x3 : Int32) {μ : Mm} {K : Int32 → Mm → Prop} (h :
  (if (3 : Int32) ≤ x3 then
   (if x1 = 0 then
    K (μ.1 7 0 10) μ
   else
    (if x1 = 1 then
     K (μ.1 7 0 11) μ
    else
     (if x1 = 2 then
      (vp_in 15 16 ∧
       K (μ.1 37 0 (Int32.toNatClampNeg 15)) μ)
     else
      (if x1 = 3 then
       K (μ.1 7 0 21) μ
      else
       K x2 μ))))
  else
   (if x1 = 9 then
    (vp_in x3 3 ∧
     (if (μ.1 39 0 x3.toNatClampNeg) = 0 then
      SS G m_Mo_counted 157 [vr 7 0, vi x1, vi (x2 + 0), vi (x3 + 1)] [] μ (RI K)
     else
      SS G m_Mo_counted 157 [vr 7 0, vi x1, vi (x2 + 1), vi (x3 + 1)] [] μ (RI K)))
   else
    SS G m_Mo_counted 157 [vr 7 0, vi x1, vi (x2 + 0), vi (x3 + 1)] [] μ (RI K)))) :
  SS G m_Mo_counted 157 [vr 7 0, vi x1, vi x2, vi x3] [] μ (RI K) :=
  wp_s (M := m_Mo_counted) (lk := lk_Mo) (tb := tb_Mo_counted_157) (cu := [(4, [true, true, true, true]), (84, [true, true, true, true]), (121, [true, true, true, true]), (157, [true, true, true, true])]) lk_Mo_ok (by decide +kernel) 22 true _ _ _ _ h
def tc_Mo_count : List En := [e0 0 (.iload_n 1) 1, eC 1 (.iconst 0) 1 0, eC 2 (.bipush 9) 2 9, eT 4 (.invokestatic 99) 3 0, eT 7 (.ifCond .eq 11) 3 18, e0 10 (.aload_n 0) 1, e0 11 (.iload_n 1) 1, eT 12 (.invokevirtual 285) 3 47, eT 15 (.goto 4) 3 19, eC 18 (.iconst (-1)) 1 (-1), e0 19 .ireturn 1]
set_option maxRecDepth 100000 in
theorem c_Mo_count {G : Ge} (x1 : Int32) {μ : Mm} {K : Int32 → Mm → Prop} (h :
  (CS G m_Mo_in [vi x1, vi 0, vi 9] μ (RI fun v1 μ1 =>
   (if v1 = 0 then
    K (-1) μ1
   else
    (CS G m_Mo_counted [vr 7 0, vi x1] μ1 (RI fun v2 μ2 =>
     K v2 μ2)))))) :
  CS G m_Mo_count [vr 7 0, vi x1] μ (RI K) :=
  CS_of pf_Mo_count (Nat.le_of_ble_eq_true rfl) (show SS G m_Mo_count 0 [vr 7 0, vi x1] [] μ (RI K) from wp_s (M := m_Mo_count) (lk := lk_Mo) (tb := tc_Mo_count) (cu := []) lk_Mo_ok (by decide +kernel) 13 true 0 _ _ _ h)
def tc_Mo_mix : List En := [e0 0 (.aload_n 0) 1, eD 1 (.ldc2_w 288) 3 31, e0 4 (.aload_n 0) 1, eF 5 (.getfield 290) 3 7 36, e0 8 .lmul 1, e0 9 (.lload_n 1) 1, e0 10 .ladd 1, eF 11 (.putfield 290) 3 7 36, e0 14 .return_ 1]
set_option maxRecDepth 100000 in
theorem c_Mo_mix {G : Ge} (l1 : Int64) {μ : Mm} {K : Mm → Prop} (h :
  K (wL μ 7 0 36 ((31 * (μ.2 7 0 36)) + l1))) :
  CS G m_Mo_mix [vr 7 0, vl l1] μ (RV K) :=
  CS_of pf_Mo_mix (Nat.le_of_ble_eq_true rfl) (show SS G m_Mo_mix 0 [vr 7 0, vl l1, un] [] μ (RV K) from wp_s (M := m_Mo_mix) (lk := lk_Mo) (tb := tc_Mo_mix) (cu := []) lk_Mo_ok (by decide +kernel) 12 true 0 _ _ _ h)
def tc_Mo_mixStreet : List En := [eC 0 (.iconst 0) 1 0, e0 1 (.istore_n 1) 1]
set_option maxRecDepth 100000 in
theorem c_Mo_mixStreet {G : Ge}  {μ : Mm} {K : Mm → Prop} (h :
  SS G m_Mo_mixStreet 2 [vr 7 0, vi 0, un] [] μ (RV K)) :
  CS G m_Mo_mixStreet [vr 7 0] μ (RV K) :=
  CS_of pf_Mo_mixStreet (Nat.le_of_ble_eq_true rfl) (show SS G m_Mo_mixStreet 0 [vr 7 0, un, un] [] μ (RV K) from wp_s (M := m_Mo_mixStreet) (lk := lk_Mo) (tb := tc_Mo_mixStreet) (cu := [(2, [true, true, false]), (29, [true, true, false]), (39, [true, true, true]), (70, [true, true, false])]) lk_Mo_ok (by decide +kernel) 6 true 0 _ _ _ h)
def tb_Mo_mixStreet_2 : List En := [e0 2 (.iload_n 1) 1, e0 3 (.aload_n 0) 1, eF 4 (.getfield 157) 3 7 11, eT 7 (.if_icmp .ge 20) 3 27, e0 10 (.aload_n 0) 1, e0 11 (.aload_n 0) 1, eF 12 (.getfield 39) 3 7 14, e0 15 (.iload_n 1) 1, e0 16 .iaload 1, e0 17 .i2l 1, eT 18 (.invokevirtual 293) 3 48, eC 21 (.iinc 1 1) 3 1, eT 24 (.goto (-22)) 3 2, eC 27 (.iconst 0) 1 0, e0 28 (.istore_n 1) 1]
set_option maxRecDepth 100000 in
theorem b_Mo_mixStreet_2 {G : Ge} (x1 : Int32) {μ : Mm} {K : Mm → Prop} (h :
  (if (μ.1 7 0 11) ≤ x1 then
   SS G m_Mo_mixStreet 29 [vr 7 0, vi 0, un] [] μ (RV K)
  else
   (vp_in x1 8 ∧
    (CS G m_Mo_mix [vr 7 0, vl (Int32.toInt64 (μ.1 34 0 x1.toNatClampNeg))] μ (RV fun μ1 =>
     SS G m_Mo_mixStreet 2 [vr 7 0, vi (x1 + 1), un] [] μ1 (RV K)))))) :
  SS G m_Mo_mixStreet 2 [vr 7 0, vi x1, un] [] μ (RV K) :=
  wp_s (M := m_Mo_mixStreet) (lk := lk_Mo) (tb := tb_Mo_mixStreet_2) (cu := [(2, [true, true, false]), (29, [true, true, false]), (39, [true, true, true]), (70, [true, true, false])]) lk_Mo_ok (by decide +kernel) 17 true _ _ _ _ h
def tb_Mo_mixStreet_29 : List En := [e0 29 (.iload_n 1) 1, e0 30 (.aload_n 0) 1, eF 31 (.getfield 154) 3 7 10, eT 34 (.if_icmp .ge 34) 3 68, eC 37 (.iconst 0) 1 0, e0 38 (.istore_n 2) 1, eC 68 (.iconst 0) 1 0, e0 69 (.istore_n 1) 1]
set_option maxRecDepth 100000 in
theorem b_Mo_mixStreet_29 {G : Ge} (x1 : Int32) {μ : Mm} {K : Mm → Prop} (h :
  (if (μ.1 7 0 10) ≤ x1 then
   SS G m_Mo_mixStreet 70 [vr 7 0, vi 0, un] [] μ (RV K)
  else
   SS G m_Mo_mixStreet 39 [vr 7 0, vi x1, vi 0] [] μ (RV K))) :
  SS G m_Mo_mixStreet 29 [vr 7 0, vi x1, un] [] μ (RV K) :=
  wp_s (M := m_Mo_mixStreet) (lk := lk_Mo) (tb := tb_Mo_mixStreet_29) (cu := [(2, [true, true, false]), (29, [true, true, false]), (39, [true, true, true]), (70, [true, true, false])]) lk_Mo_ok (by decide +kernel) 10 true _ _ _ _ h
def tb_Mo_mixStreet_39 : List En := [e0 39 (.iload_n 2) 1, eC 40 (.bipush 6) 2 6, eT 42 (.if_icmp .ge 20) 3 62, e0 45 (.aload_n 0) 1, e0 46 (.aload_n 0) 1, e0 47 (.iload_n 1) 1, e0 48 (.iload_n 2) 1, eT 49 (.invokevirtual 191) 3 21, e0 52 .i2l 1, eT 53 (.invokevirtual 293) 3 48, eC 56 (.iinc 2 1) 3 1, eT 59 (.goto (-20)) 3 39, eC 62 (.iinc 1 1) 3 1, eT 65 (.goto (-36)) 3 29]
set_option maxRecDepth 100000 in
theorem b_Mo_mixStreet_39 {G : Ge} (x1 : Int32) (x2 : Int32) {μ : Mm} {K : Mm → Prop} (h :
  (if (6 : Int32) ≤ x2 then
   SS G m_Mo_mixStreet 29 [vr 7 0, vi (x1 + 1), un] [] μ (RV K)
  else
   (CS G m_Mo_houseTells [vr 7 0, vi x1, vi x2] μ (RI fun v1 μ1 =>
    (CS G m_Mo_mix [vr 7 0, vl (Int32.toInt64 v1)] μ1 (RV fun μ2 =>
     SS G m_Mo_mixStreet 39 [vr 7 0, vi x1, vi (x2 + 1)] [] μ2 (RV K))))))) :
  SS G m_Mo_mixStreet 39 [vr 7 0, vi x1, vi x2] [] μ (RV K) :=
  wp_s (M := m_Mo_mixStreet) (lk := lk_Mo) (tb := tb_Mo_mixStreet_39) (cu := [(2, [true, true, false]), (29, [true, true, false]), (39, [true, true, true]), (70, [true, true, false])]) lk_Mo_ok (by decide +kernel) 16 true _ _ _ _ h
def tb_Mo_mixStreet_70 : List En := [e0 70 (.iload_n 1) 1, eC 71 (.iconst 3) 1 3, eT 72 (.if_icmp .ge 35) 3 107, e0 75 (.aload_n 0) 1, e0 76 (.aload_n 0) 1, eF 77 (.getfield 54) 3 7 23, e0 80 (.iload_n 1) 1, e0 81 .baload 1, eT 82 (.ifCond .eq 13) 3 95, e0 85 (.aload_n 0) 1, eF 86 (.getfield 58) 3 7 24, e0 89 (.iload_n 1) 1, e0 90 .iaload 1, e0 91 .i2l 1, eT 92 (.goto 6) 3 98, eD 95 (.ldc2_w 297) 3 (-1), eT 98 (.invokevirtual 293) 3 48, eC 101 (.iinc 1 1) 3 1, eT 104 (.goto (-34)) 3 70, e0 107 .return_ 1]
set_option maxRecDepth 100000 in
theorem b_Mo_mixStreet_70 {G : Ge} (x1 : Int32) {μ : Mm} {K : Mm → Prop} (h :
  (if (3 : Int32) ≤ x1 then
   K μ
  else
   (vp_in x1 3 ∧
    (if (μ.1 39 0 x1.toNatClampNeg) = 0 then
     (CS G m_Mo_mix [vr 7 0, vl (-1)] μ (RV fun μ1 =>
      SS G m_Mo_mixStreet 70 [vr 7 0, vi (x1 + 1), un] [] μ1 (RV K)))
    else
     (vp_in x1 3 ∧
      (CS G m_Mo_mix [vr 7 0, vl (Int32.toInt64 (μ.1 40 0 x1.toNatClampNeg))] μ (RV fun μ2 =>
       SS G m_Mo_mixStreet 70 [vr 7 0, vi (x1 + 1), un] [] μ2 (RV K)))))))) :
  SS G m_Mo_mixStreet 70 [vr 7 0, vi x1, un] [] μ (RV K) :=
  wp_s (M := m_Mo_mixStreet) (lk := lk_Mo) (tb := tb_Mo_mixStreet_70) (cu := [(2, [true, true, false]), (29, [true, true, false]), (39, [true, true, true]), (70, [true, true, false])]) lk_Mo_ok (by decide +kernel) 22 true _ _ _ _ h
def tc_Mo_digest : List En := [e0 0 (.aload_n 0) 1, eD 1 (.ldc2_w 299) 3 17, eF 4 (.putfield 290) 3 7 36, eC 7 (.iconst 0) 1 0, e0 8 (.istore_n 1) 1]
set_option maxRecDepth 100000 in
theorem c_Mo_digest {G : Ge}  {μ : Mm} {K : Int64 → Mm → Prop} (h :
  SS G m_Mo_digest 9 [vr 7 0, vi 0, un] [] (wL μ 7 0 36 17) (RL K)) :
  CS G m_Mo_digest [vr 7 0] μ (RL K) :=
  CS_of pf_Mo_digest (Nat.le_of_ble_eq_true rfl) (show SS G m_Mo_digest 0 [vr 7 0, un, un] [] μ (RL K) from wp_s (M := m_Mo_digest) (lk := lk_Mo) (tb := tc_Mo_digest) (cu := [(9, [true, true, false]), (37, [true, true, false]), (56, [true, true, true]), (91, [true, true, false]), (109, [true, true, true])]) lk_Mo_ok (by decide +kernel) 9 true 0 _ _ _ h)
def tb_Mo_digest_9 : List En := [e0 9 (.iload_n 1) 1, eC 10 (.bipush 10) 2 10, eT 12 (.if_icmp .ge 19) 3 31, e0 15 (.aload_n 0) 1, e0 16 (.aload_n 0) 1, e0 17 (.iload_n 1) 1, eT 18 (.invokevirtual 285) 3 47, e0 21 .i2l 1, eT 22 (.invokevirtual 293) 3 48, eC 25 (.iinc 1 1) 3 1, eT 28 (.goto (-19)) 3 9, e0 31 (.aload_n 0) 1, eT 32 (.invokevirtual 301) 3 49, eC 35 (.iconst 0) 1 0, e0 36 (.istore_n 1) 1]
set_option maxRecDepth 100000 in
theorem b_Mo_digest_9 {G : Ge} (x1 : Int32) {μ : Mm} {K : Int64 → Mm → Prop} (h :
  (if (10 : Int32) ≤ x1 then
   (CS G m_Mo_mixStreet [vr 7 0] μ (RV fun μ1 =>
    SS G m_Mo_digest 37 [vr 7 0, vi 0, un] [] μ1 (RL K)))
  else
   (CS G m_Mo_counted [vr 7 0, vi x1] μ (RI fun v2 μ2 =>
    (CS G m_Mo_mix [vr 7 0, vl (Int32.toInt64 v2)] μ2 (RV fun μ3 =>
     SS G m_Mo_digest 9 [vr 7 0, vi (x1 + 1), un] [] μ3 (RL K))))))) :
  SS G m_Mo_digest 9 [vr 7 0, vi x1, un] [] μ (RL K) :=
  wp_s (M := m_Mo_digest) (lk := lk_Mo) (tb := tb_Mo_digest_9) (cu := [(9, [true, true, false]), (37, [true, true, false]), (56, [true, true, true]), (91, [true, true, false]), (109, [true, true, true])]) lk_Mo_ok (by decide +kernel) 15 true _ _ _ _ h
def tb_Mo_digest_37 : List En := [e0 37 (.iload_n 1) 1, eC 38 (.bipush 6) 2 6, eT 40 (.if_icmp .ge 49) 3 89, e0 43 (.aload_n 0) 1, e0 44 (.aload_n 0) 1, eF 45 (.getfield 17) 3 7 5, e0 48 (.iload_n 1) 1, e0 49 .iaload 1, e0 50 .i2l 1, eT 51 (.invokevirtual 293) 3 48, eC 54 (.iconst 0) 1 0, e0 55 (.istore_n 2) 1, eC 89 (.iconst 0) 1 0, e0 90 (.istore_n 1) 1]
set_option maxRecDepth 100000 in
theorem b_Mo_digest_37 {G : Ge} (x1 : Int32) {μ : Mm} {K : Int64 → Mm → Prop} (h :
  (if (6 : Int32) ≤ x1 then
   SS G m_Mo_digest 91 [vr 7 0, vi 0, un] [] μ (RL K)
  else
   (vp_in x1 6 ∧
    (CS G m_Mo_mix [vr 7 0, vl (Int32.toInt64 (μ.1 27 0 x1.toNatClampNeg))] μ (RV fun μ1 =>
     SS G m_Mo_digest 56 [vr 7 0, vi x1, vi 0] [] μ1 (RL K)))))) :
  SS G m_Mo_digest 37 [vr 7 0, vi x1, un] [] μ (RL K) :=
  wp_s (M := m_Mo_digest) (lk := lk_Mo) (tb := tb_Mo_digest_37) (cu := [(9, [true, true, false]), (37, [true, true, false]), (56, [true, true, true]), (91, [true, true, false]), (109, [true, true, true])]) lk_Mo_ok (by decide +kernel) 16 true _ _ _ _ h
def tb_Mo_digest_56 : List En := [e0 56 (.iload_n 2) 1, e0 57 (.aload_n 0) 1, eF 58 (.getfield 17) 3 7 5, e0 61 (.iload_n 1) 1, e0 62 .iaload 1, eT 63 (.if_icmp .ge 20) 3 83, e0 66 (.aload_n 0) 1, e0 67 (.aload_n 0) 1, e0 68 (.iload_n 1) 1, e0 69 (.iload_n 2) 1, eT 70 (.invokevirtual 117) 3 3, e0 73 .i2l 1, eT 74 (.invokevirtual 293) 3 48, eC 77 (.iinc 2 1) 3 1, eT 80 (.goto (-24)) 3 56, eC 83 (.iinc 1 1) 3 1, eT 86 (.goto (-49)) 3 37]
set_option maxRecDepth 100000 in
theorem b_Mo_digest_56 {G : Ge} (x1 : Int32) (x2 : Int32) {μ : Mm} {K : Int64 → Mm → Prop} (h :
  (vp_in x1 6 ∧
   (if (μ.1 27 0 x1.toNatClampNeg) ≤ x2 then
    SS G m_Mo_digest 37 [vr 7 0, vi (x1 + 1), un] [] μ (RL K)
   else
    (CS G m_Mo_rowAt [vr 7 0, vi x1, vi x2] μ (RI fun v1 μ1 =>
     (CS G m_Mo_mix [vr 7 0, vl (Int32.toInt64 v1)] μ1 (RV fun μ2 =>
      SS G m_Mo_digest 56 [vr 7 0, vi x1, vi (x2 + 1)] [] μ2 (RL K)))))))) :
  SS G m_Mo_digest 56 [vr 7 0, vi x1, vi x2] [] μ (RL K) :=
  wp_s (M := m_Mo_digest) (lk := lk_Mo) (tb := tb_Mo_digest_56) (cu := [(9, [true, true, false]), (37, [true, true, false]), (56, [true, true, true]), (91, [true, true, false]), (109, [true, true, true])]) lk_Mo_ok (by decide +kernel) 19 true _ _ _ _ h
def tb_Mo_digest_91 : List En := [e0 91 (.iload_n 1) 1, eC 92 (.iconst 4) 1 4, eT 93 (.if_icmp .ge 49) 3 142, e0 96 (.aload_n 0) 1, e0 97 (.aload_n 0) 1, eF 98 (.getfield 26) 3 7 8, e0 101 (.iload_n 1) 1, e0 102 .iaload 1, e0 103 .i2l 1, eT 104 (.invokevirtual 293) 3 48, eC 107 (.iconst 0) 1 0, e0 108 (.istore_n 2) 1, e0 142 (.aload_n 0) 1, eF 143 (.getfield 290) 3 7 36, e0 146 .lreturn 1]
set_option maxRecDepth 100000 in
theorem b_Mo_digest_91 {G : Ge} (x1 : Int32) {μ : Mm} {K : Int64 → Mm → Prop} (h :
  (if (4 : Int32) ≤ x1 then
   K (μ.2 7 0 36) μ
  else
   (vp_in x1 4 ∧
    (CS G m_Mo_mix [vr 7 0, vl (Int32.toInt64 (μ.1 30 0 x1.toNatClampNeg))] μ (RV fun μ1 =>
     SS G m_Mo_digest 109 [vr 7 0, vi x1, vi 0] [] μ1 (RL K)))))) :
  SS G m_Mo_digest 91 [vr 7 0, vi x1, un] [] μ (RL K) :=
  wp_s (M := m_Mo_digest) (lk := lk_Mo) (tb := tb_Mo_digest_91) (cu := [(9, [true, true, false]), (37, [true, true, false]), (56, [true, true, true]), (91, [true, true, false]), (109, [true, true, true])]) lk_Mo_ok (by decide +kernel) 16 true _ _ _ _ h
def tb_Mo_digest_109 : List En := [e0 109 (.iload_n 2) 1, e0 110 (.aload_n 0) 1, eF 111 (.getfield 26) 3 7 8, e0 114 (.iload_n 1) 1, e0 115 .iaload 1, eT 116 (.if_icmp .ge 20) 3 136, e0 119 (.aload_n 0) 1, e0 120 (.aload_n 0) 1, e0 121 (.iload_n 1) 1, e0 122 (.iload_n 2) 1, eT 123 (.invokevirtual 130) 3 6, e0 126 .i2l 1, eT 127 (.invokevirtual 293) 3 48, eC 130 (.iinc 2 1) 3 1, eT 133 (.goto (-24)) 3 109, eC 136 (.iinc 1 1) 3 1, eT 139 (.goto (-48)) 3 91]
set_option maxRecDepth 100000 in
theorem b_Mo_digest_109 {G : Ge} (x1 : Int32) (x2 : Int32) {μ : Mm} {K : Int64 → Mm → Prop} (h :
  (vp_in x1 4 ∧
   (if (μ.1 30 0 x1.toNatClampNeg) ≤ x2 then
    SS G m_Mo_digest 91 [vr 7 0, vi (x1 + 1), un] [] μ (RL K)
   else
    (CS G m_Mo_byteAt [vr 7 0, vi x1, vi x2] μ (RI fun v1 μ1 =>
     (CS G m_Mo_mix [vr 7 0, vl (Int32.toInt64 v1)] μ1 (RV fun μ2 =>
      SS G m_Mo_digest 109 [vr 7 0, vi x1, vi (x2 + 1)] [] μ2 (RL K)))))))) :
  SS G m_Mo_digest 109 [vr 7 0, vi x1, vi x2] [] μ (RL K) :=
  wp_s (M := m_Mo_digest) (lk := lk_Mo) (tb := tb_Mo_digest_109) (cu := [(9, [true, true, false]), (37, [true, true, false]), (56, [true, true, true]), (91, [true, true, false]), (109, [true, true, true])]) lk_Mo_ok (by decide +kernel) 19 true _ _ _ _ h
