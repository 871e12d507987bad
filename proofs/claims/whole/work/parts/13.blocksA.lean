def tc_Jm_max : List En := [e0 0 (.iload_n 0) 1, e0 1 (.iload_n 1) 1, eT 2 (.if_icmp .lt 7) 3 9, e0 5 (.iload_n 0) 1, eT 6 (.goto 4) 3 10, e0 9 (.iload_n 1) 1, e0 10 .ireturn 1]
set_option maxRecDepth 100000 in
theorem c_Jm_max {G : Ge} (x0 : Int32) (x1 : Int32) {μ : Mm} {K : Int32 → Mm → Prop} (h :
  (if x0 < x1 then
   K x1 μ
  else
   K x0 μ)) :
  CS G m_Jm_max [vi x0, vi x1] μ (RI K) :=
  CS_of pf_Jm_max (Nat.le_of_ble_eq_true rfl) (show SS G m_Jm_max 0 [vi x0, vi x1] [] μ (RI K) from wp_s (M := m_Jm_max) (lk := lk_Jm) (tb := tc_Jm_max) (cu := []) lk_Jm_ok (by decide +kernel) 9 true 0 _ _ _ h)
def tc_Cs_noRow : List En := [e0 0 (.iload_n 1) 1, eT 1 (.ifCond .lt 9) 3 10, e0 4 (.iload_n 1) 1, eC 5 (.bipush 6) 2 6, eT 7 (.if_icmp .lt 7) 3 14, eC 10 (.iconst 1) 1 1, eT 11 (.goto 4) 3 15, eC 14 (.iconst 0) 1 0, e0 15 .ireturn 1]
set_option maxRecDepth 100000 in
theorem c_Cs_noRow {G : Ge} (x1 : Int32) {μ : Mm} {K : Int32 → Mm → Prop} (h :
  (if x1 < 0 then
   (((1 : Int32) = 0 ∨ (1 : Int32) = 1) ∧ K 1 μ)
  else
   (if x1 < 6 then
    (((0 : Int32) = 0 ∨ (0 : Int32) = 1) ∧ K 0 μ)
   else
    (((1 : Int32) = 0 ∨ (1 : Int32) = 1) ∧ K 1 μ)))) :
  CS G m_Cs_noRow [vr 6 0, vi x1] μ (RI K) :=
  CS_of pf_Cs_noRow (Nat.le_of_ble_eq_true rfl) (show SS G m_Cs_noRow 0 [vr 6 0, vi x1] [] μ (RI K) from wp_s (M := m_Cs_noRow) (lk := lk_Cs) (tb := tc_Cs_noRow) (cu := []) lk_Cs_ok (by decide +kernel) 11 true 0 _ _ _ h)
def tc_Cs_answer : List En := [e0 0 (.aload_n 0) 1, e0 1 (.iload_n 1) 1, eF 2 (.putfield 54) 3 6 8, e0 5 (.aload_n 0) 1, eF 6 (.getfield 50) 3 6 7, e0 9 (.iload_n 1) 1, e0 10 .dup2 1, e0 11 .iaload 1, eC 12 (.iconst 1) 1 1, e0 13 .iadd 1, e0 14 .iastore 1, eC 15 (.bipush (-3)) 2 (-3), e0 17 .ireturn 1]
set_option maxRecDepth 100000 in
theorem c_Cs_answer {G : Ge} (x1 : Int32) {μ : Mm} {K : Int32 → Mm → Prop} (h :
  (vp_in x1 6 ∧
   (vp_in x1 6 ∧
    K (-3) (wI (wI μ 6 0 8 x1) 17 0 x1.toNatClampNeg (((wI μ 6 0 8 x1).1 17 0 x1.toNatClampNeg) + 1))))) :
  CS G m_Cs_answer [vr 6 0, vi x1] μ (RI K) :=
  CS_of pf_Cs_answer (Nat.le_of_ble_eq_true rfl) (show SS G m_Cs_answer 0 [vr 6 0, vi x1] [] μ (RI K) from wp_s (M := m_Cs_answer) (lk := lk_Cs) (tb := tc_Cs_answer) (cu := []) lk_Cs_ok (by decide +kernel) 16 true 0 _ _ _ h)
def tc_Ja_rangeCheck : List En := [e0 0 (.iload_n 1) 1, e0 1 (.iload_n 2) 1, eT 2 (.if_icmp .le 44) 3 46, e0 46 (.iload_n 1) 1, eT 47 (.ifCond .ge 12) 3 59, e0 59 (.iload_n 2) 1, e0 60 (.iload_n 0) 1, eT 61 (.if_icmp .le 12) 3 73, e0 73 .return_ 1]
set_option maxRecDepth 100000 in
theorem c_Ja_rangeCheck {G : Ge} (x0 : Int32) (x1 : Int32) (x2 : Int32) {μ : Mm} {K : Mm → Prop} (h :
  (if x1 ≤ x2 then
   (if 0 ≤ x1 then
    (if x2 ≤ x0 then
     K μ
    else
     False)
   else
    False)
  else
   False)) :
  CS G m_Ja_rangeCheck [vi x0, vi x1, vi x2] μ (RV K) :=
  CS_of pf_Ja_rangeCheck (Nat.le_of_ble_eq_true rfl) (show SS G m_Ja_rangeCheck 0 [vi x0, vi x1, vi x2] [] μ (RV K) from wp_s (M := m_Ja_rangeCheck) (lk := lk_Ja) (tb := tc_Ja_rangeCheck) (cu := []) lk_Ja_ok (by decide +kernel) 12 true 0 _ _ _ h)
def tc_Ja_fill4_40 : List En := [e0 0 (.aload_n 0) 1, e0 1 .arraylength 1, e0 2 (.iload_n 1) 1, e0 3 (.iload_n 2) 1, eT 4 (.invokestatic 13) 3 0, e0 7 (.iload_n 1) 1, e0 8 (.istore 4) 2]
set_option maxRecDepth 100000 in
theorem c_Ja_fill4_40 {G : Ge} (i0 : Nat) (x1 : Int32) (x2 : Int32) (x3 : Int32) {μ : Mm} {K : Mm → Prop} (h :
  (CS G m_Ja_rangeCheck [vi (nI 40), vi x1, vi x2] μ (RV fun μ1 =>
   SS G m_Ja_fill4 10 [vr 18 i0, un, vi x2, vi x3, vi x1] [] μ1 (RV K)))) :
  CS G m_Ja_fill4 [vr 18 i0, vi x1, vi x2, vi x3] μ (RV K) :=
  CS_of pf_Ja_fill4 (Nat.le_of_ble_eq_true rfl) (show SS G m_Ja_fill4 0 [vr 18 i0, vi x1, vi x2, vi x3, un] [] μ (RV K) from wp_s (M := m_Ja_fill4) (lk := lk_Ja) (tb := tc_Ja_fill4_40) (cu := [(10, [true, false, true, true, true])]) lk_Ja_ok (by decide +kernel) 11 true 0 _ _ _ h)
def tb_Ja_fill4_40_10 : List En := [e0 10 (.iload 4) 2, e0 12 (.iload_n 2) 1, eT 13 (.if_icmp .ge 14) 3 27, e0 16 (.aload_n 0) 1, e0 17 (.iload 4) 2, e0 19 (.iload_n 3) 1, e0 20 .iastore 1, eC 21 (.iinc 4 1) 3 1, eT 24 (.goto (-14)) 3 10, e0 27 .return_ 1]
set_option maxRecDepth 100000 in
theorem b_Ja_fill4_40_10 {G : Ge} (i0 : Nat) (x2 : Int32) (x3 : Int32) (x4 : Int32) {μ : Mm} {K : Mm → Prop} (h :
  (if x2 ≤ x4 then
   K μ
  else
   (vp_in x4 40 ∧
    SS G m_Ja_fill4 10 [vr 18 i0, un, vi x2, vi x3, vi (x4 + 1)] [] (wI μ 18 i0 x4.toNatClampNeg x3) (RV K)))) :
  SS G m_Ja_fill4 10 [vr 18 i0, un, vi x2, vi x3, vi x4] [] μ (RV K) :=
  wp_s (M := m_Ja_fill4) (lk := lk_Ja) (tb := tb_Ja_fill4_40_10) (cu := [(10, [true, false, true, true, true])]) lk_Ja_ok (by decide +kernel) 13 true _ _ _ _ h
def tc_Ja_fill4_60 : List En := [e0 0 (.aload_n 0) 1, e0 1 .arraylength 1, e0 2 (.iload_n 1) 1, e0 3 (.iload_n 2) 1, eT 4 (.invokestatic 13) 3 0, e0 7 (.iload_n 1) 1, e0 8 (.istore 4) 2]
set_option maxRecDepth 100000 in
theorem c_Ja_fill4_60 {G : Ge} (i0 : Nat) (x1 : Int32) (x2 : Int32) (x3 : Int32) {μ : Mm} {K : Mm → Prop} (h :
  (CS G m_Ja_rangeCheck [vi (nI 60), vi x1, vi x2] μ (RV fun μ1 =>
   SS G m_Ja_fill4 10 [vr 19 i0, un, vi x2, vi x3, vi x1] [] μ1 (RV K)))) :
  CS G m_Ja_fill4 [vr 19 i0, vi x1, vi x2, vi x3] μ (RV K) :=
  CS_of pf_Ja_fill4 (Nat.le_of_ble_eq_true rfl) (show SS G m_Ja_fill4 0 [vr 19 i0, vi x1, vi x2, vi x3, un] [] μ (RV K) from wp_s (M := m_Ja_fill4) (lk := lk_Ja) (tb := tc_Ja_fill4_60) (cu := [(10, [true, false, true, true, true])]) lk_Ja_ok (by decide +kernel) 11 true 0 _ _ _ h)
def tb_Ja_fill4_60_10 : List En := [e0 10 (.iload 4) 2, e0 12 (.iload_n 2) 1, eT 13 (.if_icmp .ge 14) 3 27, e0 16 (.aload_n 0) 1, e0 17 (.iload 4) 2, e0 19 (.iload_n 3) 1, e0 20 .iastore 1, eC 21 (.iinc 4 1) 3 1, eT 24 (.goto (-14)) 3 10, e0 27 .return_ 1]
set_option maxRecDepth 100000 in
theorem b_Ja_fill4_60_10 {G : Ge} (i0 : Nat) (x2 : Int32) (x3 : Int32) (x4 : Int32) {μ : Mm} {K : Mm → Prop} (h :
  (if x2 ≤ x4 then
   K μ
  else
   (vp_in x4 60 ∧
    SS G m_Ja_fill4 10 [vr 19 i0, un, vi x2, vi x3, vi (x4 + 1)] [] (wI μ 19 i0 x4.toNatClampNeg x3) (RV K)))) :
  SS G m_Ja_fill4 10 [vr 19 i0, un, vi x2, vi x3, vi x4] [] μ (RV K) :=
  wp_s (M := m_Ja_fill4) (lk := lk_Ja) (tb := tb_Ja_fill4_60_10) (cu := [(10, [true, false, true, true, true])]) lk_Ja_ok (by decide +kernel) 13 true _ _ _ _ h
def tc_Ro_begin_R : List En := [e0 0 (.aload_n 0) 1, e0 1 (.iload_n 1) 1, eF 2 (.putfield 9) 3 3 1, e0 5 (.aload_n 0) 1, eF 6 (.getfield 21) 3 3 0, eC 9 (.iconst 0) 1 0, e0 10 (.iload_n 1) 1, e0 11 (.iload_n 2) 1, eT 12 (.invokestatic 25) 3 1, e0 15 .return_ 1]
set_option maxRecDepth 100000 in
theorem c_Ro_begin_R {G : Ge} (i0 : Nat) (x1 : Int32) (x2 : Int32) {μ : Mm} {K : Mm → Prop} (h :
  (CS G m_Ja_fill4 [vr 18 i0, vi 0, vi x1, vi x2] (wI μ 3 i0 1 x1) (RV fun μ1 =>
   K μ1))) :
  CS G m_Ro_begin [vr 3 i0, vi x1, vi x2] μ (RV K) :=
  CS_of pf_Ro_begin (Nat.le_of_ble_eq_true rfl) (show SS G m_Ro_begin 0 [vr 3 i0, vi x1, vi x2] [] μ (RV K) from wp_s (M := m_Ro_begin) (lk := lk_Ro) (tb := tc_Ro_begin_R) (cu := []) lk_Ro_ok (by decide +kernel) 13 true 0 _ _ _ h)
def tc_Ro_begin_T : List En := [e0 0 (.aload_n 0) 1, e0 1 (.iload_n 1) 1, eF 2 (.putfield 9) 3 3 1, e0 5 (.aload_n 0) 1, eF 6 (.getfield 21) 3 3 0, eC 9 (.iconst 0) 1 0, e0 10 (.iload_n 1) 1, e0 11 (.iload_n 2) 1, eT 12 (.invokestatic 25) 3 1, e0 15 .return_ 1]
set_option maxRecDepth 100000 in
theorem c_Ro_begin_T {G : Ge} (i0 : Nat) (x1 : Int32) (x2 : Int32) {μ : Mm} {K : Mm → Prop} (h :
  (CS G m_Ja_fill4 [vr 19 i0, vi 0, vi x1, vi x2] (wI μ 8 i0 1 x1) (RV fun μ1 =>
   K μ1))) :
  CS G m_Ro_begin [vr 8 i0, vi x1, vi x2] μ (RV K) :=
  CS_of pf_Ro_begin (Nat.le_of_ble_eq_true rfl) (show SS G m_Ro_begin 0 [vr 8 i0, vi x1, vi x2] [] μ (RV K) from wp_s (M := m_Ro_begin) (lk := lk_Ro) (tb := tc_Ro_begin_T) (cu := []) lk_Ro_ok (by decide +kernel) 13 true 0 _ _ _ h)
def tc_Cs_row : List En := [e0 0 (.aload_n 0) 1, e0 1 (.iload_n 1) 1, eT 2 (.invokevirtual 71) 3 0, eT 5 (.ifCond .ne 9) 3 14, e0 8 (.iload_n 2) 1, eC 9 (.bipush 40) 2 40, eT 11 (.if_icmp .le 5) 3 16, eC 14 (.iconst (-1)) 1 (-1), e0 15 .ireturn 1, e0 16 (.iload_n 2) 1, eT 17 (.ifCond .ge 9) 3 26, e0 20 (.aload_n 0) 1, eC 21 (.iconst 5) 1 5, eT 22 (.invokevirtual 75) 3 1, e0 25 .ireturn 1, e0 26 (.aload_n 0) 1, eF 27 (.getfield 11) 3 6 0, e0 30 (.iload_n 1) 1, e0 31 .aaload 1, e0 32 (.iload_n 2) 1, eC 33 (.iconst 0) 1 0, eT 34 (.invokevirtual 79) 3 2, e0 37 (.iload_n 2) 1, e0 38 .ireturn 1]
set_option maxRecDepth 100000 in
theorem c_Cs_row {G : Ge} (x1 : Int32) (x2 : Int32) {μ : Mm} {K : Int32 → Mm → Prop} (h :
  (CS G m_Cs_noRow [vr 6 0, vi x1] μ (RI fun v1 μ1 =>
   (if v1 = 0 then
    (if x2 ≤ 40 then
     (if 0 ≤ x2 then
      (vp_in x1 6 ∧
       (CS G m_Ro_begin [vr 3 x1.toNatClampNeg, vi x2, vi 0] μ1 (RV fun μ2 =>
        K x2 μ2)))
     else
      (CS G m_Cs_answer [vr 6 0, vi 5] μ1 (RI fun v3 μ3 =>
       K v3 μ3)))
    else
     K (-1) μ1)
   else
    K (-1) μ1)))) :
  CS G m_Cs_row [vr 6 0, vi x1, vi x2] μ (RI K) :=
  CS_of pf_Cs_row (Nat.le_of_ble_eq_true rfl) (show SS G m_Cs_row 0 [vr 6 0, vi x1, vi x2] [] μ (RI K) from wp_s (M := m_Cs_row) (lk := lk_Cs) (tb := tc_Cs_row) (cu := []) lk_Cs_ok (by decide +kernel) 21 true 0 _ _ _ h)
def tc_Ro_isMissing_R : List En := [e0 0 (.aload_n 0) 1, eF 1 (.getfield 9) 3 3 1, eT 4 (.ifCond .ge 7) 3 11, eC 7 (.iconst 1) 1 1, eT 8 (.goto 4) 3 12, eC 11 (.iconst 0) 1 0, e0 12 .ireturn 1]
set_option maxRecDepth 100000 in
theorem c_Ro_isMissing_R {G : Ge} (i0 : Nat) {μ : Mm} {K : Int32 → Mm → Prop} (h :
  (if 0 ≤ (μ.1 3 i0 1) then
   (((0 : Int32) = 0 ∨ (0 : Int32) = 1) ∧ K 0 μ)
  else
   (((1 : Int32) = 0 ∨ (1 : Int32) = 1) ∧ K 1 μ))) :
  CS G m_Ro_isMissing [vr 3 i0] μ (RI K) :=
  CS_of pf_Ro_isMissing (Nat.le_of_ble_eq_true rfl) (show SS G m_Ro_isMissing 0 [vr 3 i0] [] μ (RI K) from wp_s (M := m_Ro_isMissing) (lk := lk_Ro) (tb := tc_Ro_isMissing_R) (cu := []) lk_Ro_ok (by decide +kernel) 9 true 0 _ _ _ h)
def tc_Ro_isMissing_T : List En := [e0 0 (.aload_n 0) 1, eF 1 (.getfield 9) 3 3 1, eT 4 (.ifCond .ge 7) 3 11, eC 7 (.iconst 1) 1 1, eT 8 (.goto 4) 3 12, eC 11 (.iconst 0) 1 0, e0 12 .ireturn 1]
set_option maxRecDepth 100000 in
theorem c_Ro_isMissing_T {G : Ge} (i0 : Nat) {μ : Mm} {K : Int32 → Mm → Prop} (h :
  (if 0 ≤ (μ.1 8 i0 1) then
   (((0 : Int32) = 0 ∨ (0 : Int32) = 1) ∧ K 0 μ)
  else
   (((1 : Int32) = 0 ∨ (1 : Int32) = 1) ∧ K 1 μ))) :
  CS G m_Ro_isMissing [vr 8 i0] μ (RI K) :=
  CS_of pf_Ro_isMissing (Nat.le_of_ble_eq_true rfl) (show SS G m_Ro_isMissing 0 [vr 8 i0] [] μ (RI K) from wp_s (M := m_Ro_isMissing) (lk := lk_Ro) (tb := tc_Ro_isMissing_T) (cu := []) lk_Ro_ok (by decide +kernel) 9 true 0 _ _ _ h)
def tc_Ro_has_R : List En := [e0 0 (.iload_n 1) 1, eT 1 (.ifCond .lt 17) 3 18, e0 4 (.iload_n 1) 1, e0 5 (.aload_n 0) 1, eF 6 (.getfield 9) 3 3 1, e0 9 (.iload_n 2) 1, e0 10 .isub 1, eT 11 (.if_icmp .gt 7) 3 18, eC 14 (.iconst 1) 1 1, eT 15 (.goto 4) 3 19, eC 18 (.iconst 0) 1 0, e0 19 .ireturn 1]
set_option maxRecDepth 100000 in
theorem c_Ro_has_R {G : Ge} (i0 : Nat) (x1 : Int32) (x2 : Int32) {μ : Mm} {K : Int32 → Mm → Prop} (h :
  (if x1 < 0 then
   (((0 : Int32) = 0 ∨ (0 : Int32) = 1) ∧ K 0 μ)
  else
   (if ((μ.1 3 i0 1) - x2) < x1 then
    (((0 : Int32) = 0 ∨ (0 : Int32) = 1) ∧ K 0 μ)
   else
    (((1 : Int32) = 0 ∨ (1 : Int32) = 1) ∧ K 1 μ)))) :
  CS G m_Ro_has [vr 3 i0, vi x1, vi x2] μ (RI K) :=
  CS_of pf_Ro_has (Nat.le_of_ble_eq_true rfl) (show SS G m_Ro_has 0 [vr 3 i0, vi x1, vi x2] [] μ (RI K) from wp_s (M := m_Ro_has) (lk := lk_Ro) (tb := tc_Ro_has_R) (cu := []) lk_Ro_ok (by decide +kernel) 14 true 0 _ _ _ h)
def tc_Ro_has_T : List En := [e0 0 (.iload_n 1) 1, eT 1 (.ifCond .lt 17) 3 18, e0 4 (.iload_n 1) 1, e0 5 (.aload_n 0) 1, eF 6 (.getfield 9) 3 3 1, e0 9 (.iload_n 2) 1, e0 10 .isub 1, eT 11 (.if_icmp .gt 7) 3 18, eC 14 (.iconst 1) 1 1, eT 15 (.goto 4) 3 19, eC 18 (.iconst 0) 1 0, e0 19 .ireturn 1]
set_option maxRecDepth 100000 in
theorem c_Ro_has_T {G : Ge} (i0 : Nat) (x1 : Int32) (x2 : Int32) {μ : Mm} {K : Int32 → Mm → Prop} (h :
  (if x1 < 0 then
   (((0 : Int32) = 0 ∨ (0 : Int32) = 1) ∧ K 0 μ)
  else
   (if ((μ.1 8 i0 1) - x2) < x1 then
    (((0 : Int32) = 0 ∨ (0 : Int32) = 1) ∧ K 0 μ)
   else
    (((1 : Int32) = 0 ∨ (1 : Int32) = 1) ∧ K 1 μ)))) :
  CS G m_Ro_has [vr 8 i0, vi x1, vi x2] μ (RI K) :=
  CS_of pf_Ro_has (Nat.le_of_ble_eq_true rfl) (show SS G m_Ro_has 0 [vr 8 i0, vi x1, vi x2] [] μ (RI K) from wp_s (M := m_Ro_has) (lk := lk_Ro) (tb := tc_Ro_has_T) (cu := []) lk_Ro_ok (by decide +kernel) 14 true 0 _ _ _ h)
def tc_Cs_at : List En := [e0 0 (.aload_n 0) 1, e0 1 (.iload_n 1) 1, eT 2 (.invokevirtual 71) 3 0, eT 5 (.ifCond .eq 5) 3 10, eC 8 (.iconst (-1)) 1 (-1), e0 9 .ireturn 1, e0 10 (.aload_n 0) 1, eF 11 (.getfield 11) 3 6 0, e0 14 (.iload_n 1) 1, e0 15 .aaload 1, eT 16 (.invokevirtual 90) 3 4, eT 19 (.ifCond .eq 9) 3 28, e0 22 (.aload_n 0) 1, eC 23 (.iconst 1) 1 1, eT 24 (.invokevirtual 75) 3 1, e0 27 .ireturn 1, e0 28 (.aload_n 0) 1, eF 29 (.getfield 11) 3 6 0, e0 32 (.iload_n 1) 1, e0 33 .aaload 1, e0 34 (.iload_n 2) 1, eC 35 (.iconst 1) 1 1, eT 36 (.invokevirtual 94) 3 5, eT 39 (.ifCond .ne 9) 3 48, e0 42 (.aload_n 0) 1, eC 43 (.iconst 2) 1 2, eT 44 (.invokevirtual 75) 3 1, e0 47 .ireturn 1, e0 48 (.aload_n 0) 1, e0 49 (.aload_n 0) 1, eF 50 (.getfield 11) 3 6 0, e0 53 (.iload_n 1) 1, e0 54 .aaload 1, eF 55 (.getfield 87) 3 3 0, e0 58 (.iload_n 2) 1, e0 59 .iaload 1, eF 60 (.putfield 58) 3 6 9, eC 63 (.iconst 1) 1 1, e0 64 .ireturn 1]
set_option maxRecDepth 100000 in
theorem c_Cs_at {G : Ge} (x1 : Int32) (x2 : Int32) {μ : Mm} {K : Int32 → Mm → Prop} (h :
  (CS G m_Cs_noRow [vr 6 0, vi x1] μ (RI fun v1 μ1 =>
   (if v1 = 0 then
    (vp_in x1 6 ∧
     (CS G m_Ro_isMissing [vr 3 x1.toNatClampNeg] μ1 (RI fun v2 μ2 =>
      (if v2 = 0 then
       (vp_in x1 6 ∧
        (CS G m_Ro_has [vr 3 x1.toNatClampNeg, vi x2, vi 1] μ2 (RI fun v3 μ3 =>
         (if v3 = 0 then
          (CS G m_Cs_answer [vr 6 0, vi 2] μ3 (RI fun v4 μ4 =>
           K v4 μ4))
         else
          (vp_in x1 6 ∧
           (vp_in x2 40 ∧
            K 1 (wI μ3 6 0 9 (μ3.1 18 x1.toNatClampNeg x2.toNatClampNeg))))))))
      else
       (CS G m_Cs_answer [vr 6 0, vi 1] μ2 (RI fun v5 μ5 =>
        K v5 μ5))))))
   else
    K (-1) μ1)))) :
  CS G m_Cs_at [vr 6 0, vi x1, vi x2] μ (RI K) :=
  CS_of pf_Cs_at (Nat.le_of_ble_eq_true rfl) (show SS G m_Cs_at 0 [vr 6 0, vi x1, vi x2] [] μ (RI K) from wp_s (M := m_Cs_at) (lk := lk_Cs) (tb := tc_Cs_at) (cu := []) lk_Cs_ok (by decide +kernel) 32 true 0 _ _ _ h)
def tc_Cs_lay : List En := [e0 0 (.aload_n 0) 1, e0 1 (.iload_n 1) 1, e0 2 (.iload_n 2) 1, eT 3 (.invokevirtual 83) 3 3, e0 6 (.istore 4) 2, e0 8 (.iload 4) 2, eC 10 (.iconst 1) 1 1, eT 11 (.if_icmp .ne 15) 3 26, e0 14 (.aload_n 0) 1, eF 15 (.getfield 11) 3 6 0, e0 18 (.iload_n 1) 1, e0 19 .aaload 1, eF 20 (.getfield 87) 3 3 0, e0 23 (.iload_n 2) 1, e0 24 (.iload_n 3) 1, e0 25 .iastore 1, e0 26 (.iload 4) 2, e0 28 .ireturn 1]
set_option maxRecDepth 100000 in
theorem c_Cs_lay {G : Ge} (x1 : Int32) (x2 : Int32) (x3 : Int32) {μ : Mm} {K : Int32 → Mm → Prop} (h :
  (CS G m_Cs_at [vr 6 0, vi x1, vi x2] μ (RI fun v1 μ1 =>
   (if v1 = 1 then
    (vp_in x1 6 ∧
     (vp_in x2 40 ∧
      K v1 (wI μ1 18 x1.toNatClampNeg x2.toNatClampNeg x3)))
   else
    K v1 μ1)))) :
  CS G m_Cs_lay [vr 6 0, vi x1, vi x2, vi x3] μ (RI K) :=
  CS_of pf_Cs_lay (Nat.le_of_ble_eq_true rfl) (show SS G m_Cs_lay 0 [vr 6 0, vi x1, vi x2, vi x3, un] [] μ (RI K) from wp_s (M := m_Cs_lay) (lk := lk_Cs) (tb := tc_Cs_lay) (cu := []) lk_Cs_ok (by decide +kernel) 21 true 0 _ _ _ h)
def tc_Cs_tear : List En := [e0 0 (.aload_n 0) 1, e0 1 (.iload_n 1) 1, eT 2 (.invokevirtual 71) 3 0, eT 5 (.ifCond .eq 5) 3 10, eC 8 (.iconst (-1)) 1 (-1), e0 9 .ireturn 1, e0 10 (.aload_n 0) 1, eF 11 (.getfield 11) 3 6 0, e0 14 (.iload_n 1) 1, e0 15 .aaload 1, eT 16 (.invokevirtual 90) 3 4, eT 19 (.ifCond .eq 9) 3 28, e0 22 (.aload_n 0) 1, eC 23 (.iconst 1) 1 1, eT 24 (.invokevirtual 75) 3 1, e0 27 .ireturn 1, e0 28 (.aload_n 0) 1, eF 29 (.getfield 11) 3 6 0, e0 32 (.iload_n 1) 1, e0 33 .aaload 1, eC 34 (.iconst (-1)) 1 (-1), eF 35 (.putfield 98) 3 3 1, eC 38 (.iconst 1) 1 1, e0 39 .ireturn 1]
set_option maxRecDepth 100000 in
theorem c_Cs_tear {G : Ge} (x1 : Int32) {μ : Mm} {K : Int32 → Mm → Prop} (h :
  (CS G m_Cs_noRow [vr 6 0, vi x1] μ (RI fun v1 μ1 =>
   (if v1 = 0 then
    (vp_in x1 6 ∧
     (CS G m_Ro_isMissing [vr 3 x1.toNatClampNeg] μ1 (RI fun v2 μ2 =>
      (if v2 = 0 then
       (vp_in x1 6 ∧
        K 1 (wI μ2 3 x1.toNatClampNeg 1 (-1)))
      else
       (CS G m_Cs_answer [vr 6 0, vi 1] μ2 (RI fun v3 μ3 =>
        K v3 μ3))))))
   else
    K (-1) μ1)))) :
  CS G m_Cs_tear [vr 6 0, vi x1] μ (RI K) :=
  CS_of pf_Cs_tear (Nat.le_of_ble_eq_true rfl) (show SS G m_Cs_tear 0 [vr 6 0, vi x1] [] μ (RI K) from wp_s (M := m_Cs_tear) (lk := lk_Cs) (tb := tc_Cs_tear) (cu := []) lk_Cs_ok (by decide +kernel) 21 true 0 _ _ _ h)
def tc_Cs_copy : List En := [e0 0 (.aload_n 0) 1, e0 1 (.iload_n 1) 1, eT 2 (.invokevirtual 71) 3 0, eT 5 (.ifCond .ne 11) 3 16, e0 8 (.aload_n 0) 1, e0 9 (.iload_n 3) 1, eT 10 (.invokevirtual 71) 3 0, eT 13 (.ifCond .eq 5) 3 18, eC 16 (.iconst (-1)) 1 (-1), e0 17 .ireturn 1, e0 18 (.iload 5) 2, eT 20 (.ifCond .ge 9) 3 29, e0 23 (.aload_n 0) 1, eC 24 (.iconst 5) 1 5, eT 25 (.invokevirtual 75) 3 1, e0 28 .ireturn 1, e0 29 (.aload_n 0) 1, eF 30 (.getfield 11) 3 6 0, e0 33 (.iload_n 1) 1, e0 34 .aaload 1, eT 35 (.invokevirtual 90) 3 4, eT 38 (.ifCond .ne 15) 3 53, e0 41 (.aload_n 0) 1, eF 42 (.getfield 11) 3 6 0, e0 45 (.iload_n 3) 1, e0 46 .aaload 1, eT 47 (.invokevirtual 90) 3 4, eT 50 (.ifCond .eq 9) 3 59, e0 53 (.aload_n 0) 1, eC 54 (.iconst 1) 1 1, eT 55 (.invokevirtual 75) 3 1, e0 58 .ireturn 1, e0 59 (.aload_n 0) 1, eF 60 (.getfield 11) 3 6 0, e0 63 (.iload_n 1) 1, e0 64 .aaload 1, e0 65 (.iload_n 2) 1, e0 66 (.iload 5) 2, eT 68 (.invokevirtual 94) 3 5, eT 71 (.ifCond .eq 19) 3 90, e0 74 (.aload_n 0) 1, eF 75 (.getfield 11) 3 6 0, e0 78 (.iload_n 3) 1, e0 79 .aaload 1, e0 80 (.iload 4) 2, e0 82 (.iload 5) 2, eT 84 (.invokevirtual 94) 3 5, eT 87 (.ifCond .ne 9) 3 96, e0 90 (.aload_n 0) 1, eC 91 (.iconst 2) 1 2, eT 92 (.invokevirtual 75) 3 1, e0 95 .ireturn 1, e0 96 (.aload_n 0) 1, eF 97 (.getfield 11) 3 6 0, e0 100 (.iload_n 1) 1, e0 101 .aaload 1, eF 102 (.getfield 87) 3 3 0, e0 105 (.iload_n 2) 1, e0 106 (.aload_n 0) 1, eF 107 (.getfield 11) 3 6 0, e0 110 (.iload_n 3) 1, e0 111 .aaload 1, eF 112 (.getfield 87) 3 3 0, e0 115 (.iload 4) 2, e0 117 (.iload 5) 2, eT 119 (.invokestatic 101) 3 6, eC 122 (.iconst 1) 1 1, e0 123 .ireturn 1]
set_option maxRecDepth 100000 in
theorem c_Cs_copy {G : Ge} (x1 : Int32) (x2 : Int32) (x3 : Int32) (x4 : Int32) (x5 : Int32) {μ : Mm} {K : Int32 → Mm → Prop} (h :
  (CS G m_Cs_noRow [vr 6 0, vi x1] μ (RI fun v1 μ1 =>
   (if v1 = 0 then
    (CS G m_Cs_noRow [vr 6 0, vi x3] μ1 (RI fun v2 μ2 =>
     (if v2 = 0 then
      (if 0 ≤ x5 then
       (vp_in x1 6 ∧
        (CS G m_Ro_isMissing [vr 3 x1.toNatClampNeg] μ2 (RI fun v3 μ3 =>
         (if v3 = 0 then
          (vp_in x3 6 ∧
           (CS G m_Ro_isMissing [vr 3 x3.toNatClampNeg] μ3 (RI fun v4 μ4 =>
            (if v4 = 0 then
             (vp_in x1 6 ∧
              (CS G m_Ro_has [vr 3 x1.toNatClampNeg, vi x2, vi x5] μ4 (RI fun v5 μ5 =>
               (if v5 = 0 then
                (CS G m_Cs_answer [vr 6 0, vi 2] μ5 (RI fun v6 μ6 =>
                 K v6 μ6))
               else
                (vp_in x3 6 ∧
                 (CS G m_Ro_has [vr 3 x3.toNatClampNeg, vi x4, vi x5] μ5 (RI fun v7 μ7 =>
                  (if v7 = 0 then
                   (CS G m_Cs_answer [vr 6 0, vi 2] μ7 (RI fun v8 μ8 =>
                    K v8 μ8))
                  else
                   (vp_in x1 6 ∧
                    (vp_in x3 6 ∧
                     ((¬ x2 < 0 ∧ ¬ x4 < 0 ∧ ¬ x5 < 0 ∧ Int32.toNatClampNeg x2 + Int32.toNatClampNeg x5 ≤ 40 ∧ Int32.toNatClampNeg x4 + Int32.toNatClampNeg x5 ≤ 40) ∧
                      K 1 (cI μ7 18 x1.toNatClampNeg (Int32.toNatClampNeg x2) 18 x3.toNatClampNeg (Int32.toNatClampNeg x4) (Int32.toNatClampNeg x5)))))))))))))
            else
             (CS G m_Cs_answer [vr 6 0, vi 1] μ4 (RI fun v9 μ9 =>
              K v9 μ9))))))
         else
          (CS G m_Cs_answer [vr 6 0, vi 1] μ3 (RI fun v10 μ10 =>
           K v10 μ10))))))
      else
       (CS G m_Cs_answer [vr 6 0, vi 5] μ2 (RI fun v11 μ11 =>
        K v11 μ11)))
     else
      K (-1) μ2)))
   else
    K (-1) μ1)))) :
  CS G m_Cs_copy [vr 6 0, vi x1, vi x2, vi x3, vi x4, vi x5] μ (RI K) :=
  CS_of pf_Cs_copy (Nat.le_of_ble_eq_true rfl) (show SS G m_Cs_copy 0 [vr 6 0, vi x1, vi x2, vi x3, vi x4, vi x5] [] μ (RI K) from wp_s (M := m_Cs_copy) (lk := lk_Cs) (tb := tc_Cs_copy) (cu := []) lk_Cs_ok (by decide +kernel) 57 true 0 _ _ _ h)
def tc_Cs_mean : List En := [e0 0 (.aload_n 0) 1, e0 1 (.iload_n 1) 1, eT 2 (.invokevirtual 71) 3 0, eT 5 (.ifCond .eq 5) 3 10, eC 8 (.iconst (-1)) 1 (-1), e0 9 .ireturn 1, e0 10 (.aload_n 0) 1, eF 11 (.getfield 11) 3 6 0, e0 14 (.iload_n 1) 1, e0 15 .aaload 1, e0 16 (.astore_n 2) 1, e0 17 (.aload_n 2) 1, eT 18 (.invokevirtual 90) 3 4, eT 21 (.ifCond .eq 9) 3 30, e0 24 (.aload_n 0) 1, eC 25 (.iconst 1) 1 1, eT 26 (.invokevirtual 75) 3 1, e0 29 .ireturn 1, e0 30 (.aload_n 2) 1, eF 31 (.getfield 98) 3 3 1, eT 34 (.ifCond .ne 9) 3 43, e0 37 (.aload_n 0) 1, eC 38 (.iconst 4) 1 4, eT 39 (.invokevirtual 75) 3 1, e0 42 .ireturn 1, eD 43 (.lconst 0) 1 0, e0 44 (.lstore_n 3) 1, eC 45 (.iconst 0) 1 0, e0 46 (.istore 5) 2]
set_option maxRecDepth 100000 in
theorem c_Cs_mean {G : Ge} (x1 : Int32) {μ : Mm} {K : Int32 → Mm → Prop} (h :
  (CS G m_Cs_noRow [vr 6 0, vi x1] μ (RI fun v1 μ1 =>
   (if v1 = 0 then
    (vp_in x1 6 ∧
     (CS G m_Ro_isMissing [vr 3 x1.toNatClampNeg] μ1 (RI fun v2 μ2 =>
      (if v2 = 0 then
       (if (μ2.1 3 x1.toNatClampNeg 1) = 0 then
        (CS G m_Cs_answer [vr 6 0, vi 4] μ2 (RI fun v3 μ3 =>
         K v3 μ3))
       else
        SS G m_Cs_mean 48 [vr 6 0, un, vr 3 x1.toNatClampNeg, vl 0, un, vi 0] [] μ2 (RI K))
      else
       (CS G m_Cs_answer [vr 6 0, vi 1] μ2 (RI fun v4 μ4 =>
        K v4 μ4))))))
   else
    K (-1) μ1)))) :
  CS G m_Cs_mean [vr 6 0, vi x1] μ (RI K) :=
  CS_of pf_Cs_mean (Nat.le_of_ble_eq_true rfl) (show SS G m_Cs_mean 0 [vr 6 0, vi x1, un, un, un, un] [] μ (RI K) from wp_s (M := m_Cs_mean) (lk := lk_Cs) (tb := tc_Cs_mean) (cu := [(48, [true, false, true, true, false, true])]) lk_Cs_ok (by decide +kernel) 23 true 0 _ _ _ h)
def tb_Cs_mean_48 : List En := [e0 48 (.iload 5) 2, e0 50 (.aload_n 2) 1, eF 51 (.getfield 98) 3 3 1, eT 54 (.if_icmp .ge 20) 3 74, e0 57 (.lload_n 3) 1, e0 58 (.aload_n 2) 1, eF 59 (.getfield 87) 3 3 0, e0 62 (.iload 5) 2, e0 64 .iaload 1, e0 65 .i2l 1, e0 66 .ladd 1, e0 67 (.lstore_n 3) 1, eC 68 (.iinc 5 1) 3 1, eT 71 (.goto (-23)) 3 48, e0 74 (.aload_n 0) 1, e0 75 (.lload_n 3) 1, e0 76 (.aload_n 2) 1, eF 77 (.getfield 98) 3 3 1, e0 80 .i2l 1, e0 81 .ldiv 1, e0 82 .l2i 1, eF 83 (.putfield 58) 3 6 9, eC 86 (.iconst 1) 1 1, e0 87 .ireturn 1]
set_option maxRecDepth 100000 in
theorem b_Cs_mean_48 {G : Ge} (i2 : Nat) (l3 : Int64) (x5 : Int32) {μ : Mm} {K : Int32 → Mm → Prop} (h :
  (if (μ.1 3 i2 1) ≤ x5 then
   (¬ ((Int32.toInt64 (μ.1 3 i2 1)) : Int64) = 0 ∧
    K 1 (wI μ 6 0 9 (Int64.toInt32 (l3 / (Int32.toInt64 (μ.1 3 i2 1))))))
  else
   (vp_in x5 40 ∧
    SS G m_Cs_mean 48 [vr 6 0, un, vr 3 i2, vl (l3 + (Int32.toInt64 (μ.1 18 i2 x5.toNatClampNeg))), un, vi (x5 + 1)] [] μ (RI K)))) :
  SS G m_Cs_mean 48 [vr 6 0, un, vr 3 i2, vl l3, un, vi x5] [] μ (RI K) :=
  wp_s (M := m_Cs_mean) (lk := lk_Cs) (tb := tb_Cs_mean_48) (cu := [(48, [true, false, true, true, false, true])]) lk_Cs_ok (by decide +kernel) 18 true _ _ _ _ h
def tc_Cs_noText : List En := [e0 0 (.iload_n 1) 1, eT 1 (.ifCond .lt 8) 3 9, e0 4 (.iload_n 1) 1, eC 5 (.iconst 4) 1 4, eT 6 (.if_icmp .lt 7) 3 13, eC 9 (.iconst 1) 1 1, eT 10 (.goto 4) 3 14, eC 13 (.iconst 0) 1 0, e0 14 .ireturn 1]
set_option maxRecDepth 100000 in
theorem c_Cs_noText {G : Ge} (x1 : Int32) {μ : Mm} {K : Int32 → Mm → Prop} (h :
  (if x1 < 0 then
   (((1 : Int32) = 0 ∨ (1 : Int32) = 1) ∧ K 1 μ)
  else
   (if x1 < 4 then
    (((0 : Int32) = 0 ∨ (0 : Int32) = 1) ∧ K 0 μ)
   else
    (((1 : Int32) = 0 ∨ (1 : Int32) = 1) ∧ K 1 μ)))) :
  CS G m_Cs_noText [vr 6 0, vi x1] μ (RI K) :=
  CS_of pf_Cs_noText (Nat.le_of_ble_eq_true rfl) (show SS G m_Cs_noText 0 [vr 6 0, vi x1] [] μ (RI K) from wp_s (M := m_Cs_noText) (lk := lk_Cs) (tb := tc_Cs_noText) (cu := []) lk_Cs_ok (by decide +kernel) 11 true 0 _ _ _ h)
def tc_Cs_text : List En := [e0 0 (.aload_n 0) 1, e0 1 (.iload_n 1) 1, eT 2 (.invokevirtual 107) 3 7, eT 5 (.ifCond .ne 9) 3 14, e0 8 (.iload_n 2) 1, eC 9 (.bipush 60) 2 60, eT 11 (.if_icmp .le 5) 3 16, eC 14 (.iconst (-1)) 1 (-1), e0 15 .ireturn 1, e0 16 (.iload_n 2) 1, eT 17 (.ifCond .ge 9) 3 26, e0 20 (.aload_n 0) 1, eC 21 (.iconst 5) 1 5, eT 22 (.invokevirtual 75) 3 1, e0 25 .ireturn 1, e0 26 (.aload_n 0) 1, eF 27 (.getfield 15) 3 6 1, e0 30 (.iload_n 1) 1, e0 31 .aaload 1, e0 32 (.iload_n 2) 1, eC 33 (.bipush 32) 2 32, eT 35 (.invokevirtual 79) 3 2, e0 38 (.iload_n 2) 1, e0 39 .ireturn 1]
set_option maxRecDepth 100000 in
theorem c_Cs_text {G : Ge} (x1 : Int32) (x2 : Int32) {μ : Mm} {K : Int32 → Mm → Prop} (h :
  (CS G m_Cs_noText [vr 6 0, vi x1] μ (RI fun v1 μ1 =>
   (if v1 = 0 then
    (if x2 ≤ 60 then
     (if 0 ≤ x2 then
      (vp_in x1 4 ∧
       (CS G m_Ro_begin [vr 8 x1.toNatClampNeg, vi x2, vi 32] μ1 (RV fun μ2 =>
        K x2 μ2)))
     else
      (CS G m_Cs_answer [vr 6 0, vi 5] μ1 (RI fun v3 μ3 =>
       K v3 μ3)))
    else
     K (-1) μ1)
   else
    K (-1) μ1)))) :
  CS G m_Cs_text [vr 6 0, vi x1, vi x2] μ (RI K) :=
  CS_of pf_Cs_text (Nat.le_of_ble_eq_true rfl) (show SS G m_Cs_text 0 [vr 6 0, vi x1, vi x2] [] μ (RI K) from wp_s (M := m_Cs_text) (lk := lk_Cs) (tb := tc_Cs_text) (cu := []) lk_Cs_ok (by decide +kernel) 21 true 0 _ _ _ h)
def tc_Cs_put : List En := [e0 0 (.aload_n 0) 1, e0 1 (.iload_n 1) 1, eT 2 (.invokevirtual 107) 3 7, eT 5 (.ifCond .eq 5) 3 10, eC 8 (.iconst (-1)) 1 (-1), e0 9 .ireturn 1, e0 10 (.aload_n 0) 1, eF 11 (.getfield 15) 3 6 1, e0 14 (.iload_n 1) 1, e0 15 .aaload 1, eT 16 (.invokevirtual 90) 3 4, eT 19 (.ifCond .eq 9) 3 28, e0 22 (.aload_n 0) 1, eC 23 (.iconst 1) 1 1, eT 24 (.invokevirtual 75) 3 1, e0 27 .ireturn 1, e0 28 (.aload_n 0) 1, eF 29 (.getfield 15) 3 6 1, e0 32 (.iload_n 1) 1, e0 33 .aaload 1, e0 34 (.iload_n 2) 1, eC 35 (.iconst 1) 1 1, eT 36 (.invokevirtual 94) 3 5, eT 39 (.ifCond .ne 9) 3 48, e0 42 (.aload_n 0) 1, eC 43 (.iconst 2) 1 2, eT 44 (.invokevirtual 75) 3 1, e0 47 .ireturn 1, e0 48 (.aload_n 0) 1, eF 49 (.getfield 15) 3 6 1, e0 52 (.iload_n 1) 1, e0 53 .aaload 1, eF 54 (.getfield 87) 3 3 0, e0 57 (.iload_n 2) 1, e0 58 .iaload 1, e0 59 (.istore 4) 2, e0 61 (.aload_n 0) 1, eF 62 (.getfield 15) 3 6 1, e0 65 (.iload_n 1) 1, e0 66 .aaload 1, eF 67 (.getfield 87) 3 3 0, e0 70 (.iload_n 2) 1, e0 71 (.iload_n 3) 1, e0 72 .i2b 1, e0 73 .iastore 1, eC 74 (.sipush 1000) 3 1000, e0 77 (.iload 4) 2, e0 79 .iadd 1, e0 80 .ireturn 1]
set_option maxRecDepth 100000 in
theorem c_Cs_put {G : Ge} (x1 : Int32) (x2 : Int32) (x3 : Int32) {μ : Mm} {K : Int32 → Mm → Prop} (h :
  (CS G m_Cs_noText [vr 6 0, vi x1] μ (RI fun v1 μ1 =>
   (if v1 = 0 then
    (vp_in x1 4 ∧
     (CS G m_Ro_isMissing [vr 8 x1.toNatClampNeg] μ1 (RI fun v2 μ2 =>
      (if v2 = 0 then
       (vp_in x1 4 ∧
        (CS G m_Ro_has [vr 8 x1.toNatClampNeg, vi x2, vi 1] μ2 (RI fun v3 μ3 =>
         (if v3 = 0 then
          (CS G m_Cs_answer [vr 6 0, vi 2] μ3 (RI fun v4 μ4 =>
           K v4 μ4))
         else
          (vp_in x1 4 ∧
           (vp_in x2 60 ∧
            (vp_in x1 4 ∧
             (vp_in x2 60 ∧
              K (1000 + (μ3.1 19 x1.toNatClampNeg x2.toNatClampNeg)) (wI μ3 19 x1.toNatClampNeg x2.toNatClampNeg (Int8.toInt32 (Int32.toInt8 x3)))))))))))
      else
       (CS G m_Cs_answer [vr 6 0, vi 1] μ2 (RI fun v5 μ5 =>
        K v5 μ5))))))
   else
    K (-1) μ1)))) :
  CS G m_Cs_put [vr 6 0, vi x1, vi x2, vi x3] μ (RI K) :=
  CS_of pf_Cs_put (Nat.le_of_ble_eq_true rfl) (show SS G m_Cs_put 0 [vr 6 0, vi x1, vi x2, vi x3, un] [] μ (RI K) from wp_s (M := m_Cs_put) (lk := lk_Cs) (tb := tc_Cs_put) (cu := []) lk_Cs_ok (by decide +kernel) 42 true 0 _ _ _ h)
def tc_St_clear : List En := [e0 0 (.aload_n 0) 1, eC 1 (.iconst 0) 1 0, eF 2 (.putfield 30) 3 4 5, e0 5 (.aload_n 0) 1, eC 6 (.iconst 0) 1 0, eF 7 (.putfield 34) 3 4 6, e0 10 (.aload_n 0) 1, eC 11 (.iconst 0) 1 0, eF 12 (.putfield 37) 3 4 7, e0 15 (.aload_n 0) 1, eC 16 (.iconst 0) 1 0, eF 17 (.putfield 40) 3 4 8, e0 20 .return_ 1]
set_option maxRecDepth 100000 in
theorem c_St_clear {G : Ge} (i0 : Nat) {μ : Mm} {K : Mm → Prop} (h :
  K (wI (wI (wI (wI μ 4 i0 5 0) 4 i0 6 0) 4 i0 7 0) 4 i0 8 0)) :
  CS G m_St_clear [vr 4 i0] μ (RV K) :=
  CS_of pf_St_clear (Nat.le_of_ble_eq_true rfl) (show SS G m_St_clear 0 [vr 4 i0] [] μ (RV K) from wp_s (M := m_St_clear) (lk := lk_St) (tb := tc_St_clear) (cu := []) lk_St_ok (by decide +kernel) 16 true 0 _ _ _ h)
def tc_Re_sign : List En := [e0 0 (.aload_n 0) 1, eF 1 (.getfield 18) 3 2 1, eT 4 (.ifnull 33) 3 37, e0 7 (.aload_n 0) 1, eF 8 (.getfield 18) 3 2 1, e0 11 (.aload_n 0) 1, eF 12 (.getfield 22) 3 2 2, eC 15 (.iconst 1) 1 1, eT 16 (.invokevirtual 78) 3 10, eT 19 (.ifCond .eq 18) 3 37, e0 22 (.aload_n 0) 1, eF 23 (.getfield 18) 3 2 1, eF 26 (.getfield 82) 3 3 0, e0 29 (.aload_n 0) 1, eF 30 (.getfield 22) 3 2 2, e0 33 .iaload 1, eT 34 (.goto 4) 3 38, eC 37 (.iconst (-1)) 1 (-1), e0 38 .ireturn 1]
set_option maxRecDepth 100000 in
theorem c_Re_sign {G : Ge}  {μ : Mm} {K : Int32 → Mm → Prop} (h :
  (if μ.1 2 0 1 = 0 then
   K (-1) μ
  else
   (if μ.1 2 0 1 = 0 then
    False
   else
    (CS G m_Ro_has [vr 8 ((μ.1 2 0 1).toNatClampNeg - 1), vi (μ.1 2 0 2), vi 1] μ (RI fun v1 μ1 =>
     (if v1 = 0 then
      K (-1) μ1
     else
      (if μ1.1 2 0 1 = 0 then
       False
      else
       (vp_in (μ1.1 2 0 2) 60 ∧
        K (μ1.1 19 ((μ1.1 2 0 1).toNatClampNeg - 1) (Int32.toNatClampNeg (μ1.1 2 0 2))) μ1)))))))) :
  CS G m_Re_sign [vr 2 0] μ (RI K) :=
  CS_of pf_Re_sign (Nat.le_of_ble_eq_true rfl) (show SS G m_Re_sign 0 [vr 2 0] [] μ (RI K) from wp_s (M := m_Re_sign) (lk := lk_Re) (tb := tc_Re_sign) (cu := []) lk_Re_ok (by decide +kernel) 21 true 0 _ _ _ h)
def tc_Re_skipBlanks : List En := [eC 0 (.iconst 0) 1 0, e0 1 (.istore_n 1) 1]
set_option maxRecDepth 100000 in
theorem c_Re_skipBlanks {G : Ge}  {μ : Mm} {K : Mm → Prop} (h :
  SS G m_Re_skipBlanks 2 [vr 2 0, vi 0] [] μ (RV K)) :
  CS G m_Re_skipBlanks [vr 2 0] μ (RV K) :=
  CS_of pf_Re_skipBlanks (Nat.le_of_ble_eq_true rfl) (show SS G m_Re_skipBlanks 0 [vr 2 0, un] [] μ (RV K) from wp_s (M := m_Re_skipBlanks) (lk := lk_Re) (tb := tc_Re_skipBlanks) (cu := [(2, [true, true])]) lk_Re_ok (by decide +kernel) 6 true 0 _ _ _ h)
def tb_Re_skipBlanks_2 : List En := [e0 2 (.iload_n 1) 1, eC 3 (.bipush 60) 2 60, eT 5 (.if_icmp .ge 28) 3 33, e0 8 (.aload_n 0) 1, eT 9 (.invokevirtual 48) 3 5, eC 12 (.bipush 32) 2 32, eT 14 (.if_icmp .ne 19) 3 33, e0 17 (.aload_n 0) 1, e0 18 .dup 1, eF 19 (.getfield 22) 3 2 2, eC 22 (.iconst 1) 1 1, e0 23 .iadd 1, eF 24 (.putfield 22) 3 2 2, eC 27 (.iinc 1 1) 3 1, eT 30 (.goto (-28)) 3 2, e0 33 .return_ 1]
set_option maxRecDepth 100000 in
theorem b_Re_skipBlanks_2 {G : Ge} (x1 : Int32) {μ : Mm} {K : Mm → Prop} (h :
  (if (60 : Int32) ≤ x1 then
   K μ
  else
   (CS G m_Re_sign [vr 2 0] μ (RI fun v1 μ1 =>
    (if v1 = 32 then
     SS G m_Re_skipBlanks 2 [vr 2 0, vi (x1 + 1)] [] (wI μ1 2 0 2 ((μ1.1 2 0 2) + 1)) (RV K)
    else
     K μ1))))) :
  SS G m_Re_skipBlanks 2 [vr 2 0, vi x1] [] μ (RV K) :=
  wp_s (M := m_Re_skipBlanks) (lk := lk_Re) (tb := tb_Re_skipBlanks_2) (cu := [(2, [true, true])]) lk_Re_ok (by decide +kernel) 19 true _ _ _ _ h
def tc_Re_isFigure : List En := [e0 0 (.aload_n 0) 1, eT 1 (.invokevirtual 48) 3 5, eC 4 (.bipush 48) 2 48, eT 6 (.if_icmp .lt 16) 3 22, e0 9 (.aload_n 0) 1, eT 10 (.invokevirtual 48) 3 5, eC 13 (.bipush 57) 2 57, eT 15 (.if_icmp .gt 7) 3 22, eC 18 (.iconst 1) 1 1, eT 19 (.goto 4) 3 23, eC 22 (.iconst 0) 1 0, e0 23 .ireturn 1]
set_option maxRecDepth 100000 in
theorem c_Re_isFigure {G : Ge}  {μ : Mm} {K : Int32 → Mm → Prop} (h :
  (CS G m_Re_sign [vr 2 0] μ (RI fun v1 μ1 =>
   (if v1 < 48 then
    (((0 : Int32) = 0 ∨ (0 : Int32) = 1) ∧ K 0 μ1)
   else
    (CS G m_Re_sign [vr 2 0] μ1 (RI fun v2 μ2 =>
     (if (57 : Int32) < v2 then
      (((0 : Int32) = 0 ∨ (0 : Int32) = 1) ∧ K 0 μ2)
     else
      (((1 : Int32) = 0 ∨ (1 : Int32) = 1) ∧ K 1 μ2)))))))) :
  CS G m_Re_isFigure [vr 2 0] μ (RI K) :=
  CS_of pf_Re_isFigure (Nat.le_of_ble_eq_true rfl) (show SS G m_Re_isFigure 0 [vr 2 0] [] μ (RI K) from wp_s (M := m_Re_isFigure) (lk := lk_Re) (tb := tc_Re_isFigure) (cu := []) lk_Re_ok (by decide +kernel) 14 true 0 _ _ _ h)
def tc_Re_takeFigure : List En := [e0 0 (.aload_n 0) 1, eT 1 (.invokevirtual 48) 3 5, eC 4 (.bipush 48) 2 48, e0 6 .isub 1, e0 7 (.istore_n 1) 1, e0 8 (.aload_n 0) 1, e0 9 .dup 1, eF 10 (.getfield 22) 3 2 2, eC 13 (.iconst 1) 1 1, e0 14 .iadd 1, eF 15 (.putfield 22) 3 2 2, e0 18 (.iload_n 1) 1, e0 19 .ireturn 1]
set_option maxRecDepth 100000 in
theorem c_Re_takeFigure {G : Ge}  {μ : Mm} {K : Int32 → Mm → Prop} (h :
  (CS G m_Re_sign [vr 2 0] μ (RI fun v1 μ1 =>
   K (v1 - 48) (wI μ1 2 0 2 ((μ1.1 2 0 2) + 1))))) :
  CS G m_Re_takeFigure [vr 2 0] μ (RI K) :=
  CS_of pf_Re_takeFigure (Nat.le_of_ble_eq_true rfl) (show SS G m_Re_takeFigure 0 [vr 2 0, un] [] μ (RI K) from wp_s (M := m_Re_takeFigure) (lk := lk_Re) (tb := tc_Re_takeFigure) (cu := []) lk_Re_ok (by decide +kernel) 16 true 0 _ _ _ h)
def tc_Re_readNights : List En := [e0 0 (.aload_n 0) 1, eT 1 (.invokevirtual 48) 3 5, eC 4 (.bipush 110) 2 110, eT 6 (.if_icmp .eq 5) 3 11, eC 9 (.iconst 0) 1 0, e0 10 .ireturn 1, e0 11 (.aload_n 0) 1, e0 12 .dup 1, eF 13 (.getfield 22) 3 2 2, eC 16 (.iconst 1) 1 1, e0 17 .iadd 1, eF 18 (.putfield 22) 3 2 2, eC 21 (.iconst 0) 1 0, e0 22 (.istore_n 1) 1]
set_option maxRecDepth 100000 in
theorem c_Re_readNights {G : Ge}  {μ : Mm} {K : Int32 → Mm → Prop} (h :
  (CS G m_Re_sign [vr 2 0] μ (RI fun v1 μ1 =>
   (if v1 = 110 then
    SS G m_Re_readNights 23 [vr 2 0, vi 0] [] (wI μ1 2 0 2 ((μ1.1 2 0 2) + 1)) (RI K)
   else
    (((0 : Int32) = 0 ∨ (0 : Int32) = 1) ∧ K 0 μ1))))) :
  CS G m_Re_readNights [vr 2 0] μ (RI K) :=
  CS_of pf_Re_readNights (Nat.le_of_ble_eq_true rfl) (show SS G m_Re_readNights 0 [vr 2 0, un] [] μ (RI K) from wp_s (M := m_Re_readNights) (lk := lk_Re) (tb := tc_Re_readNights) (cu := [(23, [true, true])]) lk_Re_ok (by decide +kernel) 16 true 0 _ _ _ h)
def tb_Re_readNights_23 : List En := [e0 23 (.iload_n 1) 1, eC 24 (.bipush 8) 2 8, eT 26 (.if_icmp .ge 39) 3 65, e0 29 (.aload_n 0) 1, eT 30 (.invokevirtual 52) 3 6, eT 33 (.ifCond .eq 32) 3 65, e0 36 (.aload_n 0) 1, eF 37 (.getfield 12) 3 2 0, eF 40 (.getfield 55) 3 4 0, e0 43 (.iload_n 1) 1, e0 44 (.aload_n 0) 1, eT 45 (.invokevirtual 59) 3 7, e0 48 .iastore 1, e0 49 (.aload_n 0) 1, eF 50 (.getfield 12) 3 2 0, e0 53 (.iload_n 1) 1, eC 54 (.iconst 1) 1 1, e0 55 .iadd 1, eF 56 (.putfield 62) 3 4 5, eC 59 (.iinc 1 1) 3 1, eT 62 (.goto (-39)) 3 23, e0 65 (.aload_n 0) 1, eF 66 (.getfield 12) 3 2 0, eF 69 (.getfield 62) 3 4 5, eT 72 (.ifCond .le 7) 3 79, eC 75 (.iconst 1) 1 1, eT 76 (.goto 4) 3 80, eC 79 (.iconst 0) 1 0, e0 80 .ireturn 1]
set_option maxRecDepth 100000 in
theorem b_Re_readNights_23 {G : Ge} (x1 : Int32) {μ : Mm} {K : Int32 → Mm → Prop} (h :
  (if (8 : Int32) ≤ x1 then
   (if (μ.1 4 4 5) ≤ 0 then
    (((0 : Int32) = 0 ∨ (0 : Int32) = 1) ∧ K 0 μ)
   else
    (((1 : Int32) = 0 ∨ (1 : Int32) = 1) ∧ K 1 μ))
  else
   (CS G m_Re_isFigure [vr 2 0] μ (RI fun v1 μ1 =>
    (if v1 = 0 then
     (if (μ1.1 4 4 5) ≤ 0 then
      (((0 : Int32) = 0 ∨ (0 : Int32) = 1) ∧ K 0 μ1)
     else
      (((1 : Int32) = 0 ∨ (1 : Int32) = 1) ∧ K 1 μ1))
    else
     (CS G m_Re_takeFigure [vr 2 0] μ1 (RI fun v2 μ2 =>
      (vp_in x1 8 ∧
       SS G m_Re_readNights 23 [vr 2 0, vi (x1 + 1)] [] (wI (wI μ2 20 4 x1.toNatClampNeg v2) 4 4 5 (x1 + 1)) (RI K))))))))) :
  SS G m_Re_readNights 23 [vr 2 0, vi x1] [] μ (RI K) :=
  wp_s (M := m_Re_readNights) (lk := lk_Re) (tb := tb_Re_readNights_23) (cu := [(23, [true, true])]) lk_Re_ok (by decide +kernel) 25 true _ _ _ _ h
def tc_Re_kindOfSign : List En := [eC 0 (.iconst 0) 1 0, e0 1 (.istore_n 1) 1]
set_option maxRecDepth 100000 in
theorem c_Re_kindOfSign {G : Ge}  {μ : Mm} {K : Int32 → Mm → Prop} (h :
  SS G m_Re_kindOfSign 2 [vr 2 0, vi 0] [] μ (RI K)) :
  CS G m_Re_kindOfSign [vr 2 0] μ (RI K) :=
  CS_of pf_Re_kindOfSign (Nat.le_of_ble_eq_true rfl) (show SS G m_Re_kindOfSign 0 [vr 2 0, un] [] μ (RI K) from wp_s (M := m_Re_kindOfSign) (lk := lk_Re) (tb := tc_Re_kindOfSign) (cu := [(2, [true, true])]) lk_Re_ok (by decide +kernel) 6 true 0 _ _ _ h)
def tb_Re_kindOfSign_2 : List En := [e0 2 (.iload_n 1) 1, eC 3 (.iconst 5) 1 5, eT 4 (.if_icmp .gt 23) 3 27, eT 7 (.getstatic 85) 3 52, e0 10 (.iload_n 1) 1, e0 11 .iaload 1, e0 12 (.aload_n 0) 1, eT 13 (.invokevirtual 48) 3 5, eT 16 (.if_icmp .ne 5) 3 21, e0 19 (.iload_n 1) 1, e0 20 .ireturn 1, eC 21 (.iinc 1 1) 3 1, eT 24 (.goto (-22)) 3 2, eC 27 (.bipush (-9)) 2 (-9), e0 29 .ireturn 1]
set_option maxRecDepth 100000 in
theorem b_Re_kindOfSign_2 {G : Ge} (x1 : Int32) {μ : Mm} {K : Int32 → Mm → Prop} (h :
  (if (5 : Int32) < x1 then
   K (-9) μ
  else
   (vp_in x1 6 ∧
    (CS G m_Re_sign [vr 2 0] μ (RI fun v1 μ1 =>
     (if (rom 52 x1.toNatClampNeg) = v1 then
      K x1 μ1
     else
      SS G m_Re_kindOfSign 2 [vr 2 0, vi (x1 + 1)] [] μ1 (RI K))))))) :
  SS G m_Re_kindOfSign 2 [vr 2 0, vi x1] [] μ (RI K) :=
  wp_s (M := m_Re_kindOfSign) (lk := lk_Re) (tb := tb_Re_kindOfSign_2) (cu := [(2, [true, true])]) lk_Re_ok (by decide +kernel) 15 true _ _ _ _ h
def tc_Ho_restart : List En := [e0 0 (.aload_n 0) 1, e0 1 (.aload_n 0) 1, eF 2 (.getfield 21) 3 0 2, eF 5 (.putfield 27) 3 0 3, e0 8 (.aload_n 0) 1, eC 9 (.iconst 0) 1 0, eF 10 (.putfield 30) 3 0 4, e0 13 (.aload_n 0) 1, eC 14 (.bipush (-9)) 2 (-9), eF 16 (.putfield 9) 3 0 5, e0 19 .return_ 1]
set_option maxRecDepth 100000 in
theorem c_Ho_restart {G : Ge} (i0 : Nat) {μ : Mm} {K : Mm → Prop} (h :
  K (wI (wI (wI μ 0 i0 3 (μ.1 0 i0 2)) 0 i0 4 0) 0 i0 5 (-9))) :
  CS G m_Ho_restart [vr 0 i0] μ (RV K) :=
  CS_of pf_Ho_restart (Nat.le_of_ble_eq_true rfl) (show SS G m_Ho_restart 0 [vr 0 i0] [] μ (RV K) from wp_s (M := m_Ho_restart) (lk := lk_Ho) (tb := tc_Ho_restart) (cu := []) lk_Ho_ok (by decide +kernel) 14 true 0 _ _ _ h)
def tc_Ho_become : List En := [e0 0 (.aload_n 0) 1, e0 1 (.iload_n 1) 1, eF 2 (.putfield 15) 3 0 0, e0 5 (.aload_n 0) 1, e0 6 (.iload_n 2) 1, eF 7 (.putfield 18) 3 0 1, e0 10 (.aload_n 0) 1, e0 11 (.iload_n 3) 1, eF 12 (.putfield 21) 3 0 2, e0 15 (.aload_n 0) 1, eT 16 (.invokevirtual 24) 3 0, e0 19 .return_ 1]
set_option maxRecDepth 100000 in
theorem c_Ho_become {G : Ge} (i0 : Nat) (x1 : Int32) (x2 : Int32) (x3 : Int32) {μ : Mm} {K : Mm → Prop} (h :
  (CS G m_Ho_restart [vr 0 i0] (wI (wI (wI μ 0 i0 0 x1) 0 i0 1 x2) 0 i0 2 x3) (RV fun μ1 =>
   K μ1))) :
  CS G m_Ho_become [vr 0 i0, vi x1, vi x2, vi x3] μ (RV K) :=
  CS_of pf_Ho_become (Nat.le_of_ble_eq_true rfl) (show SS G m_Ho_become 0 [vr 0 i0, vi x1, vi x2, vi x3] [] μ (RV K) from wp_s (M := m_Ho_become) (lk := lk_Ho) (tb := tc_Ho_become) (cu := []) lk_Ho_ok (by decide +kernel) 15 true 0 _ _ _ h)
def tc_Re_readHouse : List En := [e0 0 (.aload_n 0) 1, eT 1 (.invokevirtual 65) 3 8, e0 4 (.istore_n 1) 1, e0 5 (.iload_n 1) 1, eC 6 (.bipush (-9)) 2 (-9), eT 8 (.if_icmp .ne 5) 3 13, eC 11 (.iconst 0) 1 0, e0 12 .ireturn 1, e0 13 (.aload_n 0) 1, e0 14 .dup 1, eF 15 (.getfield 22) 3 2 2, eC 18 (.iconst 1) 1 1, e0 19 .iadd 1, eF 20 (.putfield 22) 3 2 2, e0 23 (.aload_n 0) 1, eT 24 (.invokevirtual 52) 3 6, eT 27 (.ifCond .ne 5) 3 32, eC 30 (.iconst 0) 1 0, e0 31 .ireturn 1, e0 32 (.aload_n 0) 1, eT 33 (.invokevirtual 59) 3 7, e0 36 (.istore_n 2) 1, e0 37 (.aload_n 0) 1, eT 38 (.invokevirtual 52) 3 6, eT 41 (.ifCond .ne 5) 3 46, eC 44 (.iconst 0) 1 0, e0 45 .ireturn 1, e0 46 (.aload_n 0) 1, eF 47 (.getfield 12) 3 2 0, eF 50 (.getfield 68) 3 4 1, e0 53 (.aload_n 0) 1, eF 54 (.getfield 12) 3 2 0, eF 57 (.getfield 41) 3 4 6, e0 60 .aaload 1, e0 61 (.iload_n 1) 1, e0 62 (.iload_n 2) 1, e0 63 (.aload_n 0) 1, eT 64 (.invokevirtual 59) 3 7, eT 67 (.invokevirtual 72) 3 9, e0 70 (.aload_n 0) 1, eF 71 (.getfield 12) 3 2 0, e0 74 .dup 1, eF 75 (.getfield 41) 3 4 6, eC 78 (.iconst 1) 1 1, e0 79 .iadd 1, eF 80 (.putfield 41) 3 4 6, eC 83 (.iconst 1) 1 1, e0 84 .ireturn 1]
set_option maxRecDepth 100000 in
theorem c_Re_readHouse {G : Ge}  {μ : Mm} {K : Int32 → Mm → Prop} (h :
  (CS G m_Re_kindOfSign [vr 2 0] μ (RI fun v1 μ1 =>
   (if v1 = (-9) then
    (((0 : Int32) = 0 ∨ (0 : Int32) = 1) ∧ K 0 μ1)
   else
    (CS G m_Re_isFigure [vr 2 0] (wI μ1 2 0 2 ((μ1.1 2 0 2) + 1)) (RI fun v2 μ2 =>
     (if v2 = 0 then
      (((0 : Int32) = 0 ∨ (0 : Int32) = 1) ∧ K 0 μ2)
     else
      (CS G m_Re_takeFigure [vr 2 0] μ2 (RI fun v3 μ3 =>
       (CS G m_Re_isFigure [vr 2 0] μ3 (RI fun v4 μ4 =>
        (if v4 = 0 then
         (((0 : Int32) = 0 ∨ (0 : Int32) = 1) ∧ K 0 μ4)
        else
         (vp_in (μ4.1 4 4 6) 5 ∧
          (CS G m_Re_takeFigure [vr 2 0] μ4 (RI fun v5 μ5 =>
           (CS G m_Ho_become [vr 0 (5 * 4 + (Int32.toNatClampNeg (μ4.1 4 4 6))), vi v1, vi v3, vi v5] μ5 (RV fun μ6 =>
            (((1 : Int32) = 0 ∨ (1 : Int32) = 1) ∧ K 1 (wI μ6 4 4 6 ((μ6.1 4 4 6) + 1)))))))))))))))))))) :
  CS G m_Re_readHouse [vr 2 0] μ (RI K) :=
  CS_of pf_Re_readHouse (Nat.le_of_ble_eq_true rfl) (show SS G m_Re_readHouse 0 [vr 2 0, un, un] [] μ (RI K) from wp_s (M := m_Re_readHouse) (lk := lk_Re) (tb := tc_Re_readHouse) (cu := []) lk_Re_ok (by decide +kernel) 45 true 0 _ _ _ h)
def tc_St_isEmpty : List En := [e0 0 (.aload_n 0) 1, eF 1 (.getfield 34) 3 4 6, eT 4 (.ifCond .ne 7) 3 11, eC 7 (.iconst 1) 1 1, eT 8 (.goto 4) 3 12, eC 11 (.iconst 0) 1 0, e0 12 .ireturn 1]
set_option maxRecDepth 100000 in
theorem c_St_isEmpty {G : Ge} (i0 : Nat) {μ : Mm} {K : Int32 → Mm → Prop} (h :
  (if (μ.1 4 i0 6) = 0 then
   (((1 : Int32) = 0 ∨ (1 : Int32) = 1) ∧ K 1 μ)
  else
   (((0 : Int32) = 0 ∨ (0 : Int32) = 1) ∧ K 0 μ))) :
  CS G m_St_isEmpty [vr 4 i0] μ (RI K) :=
  CS_of pf_St_isEmpty (Nat.le_of_ble_eq_true rfl) (show SS G m_St_isEmpty 0 [vr 4 i0] [] μ (RI K) from wp_s (M := m_St_isEmpty) (lk := lk_St) (tb := tc_St_isEmpty) (cu := []) lk_St_ok (by decide +kernel) 9 true 0 _ _ _ h)
def tc_Re_read : List En := [e0 0 (.aload_n 0) 1, e0 1 (.aload_n 1) 1, eF 2 (.putfield 18) 3 2 1, e0 5 (.aload_n 0) 1, eC 6 (.iconst 0) 1 0, eF 7 (.putfield 22) 3 2 2, e0 10 (.aload_n 0) 1, eF 11 (.getfield 12) 3 2 0, eT 14 (.invokevirtual 26) 3 0, e0 17 (.aload_n 0) 1, eT 18 (.invokevirtual 29) 3 1, e0 21 (.aload_n 0) 1, eT 22 (.invokevirtual 32) 3 2, eT 25 (.ifCond .ne 8) 3 33, e0 28 (.aload_n 0) 1, eF 29 (.getfield 22) 3 2 2, e0 32 .ireturn 1, e0 33 (.aload_n 0) 1, eT 34 (.invokevirtual 29) 3 1, eC 37 (.iconst 0) 1 0, e0 38 (.istore_n 2) 1]
set_option maxRecDepth 100000 in
theorem c_Re_read {G : Ge} (i1 : Nat) {μ : Mm} {K : Int32 → Mm → Prop} (h :
  (CS G m_St_clear [vr 4 4] (wI (wI μ 2 0 1 (nI (i1 + 1))) 2 0 2 0) (RV fun μ1 =>
   (CS G m_Re_skipBlanks [vr 2 0] μ1 (RV fun μ2 =>
    (CS G m_Re_readNights [vr 2 0] μ2 (RI fun v3 μ3 =>
     (if v3 = 0 then
      K (μ3.1 2 0 2) μ3
     else
      (CS G m_Re_skipBlanks [vr 2 0] μ3 (RV fun μ4 =>
       SS G m_Re_read 39 [vr 2 0, vr 8 i1, vi 0] [] μ4 (RI K))))))))))) :
  CS G m_Re_read [vr 2 0, vr 8 i1] μ (RI K) :=
  CS_of pf_Re_read (Nat.le_of_ble_eq_true rfl) (show SS G m_Re_read 0 [vr 2 0, vr 8 i1, un] [] μ (RI K) from wp_s (M := m_Re_read) (lk := lk_Re) (tb := tc_Re_read) (cu := [(39, [true, true, true])]) lk_Re_ok (by decide +kernel) 22 true 0 _ _ _ h)
def tb_Re_read_39 : List En := [e0 39 (.iload_n 2) 1, eC 40 (.bipush 60) 2 60, eT 42 (.if_icmp .ge 47) 3 89, e0 45 (.aload_n 0) 1, eF 46 (.getfield 22) 3 2 2, e0 49 (.aload_n 1) 1, eF 50 (.getfield 36) 3 3 1, eT 53 (.if_icmp .ge 36) 3 89, e0 56 (.aload_n 0) 1, eF 57 (.getfield 12) 3 2 0, eF 60 (.getfield 41) 3 4 6, eC 63 (.iconst 5) 1 5, eT 64 (.if_icmp .ge 10) 3 74, e0 67 (.aload_n 0) 1, eT 68 (.invokevirtual 42) 3 3, eT 71 (.ifCond .ne 8) 3 79, e0 74 (.aload_n 0) 1, eF 75 (.getfield 22) 3 2 2, e0 78 .ireturn 1, e0 79 (.aload_n 0) 1, eT 80 (.invokevirtual 29) 3 1, eC 83 (.iinc 2 1) 3 1, eT 86 (.goto (-47)) 3 39, e0 89 (.aload_n 0) 1, eF 90 (.getfield 12) 3 2 0, eT 93 (.invokevirtual 45) 3 4, eT 96 (.ifCond .eq 10) 3 106, e0 99 (.aload_n 0) 1, eF 100 (.getfield 22) 3 2 2, eT 103 (.goto 5) 3 108, eC 106 (.bipush (-9)) 2 (-9), e0 108 .ireturn 1]
set_option maxRecDepth 100000 in
theorem b_Re_read_39 {G : Ge} (i1 : Nat) (x2 : Int32) {μ : Mm} {K : Int32 → Mm → Prop} (h :
  (if (60 : Int32) ≤ x2 then
   (CS G m_St_isEmpty [vr 4 4] μ (RI fun v1 μ1 =>
    (if v1 = 0 then
     K (-9) μ1
    else
     K (μ1.1 2 0 2) μ1)))
  else
   (if (μ.1 8 i1 1) ≤ (μ.1 2 0 2) then
    (CS G m_St_isEmpty [vr 4 4] μ (RI fun v2 μ2 =>
     (if v2 = 0 then
      K (-9) μ2
     else
      K (μ2.1 2 0 2) μ2)))
   else
    (if (5 : Int32) ≤ (μ.1 4 4 6) then
     K (μ.1 2 0 2) μ
    else
     (CS G m_Re_readHouse [vr 2 0] μ (RI fun v3 μ3 =>
      (if v3 = 0 then
       K (μ3.1 2 0 2) μ3
      else
       (CS G m_Re_skipBlanks [vr 2 0] μ3 (RV fun μ4 =>
        SS G m_Re_read 39 [vr 2 0, vr 8 i1, vi (x2 + 1)] [] μ4 (RI K)))))))))) :
  SS G m_Re_read 39 [vr 2 0, vr 8 i1, vi x2] [] μ (RI K) :=
  wp_s (M := m_Re_read) (lk := lk_Re) (tb := tb_Re_read_39) (cu := [(39, [true, true, true])]) lk_Re_ok (by decide +kernel) 24 true _ _ _ _ h
def tc_Cs_fault : List En := [e0 0 (.aload_n 0) 1, e0 1 (.iload_n 1) 1, eT 2 (.invokevirtual 107) 3 7, eT 5 (.ifCond .eq 5) 3 10, eC 8 (.iconst (-1)) 1 (-1), e0 9 .ireturn 1, e0 10 (.aload_n 0) 1, eF 11 (.getfield 15) 3 6 1, e0 14 (.iload_n 1) 1, e0 15 .aaload 1, eT 16 (.invokevirtual 90) 3 4, eT 19 (.ifCond .eq 9) 3 28, e0 22 (.aload_n 0) 1, eC 23 (.iconst 1) 1 1, eT 24 (.invokevirtual 75) 3 1, e0 27 .ireturn 1, e0 28 (.aload_n 0) 1, eF 29 (.getfield 32) 3 6 4, e0 32 (.aload_n 0) 1, eF 33 (.getfield 15) 3 6 1, e0 36 (.iload_n 1) 1, e0 37 .aaload 1, eT 38 (.invokevirtual 110) 3 8, e0 41 .ireturn 1]
set_option maxRecDepth 100000 in
theorem c_Cs_fault {G : Ge} (x1 : Int32) {μ : Mm} {K : Int32 → Mm → Prop} (h :
  (CS G m_Cs_noText [vr 6 0, vi x1] μ (RI fun v1 μ1 =>
   (if v1 = 0 then
    (vp_in x1 4 ∧
     (CS G m_Ro_isMissing [vr 8 x1.toNatClampNeg] μ1 (RI fun v2 μ2 =>
      (if v2 = 0 then
       (vp_in x1 4 ∧
        (CS G m_Re_read [vr 2 0, vr 8 x1.toNatClampNeg] μ2 (RI fun v3 μ3 =>
         K v3 μ3)))
      else
       (CS G m_Cs_answer [vr 6 0, vi 1] μ2 (RI fun v4 μ4 =>
        K v4 μ4))))))
   else
    K (-1) μ1)))) :
  CS G m_Cs_fault [vr 6 0, vi x1] μ (RI K) :=
  CS_of pf_Cs_fault (Nat.le_of_ble_eq_true rfl) (show SS G m_Cs_fault 0 [vr 6 0, vi x1] [] μ (RI K) from wp_s (M := m_Cs_fault) (lk := lk_Cs) (tb := tc_Cs_fault) (cu := []) lk_Cs_ok (by decide +kernel) 21 true 0 _ _ _ h)
def tc_St_passNight : List En := [e0 0 (.aload_n 0) 1, e0 1 .dup 1, eF 2 (.getfield 37) 3 4 7, eC 5 (.iconst 1) 1 1, e0 6 .iadd 1, eF 7 (.putfield 37) 3 4 7, eC 10 (.iconst 0) 1 0, e0 11 (.istore_n 1) 1]
set_option maxRecDepth 100000 in
theorem c_St_passNight {G : Ge} (i0 : Nat) {μ : Mm} {K : Mm → Prop} (h :
  SS G m_St_passNight 12 [vr 4 i0, vi 0] [] (wI μ 4 i0 7 ((μ.1 4 i0 7) + 1)) (RV K)) :
  CS G m_St_passNight [vr 4 i0] μ (RV K) :=
  CS_of pf_St_passNight (Nat.le_of_ble_eq_true rfl) (show SS G m_St_passNight 0 [vr 4 i0, un] [] μ (RV K) from wp_s (M := m_St_passNight) (lk := lk_St) (tb := tc_St_passNight) (cu := [(12, [true, true])]) lk_St_ok (by decide +kernel) 12 true 0 _ _ _ h)
def tb_St_passNight_12 : List En := [e0 12 (.iload_n 1) 1, e0 13 (.aload_n 0) 1, eF 14 (.getfield 34) 3 4 6, eT 17 (.if_icmp .ge 20) 3 37, e0 20 (.aload_n 0) 1, eF 21 (.getfield 17) 3 4 1, e0 24 (.iload_n 1) 1, e0 25 .aaload 1, eC 26 (.bipush (-9)) 2 (-9), eF 28 (.putfield 82) 3 0 5, eC 31 (.iinc 1 1) 3 1, eT 34 (.goto (-22)) 3 12, e0 37 .return_ 1]
set_option maxRecDepth 100000 in
theorem b_St_passNight_12 {G : Ge} (i0 : Nat) (x1 : Int32) {μ : Mm} {K : Mm → Prop} (h :
  (if (μ.1 4 i0 6) ≤ x1 then
   K μ
  else
   (vp_in x1 5 ∧
    SS G m_St_passNight 12 [vr 4 i0, vi (x1 + 1)] [] (wI μ 0 (5 * i0 + x1.toNatClampNeg) 5 (-9)) (RV K)))) :
  SS G m_St_passNight 12 [vr 4 i0, vi x1] [] μ (RV K) :=
  wp_s (M := m_St_passNight) (lk := lk_St) (tb := tb_St_passNight_12) (cu := [(12, [true, true])]) lk_St_ok (by decide +kernel) 16 true _ _ _ _ h
def tc_Ho_squareAbove : List En := [eC 0 (.iconst 0) 1 0, e0 1 (.iload_n 0) 1, e0 2 (.iload_n 1) 1, e0 3 .isub 1, eT 4 (.invokestatic 53) 3 3, e0 7 (.istore_n 2) 1, e0 8 (.iload_n 2) 1, e0 9 (.iload_n 2) 1, e0 10 .imul 1, e0 11 .ireturn 1]
set_option maxRecDepth 100000 in
theorem c_Ho_squareAbove {G : Ge} (x0 : Int32) (x1 : Int32) {μ : Mm} {K : Int32 → Mm → Prop} (h :
  (CS G m_Jm_max [vi 0, vi (x0 - x1)] μ (RI fun v1 μ1 =>
   K (v1 * v1) μ1))) :
  CS G m_Ho_squareAbove [vi x0, vi x1] μ (RI K) :=
  CS_of pf_Ho_squareAbove (Nat.le_of_ble_eq_true rfl) (show SS G m_Ho_squareAbove 0 [vi x0, vi x1, un] [] μ (RI K) from wp_s (M := m_Ho_squareAbove) (lk := lk_Ho) (tb := tc_Ho_squareAbove) (cu := []) lk_Ho_ok (by decide +kernel) 13 true 0 _ _ _ h)
def tc_Ho_painOf : List En := [eT 0 (.getstatic 47) 3 55, e0 3 (.aload_n 0) 1, eF 4 (.getfield 15) 3 0 0, e0 7 .iaload 1, e0 8 (.iload_n 1) 1, eC 9 (.iconst 0) 1 0, e0 10 (.aload_n 0) 1, eF 11 (.getfield 18) 3 0 1, eT 14 (.getstatic 50) 3 54, e0 17 (.aload_n 0) 1, eF 18 (.getfield 15) 3 0 0, e0 21 .iaload 1, e0 22 .iadd 1, eT 23 (.invokestatic 53) 3 3, eT 26 (.invokestatic 56) 3 4, e0 29 .imul 1, e0 30 .ireturn 1]
set_option maxRecDepth 100000 in
theorem c_Ho_painOf {G : Ge} (i0 : Nat) (x1 : Int32) {μ : Mm} {K : Int32 → Mm → Prop} (h :
  (vp_in (μ.1 0 i0 0) 6 ∧
   (vp_in (μ.1 0 i0 0) 6 ∧
    (CS G m_Jm_max [vi 0, vi ((μ.1 0 i0 1) + (rom 54 (Int32.toNatClampNeg (μ.1 0 i0 0))))] μ (RI fun v1 μ1 =>
     (CS G m_Ho_squareAbove [vi x1, vi v1] μ1 (RI fun v2 μ2 =>
      K ((rom 55 (Int32.toNatClampNeg (μ.1 0 i0 0))) * v2) μ2))))))) :
  CS G m_Ho_painOf [vr 0 i0, vi x1] μ (RI K) :=
  CS_of pf_Ho_painOf (Nat.le_of_ble_eq_true rfl) (show SS G m_Ho_painOf 0 [vr 0 i0, vi x1] [] μ (RI K) from wp_s (M := m_Ho_painOf) (lk := lk_Ho) (tb := tc_Ho_painOf) (cu := []) lk_Ho_ok (by decide +kernel) 20 true 0 _ _ _ h)
def tc_Ho_bearTonight : List En := [e0 0 (.aload_n 0) 1, e0 1 .dup 1, eF 2 (.getfield 27) 3 0 3, e0 5 (.iload_n 1) 1, e0 6 .isub 1, eF 7 (.putfield 27) 3 0 3, e0 10 (.aload_n 0) 1, e0 11 .dup 1, eF 12 (.getfield 30) 3 0 4, e0 15 (.aload_n 0) 1, e0 16 (.iload_n 1) 1, eT 17 (.invokevirtual 59) 3 5, e0 20 .iadd 1, eF 21 (.putfield 30) 3 0 4, e0 24 (.aload_n 0) 1, e0 25 (.iload_n 1) 1, eF 26 (.putfield 9) 3 0 5, e0 29 .return_ 1]
set_option maxRecDepth 100000 in
theorem c_Ho_bearTonight {G : Ge} (i0 : Nat) (x1 : Int32) {μ : Mm} {K : Mm → Prop} (h :
  (CS G m_Ho_painOf [vr 0 i0, vi x1] (wI μ 0 i0 3 ((μ.1 0 i0 3) - x1)) (RI fun v1 μ1 =>
   K (wI (wI μ1 0 i0 4 (((wI μ 0 i0 3 ((μ.1 0 i0 3) - x1)).1 0 i0 4) + v1)) 0 i0 5 x1)))) :
  CS G m_Ho_bearTonight [vr 0 i0, vi x1] μ (RV K) :=
  CS_of pf_Ho_bearTonight (Nat.le_of_ble_eq_true rfl) (show SS G m_Ho_bearTonight 0 [vr 0 i0, vi x1] [] μ (RV K) from wp_s (M := m_Ho_bearTonight) (lk := lk_Ho) (tb := tc_Ho_bearTonight) (cu := []) lk_Ho_ok (by decide +kernel) 21 true 0 _ _ _ h)
def tc_St_perform : List En := [e0 0 (.aload_n 0) 1, eF 1 (.getfield 21) 3 4 2, e0 4 (.iload_n 1) 1, e0 5 .iaload 1, eC 6 (.iconst (-1)) 1 (-1), eT 7 (.if_icmp .ne 10) 3 17, e0 10 (.aload_n 0) 1, eT 11 (.invokevirtual 73) 3 5, eT 14 (.goto 86) 3 100, e0 17 (.aload_n 0) 1, eF 18 (.getfield 24) 3 4 3, e0 21 (.iload_n 1) 1, e0 22 .iaload 1, eC 23 (.iconst (-1)) 1 (-1), eT 24 (.if_icmp .ne 26) 3 50, e0 27 (.aload_n 0) 1, eF 28 (.getfield 17) 3 4 1, e0 31 (.aload_n 0) 1, eF 32 (.getfield 21) 3 4 2, e0 35 (.iload_n 1) 1, e0 36 .iaload 1, e0 37 .aaload 1, e0 38 (.aload_n 0) 1, eF 39 (.getfield 27) 3 4 4, e0 42 (.iload_n 1) 1, e0 43 .iaload 1, eT 44 (.invokevirtual 76) 3 6, eT 47 (.goto 53) 3 100, e0 50 (.aload_n 0) 1, eF 51 (.getfield 17) 3 4 1, e0 54 (.aload_n 0) 1, eF 55 (.getfield 21) 3 4 2, e0 58 (.iload_n 1) 1, e0 59 .iaload 1, e0 60 .aaload 1, e0 61 .dup 1, eF 62 (.getfield 79) 3 0 3, e0 65 (.aload_n 0) 1, eF 66 (.getfield 27) 3 4 4, e0 69 (.iload_n 1) 1, e0 70 .iaload 1, e0 71 .isub 1, eF 72 (.putfield 79) 3 0 3, e0 75 (.aload_n 0) 1, eF 76 (.getfield 17) 3 4 1, e0 79 (.aload_n 0) 1, eF 80 (.getfield 24) 3 4 3, e0 83 (.iload_n 1) 1, e0 84 .iaload 1, e0 85 .aaload 1, e0 86 .dup 1, eF 87 (.getfield 79) 3 0 3, e0 90 (.aload_n 0) 1, eF 91 (.getfield 27) 3 4 4, e0 94 (.iload_n 1) 1, e0 95 .iaload 1, e0 96 .iadd 1, eF 97 (.putfield 79) 3 0 3, e0 100 .return_ 1]
set_option maxRecDepth 100000 in
theorem c_St_perform {G : Ge} (i0 : Nat) (x1 : Int32) {μ : Mm} {K : Mm → Prop} (h :
  (vp_in x1 60 ∧
   (if (μ.1 21 i0 x1.toNatClampNeg) = (-1) then
    (CS G m_St_passNight [vr 4 i0] μ (RV fun μ1 =>
     K μ1))
   else
    (vp_in x1 60 ∧
     (if (μ.1 22 i0 x1.toNatClampNeg) = (-1) then
      (vp_in x1 60 ∧
       (vp_in (μ.1 21 i0 x1.toNatClampNeg) 5 ∧
        (vp_in x1 60 ∧
         (CS G m_Ho_bearTonight [vr 0 (5 * i0 + (Int32.toNatClampNeg (μ.1 21 i0 x1.toNatClampNeg))), vi (μ.1 23 i0 x1.toNatClampNeg)] μ (RV fun μ2 =>
          K μ2)))))
     else
      (vp_in x1 60 ∧
       (vp_in (μ.1 21 i0 x1.toNatClampNeg) 5 ∧
        (vp_in x1 60 ∧
         (vp_in x1 60 ∧
          (vp_in ((wI μ 0 (5 * i0 + (Int32.toNatClampNeg (μ.1 21 i0 x1.toNatClampNeg))) 3 ((μ.1 0 (5 * i0 + (Int32.toNatClampNeg (μ.1 21 i0 x1.toNatClampNeg))) 3) - (μ.1 23 i0 x1.toNatClampNeg))).1 22 i0 x1.toNatClampNeg) 5 ∧
           (vp_in x1 60 ∧
            K (wI (wI μ 0 (5 * i0 + (Int32.toNatClampNeg (μ.1 21 i0 x1.toNatClampNeg))) 3 ((μ.1 0 (5 * i0 + (Int32.toNatClampNeg (μ.1 21 i0 x1.toNatClampNeg))) 3) - (μ.1 23 i0 x1.toNatClampNeg))) 0 (5 * i0 + (Int32.toNatClampNeg ((wI μ 0 (5 * i0 + (Int32.toNatClampNeg (μ.1 21 i0 x1.toNatClampNeg))) 3 ((μ.1 0 (5 * i0 + (Int32.toNatClampNeg (μ.1 21 i0 x1.toNatClampNeg))) 3) - (μ.1 23 i0 x1.toNatClampNeg))).1 22 i0 x1.toNatClampNeg))) 3 (((wI μ 0 (5 * i0 + (Int32.toNatClampNeg (μ.1 21 i0 x1.toNatClampNeg))) 3 ((μ.1 0 (5 * i0 + (Int32.toNatClampNeg (μ.1 21 i0 x1.toNatClampNeg))) 3) - (μ.1 23 i0 x1.toNatClampNeg))).1 0 (5 * i0 + (Int32.toNatClampNeg ((wI μ 0 (5 * i0 + (Int32.toNatClampNeg (μ.1 21 i0 x1.toNatClampNeg))) 3 ((μ.1 0 (5 * i0 + (Int32.toNatClampNeg (μ.1 21 i0 x1.toNatClampNeg))) 3) - (μ.1 23 i0 x1.toNatClampNeg))).1 22 i0 x1.toNatClampNeg))) 3) + ((wI μ 0 (5 * i0 + (Int32.toNatClampNeg (μ.1 21 i0 x1.toNatClampNeg))) 3 ((μ.1 0 (5 * i0 + (Int32.toNatClampNeg (μ.1 21 i0 x1.toNatClampNeg))) 3) - (μ.1 23 i0 x1.toNatClampNeg))).1 23 i0 x1.toNatClampNeg)))))))))))))) :
  CS G m_St_perform [vr 4 i0, vi x1] μ (RV K) :=
  CS_of pf_St_perform (Nat.le_of_ble_eq_true rfl) (show SS G m_St_perform 0 [vr 4 i0, vi x1] [] μ (RV K) from wp_s (M := m_St_perform) (lk := lk_St) (tb := tc_St_perform) (cu := []) lk_St_ok (by decide +kernel) 46 true 0 _ _ _ h)
def tc_St_replay : List En := [e0 0 (.aload_n 0) 1, eC 1 (.iconst 0) 1 0, eF 2 (.putfield 37) 3 4 7, eC 5 (.iconst 0) 1 0, e0 6 (.istore_n 2) 1]
set_option maxRecDepth 100000 in
theorem c_St_replay {G : Ge} (i0 : Nat) (x1 : Int32) {μ : Mm} {K : Mm → Prop} (h :
  SS G m_St_replay 7 [vr 4 i0, vi x1, vi 0] [] (wI μ 4 i0 7 0) (RV K)) :
  CS G m_St_replay [vr 4 i0, vi x1] μ (RV K) :=
  CS_of pf_St_replay (Nat.le_of_ble_eq_true rfl) (show SS G m_St_replay 0 [vr 4 i0, vi x1, un] [] μ (RV K) from wp_s (M := m_St_replay) (lk := lk_St) (tb := tc_St_replay) (cu := [(7, [true, true, true]), (37, [true, true, true])]) lk_St_ok (by decide +kernel) 9 true 0 _ _ _ h)
def tb_St_replay_7 : List En := [e0 7 (.iload_n 2) 1, e0 8 (.aload_n 0) 1, eF 9 (.getfield 34) 3 4 6, eT 12 (.if_icmp .ge 18) 3 30, e0 15 (.aload_n 0) 1, eF 16 (.getfield 17) 3 4 1, e0 19 (.iload_n 2) 1, e0 20 .aaload 1, eT 21 (.invokevirtual 67) 3 3, eC 24 (.iinc 2 1) 3 1, eT 27 (.goto (-20)) 3 7, e0 30 (.aload_n 0) 1, e0 31 (.iload_n 1) 1, eF 32 (.putfield 40) 3 4 8, eC 35 (.iconst 0) 1 0, e0 36 (.istore_n 2) 1]
set_option maxRecDepth 100000 in
theorem b_St_replay_7 {G : Ge} (i0 : Nat) (x1 : Int32) (x2 : Int32) {μ : Mm} {K : Mm → Prop} (h :
  (if (μ.1 4 i0 6) ≤ x2 then
   SS G m_St_replay 37 [vr 4 i0, vi x1, vi 0] [] (wI μ 4 i0 8 x1) (RV K)
  else
   (vp_in x2 5 ∧
    (CS G m_Ho_restart [vr 0 (5 * i0 + x2.toNatClampNeg)] μ (RV fun μ1 =>
     SS G m_St_replay 7 [vr 4 i0, vi x1, vi (x2 + 1)] [] μ1 (RV K)))))) :
  SS G m_St_replay 7 [vr 4 i0, vi x1, vi x2] [] μ (RV K) :=
  wp_s (M := m_St_replay) (lk := lk_St) (tb := tb_St_replay_7) (cu := [(7, [true, true, true]), (37, [true, true, true])]) lk_St_ok (by decide +kernel) 15 true _ _ _ _ h
def tb_St_replay_37 : List En := [e0 37 (.iload_n 2) 1, e0 38 (.iload_n 1) 1, eT 39 (.if_icmp .ge 14) 3 53, e0 42 (.aload_n 0) 1, e0 43 (.iload_n 2) 1, eT 44 (.invokevirtual 70) 3 4, eC 47 (.iinc 2 1) 3 1, eT 50 (.goto (-13)) 3 37, e0 53 .return_ 1]
set_option maxRecDepth 100000 in
theorem b_St_replay_37 {G : Ge} (i0 : Nat) (x1 : Int32) (x2 : Int32) {μ : Mm} {K : Mm → Prop} (h :
  (if x1 ≤ x2 then
   K μ
  else
   (CS G m_St_perform [vr 4 i0, vi x2] μ (RV fun μ1 =>
    SS G m_St_replay 37 [vr 4 i0, vi x1, vi (x2 + 1)] [] μ1 (RV K))))) :
  SS G m_St_replay 37 [vr 4 i0, vi x1, vi x2] [] μ (RV K) :=
  wp_s (M := m_St_replay) (lk := lk_St) (tb := tb_St_replay_37) (cu := [(7, [true, true, true]), (37, [true, true, true])]) lk_St_ok (by decide +kernel) 12 true _ _ _ _ h
def tc_St_take : List En := [e0 0 (.aload_n 0) 1, e0 1 (.aload_n 1) 1, eF 2 (.getfield 30) 3 4 5, eF 5 (.putfield 30) 3 4 5, e0 8 (.aload_n 0) 1, e0 9 (.aload_n 1) 1, eF 10 (.getfield 34) 3 4 6, eF 13 (.putfield 34) 3 4 6, e0 16 (.aload_n 1) 1, eF 17 (.getfield 9) 3 4 0, eC 20 (.iconst 0) 1 0, e0 21 (.aload_n 0) 1, eF 22 (.getfield 9) 3 4 0, eC 25 (.iconst 0) 1 0, eC 26 (.bipush 8) 2 8, eT 28 (.invokestatic 44) 3 0, eC 31 (.iconst 0) 1 0, e0 32 (.istore_n 2) 1]
set_option maxRecDepth 100000 in
theorem c_St_take {G : Ge} (i0 : Nat) (i1 : Nat) {μ : Mm} {K : Mm → Prop} (h :
  ((¬ (0 : Int32) < 0 ∧ ¬ (0 : Int32) < 0 ∧ ¬ (8 : Int32) < 0 ∧ Int32.toNatClampNeg 0 + Int32.toNatClampNeg 8 ≤ 8 ∧ Int32.toNatClampNeg 0 + Int32.toNatClampNeg 8 ≤ 8) ∧
   SS G m_St_take 33 [vr 4 i0, vr 4 i1, vi 0] [] (cI (wI (wI μ 4 i0 5 (μ.1 4 i1 5)) 4 i0 6 ((wI μ 4 i0 5 (μ.1 4 i1 5)).1 4 i1 6)) 20 i1 (Int32.toNatClampNeg 0) 20 i0 (Int32.toNatClampNeg 0) (Int32.toNatClampNeg 8)) (RV K))) :
  CS G m_St_take [vr 4 i0, vr 4 i1] μ (RV K) :=
  CS_of pf_St_take (Nat.le_of_ble_eq_true rfl) (show SS G m_St_take 0 [vr 4 i0, vr 4 i1, un] [] μ (RV K) from wp_s (M := m_St_take) (lk := lk_St) (tb := tc_St_take) (cu := [(33, [true, true, true])]) lk_St_ok (by decide +kernel) 22 true 0 _ _ _ h)
def tb_St_take_33 : List En := [e0 33 (.iload_n 2) 1, e0 34 (.aload_n 0) 1, eF 35 (.getfield 34) 3 4 6, eT 38 (.if_icmp .ge 45) 3 83, e0 41 (.aload_n 0) 1, eF 42 (.getfield 17) 3 4 1, e0 45 (.iload_n 2) 1, e0 46 .aaload 1, e0 47 (.aload_n 1) 1, eF 48 (.getfield 17) 3 4 1, e0 51 (.iload_n 2) 1, e0 52 .aaload 1, eF 53 (.getfield 50) 3 0 0, e0 56 (.aload_n 1) 1, eF 57 (.getfield 17) 3 4 1, e0 60 (.iload_n 2) 1, e0 61 .aaload 1, eF 62 (.getfield 53) 3 0 1, e0 65 (.aload_n 1) 1, eF 66 (.getfield 17) 3 4 1, e0 69 (.iload_n 2) 1, e0 70 .aaload 1, eF 71 (.getfield 56) 3 0 2, eT 74 (.invokevirtual 59) 3 1, eC 77 (.iinc 2 1) 3 1, eT 80 (.goto (-47)) 3 33, e0 83 (.aload_n 1) 1, eF 84 (.getfield 21) 3 4 2, eC 87 (.iconst 0) 1 0, e0 88 (.aload_n 0) 1, eF 89 (.getfield 21) 3 4 2, eC 92 (.iconst 0) 1 0, eC 93 (.bipush 60) 2 60, eT 95 (.invokestatic 44) 3 0, e0 98 (.aload_n 1) 1, eF 99 (.getfield 24) 3 4 3, eC 102 (.iconst 0) 1 0, e0 103 (.aload_n 0) 1, eF 104 (.getfield 24) 3 4 3, eC 107 (.iconst 0) 1 0, eC 108 (.bipush 60) 2 60, eT 110 (.invokestatic 44) 3 0, e0 113 (.aload_n 1) 1, eF 114 (.getfield 27) 3 4 4, eC 117 (.iconst 0) 1 0, e0 118 (.aload_n 0) 1, eF 119 (.getfield 27) 3 4 4, eC 122 (.iconst 0) 1 0, eC 123 (.bipush 60) 2 60, eT 125 (.invokestatic 44) 3 0, e0 128 (.aload_n 0) 1, e0 129 (.aload_n 1) 1, eF 130 (.getfield 40) 3 4 8, eT 133 (.invokevirtual 63) 3 2, e0 136 .return_ 1]
set_option maxRecDepth 100000 in
theorem b_St_take_33 {G : Ge} (i0 : Nat) (i1 : Nat) (x2 : Int32) {μ : Mm} {K : Mm → Prop} (h :
  (if (μ.1 4 i0 6) ≤ x2 then
   ((¬ (0 : Int32) < 0 ∧ ¬ (0 : Int32) < 0 ∧ ¬ (60 : Int32) < 0 ∧ Int32.toNatClampNeg 0 + Int32.toNatClampNeg 60 ≤ 60 ∧ Int32.toNatClampNeg 0 + Int32.toNatClampNeg 60 ≤ 60) ∧
    ((¬ (0 : Int32) < 0 ∧ ¬ (0 : Int32) < 0 ∧ ¬ (60 : Int32) < 0 ∧ Int32.toNatClampNeg 0 + Int32.toNatClampNeg 60 ≤ 60 ∧ Int32.toNatClampNeg 0 + Int32.toNatClampNeg 60 ≤ 60) ∧
     ((¬ (0 : Int32) < 0 ∧ ¬ (0 : Int32) < 0 ∧ ¬ (60 : Int32) < 0 ∧ Int32.toNatClampNeg 0 + Int32.toNatClampNeg 60 ≤ 60 ∧ Int32.toNatClampNeg 0 + Int32.toNatClampNeg 60 ≤ 60) ∧
      (CS G m_St_replay [vr 4 i0, vi ((cI (cI (cI μ 21 i1 (Int32.toNatClampNeg 0) 21 i0 (Int32.toNatClampNeg 0) (Int32.toNatClampNeg 60)) 22 i1 (Int32.toNatClampNeg 0) 22 i0 (Int32.toNatClampNeg 0) (Int32.toNatClampNeg 60)) 23 i1 (Int32.toNatClampNeg 0) 23 i0 (Int32.toNatClampNeg 0) (Int32.toNatClampNeg 60)).1 4 i1 8)] (cI (cI (cI μ 21 i1 (Int32.toNatClampNeg 0) 21 i0 (Int32.toNatClampNeg 0) (Int32.toNatClampNeg 60)) 22 i1 (Int32.toNatClampNeg 0) 22 i0 (Int32.toNatClampNeg 0) (Int32.toNatClampNeg 60)) 23 i1 (Int32.toNatClampNeg 0) 23 i0 (Int32.toNatClampNeg 0) (Int32.toNatClampNeg 60)) (RV fun μ1 =>
       K μ1)))))
  else
   (vp_in x2 5 ∧
    (vp_in x2 5 ∧
     (vp_in x2 5 ∧
      (vp_in x2 5 ∧
       (CS G m_Ho_become [vr 0 (5 * i0 + x2.toNatClampNeg), vi (μ.1 0 (5 * i1 + x2.toNatClampNeg) 0), vi (μ.1 0 (5 * i1 + x2.toNatClampNeg) 1), vi (μ.1 0 (5 * i1 + x2.toNatClampNeg) 2)] μ (RV fun μ2 =>
        SS G m_St_take 33 [vr 4 i0, vr 4 i1, vi (x2 + 1)] [] μ2 (RV K))))))))) :
  SS G m_St_take 33 [vr 4 i0, vr 4 i1, vi x2] [] μ (RV K) :=
  wp_s (M := m_St_take) (lk := lk_St) (tb := tb_St_take_33) (cu := [(33, [true, true, true])]) lk_St_ok (by decide +kernel) 36 true _ _ _ _ h
def tc_Cs_street : List En := [e0 0 (.aload_n 0) 1, e0 1 (.iload_n 1) 1, eT 2 (.invokevirtual 107) 3 7, eT 5 (.ifCond .eq 5) 3 10, eC 8 (.iconst (-1)) 1 (-1), e0 9 .ireturn 1, e0 10 (.aload_n 0) 1, eF 11 (.getfield 15) 3 6 1, e0 14 (.iload_n 1) 1, e0 15 .aaload 1, eT 16 (.invokevirtual 90) 3 4, eT 19 (.ifCond .eq 9) 3 28, e0 22 (.aload_n 0) 1, eC 23 (.iconst 1) 1 1, eT 24 (.invokevirtual 75) 3 1, e0 27 .ireturn 1, e0 28 (.aload_n 0) 1, eF 29 (.getfield 32) 3 6 4, e0 32 (.aload_n 0) 1, eF 33 (.getfield 15) 3 6 1, e0 36 (.iload_n 1) 1, e0 37 .aaload 1, eT 38 (.invokevirtual 110) 3 8, eC 41 (.bipush (-9)) 2 (-9), eT 43 (.if_icmp .eq 6) 3 49, eC 46 (.bipush (-4)) 2 (-4), e0 48 .ireturn 1, e0 49 (.aload_n 0) 1, eF 50 (.getfield 21) 3 6 2, e0 53 (.aload_n 0) 1, eF 54 (.getfield 32) 3 6 4, eF 57 (.getfield 114) 3 2 0, eT 60 (.invokevirtual 117) 3 9, eC 63 (.iconst 0) 1 0, e0 64 (.istore_n 2) 1]
set_option maxRecDepth 100000 in
theorem c_Cs_street {G : Ge} (x1 : Int32) {μ : Mm} {K : Int32 → Mm → Prop} (h :
  (CS G m_Cs_noText [vr 6 0, vi x1] μ (RI fun v1 μ1 =>
   (if v1 = 0 then
    (vp_in x1 4 ∧
     (CS G m_Ro_isMissing [vr 8 x1.toNatClampNeg] μ1 (RI fun v2 μ2 =>
      (if v2 = 0 then
       (vp_in x1 4 ∧
        (CS G m_Re_read [vr 2 0, vr 8 x1.toNatClampNeg] μ2 (RI fun v3 μ3 =>
         (if v3 = (-9) then
          (CS G m_St_take [vr 4 0, vr 4 4] μ3 (RV fun μ4 =>
           SS G m_Cs_street 65 [vr 6 0, un, vi 0] [] μ4 (RI K)))
         else
          K (-4) μ3))))
      else
       (CS G m_Cs_answer [vr 6 0, vi 1] μ2 (RI fun v5 μ5 =>
        K v5 μ5))))))
   else
    K (-1) μ1)))) :
  CS G m_Cs_street [vr 6 0, vi x1] μ (RI K) :=
  CS_of pf_Cs_street (Nat.le_of_ble_eq_true rfl) (show SS G m_Cs_street 0 [vr 6 0, vi x1, un] [] μ (RI K) from wp_s (M := m_Cs_street) (lk := lk_Cs) (tb := tc_Cs_street) (cu := [(65, [true, false, true])]) lk_Cs_ok (by decide +kernel) 31 true 0 _ _ _ h)
def tb_Cs_street_65 : List En := [e0 65 (.iload_n 2) 1, eC 66 (.iconst 3) 1 3, eT 67 (.if_icmp .ge 18) 3 85, e0 70 (.aload_n 0) 1, eF 71 (.getfield 25) 3 6 3, e0 74 (.iload_n 2) 1, e0 75 .aaload 1, eT 76 (.invokevirtual 121) 3 10, eC 79 (.iinc 2 1) 3 1, eT 82 (.goto (-17)) 3 65, e0 85 (.aload_n 0) 1, eF 86 (.getfield 21) 3 6 2, eF 89 (.getfield 124) 3 4 6, e0 92 .ireturn 1]
set_option maxRecDepth 100000 in
theorem b_Cs_street_65 {G : Ge} (x2 : Int32) {μ : Mm} {K : Int32 → Mm → Prop} (h :
  (if (3 : Int32) ≤ x2 then
   K (μ.1 4 0 6) μ
  else
   (vp_in x2 3 ∧
    (CS G m_St_clear [vr 4 (1 + x2.toNatClampNeg)] μ (RV fun μ1 =>
     SS G m_Cs_street 65 [vr 6 0, un, vi (x2 + 1)] [] μ1 (RI K)))))) :
  SS G m_Cs_street 65 [vr 6 0, un, vi x2] [] μ (RI K) :=
  wp_s (M := m_Cs_street) (lk := lk_Cs) (tb := tb_Cs_street_65) (cu := [(65, [true, false, true])]) lk_Cs_ok (by decide +kernel) 14 true _ _ _ _ h
def tc_Cs_noHouse : List En := [e0 0 (.iload_n 1) 1, eT 1 (.ifCond .lt 14) 3 15, e0 4 (.iload_n 1) 1, e0 5 (.aload_n 0) 1, eF 6 (.getfield 21) 3 6 2, eF 9 (.getfield 124) 3 4 6, eT 12 (.if_icmp .lt 7) 3 19, eC 15 (.iconst 1) 1 1, eT 16 (.goto 4) 3 20, eC 19 (.iconst 0) 1 0, e0 20 .ireturn 1]
set_option maxRecDepth 100000 in
theorem c_Cs_noHouse {G : Ge} (x1 : Int32) {μ : Mm} {K : Int32 → Mm → Prop} (h :
  (if x1 < 0 then
   (((1 : Int32) = 0 ∨ (1 : Int32) = 1) ∧ K 1 μ)
  else
   (if x1 < (μ.1 4 0 6) then
    (((0 : Int32) = 0 ∨ (0 : Int32) = 1) ∧ K 0 μ)
   else
    (((1 : Int32) = 0 ∨ (1 : Int32) = 1) ∧ K 1 μ)))) :
  CS G m_Cs_noHouse [vr 6 0, vi x1] μ (RI K) :=
  CS_of pf_Cs_noHouse (Nat.le_of_ble_eq_true rfl) (show SS G m_Cs_noHouse 0 [vr 6 0, vi x1] [] μ (RI K) from wp_s (M := m_Cs_noHouse) (lk := lk_Cs) (tb := tc_Cs_noHouse) (cu := []) lk_Cs_ok (by decide +kernel) 13 true 0 _ _ _ h)
def tc_St_isCandlemas : List En := [e0 0 (.aload_n 0) 1, eF 1 (.getfield 37) 3 4 7, e0 4 (.aload_n 0) 1, eF 5 (.getfield 30) 3 4 5, eT 8 (.if_icmp .lt 7) 3 15, eC 11 (.iconst 1) 1 1, eT 12 (.goto 4) 3 16, eC 15 (.iconst 0) 1 0, e0 16 .ireturn 1]
set_option maxRecDepth 100000 in
theorem c_St_isCandlemas {G : Ge} (i0 : Nat) {μ : Mm} {K : Int32 → Mm → Prop} (h :
  (if (μ.1 4 i0 7) < (μ.1 4 i0 5) then
   (((0 : Int32) = 0 ∨ (0 : Int32) = 1) ∧ K 0 μ)
  else
   (((1 : Int32) = 0 ∨ (1 : Int32) = 1) ∧ K 1 μ))) :
  CS G m_St_isCandlemas [vr 4 i0] μ (RI K) :=
  CS_of pf_St_isCandlemas (Nat.le_of_ble_eq_true rfl) (show SS G m_St_isCandlemas 0 [vr 4 i0] [] μ (RI K) from wp_s (M := m_St_isCandlemas) (lk := lk_St) (tb := tc_St_isCandlemas) (cu := []) lk_St_ok (by decide +kernel) 11 true 0 _ _ _ h)
def tc_Ho_isOf : List En := [e0 0 (.aload_n 0) 1, eF 1 (.getfield 15) 3 0 0, e0 4 (.iload_n 1) 1, eT 5 (.if_icmp .eq 15) 3 20, eT 8 (.getstatic 33) 3 53, e0 11 (.aload_n 0) 1, eF 12 (.getfield 15) 3 0 0, e0 15 .iaload 1, e0 16 (.iload_n 1) 1, eT 17 (.if_icmp .ne 7) 3 24, eC 20 (.iconst 1) 1 1, eT 21 (.goto 4) 3 25, eC 24 (.iconst 0) 1 0, e0 25 .ireturn 1]
set_option maxRecDepth 100000 in
theorem c_Ho_isOf {G : Ge} (i0 : Nat) (x1 : Int32) {μ : Mm} {K : Int32 → Mm → Prop} (h :
  (if (μ.1 0 i0 0) = x1 then
   (((1 : Int32) = 0 ∨ (1 : Int32) = 1) ∧ K 1 μ)
  else
   (vp_in (μ.1 0 i0 0) 6 ∧
    (if (rom 53 (Int32.toNatClampNeg (μ.1 0 i0 0))) = x1 then
     (((1 : Int32) = 0 ∨ (1 : Int32) = 1) ∧ K 1 μ)
    else
     (((0 : Int32) = 0 ∨ (0 : Int32) = 1) ∧ K 0 μ))))) :
  CS G m_Ho_isOf [vr 0 i0, vi x1] μ (RI K) :=
  CS_of pf_Ho_isOf (Nat.le_of_ble_eq_true rfl) (show SS G m_Ho_isOf 0 [vr 0 i0, vi x1] [] μ (RI K) from wp_s (M := m_Ho_isOf) (lk := lk_Ho) (tb := tc_Ho_isOf) (cu := []) lk_Ho_ok (by decide +kernel) 16 true 0 _ _ _ h)
def tc_Jm_min : List En := [e0 0 (.iload_n 0) 1, e0 1 (.iload_n 1) 1, eT 2 (.if_icmp .gt 7) 3 9, e0 5 (.iload_n 0) 1, eT 6 (.goto 4) 3 10, e0 9 (.iload_n 1) 1, e0 10 .ireturn 1]
set_option maxRecDepth 100000 in
theorem c_Jm_min {G : Ge} (x0 : Int32) (x1 : Int32) {μ : Mm} {K : Int32 → Mm → Prop} (h :
  (if x1 < x0 then
   K x1 μ
  else
   K x0 μ)) :
  CS G m_Jm_min [vi x0, vi x1] μ (RI K) :=
  CS_of pf_Jm_min (Nat.le_of_ble_eq_true rfl) (show SS G m_Jm_min 0 [vi x0, vi x1] [] μ (RI K) from wp_s (M := m_Jm_min) (lk := lk_Jm) (tb := tc_Jm_min) (cu := []) lk_Jm_ok (by decide +kernel) 9 true 0 _ _ _ h)
def tc_Ho_canAt : List En := [e0 0 (.aload_n 0) 1, eC 1 (.iconst 3) 1 3, eT 2 (.invokevirtual 37) 3 1, eT 5 (.ifCond .eq 11) 3 16, e0 8 (.iload_n 1) 1, eC 9 (.iconst 2) 1 2, eT 10 (.invokestatic 41) 3 2, eT 13 (.goto 4) 3 17, e0 16 (.iload_n 1) 1, e0 17 .ireturn 1]
set_option maxRecDepth 100000 in
theorem c_Ho_canAt {G : Ge} (i0 : Nat) (x1 : Int32) {μ : Mm} {K : Int32 → Mm → Prop} (h :
  (CS G m_Ho_isOf [vr 0 i0, vi 3] μ (RI fun v1 μ1 =>
   (if v1 = 0 then
    K x1 μ1
   else
    (CS G m_Jm_min [vi x1, vi 2] μ1 (RI fun v2 μ2 =>
     K v2 μ2)))))) :
  CS G m_Ho_canAt [vr 0 i0, vi x1] μ (RI K) :=
  CS_of pf_Ho_canAt (Nat.le_of_ble_eq_true rfl) (show SS G m_Ho_canAt 0 [vr 0 i0, vi x1] [] μ (RI K) from wp_s (M := m_Ho_canAt) (lk := lk_Ho) (tb := tc_Ho_canAt) (cu := []) lk_Ho_ok (by decide +kernel) 12 true 0 _ _ _ h)
def tc_St_topIn : List En := [e0 0 (.iload_n 2) 1, e0 1 (.aload_n 0) 1, eF 2 (.getfield 37) 3 4 7, eT 5 (.if_icmp .ne 19) 3 24, e0 8 (.aload_n 0) 1, eF 9 (.getfield 17) 3 4 1, e0 12 (.iload_n 1) 1, e0 13 .aaload 1, eF 14 (.getfield 82) 3 0 5, eC 17 (.bipush (-9)) 2 (-9), eT 19 (.if_icmp .eq 5) 3 24, eC 22 (.iconst 0) 1 0, e0 23 .ireturn 1, e0 24 (.aload_n 0) 1, eF 25 (.getfield 17) 3 4 1, e0 28 (.iload_n 1) 1, e0 29 .aaload 1, e0 30 (.aload_n 0) 1, eF 31 (.getfield 9) 3 4 0, e0 34 (.iload_n 2) 1, e0 35 .iaload 1, eT 36 (.invokevirtual 85) 3 7, e0 39 .ireturn 1]
set_option maxRecDepth 100000 in
theorem c_St_topIn {G : Ge} (i0 : Nat) (x1 : Int32) (x2 : Int32) {μ : Mm} {K : Int32 → Mm → Prop} (h :
  (if x2 = (μ.1 4 i0 7) then
   (vp_in x1 5 ∧
    (if (μ.1 0 (5 * i0 + x1.toNatClampNeg) 5) = (-9) then
     (vp_in x1 5 ∧
      (vp_in x2 8 ∧
       (CS G m_Ho_canAt [vr 0 (5 * i0 + x1.toNatClampNeg), vi (μ.1 20 i0 x2.toNatClampNeg)] μ (RI fun v1 μ1 =>
        K v1 μ1))))
    else
     K 0 μ))
  else
   (vp_in x1 5 ∧
    (vp_in x2 8 ∧
     (CS G m_Ho_canAt [vr 0 (5 * i0 + x1.toNatClampNeg), vi (μ.1 20 i0 x2.toNatClampNeg)] μ (RI fun v2 μ2 =>
      K v2 μ2)))))) :
  CS G m_St_topIn [vr 4 i0, vi x1, vi x2] μ (RI K) :=
  CS_of pf_St_topIn (Nat.le_of_ble_eq_true rfl) (show SS G m_St_topIn 0 [vr 4 i0, vi x1, vi x2] [] μ (RI K) from wp_s (M := m_St_topIn) (lk := lk_St) (tb := tc_St_topIn) (cu := []) lk_St_ok (by decide +kernel) 24 true 0 _ _ _ h)
def tc_St_canTonight : List En := [e0 0 (.aload_n 0) 1, eT 1 (.invokevirtual 89) 3 8, eT 4 (.ifCond .eq 7) 3 11, eC 7 (.iconst 0) 1 0, eT 8 (.goto 24) 3 32, e0 11 (.aload_n 0) 1, e0 12 (.iload_n 1) 1, e0 13 (.aload_n 0) 1, eF 14 (.getfield 37) 3 4 7, eT 17 (.invokevirtual 93) 3 9, e0 20 (.aload_n 0) 1, eF 21 (.getfield 17) 3 4 1, e0 24 (.iload_n 1) 1, e0 25 .aaload 1, eF 26 (.getfield 79) 3 0 3, eT 29 (.invokestatic 97) 3 10, e0 32 .ireturn 1]
set_option maxRecDepth 100000 in
theorem c_St_canTonight {G : Ge} (i0 : Nat) (x1 : Int32) {μ : Mm} {K : Int32 → Mm → Prop} (h :
  (CS G m_St_isCandlemas [vr 4 i0] μ (RI fun v1 μ1 =>
   (if v1 = 0 then
    (CS G m_St_topIn [vr 4 i0, vi x1, vi (μ1.1 4 i0 7)] μ1 (RI fun v2 μ2 =>
     (vp_in x1 5 ∧
      (CS G m_Jm_min [vi v2, vi (μ2.1 0 (5 * i0 + x1.toNatClampNeg) 3)] μ2 (RI fun v3 μ3 =>
       K v3 μ3)))))
   else
    K 0 μ1)))) :
  CS G m_St_canTonight [vr 4 i0, vi x1] μ (RI K) :=
  CS_of pf_St_canTonight (Nat.le_of_ble_eq_true rfl) (show SS G m_St_canTonight 0 [vr 4 i0, vi x1] [] μ (RI K) from wp_s (M := m_St_canTonight) (lk := lk_St) (tb := tc_St_canTonight) (cu := []) lk_St_ok (by decide +kernel) 18 true 0 _ _ _ h)
def tc_Cs_sideOf : List En := [e0 0 (.aload_n 0) 1, eF 1 (.getfield 21) 3 6 2, eF 4 (.getfield 137) 3 4 1, e0 7 (.iload_n 1) 1, e0 8 .aaload 1, e0 9 (.astore_n 3) 1, e0 10 (.iload_n 2) 1, eS 11 (.tableswitch 58 0 4 #[33, 38, 43, 48, 53]) 33 69 [(0, 44), (1, 49), (2, 54), (3, 59), (4, 64)], e0 44 (.aload_n 3) 1, eF 45 (.getfield 300) 3 0 0, e0 48 .ireturn 1, e0 49 (.aload_n 3) 1, eF 50 (.getfield 303) 3 0 1, e0 53 .ireturn 1, e0 54 (.aload_n 3) 1, eF 55 (.getfield 162) 3 0 3, e0 58 .ireturn 1, e0 59 (.aload_n 3) 1, eF 60 (.getfield 306) 3 0 4, e0 63 .ireturn 1, e0 64 (.aload_n 3) 1, eF 65 (.getfield 264) 3 0 5, e0 68 .ireturn 1, e0 69 (.aload_n 0) 1, eF 70 (.getfield 21) 3 6 2, e0 73 (.iload_n 1) 1, eT 74 (.invokevirtual 152) 3 16, e0 77 .ireturn 1]
set_option maxRecDepth 100000 in
theorem c_Cs_sideOf {G : Ge} (x1 : Int32) (x2 : Int32) {μ : Mm} {K : Int32 → Mm → Prop} (h :
  (vp_in x1 5 ∧
   (if x2 = 0 then
    K (μ.1 0 (5 * 0 + x1.toNatClampNeg) 0) μ
   else
    (if x2 = 1 then
     K (μ.1 0 (5 * 0 + x1.toNatClampNeg) 1) μ
    else
     (if x2 = 2 then
      K (μ.1 0 (5 * 0 + x1.toNatClampNeg) 3) μ
     else
      (if x2 = 3 then
       K (μ.1 0 (5 * 0 + x1.toNatClampNeg) 4) μ
      else
       (if x2 = 4 then
        K (μ.1 0 (5 * 0 + x1.toNatClampNeg) 5) μ
       else
        (CS G m_St_canTonight [vr 4 0, vi x1] μ (RI fun v1 μ1 =>
         K v1 μ1))))))))) :
  CS G m_Cs_sideOf [vr 6 0, vi x1, vi x2] μ (RI K) :=
  CS_of pf_Cs_sideOf (Nat.le_of_ble_eq_true rfl) (show SS G m_Cs_sideOf 0 [vr 6 0, vi x1, vi x2, un] [] μ (RI K) from wp_s (M := m_Cs_sideOf) (lk := lk_Cs) (tb := tc_Cs_sideOf) (cu := []) lk_Cs_ok (by decide +kernel) 16 true 0 _ _ _ h)
def tc_Cs_house : List En := [e0 0 (.aload_n 0) 1, e0 1 (.iload_n 1) 1, eT 2 (.invokevirtual 125) 3 11, eT 5 (.ifCond .ne 13) 3 18, e0 8 (.iload_n 2) 1, eT 9 (.ifCond .lt 9) 3 18, e0 12 (.iload_n 2) 1, eC 13 (.bipush 6) 2 6, eT 15 (.if_icmp .lt 5) 3 20, eC 18 (.iconst (-1)) 1 (-1), e0 19 .ireturn 1, e0 20 (.aload_n 0) 1, e0 21 (.aload_n 0) 1, e0 22 (.iload_n 1) 1, e0 23 (.iload_n 2) 1, eT 24 (.invokevirtual 128) 3 12, eF 27 (.putfield 58) 3 6 9, eC 30 (.iconst 1) 1 1, e0 31 .ireturn 1]
set_option maxRecDepth 100000 in
theorem c_Cs_house {G : Ge} (x1 : Int32) (x2 : Int32) {μ : Mm} {K : Int32 → Mm → Prop} (h :
  (CS G m_Cs_noHouse [vr 6 0, vi x1] μ (RI fun v1 μ1 =>
   (if v1 = 0 then
    (if x2 < 0 then
     K (-1) μ1
    else
     (if x2 < 6 then
      (CS G m_Cs_sideOf [vr 6 0, vi x1, vi x2] μ1 (RI fun v2 μ2 =>
       K 1 (wI μ2 6 0 9 v2)))
     else
      K (-1) μ1))
   else
    K (-1) μ1)))) :
  CS G m_Cs_house [vr 6 0, vi x1, vi x2] μ (RI K) :=
  CS_of pf_Cs_house (Nat.le_of_ble_eq_true rfl) (show SS G m_Cs_house 0 [vr 6 0, vi x1, vi x2] [] μ (RI K) from wp_s (M := m_Cs_house) (lk := lk_Cs) (tb := tc_Cs_house) (cu := []) lk_Cs_ok (by decide +kernel) 20 true 0 _ _ _ h)
def tc_Cs_noNight : List En := [e0 0 (.iload_n 1) 1, eT 1 (.ifCond .lt 14) 3 15, e0 4 (.iload_n 1) 1, e0 5 (.aload_n 0) 1, eF 6 (.getfield 21) 3 6 2, eF 9 (.getfield 168) 3 4 5, eT 12 (.if_icmp .lt 7) 3 19, eC 15 (.iconst 1) 1 1, eT 16 (.goto 4) 3 20, eC 19 (.iconst 0) 1 0, e0 20 .ireturn 1]
set_option maxRecDepth 100000 in
theorem c_Cs_noNight {G : Ge} (x1 : Int32) {μ : Mm} {K : Int32 → Mm → Prop} (h :
  (if x1 < 0 then
   (((1 : Int32) = 0 ∨ (1 : Int32) = 1) ∧ K 1 μ)
  else
   (if x1 < (μ.1 4 0 5) then
    (((0 : Int32) = 0 ∨ (0 : Int32) = 1) ∧ K 0 μ)
   else
    (((1 : Int32) = 0 ∨ (1 : Int32) = 1) ∧ K 1 μ)))) :
  CS G m_Cs_noNight [vr 6 0, vi x1] μ (RI K) :=
  CS_of pf_Cs_noNight (Nat.le_of_ble_eq_true rfl) (show SS G m_Cs_noNight 0 [vr 6 0, vi x1] [] μ (RI K) from wp_s (M := m_Cs_noNight) (lk := lk_Cs) (tb := tc_Cs_noNight) (cu := []) lk_Cs_ok (by decide +kernel) 13 true 0 _ _ _ h)
def tc_Cs_cold : List En := [e0 0 (.aload_n 0) 1, e0 1 (.iload_n 1) 1, eT 2 (.invokevirtual 131) 3 13, eT 5 (.ifCond .eq 7) 3 12, eC 8 (.iconst (-1)) 1 (-1), eT 9 (.goto 12) 3 21, e0 12 (.aload_n 0) 1, eF 13 (.getfield 21) 3 6 2, eF 16 (.getfield 134) 3 4 0, e0 19 (.iload_n 1) 1, e0 20 .iaload 1, e0 21 .ireturn 1]
set_option maxRecDepth 100000 in
theorem c_Cs_cold {G : Ge} (x1 : Int32) {μ : Mm} {K : Int32 → Mm → Prop} (h :
  (CS G m_Cs_noNight [vr 6 0, vi x1] μ (RI fun v1 μ1 =>
   (if v1 = 0 then
    (vp_in x1 8 ∧
     K (μ1.1 20 0 x1.toNatClampNeg) μ1)
   else
    K (-1) μ1)))) :
  CS G m_Cs_cold [vr 6 0, vi x1] μ (RI K) :=
  CS_of pf_Cs_cold (Nat.le_of_ble_eq_true rfl) (show SS G m_Cs_cold 0 [vr 6 0, vi x1] [] μ (RI K) from wp_s (M := m_Cs_cold) (lk := lk_Cs) (tb := tc_Cs_cold) (cu := []) lk_Cs_ok (by decide +kernel) 13 true 0 _ _ _ h)
def tc_Ho_mostWithoutPain : List En := [eC 0 (.iconst 0) 1 0, e0 1 (.istore_n 1) 1, eC 2 (.iconst 1) 1 1, e0 3 (.istore_n 2) 1]
set_option maxRecDepth 100000 in
theorem c_Ho_mostWithoutPain {G : Ge} (i0 : Nat) {μ : Mm} {K : Int32 → Mm → Prop} (h :
  SS G m_Ho_mostWithoutPain 4 [vr 0 i0, vi 0, vi 1] [] μ (RI K)) :
  CS G m_Ho_mostWithoutPain [vr 0 i0] μ (RI K) :=
  CS_of pf_Ho_mostWithoutPain (Nat.le_of_ble_eq_true rfl) (show SS G m_Ho_mostWithoutPain 0 [vr 0 i0, un, un] [] μ (RI K) from wp_s (M := m_Ho_mostWithoutPain) (lk := lk_Ho) (tb := tc_Ho_mostWithoutPain) (cu := [(4, [true, true, true])]) lk_Ho_ok (by decide +kernel) 8 true 0 _ _ _ h)
def tb_Ho_mostWithoutPain_4 : List En := [e0 4 (.iload_n 2) 1, eC 5 (.bipush 9) 2 9, eT 7 (.if_icmp .gt 19) 3 26, e0 10 (.aload_n 0) 1, e0 11 (.iload_n 2) 1, eT 12 (.invokevirtual 59) 3 5, eT 15 (.ifCond .ne 5) 3 20, e0 18 (.iload_n 2) 1, e0 19 (.istore_n 1) 1, eC 20 (.iinc 2 1) 3 1, eT 23 (.goto (-19)) 3 4, e0 26 (.iload_n 1) 1, e0 27 .ireturn 1]
set_option maxRecDepth 100000 in
theorem b_Ho_mostWithoutPain_4 {G : Ge} (i0 : Nat) (x1 : Int32) (x2 : Int32) {μ : Mm} {K : Int32 → Mm → Prop} (h :
  (if (9 : Int32) < x2 then
   K x1 μ
  else
   (CS G m_Ho_painOf [vr 0 i0, vi x2] μ (RI fun v1 μ1 =>
    (if v1 = 0 then
     SS G m_Ho_mostWithoutPain 4 [vr 0 i0, vi x2, vi (x2 + 1)] [] μ1 (RI K)
    else
     SS G m_Ho_mostWithoutPain 4 [vr 0 i0, vi x1, vi (x2 + 1)] [] μ1 (RI K)))))) :
  SS G m_Ho_mostWithoutPain 4 [vr 0 i0, vi x1, vi x2] [] μ (RI K) :=
  wp_s (M := m_Ho_mostWithoutPain) (lk := lk_Ho) (tb := tb_Ho_mostWithoutPain_4) (cu := [(4, [true, true, true])]) lk_Ho_ok (by decide +kernel) 15 true _ _ _ _ h
def tc_Ho_plainPainOf : List En := [e0 0 (.iload_n 1) 1, e0 1 (.aload_n 0) 1, eF 2 (.getfield 18) 3 0 1, eT 5 (.invokestatic 56) 3 4, e0 8 .ireturn 1]
set_option maxRecDepth 100000 in
theorem c_Ho_plainPainOf {G : Ge} (i0 : Nat) (x1 : Int32) {μ : Mm} {K : Int32 → Mm → Prop} (h :
  (CS G m_Ho_squareAbove [vi x1, vi (μ.1 0 i0 1)] μ (RI fun v1 μ1 =>
   K v1 μ1))) :
  CS G m_Ho_plainPainOf [vr 0 i0, vi x1] μ (RI K) :=
  CS_of pf_Ho_plainPainOf (Nat.le_of_ble_eq_true rfl) (show SS G m_Ho_plainPainOf 0 [vr 0 i0, vi x1] [] μ (RI K) from wp_s (M := m_Ho_plainPainOf) (lk := lk_Ho) (tb := tc_Ho_plainPainOf) (cu := []) lk_Ho_ok (by decide +kernel) 8 true 0 _ _ _ h)
def tc_Ho_leastWithPain : List En := [eC 0 (.iconst 1) 1 1, e0 1 (.istore_n 1) 1]
set_option maxRecDepth 100000 in
theorem c_Ho_leastWithPain {G : Ge} (i0 : Nat) {μ : Mm} {K : Int32 → Mm → Prop} (h :
  SS G m_Ho_leastWithPain 2 [vr 0 i0, vi 1] [] μ (RI K)) :
  CS G m_Ho_leastWithPain [vr 0 i0] μ (RI K) :=
  CS_of pf_Ho_leastWithPain (Nat.le_of_ble_eq_true rfl) (show SS G m_Ho_leastWithPain 0 [vr 0 i0, un] [] μ (RI K) from wp_s (M := m_Ho_leastWithPain) (lk := lk_Ho) (tb := tc_Ho_leastWithPain) (cu := [(2, [true, true])]) lk_Ho_ok (by decide +kernel) 6 true 0 _ _ _ h)
def tb_Ho_leastWithPain_2 : List En := [e0 2 (.iload_n 1) 1, eC 3 (.bipush 9) 2 9, eT 5 (.if_icmp .gt 19) 3 24, e0 8 (.aload_n 0) 1, e0 9 (.iload_n 1) 1, eT 10 (.invokevirtual 59) 3 5, eT 13 (.ifCond .le 5) 3 18, e0 16 (.iload_n 1) 1, e0 17 .ireturn 1, eC 18 (.iinc 1 1) 3 1, eT 21 (.goto (-19)) 3 2, eC 24 (.bipush (-9)) 2 (-9), e0 26 .ireturn 1]
set_option maxRecDepth 100000 in
theorem b_Ho_leastWithPain_2 {G : Ge} (i0 : Nat) (x1 : Int32) {μ : Mm} {K : Int32 → Mm → Prop} (h :
  (if (9 : Int32) < x1 then
   K (-9) μ
  else
   (CS G m_Ho_painOf [vr 0 i0, vi x1] μ (RI fun v1 μ1 =>
    (if v1 ≤ 0 then
     SS G m_Ho_leastWithPain 2 [vr 0 i0, vi (x1 + 1)] [] μ1 (RI K)
    else
     K x1 μ1))))) :
  SS G m_Ho_leastWithPain 2 [vr 0 i0, vi x1] [] μ (RI K) :=
  wp_s (M := m_Ho_leastWithPain) (lk := lk_Ho) (tb := tb_Ho_leastWithPain_2) (cu := [(2, [true, true])]) lk_Ho_ok (by decide +kernel) 13 true _ _ _ _ h
def tc_Ho_tellsAs : List En := [e0 0 (.iload_n 1) 1, eS 1 (.tableswitch 70 1 4 #[31, 36, 50, 61]) 31 71 [(1, 32), (2, 37), (3, 51), (4, 62)], e0 32 (.aload_n 0) 1, eT 33 (.invokevirtual 63) 3 6, e0 36 .ireturn 1, e0 37 (.aload_n 0) 1, eC 38 (.bipush 9) 2 9, eT 40 (.invokevirtual 59) 3 5, e0 43 (.aload_n 0) 1, eC 44 (.bipush 9) 2 9, eT 46 (.invokevirtual 67) 3 7, e0 49 .isub 1, e0 50 .ireturn 1, e0 51 (.aload_n 0) 1, eF 52 (.getfield 27) 3 0 3, eC 55 (.iconst 2) 1 2, e0 56 .iadd 1, eC 57 (.iconst 1) 1 1, e0 58 .isub 1, eC 59 (.iconst 2) 1 2, e0 60 .idiv 1, e0 61 .ireturn 1, e0 62 (.aload_n 0) 1, e0 63 (.aload_n 0) 1, eF 64 (.getfield 27) 3 0 3, eT 67 (.invokevirtual 67) 3 7, e0 70 .ireturn 1, e0 71 (.aload_n 0) 1, eT 72 (.invokevirtual 70) 3 8, e0 75 .ireturn 1]
set_option maxRecDepth 100000 in
theorem c_Ho_tellsAs {G : Ge} (i0 : Nat) (x1 : Int32) {μ : Mm} {K : Int32 → Mm → Prop} (h :
  (if x1 = 1 then
   (CS G m_Ho_mostWithoutPain [vr 0 i0] μ (RI fun v5 μ5 =>
    K v5 μ5))
  else
   (if x1 = 2 then
    (CS G m_Ho_painOf [vr 0 i0, vi 9] μ (RI fun v3 μ3 =>
     (CS G m_Ho_plainPainOf [vr 0 i0, vi 9] μ3 (RI fun v4 μ4 =>
      K (v3 - v4) μ4))))
   else
    (if x1 = 3 then
     (¬ (2 : Int32) = 0 ∧
      K ((((μ.1 0 i0 3) + 2) - 1) / 2) μ)
    else
     (if x1 = 4 then
      (CS G m_Ho_plainPainOf [vr 0 i0, vi (μ.1 0 i0 3)] μ (RI fun v2 μ2 =>
       K v2 μ2))
     else
      (CS G m_Ho_leastWithPain [vr 0 i0] μ (RI fun v1 μ1 =>
       K v1 μ1))))))) :
  CS G m_Ho_tellsAs [vr 0 i0, vi x1] μ (RI K) :=
  CS_of pf_Ho_tellsAs (Nat.le_of_ble_eq_true rfl) (show SS G m_Ho_tellsAs 0 [vr 0 i0, vi x1] [] μ (RI K) from wp_s (M := m_Ho_tellsAs) (lk := lk_Ho) (tb := tc_Ho_tellsAs) (cu := []) lk_Ho_ok (by decide +kernel) 14 true 0 _ _ _ h)
def tc_Cs_mark : List En := [e0 0 (.aload_n 0) 1, e0 1 (.iload_n 1) 1, eT 2 (.invokevirtual 125) 3 11, eT 5 (.ifCond .ne 13) 3 18, e0 8 (.iload_n 2) 1, eC 9 (.iconst 1) 1 1, eT 10 (.if_icmp .lt 8) 3 18, e0 13 (.iload_n 2) 1, eC 14 (.iconst 5) 1 5, eT 15 (.if_icmp .le 5) 3 20, eC 18 (.iconst (-1)) 1 (-1), e0 19 .ireturn 1, e0 20 (.aload_n 0) 1, eF 21 (.getfield 21) 3 6 2, eF 24 (.getfield 137) 3 4 1, e0 27 (.iload_n 1) 1, e0 28 .aaload 1, e0 29 (.iload_n 2) 1, eT 30 (.invokevirtual 141) 3 14, eT 33 (.ifCond .ne 9) 3 42, e0 36 (.aload_n 0) 1, eC 37 (.iconst 3) 1 3, eT 38 (.invokevirtual 75) 3 1, e0 41 .ireturn 1, e0 42 (.aload_n 0) 1, eF 43 (.getfield 21) 3 6 2, eF 46 (.getfield 137) 3 4 1, e0 49 (.iload_n 1) 1, e0 50 .aaload 1, e0 51 (.iload_n 2) 1, eT 52 (.invokevirtual 146) 3 15, e0 55 .ireturn 1]
set_option maxRecDepth 100000 in
theorem c_Cs_mark {G : Ge} (x1 : Int32) (x2 : Int32) {μ : Mm} {K : Int32 → Mm → Prop} (h :
  (CS G m_Cs_noHouse [vr 6 0, vi x1] μ (RI fun v1 μ1 =>
   (if v1 = 0 then
    (if x2 < 1 then
     K (-1) μ1
    else
     (if x2 ≤ 5 then
      (vp_in x1 5 ∧
       (CS G m_Ho_isOf [vr 0 (5 * 0 + x1.toNatClampNeg), vi x2] μ1 (RI fun v2 μ2 =>
        (if v2 = 0 then
         (CS G m_Cs_answer [vr 6 0, vi 3] μ2 (RI fun v3 μ3 =>
          K v3 μ3))
        else
         (vp_in x1 5 ∧
          (CS G m_Ho_tellsAs [vr 0 (5 * 0 + x1.toNatClampNeg), vi x2] μ2 (RI fun v4 μ4 =>
           K v4 μ4)))))))
     else
      K (-1) μ1))
   else
    K (-1) μ1)))) :
  CS G m_Cs_mark [vr 6 0, vi x1, vi x2] μ (RI K) :=
  CS_of pf_Cs_mark (Nat.le_of_ble_eq_true rfl) (show SS G m_Cs_mark 0 [vr 6 0, vi x1, vi x2] [] μ (RI K) from wp_s (M := m_Cs_mark) (lk := lk_Cs) (tb := tc_Cs_mark) (cu := []) lk_Cs_ok (by decide +kernel) 29 true 0 _ _ _ h)
def tc_Cs_wind : List En := [e0 0 (.aload_n 0) 1, e0 1 (.iload_n 1) 1, eT 2 (.invokevirtual 131) 3 13, eT 5 (.ifCond .ne 13) 3 18, e0 8 (.iload_n 2) 1, eT 9 (.ifCond .lt 9) 3 18, e0 12 (.iload_n 2) 1, eC 13 (.bipush 9) 2 9, eT 15 (.if_icmp .le 5) 3 20, eC 18 (.iconst (-1)) 1 (-1), e0 19 .ireturn 1, e0 20 (.aload_n 0) 1, eF 21 (.getfield 21) 3 6 2, eF 24 (.getfield 149) 3 4 8, eT 27 (.ifCond .le 6) 3 33, eC 30 (.bipush (-4)) 2 (-4), e0 32 .ireturn 1, e0 33 (.aload_n 0) 1, eF 34 (.getfield 21) 3 6 2, eF 37 (.getfield 134) 3 4 0, e0 40 (.iload_n 1) 1, e0 41 .iaload 1, e0 42 (.istore_n 3) 1, e0 43 (.aload_n 0) 1, eF 44 (.getfield 21) 3 6 2, eF 47 (.getfield 134) 3 4 0, e0 50 (.iload_n 1) 1, e0 51 (.iload_n 2) 1, e0 52 .iastore 1, e0 53 (.iload_n 3) 1, e0 54 .ireturn 1]
set_option maxRecDepth 100000 in
theorem c_Cs_wind {G : Ge} (x1 : Int32) (x2 : Int32) {μ : Mm} {K : Int32 → Mm → Prop} (h :
  (CS G m_Cs_noNight [vr 6 0, vi x1] μ (RI fun v1 μ1 =>
   (if v1 = 0 then
    (if x2 < 0 then
     K (-1) μ1
    else
     (if x2 ≤ 9 then
      (if (μ1.1 4 0 8) ≤ 0 then
       (vp_in x1 8 ∧
        (vp_in x1 8 ∧
         K (μ1.1 20 0 x1.toNatClampNeg) (wI μ1 20 0 x1.toNatClampNeg x2)))
      else
       K (-4) μ1)
     else
      K (-1) μ1))
   else
    K (-1) μ1)))) :
  CS G m_Cs_wind [vr 6 0, vi x1, vi x2] μ (RI K) :=
  CS_of pf_Cs_wind (Nat.le_of_ble_eq_true rfl) (show SS G m_Cs_wind 0 [vr 6 0, vi x1, vi x2, un] [] μ (RI K) from wp_s (M := m_Cs_wind) (lk := lk_Cs) (tb := tc_Cs_wind) (cu := []) lk_Cs_ok (by decide +kernel) 30 true 0 _ _ _ h)
def tc_St_act : List En := [e0 0 (.aload_n 0) 1, eF 1 (.getfield 40) 3 4 8, eC 4 (.bipush 60) 2 60, eT 6 (.if_icmp .lt 4) 3 10, e0 9 .return_ 1, e0 10 (.aload_n 0) 1, eF 11 (.getfield 21) 3 4 2, e0 14 (.aload_n 0) 1, eF 15 (.getfield 40) 3 4 8, e0 18 (.iload_n 1) 1, e0 19 .iastore 1, e0 20 (.aload_n 0) 1, eF 21 (.getfield 24) 3 4 3, e0 24 (.aload_n 0) 1, eF 25 (.getfield 40) 3 4 8, e0 28 (.iload_n 2) 1, e0 29 .iastore 1, e0 30 (.aload_n 0) 1, eF 31 (.getfield 27) 3 4 4, e0 34 (.aload_n 0) 1, eF 35 (.getfield 40) 3 4 8, e0 38 (.iload_n 3) 1, e0 39 .iastore 1, e0 40 (.aload_n 0) 1, e0 41 (.aload_n 0) 1, eF 42 (.getfield 40) 3 4 8, eT 45 (.invokevirtual 70) 3 4, e0 48 (.aload_n 0) 1, e0 49 .dup 1, eF 50 (.getfield 40) 3 4 8, eC 53 (.iconst 1) 1 1, e0 54 .iadd 1, eF 55 (.putfield 40) 3 4 8, e0 58 .return_ 1]
set_option maxRecDepth 100000 in
theorem c_St_act {G : Ge} (i0 : Nat) (x1 : Int32) (x2 : Int32) (x3 : Int32) {μ : Mm} {K : Mm → Prop} (h :
  (if (μ.1 4 i0 8) < 60 then
   (vp_in (μ.1 4 i0 8) 60 ∧
    (vp_in ((wI μ 21 i0 (Int32.toNatClampNeg (μ.1 4 i0 8)) x1).1 4 i0 8) 60 ∧
     (vp_in ((wI (wI μ 21 i0 (Int32.toNatClampNeg (μ.1 4 i0 8)) x1) 22 i0 (Int32.toNatClampNeg ((wI μ 21 i0 (Int32.toNatClampNeg (μ.1 4 i0 8)) x1).1 4 i0 8)) x2).1 4 i0 8) 60 ∧
      (CS G m_St_perform [vr 4 i0, vi ((wI (wI (wI μ 21 i0 (Int32.toNatClampNeg (μ.1 4 i0 8)) x1) 22 i0 (Int32.toNatClampNeg ((wI μ 21 i0 (Int32.toNatClampNeg (μ.1 4 i0 8)) x1).1 4 i0 8)) x2) 23 i0 (Int32.toNatClampNeg ((wI (wI μ 21 i0 (Int32.toNatClampNeg (μ.1 4 i0 8)) x1) 22 i0 (Int32.toNatClampNeg ((wI μ 21 i0 (Int32.toNatClampNeg (μ.1 4 i0 8)) x1).1 4 i0 8)) x2).1 4 i0 8)) x3).1 4 i0 8)] (wI (wI (wI μ 21 i0 (Int32.toNatClampNeg (μ.1 4 i0 8)) x1) 22 i0 (Int32.toNatClampNeg ((wI μ 21 i0 (Int32.toNatClampNeg (μ.1 4 i0 8)) x1).1 4 i0 8)) x2) 23 i0 (Int32.toNatClampNeg ((wI (wI μ 21 i0 (Int32.toNatClampNeg (μ.1 4 i0 8)) x1) 22 i0 (Int32.toNatClampNeg ((wI μ 21 i0 (Int32.toNatClampNeg (μ.1 4 i0 8)) x1).1 4 i0 8)) x2).1 4 i0 8)) x3) (RV fun μ1 =>
       K (wI μ1 4 i0 8 ((μ1.1 4 i0 8) + 1)))))))
  else
   K μ)) :
  CS G m_St_act [vr 4 i0, vi x1, vi x2, vi x3] μ (RV K) :=
  CS_of pf_St_act (Nat.le_of_ble_eq_true rfl) (show SS G m_St_act 0 [vr 4 i0, vi x1, vi x2, vi x3] [] μ (RV K) from wp_s (M := m_St_act) (lk := lk_St) (tb := tc_St_act) (cu := []) lk_St_ok (by decide +kernel) 36 true 0 _ _ _ h)
def tc_Cs_bear : List En := [e0 0 (.aload_n 0) 1, e0 1 (.iload_n 1) 1, eT 2 (.invokevirtual 125) 3 11, eT 5 (.ifCond .ne 8) 3 13, e0 8 (.iload_n 2) 1, eC 9 (.iconst 1) 1 1, eT 10 (.if_icmp .ge 5) 3 15, eC 13 (.iconst (-1)) 1 (-1), e0 14 .ireturn 1, e0 15 (.iload_n 2) 1, e0 16 (.aload_n 0) 1, eF 17 (.getfield 21) 3 6 2, e0 20 (.iload_n 1) 1, eT 21 (.invokevirtual 152) 3 16, eT 24 (.if_icmp .le 6) 3 30, eC 27 (.bipush (-4)) 2 (-4), e0 29 .ireturn 1, e0 30 (.aload_n 0) 1, eF 31 (.getfield 21) 3 6 2, eF 34 (.getfield 149) 3 4 8, eC 37 (.bipush 60) 2 60, eT 39 (.if_icmp .lt 6) 3 45, eC 42 (.bipush (-2)) 2 (-2), e0 44 .ireturn 1, e0 45 (.aload_n 0) 1, eF 46 (.getfield 21) 3 6 2, e0 49 (.iload_n 1) 1, eC 50 (.iconst (-1)) 1 (-1), e0 51 (.iload_n 2) 1, eT 52 (.invokevirtual 155) 3 17, e0 55 (.aload_n 0) 1, eF 56 (.getfield 21) 3 6 2, eF 59 (.getfield 137) 3 4 1, e0 62 (.iload_n 1) 1, e0 63 .aaload 1, e0 64 (.iload_n 2) 1, eT 65 (.invokevirtual 159) 3 18, e0 68 .ireturn 1]
set_option maxRecDepth 100000 in
theorem c_Cs_bear {G : Ge} (x1 : Int32) (x2 : Int32) {μ : Mm} {K : Int32 → Mm → Prop} (h :
  (CS G m_Cs_noHouse [vr 6 0, vi x1] μ (RI fun v1 μ1 =>
   (if v1 = 0 then
    (if (1 : Int32) ≤ x2 then
     (CS G m_St_canTonight [vr 4 0, vi x1] μ1 (RI fun v2 μ2 =>
      (if x2 ≤ v2 then
       (if (μ2.1 4 0 8) < 60 then
        (CS G m_St_act [vr 4 0, vi x1, vi (-1), vi x2] μ2 (RV fun μ3 =>
         (vp_in x1 5 ∧
          (CS G m_Ho_painOf [vr 0 (5 * 0 + x1.toNatClampNeg), vi x2] μ3 (RI fun v4 μ4 =>
           K v4 μ4)))))
       else
        K (-2) μ2)
      else
       K (-4) μ2)))
    else
     K (-1) μ1)
   else
    K (-1) μ1)))) :
  CS G m_Cs_bear [vr 6 0, vi x1, vi x2] μ (RI K) :=
  CS_of pf_Cs_bear (Nat.le_of_ble_eq_true rfl) (show SS G m_Cs_bear 0 [vr 6 0, vi x1, vi x2] [] μ (RI K) from wp_s (M := m_Cs_bear) (lk := lk_Cs) (tb := tc_Cs_bear) (cu := []) lk_Cs_ok (by decide +kernel) 35 true 0 _ _ _ h)
