def tc_Cs_sell : List En := [e0 0 (.aload_n 0) 1, e0 1 (.iload_n 1) 1, eT 2 (.invokevirtual 125) 3 11, eT 5 (.ifCond .ne 21) 3 26, e0 8 (.aload_n 0) 1, e0 9 (.iload_n 2) 1, eT 10 (.invokevirtual 125) 3 11, eT 13 (.ifCond .ne 13) 3 26, e0 16 (.iload_n 1) 1, e0 17 (.iload_n 2) 1, eT 18 (.if_icmp .eq 8) 3 26, e0 21 (.iload_n 3) 1, eC 22 (.iconst 1) 1 1, eT 23 (.if_icmp .ge 5) 3 28, eC 26 (.iconst (-1)) 1 (-1), e0 27 .ireturn 1, e0 28 (.iload_n 3) 1, e0 29 (.aload_n 0) 1, eF 30 (.getfield 21) 3 6 2, eF 33 (.getfield 137) 3 4 1, e0 36 (.iload_n 1) 1, e0 37 .aaload 1, eF 38 (.getfield 162) 3 0 3, eT 41 (.if_icmp .gt 22) 3 63, e0 44 (.aload_n 0) 1, eF 45 (.getfield 21) 3 6 2, eF 48 (.getfield 137) 3 4 1, e0 51 (.iload_n 2) 1, e0 52 .aaload 1, eF 53 (.getfield 162) 3 0 3, e0 56 (.iload_n 3) 1, e0 57 .iadd 1, eC 58 (.bipush 99) 2 99, eT 60 (.if_icmp .le 6) 3 66, eC 63 (.bipush (-4)) 2 (-4), e0 65 .ireturn 1, e0 66 (.aload_n 0) 1, eF 67 (.getfield 21) 3 6 2, eF 70 (.getfield 149) 3 4 8, eC 73 (.bipush 60) 2 60, eT 75 (.if_icmp .lt 6) 3 81, eC 78 (.bipush (-2)) 2 (-2), e0 80 .ireturn 1, e0 81 (.aload_n 0) 1, eF 82 (.getfield 21) 3 6 2, e0 85 (.iload_n 1) 1, e0 86 (.iload_n 2) 1, e0 87 (.iload_n 3) 1, eT 88 (.invokevirtual 155) 3 17, e0 91 (.aload_n 0) 1, eF 92 (.getfield 21) 3 6 2, eF 95 (.getfield 137) 3 4 1, e0 98 (.iload_n 2) 1, e0 99 .aaload 1, eF 100 (.getfield 162) 3 0 3, e0 103 .ireturn 1]
set_option maxRecDepth 100000 in
theorem c_Cs_sell {G : Ge} (x1 : Int32) (x2 : Int32) (x3 : Int32) {μ : Mm} {K : Int32 → Mm → Prop} (h :
  (CS G m_Cs_noHouse [vr 6 0, vi x1] μ (RI fun v1 μ1 =>
   (if v1 = 0 then
    (CS G m_Cs_noHouse [vr 6 0, vi x2] μ1 (RI fun v2 μ2 =>
     (if v2 = 0 then
      (if x1 = x2 then
       K (-1) μ2
      else
       (if (1 : Int32) ≤ x3 then
        (vp_in x1 5 ∧
         (if (μ2.1 0 (5 * 0 + x1.toNatClampNeg) 3) < x3 then
          K (-4) μ2
         else
          (vp_in x2 5 ∧
           (if ((μ2.1 0 (5 * 0 + x2.toNatClampNeg) 3) + x3) ≤ 99 then
            (if (μ2.1 4 0 8) < 60 then
             (CS G m_St_act [vr 4 0, vi x1, vi x2, vi x3] μ2 (RV fun μ3 =>
              (vp_in x2 5 ∧
               K (μ3.1 0 (5 * 0 + x2.toNatClampNeg) 3) μ3)))
            else
             K (-2) μ2)
           else
            K (-4) μ2))))
       else
        K (-1) μ2))
     else
      K (-1) μ2)))
   else
    K (-1) μ1)))) :
  CS G m_Cs_sell [vr 6 0, vi x1, vi x2, vi x3] μ (RI K) :=
  CS_of pf_Cs_sell (Nat.le_of_ble_eq_true rfl) (show SS G m_Cs_sell 0 [vr 6 0, vi x1, vi x2, vi x3] [] μ (RI K) from wp_s (M := m_Cs_sell) (lk := lk_Cs) (tb := tc_Cs_sell) (cu := []) lk_Cs_ok (by decide +kernel) 53 true 0 _ _ _ h)
def tc_Cs_night : List En := [e0 0 (.aload_n 0) 1, eF 1 (.getfield 21) 3 6 2, eT 4 (.invokevirtual 165) 3 19, eT 7 (.ifCond .eq 6) 3 13, eC 10 (.bipush (-4)) 2 (-4), e0 12 .ireturn 1, e0 13 (.aload_n 0) 1, eF 14 (.getfield 21) 3 6 2, eF 17 (.getfield 149) 3 4 8, eC 20 (.bipush 60) 2 60, eT 22 (.if_icmp .lt 6) 3 28, eC 25 (.bipush (-2)) 2 (-2), e0 27 .ireturn 1, e0 28 (.aload_n 0) 1, eF 29 (.getfield 21) 3 6 2, eC 32 (.iconst (-1)) 1 (-1), eC 33 (.iconst (-1)) 1 (-1), eC 34 (.iconst 0) 1 0, eT 35 (.invokevirtual 155) 3 17, e0 38 (.aload_n 0) 1, eF 39 (.getfield 21) 3 6 2, eF 42 (.getfield 168) 3 4 5, e0 45 (.aload_n 0) 1, eF 46 (.getfield 21) 3 6 2, eF 49 (.getfield 171) 3 4 7, e0 52 .isub 1, e0 53 .ireturn 1]
set_option maxRecDepth 100000 in
theorem c_Cs_night {G : Ge}  {μ : Mm} {K : Int32 → Mm → Prop} (h :
  (CS G m_St_isCandlemas [vr 4 0] μ (RI fun v1 μ1 =>
   (if v1 = 0 then
    (if (μ1.1 4 0 8) < 60 then
     (CS G m_St_act [vr 4 0, vi (-1), vi (-1), vi 0] μ1 (RV fun μ2 =>
      K ((μ2.1 4 0 5) - (μ2.1 4 0 7)) μ2))
    else
     K (-2) μ1)
   else
    K (-4) μ1)))) :
  CS G m_Cs_night [vr 6 0] μ (RI K) :=
  CS_of pf_Cs_night (Nat.le_of_ble_eq_true rfl) (show SS G m_Cs_night 0 [vr 6 0] [] μ (RI K) from wp_s (M := m_Cs_night) (lk := lk_Cs) (tb := tc_Cs_night) (cu := []) lk_Cs_ok (by decide +kernel) 26 true 0 _ _ _ h)
def tc_Cs_undo : List En := [e0 0 (.iload_n 1) 1, eT 1 (.ifCond .lt 14) 3 15, e0 4 (.iload_n 1) 1, e0 5 (.aload_n 0) 1, eF 6 (.getfield 21) 3 6 2, eF 9 (.getfield 149) 3 4 8, eT 12 (.if_icmp .le 5) 3 17, eC 15 (.iconst (-1)) 1 (-1), e0 16 .ireturn 1, e0 17 (.aload_n 0) 1, eF 18 (.getfield 21) 3 6 2, eF 21 (.getfield 149) 3 4 8, e0 24 (.iload_n 1) 1, e0 25 .isub 1, e0 26 (.istore_n 2) 1, e0 27 (.aload_n 0) 1, eF 28 (.getfield 21) 3 6 2, e0 31 (.iload_n 1) 1, eT 32 (.invokevirtual 174) 3 20, e0 35 (.iload_n 2) 1, e0 36 .ireturn 1]
set_option maxRecDepth 100000 in
theorem c_Cs_undo {G : Ge} (x1 : Int32) {μ : Mm} {K : Int32 → Mm → Prop} (h :
  (if x1 < 0 then
   K (-1) μ
  else
   (if x1 ≤ (μ.1 4 0 8) then
    (CS G m_St_replay [vr 4 0, vi x1] μ (RV fun μ1 =>
     K ((μ.1 4 0 8) - x1) μ1))
   else
    K (-1) μ))) :
  CS G m_Cs_undo [vr 6 0, vi x1] μ (RI K) :=
  CS_of pf_Cs_undo (Nat.le_of_ble_eq_true rfl) (show SS G m_Cs_undo 0 [vr 6 0, vi x1, un] [] μ (RI K) from wp_s (M := m_Cs_undo) (lk := lk_Cs) (tb := tc_Cs_undo) (cu := []) lk_Cs_ok (by decide +kernel) 22 true 0 _ _ _ h)
def tc_Cs_noKept : List En := [e0 0 (.iload_n 1) 1, eT 1 (.ifCond .lt 8) 3 9, e0 4 (.iload_n 1) 1, eC 5 (.iconst 3) 1 3, eT 6 (.if_icmp .lt 7) 3 13, eC 9 (.iconst 1) 1 1, eT 10 (.goto 4) 3 14, eC 13 (.iconst 0) 1 0, e0 14 .ireturn 1]
set_option maxRecDepth 100000 in
theorem c_Cs_noKept {G : Ge} (x1 : Int32) {μ : Mm} {K : Int32 → Mm → Prop} (h :
  (if x1 < 0 then
   (((1 : Int32) = 0 ∨ (1 : Int32) = 1) ∧ K 1 μ)
  else
   (if x1 < 3 then
    (((0 : Int32) = 0 ∨ (0 : Int32) = 1) ∧ K 0 μ)
   else
    (((1 : Int32) = 0 ∨ (1 : Int32) = 1) ∧ K 1 μ)))) :
  CS G m_Cs_noKept [vr 6 0, vi x1] μ (RI K) :=
  CS_of pf_Cs_noKept (Nat.le_of_ble_eq_true rfl) (show SS G m_Cs_noKept 0 [vr 6 0, vi x1] [] μ (RI K) from wp_s (M := m_Cs_noKept) (lk := lk_Cs) (tb := tc_Cs_noKept) (cu := []) lk_Cs_ok (by decide +kernel) 11 true 0 _ _ _ h)
def tc_Cs_keep : List En := [e0 0 (.aload_n 0) 1, e0 1 (.iload_n 1) 1, eT 2 (.invokevirtual 177) 3 21, eT 5 (.ifCond .eq 5) 3 10, eC 8 (.iconst (-1)) 1 (-1), e0 9 .ireturn 1, e0 10 (.aload_n 0) 1, eF 11 (.getfield 21) 3 6 2, eT 14 (.invokevirtual 180) 3 22, eT 17 (.ifCond .eq 6) 3 23, eC 20 (.bipush (-4)) 2 (-4), e0 22 .ireturn 1, e0 23 (.aload_n 0) 1, eF 24 (.getfield 25) 3 6 3, e0 27 (.iload_n 1) 1, e0 28 .aaload 1, e0 29 (.aload_n 0) 1, eF 30 (.getfield 21) 3 6 2, eT 33 (.invokevirtual 117) 3 9, e0 36 (.aload_n 0) 1, eF 37 (.getfield 21) 3 6 2, eF 40 (.getfield 149) 3 4 8, e0 43 .ireturn 1]
set_option maxRecDepth 100000 in
theorem c_Cs_keep {G : Ge} (x1 : Int32) {μ : Mm} {K : Int32 → Mm → Prop} (h :
  (CS G m_Cs_noKept [vr 6 0, vi x1] μ (RI fun v1 μ1 =>
   (if v1 = 0 then
    (CS G m_St_isEmpty [vr 4 0] μ1 (RI fun v2 μ2 =>
     (if v2 = 0 then
      (vp_in x1 3 ∧
       (CS G m_St_take [vr 4 (1 + x1.toNatClampNeg), vr 4 0] μ2 (RV fun μ3 =>
        K (μ3.1 4 0 8) μ3)))
     else
      K (-4) μ2)))
   else
    K (-1) μ1)))) :
  CS G m_Cs_keep [vr 6 0, vi x1] μ (RI K) :=
  CS_of pf_Cs_keep (Nat.le_of_ble_eq_true rfl) (show SS G m_Cs_keep 0 [vr 6 0, vi x1] [] μ (RI K) from wp_s (M := m_Cs_keep) (lk := lk_Cs) (tb := tc_Cs_keep) (cu := []) lk_Cs_ok (by decide +kernel) 22 true 0 _ _ _ h)
def tc_Cs_on : List En := [e0 0 (.aload_n 0) 1, e0 1 (.iload_n 1) 1, eT 2 (.invokevirtual 177) 3 21, eT 5 (.ifCond .eq 5) 3 10, eC 8 (.iconst (-1)) 1 (-1), e0 9 .ireturn 1, e0 10 (.aload_n 0) 1, eF 11 (.getfield 25) 3 6 3, e0 14 (.iload_n 1) 1, e0 15 .aaload 1, eT 16 (.invokevirtual 180) 3 22, eT 19 (.ifCond .eq 9) 3 28, e0 22 (.aload_n 0) 1, eC 23 (.iconst 1) 1 1, eT 24 (.invokevirtual 75) 3 1, e0 27 .ireturn 1, e0 28 (.aload_n 0) 1, eF 29 (.getfield 21) 3 6 2, e0 32 (.aload_n 0) 1, eF 33 (.getfield 25) 3 6 3, e0 36 (.iload_n 1) 1, e0 37 .aaload 1, eT 38 (.invokevirtual 117) 3 9, e0 41 (.aload_n 0) 1, eF 42 (.getfield 21) 3 6 2, eF 45 (.getfield 149) 3 4 8, e0 48 .ireturn 1]
set_option maxRecDepth 100000 in
theorem c_Cs_on {G : Ge} (x1 : Int32) {μ : Mm} {K : Int32 → Mm → Prop} (h :
  (CS G m_Cs_noKept [vr 6 0, vi x1] μ (RI fun v1 μ1 =>
   (if v1 = 0 then
    (vp_in x1 3 ∧
     (CS G m_St_isEmpty [vr 4 (1 + x1.toNatClampNeg)] μ1 (RI fun v2 μ2 =>
      (if v2 = 0 then
       (vp_in x1 3 ∧
        (CS G m_St_take [vr 4 0, vr 4 (1 + x1.toNatClampNeg)] μ2 (RV fun μ3 =>
         K (μ3.1 4 0 8) μ3)))
      else
       (CS G m_Cs_answer [vr 6 0, vi 1] μ2 (RI fun v4 μ4 =>
        K v4 μ4))))))
   else
    K (-1) μ1)))) :
  CS G m_Cs_on [vr 6 0, vi x1] μ (RI K) :=
  CS_of pf_Cs_on (Nat.le_of_ble_eq_true rfl) (show SS G m_Cs_on 0 [vr 6 0, vi x1] [] μ (RI K) from wp_s (M := m_Cs_on) (lk := lk_Cs) (tb := tc_Cs_on) (cu := []) lk_Cs_ok (by decide +kernel) 24 true 0 _ _ _ h)
def tc_Cs_hurt : List En := [e0 0 (.aload_n 0) 1, e0 1 (.iload_n 1) 1, eT 2 (.invokevirtual 125) 3 11, eT 5 (.ifCond .ne 13) 3 18, e0 8 (.iload_n 2) 1, eT 9 (.ifCond .lt 9) 3 18, e0 12 (.iload_n 2) 1, eC 13 (.bipush 9) 2 9, eT 15 (.if_icmp .le 5) 3 20, eC 18 (.iconst (-1)) 1 (-1), e0 19 .ireturn 1, e0 20 (.aload_n 0) 1, eF 21 (.getfield 21) 3 6 2, eF 24 (.getfield 137) 3 4 1, e0 27 (.iload_n 1) 1, e0 28 .aaload 1, e0 29 (.iload_n 2) 1, eT 30 (.invokevirtual 159) 3 18, e0 33 .ireturn 1]
set_option maxRecDepth 100000 in
theorem c_Cs_hurt {G : Ge} (x1 : Int32) (x2 : Int32) {μ : Mm} {K : Int32 → Mm → Prop} (h :
  (CS G m_Cs_noHouse [vr 6 0, vi x1] μ (RI fun v1 μ1 =>
   (if v1 = 0 then
    (if x2 < 0 then
     K (-1) μ1
    else
     (if x2 ≤ 9 then
      (vp_in x1 5 ∧
       (CS G m_Ho_painOf [vr 0 (5 * 0 + x1.toNatClampNeg), vi x2] μ1 (RI fun v2 μ2 =>
        K v2 μ2)))
     else
      K (-1) μ1))
   else
    K (-1) μ1)))) :
  CS G m_Cs_hurt [vr 6 0, vi x1, vi x2] μ (RI K) :=
  CS_of pf_Cs_hurt (Nat.le_of_ble_eq_true rfl) (show SS G m_Cs_hurt 0 [vr 6 0, vi x1, vi x2] [] μ (RI K) from wp_s (M := m_Cs_hurt) (lk := lk_Cs) (tb := tc_Cs_hurt) (cu := []) lk_Cs_ok (by decide +kernel) 20 true 0 _ _ _ h)
def tc_Cs_most : List En := [e0 0 (.aload_n 0) 1, e0 1 (.iload_n 1) 1, eT 2 (.invokevirtual 125) 3 11, eT 5 (.ifCond .eq 5) 3 10, eC 8 (.iconst (-1)) 1 (-1), e0 9 .ireturn 1, eC 10 (.iconst 0) 1 0, e0 11 (.istore_n 2) 1, e0 12 (.aload_n 0) 1, eF 13 (.getfield 21) 3 6 2, eF 16 (.getfield 171) 3 4 7, e0 19 (.istore_n 3) 1]
set_option maxRecDepth 100000 in
theorem c_Cs_most {G : Ge} (x1 : Int32) {μ : Mm} {K : Int32 → Mm → Prop} (h :
  (CS G m_Cs_noHouse [vr 6 0, vi x1] μ (RI fun v1 μ1 =>
   (if v1 = 0 then
    SS G m_Cs_most 20 [vr 6 0, vi x1, vi 0, vi (μ1.1 4 0 7)] [] μ1 (RI K)
   else
    K (-1) μ1)))) :
  CS G m_Cs_most [vr 6 0, vi x1] μ (RI K) :=
  CS_of pf_Cs_most (Nat.le_of_ble_eq_true rfl) (show SS G m_Cs_most 0 [vr 6 0, vi x1, un, un] [] μ (RI K) from wp_s (M := m_Cs_most) (lk := lk_Cs) (tb := tc_Cs_most) (cu := [(20, [true, true, true, true])]) lk_Cs_ok (by decide +kernel) 14 true 0 _ _ _ h)
def tb_Cs_most_20 : List En := [e0 20 (.iload_n 3) 1, e0 21 (.aload_n 0) 1, eF 22 (.getfield 21) 3 6 2, eF 25 (.getfield 168) 3 4 5, eT 28 (.if_icmp .ge 21) 3 49, e0 31 (.iload_n 2) 1, e0 32 (.aload_n 0) 1, eF 33 (.getfield 21) 3 6 2, e0 36 (.iload_n 1) 1, e0 37 (.iload_n 3) 1, eT 38 (.invokevirtual 183) 3 23, e0 41 .iadd 1, e0 42 (.istore_n 2) 1, eC 43 (.iinc 3 1) 3 1, eT 46 (.goto (-26)) 3 20, e0 49 (.iload_n 2) 1, e0 50 .ireturn 1]
set_option maxRecDepth 100000 in
theorem b_Cs_most_20 {G : Ge} (x1 : Int32) (x2 : Int32) (x3 : Int32) {μ : Mm} {K : Int32 → Mm → Prop} (h :
  (if (μ.1 4 0 5) ≤ x3 then
   K x2 μ
  else
   (CS G m_St_topIn [vr 4 0, vi x1, vi x3] μ (RI fun v1 μ1 =>
    SS G m_Cs_most 20 [vr 6 0, vi x1, vi (x2 + v1), vi (x3 + 1)] [] μ1 (RI K))))) :
  SS G m_Cs_most 20 [vr 6 0, vi x1, vi x2, vi x3] [] μ (RI K) :=
  wp_s (M := m_Cs_most) (lk := lk_Cs) (tb := tb_Cs_most_20) (cu := [(20, [true, true, true, true])]) lk_Cs_ok (by decide +kernel) 19 true _ _ _ _ h
def tc_Ja_fill2 : List En := [eC 0 (.iconst 0) 1 0, e0 1 (.istore_n 2) 1, e0 2 (.aload_n 0) 1, e0 3 .arraylength 1, e0 4 (.istore_n 3) 1]
set_option maxRecDepth 100000 in
theorem c_Ja_fill2 {G : Ge} (i0 : Nat) (x1 : Int32) {μ : Mm} {K : Mm → Prop} (h :
  SS G m_Ja_fill2 5 [vr 16 i0, vi x1, vi 0, vi (nI 47)] [] μ (RV K)) :
  CS G m_Ja_fill2 [vr 16 i0, vi x1] μ (RV K) :=
  CS_of pf_Ja_fill2 (Nat.le_of_ble_eq_true rfl) (show SS G m_Ja_fill2 0 [vr 16 i0, vi x1, un, un] [] μ (RV K) from wp_s (M := m_Ja_fill2) (lk := lk_Ja) (tb := tc_Ja_fill2) (cu := [(5, [true, true, true, true])]) lk_Ja_ok (by decide +kernel) 9 true 0 _ _ _ h)
def tb_Ja_fill2_5 : List En := [e0 5 (.iload_n 2) 1, e0 6 (.iload_n 3) 1, eT 7 (.if_icmp .ge 13) 3 20, e0 10 (.aload_n 0) 1, e0 11 (.iload_n 2) 1, e0 12 (.iload_n 1) 1, e0 13 .iastore 1, eC 14 (.iinc 2 1) 3 1, eT 17 (.goto (-12)) 3 5, e0 20 .return_ 1]
set_option maxRecDepth 100000 in
theorem b_Ja_fill2_5 {G : Ge} (i0 : Nat) (x1 : Int32) (x2 : Int32) (x3 : Int32) {μ : Mm} {K : Mm → Prop} (h :
  (if x3 ≤ x2 then
   K μ
  else
   (vp_in x2 47 ∧
    SS G m_Ja_fill2 5 [vr 16 i0, vi x1, vi (x2 + 1), vi x3] [] (wI μ 16 i0 x2.toNatClampNeg x1) (RV K)))) :
  SS G m_Ja_fill2 5 [vr 16 i0, vi x1, vi x2, vi x3] [] μ (RV K) :=
  wp_s (M := m_Ja_fill2) (lk := lk_Ja) (tb := tb_Ja_fill2_5) (cu := [(5, [true, true, true, true])]) lk_Ja_ok (by decide +kernel) 13 true _ _ _ _ h
def tc_Pl_bearNothing : List En := [e0 0 (.aload_n 0) 1, eC 1 (.ldc 46) 2 1000000, eT 3 (.invokestatic 47) 3 2, e0 6 (.aload_n 0) 1, eC 7 (.iconst 0) 1 0, eC 8 (.iconst 0) 1 0, e0 9 .iastore 1, e0 10 .return_ 1]
set_option maxRecDepth 100000 in
theorem c_Pl_bearNothing {G : Ge} (i0 : Nat) {μ : Mm} {K : Mm → Prop} (h :
  (CS G m_Ja_fill2 [vr 16 i0, vi 1000000] μ (RV fun μ1 =>
   (vp_in 0 47 ∧
    K (wI μ1 16 i0 (Int32.toNatClampNeg 0) 0))))) :
  CS G m_Pl_bearNothing [vr 16 i0] μ (RV K) :=
  CS_of pf_Pl_bearNothing (Nat.le_of_ble_eq_true rfl) (show SS G m_Pl_bearNothing 0 [vr 16 i0] [] μ (RV K) from wp_s (M := m_Pl_bearNothing) (lk := lk_Pl) (tb := tc_Pl_bearNothing) (cu := []) lk_Pl_ok (by decide +kernel) 11 true 0 _ _ _ h)
def tc_Pl_relieve : List En := [e0 0 (.iload_n 2) 1, e0 1 (.istore 4) 2]
set_option maxRecDepth 100000 in
theorem c_Pl_relieve {G : Ge} (i0 : Nat) (i1 : Nat) (x2 : Int32) (x3 : Int32) {μ : Mm} {K : Mm → Prop} (h :
  SS G m_Pl_relieve 3 [vr 16 i0, vr 16 i1, vi x2, vi x3, vi x2] [] μ (RV K)) :
  CS G m_Pl_relieve [vr 16 i0, vr 16 i1, vi x2, vi x3] μ (RV K) :=
  CS_of pf_Pl_relieve (Nat.le_of_ble_eq_true rfl) (show SS G m_Pl_relieve 0 [vr 16 i0, vr 16 i1, vi x2, vi x3, un] [] μ (RV K) from wp_s (M := m_Pl_relieve) (lk := lk_Pl) (tb := tc_Pl_relieve) (cu := [(3, [true, true, true, true, true])]) lk_Pl_ok (by decide +kernel) 6 true 0 _ _ _ h)
def tb_Pl_relieve_3 : List En := [e0 3 (.iload 4) 2, eC 5 (.bipush 47) 2 47, eT 7 (.if_icmp .ge 28) 3 35, e0 10 (.aload_n 0) 1, e0 11 (.iload 4) 2, e0 13 (.aload_n 0) 1, e0 14 (.iload 4) 2, e0 16 .iaload 1, e0 17 (.iload_n 3) 1, e0 18 (.aload_n 1) 1, e0 19 (.iload 4) 2, e0 21 (.iload_n 2) 1, e0 22 .isub 1, e0 23 .iaload 1, e0 24 .iadd 1, eT 25 (.invokestatic 73) 3 7, e0 28 .iastore 1, eC 29 (.iinc 4 1) 3 1, eT 32 (.goto (-29)) 3 3, e0 35 .return_ 1]
set_option maxRecDepth 100000 in
theorem b_Pl_relieve_3 {G : Ge} (i0 : Nat) (i1 : Nat) (x2 : Int32) (x3 : Int32) (x4 : Int32) {μ : Mm} {K : Mm → Prop} (h :
  (if (47 : Int32) ≤ x4 then
   K μ
  else
   (vp_in x4 47 ∧
    (vp_in (x4 - x2) 47 ∧
     (CS G m_Jm_min [vi (μ.1 16 i0 x4.toNatClampNeg), vi (x3 + (μ.1 16 i1 (Int32.toNatClampNeg (x4 - x2))))] μ (RI fun v1 μ1 =>
      (vp_in x4 47 ∧
       SS G m_Pl_relieve 3 [vr 16 i0, vr 16 i1, vi x2, vi x3, vi (x4 + 1)] [] (wI μ1 16 i0 x4.toNatClampNeg v1) (RV K)))))))) :
  SS G m_Pl_relieve 3 [vr 16 i0, vr 16 i1, vi x2, vi x3, vi x4] [] μ (RV K) :=
  wp_s (M := m_Pl_relieve) (lk := lk_Pl) (tb := tb_Pl_relieve_3) (cu := [(3, [true, true, true, true, true])]) lk_Pl_ok (by decide +kernel) 23 true _ _ _ _ h
def tc_Pl_weigh : List En := [e0 0 (.aload_n 0) 1, eF 1 (.getfield 11) 3 1 0, e0 4 (.aload_n 1) 1, eF 5 (.getfield 32) 3 4 5, e0 8 .aaload 1, eT 9 (.invokestatic 35) 3 1, e0 12 (.aload_n 1) 1, eF 13 (.getfield 32) 3 4 5, eC 16 (.iconst 1) 1 1, e0 17 .isub 1, e0 18 (.istore_n 3) 1]
set_option maxRecDepth 100000 in
theorem c_Pl_weigh {G : Ge} (i1 : Nat) (x2 : Int32) {μ : Mm} {K : Mm → Prop} (h :
  (vp_in (μ.1 4 i1 5) 9 ∧
   (CS G m_Pl_bearNothing [vr 16 (Int32.toNatClampNeg (μ.1 4 i1 5))] μ (RV fun μ1 =>
    SS G m_Pl_weigh 19 [vr 1 0, vr 4 i1, vi x2, vi ((μ1.1 4 i1 5) - 1), un, un] [] μ1 (RV K))))) :
  CS G m_Pl_weigh [vr 1 0, vr 4 i1, vi x2] μ (RV K) :=
  CS_of pf_Pl_weigh (Nat.le_of_ble_eq_true rfl) (show SS G m_Pl_weigh 0 [vr 1 0, vr 4 i1, vi x2, un, un, un] [] μ (RV K) from wp_s (M := m_Pl_weigh) (lk := lk_Pl) (tb := tc_Pl_weigh) (cu := [(19, [true, true, true, true, false, false]), (49, [true, true, true, true, true, true])]) lk_Pl_ok (by decide +kernel) 15 true 0 _ _ _ h)
def tb_Pl_weigh_19 : List En := [e0 19 (.iload_n 3) 1, e0 20 (.aload_n 1) 1, eF 21 (.getfield 39) 3 4 7, eT 24 (.if_icmp .lt 74) 3 98, e0 27 (.aload_n 1) 1, eF 28 (.getfield 42) 3 4 1, e0 31 (.iload_n 2) 1, e0 32 .aaload 1, e0 33 (.astore 4) 2, e0 35 (.aload_n 0) 1, eF 36 (.getfield 11) 3 1 0, e0 39 (.iload_n 3) 1, e0 40 .aaload 1, eC 41 (.ldc 46) 2 1000000, eT 43 (.invokestatic 47) 3 2, eC 46 (.iconst 0) 1 0, e0 47 (.istore 5) 2, e0 98 (.aload_n 0) 1, eF 99 (.getfield 11) 3 1 0, e0 102 (.aload_n 1) 1, eF 103 (.getfield 39) 3 4 7, e0 106 .aaload 1, eC 107 (.iconst 0) 1 0, e0 108 (.aload_n 0) 1, eF 109 (.getfield 16) 3 1 1, e0 112 (.iload_n 2) 1, e0 113 .aaload 1, eC 114 (.iconst 0) 1 0, eC 115 (.bipush 47) 2 47, eT 117 (.invokestatic 67) 3 6, e0 120 .return_ 1]
set_option maxRecDepth 100000 in
theorem b_Pl_weigh_19 {G : Ge} (i1 : Nat) (x2 : Int32) (x3 : Int32) {μ : Mm} {K : Mm → Prop} (h :
  (if x3 < (μ.1 4 i1 7) then
   (vp_in (μ.1 4 i1 7) 9 ∧
    (vp_in x2 5 ∧
     ((¬ (0 : Int32) < 0 ∧ ¬ (0 : Int32) < 0 ∧ ¬ (47 : Int32) < 0 ∧ Int32.toNatClampNeg 0 + Int32.toNatClampNeg 47 ≤ 47 ∧ Int32.toNatClampNeg 0 + Int32.toNatClampNeg 47 ≤ 47) ∧
      K (cI μ 16 (Int32.toNatClampNeg (μ.1 4 i1 7)) (Int32.toNatClampNeg 0) 16 (9 + x2.toNatClampNeg) (Int32.toNatClampNeg 0) (Int32.toNatClampNeg 47)))))
  else
   (vp_in x2 5 ∧
    (vp_in x3 9 ∧
     (CS G m_Ja_fill2 [vr 16 x3.toNatClampNeg, vi 1000000] μ (RV fun μ1 =>
      SS G m_Pl_weigh 49 [vr 1 0, vr 4 i1, vi x2, vi x3, vr 0 (5 * i1 + x2.toNatClampNeg), vi 0] [] μ1 (RV K))))))) :
  SS G m_Pl_weigh 19 [vr 1 0, vr 4 i1, vi x2, vi x3, un, un] [] μ (RV K) :=
  wp_s (M := m_Pl_weigh) (lk := lk_Pl) (tb := tb_Pl_weigh_19) (cu := [(19, [true, true, true, true, false, false]), (49, [true, true, true, true, true, true])]) lk_Pl_ok (by decide +kernel) 21 true _ _ _ _ h
def tb_Pl_weigh_49 : List En := [e0 49 (.iload 5) 2, e0 51 (.aload_n 1) 1, e0 52 (.iload_n 2) 1, e0 53 (.iload_n 3) 1, eT 54 (.invokevirtual 53) 3 3, eT 57 (.if_icmp .gt 35) 3 92, e0 60 (.aload_n 0) 1, eF 61 (.getfield 11) 3 1 0, e0 64 (.iload_n 3) 1, e0 65 .aaload 1, e0 66 (.aload_n 0) 1, eF 67 (.getfield 11) 3 1 0, e0 70 (.iload_n 3) 1, eC 71 (.iconst 1) 1 1, e0 72 .iadd 1, e0 73 .aaload 1, e0 74 (.iload 5) 2, e0 76 (.aload 4) 2, e0 78 (.iload 5) 2, eT 80 (.invokevirtual 57) 3 4, eT 83 (.invokestatic 63) 3 5, eC 86 (.iinc 5 1) 3 1, eT 89 (.goto (-40)) 3 49, eC 92 (.iinc 3 (-1)) 3 (-1), eT 95 (.goto (-76)) 3 19]
set_option maxRecDepth 100000 in
theorem b_Pl_weigh_49 {G : Ge} (i1 : Nat) (x2 : Int32) (x3 : Int32) (i4 : Nat) (x5 : Int32) {μ : Mm} {K : Mm → Prop} (h :
  (CS G m_St_topIn [vr 4 i1, vi x2, vi x3] μ (RI fun v1 μ1 =>
   (if v1 < x5 then
    SS G m_Pl_weigh 19 [vr 1 0, vr 4 i1, vi x2, vi (x3 + (-1)), un, un] [] μ1 (RV K)
   else
    (vp_in x3 9 ∧
     (vp_in (x3 + 1) 9 ∧
      (CS G m_Ho_painOf [vr 0 i4, vi x5] μ1 (RI fun v2 μ2 =>
       (CS G m_Pl_relieve [vr 16 x3.toNatClampNeg, vr 16 (Int32.toNatClampNeg (x3 + 1)), vi x5, vi v2] μ2 (RV fun μ3 =>
        SS G m_Pl_weigh 49 [vr 1 0, vr 4 i1, vi x2, vi x3, vr 0 i4, vi (x5 + 1)] [] μ3 (RV K))))))))))) :
  SS G m_Pl_weigh 49 [vr 1 0, vr 4 i1, vi x2, vi x3, vr 0 i4, vi x5] [] μ (RV K) :=
  wp_s (M := m_Pl_weigh) (lk := lk_Pl) (tb := tb_Pl_weigh_49) (cu := [(19, [true, true, true, true, false, false]), (49, [true, true, true, true, true, true])]) lk_Pl_ok (by decide +kernel) 27 true _ _ _ _ h
def tc_Pl_painFor : List En := [e0 0 (.iload_n 2) 1, eT 1 (.ifCond .lt 9) 3 10, e0 4 (.iload_n 2) 1, eC 5 (.bipush 47) 2 47, eT 7 (.if_icmp .lt 8) 3 15, eC 10 (.ldc 46) 2 1000000, eT 12 (.goto 11) 3 23, e0 15 (.aload_n 0) 1, eF 16 (.getfield 16) 3 1 1, e0 19 (.iload_n 1) 1, e0 20 .aaload 1, e0 21 (.iload_n 2) 1, e0 22 .iaload 1, e0 23 .ireturn 1]
set_option maxRecDepth 100000 in
theorem c_Pl_painFor {G : Ge} (x1 : Int32) (x2 : Int32) {μ : Mm} {K : Int32 → Mm → Prop} (h :
  (if x2 < 0 then
   K 1000000 μ
  else
   (if x2 < 47 then
    (vp_in x1 5 ∧
     (vp_in x2 47 ∧
      K (μ.1 16 (9 + x1.toNatClampNeg) x2.toNatClampNeg) μ))
   else
    K 1000000 μ))) :
  CS G m_Pl_painFor [vr 1 0, vi x1, vi x2] μ (RI K) :=
  CS_of pf_Pl_painFor (Nat.le_of_ble_eq_true rfl) (show SS G m_Pl_painFor 0 [vr 1 0, vi x1, vi x2] [] μ (RI K) from wp_s (M := m_Pl_painFor) (lk := lk_Pl) (tb := tc_Pl_painFor) (cu := []) lk_Pl_ok (by decide +kernel) 15 true 0 _ _ _ h)
def tc_Pl_firstTonight : List En := [eC 0 (.iconst 0) 1 0, e0 1 (.istore 5) 2]
set_option maxRecDepth 100000 in
theorem c_Pl_firstTonight {G : Ge} (i1 : Nat) (x2 : Int32) (x3 : Int32) (x4 : Int32) {μ : Mm} {K : Int32 → Mm → Prop} (h :
  SS G m_Pl_firstTonight 3 [vr 1 0, vr 0 i1, vi x2, vi x3, vi x4, vi 0] [] μ (RI K)) :
  CS G m_Pl_firstTonight [vr 1 0, vr 0 i1, vi x2, vi x3, vi x4] μ (RI K) :=
  CS_of pf_Pl_firstTonight (Nat.le_of_ble_eq_true rfl) (show SS G m_Pl_firstTonight 0 [vr 1 0, vr 0 i1, vi x2, vi x3, vi x4, un] [] μ (RI K) from wp_s (M := m_Pl_firstTonight) (lk := lk_Pl) (tb := tc_Pl_firstTonight) (cu := [(3, [true, true, true, true, true, true])]) lk_Pl_ok (by decide +kernel) 6 true 0 _ _ _ h)
def tb_Pl_firstTonight_3 : List En := [e0 3 (.iload 5) 2, e0 5 (.iload 4) 2, eT 7 (.if_icmp .gt 49) 3 56, e0 10 (.iload 5) 2, e0 12 (.iload_n 3) 1, eT 13 (.if_icmp .gt 43) 3 56, e0 16 (.aload_n 1) 1, e0 17 (.iload 5) 2, eT 19 (.invokevirtual 57) 3 4, e0 22 (.aload_n 0) 1, eF 23 (.getfield 11) 3 1 0, e0 26 (.iload_n 2) 1, eC 27 (.iconst 1) 1 1, e0 28 .iadd 1, e0 29 .aaload 1, e0 30 (.iload_n 3) 1, e0 31 (.iload 5) 2, e0 33 .isub 1, e0 34 .iaload 1, e0 35 .iadd 1, e0 36 (.aload_n 0) 1, eF 37 (.getfield 11) 3 1 0, e0 40 (.iload_n 2) 1, e0 41 .aaload 1, e0 42 (.iload_n 3) 1, e0 43 .iaload 1, eT 44 (.if_icmp .ne 6) 3 50, e0 47 (.iload 5) 2, e0 49 .ireturn 1, eC 50 (.iinc 5 1) 3 1, eT 53 (.goto (-50)) 3 3, eC 56 (.iconst 0) 1 0, e0 57 .ireturn 1]
set_option maxRecDepth 100000 in
theorem b_Pl_firstTonight_3 {G : Ge} (i1 : Nat) (x2 : Int32) (x3 : Int32) (x4 : Int32) (x5 : Int32) {μ : Mm} {K : Int32 → Mm → Prop} (h :
  (if x4 < x5 then
   K 0 μ
  else
   (if x3 < x5 then
    K 0 μ
   else
    (CS G m_Ho_painOf [vr 0 i1, vi x5] μ (RI fun v1 μ1 =>
     (vp_in (x2 + 1) 9 ∧
      (vp_in (x3 - x5) 47 ∧
       (vp_in x2 9 ∧
        (vp_in x3 47 ∧
         (if (v1 + (μ1.1 16 (Int32.toNatClampNeg (x2 + 1)) (Int32.toNatClampNeg (x3 - x5)))) = (μ1.1 16 x2.toNatClampNeg x3.toNatClampNeg) then
          K x5 μ1
         else
          SS G m_Pl_firstTonight 3 [vr 1 0, vr 0 i1, vi x2, vi x3, vi x4, vi (x5 + 1)] [] μ1 (RI K))))))))))) :
  SS G m_Pl_firstTonight 3 [vr 1 0, vr 0 i1, vi x2, vi x3, vi x4, vi x5] [] μ (RI K) :=
  wp_s (M := m_Pl_firstTonight) (lk := lk_Pl) (tb := tb_Pl_firstTonight_3) (cu := [(3, [true, true, true, true, true, true])]) lk_Pl_ok (by decide +kernel) 33 true _ _ _ _ h
def tc_Pl_writePlan : List En := [e0 0 (.iload_n 3) 1, e0 1 (.istore 5) 2, e0 3 (.aload_n 1) 1, eF 4 (.getfield 39) 3 4 7, e0 7 (.istore 6) 2]
set_option maxRecDepth 100000 in
theorem c_Pl_writePlan {G : Ge} (i1 : Nat) (x2 : Int32) (x3 : Int32) (i4 : Nat) {μ : Mm} {K : Mm → Prop} (h :
  SS G m_Pl_writePlan 9 [vr 1 0, vr 4 i1, vi x2, un, vr 18 i4, vi x3, vi (μ.1 4 i1 7), un] [] μ (RV K)) :
  CS G m_Pl_writePlan [vr 1 0, vr 4 i1, vi x2, vi x3, vr 18 i4] μ (RV K) :=
  CS_of pf_Pl_writePlan (Nat.le_of_ble_eq_true rfl) (show SS G m_Pl_writePlan 0 [vr 1 0, vr 4 i1, vi x2, vi x3, vr 18 i4, un, un, un] [] μ (RV K) from wp_s (M := m_Pl_writePlan) (lk := lk_Pl) (tb := tc_Pl_writePlan) (cu := [(9, [true, true, true, false, true, true, true, false])]) lk_Pl_ok (by decide +kernel) 9 true 0 _ _ _ h)
def tb_Pl_writePlan_9 : List En := [e0 9 (.iload 6) 2, e0 11 (.aload_n 1) 1, eF 12 (.getfield 32) 3 4 5, eT 15 (.if_icmp .ge 51) 3 66, e0 18 (.aload_n 0) 1, e0 19 (.aload_n 1) 1, eF 20 (.getfield 42) 3 4 1, e0 23 (.iload_n 2) 1, e0 24 .aaload 1, e0 25 (.iload 6) 2, e0 27 (.iload 5) 2, e0 29 (.aload_n 1) 1, e0 30 (.iload_n 2) 1, e0 31 (.iload 6) 2, eT 33 (.invokevirtual 53) 3 3, eT 36 (.invokevirtual 78) 3 8, e0 39 (.istore 7) 2, e0 41 (.aload 4) 2, e0 43 (.iload 6) 2, e0 45 (.aload_n 1) 1, eF 46 (.getfield 39) 3 4 7, e0 49 .isub 1, e0 50 (.iload 7) 2, e0 52 .iastore 1, e0 53 (.iload 5) 2, e0 55 (.iload 7) 2, e0 57 .isub 1, e0 58 (.istore 5) 2, eC 60 (.iinc 6 1) 3 1, eT 63 (.goto (-54)) 3 9, e0 66 .return_ 1]
set_option maxRecDepth 100000 in
theorem b_Pl_writePlan_9 {G : Ge} (i1 : Nat) (x2 : Int32) (i4 : Nat) (x5 : Int32) (x6 : Int32) {μ : Mm} {K : Mm → Prop} (h :
  (if (μ.1 4 i1 5) ≤ x6 then
   K μ
  else
   (vp_in x2 5 ∧
    (CS G m_St_topIn [vr 4 i1, vi x2, vi x6] μ (RI fun v1 μ1 =>
     (CS G m_Pl_firstTonight [vr 1 0, vr 0 (5 * i1 + x2.toNatClampNeg), vi x6, vi x5, vi v1] μ1 (RI fun v2 μ2 =>
      (vp_in (x6 - (μ2.1 4 i1 7)) 40 ∧
       SS G m_Pl_writePlan 9 [vr 1 0, vr 4 i1, vi x2, un, vr 18 i4, vi (x5 - v2), vi (x6 + 1), un] [] (wI μ2 18 i4 (Int32.toNatClampNeg (x6 - (μ2.1 4 i1 7))) v2) (RV K))))))))) :
  SS G m_Pl_writePlan 9 [vr 1 0, vr 4 i1, vi x2, un, vr 18 i4, vi x5, vi x6, un] [] μ (RV K) :=
  wp_s (M := m_Pl_writePlan) (lk := lk_Pl) (tb := tb_Pl_writePlan_9) (cu := [(9, [true, true, true, false, true, true, true, false])]) lk_Pl_ok (by decide +kernel) 34 true _ _ _ _ h
def tc_Cs_least : List En := [e0 0 (.aload_n 0) 1, e0 1 (.iload_n 1) 1, eT 2 (.invokevirtual 125) 3 11, eT 5 (.ifCond .ne 11) 3 16, e0 8 (.aload_n 0) 1, e0 9 (.iload_n 2) 1, eT 10 (.invokevirtual 71) 3 0, eT 13 (.ifCond .eq 5) 3 18, eC 16 (.iconst (-1)) 1 (-1), e0 17 .ireturn 1, e0 18 (.aload_n 0) 1, eF 19 (.getfield 39) 3 6 5, e0 22 (.aload_n 0) 1, eF 23 (.getfield 21) 3 6 2, e0 26 (.iload_n 1) 1, eT 27 (.invokevirtual 186) 3 24, e0 30 (.aload_n 0) 1, eF 31 (.getfield 21) 3 6 2, eF 34 (.getfield 137) 3 4 1, e0 37 (.iload_n 1) 1, e0 38 .aaload 1, eF 39 (.getfield 162) 3 0 3, e0 42 (.istore_n 3) 1, e0 43 (.aload_n 0) 1, eF 44 (.getfield 39) 3 6 5, e0 47 (.iload_n 1) 1, e0 48 (.iload_n 3) 1, eT 49 (.invokevirtual 190) 3 25, e0 52 (.istore 4) 2, e0 54 (.iload 4) 2, eC 56 (.ldc 193) 2 1000000, eT 58 (.if_icmp .lt 6) 3 64, eC 61 (.bipush (-9)) 2 (-9), e0 63 .ireturn 1, e0 64 (.aload_n 0) 1, eF 65 (.getfield 11) 3 6 0, e0 68 (.iload_n 2) 1, e0 69 .aaload 1, e0 70 (.aload_n 0) 1, eF 71 (.getfield 21) 3 6 2, eF 74 (.getfield 168) 3 4 5, e0 77 (.aload_n 0) 1, eF 78 (.getfield 21) 3 6 2, eF 81 (.getfield 171) 3 4 7, e0 84 .isub 1, eC 85 (.iconst 0) 1 0, eT 86 (.invokevirtual 79) 3 2, e0 89 (.aload_n 0) 1, eF 90 (.getfield 39) 3 6 5, e0 93 (.aload_n 0) 1, eF 94 (.getfield 21) 3 6 2, e0 97 (.iload_n 1) 1, e0 98 (.iload_n 3) 1, e0 99 (.aload_n 0) 1, eF 100 (.getfield 11) 3 6 0, e0 103 (.iload_n 2) 1, e0 104 .aaload 1, eF 105 (.getfield 87) 3 3 0, eT 108 (.invokevirtual 194) 3 26, e0 111 (.iload 4) 2, e0 113 .ireturn 1]
set_option maxRecDepth 100000 in
theorem c_Cs_least {G : Ge} (x1 : Int32) (x2 : Int32) {μ : Mm} {K : Int32 → Mm → Prop} (h :
  (CS G m_Cs_noHouse [vr 6 0, vi x1] μ (RI fun v1 μ1 =>
   (if v1 = 0 then
    (CS G m_Cs_noRow [vr 6 0, vi x2] μ1 (RI fun v2 μ2 =>
     (if v2 = 0 then
      (CS G m_Pl_weigh [vr 1 0, vr 4 0, vi x1] μ2 (RV fun μ3 =>
       (vp_in x1 5 ∧
        (CS G m_Pl_painFor [vr 1 0, vi x1, vi (μ3.1 0 (5 * 0 + x1.toNatClampNeg) 3)] μ3 (RI fun v4 μ4 =>
         (if v4 < 1000000 then
          (vp_in x2 6 ∧
           (CS G m_Ro_begin [vr 3 x2.toNatClampNeg, vi ((μ4.1 4 0 5) - (μ4.1 4 0 7)), vi 0] μ4 (RV fun μ5 =>
            (vp_in x2 6 ∧
             (CS G m_Pl_writePlan [vr 1 0, vr 4 0, vi x1, vi (μ3.1 0 (5 * 0 + x1.toNatClampNeg) 3), vr 18 x2.toNatClampNeg] μ5 (RV fun μ6 =>
              K v4 μ6))))))
         else
          K (-9) μ4))))))
     else
      K (-1) μ2)))
   else
    K (-1) μ1)))) :
  CS G m_Cs_least [vr 6 0, vi x1, vi x2] μ (RI K) :=
  CS_of pf_Cs_least (Nat.le_of_ble_eq_true rfl) (show SS G m_Cs_least 0 [vr 6 0, vi x1, vi x2, un, un] [] μ (RI K) from wp_s (M := m_Cs_least) (lk := lk_Cs) (tb := tc_Cs_least) (cu := []) lk_Cs_ok (by decide +kernel) 60 true 0 _ _ _ h)
def tc_Cs_price : List En := [e0 0 (.aload_n 0) 1, e0 1 (.iload_n 1) 1, eT 2 (.invokevirtual 125) 3 11, eT 5 (.ifCond .eq 5) 3 10, eC 8 (.iconst (-1)) 1 (-1), e0 9 .ireturn 1, e0 10 (.aload_n 0) 1, eF 11 (.getfield 39) 3 6 5, e0 14 (.aload_n 0) 1, eF 15 (.getfield 21) 3 6 2, e0 18 (.iload_n 1) 1, eT 19 (.invokevirtual 186) 3 24, e0 22 (.aload_n 0) 1, eF 23 (.getfield 39) 3 6 5, e0 26 (.iload_n 1) 1, e0 27 (.aload_n 0) 1, eF 28 (.getfield 21) 3 6 2, eF 31 (.getfield 137) 3 4 1, e0 34 (.iload_n 1) 1, e0 35 .aaload 1, eF 36 (.getfield 162) 3 0 3, eT 39 (.invokevirtual 190) 3 25, e0 42 (.istore_n 2) 1, e0 43 (.aload_n 0) 1, eF 44 (.getfield 39) 3 6 5, e0 47 (.iload_n 1) 1, e0 48 (.aload_n 0) 1, eF 49 (.getfield 21) 3 6 2, eF 52 (.getfield 137) 3 4 1, e0 55 (.iload_n 1) 1, e0 56 .aaload 1, eF 57 (.getfield 162) 3 0 3, eC 60 (.iconst 1) 1 1, e0 61 .iadd 1, eT 62 (.invokevirtual 190) 3 25, e0 65 (.istore_n 3) 1, e0 66 (.iload_n 2) 1, eC 67 (.ldc 193) 2 1000000, eT 69 (.if_icmp .ge 9) 3 78, e0 72 (.iload_n 3) 1, eC 73 (.ldc 193) 2 1000000, eT 75 (.if_icmp .lt 8) 3 83, eC 78 (.bipush (-9)) 2 (-9), eT 80 (.goto 6) 3 86, e0 83 (.iload_n 3) 1, e0 84 (.iload_n 2) 1, e0 85 .isub 1, e0 86 .ireturn 1]
set_option maxRecDepth 100000 in
theorem c_Cs_price {G : Ge} (x1 : Int32) {μ : Mm} {K : Int32 → Mm → Prop} (h :
  (CS G m_Cs_noHouse [vr 6 0, vi x1] μ (RI fun v1 μ1 =>
   (if v1 = 0 then
    (CS G m_Pl_weigh [vr 1 0, vr 4 0, vi x1] μ1 (RV fun μ2 =>
     (vp_in x1 5 ∧
      (CS G m_Pl_painFor [vr 1 0, vi x1, vi (μ2.1 0 (5 * 0 + x1.toNatClampNeg) 3)] μ2 (RI fun v3 μ3 =>
       (vp_in x1 5 ∧
        (CS G m_Pl_painFor [vr 1 0, vi x1, vi ((μ3.1 0 (5 * 0 + x1.toNatClampNeg) 3) + 1)] μ3 (RI fun v4 μ4 =>
         (if (1000000 : Int32) ≤ v3 then
          K (-9) μ4
         else
          (if v4 < 1000000 then
           K (v4 - v3) μ4
          else
           K (-9) μ4))))))))))
   else
    K (-1) μ1)))) :
  CS G m_Cs_price [vr 6 0, vi x1] μ (RI K) :=
  CS_of pf_Cs_price (Nat.le_of_ble_eq_true rfl) (show SS G m_Cs_price 0 [vr 6 0, vi x1, un, un] [] μ (RI K) from wp_s (M := m_Cs_price) (lk := lk_Cs) (tb := tc_Cs_price) (cu := []) lk_Cs_ok (by decide +kernel) 47 true 0 _ _ _ h)
def tc_Pl_weighAll : List En := [eC 0 (.iconst 0) 1 0, e0 1 (.istore_n 2) 1]
set_option maxRecDepth 100000 in
theorem c_Pl_weighAll {G : Ge} (i1 : Nat) {μ : Mm} {K : Mm → Prop} (h :
  SS G m_Pl_weighAll 2 [vr 1 0, vr 4 i1, vi 0] [] μ (RV K)) :
  CS G m_Pl_weighAll [vr 1 0, vr 4 i1] μ (RV K) :=
  CS_of pf_Pl_weighAll (Nat.le_of_ble_eq_true rfl) (show SS G m_Pl_weighAll 0 [vr 1 0, vr 4 i1, un] [] μ (RV K) from wp_s (M := m_Pl_weighAll) (lk := lk_Pl) (tb := tc_Pl_weighAll) (cu := [(2, [true, true, true])]) lk_Pl_ok (by decide +kernel) 6 true 0 _ _ _ h)
def tb_Pl_weighAll_2 : List En := [e0 2 (.iload_n 2) 1, e0 3 (.aload_n 1) 1, eF 4 (.getfield 22) 3 4 6, eT 7 (.if_icmp .ge 15) 3 22, e0 10 (.aload_n 0) 1, e0 11 (.aload_n 1) 1, e0 12 (.iload_n 2) 1, eT 13 (.invokevirtual 28) 3 0, eC 16 (.iinc 2 1) 3 1, eT 19 (.goto (-17)) 3 2, e0 22 .return_ 1]
set_option maxRecDepth 100000 in
theorem b_Pl_weighAll_2 {G : Ge} (i1 : Nat) (x2 : Int32) {μ : Mm} {K : Mm → Prop} (h :
  (if (μ.1 4 i1 6) ≤ x2 then
   K μ
  else
   (CS G m_Pl_weigh [vr 1 0, vr 4 i1, vi x2] μ (RV fun μ1 =>
    SS G m_Pl_weighAll 2 [vr 1 0, vr 4 i1, vi (x2 + 1)] [] μ1 (RV K))))) :
  SS G m_Pl_weighAll 2 [vr 1 0, vr 4 i1, vi x2] [] μ (RV K) :=
  wp_s (M := m_Pl_weighAll) (lk := lk_Pl) (tb := tb_Pl_weighAll_2) (cu := [(2, [true, true, true])]) lk_Pl_ok (by decide +kernel) 14 true _ _ _ _ h
def tc_Cs_late : List En := [e0 0 (.aload_n 0) 1, eF 1 (.getfield 39) 3 6 5, e0 4 (.aload_n 0) 1, eF 5 (.getfield 21) 3 6 2, eT 8 (.invokevirtual 198) 3 27, eC 11 (.iconst 0) 1 0, e0 12 (.istore_n 1) 1, eC 13 (.iconst 0) 1 0, e0 14 (.istore_n 2) 1, eC 15 (.iconst 0) 1 0, e0 16 (.istore_n 3) 1]
set_option maxRecDepth 100000 in
theorem c_Cs_late {G : Ge}  {μ : Mm} {K : Int32 → Mm → Prop} (h :
  (CS G m_Pl_weighAll [vr 1 0, vr 4 0] μ (RV fun μ1 =>
   SS G m_Cs_late 17 [vr 6 0, vi 0, vi 0, vi 0, un] [] μ1 (RI K)))) :
  CS G m_Cs_late [vr 6 0] μ (RI K) :=
  CS_of pf_Cs_late (Nat.le_of_ble_eq_true rfl) (show SS G m_Cs_late 0 [vr 6 0, un, un, un, un] [] μ (RI K) from wp_s (M := m_Cs_late) (lk := lk_Cs) (tb := tc_Cs_late) (cu := [(17, [true, true, true, true, false])]) lk_Cs_ok (by decide +kernel) 15 true 0 _ _ _ h)
def tb_Cs_late_17 : List En := [e0 17 (.iload_n 3) 1, e0 18 (.aload_n 0) 1, eF 19 (.getfield 21) 3 6 2, eF 22 (.getfield 124) 3 4 6, eT 25 (.if_icmp .ge 52) 3 77, e0 28 (.aload_n 0) 1, eF 29 (.getfield 39) 3 6 5, e0 32 (.iload_n 3) 1, e0 33 (.aload_n 0) 1, eF 34 (.getfield 21) 3 6 2, eF 37 (.getfield 137) 3 4 1, e0 40 (.iload_n 3) 1, e0 41 .aaload 1, eF 42 (.getfield 162) 3 0 3, eT 45 (.invokevirtual 190) 3 25, e0 48 (.istore 4) 2, e0 50 (.iload 4) 2, eC 52 (.ldc 193) 2 1000000, eT 54 (.if_icmp .lt 12) 3 66, e0 57 (.iload_n 1) 1, eC 58 (.iconst 1) 1 1, e0 59 (.iload_n 3) 1, e0 60 .ishl 1, e0 61 .ior 1, e0 62 (.istore_n 1) 1, eT 63 (.goto 8) 3 71, e0 66 (.iload_n 2) 1, e0 67 (.iload 4) 2, e0 69 .iadd 1, e0 70 (.istore_n 2) 1, eC 71 (.iinc 3 1) 3 1, eT 74 (.goto (-57)) 3 17, e0 77 (.aload_n 0) 1, e0 78 (.iload_n 2) 1, eF 79 (.putfield 58) 3 6 9, e0 82 (.iload_n 1) 1, e0 83 .ireturn 1]
set_option maxRecDepth 100000 in
theorem b_Cs_late_17 {G : Ge} (x1 : Int32) (x2 : Int32) (x3 : Int32) {μ : Mm} {K : Int32 → Mm → Prop} (h :
  (if (μ.1 4 0 6) ≤ x3 then
   K x1 (wI μ 6 0 9 x2)
  else
   (vp_in x3 5 ∧
    (CS G m_Pl_painFor [vr 1 0, vi x3, vi (μ.1 0 (5 * 0 + x3.toNatClampNeg) 3)] μ (RI fun v1 μ1 =>
     (if v1 < 1000000 then
      SS G m_Cs_late 17 [vr 6 0, vi x1, vi (x2 + v1), vi (x3 + 1), un] [] μ1 (RI K)
     else
      SS G m_Cs_late 17 [vr 6 0, vi (x1 ||| (1 <<< (x3 &&& 31))), vi x2, vi (x3 + 1), un] [] μ1 (RI K))))))) :
  SS G m_Cs_late 17 [vr 6 0, vi x1, vi x2, vi x3, un] [] μ (RI K) :=
  wp_s (M := m_Cs_late) (lk := lk_Cs) (tb := tb_Cs_late_17) (cu := [(17, [true, true, true, true, false])]) lk_Cs_ok (by decide +kernel) 32 true _ _ _ _ h
def tc_Cs_gainOf : List En := [e0 0 (.aload_n 0) 1, eF 1 (.getfield 39) 3 6 5, e0 4 (.iload_n 1) 1, e0 5 (.aload_n 0) 1, eF 6 (.getfield 21) 3 6 2, eF 9 (.getfield 137) 3 4 1, e0 12 (.iload_n 1) 1, e0 13 .aaload 1, eF 14 (.getfield 162) 3 0 3, eT 17 (.invokevirtual 190) 3 25, e0 20 (.aload_n 0) 1, eF 21 (.getfield 39) 3 6 5, e0 24 (.iload_n 2) 1, e0 25 (.aload_n 0) 1, eF 26 (.getfield 21) 3 6 2, eF 29 (.getfield 137) 3 4 1, e0 32 (.iload_n 2) 1, e0 33 .aaload 1, eF 34 (.getfield 162) 3 0 3, eT 37 (.invokevirtual 190) 3 25, e0 40 .iadd 1, e0 41 (.istore_n 3) 1, e0 42 (.aload_n 0) 1, eF 43 (.getfield 39) 3 6 5, e0 46 (.iload_n 1) 1, e0 47 (.aload_n 0) 1, eF 48 (.getfield 21) 3 6 2, eF 51 (.getfield 137) 3 4 1, e0 54 (.iload_n 1) 1, e0 55 .aaload 1, eF 56 (.getfield 162) 3 0 3, eC 59 (.iconst 1) 1 1, e0 60 .isub 1, eT 61 (.invokevirtual 190) 3 25, e0 64 (.aload_n 0) 1, eF 65 (.getfield 39) 3 6 5, e0 68 (.iload_n 2) 1, e0 69 (.aload_n 0) 1, eF 70 (.getfield 21) 3 6 2, eF 73 (.getfield 137) 3 4 1, e0 76 (.iload_n 2) 1, e0 77 .aaload 1, eF 78 (.getfield 162) 3 0 3, eC 81 (.iconst 1) 1 1, e0 82 .iadd 1, eT 83 (.invokevirtual 190) 3 25, e0 86 .iadd 1, e0 87 (.istore 4) 2, e0 89 (.iload_n 3) 1, eC 90 (.ldc 193) 2 1000000, eT 92 (.if_icmp .ge 10) 3 102, e0 95 (.iload 4) 2, eC 97 (.ldc 193) 2 1000000, eT 99 (.if_icmp .lt 8) 3 107, eC 102 (.bipush (-9)) 2 (-9), eT 104 (.goto 10) 3 114, eC 107 (.bipush 100) 2 100, e0 109 (.iload_n 3) 1, e0 110 .iadd 1, e0 111 (.iload 4) 2, e0 113 .isub 1, e0 114 .ireturn 1]
set_option maxRecDepth 100000 in
theorem c_Cs_gainOf {G : Ge} (x1 : Int32) (x2 : Int32) {μ : Mm} {K : Int32 → Mm → Prop} (h :
  (vp_in x1 5 ∧
   (CS G m_Pl_painFor [vr 1 0, vi x1, vi (μ.1 0 (5 * 0 + x1.toNatClampNeg) 3)] μ (RI fun v1 μ1 =>
    (vp_in x2 5 ∧
     (CS G m_Pl_painFor [vr 1 0, vi x2, vi (μ1.1 0 (5 * 0 + x2.toNatClampNeg) 3)] μ1 (RI fun v2 μ2 =>
      (vp_in x1 5 ∧
       (CS G m_Pl_painFor [vr 1 0, vi x1, vi ((μ2.1 0 (5 * 0 + x1.toNatClampNeg) 3) - 1)] μ2 (RI fun v3 μ3 =>
        (vp_in x2 5 ∧
         (CS G m_Pl_painFor [vr 1 0, vi x2, vi ((μ3.1 0 (5 * 0 + x2.toNatClampNeg) 3) + 1)] μ3 (RI fun v4 μ4 =>
          (if (1000000 : Int32) ≤ (v1 + v2) then
           K (-9) μ4
          else
           (if (v3 + v4) < 1000000 then
            K ((100 + (v1 + v2)) - (v3 + v4)) μ4
           else
            K (-9) μ4))))))))))))))) :
  CS G m_Cs_gainOf [vr 6 0, vi x1, vi x2] μ (RI K) :=
  CS_of pf_Cs_gainOf (Nat.le_of_ble_eq_true rfl) (show SS G m_Cs_gainOf 0 [vr 6 0, vi x1, vi x2, un, un] [] μ (RI K) from wp_s (M := m_Cs_gainOf) (lk := lk_Cs) (tb := tc_Cs_gainOf) (cu := []) lk_Cs_ok (by decide +kernel) 63 true 0 _ _ _ h)
def tc_Cs_gain : List En := [e0 0 (.aload_n 0) 1, e0 1 (.iload_n 1) 1, eT 2 (.invokevirtual 125) 3 11, eT 5 (.ifCond .ne 16) 3 21, e0 8 (.aload_n 0) 1, e0 9 (.iload_n 2) 1, eT 10 (.invokevirtual 125) 3 11, eT 13 (.ifCond .ne 8) 3 21, e0 16 (.iload_n 1) 1, e0 17 (.iload_n 2) 1, eT 18 (.if_icmp .ne 5) 3 23, eC 21 (.iconst (-1)) 1 (-1), e0 22 .ireturn 1, e0 23 (.aload_n 0) 1, eF 24 (.getfield 39) 3 6 5, e0 27 (.aload_n 0) 1, eF 28 (.getfield 21) 3 6 2, e0 31 (.iload_n 1) 1, eT 32 (.invokevirtual 186) 3 24, e0 35 (.aload_n 0) 1, eF 36 (.getfield 39) 3 6 5, e0 39 (.aload_n 0) 1, eF 40 (.getfield 21) 3 6 2, e0 43 (.iload_n 2) 1, eT 44 (.invokevirtual 186) 3 24, e0 47 (.aload_n 0) 1, e0 48 (.iload_n 1) 1, e0 49 (.iload_n 2) 1, eT 50 (.invokevirtual 201) 3 28, e0 53 .ireturn 1]
set_option maxRecDepth 100000 in
theorem c_Cs_gain {G : Ge} (x1 : Int32) (x2 : Int32) {μ : Mm} {K : Int32 → Mm → Prop} (h :
  (CS G m_Cs_noHouse [vr 6 0, vi x1] μ (RI fun v1 μ1 =>
   (if v1 = 0 then
    (CS G m_Cs_noHouse [vr 6 0, vi x2] μ1 (RI fun v2 μ2 =>
     (if v2 = 0 then
      (if x1 = x2 then
       K (-1) μ2
      else
       (CS G m_Pl_weigh [vr 1 0, vr 4 0, vi x1] μ2 (RV fun μ3 =>
        (CS G m_Pl_weigh [vr 1 0, vr 4 0, vi x2] μ3 (RV fun μ4 =>
         (CS G m_Cs_gainOf [vr 6 0, vi x1, vi x2] μ4 (RI fun v5 μ5 =>
          K v5 μ5)))))))
     else
      K (-1) μ2)))
   else
    K (-1) μ1)))) :
  CS G m_Cs_gain [vr 6 0, vi x1, vi x2] μ (RI K) :=
  CS_of pf_Cs_gain (Nat.le_of_ble_eq_true rfl) (show SS G m_Cs_gain 0 [vr 6 0, vi x1, vi x2] [] μ (RI K) from wp_s (M := m_Cs_gain) (lk := lk_Cs) (tb := tc_Cs_gain) (cu := []) lk_Cs_ok (by decide +kernel) 31 true 0 _ _ _ h)
def tc_Cs_sales : List En := [e0 0 (.aload_n 0) 1, eF 1 (.getfield 39) 3 6 5, e0 4 (.aload_n 0) 1, eF 5 (.getfield 21) 3 6 2, eT 8 (.invokevirtual 198) 3 27, eC 11 (.iconst 0) 1 0, e0 12 (.istore_n 1) 1, eC 13 (.bipush 100) 2 100, e0 15 (.istore_n 2) 1, eC 16 (.bipush (-9)) 2 (-9), e0 18 (.istore_n 3) 1, eC 19 (.iconst 0) 1 0, e0 20 (.istore 4) 2]
set_option maxRecDepth 100000 in
theorem c_Cs_sales {G : Ge}  {μ : Mm} {K : Int32 → Mm → Prop} (h :
  (CS G m_Pl_weighAll [vr 1 0, vr 4 0] μ (RV fun μ1 =>
   SS G m_Cs_sales 22 [vr 6 0, vi 0, vi 100, vi (-9), vi 0, un, un] [] μ1 (RI K)))) :
  CS G m_Cs_sales [vr 6 0] μ (RI K) :=
  CS_of pf_Cs_sales (Nat.le_of_ble_eq_true rfl) (show SS G m_Cs_sales 0 [vr 6 0, un, un, un, un, un, un] [] μ (RI K) from wp_s (M := m_Cs_sales) (lk := lk_Cs) (tb := tc_Cs_sales) (cu := [(22, [true, true, true, true, true, false, false]), (37, [true, true, true, true, true, true, false])]) lk_Cs_ok (by decide +kernel) 17 true 0 _ _ _ h)
def tb_Cs_sales_22 : List En := [e0 22 (.iload 4) 2, e0 24 (.aload_n 0) 1, eF 25 (.getfield 21) 3 6 2, eF 28 (.getfield 124) 3 4 6, eT 31 (.if_icmp .ge 80) 3 111, eC 34 (.iconst 0) 1 0, e0 35 (.istore 5) 2, e0 111 (.aload_n 0) 1, e0 112 (.iload_n 3) 1, eF 113 (.putfield 58) 3 6 9, e0 116 (.iload_n 1) 1, e0 117 .ireturn 1]
set_option maxRecDepth 100000 in
theorem b_Cs_sales_22 {G : Ge} (x1 : Int32) (x2 : Int32) (x3 : Int32) (x4 : Int32) {μ : Mm} {K : Int32 → Mm → Prop} (h :
  (if (μ.1 4 0 6) ≤ x4 then
   K x1 (wI μ 6 0 9 x3)
  else
   SS G m_Cs_sales 37 [vr 6 0, vi x1, vi x2, vi x3, vi x4, vi 0, un] [] μ (RI K))) :
  SS G m_Cs_sales 22 [vr 6 0, vi x1, vi x2, vi x3, vi x4, un, un] [] μ (RI K) :=
  wp_s (M := m_Cs_sales) (lk := lk_Cs) (tb := tb_Cs_sales_22) (cu := [(22, [true, true, true, true, true, false, false]), (37, [true, true, true, true, true, true, false])]) lk_Cs_ok (by decide +kernel) 13 true _ _ _ _ h
def tb_Cs_sales_37 : List En := [e0 37 (.iload 5) 2, e0 39 (.aload_n 0) 1, eF 40 (.getfield 21) 3 6 2, eF 43 (.getfield 124) 3 4 6, eT 46 (.if_icmp .ge 59) 3 105, e0 49 (.iload 4) 2, e0 51 (.iload 5) 2, eT 53 (.if_icmp .ne 8) 3 61, eC 56 (.bipush (-9)) 2 (-9), eT 58 (.goto 11) 3 69, e0 61 (.aload_n 0) 1, e0 62 (.iload 4) 2, e0 64 (.iload 5) 2, eT 66 (.invokevirtual 201) 3 28, e0 69 (.istore 6) 2, e0 71 (.iload 6) 2, eC 73 (.bipush 100) 2 100, eT 75 (.if_icmp .le 6) 3 81, eC 78 (.iinc 1 1) 3 1, e0 81 (.iload 6) 2, e0 83 (.iload_n 2) 1, eT 84 (.if_icmp .le 15) 3 99, e0 87 (.iload 6) 2, e0 89 (.istore_n 2) 1, eC 90 (.bipush 6) 2 6, e0 92 (.iload 4) 2, e0 94 .imul 1, e0 95 (.iload 5) 2, e0 97 .iadd 1, e0 98 (.istore_n 3) 1, eC 99 (.iinc 5 1) 3 1, eT 102 (.goto (-65)) 3 37, eC 105 (.iinc 4 1) 3 1, eT 108 (.goto (-86)) 3 22]
set_option maxRecDepth 100000 in
theorem b_Cs_sales_37 {G : Ge} (x1 : Int32) (x2 : Int32) (x3 : Int32) (x4 : Int32) (x5 : Int32) {μ : Mm} {K : Int32 → Mm → Prop} (h :
  (if (μ.1 4 0 6) ≤ x5 then
   SS G m_Cs_sales 22 [vr 6 0, vi x1, vi x2, vi x3, vi (x4 + 1), un, un] [] μ (RI K)
  else
   (if x4 = x5 then
    (if ((-9) : Int32) ≤ 100 then
     (if ((-9) : Int32) ≤ x2 then
      SS G m_Cs_sales 37 [vr 6 0, vi x1, vi x2, vi x3, vi x4, vi (x5 + 1), un] [] μ (RI K)
     else
      SS G m_Cs_sales 37 [vr 6 0, vi x1, vi (-9), vi ((6 * x4) + x5), vi x4, vi (x5 + 1), un] [] μ (RI K))
    else
     (if ((-9) : Int32) ≤ x2 then
      SS G m_Cs_sales 37 [vr 6 0, vi (x1 + 1), vi x2, vi x3, vi x4, vi (x5 + 1), un] [] μ (RI K)
     else
      SS G m_Cs_sales 37 [vr 6 0, vi (x1 + 1), vi (-9), vi ((6 * x4) + x5), vi x4, vi (x5 + 1), un] [] μ (RI K)))
   else
    (CS G m_Cs_gainOf [vr 6 0, vi x4, vi x5] μ (RI fun v1 μ1 =>
     (if v1 ≤ 100 then
      (if v1 ≤ x2 then
       SS G m_Cs_sales 37 [vr 6 0, vi x1, vi x2, vi x3, vi x4, vi (x5 + 1), un] [] μ1 (RI K)
      else
       SS G m_Cs_sales 37 [vr 6 0, vi x1, vi v1, vi ((6 * x4) + x5), vi x4, vi (x5 + 1), un] [] μ1 (RI K))
     else
      (if v1 ≤ x2 then
       SS G m_Cs_sales 37 [vr 6 0, vi (x1 + 1), vi x2, vi x3, vi x4, vi (x5 + 1), un] [] μ1 (RI K)
      else
       SS G m_Cs_sales 37 [vr 6 0, vi (x1 + 1), vi v1, vi ((6 * x4) + x5), vi x4, vi (x5 + 1), un] [] μ1 (RI K)))))))) :
  SS G m_Cs_sales 37 [vr 6 0, vi x1, vi x2, vi x3, vi x4, vi x5, un] [] μ (RI K) :=
  wp_s (M := m_Cs_sales) (lk := lk_Cs) (tb := tb_Cs_sales_37) (cu := [(22, [true, true, true, true, true, false, false]), (37, [true, true, true, true, true, true, false])]) lk_Cs_ok (by decide +kernel) 34 true _ _ _ _ h
def tc_Cs_isIn : List En := [e0 0 (.iload_n 0) 1, e0 1 (.iload_n 1) 1, e0 2 .ishr 1, eC 3 (.iconst 1) 1 1, e0 4 .iand 1, eC 5 (.iconst 1) 1 1, eT 6 (.if_icmp .ne 7) 3 13, eC 9 (.iconst 1) 1 1, eT 10 (.goto 4) 3 14, eC 13 (.iconst 0) 1 0, e0 14 .ireturn 1]
set_option maxRecDepth 100000 in
theorem c_Cs_isIn {G : Ge} (x0 : Int32) (x1 : Int32) {μ : Mm} {K : Int32 → Mm → Prop} (h :
  (if ((x0 >>> (x1 &&& 31)) &&& 1) = 1 then
   (((1 : Int32) = 0 ∨ (1 : Int32) = 1) ∧ K 1 μ)
  else
   (((0 : Int32) = 0 ∨ (0 : Int32) = 1) ∧ K 0 μ))) :
  CS G m_Cs_isIn [vi x0, vi x1] μ (RI K) :=
  CS_of pf_Cs_isIn (Nat.le_of_ble_eq_true rfl) (show SS G m_Cs_isIn 0 [vi x0, vi x1] [] μ (RI K) from wp_s (M := m_Cs_isIn) (lk := lk_Cs) (tb := tc_Cs_isIn) (cu := []) lk_Cs_ok (by decide +kernel) 13 true 0 _ _ _ h)
def tc_St_owedBy : List En := [eC 0 (.iconst 0) 1 0, e0 1 (.istore_n 2) 1, eC 2 (.iconst 0) 1 0, e0 3 (.istore_n 3) 1]
set_option maxRecDepth 100000 in
theorem c_St_owedBy {G : Ge} (i0 : Nat) (x1 : Int32) {μ : Mm} {K : Int32 → Mm → Prop} (h :
  SS G m_St_owedBy 4 [vr 4 i0, vi x1, vi 0, vi 0] [] μ (RI K)) :
  CS G m_St_owedBy [vr 4 i0, vi x1] μ (RI K) :=
  CS_of pf_St_owedBy (Nat.le_of_ble_eq_true rfl) (show SS G m_St_owedBy 0 [vr 4 i0, vi x1, un, un] [] μ (RI K) from wp_s (M := m_St_owedBy) (lk := lk_St) (tb := tc_St_owedBy) (cu := [(4, [true, true, true, true])]) lk_St_ok (by decide +kernel) 8 true 0 _ _ _ h)
def tb_St_owedBy_4 : List En := [e0 4 (.iload_n 3) 1, e0 5 (.aload_n 0) 1, eF 6 (.getfield 34) 3 4 6, eT 9 (.if_icmp .ge 29) 3 38, e0 12 (.iload_n 1) 1, e0 13 (.iload_n 3) 1, eT 14 (.invokestatic 102) 3 12, eT 17 (.ifCond .eq 15) 3 32, e0 20 (.iload_n 2) 1, e0 21 (.aload_n 0) 1, eF 22 (.getfield 17) 3 4 1, e0 25 (.iload_n 3) 1, e0 26 .aaload 1, eF 27 (.getfield 79) 3 0 3, e0 30 .iadd 1, e0 31 (.istore_n 2) 1, eC 32 (.iinc 3 1) 3 1, eT 35 (.goto (-31)) 3 4, e0 38 (.iload_n 2) 1, e0 39 .ireturn 1]
set_option maxRecDepth 100000 in
theorem b_St_owedBy_4 {G : Ge} (i0 : Nat) (x1 : Int32) (x2 : Int32) (x3 : Int32) {μ : Mm} {K : Int32 → Mm → Prop} (h :
  (if (μ.1 4 i0 6) ≤ x3 then
   K x2 μ
  else
   (CS G m_Cs_isIn [vi x1, vi x3] μ (RI fun v1 μ1 =>
    (if v1 = 0 then
     SS G m_St_owedBy 4 [vr 4 i0, vi x1, vi x2, vi (x3 + 1)] [] μ1 (RI K)
    else
     (vp_in x3 5 ∧
      SS G m_St_owedBy 4 [vr 4 i0, vi x1, vi (x2 + (μ1.1 0 (5 * i0 + x3.toNatClampNeg) 3)), vi (x3 + 1)] [] μ1 (RI K))))))) :
  SS G m_St_owedBy 4 [vr 4 i0, vi x1, vi x2, vi x3] [] μ (RI K) :=
  wp_s (M := m_St_owedBy) (lk := lk_St) (tb := tb_St_owedBy_4) (cu := [(4, [true, true, true, true])]) lk_St_ok (by decide +kernel) 22 true _ _ _ _ h
def tc_Pl_join : List En := [e0 0 (.aload_n 0) 1, eF 1 (.getfield 19) 3 1 2, e0 4 (.iload_n 1) 1, eC 5 (.iconst 1) 1 1, e0 6 (.iload_n 2) 1, e0 7 .ishl 1, e0 8 .ior 1, e0 9 .aaload 1, e0 10 (.astore_n 3) 1, e0 11 (.aload_n 3) 1, eC 12 (.ldc 46) 2 1000000, eT 14 (.invokestatic 47) 3 2, eC 17 (.iconst 0) 1 0, e0 18 (.istore 4) 2]
set_option maxRecDepth 100000 in
theorem c_Pl_join {G : Ge} (x1 : Int32) (x2 : Int32) {μ : Mm} {K : Mm → Prop} (h :
  (vp_in (x1 ||| (1 <<< (x2 &&& 31))) 32 ∧
   (CS G m_Ja_fill2 [vr 16 (14 + (Int32.toNatClampNeg (x1 ||| (1 <<< (x2 &&& 31))))), vi 1000000] μ (RV fun μ1 =>
    SS G m_Pl_join 20 [vr 1 0, vi x1, vi x2, vr 16 (14 + (Int32.toNatClampNeg (x1 ||| (1 <<< (x2 &&& 31))))), vi 0] [] μ1 (RV K))))) :
  CS G m_Pl_join [vr 1 0, vi x1, vi x2] μ (RV K) :=
  CS_of pf_Pl_join (Nat.le_of_ble_eq_true rfl) (show SS G m_Pl_join 0 [vr 1 0, vi x1, vi x2, un, un] [] μ (RV K) from wp_s (M := m_Pl_join) (lk := lk_Pl) (tb := tc_Pl_join) (cu := [(20, [true, true, true, true, true])]) lk_Pl_ok (by decide +kernel) 18 true 0 _ _ _ h)
def tb_Pl_join_20 : List En := [e0 20 (.iload 4) 2, eC 22 (.bipush 47) 2 47, eT 24 (.if_icmp .ge 44) 3 68, e0 27 (.aload_n 0) 1, eF 28 (.getfield 16) 3 1 1, e0 31 (.iload_n 2) 1, e0 32 .aaload 1, e0 33 (.iload 4) 2, e0 35 .iaload 1, eC 36 (.ldc 46) 2 1000000, eT 38 (.if_icmp .ge 24) 3 62, e0 41 (.aload_n 3) 1, e0 42 (.aload_n 0) 1, eF 43 (.getfield 19) 3 1 2, e0 46 (.iload_n 1) 1, e0 47 .aaload 1, e0 48 (.iload 4) 2, e0 50 (.aload_n 0) 1, eF 51 (.getfield 16) 3 1 1, e0 54 (.iload_n 2) 1, e0 55 .aaload 1, e0 56 (.iload 4) 2, e0 58 .iaload 1, eT 59 (.invokestatic 63) 3 5, eC 62 (.iinc 4 1) 3 1, eT 65 (.goto (-45)) 3 20, e0 68 .return_ 1]
set_option maxRecDepth 100000 in
theorem b_Pl_join_20 {G : Ge} (x1 : Int32) (x2 : Int32) (i3 : Nat) (x4 : Int32) {μ : Mm} {K : Mm → Prop} (h :
  (if (47 : Int32) ≤ x4 then
   K μ
  else
   (vp_in x2 5 ∧
    (vp_in x4 47 ∧
     (if (1000000 : Int32) ≤ (μ.1 16 (9 + x2.toNatClampNeg) x4.toNatClampNeg) then
      SS G m_Pl_join 20 [vr 1 0, vi x1, vi x2, vr 16 i3, vi (x4 + 1)] [] μ (RV K)
     else
      (vp_in x1 32 ∧
       (vp_in x2 5 ∧
        (vp_in x4 47 ∧
         (CS G m_Pl_relieve [vr 16 i3, vr 16 (14 + x1.toNatClampNeg), vi x4, vi (μ.1 16 (9 + x2.toNatClampNeg) x4.toNatClampNeg)] μ (RV fun μ1 =>
          SS G m_Pl_join 20 [vr 1 0, vi x1, vi x2, vr 16 i3, vi (x4 + 1)] [] μ1 (RV K))))))))))) :
  SS G m_Pl_join 20 [vr 1 0, vi x1, vi x2, vr 16 i3, vi x4] [] μ (RV K) :=
  wp_s (M := m_Pl_join) (lk := lk_Pl) (tb := tb_Pl_join_20) (cu := [(20, [true, true, true, true, true])]) lk_Pl_ok (by decide +kernel) 30 true _ _ _ _ h
def tc_Pl_pooledPain : List En := [e0 0 (.iload_n 2) 1, eT 1 (.ifCond .lt 9) 3 10, e0 4 (.iload_n 2) 1, eC 5 (.bipush 47) 2 47, eT 7 (.if_icmp .lt 8) 3 15, eC 10 (.ldc 46) 2 1000000, eT 12 (.goto 11) 3 23, e0 15 (.aload_n 0) 1, eF 16 (.getfield 19) 3 1 2, e0 19 (.iload_n 1) 1, e0 20 .aaload 1, e0 21 (.iload_n 2) 1, e0 22 .iaload 1, e0 23 .ireturn 1]
set_option maxRecDepth 100000 in
theorem c_Pl_pooledPain {G : Ge} (x1 : Int32) (x2 : Int32) {μ : Mm} {K : Int32 → Mm → Prop} (h :
  (if x2 < 0 then
   K 1000000 μ
  else
   (if x2 < 47 then
    (vp_in x1 32 ∧
     (vp_in x2 47 ∧
      K (μ.1 16 (14 + x1.toNatClampNeg) x2.toNatClampNeg) μ))
   else
    K 1000000 μ))) :
  CS G m_Pl_pooledPain [vr 1 0, vi x1, vi x2] μ (RI K) :=
  CS_of pf_Pl_pooledPain (Nat.le_of_ble_eq_true rfl) (show SS G m_Pl_pooledPain 0 [vr 1 0, vi x1, vi x2] [] μ (RI K) from wp_s (M := m_Pl_pooledPain) (lk := lk_Pl) (tb := tc_Pl_pooledPain) (cu := []) lk_Pl_ok (by decide +kernel) 15 true 0 _ _ _ h)
def tc_Pl_painOfPool : List En := [e0 0 (.aload_n 0) 1, eF 1 (.getfield 19) 3 1 2, eC 4 (.iconst 0) 1 0, e0 5 .aaload 1, eT 6 (.invokestatic 35) 3 1, eC 9 (.iconst 0) 1 0, e0 10 (.istore 4) 2, e0 12 (.aload_n 1) 1, eF 13 (.getfield 22) 3 4 6, eC 16 (.iconst 1) 1 1, e0 17 .isub 1, e0 18 (.istore 5) 2]
set_option maxRecDepth 100000 in
theorem c_Pl_painOfPool {G : Ge} (i1 : Nat) (x2 : Int32) (x3 : Int32) {μ : Mm} {K : Int32 → Mm → Prop} (h :
  (vp_in 0 32 ∧
   (CS G m_Pl_bearNothing [vr 16 (14 + (Int32.toNatClampNeg 0))] μ (RV fun μ1 =>
    SS G m_Pl_painOfPool 20 [vr 1 0, un, vi x2, vi x3, vi 0, vi ((μ1.1 4 i1 6) - 1)] [] μ1 (RI K))))) :
  CS G m_Pl_painOfPool [vr 1 0, vr 4 i1, vi x2, vi x3] μ (RI K) :=
  CS_of pf_Pl_painOfPool (Nat.le_of_ble_eq_true rfl) (show SS G m_Pl_painOfPool 0 [vr 1 0, vr 4 i1, vi x2, vi x3, un, un] [] μ (RI K) from wp_s (M := m_Pl_painOfPool) (lk := lk_Pl) (tb := tc_Pl_painOfPool) (cu := [(20, [true, false, true, true, true, true])]) lk_Pl_ok (by decide +kernel) 16 true 0 _ _ _ h)
def tb_Pl_painOfPool_20 : List En := [e0 20 (.iload 5) 2, eT 22 (.ifCond .lt 35) 3 57, e0 25 (.iload_n 2) 1, e0 26 (.iload 5) 2, eT 28 (.invokestatic 82) 3 13, eT 31 (.ifCond .eq 20) 3 51, e0 34 (.aload_n 0) 1, e0 35 (.iload 4) 2, e0 37 (.iload 5) 2, eT 39 (.invokevirtual 92) 3 10, e0 42 (.iload 4) 2, eC 44 (.iconst 1) 1 1, e0 45 (.iload 5) 2, e0 47 .ishl 1, e0 48 .ior 1, e0 49 (.istore 4) 2, eC 51 (.iinc 5 (-1)) 3 (-1), eT 54 (.goto (-34)) 3 20, e0 57 (.aload_n 0) 1, e0 58 (.iload_n 2) 1, e0 59 (.iload_n 3) 1, eT 60 (.invokevirtual 96) 3 11, e0 63 .ireturn 1]
set_option maxRecDepth 100000 in
theorem b_Pl_painOfPool_20 {G : Ge} (x2 : Int32) (x3 : Int32) (x4 : Int32) (x5 : Int32) {μ : Mm} {K : Int32 → Mm → Prop} (h :
  (if x5 < 0 then
   (CS G m_Pl_pooledPain [vr 1 0, vi x2, vi x3] μ (RI fun v1 μ1 =>
    K v1 μ1))
  else
   (CS G m_Cs_isIn [vi x2, vi x5] μ (RI fun v2 μ2 =>
    (if v2 = 0 then
     SS G m_Pl_painOfPool 20 [vr 1 0, un, vi x2, vi x3, vi x4, vi (x5 + (-1))] [] μ2 (RI K)
    else
     (CS G m_Pl_join [vr 1 0, vi x4, vi x5] μ2 (RV fun μ3 =>
      SS G m_Pl_painOfPool 20 [vr 1 0, un, vi x2, vi x3, vi (x4 ||| (1 <<< (x5 &&& 31))), vi (x5 + (-1))] [] μ3 (RI K)))))))) :
  SS G m_Pl_painOfPool 20 [vr 1 0, un, vi x2, vi x3, vi x4, vi x5] [] μ (RI K) :=
  wp_s (M := m_Pl_painOfPool) (lk := lk_Pl) (tb := tb_Pl_painOfPool_20) (cu := [(20, [true, false, true, true, true, true])]) lk_Pl_ok (by decide +kernel) 22 true _ _ _ _ h
def tc_Pl_firstShare : List En := [eC 0 (.iconst 0) 1 0, e0 1 (.istore 4) 2]
set_option maxRecDepth 100000 in
theorem c_Pl_firstShare {G : Ge} (x1 : Int32) (x2 : Int32) (x3 : Int32) {μ : Mm} {K : Int32 → Mm → Prop} (h :
  SS G m_Pl_firstShare 3 [vr 1 0, vi x1, vi x2, vi x3, vi 0] [] μ (RI K)) :
  CS G m_Pl_firstShare [vr 1 0, vi x1, vi x2, vi x3] μ (RI K) :=
  CS_of pf_Pl_firstShare (Nat.le_of_ble_eq_true rfl) (show SS G m_Pl_firstShare 0 [vr 1 0, vi x1, vi x2, vi x3, un] [] μ (RI K) from wp_s (M := m_Pl_firstShare) (lk := lk_Pl) (tb := tc_Pl_firstShare) (cu := [(3, [true, true, true, true, true])]) lk_Pl_ok (by decide +kernel) 6 true 0 _ _ _ h)
def tb_Pl_firstShare_3 : List En := [e0 3 (.iload 4) 2, e0 5 (.iload_n 3) 1, eT 6 (.if_icmp .gt 48) 3 54, e0 9 (.aload_n 0) 1, eF 10 (.getfield 16) 3 1 1, e0 13 (.iload_n 1) 1, e0 14 .aaload 1, e0 15 (.iload 4) 2, e0 17 .iaload 1, e0 18 (.aload_n 0) 1, eF 19 (.getfield 19) 3 1 2, e0 22 (.iload_n 2) 1, e0 23 .aaload 1, e0 24 (.iload_n 3) 1, e0 25 (.iload 4) 2, e0 27 .isub 1, e0 28 .iaload 1, e0 29 .iadd 1, e0 30 (.aload_n 0) 1, eF 31 (.getfield 19) 3 1 2, e0 34 (.iload_n 2) 1, eC 35 (.iconst 1) 1 1, e0 36 (.iload_n 1) 1, e0 37 .ishl 1, e0 38 .ior 1, e0 39 .aaload 1, e0 40 (.iload_n 3) 1, e0 41 .iaload 1, eT 42 (.if_icmp .ne 6) 3 48, e0 45 (.iload 4) 2, e0 47 .ireturn 1, eC 48 (.iinc 4 1) 3 1, eT 51 (.goto (-48)) 3 3, eC 54 (.iconst 0) 1 0, e0 55 .ireturn 1]
set_option maxRecDepth 100000 in
theorem b_Pl_firstShare_3 {G : Ge} (x1 : Int32) (x2 : Int32) (x3 : Int32) (x4 : Int32) {μ : Mm} {K : Int32 → Mm → Prop} (h :
  (if x3 < x4 then
   K 0 μ
  else
   (vp_in x1 5 ∧
    (vp_in x4 47 ∧
     (vp_in x2 32 ∧
      (vp_in (x3 - x4) 47 ∧
       (vp_in (x2 ||| (1 <<< (x1 &&& 31))) 32 ∧
        (vp_in x3 47 ∧
         (if ((μ.1 16 (9 + x1.toNatClampNeg) x4.toNatClampNeg) + (μ.1 16 (14 + x2.toNatClampNeg) (Int32.toNatClampNeg (x3 - x4)))) = (μ.1 16 (14 + (Int32.toNatClampNeg (x2 ||| (1 <<< (x1 &&& 31))))) x3.toNatClampNeg) then
          K x4 μ
         else
          SS G m_Pl_firstShare 3 [vr 1 0, vi x1, vi x2, vi x3, vi (x4 + 1)] [] μ (RI K)))))))))) :
  SS G m_Pl_firstShare 3 [vr 1 0, vi x1, vi x2, vi x3, vi x4] [] μ (RI K) :=
  wp_s (M := m_Pl_firstShare) (lk := lk_Pl) (tb := tb_Pl_firstShare_3) (cu := [(3, [true, true, true, true, true])]) lk_Pl_ok (by decide +kernel) 35 true _ _ _ _ h
def tc_Pl_writeShares : List En := [e0 0 (.iload_n 2) 1, e0 1 (.istore 4) 2, eC 3 (.iconst 0) 1 0, e0 4 (.istore 5) 2]
set_option maxRecDepth 100000 in
theorem c_Pl_writeShares {G : Ge} (x1 : Int32) (x2 : Int32) (i3 : Nat) {μ : Mm} {K : Mm → Prop} (h :
  SS G m_Pl_writeShares 6 [vr 1 0, vi x1, un, vr 18 i3, vi x2, vi 0, un] [] μ (RV K)) :
  CS G m_Pl_writeShares [vr 1 0, vi x1, vi x2, vr 18 i3] μ (RV K) :=
  CS_of pf_Pl_writeShares (Nat.le_of_ble_eq_true rfl) (show SS G m_Pl_writeShares 0 [vr 1 0, vi x1, vi x2, vr 18 i3, un, un, un] [] μ (RV K) from wp_s (M := m_Pl_writeShares) (lk := lk_Pl) (tb := tc_Pl_writeShares) (cu := [(6, [true, true, false, true, true, true, false])]) lk_Pl_ok (by decide +kernel) 8 true 0 _ _ _ h)
def tb_Pl_writeShares_6 : List En := [e0 6 (.iload 5) 2, e0 8 (.iload_n 1) 1, eT 9 (.if_icmp .ge 42) 3 51, e0 12 (.aload_n 0) 1, e0 13 (.iload 5) 2, eC 15 (.iconst 1) 1 1, e0 16 (.iload_n 1) 1, e0 17 .ishl 1, eC 18 (.iconst 1) 1 1, e0 19 (.iload 5) 2, eC 21 (.iconst 1) 1 1, e0 22 .iadd 1, e0 23 .ishl 1, e0 24 .isub 1, e0 25 (.iload 4) 2, eT 27 (.invokevirtual 99) 3 12, e0 30 (.istore 6) 2, e0 32 (.aload_n 3) 1, e0 33 (.iload 5) 2, e0 35 (.iload 6) 2, e0 37 .iastore 1, e0 38 (.iload 4) 2, e0 40 (.iload 6) 2, e0 42 .isub 1, e0 43 (.istore 4) 2, eC 45 (.iinc 5 1) 3 1, eT 48 (.goto (-42)) 3 6, e0 51 .return_ 1]
set_option maxRecDepth 100000 in
theorem b_Pl_writeShares_6 {G : Ge} (x1 : Int32) (i3 : Nat) (x4 : Int32) (x5 : Int32) {μ : Mm} {K : Mm → Prop} (h :
  (if x1 ≤ x5 then
   K μ
  else
   (CS G m_Pl_firstShare [vr 1 0, vi x5, vi ((1 <<< (x1 &&& 31)) - (1 <<< ((x5 + 1) &&& 31))), vi x4] μ (RI fun v1 μ1 =>
    (vp_in x5 40 ∧
     SS G m_Pl_writeShares 6 [vr 1 0, vi x1, un, vr 18 i3, vi (x4 - v1), vi (x5 + 1), un] [] (wI μ1 18 i3 x5.toNatClampNeg v1) (RV K)))))) :
  SS G m_Pl_writeShares 6 [vr 1 0, vi x1, un, vr 18 i3, vi x4, vi x5, un] [] μ (RV K) :=
  wp_s (M := m_Pl_writeShares) (lk := lk_Pl) (tb := tb_Pl_writeShares_6) (cu := [(6, [true, true, false, true, true, true, false])]) lk_Pl_ok (by decide +kernel) 31 true _ _ _ _ h
def tc_Cs_share : List En := [e0 0 (.aload_n 0) 1, e0 1 (.iload_n 1) 1, eT 2 (.invokevirtual 71) 3 0, eT 5 (.ifCond .eq 5) 3 10, eC 8 (.iconst (-1)) 1 (-1), e0 9 .ireturn 1, e0 10 (.aload_n 0) 1, eF 11 (.getfield 21) 3 6 2, eT 14 (.invokevirtual 180) 3 22, eT 17 (.ifCond .eq 6) 3 23, eC 20 (.bipush (-4)) 2 (-4), e0 22 .ireturn 1, e0 23 (.aload_n 0) 1, eF 24 (.getfield 39) 3 6 5, e0 27 (.aload_n 0) 1, eF 28 (.getfield 21) 3 6 2, eT 31 (.invokevirtual 198) 3 27, eC 34 (.iconst 1) 1 1, e0 35 (.aload_n 0) 1, eF 36 (.getfield 21) 3 6 2, eF 39 (.getfield 124) 3 4 6, e0 42 .ishl 1, eC 43 (.iconst 1) 1 1, e0 44 .isub 1, e0 45 (.istore_n 2) 1, e0 46 (.aload_n 0) 1, eF 47 (.getfield 21) 3 6 2, e0 50 (.iload_n 2) 1, eT 51 (.invokevirtual 204) 3 29, e0 54 (.istore_n 3) 1, e0 55 (.aload_n 0) 1, eF 56 (.getfield 39) 3 6 5, e0 59 (.aload_n 0) 1, eF 60 (.getfield 21) 3 6 2, e0 63 (.iload_n 2) 1, e0 64 (.iload_n 3) 1, eT 65 (.invokevirtual 207) 3 30, e0 68 (.istore 4) 2, e0 70 (.iload 4) 2, eC 72 (.ldc 193) 2 1000000, eT 74 (.if_icmp .lt 6) 3 80, eC 77 (.bipush (-9)) 2 (-9), e0 79 .ireturn 1, e0 80 (.aload_n 0) 1, eF 81 (.getfield 11) 3 6 0, e0 84 (.iload_n 1) 1, e0 85 .aaload 1, e0 86 (.aload_n 0) 1, eF 87 (.getfield 21) 3 6 2, eF 90 (.getfield 124) 3 4 6, eC 93 (.iconst 0) 1 0, eT 94 (.invokevirtual 79) 3 2, e0 97 (.aload_n 0) 1, eF 98 (.getfield 39) 3 6 5, e0 101 (.aload_n 0) 1, eF 102 (.getfield 21) 3 6 2, eF 105 (.getfield 124) 3 4 6, e0 108 (.iload_n 3) 1, e0 109 (.aload_n 0) 1, eF 110 (.getfield 11) 3 6 0, e0 113 (.iload_n 1) 1, e0 114 .aaload 1, eF 115 (.getfield 87) 3 3 0, eT 118 (.invokevirtual 211) 3 31, e0 121 (.iload 4) 2, e0 123 .ireturn 1]
set_option maxRecDepth 100000 in
theorem c_Cs_share {G : Ge} (x1 : Int32) {μ : Mm} {K : Int32 → Mm → Prop} (h :
  (CS G m_Cs_noRow [vr 6 0, vi x1] μ (RI fun v1 μ1 =>
   (if v1 = 0 then
    (CS G m_St_isEmpty [vr 4 0] μ1 (RI fun v2 μ2 =>
     (if v2 = 0 then
      (CS G m_Pl_weighAll [vr 1 0, vr 4 0] μ2 (RV fun μ3 =>
       (CS G m_St_owedBy [vr 4 0, vi ((1 <<< ((μ3.1 4 0 6) &&& 31)) - 1)] μ3 (RI fun v4 μ4 =>
        (CS G m_Pl_painOfPool [vr 1 0, vr 4 0, vi ((1 <<< ((μ3.1 4 0 6) &&& 31)) - 1), vi v4] μ4 (RI fun v5 μ5 =>
         (if v5 < 1000000 then
          (vp_in x1 6 ∧
           (CS G m_Ro_begin [vr 3 x1.toNatClampNeg, vi (μ5.1 4 0 6), vi 0] μ5 (RV fun μ6 =>
            (vp_in x1 6 ∧
             (CS G m_Pl_writeShares [vr 1 0, vi (μ6.1 4 0 6), vi v4, vr 18 x1.toNatClampNeg] μ6 (RV fun μ7 =>
              K v5 μ7))))))
         else
          K (-9) μ5)))))))
     else
      K (-4) μ2)))
   else
    K (-1) μ1)))) :
  CS G m_Cs_share [vr 6 0, vi x1] μ (RI K) :=
  CS_of pf_Cs_share (Nat.le_of_ble_eq_true rfl) (show SS G m_Cs_share 0 [vr 6 0, vi x1, un, un, un] [] μ (RI K) from wp_s (M := m_Cs_share) (lk := lk_Cs) (tb := tc_Cs_share) (cu := []) lk_Cs_ok (by decide +kernel) 63 true 0 _ _ _ h)
def tc_Pl_painAlone : List En := [eC 0 (.iconst 0) 1 0, e0 1 (.istore_n 3) 1, eC 2 (.iconst 0) 1 0, e0 3 (.istore 4) 2]
set_option maxRecDepth 100000 in
theorem c_Pl_painAlone {G : Ge} (i1 : Nat) (x2 : Int32) {μ : Mm} {K : Int32 → Mm → Prop} (h :
  SS G m_Pl_painAlone 5 [vr 1 0, vr 4 i1, vi x2, vi 0, vi 0] [] μ (RI K)) :
  CS G m_Pl_painAlone [vr 1 0, vr 4 i1, vi x2] μ (RI K) :=
  CS_of pf_Pl_painAlone (Nat.le_of_ble_eq_true rfl) (show SS G m_Pl_painAlone 0 [vr 1 0, vr 4 i1, vi x2, un, un] [] μ (RI K) from wp_s (M := m_Pl_painAlone) (lk := lk_Pl) (tb := tc_Pl_painAlone) (cu := [(5, [true, true, true, true, true])]) lk_Pl_ok (by decide +kernel) 8 true 0 _ _ _ h)
def tb_Pl_painAlone_5 : List En := [e0 5 (.iload 4) 2, e0 7 (.aload_n 1) 1, eF 8 (.getfield 22) 3 4 6, eT 11 (.if_icmp .ge 37) 3 48, e0 14 (.iload_n 2) 1, e0 15 (.iload 4) 2, eT 17 (.invokestatic 82) 3 13, eT 20 (.ifCond .eq 22) 3 42, e0 23 (.iload_n 3) 1, e0 24 (.aload_n 0) 1, e0 25 (.iload 4) 2, e0 27 (.aload_n 1) 1, eF 28 (.getfield 42) 3 4 1, e0 31 (.iload 4) 2, e0 33 .aaload 1, eF 34 (.getfield 86) 3 0 3, eT 37 (.invokevirtual 89) 3 9, e0 40 .iadd 1, e0 41 (.istore_n 3) 1, eC 42 (.iinc 4 1) 3 1, eT 45 (.goto (-40)) 3 5, e0 48 (.iload_n 3) 1, e0 49 .ireturn 1]
set_option maxRecDepth 100000 in
theorem b_Pl_painAlone_5 {G : Ge} (i1 : Nat) (x2 : Int32) (x3 : Int32) (x4 : Int32) {μ : Mm} {K : Int32 → Mm → Prop} (h :
  (if (μ.1 4 i1 6) ≤ x4 then
   K x3 μ
  else
   (CS G m_Cs_isIn [vi x2, vi x4] μ (RI fun v1 μ1 =>
    (if v1 = 0 then
     SS G m_Pl_painAlone 5 [vr 1 0, vr 4 i1, vi x2, vi x3, vi (x4 + 1)] [] μ1 (RI K)
    else
     (vp_in x4 5 ∧
      (CS G m_Pl_painFor [vr 1 0, vi x4, vi (μ1.1 0 (5 * i1 + x4.toNatClampNeg) 3)] μ1 (RI fun v2 μ2 =>
       SS G m_Pl_painAlone 5 [vr 1 0, vr 4 i1, vi x2, vi (x3 + v2), vi (x4 + 1)] [] μ2 (RI K))))))))) :
  SS G m_Pl_painAlone 5 [vr 1 0, vr 4 i1, vi x2, vi x3, vi x4] [] μ (RI K) :=
  wp_s (M := m_Pl_painAlone) (lk := lk_Pl) (tb := tb_Pl_painAlone_5) (cu := [(5, [true, true, true, true, true])]) lk_Pl_ok (by decide +kernel) 25 true _ _ _ _ h
def tc_Cs_saves : List En := [e0 0 (.iload_n 1) 1, eT 1 (.ifCond .lt 16) 3 17, e0 4 (.iload_n 1) 1, eC 5 (.iconst 1) 1 1, e0 6 (.aload_n 0) 1, eF 7 (.getfield 21) 3 6 2, eF 10 (.getfield 124) 3 4 6, e0 13 .ishl 1, eT 14 (.if_icmp .lt 5) 3 19, eC 17 (.iconst (-1)) 1 (-1), e0 18 .ireturn 1, e0 19 (.aload_n 0) 1, eF 20 (.getfield 39) 3 6 5, e0 23 (.aload_n 0) 1, eF 24 (.getfield 21) 3 6 2, eT 27 (.invokevirtual 198) 3 27, e0 30 (.aload_n 0) 1, eF 31 (.getfield 39) 3 6 5, e0 34 (.aload_n 0) 1, eF 35 (.getfield 21) 3 6 2, e0 38 (.iload_n 1) 1, eT 39 (.invokevirtual 215) 3 32, e0 42 (.istore_n 2) 1, e0 43 (.iload_n 2) 1, eC 44 (.ldc 193) 2 1000000, eT 46 (.if_icmp .lt 6) 3 52, eC 49 (.bipush (-9)) 2 (-9), e0 51 .ireturn 1, e0 52 (.iload_n 2) 1, e0 53 (.aload_n 0) 1, eF 54 (.getfield 39) 3 6 5, e0 57 (.aload_n 0) 1, eF 58 (.getfield 21) 3 6 2, e0 61 (.iload_n 1) 1, e0 62 (.aload_n 0) 1, eF 63 (.getfield 21) 3 6 2, e0 66 (.iload_n 1) 1, eT 67 (.invokevirtual 204) 3 29, eT 70 (.invokevirtual 207) 3 30, e0 73 .isub 1, e0 74 .ireturn 1]
set_option maxRecDepth 100000 in
theorem c_Cs_saves {G : Ge} (x1 : Int32) {μ : Mm} {K : Int32 → Mm → Prop} (h :
  (if x1 < 0 then
   K (-1) μ
  else
   (if x1 < (1 <<< ((μ.1 4 0 6) &&& 31)) then
    (CS G m_Pl_weighAll [vr 1 0, vr 4 0] μ (RV fun μ1 =>
     (CS G m_Pl_painAlone [vr 1 0, vr 4 0, vi x1] μ1 (RI fun v2 μ2 =>
      (if v2 < 1000000 then
       (CS G m_St_owedBy [vr 4 0, vi x1] μ2 (RI fun v3 μ3 =>
        (CS G m_Pl_painOfPool [vr 1 0, vr 4 0, vi x1, vi v3] μ3 (RI fun v4 μ4 =>
         K (v2 - v4) μ4))))
      else
       K (-9) μ2)))))
   else
    K (-1) μ))) :
  CS G m_Cs_saves [vr 6 0, vi x1] μ (RI K) :=
  CS_of pf_Cs_saves (Nat.le_of_ble_eq_true rfl) (show SS G m_Cs_saves 0 [vr 6 0, vi x1, un] [] μ (RI K) from wp_s (M := m_Cs_saves) (lk := lk_Cs) (tb := tc_Cs_saves) (cu := []) lk_Cs_ok (by decide +kernel) 40 true 0 _ _ _ h)
def tc_Pl_poolAllSets : List En := [e0 0 (.aload_n 0) 1, eF 1 (.getfield 19) 3 1 2, eC 4 (.iconst 0) 1 0, e0 5 .aaload 1, eT 6 (.invokestatic 35) 3 1, e0 9 (.iload_n 1) 1, eC 10 (.iconst 1) 1 1, e0 11 .isub 1, e0 12 (.istore_n 2) 1]
set_option maxRecDepth 100000 in
theorem c_Pl_poolAllSets {G : Ge} (x1 : Int32) {μ : Mm} {K : Mm → Prop} (h :
  (vp_in 0 32 ∧
   (CS G m_Pl_bearNothing [vr 16 (14 + (Int32.toNatClampNeg 0))] μ (RV fun μ1 =>
    SS G m_Pl_poolAllSets 13 [vr 1 0, vi x1, vi (x1 - 1), un, un] [] μ1 (RV K))))) :
  CS G m_Pl_poolAllSets [vr 1 0, vi x1] μ (RV K) :=
  CS_of pf_Pl_poolAllSets (Nat.le_of_ble_eq_true rfl) (show SS G m_Pl_poolAllSets 0 [vr 1 0, vi x1, un, un, un] [] μ (RV K) from wp_s (M := m_Pl_poolAllSets) (lk := lk_Pl) (tb := tc_Pl_poolAllSets) (cu := [(13, [true, true, true, false, false]), (26, [true, true, true, true, true])]) lk_Pl_ok (by decide +kernel) 13 true 0 _ _ _ h)
def tb_Pl_poolAllSets_13 : List En := [e0 13 (.iload_n 2) 1, eT 14 (.ifCond .lt 43) 3 57, e0 17 (.iload_n 1) 1, eC 18 (.iconst 1) 1 1, e0 19 .isub 1, e0 20 (.iload_n 2) 1, e0 21 .isub 1, e0 22 (.istore_n 3) 1, eC 23 (.iconst 0) 1 0, e0 24 (.istore 4) 2, e0 57 .return_ 1]
set_option maxRecDepth 100000 in
theorem b_Pl_poolAllSets_13 {G : Ge} (x1 : Int32) (x2 : Int32) {μ : Mm} {K : Mm → Prop} (h :
  (if x2 < 0 then
   K μ
  else
   SS G m_Pl_poolAllSets 26 [vr 1 0, vi x1, vi x2, vi ((x1 - 1) - x2), vi 0] [] μ (RV K))) :
  SS G m_Pl_poolAllSets 13 [vr 1 0, vi x1, vi x2, un, un] [] μ (RV K) :=
  wp_s (M := m_Pl_poolAllSets) (lk := lk_Pl) (tb := tb_Pl_poolAllSets_13) (cu := [(13, [true, true, true, false, false]), (26, [true, true, true, true, true])]) lk_Pl_ok (by decide +kernel) 14 true _ _ _ _ h
def tb_Pl_poolAllSets_26 : List En := [e0 26 (.iload 4) 2, eC 28 (.iconst 1) 1 1, e0 29 (.iload_n 3) 1, e0 30 .ishl 1, eT 31 (.if_icmp .ge 20) 3 51, e0 34 (.aload_n 0) 1, e0 35 (.iload 4) 2, e0 37 (.iload_n 2) 1, eC 38 (.iconst 1) 1 1, e0 39 .iadd 1, e0 40 .ishl 1, e0 41 (.iload_n 2) 1, eT 42 (.invokevirtual 92) 3 10, eC 45 (.iinc 4 1) 3 1, eT 48 (.goto (-22)) 3 26, eC 51 (.iinc 2 (-1)) 3 (-1), eT 54 (.goto (-41)) 3 13]
set_option maxRecDepth 100000 in
theorem b_Pl_poolAllSets_26 {G : Ge} (x1 : Int32) (x2 : Int32) (x3 : Int32) (x4 : Int32) {μ : Mm} {K : Mm → Prop} (h :
  (if (1 <<< (x3 &&& 31)) ≤ x4 then
   SS G m_Pl_poolAllSets 13 [vr 1 0, vi x1, vi (x2 + (-1)), un, un] [] μ (RV K)
  else
   (CS G m_Pl_join [vr 1 0, vi (x4 <<< ((x2 + 1) &&& 31)), vi x2] μ (RV fun μ1 =>
    SS G m_Pl_poolAllSets 26 [vr 1 0, vi x1, vi x2, vi x3, vi (x4 + 1)] [] μ1 (RV K))))) :
  SS G m_Pl_poolAllSets 26 [vr 1 0, vi x1, vi x2, vi x3, vi x4] [] μ (RV K) :=
  wp_s (M := m_Pl_poolAllSets) (lk := lk_Pl) (tb := tb_Pl_poolAllSets_26) (cu := [(13, [true, true, true, false, false]), (26, [true, true, true, true, true])]) lk_Pl_ok (by decide +kernel) 19 true _ _ _ _ h
def tc_Ji_bitCount : List En := [e0 0 (.iload_n 0) 1, e0 1 (.iload_n 0) 1, eC 2 (.iconst 1) 1 1, e0 3 .iushr 1, eC 4 (.ldc_w 265) 3 1431655765, e0 7 .iand 1, e0 8 .isub 1, e0 9 (.istore_n 0) 1, e0 10 (.iload_n 0) 1, eC 11 (.ldc_w 266) 3 858993459, e0 14 .iand 1, e0 15 (.iload_n 0) 1, eC 16 (.iconst 2) 1 2, e0 17 .iushr 1, eC 18 (.ldc_w 266) 3 858993459, e0 21 .iand 1, e0 22 .iadd 1, e0 23 (.istore_n 0) 1, e0 24 (.iload_n 0) 1, e0 25 (.iload_n 0) 1, eC 26 (.iconst 4) 1 4, e0 27 .iushr 1, e0 28 .iadd 1, eC 29 (.ldc_w 267) 3 252645135, e0 32 .iand 1, e0 33 (.istore_n 0) 1, e0 34 (.iload_n 0) 1, e0 35 (.iload_n 0) 1, eC 36 (.bipush 8) 2 8, e0 38 .iushr 1, e0 39 .iadd 1, e0 40 (.istore_n 0) 1, e0 41 (.iload_n 0) 1, e0 42 (.iload_n 0) 1, eC 43 (.bipush 16) 2 16, e0 45 .iushr 1, e0 46 .iadd 1, e0 47 (.istore_n 0) 1, e0 48 (.iload_n 0) 1, eC 49 (.bipush 63) 2 63, e0 51 .iand 1, e0 52 .ireturn 1]
set_option maxRecDepth 100000 in
theorem c_Ji_bitCount {G : Ge} (x0 : Int32) {μ : Mm} {K : Int32 → Mm → Prop} (h :
  K ((((((((x0 - ((Int32.toUInt32 x0 >>> (Int32.toUInt32 1 &&& Int32.toUInt32 31)).toInt32 &&& 1431655765)) &&& 858993459) + ((Int32.toUInt32 (x0 - ((Int32.toUInt32 x0 >>> (Int32.toUInt32 1 &&& Int32.toUInt32 31)).toInt32 &&& 1431655765)) >>> (Int32.toUInt32 2 &&& Int32.toUInt32 31)).toInt32 &&& 858993459)) + (Int32.toUInt32 (((x0 - ((Int32.toUInt32 x0 >>> (Int32.toUInt32 1 &&& Int32.toUInt32 31)).toInt32 &&& 1431655765)) &&& 858993459) + ((Int32.toUInt32 (x0 - ((Int32.toUInt32 x0 >>> (Int32.toUInt32 1 &&& Int32.toUInt32 31)).toInt32 &&& 1431655765)) >>> (Int32.toUInt32 2 &&& Int32.toUInt32 31)).toInt32 &&& 858993459)) >>> (Int32.toUInt32 4 &&& Int32.toUInt32 31)).toInt32) &&& 252645135) + (Int32.toUInt32 (((((x0 - ((Int32.toUInt32 x0 >>> (Int32.toUInt32 1 &&& Int32.toUInt32 31)).toInt32 &&& 1431655765)) &&& 858993459) + ((Int32.toUInt32 (x0 - ((Int32.toUInt32 x0 >>> (Int32.toUInt32 1 &&& Int32.toUInt32 31)).toInt32 &&& 1431655765)) >>> (Int32.toUInt32 2 &&& Int32.toUInt32 31)).toInt32 &&& 858993459)) + (Int32.toUInt32 (((x0 - ((Int32.toUInt32 x0 >>> (Int32.toUInt32 1 &&& Int32.toUInt32 31)).toInt32 &&& 1431655765)) &&& 858993459) + ((Int32.toUInt32 (x0 - ((Int32.toUInt32 x0 >>> (Int32.toUInt32 1 &&& Int32.toUInt32 31)).toInt32 &&& 1431655765)) >>> (Int32.toUInt32 2 &&& Int32.toUInt32 31)).toInt32 &&& 858993459)) >>> (Int32.toUInt32 4 &&& Int32.toUInt32 31)).toInt32) &&& 252645135) >>> (Int32.toUInt32 8 &&& Int32.toUInt32 31)).toInt32) + (Int32.toUInt32 ((((((x0 - ((Int32.toUInt32 x0 >>> (Int32.toUInt32 1 &&& Int32.toUInt32 31)).toInt32 &&& 1431655765)) &&& 858993459) + ((Int32.toUInt32 (x0 - ((Int32.toUInt32 x0 >>> (Int32.toUInt32 1 &&& Int32.toUInt32 31)).toInt32 &&& 1431655765)) >>> (Int32.toUInt32 2 &&& Int32.toUInt32 31)).toInt32 &&& 858993459)) + (Int32.toUInt32 (((x0 - ((Int32.toUInt32 x0 >>> (Int32.toUInt32 1 &&& Int32.toUInt32 31)).toInt32 &&& 1431655765)) &&& 858993459) + ((Int32.toUInt32 (x0 - ((Int32.toUInt32 x0 >>> (Int32.toUInt32 1 &&& Int32.toUInt32 31)).toInt32 &&& 1431655765)) >>> (Int32.toUInt32 2 &&& Int32.toUInt32 31)).toInt32 &&& 858993459)) >>> (Int32.toUInt32 4 &&& Int32.toUInt32 31)).toInt32) &&& 252645135) + (Int32.toUInt32 (((((x0 - ((Int32.toUInt32 x0 >>> (Int32.toUInt32 1 &&& Int32.toUInt32 31)).toInt32 &&& 1431655765)) &&& 858993459) + ((Int32.toUInt32 (x0 - ((Int32.toUInt32 x0 >>> (Int32.toUInt32 1 &&& Int32.toUInt32 31)).toInt32 &&& 1431655765)) >>> (Int32.toUInt32 2 &&& Int32.toUInt32 31)).toInt32 &&& 858993459)) + (Int32.toUInt32 (((x0 - ((Int32.toUInt32 x0 >>> (Int32.toUInt32 1 &&& Int32.toUInt32 31)).toInt32 &&& 1431655765)) &&& 858993459) + ((Int32.toUInt32 (x0 - ((Int32.toUInt32 x0 >>> (Int32.toUInt32 1 &&& Int32.toUInt32 31)).toInt32 &&& 1431655765)) >>> (Int32.toUInt32 2 &&& Int32.toUInt32 31)).toInt32 &&& 858993459)) >>> (Int32.toUInt32 4 &&& Int32.toUInt32 31)).toInt32) &&& 252645135) >>> (Int32.toUInt32 8 &&& Int32.toUInt32 31)).toInt32) >>> (Int32.toUInt32 16 &&& Int32.toUInt32 31)).toInt32) &&& 63) μ) :
  CS G m_Ji_bitCount [vi x0] μ (RI K) :=
  CS_of pf_Ji_bitCount (Nat.le_of_ble_eq_true rfl) (show SS G m_Ji_bitCount 0 [vi x0] [] μ (RI K) from wp_s (M := m_Ji_bitCount) (lk := lk_Ji) (tb := tc_Ji_bitCount) (cu := []) lk_Ji_ok (by decide +kernel) 45 true 0 _ _ _ h)
def tc_Cs_savedBy : List En := [e0 0 (.aload_n 0) 1, eF 1 (.getfield 39) 3 6 5, e0 4 (.aload_n 0) 1, eF 5 (.getfield 21) 3 6 2, e0 8 (.iload_n 1) 1, eT 9 (.invokevirtual 215) 3 32, e0 12 (.aload_n 0) 1, eF 13 (.getfield 39) 3 6 5, e0 16 (.iload_n 1) 1, e0 17 (.aload_n 0) 1, eF 18 (.getfield 21) 3 6 2, e0 21 (.iload_n 1) 1, eT 22 (.invokevirtual 204) 3 29, eT 25 (.invokevirtual 309) 3 50, e0 28 .isub 1, e0 29 .ireturn 1]
set_option maxRecDepth 100000 in
theorem c_Cs_savedBy {G : Ge} (x1 : Int32) {μ : Mm} {K : Int32 → Mm → Prop} (h :
  (CS G m_Pl_painAlone [vr 1 0, vr 4 0, vi x1] μ (RI fun v1 μ1 =>
   (CS G m_St_owedBy [vr 4 0, vi x1] μ1 (RI fun v2 μ2 =>
    (CS G m_Pl_pooledPain [vr 1 0, vi x1, vi v2] μ2 (RI fun v3 μ3 =>
     K (v1 - v3) μ3))))))) :
  CS G m_Cs_savedBy [vr 6 0, vi x1] μ (RI K) :=
  CS_of pf_Cs_savedBy (Nat.le_of_ble_eq_true rfl) (show SS G m_Cs_savedBy 0 [vr 6 0, vi x1] [] μ (RI K) from wp_s (M := m_Cs_savedBy) (lk := lk_Cs) (tb := tc_Cs_savedBy) (cu := []) lk_Cs_ok (by decide +kernel) 19 true 0 _ _ _ h)
def tc_Cs_tell : List En := [e0 0 (.lload_n 1) 1, e0 1 (.lstore 5) 2, e0 3 (.lload_n 3) 1, e0 4 (.lstore 7) 2, eC 6 (.iconst 0) 1 0, e0 7 (.istore 9) 2]
set_option maxRecDepth 100000 in
theorem c_Cs_tell {G : Ge} (l1 : Int64) (l3 : Int64) {μ : Mm} {K : Int32 → Mm → Prop} (h :
  SS G m_Cs_tell 9 [vr 6 0, vl l1, un, vl l3, un, vl l1, un, vl l3, un, vi 0, un, un] [] μ (RI K)) :
  CS G m_Cs_tell [vr 6 0, vl l1, vl l3] μ (RI K) :=
  CS_of pf_Cs_tell (Nat.le_of_ble_eq_true rfl) (show SS G m_Cs_tell 0 [vr 6 0, vl l1, un, vl l3, un, un, un, un, un, un, un, un] [] μ (RI K) from wp_s (M := m_Cs_tell) (lk := lk_Cs) (tb := tc_Cs_tell) (cu := [(9, [true, true, false, true, false, true, false, true, false, true, false, false])]) lk_Cs_ok (by decide +kernel) 10 true 0 _ _ _ h)
def tb_Cs_tell_9 : List En := [e0 9 (.iload 9) 2, eC 11 (.sipush 200) 3 200, eT 14 (.if_icmp .ge 31) 3 45, e0 17 (.lload 7) 2, eD 19 (.lconst 0) 1 0, e0 20 .lcmp 1, eT 21 (.ifCond .eq 24) 3 45, e0 24 (.lload 5) 2, e0 26 (.lload 7) 2, e0 28 .lrem 1, e0 29 (.lstore 10) 2, e0 31 (.lload 7) 2, e0 33 (.lstore 5) 2, e0 35 (.lload 10) 2, e0 37 (.lstore 7) 2, eC 39 (.iinc 9 1) 3 1, eT 42 (.goto (-33)) 3 9, e0 45 (.lload 5) 2, eD 47 (.lconst 1) 1 1, e0 48 .lcmp 1, eT 49 (.ifCond .ge 7) 3 56, eD 52 (.lconst 1) 1 1, eT 53 (.goto 5) 3 58, e0 56 (.lload 5) 2, e0 58 (.lstore 9) 2, e0 60 (.aload_n 0) 1, e0 61 (.lload_n 1) 1, e0 62 (.lload 9) 2, e0 64 .ldiv 1, eF 65 (.putfield 61) 3 6 10, e0 68 (.aload_n 0) 1, e0 69 (.lload_n 3) 1, e0 70 (.lload 9) 2, e0 72 .ldiv 1, eF 73 (.putfield 65) 3 6 11, eC 76 (.iconst 1) 1 1, e0 77 .ireturn 1]
set_option maxRecDepth 100000 in
theorem b_Cs_tell_9 {G : Ge} (l1 : Int64) (l3 : Int64) (l5 : Int64) (l7 : Int64) (x9 : Int32) {μ : Mm} {K : Int32 → Mm → Prop} (h :
  (if (200 : Int32) ≤ x9 then
   (if 0 ≤ (lg_cmp l5 1) then
    (¬ (l5 : Int64) = 0 ∧
     (¬ (l5 : Int64) = 0 ∧
      K 1 (wL (wL μ 6 0 10 (l1 / l5)) 6 0 11 (l3 / l5))))
   else
    (¬ (1 : Int64) = 0 ∧
     (¬ (1 : Int64) = 0 ∧
      K 1 (wL (wL μ 6 0 10 (l1 / 1)) 6 0 11 (l3 / 1)))))
  else
   (if (lg_cmp l7 0) = 0 then
    (if 0 ≤ (lg_cmp l5 1) then
     (¬ (l5 : Int64) = 0 ∧
      (¬ (l5 : Int64) = 0 ∧
       K 1 (wL (wL μ 6 0 10 (l1 / l5)) 6 0 11 (l3 / l5))))
    else
     (¬ (1 : Int64) = 0 ∧
      (¬ (1 : Int64) = 0 ∧
       K 1 (wL (wL μ 6 0 10 (l1 / 1)) 6 0 11 (l3 / 1)))))
   else
    (¬ (l7 : Int64) = 0 ∧
     SS G m_Cs_tell 9 [vr 6 0, vl l1, un, vl l3, un, vl l7, un, vl (l5 - l5 / l7 * l7), un, vi (x9 + 1), un, un] [] μ (RI K))))) :
  SS G m_Cs_tell 9 [vr 6 0, vl l1, un, vl l3, un, vl l5, un, vl l7, un, vi x9, un, un] [] μ (RI K) :=
  wp_s (M := m_Cs_tell) (lk := lk_Cs) (tb := tb_Cs_tell_9) (cu := [(9, [true, true, false, true, false, true, false, true, false, true, false, false])]) lk_Cs_ok (by decide +kernel) 29 true _ _ _ _ h
def tc_Cs_part : List En := [e0 0 (.aload_n 0) 1, e0 1 (.iload_n 1) 1, eT 2 (.invokevirtual 125) 3 11, eT 5 (.ifCond .eq 5) 3 10, eC 8 (.iconst (-1)) 1 (-1), e0 9 .ireturn 1, e0 10 (.aload_n 0) 1, eF 11 (.getfield 39) 3 6 5, e0 14 (.aload_n 0) 1, eF 15 (.getfield 21) 3 6 2, eT 18 (.invokevirtual 198) 3 27, e0 21 (.aload_n 0) 1, eF 22 (.getfield 39) 3 6 5, e0 25 (.aload_n 0) 1, eF 26 (.getfield 21) 3 6 2, eC 29 (.iconst 1) 1 1, e0 30 (.aload_n 0) 1, eF 31 (.getfield 21) 3 6 2, eF 34 (.getfield 124) 3 4 6, e0 37 .ishl 1, eC 38 (.iconst 1) 1 1, e0 39 .isub 1, eT 40 (.invokevirtual 215) 3 32, eC 43 (.ldc 193) 2 1000000, eT 45 (.if_icmp .lt 6) 3 51, eC 48 (.bipush (-9)) 2 (-9), e0 50 .ireturn 1, e0 51 (.aload_n 0) 1, eF 52 (.getfield 39) 3 6 5, e0 55 (.aload_n 0) 1, eF 56 (.getfield 21) 3 6 2, eF 59 (.getfield 124) 3 4 6, eT 62 (.invokevirtual 219) 3 33, eD 65 (.lconst 0) 1 0, e0 66 (.lstore_n 2) 1, eC 67 (.iconst 0) 1 0, e0 68 (.istore 4) 2]
set_option maxRecDepth 100000 in
theorem c_Cs_part {G : Ge} (x1 : Int32) {μ : Mm} {K : Int32 → Mm → Prop} (h :
  (CS G m_Cs_noHouse [vr 6 0, vi x1] μ (RI fun v1 μ1 =>
   (if v1 = 0 then
    (CS G m_Pl_weighAll [vr 1 0, vr 4 0] μ1 (RV fun μ2 =>
     (CS G m_Pl_painAlone [vr 1 0, vr 4 0, vi ((1 <<< ((μ2.1 4 0 6) &&& 31)) - 1)] μ2 (RI fun v3 μ3 =>
      (if v3 < 1000000 then
       (CS G m_Pl_poolAllSets [vr 1 0, vi (μ3.1 4 0 6)] μ3 (RV fun μ4 =>
        SS G m_Cs_part 70 [vr 6 0, vi x1, vl 0, un, vi 0, un, un] [] μ4 (RI K)))
      else
       K (-9) μ3)))))
   else
    K (-1) μ1)))) :
  CS G m_Cs_part [vr 6 0, vi x1] μ (RI K) :=
  CS_of pf_Cs_part (Nat.le_of_ble_eq_true rfl) (show SS G m_Cs_part 0 [vr 6 0, vi x1, un, un, un, un, un] [] μ (RI K) from wp_s (M := m_Cs_part) (lk := lk_Cs) (tb := tc_Cs_part) (cu := [(70, [true, true, true, false, true, false, false])]) lk_Cs_ok (by decide +kernel) 37 true 0 _ _ _ h)
def tb_Cs_part_70 : List En := [e0 70 (.iload 4) 2, eC 72 (.iconst 1) 1 1, e0 73 (.aload_n 0) 1, eF 74 (.getfield 21) 3 6 2, eF 77 (.getfield 124) 3 4 6, e0 80 .ishl 1, eT 81 (.if_icmp .ge 75) 3 156, e0 84 (.iload 4) 2, e0 86 (.iload_n 1) 1, eT 87 (.invokestatic 222) 3 34, eT 90 (.ifCond .ne 60) 3 150, e0 93 (.iload 4) 2, eT 95 (.invokestatic 225) 3 35, e0 98 (.istore 5) 2, eT 100 (.getstatic 230) 3 56, e0 103 (.iload 5) 2, e0 105 .iaload 1, eT 106 (.getstatic 230) 3 56, e0 109 (.aload_n 0) 1, eF 110 (.getfield 21) 3 6 2, eF 113 (.getfield 124) 3 4 6, eC 116 (.iconst 1) 1 1, e0 117 .isub 1, e0 118 (.iload 5) 2, e0 120 .isub 1, e0 121 .iaload 1, e0 122 .imul 1, e0 123 (.istore 6) 2, e0 125 (.lload_n 2) 1, e0 126 (.iload 6) 2, e0 128 .i2l 1, e0 129 (.aload_n 0) 1, e0 130 (.iload 4) 2, eC 132 (.iconst 1) 1 1, e0 133 (.iload_n 1) 1, e0 134 .ishl 1, e0 135 .ior 1, eT 136 (.invokevirtual 233) 3 36, e0 139 (.aload_n 0) 1, e0 140 (.iload 4) 2, eT 142 (.invokevirtual 233) 3 36, e0 145 .isub 1, e0 146 .i2l 1, e0 147 .lmul 1, e0 148 .ladd 1, e0 149 (.lstore_n 2) 1, eC 150 (.iinc 4 1) 3 1, eT 153 (.goto (-83)) 3 70, e0 156 (.aload_n 0) 1, e0 157 (.lload_n 2) 1, eT 158 (.getstatic 230) 3 56, e0 161 (.aload_n 0) 1, eF 162 (.getfield 21) 3 6 2, eF 165 (.getfield 124) 3 4 6, e0 168 .iaload 1, e0 169 .i2l 1, eT 170 (.invokevirtual 236) 3 37, e0 173 .ireturn 1]
set_option maxRecDepth 100000 in
theorem b_Cs_part_70 {G : Ge} (x1 : Int32) (l2 : Int64) (x4 : Int32) {μ : Mm} {K : Int32 → Mm → Prop} (h :
  (if (1 <<< ((μ.1 4 0 6) &&& 31)) ≤ x4 then
   (vp_in (μ.1 4 0 6) 6 ∧
    (CS G m_Cs_tell [vr 6 0, vl l2, vl (Int32.toInt64 (rom 56 (Int32.toNatClampNeg (μ.1 4 0 6))))] μ (RI fun v1 μ1 =>
     K v1 μ1)))
  else
   (CS G m_Cs_isIn [vi x4, vi x1] μ (RI fun v2 μ2 =>
    (if v2 = 0 then
     (CS G m_Ji_bitCount [vi x4] μ2 (RI fun v3 μ3 =>
      (vp_in v3 6 ∧
       (vp_in (((μ3.1 4 0 6) - 1) - v3) 6 ∧
        (CS G m_Cs_savedBy [vr 6 0, vi (x4 ||| (1 <<< (x1 &&& 31)))] μ3 (RI fun v4 μ4 =>
         (CS G m_Cs_savedBy [vr 6 0, vi x4] μ4 (RI fun v5 μ5 =>
          SS G m_Cs_part 70 [vr 6 0, vi x1, vl (l2 + ((Int32.toInt64 ((rom 56 v3.toNatClampNeg) * (rom 56 (Int32.toNatClampNeg (((μ3.1 4 0 6) - 1) - v3))))) * (Int32.toInt64 (v4 - v5)))), un, vi (x4 + 1), un, un] [] μ5 (RI K)))))))))
    else
     SS G m_Cs_part 70 [vr 6 0, vi x1, vl l2, un, vi (x4 + 1), un, un] [] μ2 (RI K)))))) :
  SS G m_Cs_part 70 [vr 6 0, vi x1, vl l2, un, vi x4, un, un] [] μ (RI K) :=
  wp_s (M := m_Cs_part) (lk := lk_Cs) (tb := tb_Cs_part_70) (cu := [(70, [true, true, true, false, true, false, false])]) lk_Cs_ok (by decide +kernel) 52 true _ _ _ _ h
def tc_Ja_fillL : List En := [eC 0 (.iconst 0) 1 0, e0 1 (.istore_n 3) 1, e0 2 (.aload_n 0) 1, e0 3 .arraylength 1, e0 4 (.istore 4) 2]
set_option maxRecDepth 100000 in
theorem c_Ja_fillL {G : Ge} (l1 : Int64) {μ : Mm} {K : Mm → Prop} (h :
  SS G m_Ja_fillL 6 [vr 24 0, vl l1, un, vi 0, vi (nI 73)] [] μ (RV K)) :
  CS G m_Ja_fillL [vr 24 0, vl l1] μ (RV K) :=
  CS_of pf_Ja_fillL (Nat.le_of_ble_eq_true rfl) (show SS G m_Ja_fillL 0 [vr 24 0, vl l1, un, un, un] [] μ (RV K) from wp_s (M := m_Ja_fillL) (lk := lk_Ja) (tb := tc_Ja_fillL) (cu := [(6, [true, true, false, true, true])]) lk_Ja_ok (by decide +kernel) 9 true 0 _ _ _ h)
def tb_Ja_fillL_6 : List En := [e0 6 (.iload_n 3) 1, e0 7 (.iload 4) 2, eT 9 (.if_icmp .ge 13) 3 22, e0 12 (.aload_n 0) 1, e0 13 (.iload_n 3) 1, e0 14 (.lload_n 1) 1, e0 15 .lastore 1, eC 16 (.iinc 3 1) 3 1, eT 19 (.goto (-13)) 3 6, e0 22 .return_ 1]
set_option maxRecDepth 100000 in
theorem b_Ja_fillL_6 {G : Ge} (l1 : Int64) (x3 : Int32) (x4 : Int32) {μ : Mm} {K : Mm → Prop} (h :
  (if x4 ≤ x3 then
   K μ
  else
   (vp_in x3 73 ∧
    SS G m_Ja_fillL 6 [vr 24 0, vl l1, un, vi (x3 + 1), vi x4] [] (wL μ 24 0 x3.toNatClampNeg l1) (RV K)))) :
  SS G m_Ja_fillL 6 [vr 24 0, vl l1, un, vi x3, vi x4] [] μ (RV K) :=
  wp_s (M := m_Ja_fillL) (lk := lk_Ja) (tb := tb_Ja_fillL_6) (cu := [(6, [true, true, false, true, true])]) lk_Ja_ok (by decide +kernel) 13 true _ _ _ _ h
def tc_Wa_begin : List En := [e0 0 (.aload_n 0) 1, eF 1 (.getfield 9) 3 5 0, eD 4 (.lconst 0) 1 0, eT 5 (.invokestatic 18) 3 0, e0 8 (.aload_n 0) 1, eF 9 (.getfield 9) 3 5 0, eC 12 (.iconst 0) 1 0, eD 13 (.lconst 1) 1 1, e0 14 .lastore 1, e0 15 .return_ 1]
set_option maxRecDepth 100000 in
theorem c_Wa_begin {G : Ge}  {μ : Mm} {K : Mm → Prop} (h :
  (CS G m_Ja_fillL [vr 24 0, vl 0] μ (RV fun μ1 =>
   (vp_in 0 73 ∧
    K (wL μ1 24 0 (Int32.toNatClampNeg 0) 1))))) :
  CS G m_Wa_begin [vr 5 0] μ (RV K) :=
  CS_of pf_Wa_begin (Nat.le_of_ble_eq_true rfl) (show SS G m_Wa_begin 0 [vr 5 0] [] μ (RV K) from wp_s (M := m_Wa_begin) (lk := lk_Wa) (tb := tc_Wa_begin) (cu := []) lk_Wa_ok (by decide +kernel) 13 true 0 _ _ _ h)
def tc_Wa_spread : List En := [e0 0 (.aload_n 0) 1, eF 1 (.getfield 9) 3 5 0, eC 4 (.iconst 0) 1 0, e0 5 (.aload_n 0) 1, eF 6 (.getfield 15) 3 5 1, eC 9 (.iconst 0) 1 0, e0 10 (.aload_n 0) 1, eF 11 (.getfield 9) 3 5 0, e0 14 .arraylength 1, eT 15 (.invokestatic 24) 3 1, e0 18 (.aload_n 0) 1, eF 19 (.getfield 9) 3 5 0, eD 22 (.lconst 0) 1 0, eT 23 (.invokestatic 18) 3 0, eC 26 (.iconst 0) 1 0, e0 27 (.istore_n 3) 1]
set_option maxRecDepth 100000 in
theorem c_Wa_spread {G : Ge} (i1 : Nat) (x2 : Int32) {μ : Mm} {K : Mm → Prop} (h :
  ((¬ (0 : Int32) < 0 ∧ ¬ (0 : Int32) < 0 ∧ ¬ (nI 73) < 0 ∧ Int32.toNatClampNeg 0 + Int32.toNatClampNeg (nI 73) ≤ 73 ∧ Int32.toNatClampNeg 0 + Int32.toNatClampNeg (nI 73) ≤ 73) ∧
   (CS G m_Ja_fillL [vr 24 0, vl 0] (cL μ 24 0 (Int32.toNatClampNeg 0) 25 0 (Int32.toNatClampNeg 0) (Int32.toNatClampNeg (nI 73))) (RV fun μ1 =>
    SS G m_Wa_spread 28 [vr 5 0, vr 0 i1, vi x2, vi 0, un, un] [] μ1 (RV K))))) :
  CS G m_Wa_spread [vr 5 0, vr 0 i1, vi x2] μ (RV K) :=
  CS_of pf_Wa_spread (Nat.le_of_ble_eq_true rfl) (show SS G m_Wa_spread 0 [vr 5 0, vr 0 i1, vi x2, un, un, un] [] μ (RV K) from wp_s (M := m_Wa_spread) (lk := lk_Wa) (tb := tc_Wa_spread) (cu := [(28, [true, true, true, true, false, false]), (44, [true, true, true, true, true, true])]) lk_Wa_ok (by decide +kernel) 20 true 0 _ _ _ h)
def tb_Wa_spread_28 : List En := [e0 28 (.iload_n 3) 1, e0 29 (.iload_n 2) 1, eT 30 (.if_icmp .gt 56) 3 86, e0 33 (.aload_n 1) 1, e0 34 (.iload_n 3) 1, eT 35 (.invokevirtual 30) 3 2, e0 38 (.istore 4) 2, e0 40 (.iload 4) 2, e0 42 (.istore 5) 2, e0 86 .return_ 1]
set_option maxRecDepth 100000 in
theorem b_Wa_spread_28 {G : Ge} (i1 : Nat) (x2 : Int32) (x3 : Int32) {μ : Mm} {K : Mm → Prop} (h :
  (if x2 < x3 then
   K μ
  else
   (CS G m_Ho_canAt [vr 0 i1, vi x3] μ (RI fun v1 μ1 =>
    SS G m_Wa_spread 44 [vr 5 0, vr 0 i1, vi x2, vi x3, vi v1, vi v1] [] μ1 (RV K))))) :
  SS G m_Wa_spread 28 [vr 5 0, vr 0 i1, vi x2, vi x3, un, un] [] μ (RV K) :=
  wp_s (M := m_Wa_spread) (lk := lk_Wa) (tb := tb_Wa_spread_28) (cu := [(28, [true, true, true, true, false, false]), (44, [true, true, true, true, true, true])]) lk_Wa_ok (by decide +kernel) 13 true _ _ _ _ h
def tb_Wa_spread_44 : List En := [e0 44 (.iload 5) 2, e0 46 (.aload_n 0) 1, eF 47 (.getfield 9) 3 5 0, e0 50 .arraylength 1, eT 51 (.if_icmp .ge 29) 3 80, e0 54 (.aload_n 0) 1, eF 55 (.getfield 9) 3 5 0, e0 58 (.iload 5) 2, e0 60 .dup2 1, e0 61 .laload 1, e0 62 (.aload_n 0) 1, eF 63 (.getfield 15) 3 5 1, e0 66 (.iload 5) 2, e0 68 (.iload 4) 2, e0 70 .isub 1, e0 71 .laload 1, e0 72 .ladd 1, e0 73 .lastore 1, eC 74 (.iinc 5 1) 3 1, eT 77 (.goto (-33)) 3 44, eC 80 (.iinc 3 1) 3 1, eT 83 (.goto (-55)) 3 28]
set_option maxRecDepth 100000 in
theorem b_Wa_spread_44 {G : Ge} (i1 : Nat) (x2 : Int32) (x3 : Int32) (x4 : Int32) (x5 : Int32) {μ : Mm} {K : Mm → Prop} (h :
  (if (nI 73) ≤ x5 then
   SS G m_Wa_spread 28 [vr 5 0, vr 0 i1, vi x2, vi (x3 + 1), un, un] [] μ (RV K)
  else
   (vp_in x5 73 ∧
    (vp_in (x5 - x4) 73 ∧
     (vp_in x5 73 ∧
      SS G m_Wa_spread 44 [vr 5 0, vr 0 i1, vi x2, vi x3, vi x4, vi (x5 + 1)] [] (wL μ 24 0 x5.toNatClampNeg ((μ.2 24 0 x5.toNatClampNeg) + (μ.2 25 0 (Int32.toNatClampNeg (x5 - x4))))) (RV K)))))) :
  SS G m_Wa_spread 44 [vr 5 0, vr 0 i1, vi x2, vi x3, vi x4, vi x5] [] μ (RV K) :=
  wp_s (M := m_Wa_spread) (lk := lk_Wa) (tb := tb_Wa_spread_44) (cu := [(28, [true, true, true, true, false, false]), (44, [true, true, true, true, true, true])]) lk_Wa_ok (by decide +kernel) 24 true _ _ _ _ h
def tc_Cs_sureAt : List En := [eC 0 (.iconst 0) 1 0, e0 1 (.istore 4) 2, eC 3 (.iconst 0) 1 0, e0 4 (.istore 5) 2]
set_option maxRecDepth 100000 in
theorem c_Cs_sureAt {G : Ge} (x1 : Int32) (x2 : Int32) (x3 : Int32) {μ : Mm} {K : Int32 → Mm → Prop} (h :
  SS G m_Cs_sureAt 6 [vr 6 0, vi x1, vi x2, vi x3, vi 0, vi 0] [] μ (RI K)) :
  CS G m_Cs_sureAt [vr 6 0, vi x1, vi x2, vi x3] μ (RI K) :=
  CS_of pf_Cs_sureAt (Nat.le_of_ble_eq_true rfl) (show SS G m_Cs_sureAt 0 [vr 6 0, vi x1, vi x2, vi x3, un, un] [] μ (RI K) from wp_s (M := m_Cs_sureAt) (lk := lk_Cs) (tb := tc_Cs_sureAt) (cu := [(6, [true, true, true, true, true, true])]) lk_Cs_ok (by decide +kernel) 8 true 0 _ _ _ h)
def tb_Cs_sureAt_6 : List En := [e0 6 (.iload 5) 2, e0 8 (.aload_n 0) 1, eF 9 (.getfield 21) 3 6 2, eF 12 (.getfield 124) 3 4 6, eT 15 (.if_icmp .ge 38) 3 53, e0 18 (.iload_n 2) 1, e0 19 (.iload_n 3) 1, e0 20 (.aload_n 0) 1, eF 21 (.getfield 21) 3 6 2, eF 24 (.getfield 137) 3 4 1, e0 27 (.iload 5) 2, e0 29 .aaload 1, e0 30 (.iload_n 1) 1, eT 31 (.invokevirtual 242) 3 39, e0 34 .isub 1, eT 35 (.if_icmp .le 12) 3 47, e0 38 (.iload 4) 2, eC 40 (.iconst 1) 1 1, e0 41 (.iload 5) 2, e0 43 .ishl 1, e0 44 .ior 1, e0 45 (.istore 4) 2, eC 47 (.iinc 5 1) 3 1, eT 50 (.goto (-44)) 3 6, e0 53 (.iload 4) 2, e0 55 .ireturn 1]
set_option maxRecDepth 100000 in
theorem b_Cs_sureAt_6 {G : Ge} (x1 : Int32) (x2 : Int32) (x3 : Int32) (x4 : Int32) (x5 : Int32) {μ : Mm} {K : Int32 → Mm → Prop} (h :
  (if (μ.1 4 0 6) ≤ x5 then
   K x4 μ
  else
   (vp_in x5 5 ∧
    (CS G m_Ho_canAt [vr 0 (5 * 0 + x5.toNatClampNeg), vi x1] μ (RI fun v1 μ1 =>
     (if x2 ≤ (x3 - v1) then
      SS G m_Cs_sureAt 6 [vr 6 0, vi x1, vi x2, vi x3, vi x4, vi (x5 + 1)] [] μ1 (RI K)
     else
      SS G m_Cs_sureAt 6 [vr 6 0, vi x1, vi x2, vi x3, vi (x4 ||| (1 <<< (x5 &&& 31))), vi (x5 + 1)] [] μ1 (RI K))))))) :
  SS G m_Cs_sureAt 6 [vr 6 0, vi x1, vi x2, vi x3, vi x4, vi x5] [] μ (RI K) :=
  wp_s (M := m_Cs_sureAt) (lk := lk_Cs) (tb := tb_Cs_sureAt_6) (cu := [(6, [true, true, true, true, true, true])]) lk_Cs_ok (by decide +kernel) 28 true _ _ _ _ h
def tc_Cs_ice : List En := [e0 0 (.aload_n 0) 1, e0 1 (.iload_n 1) 1, eT 2 (.invokevirtual 131) 3 13, eT 5 (.ifCond .ne 13) 3 18, e0 8 (.iload_n 2) 1, eT 9 (.ifCond .lt 9) 3 18, e0 12 (.iload_n 2) 1, eC 13 (.bipush 45) 2 45, eT 15 (.if_icmp .le 5) 3 20, eC 18 (.iconst (-1)) 1 (-1), e0 19 .ireturn 1, e0 20 (.aload_n 0) 1, eF 21 (.getfield 46) 3 6 6, eT 24 (.invokevirtual 240) 3 38, eC 27 (.iconst 0) 1 0, e0 28 (.istore_n 3) 1, eC 29 (.iconst 0) 1 0, e0 30 (.istore 4) 2]
set_option maxRecDepth 100000 in
theorem c_Cs_ice {G : Ge} (x1 : Int32) (x2 : Int32) {μ : Mm} {K : Int32 → Mm → Prop} (h :
  (CS G m_Cs_noNight [vr 6 0, vi x1] μ (RI fun v1 μ1 =>
   (if v1 = 0 then
    (if x2 < 0 then
     K (-1) μ1
    else
     (if x2 ≤ 45 then
      (CS G m_Wa_begin [vr 5 0] μ1 (RV fun μ2 =>
       SS G m_Cs_ice 32 [vr 6 0, vi x1, vi x2, vi 0, vi 0, un] [] μ2 (RI K)))
     else
      K (-1) μ1))
   else
    K (-1) μ1)))) :
  CS G m_Cs_ice [vr 6 0, vi x1, vi x2] μ (RI K) :=
  CS_of pf_Cs_ice (Nat.le_of_ble_eq_true rfl) (show SS G m_Cs_ice 0 [vr 6 0, vi x1, vi x2, un, un, un] [] μ (RI K) from wp_s (M := m_Cs_ice) (lk := lk_Cs) (tb := tc_Cs_ice) (cu := [(32, [true, true, true, true, true, false])]) lk_Cs_ok (by decide +kernel) 20 true 0 _ _ _ h)
def tb_Cs_ice_32 : List En := [e0 32 (.iload 4) 2, e0 34 (.aload_n 0) 1, eF 35 (.getfield 21) 3 6 2, eF 38 (.getfield 124) 3 4 6, eT 41 (.if_icmp .ge 57) 3 98, e0 44 (.aload_n 0) 1, eF 45 (.getfield 21) 3 6 2, eF 48 (.getfield 137) 3 4 1, e0 51 (.iload 4) 2, e0 53 .aaload 1, e0 54 (.aload_n 0) 1, eF 55 (.getfield 21) 3 6 2, eF 58 (.getfield 134) 3 4 0, e0 61 (.iload_n 1) 1, e0 62 .iaload 1, eT 63 (.invokevirtual 242) 3 39, e0 66 (.istore 5) 2, e0 68 (.aload_n 0) 1, eF 69 (.getfield 46) 3 6 6, e0 72 (.aload_n 0) 1, eF 73 (.getfield 21) 3 6 2, eF 76 (.getfield 137) 3 4 1, e0 79 (.iload 4) 2, e0 81 .aaload 1, e0 82 (.iload 5) 2, eT 84 (.invokevirtual 245) 3 40, e0 87 (.iload_n 3) 1, e0 88 (.iload 5) 2, e0 90 .iadd 1, e0 91 (.istore_n 3) 1, eC 92 (.iinc 4 1) 3 1, eT 95 (.goto (-63)) 3 32, e0 98 (.aload_n 0) 1, e0 99 (.iload_n 2) 1, e0 100 (.iload_n 3) 1, eT 101 (.if_icmp .le 7) 3 108, eC 104 (.iconst 0) 1 0, eT 105 (.goto 18) 3 123, e0 108 (.aload_n 0) 1, e0 109 (.aload_n 0) 1, eF 110 (.getfield 21) 3 6 2, eF 113 (.getfield 134) 3 4 0, e0 116 (.iload_n 1) 1, e0 117 .iaload 1, e0 118 (.iload_n 2) 1, e0 119 (.iload_n 3) 1, eT 120 (.invokevirtual 249) 3 41, eF 123 (.putfield 58) 3 6 9, e0 126 (.aload_n 0) 1, e0 127 (.aload_n 0) 1, eF 128 (.getfield 46) 3 6 6, eF 131 (.getfield 253) 3 5 0, e0 134 (.iload_n 2) 1, e0 135 .laload 1, eD 136 (.lconst 1) 1 1, eT 137 (.invokevirtual 236) 3 37, e0 140 .ireturn 1]
set_option maxRecDepth 100000 in
theorem b_Cs_ice_32 {G : Ge} (x1 : Int32) (x2 : Int32) (x3 : Int32) (x4 : Int32) {μ : Mm} {K : Int32 → Mm → Prop} (h :
  (if (μ.1 4 0 6) ≤ x4 then
   (if x2 ≤ x3 then
    (vp_in x1 8 ∧
     (CS G m_Cs_sureAt [vr 6 0, vi (μ.1 20 0 x1.toNatClampNeg), vi x2, vi x3] μ (RI fun v1 μ1 =>
      (vp_in x2 73 ∧
       (CS G m_Cs_tell [vr 6 0, vl ((wI μ1 6 0 9 v1).2 24 0 x2.toNatClampNeg), vl 1] (wI μ1 6 0 9 v1) (RI fun v2 μ2 =>
        K v2 μ2))))))
   else
    (vp_in x2 73 ∧
     (CS G m_Cs_tell [vr 6 0, vl ((wI μ 6 0 9 0).2 24 0 x2.toNatClampNeg), vl 1] (wI μ 6 0 9 0) (RI fun v3 μ3 =>
      K v3 μ3))))
  else
   (vp_in x4 5 ∧
    (vp_in x1 8 ∧
     (CS G m_Ho_canAt [vr 0 (5 * 0 + x4.toNatClampNeg), vi (μ.1 20 0 x1.toNatClampNeg)] μ (RI fun v4 μ4 =>
      (vp_in x4 5 ∧
       (CS G m_Wa_spread [vr 5 0, vr 0 (5 * 0 + x4.toNatClampNeg), vi v4] μ4 (RV fun μ5 =>
        SS G m_Cs_ice 32 [vr 6 0, vi x1, vi x2, vi (x3 + v4), vi (x4 + 1), un] [] μ5 (RI K)))))))))) :
  SS G m_Cs_ice 32 [vr 6 0, vi x1, vi x2, vi x3, vi x4, un] [] μ (RI K) :=
  wp_s (M := m_Cs_ice) (lk := lk_Cs) (tb := tb_Cs_ice_32) (cu := [(32, [true, true, true, true, true, false])]) lk_Cs_ok (by decide +kernel) 36 true _ _ _ _ h
def tc_Wa_from : List En := [eD 0 (.lconst 0) 1 0, e0 1 (.lstore_n 2) 1, eC 2 (.iconst 0) 1 0, e0 3 (.iload_n 1) 1, eT 4 (.invokestatic 36) 3 3, e0 7 (.istore 4) 2]
set_option maxRecDepth 100000 in
theorem c_Wa_from {G : Ge} (x1 : Int32) {μ : Mm} {K : Int64 → Mm → Prop} (h :
  (CS G m_Jm_max [vi 0, vi x1] μ (RI fun v1 μ1 =>
   SS G m_Wa_from 9 [vr 5 0, un, vl 0, un, vi v1] [] μ1 (RL K)))) :
  CS G m_Wa_from [vr 5 0, vi x1] μ (RL K) :=
  CS_of pf_Wa_from (Nat.le_of_ble_eq_true rfl) (show SS G m_Wa_from 0 [vr 5 0, vi x1, un, un, un] [] μ (RL K) from wp_s (M := m_Wa_from) (lk := lk_Wa) (tb := tc_Wa_from) (cu := [(9, [true, false, true, false, true])]) lk_Wa_ok (by decide +kernel) 10 true 0 _ _ _ h)
def tb_Wa_from_9 : List En := [e0 9 (.iload 4) 2, e0 11 (.aload_n 0) 1, eF 12 (.getfield 9) 3 5 0, e0 15 .arraylength 1, eT 16 (.if_icmp .ge 19) 3 35, e0 19 (.lload_n 2) 1, e0 20 (.aload_n 0) 1, eF 21 (.getfield 9) 3 5 0, e0 24 (.iload 4) 2, e0 26 .laload 1, e0 27 .ladd 1, e0 28 (.lstore_n 2) 1, eC 29 (.iinc 4 1) 3 1, eT 32 (.goto (-23)) 3 9, e0 35 (.lload_n 2) 1, e0 36 .lreturn 1]
set_option maxRecDepth 100000 in
theorem b_Wa_from_9 {G : Ge} (l2 : Int64) (x4 : Int32) {μ : Mm} {K : Int64 → Mm → Prop} (h :
  (if (nI 73) ≤ x4 then
   K l2 μ
  else
   (vp_in x4 73 ∧
    SS G m_Wa_from 9 [vr 5 0, un, vl (l2 + (μ.2 24 0 x4.toNatClampNeg)), un, vi (x4 + 1)] [] μ (RL K)))) :
  SS G m_Wa_from 9 [vr 5 0, un, vl l2, un, vi x4] [] μ (RL K) :=
  wp_s (M := m_Wa_from) (lk := lk_Wa) (tb := tb_Wa_from_9) (cu := [(9, [true, false, true, false, true])]) lk_Wa_ok (by decide +kernel) 18 true _ _ _ _ h
def tc_Cs_odds : List En := [e0 0 (.aload_n 0) 1, e0 1 (.iload_n 1) 1, eT 2 (.invokevirtual 125) 3 11, eT 5 (.ifCond .eq 5) 3 10, eC 8 (.iconst (-1)) 1 (-1), e0 9 .ireturn 1, e0 10 (.aload_n 0) 1, eF 11 (.getfield 46) 3 6 6, eT 14 (.invokevirtual 240) 3 38, eD 17 (.lconst 1) 1 1, e0 18 (.lstore_n 2) 1, e0 19 (.aload_n 0) 1, eF 20 (.getfield 21) 3 6 2, eF 23 (.getfield 171) 3 4 7, eC 26 (.iconst 1) 1 1, e0 27 .iadd 1, e0 28 (.istore 4) 2]
set_option maxRecDepth 100000 in
theorem c_Cs_odds {G : Ge} (x1 : Int32) {μ : Mm} {K : Int32 → Mm → Prop} (h :
  (CS G m_Cs_noHouse [vr 6 0, vi x1] μ (RI fun v1 μ1 =>
   (if v1 = 0 then
    (CS G m_Wa_begin [vr 5 0] μ1 (RV fun μ2 =>
     SS G m_Cs_odds 30 [vr 6 0, vi x1, vl 1, un, vi ((μ2.1 4 0 7) + 1)] [] μ2 (RI K)))
   else
    K (-1) μ1)))) :
  CS G m_Cs_odds [vr 6 0, vi x1] μ (RI K) :=
  CS_of pf_Cs_odds (Nat.le_of_ble_eq_true rfl) (show SS G m_Cs_odds 0 [vr 6 0, vi x1, un, un, un] [] μ (RI K) from wp_s (M := m_Cs_odds) (lk := lk_Cs) (tb := tc_Cs_odds) (cu := [(30, [true, true, true, false, true])]) lk_Cs_ok (by decide +kernel) 19 true 0 _ _ _ h)
def tb_Cs_odds_30 : List En := [e0 30 (.iload 4) 2, e0 32 (.aload_n 0) 1, eF 33 (.getfield 21) 3 6 2, eF 36 (.getfield 168) 3 4 5, eT 39 (.if_icmp .ge 33) 3 72, e0 42 (.aload_n 0) 1, eF 43 (.getfield 46) 3 6 6, e0 46 (.aload_n 0) 1, eF 47 (.getfield 21) 3 6 2, eF 50 (.getfield 137) 3 4 1, e0 53 (.iload_n 1) 1, e0 54 .aaload 1, eC 55 (.bipush 9) 2 9, eT 57 (.invokevirtual 245) 3 40, e0 60 (.lload_n 2) 1, eD 61 (.ldc2_w 257) 3 10, e0 64 .lmul 1, e0 65 (.lstore_n 2) 1, eC 66 (.iinc 4 1) 3 1, eT 69 (.goto (-39)) 3 30, e0 72 (.aload_n 0) 1, eF 73 (.getfield 21) 3 6 2, eT 76 (.invokevirtual 165) 3 19, eT 79 (.ifCond .eq 7) 3 86, eC 82 (.iconst 0) 1 0, eT 83 (.goto 18) 3 101, e0 86 (.aload_n 0) 1, eF 87 (.getfield 21) 3 6 2, e0 90 (.iload_n 1) 1, e0 91 (.aload_n 0) 1, eF 92 (.getfield 21) 3 6 2, eF 95 (.getfield 171) 3 4 7, eT 98 (.invokevirtual 183) 3 23, e0 101 (.istore 4) 2, e0 103 (.aload_n 0) 1, e0 104 (.aload_n 0) 1, eF 105 (.getfield 46) 3 6 6, e0 108 (.aload_n 0) 1, eF 109 (.getfield 21) 3 6 2, eF 112 (.getfield 137) 3 4 1, e0 115 (.iload_n 1) 1, e0 116 .aaload 1, eF 117 (.getfield 162) 3 0 3, e0 120 (.iload 4) 2, e0 122 .isub 1, eT 123 (.invokevirtual 259) 3 42, e0 126 (.lload_n 2) 1, eT 127 (.invokevirtual 236) 3 37, e0 130 .ireturn 1]
set_option maxRecDepth 100000 in
theorem b_Cs_odds_30 {G : Ge} (x1 : Int32) (l2 : Int64) (x4 : Int32) {μ : Mm} {K : Int32 → Mm → Prop} (h :
  (if (μ.1 4 0 5) ≤ x4 then
   (CS G m_St_isCandlemas [vr 4 0] μ (RI fun v1 μ1 =>
    (if v1 = 0 then
     (CS G m_St_topIn [vr 4 0, vi x1, vi (μ1.1 4 0 7)] μ1 (RI fun v2 μ2 =>
      (vp_in x1 5 ∧
       (CS G m_Wa_from [vr 5 0, vi ((μ2.1 0 (5 * 0 + x1.toNatClampNeg) 3) - v2)] μ2 (RL fun v3 μ3 =>
        (CS G m_Cs_tell [vr 6 0, vl v3, vl l2] μ3 (RI fun v4 μ4 =>
         K v4 μ4)))))))
    else
     (vp_in x1 5 ∧
      (CS G m_Wa_from [vr 5 0, vi ((μ1.1 0 (5 * 0 + x1.toNatClampNeg) 3) - 0)] μ1 (RL fun v5 μ5 =>
       (CS G m_Cs_tell [vr 6 0, vl v5, vl l2] μ5 (RI fun v6 μ6 =>
        K v6 μ6))))))))
  else
   (vp_in x1 5 ∧
    (CS G m_Wa_spread [vr 5 0, vr 0 (5 * 0 + x1.toNatClampNeg), vi 9] μ (RV fun μ7 =>
     SS G m_Cs_odds 30 [vr 6 0, vi x1, vl (l2 * 10), un, vi (x4 + 1)] [] μ7 (RI K)))))) :
  SS G m_Cs_odds 30 [vr 6 0, vi x1, vl l2, un, vi x4] [] μ (RI K) :=
  wp_s (M := m_Cs_odds) (lk := lk_Cs) (tb := tb_Cs_odds_30) (cu := [(30, [true, true, true, false, true])]) lk_Cs_ok (by decide +kernel) 35 true _ _ _ _ h
def tc_Cs_risk : List En := [e0 0 (.aload_n 0) 1, e0 1 (.iload_n 1) 1, eT 2 (.invokevirtual 125) 3 11, eT 5 (.ifCond .eq 5) 3 10, eC 8 (.iconst (-1)) 1 (-1), e0 9 .ireturn 1, e0 10 (.aload_n 0) 1, eF 11 (.getfield 21) 3 6 2, eF 14 (.getfield 137) 3 4 1, e0 17 (.iload_n 1) 1, e0 18 .aaload 1, e0 19 (.astore_n 2) 1, eC 20 (.iconst 0) 1 0, e0 21 (.istore_n 3) 1, eC 22 (.iconst 0) 1 0, e0 23 (.istore 4) 2]
set_option maxRecDepth 100000 in
theorem c_Cs_risk {G : Ge} (x1 : Int32) {μ : Mm} {K : Int32 → Mm → Prop} (h :
  (CS G m_Cs_noHouse [vr 6 0, vi x1] μ (RI fun v1 μ1 =>
   (if v1 = 0 then
    (vp_in x1 5 ∧
     SS G m_Cs_risk 25 [vr 6 0, un, vr 0 (5 * 0 + x1.toNatClampNeg), vi 0, vi 0] [] μ1 (RI K))
   else
    K (-1) μ1)))) :
  CS G m_Cs_risk [vr 6 0, vi x1] μ (RI K) :=
  CS_of pf_Cs_risk (Nat.le_of_ble_eq_true rfl) (show SS G m_Cs_risk 0 [vr 6 0, vi x1, un, un, un] [] μ (RI K) from wp_s (M := m_Cs_risk) (lk := lk_Cs) (tb := tc_Cs_risk) (cu := [(25, [true, false, true, true, true])]) lk_Cs_ok (by decide +kernel) 18 true 0 _ _ _ h)
def tb_Cs_risk_25 : List En := [e0 25 (.iload 4) 2, eC 27 (.bipush 9) 2 9, eT 29 (.if_icmp .gt 25) 3 54, e0 32 (.aload_n 2) 1, e0 33 (.aload_n 2) 1, e0 34 (.iload 4) 2, eT 36 (.invokevirtual 242) 3 39, eT 39 (.invokevirtual 159) 3 18, eT 42 (.ifCond .le 6) 3 48, eC 45 (.iinc 3 1) 3 1, eC 48 (.iinc 4 1) 3 1, eT 51 (.goto (-26)) 3 25, e0 54 (.aload_n 0) 1, e0 55 (.iload_n 3) 1, e0 56 .i2l 1, eD 57 (.ldc2_w 257) 3 10, eT 60 (.invokevirtual 236) 3 37, e0 63 .ireturn 1]
set_option maxRecDepth 100000 in
theorem b_Cs_risk_25 {G : Ge} (i2 : Nat) (x3 : Int32) (x4 : Int32) {μ : Mm} {K : Int32 → Mm → Prop} (h :
  (if (9 : Int32) < x4 then
   (CS G m_Cs_tell [vr 6 0, vl (Int32.toInt64 x3), vl 10] μ (RI fun v1 μ1 =>
    K v1 μ1))
  else
   (CS G m_Ho_canAt [vr 0 i2, vi x4] μ (RI fun v2 μ2 =>
    (CS G m_Ho_painOf [vr 0 i2, vi v2] μ2 (RI fun v3 μ3 =>
     (if v3 ≤ 0 then
      SS G m_Cs_risk 25 [vr 6 0, un, vr 0 i2, vi x3, vi (x4 + 1)] [] μ3 (RI K)
     else
      SS G m_Cs_risk 25 [vr 6 0, un, vr 0 i2, vi (x3 + 1), vi (x4 + 1)] [] μ3 (RI K)))))))) :
  SS G m_Cs_risk 25 [vr 6 0, un, vr 0 i2, vi x3, vi x4] [] μ (RI K) :=
  wp_s (M := m_Cs_risk) (lk := lk_Cs) (tb := tb_Cs_risk_25) (cu := [(25, [true, false, true, true, true])]) lk_Cs_ok (by decide +kernel) 16 true _ _ _ _ h
def tc_Cs_bearByLot : List En := [e0 0 (.lload_n 2) 1, eD 1 (.ldc2_w 312) 3 8, e0 4 .ldiv 1, eC 5 (.iconst 1) 1 1, e0 6 (.aload_n 0) 1, eF 7 (.getfield 21) 3 6 2, e0 10 (.iload_n 1) 1, eT 11 (.invokevirtual 152) 3 16, e0 14 .iadd 1, e0 15 .i2l 1, e0 16 .lrem 1, e0 17 .l2i 1, e0 18 (.istore 4) 2, e0 20 (.iload 4) 2, eT 22 (.ifCond .ne 5) 3 27, eC 25 (.iconst 0) 1 0, e0 26 .ireturn 1, e0 27 (.aload_n 0) 1, eF 28 (.getfield 21) 3 6 2, e0 31 (.iload_n 1) 1, eC 32 (.iconst (-1)) 1 (-1), e0 33 (.iload 4) 2, eT 35 (.invokevirtual 155) 3 17, e0 38 (.aload_n 0) 1, eF 39 (.getfield 21) 3 6 2, eF 42 (.getfield 137) 3 4 1, e0 45 (.iload_n 1) 1, e0 46 .aaload 1, e0 47 (.iload 4) 2, eT 49 (.invokevirtual 159) 3 18, e0 52 .ireturn 1]
set_option maxRecDepth 100000 in
theorem c_Cs_bearByLot {G : Ge} (x1 : Int32) (l2 : Int64) {μ : Mm} {K : Int32 → Mm → Prop} (h :
  (¬ (8 : Int64) = 0 ∧
   (CS G m_St_canTonight [vr 4 0, vi x1] μ (RI fun v1 μ1 =>
    (¬ ((Int32.toInt64 (1 + v1)) : Int64) = 0 ∧
     (if (Int64.toInt32 ((l2 / 8) - (l2 / 8) / (Int32.toInt64 (1 + v1)) * (Int32.toInt64 (1 + v1)))) = 0 then
      K 0 μ1
     else
      (CS G m_St_act [vr 4 0, vi x1, vi (-1), vi (Int64.toInt32 ((l2 / 8) - (l2 / 8) / (Int32.toInt64 (1 + v1)) * (Int32.toInt64 (1 + v1))))] μ1 (RV fun μ2 =>
       (vp_in x1 5 ∧
        (CS G m_Ho_painOf [vr 0 (5 * 0 + x1.toNatClampNeg), vi (Int64.toInt32 ((l2 / 8) - (l2 / 8) / (Int32.toInt64 (1 + v1)) * (Int32.toInt64 (1 + v1))))] μ2 (RI fun v3 μ3 =>
         K v3 μ3))))))))))) :
  CS G m_Cs_bearByLot [vr 6 0, vi x1, vl l2] μ (RI K) :=
  CS_of pf_Cs_bearByLot (Nat.le_of_ble_eq_true rfl) (show SS G m_Cs_bearByLot 0 [vr 6 0, vi x1, vl l2, un, un] [] μ (RI K) from wp_s (M := m_Cs_bearByLot) (lk := lk_Cs) (tb := tc_Cs_bearByLot) (cu := []) lk_Cs_ok (by decide +kernel) 32 true 0 _ _ _ h)
def tc_Cs_lots : List En := [e0 0 (.iload_n 1) 1, eC 1 (.iconst 1) 1 1, eT 2 (.if_icmp .lt 21) 3 23, e0 5 (.iload_n 1) 1, eC 6 (.bipush 8) 2 8, eT 8 (.if_icmp .gt 15) 3 23, e0 11 (.iload_n 2) 1, eC 12 (.iconst 1) 1 1, eT 13 (.if_icmp .lt 10) 3 23, e0 16 (.iload_n 2) 1, eC 17 (.ldc_w 263) 3 2147483647, eT 20 (.if_icmp .lt 5) 3 25, eC 23 (.iconst (-1)) 1 (-1), e0 24 .ireturn 1, e0 25 (.aload_n 0) 1, eF 26 (.getfield 21) 3 6 2, eT 29 (.invokevirtual 165) 3 19, eT 32 (.ifCond .eq 6) 3 38, eC 35 (.bipush (-4)) 2 (-4), e0 37 .ireturn 1, e0 38 (.aload_n 0) 1, eF 39 (.getfield 21) 3 6 2, eF 42 (.getfield 149) 3 4 8, eC 45 (.bipush 6) 2 6, e0 47 (.iload_n 1) 1, e0 48 .imul 1, e0 49 .iadd 1, eC 50 (.bipush 60) 2 60, eT 52 (.if_icmp .le 6) 3 58, eC 55 (.bipush (-2)) 2 (-2), e0 57 .ireturn 1, e0 58 (.iload_n 2) 1, e0 59 .i2l 1, e0 60 (.lstore_n 3) 1, eC 61 (.iconst 0) 1 0, e0 62 (.istore 5) 2, eC 64 (.iconst 0) 1 0, e0 65 (.istore 6) 2]
set_option maxRecDepth 100000 in
theorem c_Cs_lots {G : Ge} (x1 : Int32) (x2 : Int32) {μ : Mm} {K : Int32 → Mm → Prop} (h :
  (if x1 < 1 then
   K (-1) μ
  else
   (if (8 : Int32) < x1 then
    K (-1) μ
   else
    (if x2 < 1 then
     K (-1) μ
    else
     (if x2 < 2147483647 then
      (CS G m_St_isCandlemas [vr 4 0] μ (RI fun v1 μ1 =>
       (if v1 = 0 then
        (if ((μ1.1 4 0 8) + (6 * x1)) ≤ 60 then
         SS G m_Cs_lots 67 [vr 6 0, vi x1, un, vl (Int32.toInt64 x2), un, vi 0, vi 0, un] [] μ1 (RI K)
        else
         K (-2) μ1)
       else
        K (-4) μ1)))
     else
      K (-1) μ))))) :
  CS G m_Cs_lots [vr 6 0, vi x1, vi x2] μ (RI K) :=
  CS_of pf_Cs_lots (Nat.le_of_ble_eq_true rfl) (show SS G m_Cs_lots 0 [vr 6 0, vi x1, vi x2, un, un, un, un, un] [] μ (RI K) from wp_s (M := m_Cs_lots) (lk := lk_Cs) (tb := tc_Cs_lots) (cu := [(67, [true, true, false, true, false, true, true, false]), (86, [true, true, false, true, false, true, true, true])]) lk_Cs_ok (by decide +kernel) 36 true 0 _ _ _ h)
def tb_Cs_lots_67 : List En := [e0 67 (.iload 6) 2, e0 69 (.iload_n 1) 1, eT 70 (.if_icmp .ge 90) 3 160, e0 73 (.aload_n 0) 1, eF 74 (.getfield 21) 3 6 2, eT 77 (.invokevirtual 165) 3 19, eT 80 (.ifCond .ne 80) 3 160, eC 83 (.iconst 0) 1 0, e0 84 (.istore 7) 2, e0 160 (.iload 5) 2, e0 162 .ireturn 1]
set_option maxRecDepth 100000 in
theorem b_Cs_lots_67 {G : Ge} (x1 : Int32) (l3 : Int64) (x5 : Int32) (x6 : Int32) {μ : Mm} {K : Int32 → Mm → Prop} (h :
  (if x1 ≤ x6 then
   K x5 μ
  else
   (CS G m_St_isCandlemas [vr 4 0] μ (RI fun v1 μ1 =>
    (if v1 = 0 then
     SS G m_Cs_lots 86 [vr 6 0, vi x1, un, vl l3, un, vi x5, vi x6, vi 0] [] μ1 (RI K)
    else
     K x5 μ1))))) :
  SS G m_Cs_lots 67 [vr 6 0, vi x1, un, vl l3, un, vi x5, vi x6, un] [] μ (RI K) :=
  wp_s (M := m_Cs_lots) (lk := lk_Cs) (tb := tb_Cs_lots_67) (cu := [(67, [true, true, false, true, false, true, true, false]), (86, [true, true, false, true, false, true, true, true])]) lk_Cs_ok (by decide +kernel) 13 true _ _ _ _ h
def tb_Cs_lots_86 : List En := [e0 86 (.iload 7) 2, e0 88 (.aload_n 0) 1, eF 89 (.getfield 21) 3 6 2, eF 92 (.getfield 124) 3 4 6, eT 95 (.if_icmp .ge 49) 3 144, e0 98 (.aload_n 0) 1, eF 99 (.getfield 21) 3 6 2, eF 102 (.getfield 137) 3 4 1, e0 105 (.iload 7) 2, e0 107 .aaload 1, eF 108 (.getfield 264) 3 0 5, eC 111 (.bipush (-9)) 2 (-9), eT 113 (.if_icmp .ne 25) 3 138, e0 116 (.lload_n 3) 1, eD 117 (.ldc2_w 267) 3 48271, e0 120 .lmul 1, eD 121 (.ldc2_w 269) 3 2147483647, e0 124 .lrem 1, e0 125 (.lstore_n 3) 1, e0 126 (.iload 5) 2, e0 128 (.aload_n 0) 1, e0 129 (.iload 7) 2, e0 131 (.lload_n 3) 1, eT 132 (.invokevirtual 271) 3 43, e0 135 .iadd 1, e0 136 (.istore 5) 2, eC 138 (.iinc 7 1) 3 1, eT 141 (.goto (-55)) 3 86, e0 144 (.aload_n 0) 1, eF 145 (.getfield 21) 3 6 2, eC 148 (.iconst (-1)) 1 (-1), eC 149 (.iconst (-1)) 1 (-1), eC 150 (.iconst 0) 1 0, eT 151 (.invokevirtual 155) 3 17, eC 154 (.iinc 6 1) 3 1, eT 157 (.goto (-90)) 3 67]
set_option maxRecDepth 100000 in
theorem b_Cs_lots_86 {G : Ge} (x1 : Int32) (l3 : Int64) (x5 : Int32) (x6 : Int32) (x7 : Int32) {μ : Mm} {K : Int32 → Mm → Prop} (h :
  (if (μ.1 4 0 6) ≤ x7 then
   (CS G m_St_act [vr 4 0, vi (-1), vi (-1), vi 0] μ (RV fun μ1 =>
    SS G m_Cs_lots 67 [vr 6 0, vi x1, un, vl l3, un, vi x5, vi (x6 + 1), un] [] μ1 (RI K)))
  else
   (vp_in x7 5 ∧
    (if (μ.1 0 (5 * 0 + x7.toNatClampNeg) 5) = (-9) then
     (¬ (2147483647 : Int64) = 0 ∧
      (CS G m_Cs_bearByLot [vr 6 0, vi x7, vl ((l3 * 48271) - (l3 * 48271) / 2147483647 * 2147483647)] μ (RI fun v2 μ2 =>
       SS G m_Cs_lots 86 [vr 6 0, vi x1, un, vl ((l3 * 48271) - (l3 * 48271) / 2147483647 * 2147483647), un, vi (x5 + v2), vi x6, vi (x7 + 1)] [] μ2 (RI K))))
    else
     SS G m_Cs_lots 86 [vr 6 0, vi x1, un, vl l3, un, vi x5, vi x6, vi (x7 + 1)] [] μ (RI K))))) :
  SS G m_Cs_lots 86 [vr 6 0, vi x1, un, vl l3, un, vi x5, vi x6, vi x7] [] μ (RI K) :=
  wp_s (M := m_Cs_lots) (lk := lk_Cs) (tb := tb_Cs_lots_86) (cu := [(67, [true, true, false, true, false, true, true, false]), (86, [true, true, false, true, false, true, true, true])]) lk_Cs_ok (by decide +kernel) 32 true _ _ _ _ h
def tc_Cs_asked : List En := [e0 0 (.aload_n 0) 1, eF 1 (.getfield 58) 3 6 9, e0 4 .ireturn 1]
set_option maxRecDepth 100000 in
theorem c_Cs_asked {G : Ge}  {μ : Mm} {K : Int32 → Mm → Prop} (h :
  K (μ.1 6 0 9) μ) :
  CS G m_Cs_asked [vr 6 0] μ (RI K) :=
  CS_of pf_Cs_asked (Nat.le_of_ble_eq_true rfl) (show SS G m_Cs_asked 0 [vr 6 0] [] μ (RI K) from wp_s (M := m_Cs_asked) (lk := lk_Cs) (tb := tc_Cs_asked) (cu := []) lk_Cs_ok (by decide +kernel) 6 true 0 _ _ _ h)
def tc_Cs_upper : List En := [e0 0 (.aload_n 0) 1, eF 1 (.getfield 61) 3 6 10, e0 4 .lreturn 1]
set_option maxRecDepth 100000 in
theorem c_Cs_upper {G : Ge}  {μ : Mm} {K : Int64 → Mm → Prop} (h :
  K (μ.2 6 0 10) μ) :
  CS G m_Cs_upper [vr 6 0] μ (RL K) :=
  CS_of pf_Cs_upper (Nat.le_of_ble_eq_true rfl) (show SS G m_Cs_upper 0 [vr 6 0] [] μ (RL K) from wp_s (M := m_Cs_upper) (lk := lk_Cs) (tb := tc_Cs_upper) (cu := []) lk_Cs_ok (by decide +kernel) 6 true 0 _ _ _ h)
def tc_Cs_lower : List En := [e0 0 (.aload_n 0) 1, eF 1 (.getfield 65) 3 6 11, e0 4 .lreturn 1]
set_option maxRecDepth 100000 in
theorem c_Cs_lower {G : Ge}  {μ : Mm} {K : Int64 → Mm → Prop} (h :
  K (μ.2 6 0 11) μ) :
  CS G m_Cs_lower [vr 6 0] μ (RL K) :=
  CS_of pf_Cs_lower (Nat.le_of_ble_eq_true rfl) (show SS G m_Cs_lower 0 [vr 6 0] [] μ (RL K) from wp_s (M := m_Cs_lower) (lk := lk_Cs) (tb := tc_Cs_lower) (cu := []) lk_Cs_ok (by decide +kernel) 6 true 0 _ _ _ h)
def tc_St_painTillNow : List En := [eC 0 (.iconst 0) 1 0, e0 1 (.istore_n 1) 1, eC 2 (.iconst 0) 1 0, e0 3 (.istore_n 2) 1]
set_option maxRecDepth 100000 in
theorem c_St_painTillNow {G : Ge} (i0 : Nat) {μ : Mm} {K : Int32 → Mm → Prop} (h :
  SS G m_St_painTillNow 4 [vr 4 i0, vi 0, vi 0] [] μ (RI K)) :
  CS G m_St_painTillNow [vr 4 i0] μ (RI K) :=
  CS_of pf_St_painTillNow (Nat.le_of_ble_eq_true rfl) (show SS G m_St_painTillNow 0 [vr 4 i0, un, un] [] μ (RI K) from wp_s (M := m_St_painTillNow) (lk := lk_St) (tb := tc_St_painTillNow) (cu := [(4, [true, true, true])]) lk_St_ok (by decide +kernel) 8 true 0 _ _ _ h)
def tb_St_painTillNow_4 : List En := [e0 4 (.iload_n 2) 1, e0 5 (.aload_n 0) 1, eF 6 (.getfield 34) 3 4 6, eT 9 (.if_icmp .ge 21) 3 30, e0 12 (.iload_n 1) 1, e0 13 (.aload_n 0) 1, eF 14 (.getfield 17) 3 4 1, e0 17 (.iload_n 2) 1, e0 18 .aaload 1, eF 19 (.getfield 106) 3 0 4, e0 22 .iadd 1, e0 23 (.istore_n 1) 1, eC 24 (.iinc 2 1) 3 1, eT 27 (.goto (-23)) 3 4, e0 30 (.iload_n 1) 1, e0 31 .ireturn 1]
set_option maxRecDepth 100000 in
theorem b_St_painTillNow_4 {G : Ge} (i0 : Nat) (x1 : Int32) (x2 : Int32) {μ : Mm} {K : Int32 → Mm → Prop} (h :
  (if (μ.1 4 i0 6) ≤ x2 then
   K x1 μ
  else
   (vp_in x2 5 ∧
    SS G m_St_painTillNow 4 [vr 4 i0, vi (x1 + (μ.1 0 (5 * i0 + x2.toNatClampNeg) 4)), vi (x2 + 1)] [] μ (RI K)))) :
  SS G m_St_painTillNow 4 [vr 4 i0, vi x1, vi x2] [] μ (RI K) :=
  wp_s (M := m_St_painTillNow) (lk := lk_St) (tb := tb_St_painTillNow_4) (cu := [(4, [true, true, true])]) lk_St_ok (by decide +kernel) 18 true _ _ _ _ h
def tc_St_countOf : List En := [eC 0 (.iconst 0) 1 0, e0 1 (.istore_n 2) 1, eC 2 (.iconst 0) 1 0, e0 3 (.istore_n 3) 1]
set_option maxRecDepth 100000 in
theorem c_St_countOf {G : Ge} (i0 : Nat) (x1 : Int32) {μ : Mm} {K : Int32 → Mm → Prop} (h :
  SS G m_St_countOf 4 [vr 4 i0, vi x1, vi 0, vi 0] [] μ (RI K)) :
  CS G m_St_countOf [vr 4 i0, vi x1] μ (RI K) :=
  CS_of pf_St_countOf (Nat.le_of_ble_eq_true rfl) (show SS G m_St_countOf 0 [vr 4 i0, vi x1, un, un] [] μ (RI K) from wp_s (M := m_St_countOf) (lk := lk_St) (tb := tc_St_countOf) (cu := [(4, [true, true, true, true])]) lk_St_ok (by decide +kernel) 8 true 0 _ _ _ h)
def tb_St_countOf_4 : List En := [e0 4 (.iload_n 3) 1, e0 5 (.aload_n 0) 1, eF 6 (.getfield 34) 3 4 6, eT 9 (.if_icmp .ge 25) 3 34, e0 12 (.aload_n 0) 1, eF 13 (.getfield 17) 3 4 1, e0 16 (.iload_n 3) 1, e0 17 .aaload 1, e0 18 (.iload_n 1) 1, eT 19 (.invokevirtual 109) 3 11, eT 22 (.ifCond .eq 6) 3 28, eC 25 (.iinc 2 1) 3 1, eC 28 (.iinc 3 1) 3 1, eT 31 (.goto (-27)) 3 4, e0 34 (.iload_n 2) 1, e0 35 .ireturn 1]
set_option maxRecDepth 100000 in
theorem b_St_countOf_4 {G : Ge} (i0 : Nat) (x1 : Int32) (x2 : Int32) (x3 : Int32) {μ : Mm} {K : Int32 → Mm → Prop} (h :
  (if (μ.1 4 i0 6) ≤ x3 then
   K x2 μ
  else
   (vp_in x3 5 ∧
    (CS G m_Ho_isOf [vr 0 (5 * i0 + x3.toNatClampNeg), vi x1] μ (RI fun v1 μ1 =>
     (if v1 = 0 then
      SS G m_St_countOf 4 [vr 4 i0, vi x1, vi x2, vi (x3 + 1)] [] μ1 (RI K)
     else
      SS G m_St_countOf 4 [vr 4 i0, vi x1, vi (x2 + 1), vi (x3 + 1)] [] μ1 (RI K))))))) :
  SS G m_St_countOf 4 [vr 4 i0, vi x1, vi x2, vi x3] [] μ (RI K) :=
  wp_s (M := m_St_countOf) (lk := lk_St) (tb := tb_St_countOf_4) (cu := [(4, [true, true, true, true])]) lk_St_ok (by decide +kernel) 18 true _ _ _ _ h
def tc_Cs_thereOf_9 : List En := [eC 0 (.iconst 0) 1 0, e0 1 (.istore_n 3) 1, eC 2 (.iconst 0) 1 0, e0 3 (.istore 4) 2]
set_option maxRecDepth 100000 in
theorem c_Cs_thereOf_9 {G : Ge} (x2 : Int32) {μ : Mm} {K : Int32 → Mm → Prop} (h :
  SS G m_Cs_thereOf 5 [un, vr 9 0, vi x2, vi 0, vi 0] [] μ (RI K)) :
  CS G m_Cs_thereOf [vr 6 0, vr 9 0, vi x2] μ (RI K) :=
  CS_of pf_Cs_thereOf (Nat.le_of_ble_eq_true rfl) (show SS G m_Cs_thereOf 0 [vr 6 0, vr 9 0, vi x2, un, un] [] μ (RI K) from wp_s (M := m_Cs_thereOf) (lk := lk_Cs) (tb := tc_Cs_thereOf_9) (cu := [(5, [false, true, true, true, true])]) lk_Cs_ok (by decide +kernel) 8 true 0 _ _ _ h)
def tb_Cs_thereOf_9_5 : List En := [e0 5 (.iload 4) 2, e0 7 (.iload_n 2) 1, eT 8 (.if_icmp .ge 22) 3 30, e0 11 (.aload_n 1) 1, e0 12 (.iload 4) 2, e0 14 .aaload 1, eT 15 (.invokevirtual 90) 3 4, eT 18 (.ifCond .ne 6) 3 24, eC 21 (.iinc 3 1) 3 1, eC 24 (.iinc 4 1) 3 1, eT 27 (.goto (-22)) 3 5, e0 30 (.iload_n 3) 1, e0 31 .ireturn 1]
set_option maxRecDepth 100000 in
theorem b_Cs_thereOf_9_5 {G : Ge} (x2 : Int32) (x3 : Int32) (x4 : Int32) {μ : Mm} {K : Int32 → Mm → Prop} (h :
  (if x2 ≤ x4 then
   K x3 μ
  else
   (vp_in x4 6 ∧
    (CS G m_Ro_isMissing [vr 3 x4.toNatClampNeg] μ (RI fun v1 μ1 =>
     (if v1 = 0 then
      SS G m_Cs_thereOf 5 [un, vr 9 0, vi x2, vi (x3 + 1), vi (x4 + 1)] [] μ1 (RI K)
     else
      SS G m_Cs_thereOf 5 [un, vr 9 0, vi x2, vi x3, vi (x4 + 1)] [] μ1 (RI K))))))) :
  SS G m_Cs_thereOf 5 [un, vr 9 0, vi x2, vi x3, vi x4] [] μ (RI K) :=
  wp_s (M := m_Cs_thereOf) (lk := lk_Cs) (tb := tb_Cs_thereOf_9_5) (cu := [(5, [false, true, true, true, true])]) lk_Cs_ok (by decide +kernel) 15 true _ _ _ _ h
def tc_Cs_thereOf_10 : List En := [eC 0 (.iconst 0) 1 0, e0 1 (.istore_n 3) 1, eC 2 (.iconst 0) 1 0, e0 3 (.istore 4) 2]
set_option maxRecDepth 100000 in
theorem c_Cs_thereOf_10 {G : Ge} (x2 : Int32) {μ : Mm} {K : Int32 → Mm → Prop} (h :
  SS G m_Cs_thereOf 5 [un, vr 10 0, vi x2, vi 0, vi 0] [] μ (RI K)) :
  CS G m_Cs_thereOf [vr 6 0, vr 10 0, vi x2] μ (RI K) :=
  CS_of pf_Cs_thereOf (Nat.le_of_ble_eq_true rfl) (show SS G m_Cs_thereOf 0 [vr 6 0, vr 10 0, vi x2, un, un] [] μ (RI K) from wp_s (M := m_Cs_thereOf) (lk := lk_Cs) (tb := tc_Cs_thereOf_10) (cu := [(5, [false, true, true, true, true])]) lk_Cs_ok (by decide +kernel) 8 true 0 _ _ _ h)
def tb_Cs_thereOf_10_5 : List En := [e0 5 (.iload 4) 2, e0 7 (.iload_n 2) 1, eT 8 (.if_icmp .ge 22) 3 30, e0 11 (.aload_n 1) 1, e0 12 (.iload 4) 2, e0 14 .aaload 1, eT 15 (.invokevirtual 90) 3 4, eT 18 (.ifCond .ne 6) 3 24, eC 21 (.iinc 3 1) 3 1, eC 24 (.iinc 4 1) 3 1, eT 27 (.goto (-22)) 3 5, e0 30 (.iload_n 3) 1, e0 31 .ireturn 1]
set_option maxRecDepth 100000 in
theorem b_Cs_thereOf_10_5 {G : Ge} (x2 : Int32) (x3 : Int32) (x4 : Int32) {μ : Mm} {K : Int32 → Mm → Prop} (h :
  (if x2 ≤ x4 then
   K x3 μ
  else
   (vp_in x4 4 ∧
    (CS G m_Ro_isMissing [vr 8 x4.toNatClampNeg] μ (RI fun v1 μ1 =>
     (if v1 = 0 then
      SS G m_Cs_thereOf 5 [un, vr 10 0, vi x2, vi (x3 + 1), vi (x4 + 1)] [] μ1 (RI K)
     else
      SS G m_Cs_thereOf 5 [un, vr 10 0, vi x2, vi x3, vi (x4 + 1)] [] μ1 (RI K))))))) :
  SS G m_Cs_thereOf 5 [un, vr 10 0, vi x2, vi x3, vi x4] [] μ (RI K) :=
  wp_s (M := m_Cs_thereOf) (lk := lk_Cs) (tb := tb_Cs_thereOf_10_5) (cu := [(5, [false, true, true, true, true])]) lk_Cs_ok (by decide +kernel) 15 true _ _ _ _ h
def tc_Cs_keptStreets : List En := [eC 0 (.iconst 0) 1 0, e0 1 (.istore_n 1) 1, eC 2 (.iconst 0) 1 0, e0 3 (.istore_n 2) 1]
set_option maxRecDepth 100000 in
theorem c_Cs_keptStreets {G : Ge}  {μ : Mm} {K : Int32 → Mm → Prop} (h :
  SS G m_Cs_keptStreets 4 [vr 6 0, vi 0, vi 0] [] μ (RI K)) :
  CS G m_Cs_keptStreets [vr 6 0] μ (RI K) :=
  CS_of pf_Cs_keptStreets (Nat.le_of_ble_eq_true rfl) (show SS G m_Cs_keptStreets 0 [vr 6 0, un, un] [] μ (RI K) from wp_s (M := m_Cs_keptStreets) (lk := lk_Cs) (tb := tc_Cs_keptStreets) (cu := [(4, [true, true, true])]) lk_Cs_ok (by decide +kernel) 8 true 0 _ _ _ h)
def tb_Cs_keptStreets_4 : List En := [e0 4 (.iload_n 2) 1, eC 5 (.iconst 3) 1 3, eT 6 (.if_icmp .ge 24) 3 30, e0 9 (.aload_n 0) 1, eF 10 (.getfield 25) 3 6 3, e0 13 (.iload_n 2) 1, e0 14 .aaload 1, eT 15 (.invokevirtual 180) 3 22, eT 18 (.ifCond .ne 6) 3 24, eC 21 (.iinc 1 1) 3 1, eC 24 (.iinc 2 1) 3 1, eT 27 (.goto (-23)) 3 4, e0 30 (.iload_n 1) 1, e0 31 .ireturn 1]
set_option maxRecDepth 100000 in
theorem b_Cs_keptStreets_4 {G : Ge} (x1 : Int32) (x2 : Int32) {μ : Mm} {K : Int32 → Mm → Prop} (h :
  (if (3 : Int32) ≤ x2 then
   K x1 μ
  else
   (vp_in x2 3 ∧
    (CS G m_St_isEmpty [vr 4 (1 + x2.toNatClampNeg)] μ (RI fun v1 μ1 =>
     (if v1 = 0 then
      SS G m_Cs_keptStreets 4 [vr 6 0, vi (x1 + 1), vi (x2 + 1)] [] μ1 (RI K)
     else
      SS G m_Cs_keptStreets 4 [vr 6 0, vi x1, vi (x2 + 1)] [] μ1 (RI K))))))) :
  SS G m_Cs_keptStreets 4 [vr 6 0, vi x1, vi x2] [] μ (RI K) :=
  wp_s (M := m_Cs_keptStreets) (lk := lk_Cs) (tb := tb_Cs_keptStreets_4) (cu := [(4, [true, true, true])]) lk_Cs_ok (by decide +kernel) 16 true _ _ _ _ h
def tc_Cs_count : List En := [e0 0 (.iload_n 1) 1, eS 1 (.tableswitch 149 0 9 #[55, 63, 71, 79, 87, 106, 114, 123, 134, 144]) 55 150 [(0, 56), (1, 64), (2, 72), (3, 80), (4, 88), (5, 107), (6, 115), (7, 124), (8, 135), (9, 145)], e0 56 (.aload_n 0) 1, eF 57 (.getfield 21) 3 6 2, eF 60 (.getfield 124) 3 4 6, e0 63 .ireturn 1, e0 64 (.aload_n 0) 1, eF 65 (.getfield 21) 3 6 2, eF 68 (.getfield 168) 3 4 5, e0 71 .ireturn 1, e0 72 (.aload_n 0) 1, eF 73 (.getfield 21) 3 6 2, eF 76 (.getfield 171) 3 4 7, e0 79 .ireturn 1, e0 80 (.aload_n 0) 1, eF 81 (.getfield 21) 3 6 2, eF 84 (.getfield 149) 3 4 8, e0 87 .ireturn 1, e0 88 (.aload_n 0) 1, eF 89 (.getfield 21) 3 6 2, eC 92 (.iconst 1) 1 1, e0 93 (.aload_n 0) 1, eF 94 (.getfield 21) 3 6 2, eF 97 (.getfield 124) 3 4 6, e0 100 .ishl 1, eC 101 (.iconst 1) 1 1, e0 102 .isub 1, eT 103 (.invokevirtual 204) 3 29, e0 106 .ireturn 1, e0 107 (.aload_n 0) 1, eF 108 (.getfield 21) 3 6 2, eT 111 (.invokevirtual 275) 3 44, e0 114 .ireturn 1, e0 115 (.aload_n 0) 1, eF 116 (.getfield 21) 3 6 2, eC 119 (.iconst 2) 1 2, eT 120 (.invokevirtual 279) 3 45, e0 123 .ireturn 1, e0 124 (.aload_n 0) 1, e0 125 (.aload_n 0) 1, eF 126 (.getfield 11) 3 6 0, eC 129 (.bipush 6) 2 6, eT 131 (.invokevirtual 282) 3 46, e0 134 .ireturn 1, e0 135 (.aload_n 0) 1, e0 136 (.aload_n 0) 1, eF 137 (.getfield 15) 3 6 1, eC 140 (.iconst 4) 1 4, eT 141 (.invokevirtual 282) 3 46, e0 144 .ireturn 1, e0 145 (.aload_n 0) 1, eT 146 (.invokevirtual 286) 3 47, e0 149 .ireturn 1, eC 150 (.iconst (-1)) 1 (-1), e0 151 .ireturn 1]
set_option maxRecDepth 100000 in
theorem c_Cs_count {G : Ge} (x1 : Int32) {μ : Mm} {K : Int32 → Mm → Prop} (h :
  (if x1 = 0 then
   K (μ.1 4 0 6) μ
  else
   (if x1 = 1 then
    K (μ.1 4 0 5) μ
   else
    (if x1 = 2 then
     K (μ.1 4 0 7) μ
    else
     (if x1 = 3 then
      K (μ.1 4 0 8) μ
     else
      (if x1 = 4 then
       (CS G m_St_owedBy [vr 4 0, vi ((1 <<< ((μ.1 4 0 6) &&& 31)) - 1)] μ (RI fun v6 μ6 =>
        K v6 μ6))
      else
       (if x1 = 5 then
        (CS G m_St_painTillNow [vr 4 0] μ (RI fun v5 μ5 =>
         K v5 μ5))
       else
        (if x1 = 6 then
         (CS G m_St_countOf [vr 4 0, vi 2] μ (RI fun v4 μ4 =>
          K v4 μ4))
        else
         (if x1 = 7 then
          (CS G m_Cs_thereOf [vr 6 0, vr 9 0, vi 6] μ (RI fun v3 μ3 =>
           K v3 μ3))
         else
          (if x1 = 8 then
           (CS G m_Cs_thereOf [vr 6 0, vr 10 0, vi 4] μ (RI fun v2 μ2 =>
            K v2 μ2))
          else
           (if x1 = 9 then
            (CS G m_Cs_keptStreets [vr 6 0] μ (RI fun v1 μ1 =>
             K v1 μ1))
           else
            K (-1) μ))))))))))) :
  CS G m_Cs_count [vr 6 0, vi x1] μ (RI K) :=
  CS_of pf_Cs_count (Nat.le_of_ble_eq_true rfl) (show SS G m_Cs_count 0 [vr 6 0, vi x1] [] μ (RI K) from wp_s (M := m_Cs_count) (lk := lk_Cs) (tb := tc_Cs_count) (cu := []) lk_Cs_ok (by decide +kernel) 16 true 0 _ _ _ h)
def tc_Cs_finding : List En := [e0 0 (.aload_n 0) 1, eF 1 (.getfield 54) 3 6 8, e0 4 .ireturn 1]
set_option maxRecDepth 100000 in
theorem c_Cs_finding {G : Ge}  {μ : Mm} {K : Int32 → Mm → Prop} (h :
  K (μ.1 6 0 8) μ) :
  CS G m_Cs_finding [vr 6 0] μ (RI K) :=
  CS_of pf_Cs_finding (Nat.le_of_ble_eq_true rfl) (show SS G m_Cs_finding 0 [vr 6 0] [] μ (RI K) from wp_s (M := m_Cs_finding) (lk := lk_Cs) (tb := tc_Cs_finding) (cu := []) lk_Cs_ok (by decide +kernel) 6 true 0 _ _ _ h)
def tc_Cs_findings : List En := [e0 0 (.iload_n 1) 1, eC 1 (.iconst 1) 1 1, eT 2 (.if_icmp .lt 8) 3 10, e0 5 (.iload_n 1) 1, eC 6 (.iconst 5) 1 5, eT 7 (.if_icmp .le 7) 3 14, eC 10 (.iconst (-1)) 1 (-1), eT 11 (.goto 9) 3 20, e0 14 (.aload_n 0) 1, eF 15 (.getfield 50) 3 6 7, e0 18 (.iload_n 1) 1, e0 19 .iaload 1, e0 20 .ireturn 1]
set_option maxRecDepth 100000 in
theorem c_Cs_findings {G : Ge} (x1 : Int32) {μ : Mm} {K : Int32 → Mm → Prop} (h :
  (if x1 < 1 then
   K (-1) μ
  else
   (if x1 ≤ 5 then
    (vp_in x1 6 ∧
     K (μ.1 17 0 x1.toNatClampNeg) μ)
   else
    K (-1) μ))) :
  CS G m_Cs_findings [vr 6 0, vi x1] μ (RI K) :=
  CS_of pf_Cs_findings (Nat.le_of_ble_eq_true rfl) (show SS G m_Cs_findings 0 [vr 6 0, vi x1] [] μ (RI K) from wp_s (M := m_Cs_findings) (lk := lk_Cs) (tb := tc_Cs_findings) (cu := []) lk_Cs_ok (by decide +kernel) 14 true 0 _ _ _ h)
def tc_Ro_digestOn_R : List En := [eD 0 (.ldc2_w 31) 3 31, e0 3 (.lload_n 1) 1, e0 4 .lmul 1, e0 5 (.aload_n 0) 1, eF 6 (.getfield 9) 3 3 1, e0 9 .i2l 1, e0 10 .ladd 1, e0 11 (.lstore_n 3) 1, eC 12 (.iconst 0) 1 0, e0 13 (.istore 5) 2]
set_option maxRecDepth 100000 in
theorem c_Ro_digestOn_R {G : Ge} (i0 : Nat) (l1 : Int64) {μ : Mm} {K : Int64 → Mm → Prop} (h :
  SS G m_Ro_digestOn 15 [vr 3 i0, un, un, vl ((31 * l1) + (Int32.toInt64 (μ.1 3 i0 1))), un, vi 0] [] μ (RL K)) :
  CS G m_Ro_digestOn [vr 3 i0, vl l1] μ (RL K) :=
  CS_of pf_Ro_digestOn (Nat.le_of_ble_eq_true rfl) (show SS G m_Ro_digestOn 0 [vr 3 i0, vl l1, un, un, un, un] [] μ (RL K) from wp_s (M := m_Ro_digestOn) (lk := lk_Ro) (tb := tc_Ro_digestOn_R) (cu := [(15, [true, false, false, true, false, true])]) lk_Ro_ok (by decide +kernel) 14 true 0 _ _ _ h)
def tb_Ro_digestOn_R_15 : List En := [e0 15 (.iload 5) 2, e0 17 (.aload_n 0) 1, eF 18 (.getfield 9) 3 3 1, eT 21 (.if_icmp .ge 24) 3 45, eD 24 (.ldc2_w 31) 3 31, e0 27 (.lload_n 3) 1, e0 28 .lmul 1, e0 29 (.aload_n 0) 1, eF 30 (.getfield 21) 3 3 0, e0 33 (.iload 5) 2, e0 35 .iaload 1, e0 36 .i2l 1, e0 37 .ladd 1, e0 38 (.lstore_n 3) 1, eC 39 (.iinc 5 1) 3 1, eT 42 (.goto (-27)) 3 15, e0 45 (.lload_n 3) 1, e0 46 .lreturn 1]
set_option maxRecDepth 100000 in
theorem b_Ro_digestOn_R_15 {G : Ge} (i0 : Nat) (l3 : Int64) (x5 : Int32) {μ : Mm} {K : Int64 → Mm → Prop} (h :
  (if (μ.1 3 i0 1) ≤ x5 then
   K l3 μ
  else
   (vp_in x5 40 ∧
    SS G m_Ro_digestOn 15 [vr 3 i0, un, un, vl ((31 * l3) + (Int32.toInt64 (μ.1 18 i0 x5.toNatClampNeg))), un, vi (x5 + 1)] [] μ (RL K)))) :
  SS G m_Ro_digestOn 15 [vr 3 i0, un, un, vl l3, un, vi x5] [] μ (RL K) :=
  wp_s (M := m_Ro_digestOn) (lk := lk_Ro) (tb := tb_Ro_digestOn_R_15) (cu := [(15, [true, false, false, true, false, true])]) lk_Ro_ok (by decide +kernel) 20 true _ _ _ _ h
def tc_Ro_digestOn_T : List En := [eD 0 (.ldc2_w 31) 3 31, e0 3 (.lload_n 1) 1, e0 4 .lmul 1, e0 5 (.aload_n 0) 1, eF 6 (.getfield 9) 3 3 1, e0 9 .i2l 1, e0 10 .ladd 1, e0 11 (.lstore_n 3) 1, eC 12 (.iconst 0) 1 0, e0 13 (.istore 5) 2]
set_option maxRecDepth 100000 in
theorem c_Ro_digestOn_T {G : Ge} (i0 : Nat) (l1 : Int64) {μ : Mm} {K : Int64 → Mm → Prop} (h :
  SS G m_Ro_digestOn 15 [vr 8 i0, un, un, vl ((31 * l1) + (Int32.toInt64 (μ.1 8 i0 1))), un, vi 0] [] μ (RL K)) :
  CS G m_Ro_digestOn [vr 8 i0, vl l1] μ (RL K) :=
  CS_of pf_Ro_digestOn (Nat.le_of_ble_eq_true rfl) (show SS G m_Ro_digestOn 0 [vr 8 i0, vl l1, un, un, un, un] [] μ (RL K) from wp_s (M := m_Ro_digestOn) (lk := lk_Ro) (tb := tc_Ro_digestOn_T) (cu := [(15, [true, false, false, true, false, true])]) lk_Ro_ok (by decide +kernel) 14 true 0 _ _ _ h)
def tb_Ro_digestOn_T_15 : List En := [e0 15 (.iload 5) 2, e0 17 (.aload_n 0) 1, eF 18 (.getfield 9) 3 3 1, eT 21 (.if_icmp .ge 24) 3 45, eD 24 (.ldc2_w 31) 3 31, e0 27 (.lload_n 3) 1, e0 28 .lmul 1, e0 29 (.aload_n 0) 1, eF 30 (.getfield 21) 3 3 0, e0 33 (.iload 5) 2, e0 35 .iaload 1, e0 36 .i2l 1, e0 37 .ladd 1, e0 38 (.lstore_n 3) 1, eC 39 (.iinc 5 1) 3 1, eT 42 (.goto (-27)) 3 15, e0 45 (.lload_n 3) 1, e0 46 .lreturn 1]
set_option maxRecDepth 100000 in
theorem b_Ro_digestOn_T_15 {G : Ge} (i0 : Nat) (l3 : Int64) (x5 : Int32) {μ : Mm} {K : Int64 → Mm → Prop} (h :
  (if (μ.1 8 i0 1) ≤ x5 then
   K l3 μ
  else
   (vp_in x5 60 ∧
    SS G m_Ro_digestOn 15 [vr 8 i0, un, un, vl ((31 * l3) + (Int32.toInt64 (μ.1 19 i0 x5.toNatClampNeg))), un, vi (x5 + 1)] [] μ (RL K)))) :
  SS G m_Ro_digestOn 15 [vr 8 i0, un, un, vl l3, un, vi x5] [] μ (RL K) :=
  wp_s (M := m_Ro_digestOn) (lk := lk_Ro) (tb := tb_Ro_digestOn_T_15) (cu := [(15, [true, false, false, true, false, true])]) lk_Ro_ok (by decide +kernel) 20 true _ _ _ _ h
def tc_Cs_digest : List En := [eD 0 (.ldc2_w 289) 3 17, e0 3 (.lstore_n 1) 1, eC 4 (.iconst 0) 1 0, e0 5 (.istore_n 3) 1]
set_option maxRecDepth 100000 in
theorem c_Cs_digest {G : Ge}  {μ : Mm} {K : Int64 → Mm → Prop} (h :
  SS G m_Cs_digest 6 [vr 6 0, vl 17, un, vi 0, un] [] μ (RL K)) :
  CS G m_Cs_digest [vr 6 0] μ (RL K) :=
  CS_of pf_Cs_digest (Nat.le_of_ble_eq_true rfl) (show SS G m_Cs_digest 0 [vr 6 0, un, un, un, un] [] μ (RL K) from wp_s (M := m_Cs_digest) (lk := lk_Cs) (tb := tc_Cs_digest) (cu := [(6, [true, true, false, true, false]), (33, [true, true, false, true, false]), (69, [true, true, false, true, false]), (83, [true, true, false, true, true]), (119, [true, true, false, true, false]), (165, [true, true, false, true, false]), (190, [true, true, false, true, false])]) lk_Cs_ok (by decide +kernel) 8 true 0 _ _ _ h)
def tb_Cs_digest_6 : List En := [e0 6 (.iload_n 3) 1, eC 7 (.bipush 10) 2 10, eT 9 (.if_icmp .ge 22) 3 31, eD 12 (.ldc2_w 291) 3 31, e0 15 (.lload_n 1) 1, e0 16 .lmul 1, e0 17 (.aload_n 0) 1, e0 18 (.iload_n 3) 1, eT 19 (.invokevirtual 293) 3 48, e0 22 .i2l 1, e0 23 .ladd 1, e0 24 (.lstore_n 1) 1, eC 25 (.iinc 3 1) 3 1, eT 28 (.goto (-22)) 3 6, eC 31 (.iconst 0) 1 0, e0 32 (.istore_n 3) 1]
set_option maxRecDepth 100000 in
theorem b_Cs_digest_6 {G : Ge} (l1 : Int64) (x3 : Int32) {μ : Mm} {K : Int64 → Mm → Prop} (h :
  (if (10 : Int32) ≤ x3 then
   SS G m_Cs_digest 33 [vr 6 0, vl l1, un, vi 0, un] [] μ (RL K)
  else
   (CS G m_Cs_count [vr 6 0, vi x3] μ (RI fun v1 μ1 =>
    SS G m_Cs_digest 6 [vr 6 0, vl ((31 * l1) + (Int32.toInt64 v1)), un, vi (x3 + 1), un] [] μ1 (RL K))))) :
  SS G m_Cs_digest 6 [vr 6 0, vl l1, un, vi x3, un] [] μ (RL K) :=
  wp_s (M := m_Cs_digest) (lk := lk_Cs) (tb := tb_Cs_digest_6) (cu := [(6, [true, true, false, true, false]), (33, [true, true, false, true, false]), (69, [true, true, false, true, false]), (83, [true, true, false, true, true]), (119, [true, true, false, true, false]), (165, [true, true, false, true, false]), (190, [true, true, false, true, false])]) lk_Cs_ok (by decide +kernel) 18 true _ _ _ _ h
def tb_Cs_digest_33 : List En := [e0 33 (.iload_n 3) 1, e0 34 (.aload_n 0) 1, eF 35 (.getfield 21) 3 6 2, eF 38 (.getfield 168) 3 4 5, eT 41 (.if_icmp .ge 26) 3 67, eD 44 (.ldc2_w 291) 3 31, e0 47 (.lload_n 1) 1, e0 48 .lmul 1, e0 49 (.aload_n 0) 1, eF 50 (.getfield 21) 3 6 2, eF 53 (.getfield 134) 3 4 0, e0 56 (.iload_n 3) 1, e0 57 .iaload 1, e0 58 .i2l 1, e0 59 .ladd 1, e0 60 (.lstore_n 1) 1, eC 61 (.iinc 3 1) 3 1, eT 64 (.goto (-31)) 3 33, eC 67 (.iconst 0) 1 0, e0 68 (.istore_n 3) 1]
set_option maxRecDepth 100000 in
theorem b_Cs_digest_33 {G : Ge} (l1 : Int64) (x3 : Int32) {μ : Mm} {K : Int64 → Mm → Prop} (h :
  (if (μ.1 4 0 5) ≤ x3 then
   SS G m_Cs_digest 69 [vr 6 0, vl l1, un, vi 0, un] [] μ (RL K)
  else
   (vp_in x3 8 ∧
    SS G m_Cs_digest 33 [vr 6 0, vl ((31 * l1) + (Int32.toInt64 (μ.1 20 0 x3.toNatClampNeg))), un, vi (x3 + 1), un] [] μ (RL K)))) :
  SS G m_Cs_digest 33 [vr 6 0, vl l1, un, vi x3, un] [] μ (RL K) :=
  wp_s (M := m_Cs_digest) (lk := lk_Cs) (tb := tb_Cs_digest_33) (cu := [(6, [true, true, false, true, false]), (33, [true, true, false, true, false]), (69, [true, true, false, true, false]), (83, [true, true, false, true, true]), (119, [true, true, false, true, false]), (165, [true, true, false, true, false]), (190, [true, true, false, true, false])]) lk_Cs_ok (by decide +kernel) 22 true _ _ _ _ h
def tb_Cs_digest_69 : List En := [e0 69 (.iload_n 3) 1, e0 70 (.aload_n 0) 1, eF 71 (.getfield 21) 3 6 2, eF 74 (.getfield 124) 3 4 6, eT 77 (.if_icmp .ge 40) 3 117, eC 80 (.iconst 0) 1 0, e0 81 (.istore 4) 2, eC 117 (.iconst 0) 1 0, e0 118 (.istore_n 3) 1]
set_option maxRecDepth 100000 in
theorem b_Cs_digest_69 {G : Ge} (l1 : Int64) (x3 : Int32) {μ : Mm} {K : Int64 → Mm → Prop} (h :
  (if (μ.1 4 0 6) ≤ x3 then
   SS G m_Cs_digest 119 [vr 6 0, vl l1, un, vi 0, un] [] μ (RL K)
  else
   SS G m_Cs_digest 83 [vr 6 0, vl l1, un, vi x3, vi 0] [] μ (RL K))) :
  SS G m_Cs_digest 69 [vr 6 0, vl l1, un, vi x3, un] [] μ (RL K) :=
  wp_s (M := m_Cs_digest) (lk := lk_Cs) (tb := tb_Cs_digest_69) (cu := [(6, [true, true, false, true, false]), (33, [true, true, false, true, false]), (69, [true, true, false, true, false]), (83, [true, true, false, true, true]), (119, [true, true, false, true, false]), (165, [true, true, false, true, false]), (190, [true, true, false, true, false])]) lk_Cs_ok (by decide +kernel) 11 true _ _ _ _ h
def tb_Cs_digest_83 : List En := [e0 83 (.iload 4) 2, eC 85 (.bipush 6) 2 6, eT 87 (.if_icmp .ge 24) 3 111, eD 90 (.ldc2_w 291) 3 31, e0 93 (.lload_n 1) 1, e0 94 .lmul 1, e0 95 (.aload_n 0) 1, e0 96 (.iload_n 3) 1, e0 97 (.iload 4) 2, eT 99 (.invokevirtual 128) 3 12, e0 102 .i2l 1, e0 103 .ladd 1, e0 104 (.lstore_n 1) 1, eC 105 (.iinc 4 1) 3 1, eT 108 (.goto (-25)) 3 83, eC 111 (.iinc 3 1) 3 1, eT 114 (.goto (-45)) 3 69]
set_option maxRecDepth 100000 in
theorem b_Cs_digest_83 {G : Ge} (l1 : Int64) (x3 : Int32) (x4 : Int32) {μ : Mm} {K : Int64 → Mm → Prop} (h :
  (if (6 : Int32) ≤ x4 then
   SS G m_Cs_digest 69 [vr 6 0, vl l1, un, vi (x3 + 1), un] [] μ (RL K)
  else
   (CS G m_Cs_sideOf [vr 6 0, vi x3, vi x4] μ (RI fun v1 μ1 =>
    SS G m_Cs_digest 83 [vr 6 0, vl ((31 * l1) + (Int32.toInt64 v1)), un, vi x3, vi (x4 + 1)] [] μ1 (RL K))))) :
  SS G m_Cs_digest 83 [vr 6 0, vl l1, un, vi x3, vi x4] [] μ (RL K) :=
  wp_s (M := m_Cs_digest) (lk := lk_Cs) (tb := tb_Cs_digest_83) (cu := [(6, [true, true, false, true, false]), (33, [true, true, false, true, false]), (69, [true, true, false, true, false]), (83, [true, true, false, true, true]), (119, [true, true, false, true, false]), (165, [true, true, false, true, false]), (190, [true, true, false, true, false])]) lk_Cs_ok (by decide +kernel) 19 true _ _ _ _ h
def tb_Cs_digest_119 : List En := [e0 119 (.iload_n 3) 1, eC 120 (.iconst 3) 1 3, eT 121 (.if_icmp .ge 42) 3 163, eD 124 (.ldc2_w 291) 3 31, e0 127 (.lload_n 1) 1, e0 128 .lmul 1, e0 129 (.aload_n 0) 1, eF 130 (.getfield 25) 3 6 3, e0 133 (.iload_n 3) 1, e0 134 .aaload 1, eT 135 (.invokevirtual 180) 3 22, eT 138 (.ifCond .eq 7) 3 145, eC 141 (.iconst (-1)) 1 (-1), eT 142 (.goto 12) 3 154, e0 145 (.aload_n 0) 1, eF 146 (.getfield 25) 3 6 3, e0 149 (.iload_n 3) 1, e0 150 .aaload 1, eF 151 (.getfield 149) 3 4 8, e0 154 .i2l 1, e0 155 .ladd 1, e0 156 (.lstore_n 1) 1, eC 157 (.iinc 3 1) 3 1, eT 160 (.goto (-41)) 3 119, eC 163 (.iconst 0) 1 0, e0 164 (.istore_n 3) 1]
set_option maxRecDepth 100000 in
theorem b_Cs_digest_119 {G : Ge} (l1 : Int64) (x3 : Int32) {μ : Mm} {K : Int64 → Mm → Prop} (h :
  (if (3 : Int32) ≤ x3 then
   SS G m_Cs_digest 165 [vr 6 0, vl l1, un, vi 0, un] [] μ (RL K)
  else
   (vp_in x3 3 ∧
    (CS G m_St_isEmpty [vr 4 (1 + x3.toNatClampNeg)] μ (RI fun v1 μ1 =>
     (if v1 = 0 then
      (vp_in x3 3 ∧
       SS G m_Cs_digest 119 [vr 6 0, vl ((31 * l1) + (Int32.toInt64 (μ1.1 4 (1 + x3.toNatClampNeg) 8))), un, vi (x3 + 1), un] [] μ1 (RL K))
     else
      SS G m_Cs_digest 119 [vr 6 0, vl ((31 * l1) + (Int32.toInt64 (-1))), un, vi (x3 + 1), un] [] μ1 (RL K))))))) :
  SS G m_Cs_digest 119 [vr 6 0, vl l1, un, vi x3, un] [] μ (RL K) :=
  wp_s (M := m_Cs_digest) (lk := lk_Cs) (tb := tb_Cs_digest_119) (cu := [(6, [true, true, false, true, false]), (33, [true, true, false, true, false]), (69, [true, true, false, true, false]), (83, [true, true, false, true, true]), (119, [true, true, false, true, false]), (165, [true, true, false, true, false]), (190, [true, true, false, true, false])]) lk_Cs_ok (by decide +kernel) 26 true _ _ _ _ h
def tb_Cs_digest_165 : List En := [e0 165 (.iload_n 3) 1, eC 166 (.bipush 6) 2 6, eT 168 (.if_icmp .ge 20) 3 188, e0 171 (.aload_n 0) 1, eF 172 (.getfield 11) 3 6 0, e0 175 (.iload_n 3) 1, e0 176 .aaload 1, e0 177 (.lload_n 1) 1, eT 178 (.invokevirtual 296) 3 49, e0 181 (.lstore_n 1) 1, eC 182 (.iinc 3 1) 3 1, eT 185 (.goto (-20)) 3 165, eC 188 (.iconst 0) 1 0, e0 189 (.istore_n 3) 1]
set_option maxRecDepth 100000 in
theorem b_Cs_digest_165 {G : Ge} (l1 : Int64) (x3 : Int32) {μ : Mm} {K : Int64 → Mm → Prop} (h :
  (if (6 : Int32) ≤ x3 then
   SS G m_Cs_digest 190 [vr 6 0, vl l1, un, vi 0, un] [] μ (RL K)
  else
   (vp_in x3 6 ∧
    (CS G m_Ro_digestOn [vr 3 x3.toNatClampNeg, vl l1] μ (RL fun v1 μ1 =>
     SS G m_Cs_digest 165 [vr 6 0, vl v1, un, vi (x3 + 1), un] [] μ1 (RL K)))))) :
  SS G m_Cs_digest 165 [vr 6 0, vl l1, un, vi x3, un] [] μ (RL K) :=
  wp_s (M := m_Cs_digest) (lk := lk_Cs) (tb := tb_Cs_digest_165) (cu := [(6, [true, true, false, true, false]), (33, [true, true, false, true, false]), (69, [true, true, false, true, false]), (83, [true, true, false, true, true]), (119, [true, true, false, true, false]), (165, [true, true, false, true, false]), (190, [true, true, false, true, false])]) lk_Cs_ok (by decide +kernel) 16 true _ _ _ _ h
def tb_Cs_digest_190 : List En := [e0 190 (.iload_n 3) 1, eC 191 (.iconst 4) 1 4, eT 192 (.if_icmp .ge 20) 3 212, e0 195 (.aload_n 0) 1, eF 196 (.getfield 15) 3 6 1, e0 199 (.iload_n 3) 1, e0 200 .aaload 1, e0 201 (.lload_n 1) 1, eT 202 (.invokevirtual 296) 3 49, e0 205 (.lstore_n 1) 1, eC 206 (.iinc 3 1) 3 1, eT 209 (.goto (-19)) 3 190, e0 212 (.lload_n 1) 1, e0 213 .lreturn 1]
set_option maxRecDepth 100000 in
theorem b_Cs_digest_190 {G : Ge} (l1 : Int64) (x3 : Int32) {μ : Mm} {K : Int64 → Mm → Prop} (h :
  (if (4 : Int32) ≤ x3 then
   K l1 μ
  else
   (vp_in x3 4 ∧
    (CS G m_Ro_digestOn [vr 8 x3.toNatClampNeg, vl l1] μ (RL fun v1 μ1 =>
     SS G m_Cs_digest 190 [vr 6 0, vl v1, un, vi (x3 + 1), un] [] μ1 (RL K)))))) :
  SS G m_Cs_digest 190 [vr 6 0, vl l1, un, vi x3, un] [] μ (RL K) :=
  wp_s (M := m_Cs_digest) (lk := lk_Cs) (tb := tb_Cs_digest_190) (cu := [(6, [true, true, false, true, false]), (33, [true, true, false, true, false]), (69, [true, true, false, true, false]), (83, [true, true, false, true, true]), (119, [true, true, false, true, false]), (165, [true, true, false, true, false]), (190, [true, true, false, true, false])]) lk_Cs_ok (by decide +kernel) 16 true _ _ _ _ h
