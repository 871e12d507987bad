def tc_Mo_layLeasts : List En := [eC 0 (.iconst 0) 1 0, e0 1 (.istore_n 1) 1]
set_option maxRecDepth 100000 in
theorem c_Mo_layLeasts {G : Ge}  {μ : Mm} {K : Mm → Prop} (h :
  SS G m_Mo_layLeasts 2 [vr 7 0, vi 0, un] [] μ (RV K)) :
  CS G m_Mo_layLeasts [vr 7 0] μ (RV K) :=
  CS_of pf_Mo_layLeasts (Nat.le_of_ble_eq_true rfl) (show SS G m_Mo_layLeasts 0 [vr 7 0, un, un] [] μ (RV K) from wp_s (M := m_Mo_layLeasts) (lk := lk_Mo) (tb := tc_Mo_layLeasts) (cu := [(2, [true, true, false]), (17, [true, true, true])]) lk_Mo_ok (by decide +kernel) 6 true 0 _ _ _ h)
def tb_Mo_layLeasts_2 : List En := [e0 2 (.iload_n 1) 1, e0 3 (.aload_n 0) 1, eF 4 (.getfield 154) 3 7 10, eT 7 (.if_icmp .ge 56) 3 63, e0 10 (.aload_n 0) 1, e0 11 (.iload_n 1) 1, eT 12 (.invokevirtual 216) 3 29, eC 15 (.iconst 0) 1 0, e0 16 (.istore_n 2) 1, e0 63 .return_ 1]
set_option maxRecDepth 100000 in
theorem b_Mo_layLeasts_2 {G : Ge} (x1 : Int32) {μ : Mm} {K : Mm → Prop} (h :
  (if (μ.1 7 0 10) ≤ x1 then
   K μ
  else
   (CS G m_Mo_layPlans [vr 7 0, vi x1] μ (RV fun μ1 =>
    SS G m_Mo_layLeasts 17 [vr 7 0, vi x1, vi 0] [] μ1 (RV K))))) :
  SS G m_Mo_layLeasts 2 [vr 7 0, vi x1, un] [] μ (RV K) :=
  wp_s (M := m_Mo_layLeasts) (lk := lk_Mo) (tb := tb_Mo_layLeasts_2) (cu := [(2, [true, true, false]), (17, [true, true, true])]) lk_Mo_ok (by decide +kernel) 13 true _ _ _ _ h
def tb_Mo_layLeasts_17 : List En := [e0 17 (.iload_n 2) 1, eC 18 (.bipush 101) 2 101, eT 20 (.if_icmp .ge 37) 3 57, e0 23 (.aload_n 0) 1, eF 24 (.getfield 73) 3 7 29, eC 27 (.bipush 101) 2 101, e0 29 (.iload_n 1) 1, e0 30 .imul 1, e0 31 (.iload_n 2) 1, e0 32 .iadd 1, e0 33 (.aload_n 0) 1, eF 34 (.getfield 70) 3 7 28, eC 37 (.bipush 101) 2 101, e0 39 (.aload_n 0) 1, eF 40 (.getfield 48) 3 7 20, eC 43 (.bipush 15) 2 15, e0 45 .iaload 1, e0 46 .imul 1, e0 47 (.iload_n 2) 1, e0 48 .iadd 1, e0 49 .iaload 1, e0 50 .iastore 1, eC 51 (.iinc 2 1) 3 1, eT 54 (.goto (-37)) 3 17, eC 57 (.iinc 1 1) 3 1, eT 60 (.goto (-58)) 3 2]
set_option maxRecDepth 100000 in
theorem b_Mo_layLeasts_17 {G : Ge} (x1 : Int32) (x2 : Int32) {μ : Mm} {K : Mm → Prop} (h :
  (if (101 : Int32) ≤ x2 then
   SS G m_Mo_layLeasts 2 [vr 7 0, vi (x1 + 1), un] [] μ (RV K)
  else
   (vp_in 15 16 ∧
    (vp_in ((101 * (μ.1 37 0 (Int32.toNatClampNeg 15))) + x2) 909 ∧
     (vp_in ((101 * x1) + x2) 505 ∧
      SS G m_Mo_layLeasts 17 [vr 7 0, vi x1, vi (x2 + 1)] [] (wI μ 45 0 (Int32.toNatClampNeg ((101 * x1) + x2)) (μ.1 44 0 (Int32.toNatClampNeg ((101 * (μ.1 37 0 (Int32.toNatClampNeg 15))) + x2)))) (RV K)))))) :
  SS G m_Mo_layLeasts 17 [vr 7 0, vi x1, vi x2] [] μ (RV K) :=
  wp_s (M := m_Mo_layLeasts) (lk := lk_Mo) (tb := tb_Mo_layLeasts_17) (cu := [(2, [true, true, false]), (17, [true, true, true])]) lk_Mo_ok (by decide +kernel) 28 true _ _ _ _ h
def tc_Mo_leastOf : List En := [e0 0 (.aload_n 0) 1, eF 1 (.getfield 73) 3 7 29, eC 4 (.bipush 101) 2 101, e0 6 (.iload_n 1) 1, e0 7 .imul 1, e0 8 (.iload_n 2) 1, e0 9 .iadd 1, e0 10 .iaload 1, e0 11 .ireturn 1]
set_option maxRecDepth 100000 in
theorem c_Mo_leastOf {G : Ge} (x1 : Int32) (x2 : Int32) {μ : Mm} {K : Int32 → Mm → Prop} (h :
  (vp_in ((101 * x1) + x2) 505 ∧
   K (μ.1 45 0 (Int32.toNatClampNeg ((101 * x1) + x2))) μ)) :
  CS G m_Mo_leastOf [vr 7 0, vi x1, vi x2] μ (RI K) :=
  CS_of pf_Mo_leastOf (Nat.le_of_ble_eq_true rfl) (show SS G m_Mo_leastOf 0 [vr 7 0, vi x1, vi x2] [] μ (RI K) from wp_s (M := m_Mo_leastOf) (lk := lk_Mo) (tb := tc_Mo_leastOf) (cu := []) lk_Mo_ok (by decide +kernel) 12 true 0 _ _ _ h)
def tc_Mo_price : List En := [e0 0 (.aload_n 0) 1, e0 1 (.iload_n 1) 1, eT 2 (.invokevirtual 188) 3 20, eT 5 (.ifCond .ne 5) 3 10, eC 8 (.iconst (-1)) 1 (-1), e0 9 .ireturn 1, e0 10 (.aload_n 0) 1, eT 11 (.invokevirtual 227) 3 32, e0 14 (.aload_n 0) 1, e0 15 (.iload_n 1) 1, e0 16 (.aload_n 0) 1, eF 17 (.getfield 48) 3 7 20, e0 20 (.iload_n 1) 1, e0 21 .iaload 1, eT 22 (.invokevirtual 230) 3 33, e0 25 (.istore_n 2) 1, e0 26 (.aload_n 0) 1, e0 27 (.iload_n 1) 1, e0 28 (.aload_n 0) 1, eF 29 (.getfield 48) 3 7 20, e0 32 (.iload_n 1) 1, e0 33 .iaload 1, eC 34 (.iconst 1) 1 1, e0 35 .iadd 1, eT 36 (.invokevirtual 230) 3 33, e0 39 (.istore_n 3) 1, e0 40 (.iload_n 2) 1, eC 41 (.ldc 215) 2 100000000, eT 43 (.if_icmp .eq 9) 3 52, e0 46 (.iload_n 3) 1, eC 47 (.ldc 215) 2 100000000, eT 49 (.if_icmp .ne 8) 3 57, eC 52 (.bipush (-9)) 2 (-9), eT 54 (.goto 6) 3 60, e0 57 (.iload_n 3) 1, e0 58 (.iload_n 2) 1, e0 59 .isub 1, e0 60 .ireturn 1]
set_option maxRecDepth 100000 in
theorem c_Mo_price {G : Ge} (x1 : Int32) {μ : Mm} {K : Int32 → Mm → Prop} (h :
  (CS G m_Mo_isHouse [vr 7 0, vi x1] μ (RI fun v1 μ1 =>
   (if v1 = 0 then
    K (-1) μ1
   else
    (CS G m_Mo_layLeasts [vr 7 0] μ1 (RV fun μ2 =>
     (vp_in x1 16 ∧
      (CS G m_Mo_leastOf [vr 7 0, vi x1, vi (μ2.1 37 0 x1.toNatClampNeg)] μ2 (RI fun v3 μ3 =>
       (vp_in x1 16 ∧
        (CS G m_Mo_leastOf [vr 7 0, vi x1, vi ((μ3.1 37 0 x1.toNatClampNeg) + 1)] μ3 (RI fun v4 μ4 =>
         (if v3 = 100000000 then
          K (-9) μ4
         else
          (if v4 = 100000000 then
           K (-9) μ4
          else
           K (v4 - v3) μ4)))))))))))))) :
  CS G m_Mo_price [vr 7 0, vi x1] μ (RI K) :=
  CS_of pf_Mo_price (Nat.le_of_ble_eq_true rfl) (show SS G m_Mo_price 0 [vr 7 0, vi x1, un, un] [] μ (RI K) from wp_s (M := m_Mo_price) (lk := lk_Mo) (tb := tc_Mo_price) (cu := []) lk_Mo_ok (by decide +kernel) 37 true 0 _ _ _ h)
def tc_Mo_late : List En := [e0 0 (.aload_n 0) 1, eT 1 (.invokevirtual 227) 3 32, eC 4 (.iconst 0) 1 0, e0 5 (.istore_n 1) 1, eC 6 (.iconst 0) 1 0, e0 7 (.istore_n 2) 1, eC 8 (.iconst 0) 1 0, e0 9 (.istore_n 3) 1]
set_option maxRecDepth 100000 in
theorem c_Mo_late {G : Ge}  {μ : Mm} {K : Int32 → Mm → Prop} (h :
  (CS G m_Mo_layLeasts [vr 7 0] μ (RV fun μ1 =>
   SS G m_Mo_late 10 [vr 7 0, vi 0, vi 0, vi 0, un] [] μ1 (RI K)))) :
  CS G m_Mo_late [vr 7 0] μ (RI K) :=
  CS_of pf_Mo_late (Nat.le_of_ble_eq_true rfl) (show SS G m_Mo_late 0 [vr 7 0, un, un, un, un] [] μ (RI K) from wp_s (M := m_Mo_late) (lk := lk_Mo) (tb := tc_Mo_late) (cu := [(10, [true, true, true, true, false])]) lk_Mo_ok (by decide +kernel) 12 true 0 _ _ _ h)
def tb_Mo_late_10 : List En := [e0 10 (.iload_n 3) 1, e0 11 (.aload_n 0) 1, eF 12 (.getfield 154) 3 7 10, eT 15 (.if_icmp .ge 55) 3 70, e0 18 (.aload_n 0) 1, e0 19 (.iload_n 3) 1, e0 20 (.aload_n 0) 1, eF 21 (.getfield 48) 3 7 20, e0 24 (.iload_n 3) 1, e0 25 .iaload 1, eT 26 (.invokevirtual 230) 3 33, e0 29 (.istore 4) 2, e0 31 (.iload_n 1) 1, e0 32 (.iload 4) 2, eC 34 (.ldc 215) 2 100000000, eT 36 (.if_icmp .ne 9) 3 45, eC 39 (.iconst 1) 1 1, e0 40 (.iload_n 3) 1, e0 41 .ishl 1, eT 42 (.goto 4) 3 46, eC 45 (.iconst 0) 1 0, e0 46 .ior 1, e0 47 (.istore_n 1) 1, e0 48 (.iload_n 2) 1, e0 49 (.iload 4) 2, eC 51 (.ldc 215) 2 100000000, eT 53 (.if_icmp .ne 7) 3 60, eC 56 (.iconst 0) 1 0, eT 57 (.goto 5) 3 62, e0 60 (.iload 4) 2, e0 62 .iadd 1, e0 63 (.istore_n 2) 1, eC 64 (.iinc 3 1) 3 1, eT 67 (.goto (-57)) 3 10, e0 70 (.aload_n 0) 1, e0 71 (.iload_n 2) 1, e0 72 (.iload_n 1) 1, eT 73 (.invokevirtual 121) 3 4, e0 76 .ireturn 1]
set_option maxRecDepth 100000 in
theorem b_Mo_late_10 {G : Ge} (x1 : Int32) (x2 : Int32) (x3 : Int32) {μ : Mm} {K : Int32 → Mm → Prop} (h :
  (if (μ.1 7 0 10) ≤ x3 then
   (CS G m_Mo_tells [vr 7 0, vi x2, vi x1] μ (RI fun v1 μ1 =>
    K v1 μ1))
  else
   (vp_in x3 16 ∧
    (CS G m_Mo_leastOf [vr 7 0, vi x3, vi (μ.1 37 0 x3.toNatClampNeg)] μ (RI fun v2 μ2 =>
     (if v2 = 100000000 then
      (if v2 = 100000000 then
       SS G m_Mo_late 10 [vr 7 0, vi (x1 ||| (1 <<< (x3 &&& 31))), vi (x2 + 0), vi (x3 + 1), un] [] μ2 (RI K)
      else
       SS G m_Mo_late 10 [vr 7 0, vi (x1 ||| (1 <<< (x3 &&& 31))), vi (x2 + v2), vi (x3 + 1), un] [] μ2 (RI K))
     else
      (if v2 = 100000000 then
       SS G m_Mo_late 10 [vr 7 0, vi (x1 ||| 0), vi (x2 + 0), vi (x3 + 1), un] [] μ2 (RI K)
      else
       SS G m_Mo_late 10 [vr 7 0, vi (x1 ||| 0), vi (x2 + v2), vi (x3 + 1), un] [] μ2 (RI K)))))))) :
  SS G m_Mo_late 10 [vr 7 0, vi x1, vi x2, vi x3, un] [] μ (RI K) :=
  wp_s (M := m_Mo_late) (lk := lk_Mo) (tb := tb_Mo_late_10) (cu := [(10, [true, true, true, true, false])]) lk_Mo_ok (by decide +kernel) 36 true _ _ _ _ h
def tc_Mo_gainOf : List En := [e0 0 (.aload_n 0) 1, eF 1 (.getfield 48) 3 7 20, e0 4 (.iload_n 1) 1, e0 5 .iaload 1, eT 6 (.ifCond .ne 6) 3 12, eC 9 (.bipush (-9)) 2 (-9), e0 11 .ireturn 1, e0 12 (.aload_n 0) 1, e0 13 (.iload_n 1) 1, e0 14 (.aload_n 0) 1, eF 15 (.getfield 48) 3 7 20, e0 18 (.iload_n 1) 1, e0 19 .iaload 1, eT 20 (.invokevirtual 230) 3 33, e0 23 (.istore_n 3) 1, e0 24 (.aload_n 0) 1, e0 25 (.iload_n 2) 1, e0 26 (.aload_n 0) 1, eF 27 (.getfield 48) 3 7 20, e0 30 (.iload_n 2) 1, e0 31 .iaload 1, eT 32 (.invokevirtual 230) 3 33, e0 35 (.istore 4) 2, e0 37 (.aload_n 0) 1, e0 38 (.iload_n 1) 1, e0 39 (.aload_n 0) 1, eF 40 (.getfield 48) 3 7 20, e0 43 (.iload_n 1) 1, e0 44 .iaload 1, eC 45 (.iconst 1) 1 1, e0 46 .isub 1, eT 47 (.invokevirtual 230) 3 33, e0 50 (.istore 5) 2, e0 52 (.aload_n 0) 1, e0 53 (.iload_n 2) 1, e0 54 (.aload_n 0) 1, eF 55 (.getfield 48) 3 7 20, e0 58 (.iload_n 2) 1, e0 59 .iaload 1, eC 60 (.iconst 1) 1 1, e0 61 .iadd 1, eT 62 (.invokevirtual 230) 3 33, e0 65 (.istore 6) 2, e0 67 (.iload_n 3) 1, eC 68 (.ldc 215) 2 100000000, eT 70 (.if_icmp .ge 28) 3 98, e0 73 (.iload 4) 2, eC 75 (.ldc 215) 2 100000000, eT 77 (.if_icmp .ge 21) 3 98, e0 80 (.iload 5) 2, eC 82 (.ldc 215) 2 100000000, eT 84 (.if_icmp .ge 14) 3 98, e0 87 (.iload 6) 2, eC 89 (.ldc 215) 2 100000000, eT 91 (.if_icmp .ge 7) 3 98, eC 94 (.iconst 1) 1 1, eT 95 (.goto 4) 3 99, eC 98 (.iconst 0) 1 0, e0 99 (.istore 7) 2, e0 101 (.iload 7) 2, eT 103 (.ifCond .eq 19) 3 122, eC 106 (.bipush 100) 2 100, e0 108 (.iload_n 3) 1, e0 109 .iadd 1, e0 110 (.iload 4) 2, e0 112 .iadd 1, e0 113 (.iload 5) 2, e0 115 .isub 1, e0 116 (.iload 6) 2, e0 118 .isub 1, eT 119 (.goto 5) 3 124, eC 122 (.bipush (-9)) 2 (-9), e0 124 .ireturn 1]
set_option maxRecDepth 100000 in
theorem c_Mo_gainOf {G : Ge} (x1 : Int32) (x2 : Int32) {μ : Mm} {K : Int32 → Mm → Prop} (h :
  (vp_in x1 16 ∧
   (if (μ.1 37 0 x1.toNatClampNeg) = 0 then
    K (-9) μ
   else
    (vp_in x1 16 ∧
     (CS G m_Mo_leastOf [vr 7 0, vi x1, vi (μ.1 37 0 x1.toNatClampNeg)] μ (RI fun v1 μ1 =>
      (vp_in x2 16 ∧
       (CS G m_Mo_leastOf [vr 7 0, vi x2, vi (μ1.1 37 0 x2.toNatClampNeg)] μ1 (RI fun v2 μ2 =>
        (vp_in x1 16 ∧
         (CS G m_Mo_leastOf [vr 7 0, vi x1, vi ((μ2.1 37 0 x1.toNatClampNeg) - 1)] μ2 (RI fun v3 μ3 =>
          (vp_in x2 16 ∧
           (CS G m_Mo_leastOf [vr 7 0, vi x2, vi ((μ3.1 37 0 x2.toNatClampNeg) + 1)] μ3 (RI fun v4 μ4 =>
            (if (100000000 : Int32) ≤ v1 then
             (if (0 : Int32) = 0 then
              K (-9) μ4
             else
              K ((((100 + v1) + v2) - v3) - v4) μ4)
            else
             (if (100000000 : Int32) ≤ v2 then
              (if (0 : Int32) = 0 then
               K (-9) μ4
              else
               K ((((100 + v1) + v2) - v3) - v4) μ4)
             else
              (if (100000000 : Int32) ≤ v3 then
               (if (0 : Int32) = 0 then
                K (-9) μ4
               else
                K ((((100 + v1) + v2) - v3) - v4) μ4)
              else
               (if (100000000 : Int32) ≤ v4 then
                (if (0 : Int32) = 0 then
                 K (-9) μ4
                else
                 K ((((100 + v1) + v2) - v3) - v4) μ4)
               else
                (if (1 : Int32) = 0 then
                 K (-9) μ4
                else
                 K ((((100 + v1) + v2) - v3) - v4) μ4)))))))))))))))))))) :
  CS G m_Mo_gainOf [vr 7 0, vi x1, vi x2] μ (RI K) :=
  CS_of pf_Mo_gainOf (Nat.le_of_ble_eq_true rfl) (show SS G m_Mo_gainOf 0 [vr 7 0, vi x1, vi x2, un, un, un, un, un] [] μ (RI K) from wp_s (M := m_Mo_gainOf) (lk := lk_Mo) (tb := tc_Mo_gainOf) (cu := []) lk_Mo_ok (by decide +kernel) 72 true 0 _ _ _ h)
def tc_Mo_gain : List En := [e0 0 (.aload_n 0) 1, e0 1 (.iload_n 1) 1, eT 2 (.invokevirtual 188) 3 20, eT 5 (.ifCond .eq 16) 3 21, e0 8 (.aload_n 0) 1, e0 9 (.iload_n 2) 1, eT 10 (.invokevirtual 188) 3 20, eT 13 (.ifCond .eq 8) 3 21, e0 16 (.iload_n 1) 1, e0 17 (.iload_n 2) 1, eT 18 (.if_icmp .ne 5) 3 23, eC 21 (.iconst (-1)) 1 (-1), e0 22 .ireturn 1, e0 23 (.aload_n 0) 1, eT 24 (.invokevirtual 227) 3 32, e0 27 (.aload_n 0) 1, e0 28 (.iload_n 1) 1, e0 29 (.iload_n 2) 1, eT 30 (.invokevirtual 233) 3 34, e0 33 .ireturn 1]
set_option maxRecDepth 100000 in
theorem c_Mo_gain {G : Ge} (x1 : Int32) (x2 : Int32) {μ : Mm} {K : Int32 → Mm → Prop} (h :
  (CS G m_Mo_isHouse [vr 7 0, vi x1] μ (RI fun v1 μ1 =>
   (if v1 = 0 then
    K (-1) μ1
   else
    (CS G m_Mo_isHouse [vr 7 0, vi x2] μ1 (RI fun v2 μ2 =>
     (if v2 = 0 then
      K (-1) μ2
     else
      (if x1 = x2 then
       K (-1) μ2
      else
       (CS G m_Mo_layLeasts [vr 7 0] μ2 (RV fun μ3 =>
        (CS G m_Mo_gainOf [vr 7 0, vi x1, vi x2] μ3 (RI fun v4 μ4 =>
         K v4 μ4)))))))))))) :
  CS G m_Mo_gain [vr 7 0, vi x1, vi x2] μ (RI K) :=
  CS_of pf_Mo_gain (Nat.le_of_ble_eq_true rfl) (show SS G m_Mo_gain 0 [vr 7 0, vi x1, vi x2] [] μ (RI K) from wp_s (M := m_Mo_gain) (lk := lk_Mo) (tb := tc_Mo_gain) (cu := []) lk_Mo_ok (by decide +kernel) 21 true 0 _ _ _ h)
def tc_Mo_sales : List En := [e0 0 (.aload_n 0) 1, eT 1 (.invokevirtual 227) 3 32, eC 4 (.iconst 0) 1 0, e0 5 (.istore_n 1) 1, eC 6 (.bipush (-9)) 2 (-9), e0 8 (.istore_n 2) 1, eC 9 (.bipush 100) 2 100, e0 11 (.istore_n 3) 1, eC 12 (.iconst 0) 1 0, e0 13 (.istore 4) 2]
set_option maxRecDepth 100000 in
theorem c_Mo_sales {G : Ge}  {μ : Mm} {K : Int32 → Mm → Prop} (h :
  (CS G m_Mo_layLeasts [vr 7 0] μ (RV fun μ1 =>
   SS G m_Mo_sales 15 [vr 7 0, vi 0, vi (-9), vi 100, vi 0, un, un] [] μ1 (RI K)))) :
  CS G m_Mo_sales [vr 7 0] μ (RI K) :=
  CS_of pf_Mo_sales (Nat.le_of_ble_eq_true rfl) (show SS G m_Mo_sales 0 [vr 7 0, un, un, un, un, un, un] [] μ (RI K) from wp_s (M := m_Mo_sales) (lk := lk_Mo) (tb := tc_Mo_sales) (cu := [(15, [true, true, true, true, true, false, false]), (27, [true, true, true, true, true, true, false])]) lk_Mo_ok (by decide +kernel) 14 true 0 _ _ _ h)
def tb_Mo_sales_15 : List En := [e0 15 (.iload 4) 2, e0 17 (.aload_n 0) 1, eF 18 (.getfield 154) 3 7 10, eT 21 (.if_icmp .ge 96) 3 117, eC 24 (.iconst 0) 1 0, e0 25 (.istore 5) 2, e0 117 (.aload_n 0) 1, e0 118 (.iload_n 2) 1, e0 119 (.iload_n 1) 1, eT 120 (.invokevirtual 121) 3 4, e0 123 .ireturn 1]
set_option maxRecDepth 100000 in
theorem b_Mo_sales_15 {G : Ge} (x1 : Int32) (x2 : Int32) (x3 : Int32) (x4 : Int32) {μ : Mm} {K : Int32 → Mm → Prop} (h :
  (if (μ.1 7 0 10) ≤ x4 then
   (CS G m_Mo_tells [vr 7 0, vi x2, vi x1] μ (RI fun v1 μ1 =>
    K v1 μ1))
  else
   SS G m_Mo_sales 27 [vr 7 0, vi x1, vi x2, vi x3, vi x4, vi 0, un] [] μ (RI K))) :
  SS G m_Mo_sales 15 [vr 7 0, vi x1, vi x2, vi x3, vi x4, un, un] [] μ (RI K) :=
  wp_s (M := m_Mo_sales) (lk := lk_Mo) (tb := tb_Mo_sales_15) (cu := [(15, [true, true, true, true, true, false, false]), (27, [true, true, true, true, true, true, false])]) lk_Mo_ok (by decide +kernel) 12 true _ _ _ _ h
def tb_Mo_sales_27 : List En := [e0 27 (.iload 5) 2, e0 29 (.aload_n 0) 1, eF 30 (.getfield 154) 3 7 10, eT 33 (.if_icmp .ge 78) 3 111, e0 36 (.iload 4) 2, e0 38 (.iload 5) 2, eT 40 (.if_icmp .ne 8) 3 48, eC 43 (.bipush (-9)) 2 (-9), eT 45 (.goto 11) 3 56, e0 48 (.aload_n 0) 1, e0 49 (.iload 4) 2, e0 51 (.iload 5) 2, eT 53 (.invokevirtual 233) 3 34, e0 56 (.istore 6) 2, e0 58 (.iload_n 1) 1, e0 59 (.iload 6) 2, eC 61 (.bipush 100) 2 100, eT 63 (.if_icmp .le 7) 3 70, eC 66 (.iconst 1) 1 1, eT 67 (.goto 4) 3 71, eC 70 (.iconst 0) 1 0, e0 71 .iadd 1, e0 72 (.istore_n 1) 1, e0 73 (.iload 6) 2, e0 75 (.iload_n 3) 1, eT 76 (.if_icmp .le 14) 3 90, eC 79 (.bipush 6) 2 6, e0 81 (.iload 4) 2, e0 83 .imul 1, e0 84 (.iload 5) 2, e0 86 .iadd 1, eT 87 (.goto 4) 3 91, e0 90 (.iload_n 2) 1, e0 91 (.istore_n 2) 1, e0 92 (.iload 6) 2, e0 94 (.iload_n 3) 1, eT 95 (.if_icmp .le 8) 3 103, e0 98 (.iload 6) 2, eT 100 (.goto 4) 3 104, e0 103 (.iload_n 3) 1, e0 104 (.istore_n 3) 1, eC 105 (.iinc 5 1) 3 1, eT 108 (.goto (-81)) 3 27, eC 111 (.iinc 4 1) 3 1, eT 114 (.goto (-99)) 3 15]
set_option maxRecDepth 100000 in
theorem b_Mo_sales_27 {G : Ge} (x1 : Int32) (x2 : Int32) (x3 : Int32) (x4 : Int32) (x5 : Int32) {μ : Mm} {K : Int32 → Mm → Prop} (h :
  (if (μ.1 7 0 10) ≤ x5 then
   SS G m_Mo_sales 15 [vr 7 0, vi x1, vi x2, vi x3, vi (x4 + 1), un, un] [] μ (RI K)
  else
   (if x4 = x5 then
    (if ((-9) : Int32) ≤ 100 then
     (if ((-9) : Int32) ≤ x3 then
      (if ((-9) : Int32) ≤ x3 then
       SS G m_Mo_sales 27 [vr 7 0, vi (x1 + 0), vi x2, vi x3, vi x4, vi (x5 + 1), un] [] μ (RI K)
      else
       SS G m_Mo_sales 27 [vr 7 0, vi (x1 + 0), vi x2, vi (-9), vi x4, vi (x5 + 1), un] [] μ (RI K))
     else
      (if ((-9) : Int32) ≤ x3 then
       SS G m_Mo_sales 27 [vr 7 0, vi (x1 + 0), vi ((6 * x4) + x5), vi x3, vi x4, vi (x5 + 1), un] [] μ (RI K)
      else
       SS G m_Mo_sales 27 [vr 7 0, vi (x1 + 0), vi ((6 * x4) + x5), vi (-9), vi x4, vi (x5 + 1), un] [] μ (RI K)))
    else
     (if ((-9) : Int32) ≤ x3 then
      (if ((-9) : Int32) ≤ x3 then
       SS G m_Mo_sales 27 [vr 7 0, vi (x1 + 1), vi x2, vi x3, vi x4, vi (x5 + 1), un] [] μ (RI K)
      else
       SS G m_Mo_sales 27 [vr 7 0, vi (x1 + 1), vi x2, vi (-9), vi x4, vi (x5 + 1), un] [] μ (RI K))
     else
      (if ((-9) : Int32) ≤ x3 then
       SS G m_Mo_sales 27 [vr 7 0, vi (x1 + 1), vi ((6 * x4) + x5), vi x3, vi x4, vi (x5 + 1), un] [] μ (RI K)
      else
       SS G m_Mo_sales 27 [vr 7 0, vi (x1 + 1), vi ((6 * x4) + x5), vi (-9), vi x4, vi (x5 + 1), un] [] μ (RI K))))
   else
    (CS G m_Mo_gainOf [vr 7 0, vi x4, vi x5] μ (RI fun v1 μ1 =>
     (if v1 ≤ 100 then
      (if v1 ≤ x3 then
       (if v1 ≤ x3 then
        SS G m_Mo_sales 27 [vr 7 0, vi (x1 + 0), vi x2, vi x3, vi x4, vi (x5 + 1), un] [] μ1 (RI K)
       else
        SS G m_Mo_sales 27 [vr 7 0, vi (x1 + 0), vi x2, vi v1, vi x4, vi (x5 + 1), un] [] μ1 (RI K))
      else
       (if v1 ≤ x3 then
        SS G m_Mo_sales 27 [vr 7 0, vi (x1 + 0), vi ((6 * x4) + x5), vi x3, vi x4, vi (x5 + 1), un] [] μ1 (RI K)
       else
        SS G m_Mo_sales 27 [vr 7 0, vi (x1 + 0), vi ((6 * x4) + x5), vi v1, vi x4, vi (x5 + 1), un] [] μ1 (RI K)))
     else
      (if v1 ≤ x3 then
       (if v1 ≤ x3 then
        SS G m_Mo_sales 27 [vr 7 0, vi (x1 + 1), vi x2, vi x3, vi x4, vi (x5 + 1), un] [] μ1 (RI K)
       else
        SS G m_Mo_sales 27 [vr 7 0, vi (x1 + 1), vi x2, vi v1, vi x4, vi (x5 + 1), un] [] μ1 (RI K))
      else
       (if v1 ≤ x3 then
        SS G m_Mo_sales 27 [vr 7 0, vi (x1 + 1), vi ((6 * x4) + x5), vi x3, vi x4, vi (x5 + 1), un] [] μ1 (RI K)
       else
        SS G m_Mo_sales 27 [vr 7 0, vi (x1 + 1), vi ((6 * x4) + x5), vi v1, vi x4, vi (x5 + 1), un] [] μ1 (RI K))))))))) :
  SS G m_Mo_sales 27 [vr 7 0, vi x1, vi x2, vi x3, vi x4, vi x5, un] [] μ (RI K) :=
  wp_s (M := m_Mo_sales) (lk := lk_Mo) (tb := tb_Mo_sales_27) (cu := [(15, [true, true, true, true, true, false, false]), (27, [true, true, true, true, true, true, false])]) lk_Mo_ok (by decide +kernel) 42 true _ _ _ _ h
def tc_Mo_everybody : List En := [eC 0 (.iconst 1) 1 1, e0 1 (.aload_n 0) 1, eF 2 (.getfield 154) 3 7 10, e0 5 .ishl 1, eC 6 (.iconst 1) 1 1, e0 7 .isub 1, e0 8 .ireturn 1]
set_option maxRecDepth 100000 in
theorem c_Mo_everybody {G : Ge}  {μ : Mm} {K : Int32 → Mm → Prop} (h :
  K ((1 <<< ((μ.1 7 0 10) &&& 31)) - 1) μ) :
  CS G m_Mo_everybody [vr 7 0] μ (RI K) :=
  CS_of pf_Mo_everybody (Nat.le_of_ble_eq_true rfl) (show SS G m_Mo_everybody 0 [vr 7 0] [] μ (RI K) from wp_s (M := m_Mo_everybody) (lk := lk_Mo) (tb := tc_Mo_everybody) (cu := []) lk_Mo_ok (by decide +kernel) 10 true 0 _ _ _ h)
def tc_Mo_has : List En := [e0 0 (.iload_n 0) 1, e0 1 (.iload_n 1) 1, e0 2 .ishr 1, eC 3 (.iconst 1) 1 1, e0 4 .iand 1, eC 5 (.iconst 1) 1 1, eT 6 (.if_icmp .ne 7) 3 13, eC 9 (.iconst 1) 1 1, eT 10 (.goto 4) 3 14, eC 13 (.iconst 0) 1 0, e0 14 .ireturn 1]
set_option maxRecDepth 100000 in
theorem c_Mo_has {G : Ge} (x0 : Int32) (x1 : Int32) {μ : Mm} {K : Int32 → Mm → Prop} (h :
  (if ((x0 >>> (x1 &&& 31)) &&& 1) = 1 then
   (((1 : Int32) = 0 ∨ (1 : Int32) = 1) ∧ K 1 μ)
  else
   (((0 : Int32) = 0 ∨ (0 : Int32) = 1) ∧ K 0 μ))) :
  CS G m_Mo_has [vi x0, vi x1] μ (RI K) :=
  CS_of pf_Mo_has (Nat.le_of_ble_eq_true rfl) (show SS G m_Mo_has 0 [vi x0, vi x1] [] μ (RI K) from wp_s (M := m_Mo_has) (lk := lk_Mo) (tb := tc_Mo_has) (cu := []) lk_Mo_ok (by decide +kernel) 13 true 0 _ _ _ h)
def tc_Mo_owedBy : List En := [eC 0 (.iconst 0) 1 0, e0 1 (.istore_n 2) 1, eC 2 (.iconst 0) 1 0, e0 3 (.istore_n 3) 1]
set_option maxRecDepth 100000 in
theorem c_Mo_owedBy {G : Ge} (x1 : Int32) {μ : Mm} {K : Int32 → Mm → Prop} (h :
  SS G m_Mo_owedBy 4 [vr 7 0, vi x1, vi 0, vi 0] [] μ (RI K)) :
  CS G m_Mo_owedBy [vr 7 0, vi x1] μ (RI K) :=
  CS_of pf_Mo_owedBy (Nat.le_of_ble_eq_true rfl) (show SS G m_Mo_owedBy 0 [vr 7 0, vi x1, un, un] [] μ (RI K) from wp_s (M := m_Mo_owedBy) (lk := lk_Mo) (tb := tc_Mo_owedBy) (cu := [(4, [true, true, true, true])]) lk_Mo_ok (by decide +kernel) 8 true 0 _ _ _ h)
def tb_Mo_owedBy_4 : List En := [e0 4 (.iload_n 3) 1, e0 5 (.aload_n 0) 1, eF 6 (.getfield 154) 3 7 10, eT 9 (.if_icmp .ge 30) 3 39, e0 12 (.iload_n 2) 1, e0 13 (.iload_n 1) 1, e0 14 (.iload_n 3) 1, eT 15 (.invokestatic 236) 3 35, eT 18 (.ifCond .eq 12) 3 30, e0 21 (.aload_n 0) 1, eF 22 (.getfield 48) 3 7 20, e0 25 (.iload_n 3) 1, e0 26 .iaload 1, eT 27 (.goto 4) 3 31, eC 30 (.iconst 0) 1 0, e0 31 .iadd 1, e0 32 (.istore_n 2) 1, eC 33 (.iinc 3 1) 3 1, eT 36 (.goto (-32)) 3 4, e0 39 (.iload_n 2) 1, e0 40 .ireturn 1]
set_option maxRecDepth 100000 in
theorem b_Mo_owedBy_4 {G : Ge} (x1 : Int32) (x2 : Int32) (x3 : Int32) {μ : Mm} {K : Int32 → Mm → Prop} (h :
  (if (μ.1 7 0 10) ≤ x3 then
   K x2 μ
  else
   (CS G m_Mo_has [vi x1, vi x3] μ (RI fun v1 μ1 =>
    (if v1 = 0 then
     SS G m_Mo_owedBy 4 [vr 7 0, vi x1, vi (x2 + 0), vi (x3 + 1)] [] μ1 (RI K)
    else
     (vp_in x3 16 ∧
      SS G m_Mo_owedBy 4 [vr 7 0, vi x1, vi (x2 + (μ1.1 37 0 x3.toNatClampNeg)), vi (x3 + 1)] [] μ1 (RI K))))))) :
  SS G m_Mo_owedBy 4 [vr 7 0, vi x1, vi x2, vi x3] [] μ (RI K) :=
  wp_s (M := m_Mo_owedBy) (lk := lk_Mo) (tb := tb_Mo_owedBy_4) (cu := [(4, [true, true, true, true])]) lk_Mo_ok (by decide +kernel) 22 true _ _ _ _ h
def tc_Mo_sharedAt : List En := [eC 0 (.sipush 501) 3 501, e0 3 (.iload_n 0) 1, e0 4 .imul 1, e0 5 (.iload_n 1) 1, e0 6 .iadd 1, e0 7 .ireturn 1]
set_option maxRecDepth 100000 in
theorem c_Mo_sharedAt {G : Ge} (x0 : Int32) (x1 : Int32) {μ : Mm} {K : Int32 → Mm → Prop} (h :
  K ((501 * x0) + x1) μ) :
  CS G m_Mo_sharedAt [vi x0, vi x1] μ (RI K) :=
  CS_of pf_Mo_sharedAt (Nat.le_of_ble_eq_true rfl) (show SS G m_Mo_sharedAt 0 [vi x0, vi x1] [] μ (RI K) from wp_s (M := m_Mo_sharedAt) (lk := lk_Mo) (tb := tc_Mo_sharedAt) (cu := []) lk_Mo_ok (by decide +kernel) 9 true 0 _ _ _ h)
def tc_Mo_shareOf : List En := [e0 0 (.aload_n 0) 1, e0 1 (.iload_n 1) 1, eT 2 (.invokevirtual 240) 3 36, e0 5 (.istore_n 2) 1, eC 6 (.iconst 0) 1 0, e0 7 (.istore_n 3) 1]
set_option maxRecDepth 100000 in
theorem c_Mo_shareOf {G : Ge} (x1 : Int32) {μ : Mm} {K : Int32 → Mm → Prop} (h :
  (CS G m_Mo_owedBy [vr 7 0, vi x1] μ (RI fun v1 μ1 =>
   SS G m_Mo_shareOf 8 [vr 7 0, vi x1, vi v1, vi 0, un, un, un, un, un] [] μ1 (RI K)))) :
  CS G m_Mo_shareOf [vr 7 0, vi x1] μ (RI K) :=
  CS_of pf_Mo_shareOf (Nat.le_of_ble_eq_true rfl) (show SS G m_Mo_shareOf 0 [vr 7 0, vi x1, un, un, un, un, un, un, un] [] μ (RI K) from wp_s (M := m_Mo_shareOf) (lk := lk_Mo) (tb := tc_Mo_shareOf) (cu := [(8, [true, true, true, true, false, false, false, false, false]), (49, [true, true, true, true, false, false, false, false, false]), (80, [true, true, true, true, true, true, false, false, false]), (93, [true, true, true, true, true, true, true, true, false])]) lk_Mo_ok (by decide +kernel) 10 true 0 _ _ _ h)
def tb_Mo_shareOf_8 : List En := [e0 8 (.iload_n 3) 1, e0 9 (.iload_n 2) 1, eT 10 (.if_icmp .gt 32) 3 42, e0 13 (.aload_n 0) 1, eF 14 (.getfield 79) 3 7 31, e0 17 (.aload_n 0) 1, eF 18 (.getfield 154) 3 7 10, e0 21 (.iload_n 3) 1, eT 22 (.invokestatic 243) 3 37, e0 25 (.iload_n 3) 1, eT 26 (.ifCond .ne 7) 3 33, eC 29 (.iconst 0) 1 0, eT 30 (.goto 5) 3 35, eC 33 (.ldc 215) 2 100000000, e0 35 .iastore 1, eC 36 (.iinc 3 1) 3 1, eT 39 (.goto (-31)) 3 8, e0 42 (.aload_n 0) 1, eF 43 (.getfield 154) 3 7 10, eC 46 (.iconst 1) 1 1, e0 47 .isub 1, e0 48 (.istore_n 3) 1]
set_option maxRecDepth 100000 in
theorem b_Mo_shareOf_8 {G : Ge} (x1 : Int32) (x2 : Int32) (x3 : Int32) {μ : Mm} {K : Int32 → Mm → Prop} (h :
  (if x2 < x3 then
   SS G m_Mo_shareOf 49 [vr 7 0, vi x1, vi x2, vi ((μ.1 7 0 10) - 1), un, un, un, un, un] [] μ (RI K)
  else
   (CS G m_Mo_sharedAt [vi (μ.1 7 0 10), vi x3] μ (RI fun v1 μ1 =>
    (if x3 = 0 then
     (vp_in v1 3006 ∧
      SS G m_Mo_shareOf 8 [vr 7 0, vi x1, vi x2, vi (x3 + 1), un, un, un, un, un] [] (wI μ1 47 0 v1.toNatClampNeg 0) (RI K))
    else
     (vp_in v1 3006 ∧
      SS G m_Mo_shareOf 8 [vr 7 0, vi x1, vi x2, vi (x3 + 1), un, un, un, un, un] [] (wI μ1 47 0 v1.toNatClampNeg 100000000) (RI K))))))) :
  SS G m_Mo_shareOf 8 [vr 7 0, vi x1, vi x2, vi x3, un, un, un, un, un] [] μ (RI K) :=
  wp_s (M := m_Mo_shareOf) (lk := lk_Mo) (tb := tb_Mo_shareOf_8) (cu := [(8, [true, true, true, true, false, false, false, false, false]), (49, [true, true, true, true, false, false, false, false, false]), (80, [true, true, true, true, true, true, false, false, false]), (93, [true, true, true, true, true, true, true, true, false])]) lk_Mo_ok (by decide +kernel) 20 true _ _ _ _ h
def tb_Mo_shareOf_49 : List En := [e0 49 (.iload_n 3) 1, eT 50 (.ifCond .lt 140) 3 190, e0 53 (.iload_n 1) 1, e0 54 (.iload_n 3) 1, eT 55 (.invokestatic 236) 3 35, eT 58 (.ifCond .eq 16) 3 74, eC 61 (.bipush 99) 2 99, e0 63 (.aload_n 0) 1, e0 64 (.iload_n 3) 1, eT 65 (.invokevirtual 220) 3 30, eT 68 (.invokestatic 169) 3 14, eT 71 (.goto 4) 3 75, eC 74 (.iconst 0) 1 0, e0 75 (.istore 4) 2, eC 77 (.iconst 0) 1 0, e0 78 (.istore 5) 2, e0 190 (.aload_n 0) 1, eF 191 (.getfield 79) 3 7 31, eC 194 (.iconst 0) 1 0, e0 195 (.iload_n 2) 1, eT 196 (.invokestatic 243) 3 37, e0 199 .iaload 1, e0 200 .ireturn 1]
set_option maxRecDepth 100000 in
theorem b_Mo_shareOf_49 {G : Ge} (x1 : Int32) (x2 : Int32) (x3 : Int32) {μ : Mm} {K : Int32 → Mm → Prop} (h :
  (if x3 < 0 then
   (CS G m_Mo_sharedAt [vi 0, vi x2] μ (RI fun v1 μ1 =>
    (vp_in v1 3006 ∧
     K (μ1.1 47 0 v1.toNatClampNeg) μ1)))
  else
   (CS G m_Mo_has [vi x1, vi x3] μ (RI fun v2 μ2 =>
    (if v2 = 0 then
     SS G m_Mo_shareOf 80 [vr 7 0, vi x1, vi x2, vi x3, vi 0, vi 0, un, un, un] [] μ2 (RI K)
    else
     (CS G m_Mo_mostOf [vr 7 0, vi x3] μ2 (RI fun v3 μ3 =>
      (CS G m_Mo_lesser [vi 99, vi v3] μ3 (RI fun v4 μ4 =>
       SS G m_Mo_shareOf 80 [vr 7 0, vi x1, vi x2, vi x3, vi v4, vi 0, un, un, un] [] μ4 (RI K)))))))))) :
  SS G m_Mo_shareOf 49 [vr 7 0, vi x1, vi x2, vi x3, un, un, un, un, un] [] μ (RI K) :=
  wp_s (M := m_Mo_shareOf) (lk := lk_Mo) (tb := tb_Mo_shareOf_49) (cu := [(8, [true, true, true, true, false, false, false, false, false]), (49, [true, true, true, true, false, false, false, false, false]), (80, [true, true, true, true, true, true, false, false, false]), (93, [true, true, true, true, true, true, true, true, false])]) lk_Mo_ok (by decide +kernel) 19 true _ _ _ _ h
def tb_Mo_shareOf_80 : List En := [e0 80 (.iload 5) 2, e0 82 (.iload_n 2) 1, eT 83 (.if_icmp .gt 101) 3 184, eC 86 (.ldc 215) 2 100000000, e0 88 (.istore 6) 2, eC 90 (.iconst 0) 1 0, e0 91 (.istore 7) 2, eC 184 (.iinc 3 (-1)) 3 (-1), eT 187 (.goto (-138)) 3 49]
set_option maxRecDepth 100000 in
theorem b_Mo_shareOf_80 {G : Ge} (x1 : Int32) (x2 : Int32) (x3 : Int32) (x4 : Int32) (x5 : Int32) {μ : Mm} {K : Int32 → Mm → Prop} (h :
  (if x2 < x5 then
   SS G m_Mo_shareOf 49 [vr 7 0, vi x1, vi x2, vi (x3 + (-1)), un, un, un, un, un] [] μ (RI K)
  else
   SS G m_Mo_shareOf 93 [vr 7 0, vi x1, vi x2, vi x3, vi x4, vi x5, vi 100000000, vi 0, un] [] μ (RI K))) :
  SS G m_Mo_shareOf 80 [vr 7 0, vi x1, vi x2, vi x3, vi x4, vi x5, un, un, un] [] μ (RI K) :=
  wp_s (M := m_Mo_shareOf) (lk := lk_Mo) (tb := tb_Mo_shareOf_80) (cu := [(8, [true, true, true, true, false, false, false, false, false]), (49, [true, true, true, true, false, false, false, false, false]), (80, [true, true, true, true, true, true, false, false, false]), (93, [true, true, true, true, true, true, true, true, false])]) lk_Mo_ok (by decide +kernel) 11 true _ _ _ _ h
def tb_Mo_shareOf_93 : List En := [e0 93 (.iload 7) 2, e0 95 (.iload 4) 2, eT 97 (.if_icmp .gt 63) 3 160, e0 100 (.iload 7) 2, e0 102 (.iload 5) 2, eT 104 (.if_icmp .gt 56) 3 160, e0 107 (.iload_n 1) 1, e0 108 (.iload_n 3) 1, eT 109 (.invokestatic 236) 3 35, eT 112 (.ifCond .eq 13) 3 125, e0 115 (.aload_n 0) 1, e0 116 (.iload_n 3) 1, e0 117 (.iload 7) 2, eT 119 (.invokevirtual 230) 3 33, eT 122 (.goto 4) 3 126, eC 125 (.iconst 0) 1 0, e0 126 (.istore 8) 2, e0 128 (.iload 6) 2, e0 130 (.iload 8) 2, e0 132 (.aload_n 0) 1, eF 133 (.getfield 79) 3 7 31, e0 136 (.iload_n 3) 1, eC 137 (.iconst 1) 1 1, e0 138 .iadd 1, e0 139 (.iload 5) 2, e0 141 (.iload 7) 2, e0 143 .isub 1, eT 144 (.invokestatic 243) 3 37, e0 147 .iaload 1, e0 148 .iadd 1, eT 149 (.invokestatic 169) 3 14, e0 152 (.istore 6) 2, eC 154 (.iinc 7 1) 3 1, eT 157 (.goto (-64)) 3 93, e0 160 (.aload_n 0) 1, eF 161 (.getfield 79) 3 7 31, e0 164 (.iload_n 3) 1, e0 165 (.iload 5) 2, eT 167 (.invokestatic 243) 3 37, eC 170 (.ldc 215) 2 100000000, e0 172 (.iload 6) 2, eT 174 (.invokestatic 169) 3 14, e0 177 .iastore 1, eC 178 (.iinc 5 1) 3 1, eT 181 (.goto (-101)) 3 80]
set_option maxRecDepth 100000 in
theorem b_Mo_shareOf_93 {G : Ge} (x1 : Int32) (x2 : Int32) (x3 : Int32) (x4 : Int32) (x5 : Int32) (x6 : Int32) (x7 : Int32) {μ : Mm} {K : Int32 → Mm → Prop} (h :
  (if x4 < x7 then
   (CS G m_Mo_sharedAt [vi x3, vi x5] μ (RI fun v1 μ1 =>
    (CS G m_Mo_lesser [vi 100000000, vi x6] μ1 (RI fun v2 μ2 =>
     (vp_in v1 3006 ∧
      SS G m_Mo_shareOf 80 [vr 7 0, vi x1, vi x2, vi x3, vi x4, vi (x5 + 1), un, un, un] [] (wI μ2 47 0 v1.toNatClampNeg v2) (RI K))))))
  else
   (if x5 < x7 then
    (CS G m_Mo_sharedAt [vi x3, vi x5] μ (RI fun v3 μ3 =>
     (CS G m_Mo_lesser [vi 100000000, vi x6] μ3 (RI fun v4 μ4 =>
      (vp_in v3 3006 ∧
       SS G m_Mo_shareOf 80 [vr 7 0, vi x1, vi x2, vi x3, vi x4, vi (x5 + 1), un, un, un] [] (wI μ4 47 0 v3.toNatClampNeg v4) (RI K))))))
   else
    (CS G m_Mo_has [vi x1, vi x3] μ (RI fun v5 μ5 =>
     (if v5 = 0 then
      (CS G m_Mo_sharedAt [vi (x3 + 1), vi (x5 - x7)] μ5 (RI fun v6 μ6 =>
       (vp_in v6 3006 ∧
        (CS G m_Mo_lesser [vi x6, vi (0 + (μ6.1 47 0 v6.toNatClampNeg))] μ6 (RI fun v7 μ7 =>
         SS G m_Mo_shareOf 93 [vr 7 0, vi x1, vi x2, vi x3, vi x4, vi x5, vi v7, vi (x7 + 1), un] [] μ7 (RI K))))))
     else
      (CS G m_Mo_leastOf [vr 7 0, vi x3, vi x7] μ5 (RI fun v8 μ8 =>
       (CS G m_Mo_sharedAt [vi (x3 + 1), vi (x5 - x7)] μ8 (RI fun v9 μ9 =>
        (vp_in v9 3006 ∧
         (CS G m_Mo_lesser [vi x6, vi (v8 + (μ9.1 47 0 v9.toNatClampNeg))] μ9 (RI fun v10 μ10 =>
          SS G m_Mo_shareOf 93 [vr 7 0, vi x1, vi x2, vi x3, vi x4, vi x5, vi v10, vi (x7 + 1), un] [] μ10 (RI K)))))))))))))) :
  SS G m_Mo_shareOf 93 [vr 7 0, vi x1, vi x2, vi x3, vi x4, vi x5, vi x6, vi x7, un] [] μ (RI K) :=
  wp_s (M := m_Mo_shareOf) (lk := lk_Mo) (tb := tb_Mo_shareOf_93) (cu := [(8, [true, true, true, true, false, false, false, false, false]), (49, [true, true, true, true, false, false, false, false, false]), (80, [true, true, true, true, true, true, false, false, false]), (93, [true, true, true, true, true, true, true, true, false])]) lk_Mo_ok (by decide +kernel) 37 true _ _ _ _ h
def tc_Mo_share : List En := [e0 0 (.iload_n 1) 1, eT 1 (.invokestatic 109) 3 1, eT 4 (.ifCond .ne 5) 3 9, eC 7 (.iconst (-1)) 1 (-1), e0 8 .ireturn 1, e0 9 (.aload_n 0) 1, eF 10 (.getfield 154) 3 7 10, eT 13 (.ifCond .ne 6) 3 19, eC 16 (.bipush (-4)) 2 (-4), e0 18 .ireturn 1, e0 19 (.aload_n 0) 1, eT 20 (.invokevirtual 227) 3 32, e0 23 (.aload_n 0) 1, e0 24 (.aload_n 0) 1, eT 25 (.invokevirtual 246) 3 38, eT 28 (.invokevirtual 250) 3 39, e0 31 (.istore_n 2) 1, e0 32 (.iload_n 2) 1, eC 33 (.ldc 215) 2 100000000, eT 35 (.if_icmp .ne 6) 3 41, eC 38 (.bipush (-9)) 2 (-9), e0 40 .ireturn 1, e0 41 (.aload_n 0) 1, e0 42 (.aload_n 0) 1, eT 43 (.invokevirtual 246) 3 38, eT 46 (.invokevirtual 240) 3 36, e0 49 (.istore_n 3) 1, eC 50 (.iconst 0) 1 0, e0 51 (.istore 4) 2]
set_option maxRecDepth 100000 in
theorem c_Mo_share {G : Ge} (x1 : Int32) {μ : Mm} {K : Int32 → Mm → Prop} (h :
  (CS G m_Mo_isRow [vi x1] μ (RI fun v1 μ1 =>
   (if v1 = 0 then
    K (-1) μ1
   else
    (if (μ1.1 7 0 10) = 0 then
     K (-4) μ1
    else
     (CS G m_Mo_layLeasts [vr 7 0] μ1 (RV fun μ2 =>
      (CS G m_Mo_everybody [vr 7 0] μ2 (RI fun v3 μ3 =>
       (CS G m_Mo_shareOf [vr 7 0, vi v3] μ3 (RI fun v4 μ4 =>
        (if v4 = 100000000 then
         K (-9) μ4
        else
         (CS G m_Mo_everybody [vr 7 0] μ4 (RI fun v5 μ5 =>
          (CS G m_Mo_owedBy [vr 7 0, vi v5] μ5 (RI fun v6 μ6 =>
           SS G m_Mo_share 53 [vr 7 0, vi x1, vi v4, vi v6, vi 0, un] [] μ6 (RI K))))))))))))))))) :
  CS G m_Mo_share [vr 7 0, vi x1] μ (RI K) :=
  CS_of pf_Mo_share (Nat.le_of_ble_eq_true rfl) (show SS G m_Mo_share 0 [vr 7 0, vi x1, un, un, un, un] [] μ (RI K) from wp_s (M := m_Mo_share) (lk := lk_Mo) (tb := tc_Mo_share) (cu := [(53, [true, true, true, true, true, false]), (65, [true, true, true, true, true, true])]) lk_Mo_ok (by decide +kernel) 27 true 0 _ _ _ h)
def tb_Mo_share_53 : List En := [e0 53 (.iload 4) 2, e0 55 (.aload_n 0) 1, eF 56 (.getfield 154) 3 7 10, eT 59 (.if_icmp .ge 71) 3 130, eC 62 (.iconst 0) 1 0, e0 63 (.istore 5) 2, e0 130 (.aload_n 0) 1, e0 131 (.iload_n 1) 1, e0 132 (.aload_n 0) 1, eF 133 (.getfield 82) 3 7 32, e0 136 (.aload_n 0) 1, eF 137 (.getfield 154) 3 7 10, eT 140 (.invokevirtual 223) 3 31, e0 143 (.iload_n 2) 1, e0 144 .ireturn 1]
set_option maxRecDepth 100000 in
theorem b_Mo_share_53 {G : Ge} (x1 : Int32) (x2 : Int32) (x3 : Int32) (x4 : Int32) {μ : Mm} {K : Int32 → Mm → Prop} (h :
  (if (μ.1 7 0 10) ≤ x4 then
   (CS G m_Mo_layRow [vr 7 0, vi x1, vr 48 0, vi (μ.1 7 0 10)] μ (RV fun μ1 =>
    K x2 μ1))
  else
   SS G m_Mo_share 65 [vr 7 0, vi x1, vi x2, vi x3, vi x4, vi 0] [] μ (RI K))) :
  SS G m_Mo_share 53 [vr 7 0, vi x1, vi x2, vi x3, vi x4, un] [] μ (RI K) :=
  wp_s (M := m_Mo_share) (lk := lk_Mo) (tb := tb_Mo_share_53) (cu := [(53, [true, true, true, true, true, false]), (65, [true, true, true, true, true, true])]) lk_Mo_ok (by decide +kernel) 16 true _ _ _ _ h
def tb_Mo_share_65 : List En := [e0 65 (.aload_n 0) 1, e0 66 (.iload 4) 2, e0 68 (.iload 5) 2, eT 70 (.invokevirtual 230) 3 33, e0 73 (.aload_n 0) 1, eF 74 (.getfield 79) 3 7 31, e0 77 (.iload 4) 2, eC 79 (.iconst 1) 1 1, e0 80 .iadd 1, e0 81 (.iload_n 3) 1, e0 82 (.iload 5) 2, e0 84 .isub 1, eT 85 (.invokestatic 243) 3 37, e0 88 .iaload 1, e0 89 .iadd 1, e0 90 (.aload_n 0) 1, eF 91 (.getfield 79) 3 7 31, e0 94 (.iload 4) 2, e0 96 (.iload_n 3) 1, eT 97 (.invokestatic 243) 3 37, e0 100 .iaload 1, eT 101 (.if_icmp .eq 9) 3 110, eC 104 (.iinc 5 1) 3 1, eT 107 (.goto (-42)) 3 65, e0 110 (.aload_n 0) 1, eF 111 (.getfield 82) 3 7 32, e0 114 (.iload 4) 2, e0 116 (.iload 5) 2, e0 118 .iastore 1, e0 119 (.iload_n 3) 1, e0 120 (.iload 5) 2, e0 122 .isub 1, e0 123 (.istore_n 3) 1, eC 124 (.iinc 4 1) 3 1, eT 127 (.goto (-74)) 3 53]
set_option maxRecDepth 100000 in
theorem b_Mo_share_65 {G : Ge} (x1 : Int32) (x2 : Int32) (x3 : Int32) (x4 : Int32) (x5 : Int32) {μ : Mm} {K : Int32 → Mm → Prop} (h :
  (CS G m_Mo_leastOf [vr 7 0, vi x4, vi x5] μ (RI fun v1 μ1 =>
   (CS G m_Mo_sharedAt [vi (x4 + 1), vi (x3 - x5)] μ1 (RI fun v2 μ2 =>
    (vp_in v2 3006 ∧
     (CS G m_Mo_sharedAt [vi x4, vi x3] μ2 (RI fun v3 μ3 =>
      (vp_in v3 3006 ∧
       (if (v1 + (μ2.1 47 0 v2.toNatClampNeg)) = (μ3.1 47 0 v3.toNatClampNeg) then
        (vp_in x4 5 ∧
         SS G m_Mo_share 53 [vr 7 0, vi x1, vi x2, vi (x3 - x5), vi (x4 + 1), un] [] (wI μ3 48 0 x4.toNatClampNeg x5) (RI K))
       else
        SS G m_Mo_share 65 [vr 7 0, vi x1, vi x2, vi x3, vi x4, vi (x5 + 1)] [] μ3 (RI K))))))))))) :
  SS G m_Mo_share 65 [vr 7 0, vi x1, vi x2, vi x3, vi x4, vi x5] [] μ (RI K) :=
  wp_s (M := m_Mo_share) (lk := lk_Mo) (tb := tb_Mo_share_65) (cu := [(53, [true, true, true, true, true, false]), (65, [true, true, true, true, true, true])]) lk_Mo_ok (by decide +kernel) 37 true _ _ _ _ h
def tc_Mo_byThemselves : List En := [eC 0 (.iconst 0) 1 0, e0 1 (.istore_n 2) 1, eC 2 (.iconst 0) 1 0, e0 3 (.istore_n 3) 1]
set_option maxRecDepth 100000 in
theorem c_Mo_byThemselves {G : Ge} (x1 : Int32) {μ : Mm} {K : Int32 → Mm → Prop} (h :
  SS G m_Mo_byThemselves 4 [vr 7 0, vi x1, vi 0, vi 0] [] μ (RI K)) :
  CS G m_Mo_byThemselves [vr 7 0, vi x1] μ (RI K) :=
  CS_of pf_Mo_byThemselves (Nat.le_of_ble_eq_true rfl) (show SS G m_Mo_byThemselves 0 [vr 7 0, vi x1, un, un] [] μ (RI K) from wp_s (M := m_Mo_byThemselves) (lk := lk_Mo) (tb := tc_Mo_byThemselves) (cu := [(4, [true, true, true, true])]) lk_Mo_ok (by decide +kernel) 8 true 0 _ _ _ h)
def tb_Mo_byThemselves_4 : List En := [e0 4 (.iload_n 3) 1, e0 5 (.aload_n 0) 1, eF 6 (.getfield 154) 3 7 10, eT 9 (.if_icmp .ge 35) 3 44, e0 12 (.iload_n 2) 1, e0 13 (.iload_n 1) 1, e0 14 (.iload_n 3) 1, eT 15 (.invokestatic 236) 3 35, eT 18 (.ifCond .eq 17) 3 35, e0 21 (.aload_n 0) 1, e0 22 (.iload_n 3) 1, e0 23 (.aload_n 0) 1, eF 24 (.getfield 48) 3 7 20, e0 27 (.iload_n 3) 1, e0 28 .iaload 1, eT 29 (.invokevirtual 230) 3 33, eT 32 (.goto 4) 3 36, eC 35 (.iconst 0) 1 0, e0 36 .iadd 1, e0 37 (.istore_n 2) 1, eC 38 (.iinc 3 1) 3 1, eT 41 (.goto (-37)) 3 4, eC 44 (.ldc 215) 2 100000000, e0 46 (.iload_n 2) 1, eT 47 (.invokestatic 169) 3 14, e0 50 .ireturn 1]
set_option maxRecDepth 100000 in
theorem b_Mo_byThemselves_4 {G : Ge} (x1 : Int32) (x2 : Int32) (x3 : Int32) {μ : Mm} {K : Int32 → Mm → Prop} (h :
  (if (μ.1 7 0 10) ≤ x3 then
   (CS G m_Mo_lesser [vi 100000000, vi x2] μ (RI fun v1 μ1 =>
    K v1 μ1))
  else
   (CS G m_Mo_has [vi x1, vi x3] μ (RI fun v2 μ2 =>
    (if v2 = 0 then
     SS G m_Mo_byThemselves 4 [vr 7 0, vi x1, vi (x2 + 0), vi (x3 + 1)] [] μ2 (RI K)
    else
     (vp_in x3 16 ∧
      (CS G m_Mo_leastOf [vr 7 0, vi x3, vi (μ2.1 37 0 x3.toNatClampNeg)] μ2 (RI fun v3 μ3 =>
       SS G m_Mo_byThemselves 4 [vr 7 0, vi x1, vi (x2 + v3), vi (x3 + 1)] [] μ3 (RI K))))))))) :
  SS G m_Mo_byThemselves 4 [vr 7 0, vi x1, vi x2, vi x3] [] μ (RI K) :=
  wp_s (M := m_Mo_byThemselves) (lk := lk_Mo) (tb := tb_Mo_byThemselves_4) (cu := [(4, [true, true, true, true])]) lk_Mo_ok (by decide +kernel) 25 true _ _ _ _ h
def tc_Mo_savesOf : List En := [e0 0 (.aload_n 0) 1, e0 1 (.iload_n 1) 1, eT 2 (.invokevirtual 253) 3 40, e0 5 (.istore_n 2) 1, e0 6 (.iload_n 2) 1, eC 7 (.ldc 215) 2 100000000, eT 9 (.if_icmp .ne 8) 3 17, eC 12 (.bipush (-9)) 2 (-9), eT 14 (.goto 10) 3 24, e0 17 (.iload_n 2) 1, e0 18 (.aload_n 0) 1, e0 19 (.iload_n 1) 1, eT 20 (.invokevirtual 250) 3 39, e0 23 .isub 1, e0 24 .ireturn 1]
set_option maxRecDepth 100000 in
theorem c_Mo_savesOf {G : Ge} (x1 : Int32) {μ : Mm} {K : Int32 → Mm → Prop} (h :
  (CS G m_Mo_byThemselves [vr 7 0, vi x1] μ (RI fun v1 μ1 =>
   (if v1 = 100000000 then
    K (-9) μ1
   else
    (CS G m_Mo_shareOf [vr 7 0, vi x1] μ1 (RI fun v2 μ2 =>
     K (v1 - v2) μ2)))))) :
  CS G m_Mo_savesOf [vr 7 0, vi x1] μ (RI K) :=
  CS_of pf_Mo_savesOf (Nat.le_of_ble_eq_true rfl) (show SS G m_Mo_savesOf 0 [vr 7 0, vi x1, un] [] μ (RI K) from wp_s (M := m_Mo_savesOf) (lk := lk_Mo) (tb := tc_Mo_savesOf) (cu := []) lk_Mo_ok (by decide +kernel) 16 true 0 _ _ _ h)
def tc_Mo_saves : List En := [e0 0 (.iload_n 1) 1, eC 1 (.iconst 0) 1 0, e0 2 (.aload_n 0) 1, eT 3 (.invokevirtual 246) 3 38, eT 6 (.invokestatic 99) 3 0, eT 9 (.ifCond .ne 5) 3 14, eC 12 (.iconst (-1)) 1 (-1), e0 13 .ireturn 1, e0 14 (.aload_n 0) 1, eT 15 (.invokevirtual 227) 3 32, e0 18 (.aload_n 0) 1, e0 19 (.iload_n 1) 1, eT 20 (.invokevirtual 256) 3 41, e0 23 .ireturn 1]
set_option maxRecDepth 100000 in
theorem c_Mo_saves {G : Ge} (x1 : Int32) {μ : Mm} {K : Int32 → Mm → Prop} (h :
  (CS G m_Mo_everybody [vr 7 0] μ (RI fun v1 μ1 =>
   (CS G m_Mo_in [vi x1, vi 0, vi v1] μ1 (RI fun v2 μ2 =>
    (if v2 = 0 then
     K (-1) μ2
    else
     (CS G m_Mo_layLeasts [vr 7 0] μ2 (RV fun μ3 =>
      (CS G m_Mo_savesOf [vr 7 0, vi x1] μ3 (RI fun v4 μ4 =>
       K v4 μ4)))))))))) :
  CS G m_Mo_saves [vr 7 0, vi x1] μ (RI K) :=
  CS_of pf_Mo_saves (Nat.le_of_ble_eq_true rfl) (show SS G m_Mo_saves 0 [vr 7 0, vi x1] [] μ (RI K) from wp_s (M := m_Mo_saves) (lk := lk_Mo) (tb := tc_Mo_saves) (cu := []) lk_Mo_ok (by decide +kernel) 15 true 0 _ _ _ h)
def tc_Mo_bits : List En := [eC 0 (.iconst 0) 1 0, e0 1 (.istore_n 1) 1, e0 2 (.iload_n 0) 1, e0 3 (.istore_n 2) 1]
set_option maxRecDepth 100000 in
theorem c_Mo_bits {G : Ge} (x0 : Int32) {μ : Mm} {K : Int32 → Mm → Prop} (h :
  SS G m_Mo_bits 4 [un, vi 0, vi x0] [] μ (RI K)) :
  CS G m_Mo_bits [vi x0] μ (RI K) :=
  CS_of pf_Mo_bits (Nat.le_of_ble_eq_true rfl) (show SS G m_Mo_bits 0 [vi x0, un, un] [] μ (RI K) from wp_s (M := m_Mo_bits) (lk := lk_Mo) (tb := tc_Mo_bits) (cu := [(4, [false, true, true])]) lk_Mo_ok (by decide +kernel) 8 true 0 _ _ _ h)
def tb_Mo_bits_4 : List En := [e0 4 (.iload_n 2) 1, eT 5 (.ifCond .eq 15) 3 20, eC 8 (.iinc 1 1) 3 1, e0 11 (.iload_n 2) 1, e0 12 (.iload_n 2) 1, eC 13 (.iconst 1) 1 1, e0 14 .isub 1, e0 15 .iand 1, e0 16 (.istore_n 2) 1, eT 17 (.goto (-13)) 3 4, e0 20 (.iload_n 1) 1, e0 21 .ireturn 1]
set_option maxRecDepth 100000 in
theorem b_Mo_bits_4 {G : Ge} (x1 : Int32) (x2 : Int32) {μ : Mm} {K : Int32 → Mm → Prop} (h :
  (if x2 = 0 then
   K x1 μ
  else
   SS G m_Mo_bits 4 [un, vi (x1 + 1), vi (x2 &&& (x2 - 1))] [] μ (RI K))) :
  SS G m_Mo_bits 4 [un, vi x1, vi x2] [] μ (RI K) :=
  wp_s (M := m_Mo_bits) (lk := lk_Mo) (tb := tb_Mo_bits_4) (cu := [(4, [false, true, true])]) lk_Mo_ok (by decide +kernel) 14 true _ _ _ _ h
def tc_Mo_times : List En := [eC 0 (.iconst 1) 1 1, e0 1 (.istore_n 1) 1, eC 2 (.iconst 2) 1 2, e0 3 (.istore_n 2) 1]
set_option maxRecDepth 100000 in
theorem c_Mo_times {G : Ge} (x0 : Int32) {μ : Mm} {K : Int32 → Mm → Prop} (h :
  SS G m_Mo_times 4 [vi x0, vi 1, vi 2] [] μ (RI K)) :
  CS G m_Mo_times [vi x0] μ (RI K) :=
  CS_of pf_Mo_times (Nat.le_of_ble_eq_true rfl) (show SS G m_Mo_times 0 [vi x0, un, un] [] μ (RI K) from wp_s (M := m_Mo_times) (lk := lk_Mo) (tb := tc_Mo_times) (cu := [(4, [true, true, true])]) lk_Mo_ok (by decide +kernel) 8 true 0 _ _ _ h)
def tb_Mo_times_4 : List En := [e0 4 (.iload_n 2) 1, e0 5 (.iload_n 0) 1, eT 6 (.if_icmp .gt 13) 3 19, e0 9 (.iload_n 1) 1, e0 10 (.iload_n 2) 1, e0 11 .imul 1, e0 12 (.istore_n 1) 1, eC 13 (.iinc 2 1) 3 1, eT 16 (.goto (-12)) 3 4, e0 19 (.iload_n 1) 1, e0 20 .ireturn 1]
set_option maxRecDepth 100000 in
theorem b_Mo_times_4 {G : Ge} (x0 : Int32) (x1 : Int32) (x2 : Int32) {μ : Mm} {K : Int32 → Mm → Prop} (h :
  (if x0 < x2 then
   K x1 μ
  else
   SS G m_Mo_times 4 [vi x0, vi (x1 * x2), vi (x2 + 1)] [] μ (RI K))) :
  SS G m_Mo_times 4 [vi x0, vi x1, vi x2] [] μ (RI K) :=
  wp_s (M := m_Mo_times) (lk := lk_Mo) (tb := tb_Mo_times_4) (cu := [(4, [true, true, true])]) lk_Mo_ok (by decide +kernel) 13 true _ _ _ _ h
def tc_Mo_fraction : List En := [e0 0 (.lload_n 1) 1, eD 1 (.lconst 0) 1 0, e0 2 .lcmp 1, eT 3 (.ifCond .ge 8) 3 11, e0 6 (.lload_n 1) 1, e0 7 .lneg 1, eT 8 (.goto 4) 3 12, e0 11 (.lload_n 1) 1, e0 12 (.lstore 5) 2, e0 14 (.lload_n 3) 1, e0 15 (.lstore 7) 2]
set_option maxRecDepth 100000 in
theorem c_Mo_fraction {G : Ge} (l1 : Int64) (l3 : Int64) {μ : Mm} {K : Int32 → Mm → Prop} (h :
  (if 0 ≤ (lg_cmp l1 0) then
   SS G m_Mo_fraction 17 [vr 7 0, vl l1, un, vl l3, un, vl l1, un, vl l3, un, un, un] [] μ (RI K)
  else
   SS G m_Mo_fraction 17 [vr 7 0, vl l1, un, vl l3, un, vl (-l1), un, vl l3, un, un, un] [] μ (RI K))) :
  CS G m_Mo_fraction [vr 7 0, vl l1, vl l3] μ (RI K) :=
  CS_of pf_Mo_fraction (Nat.le_of_ble_eq_true rfl) (show SS G m_Mo_fraction 0 [vr 7 0, vl l1, un, vl l3, un, un, un, un, un, un, un] [] μ (RI K) from wp_s (M := m_Mo_fraction) (lk := lk_Mo) (tb := tc_Mo_fraction) (cu := [(17, [true, true, false, true, false, true, false, true, false, false, false])]) lk_Mo_ok (by decide +kernel) 14 true 0 _ _ _ h)
def tb_Mo_fraction_17 : List En := [e0 17 (.lload 7) 2, eD 19 (.lconst 0) 1 0, e0 20 .lcmp 1, eT 21 (.ifCond .eq 21) 3 42, e0 24 (.lload 5) 2, e0 26 (.lload 7) 2, e0 28 .lrem 1, e0 29 (.lstore 9) 2, e0 31 (.lload 7) 2, e0 33 (.lstore 5) 2, e0 35 (.lload 9) 2, e0 37 (.lstore 7) 2, eT 39 (.goto (-22)) 3 17, e0 42 (.aload_n 0) 1, e0 43 (.lload_n 1) 1, e0 44 (.lload 5) 2, e0 46 .ldiv 1, eF 47 (.putfield 106) 3 7 3, e0 50 (.aload_n 0) 1, e0 51 (.lload_n 3) 1, e0 52 (.lload 5) 2, e0 54 .ldiv 1, eF 55 (.putfield 13) 3 7 4, eC 58 (.iconst 1) 1 1, e0 59 .ireturn 1]
set_option maxRecDepth 100000 in
theorem b_Mo_fraction_17 {G : Ge} (l1 : Int64) (l3 : Int64) (l5 : Int64) (l7 : Int64) {μ : Mm} {K : Int32 → Mm → Prop} (h :
  (if (lg_cmp l7 0) = 0 then
   (¬ (l5 : Int64) = 0 ∧
    (¬ (l5 : Int64) = 0 ∧
     K 1 (wL (wL μ 7 0 3 (l1 / l5)) 7 0 4 (l3 / l5))))
  else
   (¬ (l7 : Int64) = 0 ∧
    SS G m_Mo_fraction 17 [vr 7 0, vl l1, un, vl l3, un, vl l7, un, vl (l5 - l5 / l7 * l7), un, un, un] [] μ (RI K)))) :
  SS G m_Mo_fraction 17 [vr 7 0, vl l1, un, vl l3, un, vl l5, un, vl l7, un, un, un] [] μ (RI K) :=
  wp_s (M := m_Mo_fraction) (lk := lk_Mo) (tb := tb_Mo_fraction_17) (cu := [(17, [true, true, false, true, false, true, false, true, false, false, false])]) lk_Mo_ok (by decide +kernel) 19 true _ _ _ _ h
def tc_Mo_part : List En := [e0 0 (.aload_n 0) 1, e0 1 (.iload_n 1) 1, eT 2 (.invokevirtual 188) 3 20, eT 5 (.ifCond .ne 5) 3 10, eC 8 (.iconst (-1)) 1 (-1), e0 9 .ireturn 1, e0 10 (.aload_n 0) 1, eT 11 (.invokevirtual 227) 3 32, e0 14 (.aload_n 0) 1, e0 15 (.aload_n 0) 1, eT 16 (.invokevirtual 246) 3 38, eT 19 (.invokevirtual 253) 3 40, eC 22 (.ldc 215) 2 100000000, eT 24 (.if_icmp .ne 6) 3 30, eC 27 (.bipush (-9)) 2 (-9), e0 29 .ireturn 1, eD 30 (.lconst 0) 1 0, e0 31 (.lstore_n 2) 1, eC 32 (.iconst 0) 1 0, e0 33 (.istore 4) 2]
set_option maxRecDepth 100000 in
theorem c_Mo_part {G : Ge} (x1 : Int32) {μ : Mm} {K : Int32 → Mm → Prop} (h :
  (CS G m_Mo_isHouse [vr 7 0, vi x1] μ (RI fun v1 μ1 =>
   (if v1 = 0 then
    K (-1) μ1
   else
    (CS G m_Mo_layLeasts [vr 7 0] μ1 (RV fun μ2 =>
     (CS G m_Mo_everybody [vr 7 0] μ2 (RI fun v3 μ3 =>
      (CS G m_Mo_byThemselves [vr 7 0, vi v3] μ3 (RI fun v4 μ4 =>
       (if v4 = 100000000 then
        K (-9) μ4
       else
        SS G m_Mo_part 35 [vr 7 0, vi x1, vl 0, un, vi 0, un] [] μ4 (RI K)))))))))))) :
  CS G m_Mo_part [vr 7 0, vi x1] μ (RI K) :=
  CS_of pf_Mo_part (Nat.le_of_ble_eq_true rfl) (show SS G m_Mo_part 0 [vr 7 0, vi x1, un, un, un, un] [] μ (RI K) from wp_s (M := m_Mo_part) (lk := lk_Mo) (tb := tc_Mo_part) (cu := [(35, [true, true, true, false, true, false])]) lk_Mo_ok (by decide +kernel) 20 true 0 _ _ _ h)
def tb_Mo_part_35 : List En := [e0 35 (.iload 4) 2, e0 37 (.aload_n 0) 1, eT 38 (.invokevirtual 246) 3 38, eT 41 (.if_icmp .gt 69) 3 110, e0 44 (.iload 4) 2, e0 46 (.iload_n 1) 1, eT 47 (.invokestatic 236) 3 35, eT 50 (.ifCond .ne 54) 3 104, e0 53 (.iload 4) 2, eT 55 (.invokestatic 259) 3 42, eT 58 (.invokestatic 262) 3 43, e0 61 (.aload_n 0) 1, eF 62 (.getfield 154) 3 7 10, eC 65 (.iconst 1) 1 1, e0 66 .isub 1, e0 67 (.iload 4) 2, eT 69 (.invokestatic 259) 3 42, e0 72 .isub 1, eT 73 (.invokestatic 262) 3 43, e0 76 .imul 1, e0 77 (.istore 5) 2, e0 79 (.lload_n 2) 1, e0 80 (.iload 5) 2, e0 82 .i2l 1, e0 83 (.aload_n 0) 1, e0 84 (.iload 4) 2, eC 86 (.iconst 1) 1 1, e0 87 (.iload_n 1) 1, e0 88 .ishl 1, e0 89 .ior 1, eT 90 (.invokevirtual 256) 3 41, e0 93 (.aload_n 0) 1, e0 94 (.iload 4) 2, eT 96 (.invokevirtual 256) 3 41, e0 99 .isub 1, e0 100 .i2l 1, e0 101 .lmul 1, e0 102 .ladd 1, e0 103 (.lstore_n 2) 1, eC 104 (.iinc 4 1) 3 1, eT 107 (.goto (-72)) 3 35, e0 110 (.aload_n 0) 1, e0 111 (.lload_n 2) 1, e0 112 (.aload_n 0) 1, eF 113 (.getfield 154) 3 7 10, eT 116 (.invokestatic 262) 3 43, e0 119 .i2l 1, eT 120 (.invokevirtual 265) 3 44, e0 123 .ireturn 1]
set_option maxRecDepth 100000 in
theorem b_Mo_part_35 {G : Ge} (x1 : Int32) (l2 : Int64) (x4 : Int32) {μ : Mm} {K : Int32 → Mm → Prop} (h :
  (CS G m_Mo_everybody [vr 7 0] μ (RI fun v1 μ1 =>
   (if v1 < x4 then
    (CS G m_Mo_times [vi (μ1.1 7 0 10)] μ1 (RI fun v2 μ2 =>
     (CS G m_Mo_fraction [vr 7 0, vl l2, vl (Int32.toInt64 v2)] μ2 (RI fun v3 μ3 =>
      K v3 μ3))))
   else
    (CS G m_Mo_has [vi x4, vi x1] μ1 (RI fun v4 μ4 =>
     (if v4 = 0 then
      (CS G m_Mo_bits [vi x4] μ4 (RI fun v5 μ5 =>
       (CS G m_Mo_times [vi v5] μ5 (RI fun v6 μ6 =>
        (CS G m_Mo_bits [vi x4] μ6 (RI fun v7 μ7 =>
         (CS G m_Mo_times [vi (((μ6.1 7 0 10) - 1) - v7)] μ7 (RI fun v8 μ8 =>
          (CS G m_Mo_savesOf [vr 7 0, vi (x4 ||| (1 <<< (x1 &&& 31)))] μ8 (RI fun v9 μ9 =>
           (CS G m_Mo_savesOf [vr 7 0, vi x4] μ9 (RI fun v10 μ10 =>
            SS G m_Mo_part 35 [vr 7 0, vi x1, vl (l2 + ((Int32.toInt64 (v6 * v8)) * (Int32.toInt64 (v9 - v10)))), un, vi (x4 + 1), un] [] μ10 (RI K)))))))))))))
     else
      SS G m_Mo_part 35 [vr 7 0, vi x1, vl l2, un, vi (x4 + 1), un] [] μ4 (RI K)))))))) :
  SS G m_Mo_part 35 [vr 7 0, vi x1, vl l2, un, vi x4, un] [] μ (RI K) :=
  wp_s (M := m_Mo_part) (lk := lk_Mo) (tb := tb_Mo_part_35) (cu := [(35, [true, true, true, false, true, false])]) lk_Mo_ok (by decide +kernel) 45 true _ _ _ _ h
def tc_Mo_wayAt : List En := [eC 0 (.bipush 46) 2 46, e0 2 (.iload_n 0) 1, e0 3 .imul 1, e0 4 (.iload_n 1) 1, e0 5 .iadd 1, e0 6 .ireturn 1]
set_option maxRecDepth 100000 in
theorem c_Mo_wayAt {G : Ge} (x0 : Int32) (x1 : Int32) {μ : Mm} {K : Int32 → Mm → Prop} (h :
  K ((46 * x0) + x1) μ) :
  CS G m_Mo_wayAt [vi x0, vi x1] μ (RI K) :=
  CS_of pf_Mo_wayAt (Nat.le_of_ble_eq_true rfl) (show SS G m_Mo_wayAt 0 [vi x0, vi x1] [] μ (RI K) from wp_s (M := m_Mo_wayAt) (lk := lk_Mo) (tb := tc_Mo_wayAt) (cu := []) lk_Mo_ok (by decide +kernel) 9 true 0 _ _ _ h)
def tc_Mo_waysOf : List En := [eC 0 (.iconst 0) 1 0, e0 1 (.istore 4) 2]
set_option maxRecDepth 100000 in
theorem c_Mo_waysOf {G : Ge} (x1 : Int32) (x2 : Int32) (x3 : Int32) {μ : Mm} {K : Int32 → Mm → Prop} (h :
  SS G m_Mo_waysOf 3 [vr 7 0, vi x1, vi x2, vi x3, vi 0, un, un, un, un] [] μ (RI K)) :
  CS G m_Mo_waysOf [vr 7 0, vi x1, vi x2, vi x3] μ (RI K) :=
  CS_of pf_Mo_waysOf (Nat.le_of_ble_eq_true rfl) (show SS G m_Mo_waysOf 0 [vr 7 0, vi x1, vi x2, vi x3, un, un, un, un, un] [] μ (RI K) from wp_s (M := m_Mo_waysOf) (lk := lk_Mo) (tb := tc_Mo_waysOf) (cu := [(3, [true, true, true, true, true, false, false, false, false]), (48, [true, true, true, true, true, false, false, false, false]), (80, [true, true, true, true, true, true, true, false, false]), (93, [true, true, true, true, true, true, true, true, true])]) lk_Mo_ok (by decide +kernel) 6 true 0 _ _ _ h)
def tb_Mo_waysOf_3 : List En := [e0 3 (.iload 4) 2, eC 5 (.bipush 45) 2 45, eT 7 (.if_icmp .gt 33) 3 40, e0 10 (.aload_n 0) 1, eF 11 (.getfield 85) 3 7 33, e0 14 (.aload_n 0) 1, eF 15 (.getfield 154) 3 7 10, e0 18 (.iload 4) 2, eT 20 (.invokestatic 269) 3 45, e0 23 (.iload 4) 2, eT 25 (.ifCond .ne 7) 3 32, eC 28 (.iconst 1) 1 1, eT 29 (.goto 4) 3 33, eC 32 (.iconst 0) 1 0, e0 33 .iastore 1, eC 34 (.iinc 4 1) 3 1, eT 37 (.goto (-34)) 3 3, e0 40 (.aload_n 0) 1, eF 41 (.getfield 154) 3 7 10, eC 44 (.iconst 1) 1 1, e0 45 .isub 1, e0 46 (.istore 4) 2]
set_option maxRecDepth 100000 in
theorem b_Mo_waysOf_3 {G : Ge} (x1 : Int32) (x2 : Int32) (x3 : Int32) (x4 : Int32) {μ : Mm} {K : Int32 → Mm → Prop} (h :
  (if (45 : Int32) < x4 then
   SS G m_Mo_waysOf 48 [vr 7 0, vi x1, vi x2, vi x3, vi ((μ.1 7 0 10) - 1), un, un, un, un] [] μ (RI K)
  else
   (CS G m_Mo_wayAt [vi (μ.1 7 0 10), vi x4] μ (RI fun v1 μ1 =>
    (if x4 = 0 then
     (vp_in v1 276 ∧
      SS G m_Mo_waysOf 3 [vr 7 0, vi x1, vi x2, vi x3, vi (x4 + 1), un, un, un, un] [] (wI μ1 49 0 v1.toNatClampNeg 1) (RI K))
    else
     (vp_in v1 276 ∧
      SS G m_Mo_waysOf 3 [vr 7 0, vi x1, vi x2, vi x3, vi (x4 + 1), un, un, un, un] [] (wI μ1 49 0 v1.toNatClampNeg 0) (RI K))))))) :
  SS G m_Mo_waysOf 3 [vr 7 0, vi x1, vi x2, vi x3, vi x4, un, un, un, un] [] μ (RI K) :=
  wp_s (M := m_Mo_waysOf) (lk := lk_Mo) (tb := tb_Mo_waysOf_3) (cu := [(3, [true, true, true, true, true, false, false, false, false]), (48, [true, true, true, true, true, false, false, false, false]), (80, [true, true, true, true, true, true, true, false, false]), (93, [true, true, true, true, true, true, true, true, true])]) lk_Mo_ok (by decide +kernel) 20 true _ _ _ _ h
def tb_Mo_waysOf_48 : List En := [e0 48 (.iload 4) 2, eT 50 (.ifCond .lt 111) 3 161, e0 53 (.iload 4) 2, e0 55 (.iload_n 3) 1, eT 56 (.if_icmp .ne 7) 3 63, eC 59 (.iconst 0) 1 0, eT 60 (.goto 15) 3 75, e0 63 (.aload_n 0) 1, e0 64 (.iload 4) 2, e0 66 (.aload_n 0) 1, eF 67 (.getfield 39) 3 7 14, e0 70 (.iload_n 1) 1, e0 71 .iaload 1, eT 72 (.invokevirtual 175) 3 16, e0 75 (.istore 5) 2, eC 77 (.iconst 0) 1 0, e0 78 (.istore 6) 2, e0 161 (.aload_n 0) 1, eF 162 (.getfield 85) 3 7 33, eC 165 (.iconst 0) 1 0, e0 166 (.iload_n 2) 1, eT 167 (.invokestatic 269) 3 45, e0 170 .iaload 1, e0 171 .ireturn 1]
set_option maxRecDepth 100000 in
theorem b_Mo_waysOf_48 {G : Ge} (x1 : Int32) (x2 : Int32) (x3 : Int32) (x4 : Int32) {μ : Mm} {K : Int32 → Mm → Prop} (h :
  (if x4 < 0 then
   (CS G m_Mo_wayAt [vi 0, vi x2] μ (RI fun v1 μ1 =>
    (vp_in v1 276 ∧
     K (μ1.1 49 0 v1.toNatClampNeg) μ1)))
  else
   (if x4 = x3 then
    SS G m_Mo_waysOf 80 [vr 7 0, vi x1, vi x2, vi x3, vi x4, vi 0, vi 0, un, un] [] μ (RI K)
   else
    (vp_in x1 8 ∧
     (CS G m_Mo_canIn [vr 7 0, vi x4, vi (μ.1 34 0 x1.toNatClampNeg)] μ (RI fun v2 μ2 =>
      SS G m_Mo_waysOf 80 [vr 7 0, vi x1, vi x2, vi x3, vi x4, vi v2, vi 0, un, un] [] μ2 (RI K))))))) :
  SS G m_Mo_waysOf 48 [vr 7 0, vi x1, vi x2, vi x3, vi x4, un, un, un, un] [] μ (RI K) :=
  wp_s (M := m_Mo_waysOf) (lk := lk_Mo) (tb := tb_Mo_waysOf_48) (cu := [(3, [true, true, true, true, true, false, false, false, false]), (48, [true, true, true, true, true, false, false, false, false]), (80, [true, true, true, true, true, true, true, false, false]), (93, [true, true, true, true, true, true, true, true, true])]) lk_Mo_ok (by decide +kernel) 19 true _ _ _ _ h
def tb_Mo_waysOf_80 : List En := [e0 80 (.iload 6) 2, eC 82 (.bipush 45) 2 45, eT 84 (.if_icmp .gt 71) 3 155, eC 87 (.iconst 0) 1 0, e0 88 (.istore 7) 2, eC 90 (.iconst 0) 1 0, e0 91 (.istore 8) 2, eC 155 (.iinc 4 (-1)) 3 (-1), eT 158 (.goto (-110)) 3 48]
set_option maxRecDepth 100000 in
theorem b_Mo_waysOf_80 {G : Ge} (x1 : Int32) (x2 : Int32) (x3 : Int32) (x4 : Int32) (x5 : Int32) (x6 : Int32) {μ : Mm} {K : Int32 → Mm → Prop} (h :
  (if (45 : Int32) < x6 then
   SS G m_Mo_waysOf 48 [vr 7 0, vi x1, vi x2, vi x3, vi (x4 + (-1)), un, un, un, un] [] μ (RI K)
  else
   SS G m_Mo_waysOf 93 [vr 7 0, vi x1, vi x2, vi x3, vi x4, vi x5, vi x6, vi 0, vi 0] [] μ (RI K))) :
  SS G m_Mo_waysOf 80 [vr 7 0, vi x1, vi x2, vi x3, vi x4, vi x5, vi x6, un, un] [] μ (RI K) :=
  wp_s (M := m_Mo_waysOf) (lk := lk_Mo) (tb := tb_Mo_waysOf_80) (cu := [(3, [true, true, true, true, true, false, false, false, false]), (48, [true, true, true, true, true, false, false, false, false]), (80, [true, true, true, true, true, true, true, false, false]), (93, [true, true, true, true, true, true, true, true, true])]) lk_Mo_ok (by decide +kernel) 11 true _ _ _ _ h
def tb_Mo_waysOf_93 : List En := [e0 93 (.iload 8) 2, e0 95 (.iload 5) 2, eT 97 (.if_icmp .gt 38) 3 135, e0 100 (.iload 8) 2, e0 102 (.iload 6) 2, eT 104 (.if_icmp .gt 31) 3 135, e0 107 (.iload 7) 2, e0 109 (.aload_n 0) 1, eF 110 (.getfield 85) 3 7 33, e0 113 (.iload 4) 2, eC 115 (.iconst 1) 1 1, e0 116 .iadd 1, e0 117 (.iload 6) 2, e0 119 (.iload 8) 2, e0 121 .isub 1, eT 122 (.invokestatic 269) 3 45, e0 125 .iaload 1, e0 126 .iadd 1, e0 127 (.istore 7) 2, eC 129 (.iinc 8 1) 3 1, eT 132 (.goto (-39)) 3 93, e0 135 (.aload_n 0) 1, eF 136 (.getfield 85) 3 7 33, e0 139 (.iload 4) 2, e0 141 (.iload 6) 2, eT 143 (.invokestatic 269) 3 45, e0 146 (.iload 7) 2, e0 148 .iastore 1, eC 149 (.iinc 6 1) 3 1, eT 152 (.goto (-72)) 3 80]
set_option maxRecDepth 100000 in
theorem b_Mo_waysOf_93 {G : Ge} (x1 : Int32) (x2 : Int32) (x3 : Int32) (x4 : Int32) (x5 : Int32) (x6 : Int32) (x7 : Int32) (x8 : Int32) {μ : Mm} {K : Int32 → Mm → Prop} (h :
  (if x5 < x8 then
   (CS G m_Mo_wayAt [vi x4, vi x6] μ (RI fun v1 μ1 =>
    (vp_in v1 276 ∧
     SS G m_Mo_waysOf 80 [vr 7 0, vi x1, vi x2, vi x3, vi x4, vi x5, vi (x6 + 1), un, un] [] (wI μ1 49 0 v1.toNatClampNeg x7) (RI K))))
  else
   (if x6 < x8 then
    (CS G m_Mo_wayAt [vi x4, vi x6] μ (RI fun v2 μ2 =>
     (vp_in v2 276 ∧
      SS G m_Mo_waysOf 80 [vr 7 0, vi x1, vi x2, vi x3, vi x4, vi x5, vi (x6 + 1), un, un] [] (wI μ2 49 0 v2.toNatClampNeg x7) (RI K))))
   else
    (CS G m_Mo_wayAt [vi (x4 + 1), vi (x6 - x8)] μ (RI fun v3 μ3 =>
     (vp_in v3 276 ∧
      SS G m_Mo_waysOf 93 [vr 7 0, vi x1, vi x2, vi x3, vi x4, vi x5, vi x6, vi (x7 + (μ3.1 49 0 v3.toNatClampNeg)), vi (x8 + 1)] [] μ3 (RI K))))))) :
  SS G m_Mo_waysOf 93 [vr 7 0, vi x1, vi x2, vi x3, vi x4, vi x5, vi x6, vi x7, vi x8] [] μ (RI K) :=
  wp_s (M := m_Mo_waysOf) (lk := lk_Mo) (tb := tb_Mo_waysOf_93) (cu := [(3, [true, true, true, true, true, false, false, false, false]), (48, [true, true, true, true, true, false, false, false, false]), (80, [true, true, true, true, true, true, true, false, false]), (93, [true, true, true, true, true, true, true, true, true])]) lk_Mo_ok (by decide +kernel) 25 true _ _ _ _ h
def tc_Mo_ice : List En := [e0 0 (.aload_n 0) 1, e0 1 (.iload_n 1) 1, eT 2 (.invokevirtual 194) 3 22, eT 5 (.ifCond .eq 13) 3 18, e0 8 (.iload_n 2) 1, eC 9 (.iconst 0) 1 0, eC 10 (.bipush 45) 2 45, eT 12 (.invokestatic 99) 3 0, eT 15 (.ifCond .ne 5) 3 20, eC 18 (.iconst (-1)) 1 (-1), e0 19 .ireturn 1, e0 20 (.aload_n 0) 1, e0 21 (.iload_n 1) 1, e0 22 (.iload_n 2) 1, eC 23 (.bipush (-9)) 2 (-9), eT 25 (.invokevirtual 272) 3 46, e0 28 (.istore_n 3) 1, eC 29 (.iconst 0) 1 0, e0 30 (.istore 4) 2, eC 32 (.iconst 0) 1 0, e0 33 (.istore 5) 2]
set_option maxRecDepth 100000 in
theorem c_Mo_ice {G : Ge} (x1 : Int32) (x2 : Int32) {μ : Mm} {K : Int32 → Mm → Prop} (h :
  (CS G m_Mo_isNight [vr 7 0, vi x1] μ (RI fun v1 μ1 =>
   (if v1 = 0 then
    K (-1) μ1
   else
    (CS G m_Mo_in [vi x2, vi 0, vi 45] μ1 (RI fun v2 μ2 =>
     (if v2 = 0 then
      K (-1) μ2
     else
      (CS G m_Mo_waysOf [vr 7 0, vi x1, vi x2, vi (-9)] μ2 (RI fun v3 μ3 =>
       SS G m_Mo_ice 35 [vr 7 0, vi x1, vi x2, vi v3, vi 0, vi 0] [] μ3 (RI K)))))))))) :
  CS G m_Mo_ice [vr 7 0, vi x1, vi x2] μ (RI K) :=
  CS_of pf_Mo_ice (Nat.le_of_ble_eq_true rfl) (show SS G m_Mo_ice 0 [vr 7 0, vi x1, vi x2, un, un, un] [] μ (RI K) from wp_s (M := m_Mo_ice) (lk := lk_Mo) (tb := tc_Mo_ice) (cu := [(35, [true, true, true, true, true, true])]) lk_Mo_ok (by decide +kernel) 23 true 0 _ _ _ h)
def tb_Mo_ice_35 : List En := [e0 35 (.iload 5) 2, e0 37 (.aload_n 0) 1, eF 38 (.getfield 154) 3 7 10, eT 41 (.if_icmp .ge 37) 3 78, e0 44 (.iload 4) 2, e0 46 (.iload_n 3) 1, eT 47 (.ifCond .le 21) 3 68, e0 50 (.aload_n 0) 1, e0 51 (.iload_n 1) 1, e0 52 (.iload_n 2) 1, e0 53 (.iload 5) 2, eT 55 (.invokevirtual 272) 3 46, eT 58 (.ifCond .ne 10) 3 68, eC 61 (.iconst 1) 1 1, e0 62 (.iload 5) 2, e0 64 .ishl 1, eT 65 (.goto 4) 3 69, eC 68 (.iconst 0) 1 0, e0 69 .ior 1, e0 70 (.istore 4) 2, eC 72 (.iinc 5 1) 3 1, eT 75 (.goto (-40)) 3 35, e0 78 (.aload_n 0) 1, e0 79 (.iload_n 3) 1, e0 80 .i2l 1, eD 81 (.lconst 1) 1 1, eT 82 (.invokevirtual 265) 3 44, e0 85 .pop 1, e0 86 (.aload_n 0) 1, e0 87 (.iload 4) 2, eC 89 (.iconst 1) 1 1, eT 90 (.invokevirtual 121) 3 4, e0 93 .ireturn 1]
set_option maxRecDepth 100000 in
theorem b_Mo_ice_35 {G : Ge} (x1 : Int32) (x2 : Int32) (x3 : Int32) (x4 : Int32) (x5 : Int32) {μ : Mm} {K : Int32 → Mm → Prop} (h :
  (if (μ.1 7 0 10) ≤ x5 then
   (CS G m_Mo_fraction [vr 7 0, vl (Int32.toInt64 x3), vl 1] μ (RI fun v1 μ1 =>
    (CS G m_Mo_tells [vr 7 0, vi x4, vi 1] μ1 (RI fun v2 μ2 =>
     K v2 μ2))))
  else
   (if x3 ≤ 0 then
    SS G m_Mo_ice 35 [vr 7 0, vi x1, vi x2, vi x3, vi (x4 ||| 0), vi (x5 + 1)] [] μ (RI K)
   else
    (CS G m_Mo_waysOf [vr 7 0, vi x1, vi x2, vi x5] μ (RI fun v3 μ3 =>
     (if v3 = 0 then
      SS G m_Mo_ice 35 [vr 7 0, vi x1, vi x2, vi x3, vi (x4 ||| (1 <<< (x5 &&& 31))), vi (x5 + 1)] [] μ3 (RI K)
     else
      SS G m_Mo_ice 35 [vr 7 0, vi x1, vi x2, vi x3, vi (x4 ||| 0), vi (x5 + 1)] [] μ3 (RI K))))))) :
  SS G m_Mo_ice 35 [vr 7 0, vi x1, vi x2, vi x3, vi x4, vi x5] [] μ (RI K) :=
  wp_s (M := m_Mo_ice) (lk := lk_Mo) (tb := tb_Mo_ice_35) (cu := [(35, [true, true, true, true, true, true])]) lk_Mo_ok (by decide +kernel) 25 true _ _ _ _ h
def tc_Mo_odds : List En := [e0 0 (.aload_n 0) 1, e0 1 (.iload_n 1) 1, eT 2 (.invokevirtual 188) 3 20, eT 5 (.ifCond .ne 5) 3 10, eC 8 (.iconst (-1)) 1 (-1), e0 9 .ireturn 1, eD 10 (.lconst 1) 1 1, e0 11 (.lstore_n 2) 1, eC 12 (.iconst 0) 1 0, e0 13 (.istore 4) 2]
set_option maxRecDepth 100000 in
theorem c_Mo_odds {G : Ge} (x1 : Int32) {μ : Mm} {K : Int32 → Mm → Prop} (h :
  (CS G m_Mo_isHouse [vr 7 0, vi x1] μ (RI fun v1 μ1 =>
   (if v1 = 0 then
    K (-1) μ1
   else
    SS G m_Mo_odds 15 [vr 7 0, vi x1, vl 1, un, vi 0, un, un, un, un] [] μ1 (RI K))))) :
  CS G m_Mo_odds [vr 7 0, vi x1] μ (RI K) :=
  CS_of pf_Mo_odds (Nat.le_of_ble_eq_true rfl) (show SS G m_Mo_odds 0 [vr 7 0, vi x1, un, un, un, un, un, un, un] [] μ (RI K) from wp_s (M := m_Mo_odds) (lk := lk_Mo) (tb := tc_Mo_odds) (cu := [(15, [true, true, true, false, true, false, false, false, false]), (60, [true, true, true, false, true, false, false, false, false]), (91, [true, true, true, false, true, true, true, false, false]), (115, [true, true, true, false, true, true, true, false, false]), (158, [true, true, true, false, true, true, true, true, true]), (211, [true, true, true, false, true, true, true, false, false])]) lk_Mo_ok (by decide +kernel) 12 true 0 _ _ _ h)
def tb_Mo_odds_15 : List En := [e0 15 (.iload 4) 2, eC 17 (.bipush 101) 2 101, eT 19 (.if_icmp .ge 32) 3 51, e0 22 (.aload_n 0) 1, eF 23 (.getfield 88) 3 7 34, e0 26 (.iload 4) 2, e0 28 (.iload 4) 2, e0 30 (.aload_n 0) 1, eF 31 (.getfield 48) 3 7 20, e0 34 (.iload_n 1) 1, e0 35 .iaload 1, eT 36 (.if_icmp .ne 7) 3 43, eD 39 (.lconst 1) 1 1, eT 40 (.goto 4) 3 44, eD 43 (.lconst 0) 1 0, e0 44 .lastore 1, eC 45 (.iinc 4 1) 3 1, eT 48 (.goto (-33)) 3 15, e0 51 (.aload_n 0) 1, eF 52 (.getfield 48) 3 7 20, eC 55 (.bipush 15) 2 15, e0 57 .iaload 1, e0 58 (.istore 4) 2]
set_option maxRecDepth 100000 in
theorem b_Mo_odds_15 {G : Ge} (x1 : Int32) (l2 : Int64) (x4 : Int32) {μ : Mm} {K : Int32 → Mm → Prop} (h :
  (if (101 : Int32) ≤ x4 then
   (vp_in 15 16 ∧
    SS G m_Mo_odds 60 [vr 7 0, vi x1, vl l2, un, vi (μ.1 37 0 (Int32.toNatClampNeg 15)), un, un, un, un] [] μ (RI K))
  else
   (vp_in x1 16 ∧
    (if x4 = (μ.1 37 0 x1.toNatClampNeg) then
     (vp_in x4 101 ∧
      SS G m_Mo_odds 15 [vr 7 0, vi x1, vl l2, un, vi (x4 + 1), un, un, un, un] [] (wL μ 50 0 x4.toNatClampNeg 1) (RI K))
    else
     (vp_in x4 101 ∧
      SS G m_Mo_odds 15 [vr 7 0, vi x1, vl l2, un, vi (x4 + 1), un, un, un, un] [] (wL μ 50 0 x4.toNatClampNeg 0) (RI K)))))) :
  SS G m_Mo_odds 15 [vr 7 0, vi x1, vl l2, un, vi x4, un, un, un, un] [] μ (RI K) :=
  wp_s (M := m_Mo_odds) (lk := lk_Mo) (tb := tb_Mo_odds_15) (cu := [(15, [true, true, true, false, true, false, false, false, false]), (60, [true, true, true, false, true, false, false, false, false]), (91, [true, true, true, false, true, true, true, false, false]), (115, [true, true, true, false, true, true, true, false, false]), (158, [true, true, true, false, true, true, true, true, true]), (211, [true, true, true, false, true, true, true, false, false])]) lk_Mo_ok (by decide +kernel) 21 true _ _ _ _ h
def tb_Mo_odds_60 : List En := [e0 60 (.iload 4) 2, e0 62 (.aload_n 0) 1, eF 63 (.getfield 157) 3 7 11, eT 66 (.if_icmp .ge 193) 3 259, e0 69 (.iload 4) 2, e0 71 (.aload_n 0) 1, eF 72 (.getfield 48) 3 7 20, eC 75 (.bipush 15) 2 15, e0 77 .iaload 1, eT 78 (.if_icmp .ne 7) 3 85, eC 81 (.iconst 1) 1 1, eT 82 (.goto 4) 3 86, eC 85 (.iconst 0) 1 0, e0 86 (.istore 5) 2, eC 88 (.iconst 0) 1 0, e0 89 (.istore 6) 2, e0 259 (.aload_n 0) 1, e0 260 (.aload_n 0) 1, eF 261 (.getfield 88) 3 7 34, eC 264 (.iconst 0) 1 0, e0 265 .laload 1, e0 266 (.lload_n 2) 1, eT 267 (.invokevirtual 265) 3 44, e0 270 .ireturn 1]
set_option maxRecDepth 100000 in
theorem b_Mo_odds_60 {G : Ge} (x1 : Int32) (l2 : Int64) (x4 : Int32) {μ : Mm} {K : Int32 → Mm → Prop} (h :
  (if (μ.1 7 0 11) ≤ x4 then
   (vp_in 0 101 ∧
    (CS G m_Mo_fraction [vr 7 0, vl (μ.2 50 0 (Int32.toNatClampNeg 0)), vl l2] μ (RI fun v1 μ1 =>
     K v1 μ1)))
  else
   (vp_in 15 16 ∧
    (if x4 = (μ.1 37 0 (Int32.toNatClampNeg 15)) then
     SS G m_Mo_odds 91 [vr 7 0, vi x1, vl l2, un, vi x4, vi 1, vi 0, un, un] [] μ (RI K)
    else
     SS G m_Mo_odds 91 [vr 7 0, vi x1, vl l2, un, vi x4, vi 0, vi 0, un, un] [] μ (RI K))))) :
  SS G m_Mo_odds 60 [vr 7 0, vi x1, vl l2, un, vi x4, un, un, un, un] [] μ (RI K) :=
  wp_s (M := m_Mo_odds) (lk := lk_Mo) (tb := tb_Mo_odds_60) (cu := [(15, [true, true, true, false, true, false, false, false, false]), (60, [true, true, true, false, true, false, false, false, false]), (91, [true, true, true, false, true, true, true, false, false]), (115, [true, true, true, false, true, true, true, false, false]), (158, [true, true, true, false, true, true, true, true, true]), (211, [true, true, true, false, true, true, true, false, false])]) lk_Mo_ok (by decide +kernel) 19 true _ _ _ _ h
def tb_Mo_odds_91 : List En := [e0 91 (.iload 6) 2, eC 93 (.bipush 101) 2 101, eT 95 (.if_icmp .ge 17) 3 112, e0 98 (.aload_n 0) 1, eF 99 (.getfield 92) 3 7 35, e0 102 (.iload 6) 2, eD 104 (.lconst 0) 1 0, e0 105 .lastore 1, eC 106 (.iinc 6 1) 3 1, eT 109 (.goto (-18)) 3 91, eC 112 (.iconst 0) 1 0, e0 113 (.istore 6) 2]
set_option maxRecDepth 100000 in
theorem b_Mo_odds_91 {G : Ge} (x1 : Int32) (l2 : Int64) (x4 : Int32) (x5 : Int32) (x6 : Int32) {μ : Mm} {K : Int32 → Mm → Prop} (h :
  (if (101 : Int32) ≤ x6 then
   SS G m_Mo_odds 115 [vr 7 0, vi x1, vl l2, un, vi x4, vi x5, vi 0, un, un] [] μ (RI K)
  else
   (vp_in x6 101 ∧
    SS G m_Mo_odds 91 [vr 7 0, vi x1, vl l2, un, vi x4, vi x5, vi (x6 + 1), un, un] [] (wL μ 51 0 x6.toNatClampNeg 0) (RI K)))) :
  SS G m_Mo_odds 91 [vr 7 0, vi x1, vl l2, un, vi x4, vi x5, vi x6, un, un] [] μ (RI K) :=
  wp_s (M := m_Mo_odds) (lk := lk_Mo) (tb := tb_Mo_odds_91) (cu := [(15, [true, true, true, false, true, false, false, false, false]), (60, [true, true, true, false, true, false, false, false, false]), (91, [true, true, true, false, true, true, true, false, false]), (115, [true, true, true, false, true, true, true, false, false]), (158, [true, true, true, false, true, true, true, true, true]), (211, [true, true, true, false, true, true, true, false, false])]) lk_Mo_ok (by decide +kernel) 14 true _ _ _ _ h
def tb_Mo_odds_115 : List En := [e0 115 (.iload 6) 2, e0 117 (.iload 5) 2, eT 119 (.ifCond .eq 7) 3 126, eC 122 (.iconst 1) 1 1, eT 123 (.goto 5) 3 128, eC 126 (.bipush 10) 2 10, eT 128 (.if_icmp .ge 80) 3 208, e0 131 (.iload 5) 2, eT 133 (.ifCond .eq 13) 3 146, e0 136 (.aload_n 0) 1, e0 137 (.iload_n 1) 1, e0 138 (.iload 4) 2, eT 140 (.invokevirtual 182) 3 18, eT 143 (.goto 10) 3 153, e0 146 (.aload_n 0) 1, e0 147 (.iload_n 1) 1, e0 148 (.iload 6) 2, eT 150 (.invokevirtual 175) 3 16, e0 153 (.istore 7) 2, eC 155 (.iconst 0) 1 0, e0 156 (.istore 8) 2, eC 208 (.iconst 0) 1 0, e0 209 (.istore 6) 2]
set_option maxRecDepth 100000 in
theorem b_Mo_odds_115 {G : Ge} (x1 : Int32) (l2 : Int64) (x4 : Int32) (x5 : Int32) (x6 : Int32) {μ : Mm} {K : Int32 → Mm → Prop} (h :
  (if x5 = 0 then
   (if (10 : Int32) ≤ x6 then
    SS G m_Mo_odds 211 [vr 7 0, vi x1, vl l2, un, vi x4, vi x5, vi 0, un, un] [] μ (RI K)
   else
    (if x5 = 0 then
     (CS G m_Mo_canIn [vr 7 0, vi x1, vi x6] μ (RI fun v1 μ1 =>
      SS G m_Mo_odds 158 [vr 7 0, vi x1, vl l2, un, vi x4, vi x5, vi x6, vi v1, vi 0] [] μ1 (RI K)))
    else
     (CS G m_Mo_canOn [vr 7 0, vi x1, vi x4] μ (RI fun v2 μ2 =>
      SS G m_Mo_odds 158 [vr 7 0, vi x1, vl l2, un, vi x4, vi x5, vi x6, vi v2, vi 0] [] μ2 (RI K)))))
  else
   (if (1 : Int32) ≤ x6 then
    SS G m_Mo_odds 211 [vr 7 0, vi x1, vl l2, un, vi x4, vi x5, vi 0, un, un] [] μ (RI K)
   else
    (if x5 = 0 then
     (CS G m_Mo_canIn [vr 7 0, vi x1, vi x6] μ (RI fun v3 μ3 =>
      SS G m_Mo_odds 158 [vr 7 0, vi x1, vl l2, un, vi x4, vi x5, vi x6, vi v3, vi 0] [] μ3 (RI K)))
    else
     (CS G m_Mo_canOn [vr 7 0, vi x1, vi x4] μ (RI fun v4 μ4 =>
      SS G m_Mo_odds 158 [vr 7 0, vi x1, vl l2, un, vi x4, vi x5, vi x6, vi v4, vi 0] [] μ4 (RI K))))))) :
  SS G m_Mo_odds 115 [vr 7 0, vi x1, vl l2, un, vi x4, vi x5, vi x6, un, un] [] μ (RI K) :=
  wp_s (M := m_Mo_odds) (lk := lk_Mo) (tb := tb_Mo_odds_115) (cu := [(15, [true, true, true, false, true, false, false, false, false]), (60, [true, true, true, false, true, false, false, false, false]), (91, [true, true, true, false, true, true, true, false, false]), (115, [true, true, true, false, true, true, true, false, false]), (158, [true, true, true, false, true, true, true, true, true]), (211, [true, true, true, false, true, true, true, false, false])]) lk_Mo_ok (by decide +kernel) 20 true _ _ _ _ h
def tb_Mo_odds_158 : List En := [e0 158 (.iload 8) 2, eC 160 (.bipush 101) 2 101, eT 162 (.if_icmp .ge 40) 3 202, e0 165 (.aload_n 0) 1, eF 166 (.getfield 92) 3 7 35, e0 169 (.iload 8) 2, e0 171 (.iload 7) 2, eT 173 (.if_icmp .le 11) 3 184, e0 176 (.iload 8) 2, e0 178 (.iload 7) 2, e0 180 .isub 1, eT 181 (.goto 4) 3 185, eC 184 (.iconst 0) 1 0, e0 185 .dup2 1, e0 186 .laload 1, e0 187 (.aload_n 0) 1, eF 188 (.getfield 88) 3 7 34, e0 191 (.iload 8) 2, e0 193 .laload 1, e0 194 .ladd 1, e0 195 .lastore 1, eC 196 (.iinc 8 1) 3 1, eT 199 (.goto (-41)) 3 158, eC 202 (.iinc 6 1) 3 1, eT 205 (.goto (-90)) 3 115]
set_option maxRecDepth 100000 in
theorem b_Mo_odds_158 {G : Ge} (x1 : Int32) (l2 : Int64) (x4 : Int32) (x5 : Int32) (x6 : Int32) (x7 : Int32) (x8 : Int32) {μ : Mm} {K : Int32 → Mm → Prop} (h :
  (if (101 : Int32) ≤ x8 then
   SS G m_Mo_odds 115 [vr 7 0, vi x1, vl l2, un, vi x4, vi x5, vi (x6 + 1), un, un] [] μ (RI K)
  else
   (if x8 ≤ x7 then
    (vp_in 0 101 ∧
     (vp_in x8 101 ∧
      (vp_in 0 101 ∧
       SS G m_Mo_odds 158 [vr 7 0, vi x1, vl l2, un, vi x4, vi x5, vi x6, vi x7, vi (x8 + 1)] [] (wL μ 51 0 (Int32.toNatClampNeg 0) ((μ.2 51 0 (Int32.toNatClampNeg 0)) + (μ.2 50 0 x8.toNatClampNeg))) (RI K))))
   else
    (vp_in (x8 - x7) 101 ∧
     (vp_in x8 101 ∧
      (vp_in (x8 - x7) 101 ∧
       SS G m_Mo_odds 158 [vr 7 0, vi x1, vl l2, un, vi x4, vi x5, vi x6, vi x7, vi (x8 + 1)] [] (wL μ 51 0 (Int32.toNatClampNeg (x8 - x7)) ((μ.2 51 0 (Int32.toNatClampNeg (x8 - x7))) + (μ.2 50 0 x8.toNatClampNeg))) (RI K))))))) :
  SS G m_Mo_odds 158 [vr 7 0, vi x1, vl l2, un, vi x4, vi x5, vi x6, vi x7, vi x8] [] μ (RI K) :=
  wp_s (M := m_Mo_odds) (lk := lk_Mo) (tb := tb_Mo_odds_158) (cu := [(15, [true, true, true, false, true, false, false, false, false]), (60, [true, true, true, false, true, false, false, false, false]), (91, [true, true, true, false, true, true, true, false, false]), (115, [true, true, true, false, true, true, true, false, false]), (158, [true, true, true, false, true, true, true, true, true]), (211, [true, true, true, false, true, true, true, false, false])]) lk_Mo_ok (by decide +kernel) 26 true _ _ _ _ h
def tb_Mo_odds_211 : List En := [e0 211 (.iload 6) 2, eC 213 (.bipush 101) 2 101, eT 215 (.if_icmp .ge 23) 3 238, e0 218 (.aload_n 0) 1, eF 219 (.getfield 88) 3 7 34, e0 222 (.iload 6) 2, e0 224 (.aload_n 0) 1, eF 225 (.getfield 92) 3 7 35, e0 228 (.iload 6) 2, e0 230 .laload 1, e0 231 .lastore 1, eC 232 (.iinc 6 1) 3 1, eT 235 (.goto (-24)) 3 211, e0 238 (.lload_n 2) 1, e0 239 (.iload 5) 2, eT 241 (.ifCond .eq 7) 3 248, eD 244 (.lconst 1) 1 1, eT 245 (.goto 6) 3 251, eD 248 (.ldc2_w 276) 3 10, e0 251 .lmul 1, e0 252 (.lstore_n 2) 1, eC 253 (.iinc 4 1) 3 1, eT 256 (.goto (-196)) 3 60]
set_option maxRecDepth 100000 in
theorem b_Mo_odds_211 {G : Ge} (x1 : Int32) (l2 : Int64) (x4 : Int32) (x5 : Int32) (x6 : Int32) {μ : Mm} {K : Int32 → Mm → Prop} (h :
  (if (101 : Int32) ≤ x6 then
   (if x5 = 0 then
    SS G m_Mo_odds 60 [vr 7 0, vi x1, vl (l2 * 10), un, vi (x4 + 1), un, un, un, un] [] μ (RI K)
   else
    SS G m_Mo_odds 60 [vr 7 0, vi x1, vl (l2 * 1), un, vi (x4 + 1), un, un, un, un] [] μ (RI K))
  else
   (vp_in x6 101 ∧
    (vp_in x6 101 ∧
     SS G m_Mo_odds 211 [vr 7 0, vi x1, vl l2, un, vi x4, vi x5, vi (x6 + 1), un, un] [] (wL μ 50 0 x6.toNatClampNeg (μ.2 51 0 x6.toNatClampNeg)) (RI K))))) :
  SS G m_Mo_odds 211 [vr 7 0, vi x1, vl l2, un, vi x4, vi x5, vi x6, un, un] [] μ (RI K) :=
  wp_s (M := m_Mo_odds) (lk := lk_Mo) (tb := tb_Mo_odds_211) (cu := [(15, [true, true, true, false, true, false, false, false, false]), (60, [true, true, true, false, true, false, false, false, false]), (91, [true, true, true, false, true, true, true, false, false]), (115, [true, true, true, false, true, true, true, false, false]), (158, [true, true, true, false, true, true, true, true, true]), (211, [true, true, true, false, true, true, true, false, false])]) lk_Mo_ok (by decide +kernel) 17 true _ _ _ _ h
def tc_Mo_risk : List En := [e0 0 (.aload_n 0) 1, e0 1 (.iload_n 1) 1, eT 2 (.invokevirtual 188) 3 20, eT 5 (.ifCond .ne 5) 3 10, eC 8 (.iconst (-1)) 1 (-1), e0 9 .ireturn 1, eC 10 (.iconst 0) 1 0, e0 11 (.istore_n 2) 1, eC 12 (.iconst 0) 1 0, e0 13 (.istore_n 3) 1]
set_option maxRecDepth 100000 in
theorem c_Mo_risk {G : Ge} (x1 : Int32) {μ : Mm} {K : Int32 → Mm → Prop} (h :
  (CS G m_Mo_isHouse [vr 7 0, vi x1] μ (RI fun v1 μ1 =>
   (if v1 = 0 then
    K (-1) μ1
   else
    SS G m_Mo_risk 14 [vr 7 0, vi x1, vi 0, vi 0] [] μ1 (RI K))))) :
  CS G m_Mo_risk [vr 7 0, vi x1] μ (RI K) :=
  CS_of pf_Mo_risk (Nat.le_of_ble_eq_true rfl) (show SS G m_Mo_risk 0 [vr 7 0, vi x1, un, un] [] μ (RI K) from wp_s (M := m_Mo_risk) (lk := lk_Mo) (tb := tc_Mo_risk) (cu := [(14, [true, true, true, true])]) lk_Mo_ok (by decide +kernel) 12 true 0 _ _ _ h)
def tb_Mo_risk_14 : List En := [e0 14 (.iload_n 3) 1, eC 15 (.bipush 10) 2 10, eT 17 (.if_icmp .ge 31) 3 48, e0 20 (.iload_n 2) 1, e0 21 (.aload_n 0) 1, e0 22 (.iload_n 1) 1, e0 23 (.aload_n 0) 1, e0 24 (.iload_n 1) 1, e0 25 (.iload_n 3) 1, eT 26 (.invokevirtual 175) 3 16, eT 29 (.invokevirtual 197) 3 23, eT 32 (.ifCond .le 7) 3 39, eC 35 (.iconst 1) 1 1, eT 36 (.goto 4) 3 40, eC 39 (.iconst 0) 1 0, e0 40 .iadd 1, e0 41 (.istore_n 2) 1, eC 42 (.iinc 3 1) 3 1, eT 45 (.goto (-31)) 3 14, e0 48 (.aload_n 0) 1, e0 49 (.iload_n 2) 1, e0 50 .i2l 1, eD 51 (.ldc2_w 276) 3 10, eT 54 (.invokevirtual 265) 3 44, e0 57 .ireturn 1]
set_option maxRecDepth 100000 in
theorem b_Mo_risk_14 {G : Ge} (x1 : Int32) (x2 : Int32) (x3 : Int32) {μ : Mm} {K : Int32 → Mm → Prop} (h :
  (if (10 : Int32) ≤ x3 then
   (CS G m_Mo_fraction [vr 7 0, vl (Int32.toInt64 x2), vl 10] μ (RI fun v1 μ1 =>
    K v1 μ1))
  else
   (CS G m_Mo_canIn [vr 7 0, vi x1, vi x3] μ (RI fun v2 μ2 =>
    (CS G m_Mo_hurtOf [vr 7 0, vi x1, vi v2] μ2 (RI fun v3 μ3 =>
     (if v3 ≤ 0 then
      SS G m_Mo_risk 14 [vr 7 0, vi x1, vi (x2 + 0), vi (x3 + 1)] [] μ3 (RI K)
     else
      SS G m_Mo_risk 14 [vr 7 0, vi x1, vi (x2 + 1), vi (x3 + 1)] [] μ3 (RI K)))))))) :
  SS G m_Mo_risk 14 [vr 7 0, vi x1, vi x2, vi x3] [] μ (RI K) :=
  wp_s (M := m_Mo_risk) (lk := lk_Mo) (tb := tb_Mo_risk_14) (cu := [(14, [true, true, true, true])]) lk_Mo_ok (by decide +kernel) 22 true _ _ _ _ h
def tc_Mo_lots : List En := [e0 0 (.iload_n 1) 1, eC 1 (.iconst 1) 1 1, eC 2 (.bipush 8) 2 8, eT 4 (.invokestatic 99) 3 0, eT 7 (.ifCond .eq 14) 3 21, e0 10 (.iload_n 2) 1, eC 11 (.iconst 1) 1 1, eC 12 (.ldc_w 278) 3 2147483646, eT 15 (.invokestatic 99) 3 0, eT 18 (.ifCond .ne 5) 3 23, eC 21 (.iconst (-1)) 1 (-1), e0 22 .ireturn 1, e0 23 (.aload_n 0) 1, eF 24 (.getfield 154) 3 7 10, eT 27 (.ifCond .eq 10) 3 37, e0 30 (.aload_n 0) 1, eT 31 (.invokevirtual 178) 3 17, eT 34 (.ifCond .eq 6) 3 40, eC 37 (.bipush (-4)) 2 (-4), e0 39 .ireturn 1, e0 40 (.aload_n 0) 1, eF 41 (.getfield 160) 3 7 21, eC 44 (.bipush 6) 2 6, e0 46 (.iload_n 1) 1, e0 47 .imul 1, e0 48 .iadd 1, eC 49 (.bipush 60) 2 60, eT 51 (.if_icmp .le 6) 3 57, eC 54 (.bipush (-2)) 2 (-2), e0 56 .ireturn 1, e0 57 (.iload_n 2) 1, e0 58 .i2l 1, e0 59 (.lstore_n 3) 1, eC 60 (.iconst 0) 1 0, e0 61 (.istore 5) 2, eC 63 (.iconst 0) 1 0, e0 64 (.istore 6) 2]
set_option maxRecDepth 100000 in
theorem c_Mo_lots {G : Ge} (x1 : Int32) (x2 : Int32) {μ : Mm} {K : Int32 → Mm → Prop} (h :
  (CS G m_Mo_in [vi x1, vi 1, vi 8] μ (RI fun v1 μ1 =>
   (if v1 = 0 then
    K (-1) μ1
   else
    (CS G m_Mo_in [vi x2, vi 1, vi 2147483646] μ1 (RI fun v2 μ2 =>
     (if v2 = 0 then
      K (-1) μ2
     else
      (if (μ2.1 7 0 10) = 0 then
       K (-4) μ2
      else
       (CS G m_Mo_isCandlemas [vr 7 0] μ2 (RI fun v3 μ3 =>
        (if v3 = 0 then
         (if ((μ3.1 7 0 21) + (6 * x1)) ≤ 60 then
          SS G m_Mo_lots 66 [vr 7 0, vi x1, un, vl (Int32.toInt64 x2), un, vi 0, vi 0, un, un] [] μ3 (RI K)
         else
          K (-2) μ3)
        else
         K (-4) μ3))))))))))) :
  CS G m_Mo_lots [vr 7 0, vi x1, vi x2] μ (RI K) :=
  CS_of pf_Mo_lots (Nat.le_of_ble_eq_true rfl) (show SS G m_Mo_lots 0 [vr 7 0, vi x1, vi x2, un, un, un, un, un, un] [] μ (RI K) from wp_s (M := m_Mo_lots) (lk := lk_Mo) (tb := tc_Mo_lots) (cu := [(66, [true, true, false, true, false, true, true, false, false]), (82, [true, true, false, true, false, true, true, true, false]), (110, [true, true, false, true, false, true, true, true, false]), (128, [true, true, false, true, false, true, true, true, true])]) lk_Mo_ok (by decide +kernel) 35 true 0 _ _ _ h)
def tb_Mo_lots_66 : List En := [e0 66 (.iload 6) 2, e0 68 (.iload_n 1) 1, eT 69 (.if_icmp .ge 97) 3 166, e0 72 (.aload_n 0) 1, eT 73 (.invokevirtual 178) 3 17, eT 76 (.ifCond .ne 90) 3 166, eC 79 (.iconst 0) 1 0, e0 80 (.istore 7) 2, e0 166 (.iload 5) 2, e0 168 .ireturn 1]
set_option maxRecDepth 100000 in
theorem b_Mo_lots_66 {G : Ge} (x1 : Int32) (l3 : Int64) (x5 : Int32) (x6 : Int32) {μ : Mm} {K : Int32 → Mm → Prop} (h :
  (if x1 ≤ x6 then
   K x5 μ
  else
   (CS G m_Mo_isCandlemas [vr 7 0] μ (RI fun v1 μ1 =>
    (if v1 = 0 then
     SS G m_Mo_lots 82 [vr 7 0, vi x1, un, vl l3, un, vi x5, vi x6, vi 0, un] [] μ1 (RI K)
    else
     K x5 μ1))))) :
  SS G m_Mo_lots 66 [vr 7 0, vi x1, un, vl l3, un, vi x5, vi x6, un, un] [] μ (RI K) :=
  wp_s (M := m_Mo_lots) (lk := lk_Mo) (tb := tb_Mo_lots_66) (cu := [(66, [true, true, false, true, false, true, true, false, false]), (82, [true, true, false, true, false, true, true, true, false]), (110, [true, true, false, true, false, true, true, true, false]), (128, [true, true, false, true, false, true, true, true, true])]) lk_Mo_ok (by decide +kernel) 12 true _ _ _ _ h
def tb_Mo_lots_82 : List En := [e0 82 (.iload 7) 2, e0 84 (.aload_n 0) 1, eF 85 (.getfield 154) 3 7 10, eT 88 (.if_icmp .ge 68) 3 156, e0 91 (.aload_n 0) 1, e0 92 (.iload 7) 2, eT 94 (.invokevirtual 172) 3 15, eT 97 (.ifCond .ne 53) 3 150, eD 100 (.ldc2_w 279) 3 48271, e0 103 (.lload_n 3) 1, e0 104 .lmul 1, eD 105 (.ldc2_w 281) 3 2147483647, e0 108 .lrem 1, e0 109 (.lstore_n 3) 1, eC 150 (.iinc 7 1) 3 1, eT 153 (.goto (-71)) 3 82, e0 156 (.aload_n 0) 1, eT 157 (.invokevirtual 212) 3 28, eC 160 (.iinc 6 1) 3 1, eT 163 (.goto (-97)) 3 66]
set_option maxRecDepth 100000 in
theorem b_Mo_lots_82 {G : Ge} (x1 : Int32) (l3 : Int64) (x5 : Int32) (x6 : Int32) (x7 : Int32) {μ : Mm} {K : Int32 → Mm → Prop} (h :
  (if (μ.1 7 0 10) ≤ x7 then
   (CS G m_Mo_passes [vr 7 0] μ (RV fun μ1 =>
    SS G m_Mo_lots 66 [vr 7 0, vi x1, un, vl l3, un, vi x5, vi (x6 + 1), un, un] [] μ1 (RI K)))
  else
   (CS G m_Mo_didBear [vr 7 0, vi x7] μ (RI fun v2 μ2 =>
    (if v2 = 0 then
     (¬ (2147483647 : Int64) = 0 ∧
      SS G m_Mo_lots 110 [vr 7 0, vi x1, un, vl ((48271 * l3) - (48271 * l3) / 2147483647 * 2147483647), un, vi x5, vi x6, vi x7, un] [] μ2 (RI K))
    else
     SS G m_Mo_lots 82 [vr 7 0, vi x1, un, vl l3, un, vi x5, vi x6, vi (x7 + 1), un] [] μ2 (RI K)))))) :
  SS G m_Mo_lots 82 [vr 7 0, vi x1, un, vl l3, un, vi x5, vi x6, vi x7, un] [] μ (RI K) :=
  wp_s (M := m_Mo_lots) (lk := lk_Mo) (tb := tb_Mo_lots_82) (cu := [(66, [true, true, false, true, false, true, true, false, false]), (82, [true, true, false, true, false, true, true, true, false]), (110, [true, true, false, true, false, true, true, true, false]), (128, [true, true, false, true, false, true, true, true, true])]) lk_Mo_ok (by decide +kernel) 18 true _ _ _ _ h
def tb_Mo_lots_110 : List En := [e0 110 (.lload_n 3) 1, eD 111 (.ldc2_w 283) 3 8, e0 114 .ldiv 1, e0 115 (.aload_n 0) 1, e0 116 (.iload 7) 2, eT 118 (.invokevirtual 185) 3 19, eC 121 (.iconst 1) 1 1, e0 122 .iadd 1, e0 123 .i2l 1, e0 124 .lrem 1, e0 125 .l2i 1, e0 126 (.istore 8) 2]
set_option maxRecDepth 100000 in
theorem b_Mo_lots_110 {G : Ge} (x1 : Int32) (l3 : Int64) (x5 : Int32) (x6 : Int32) (x7 : Int32) {μ : Mm} {K : Int32 → Mm → Prop} (h :
  (¬ (8 : Int64) = 0 ∧
   (CS G m_Mo_canTonight [vr 7 0, vi x7] μ (RI fun v1 μ1 =>
    (¬ ((Int32.toInt64 (v1 + 1)) : Int64) = 0 ∧
     SS G m_Mo_lots 128 [vr 7 0, vi x1, un, vl l3, un, vi x5, vi x6, vi x7, vi (Int64.toInt32 ((l3 / 8) - (l3 / 8) / (Int32.toInt64 (v1 + 1)) * (Int32.toInt64 (v1 + 1))))] [] μ1 (RI K)))))) :
  SS G m_Mo_lots 110 [vr 7 0, vi x1, un, vl l3, un, vi x5, vi x6, vi x7, un] [] μ (RI K) :=
  wp_s (M := m_Mo_lots) (lk := lk_Mo) (tb := tb_Mo_lots_110) (cu := [(66, [true, true, false, true, false, true, true, false, false]), (82, [true, true, false, true, false, true, true, true, false]), (110, [true, true, false, true, false, true, true, true, false]), (128, [true, true, false, true, false, true, true, true, true])]) lk_Mo_ok (by decide +kernel) 16 true _ _ _ _ h
def tb_Mo_lots_128 : List En := [e0 128 (.iload 5) 2, e0 130 (.iload 8) 2, eT 132 (.ifCond .ne 7) 3 139, eC 135 (.iconst 0) 1 0, eT 136 (.goto 11) 3 147, e0 139 (.aload_n 0) 1, e0 140 (.iload 7) 2, e0 142 (.iload 8) 2, eT 144 (.invokevirtual 209) 3 27, e0 147 .iadd 1, e0 148 (.istore 5) 2, eC 150 (.iinc 7 1) 3 1, eT 153 (.goto (-71)) 3 82]
set_option maxRecDepth 100000 in
theorem b_Mo_lots_128 {G : Ge} (x1 : Int32) (l3 : Int64) (x5 : Int32) (x6 : Int32) (x7 : Int32) (x8 : Int32) {μ : Mm} {K : Int32 → Mm → Prop} (h :
  (if x8 = 0 then
   SS G m_Mo_lots 82 [vr 7 0, vi x1, un, vl l3, un, vi (x5 + 0), vi x6, vi (x7 + 1), un] [] μ (RI K)
  else
   (CS G m_Mo_bears [vr 7 0, vi x7, vi x8] μ (RI fun v1 μ1 =>
    SS G m_Mo_lots 82 [vr 7 0, vi x1, un, vl l3, un, vi (x5 + v1), vi x6, vi (x7 + 1), un] [] μ1 (RI K))))) :
  SS G m_Mo_lots 128 [vr 7 0, vi x1, un, vl l3, un, vi x5, vi x6, vi x7, vi x8] [] μ (RI K) :=
  wp_s (M := m_Mo_lots) (lk := lk_Mo) (tb := tb_Mo_lots_128) (cu := [(66, [true, true, false, true, false, true, true, false, false]), (82, [true, true, false, true, false, true, true, true, false]), (110, [true, true, false, true, false, true, true, true, false]), (128, [true, true, false, true, false, true, true, true, true])]) lk_Mo_ok (by decide +kernel) 15 true _ _ _ _ h
def tc_Mo_counted : List En := [eC 0 (.iconst 0) 1 0, e0 1 (.istore_n 2) 1, eC 2 (.iconst 0) 1 0, e0 3 (.istore_n 3) 1]
set_option maxRecDepth 100000 in
theorem c_Mo_counted {G : Ge} (x1 : Int32) {μ : Mm} {K : Int32 → Mm → Prop} (h :
  SS G m_Mo_counted 4 [vr 7 0, vi x1, vi 0, vi 0] [] μ (RI K)) :
  CS G m_Mo_counted [vr 7 0, vi x1] μ (RI K) :=
  CS_of pf_Mo_counted (Nat.le_of_ble_eq_true rfl) (show SS G m_Mo_counted 0 [vr 7 0, vi x1, un, un] [] μ (RI K) from wp_s (M := m_Mo_counted) (lk := lk_Mo) (tb := tc_Mo_counted) (cu := [(4, [true, true, true, true]), (84, [true, true, true, true]), (121, [true, true, true, true]), (157, [true, true, true, true])]) lk_Mo_ok (by decide +kernel) 8 true 0 _ _ _ h)
def tb_Mo_counted_4 : List En := [e0 4 (.iload_n 3) 1, e0 5 (.aload_n 0) 1, eF 6 (.getfield 154) 3 7 10, eT 9 (.if_icmp .ge 73) 3 82, e0 12 (.iload_n 2) 1, e0 13 (.iload_n 1) 1, eC 14 (.iconst 4) 1 4, eT 15 (.if_icmp .ne 12) 3 27, e0 18 (.aload_n 0) 1, eF 19 (.getfield 48) 3 7 20, e0 22 (.iload_n 3) 1, e0 23 .iaload 1, eT 24 (.goto 50) 3 74, e0 27 (.iload_n 1) 1, eC 28 (.iconst 5) 1 5, eT 29 (.if_icmp .ne 14) 3 43, e0 32 (.aload_n 0) 1, eF 33 (.getfield 48) 3 7 20, eC 36 (.iconst 5) 1 5, e0 37 (.iload_n 3) 1, e0 38 .iadd 1, e0 39 .iaload 1, eT 40 (.goto 34) 3 74, e0 43 (.iload_n 1) 1, eC 44 (.bipush 6) 2 6, eT 46 (.if_icmp .ne 27) 3 73, e0 49 (.aload_n 0) 1, eF 50 (.getfield 33) 3 7 12, e0 53 (.iload_n 3) 1, e0 54 .iaload 1, eC 55 (.iconst 2) 1 2, eT 56 (.if_icmp .eq 13) 3 69, e0 59 (.aload_n 0) 1, eF 60 (.getfield 33) 3 7 12, e0 63 (.iload_n 3) 1, e0 64 .iaload 1, eC 65 (.iconst 5) 1 5, eT 66 (.if_icmp .ne 7) 3 73, eC 69 (.iconst 1) 1 1, eT 70 (.goto 4) 3 74, eC 73 (.iconst 0) 1 0, e0 74 .iadd 1, e0 75 (.istore_n 2) 1, eC 76 (.iinc 3 1) 3 1, eT 79 (.goto (-75)) 3 4, eC 82 (.iconst 0) 1 0, e0 83 (.istore_n 3) 1]
set_option maxRecDepth 100000 in
theorem b_Mo_counted_4 {G : Ge} (x1 : Int32) (x2 : Int32) (x3 : Int32) {μ : Mm} {K : Int32 → Mm → Prop} (h :
  (if (μ.1 7 0 10) ≤ x3 then
   SS G m_Mo_counted 84 [vr 7 0, vi x1, vi x2, vi 0] [] μ (RI K)
  else
   (if x1 = 4 then
    (vp_in x3 16 ∧
     SS G m_Mo_counted 4 [vr 7 0, vi x1, vi (x2 + (μ.1 37 0 x3.toNatClampNeg)), vi (x3 + 1)] [] μ (RI K))
   else
    (if x1 = 5 then
     (vp_in (5 + x3) 16 ∧
      SS G m_Mo_counted 4 [vr 7 0, vi x1, vi (x2 + (μ.1 37 0 (Int32.toNatClampNeg (5 + x3)))), vi (x3 + 1)] [] μ (RI K))
    else
     (if x1 = 6 then
      (vp_in x3 5 ∧
       (if (μ.1 32 0 x3.toNatClampNeg) = 2 then
        SS G m_Mo_counted 4 [vr 7 0, vi x1, vi (x2 + 1), vi (x3 + 1)] [] μ (RI K)
       else
        (vp_in x3 5 ∧
         (if (μ.1 32 0 x3.toNatClampNeg) = 5 then
          SS G m_Mo_counted 4 [vr 7 0, vi x1, vi (x2 + 1), vi (x3 + 1)] [] μ (RI K)
         else
          SS G m_Mo_counted 4 [vr 7 0, vi x1, vi (x2 + 0), vi (x3 + 1)] [] μ (RI K)))))
     else
      SS G m_Mo_counted 4 [vr 7 0, vi x1, vi (x2 + 0), vi (x3 + 1)] [] μ (RI K)))))) :
  SS G m_Mo_counted 4 [vr 7 0, vi x1, vi x2, vi x3] [] μ (RI K) :=
  wp_s (M := m_Mo_counted) (lk := lk_Mo) (tb := tb_Mo_counted_4) (cu := [(4, [true, true, true, true]), (84, [true, true, true, true]), (121, [true, true, true, true]), (157, [true, true, true, true])]) lk_Mo_ok (by decide +kernel) 36 true _ _ _ _ h
def tb_Mo_counted_84 : List En := [e0 84 (.iload_n 3) 1, eC 85 (.bipush 6) 2 6, eT 87 (.if_icmp .ge 32) 3 119, e0 90 (.iload_n 2) 1, e0 91 (.iload_n 1) 1, eC 92 (.bipush 7) 2 7, eT 94 (.if_icmp .ne 16) 3 110, e0 97 (.aload_n 0) 1, eF 98 (.getfield 17) 3 7 5, e0 101 (.iload_n 3) 1, e0 102 .iaload 1, eT 103 (.ifCond .lt 7) 3 110, eC 106 (.iconst 1) 1 1, eT 107 (.goto 4) 3 111, eC 110 (.iconst 0) 1 0, e0 111 .iadd 1, e0 112 (.istore_n 2) 1, eC 113 (.iinc 3 1) 3 1, eT 116 (.goto (-32)) 3 84, eC 119 (.iconst 0) 1 0, e0 120 (.istore_n 3) 1]
set_option maxRecDepth 100000 in
theorem b_Mo_counted_84 {G : Ge} (x1 : Int32) (x2 : Int32) (x3 : Int32) {μ : Mm} {K : Int32 → Mm → Prop} (h :
  (if (6 : Int32) ≤ x3 then
   SS G m_Mo_counted 121 [vr 7 0, vi x1, vi x2, vi 0] [] μ (RI K)
  else
   (if x1 = 7 then
    (vp_in x3 6 ∧
     (if (μ.1 27 0 x3.toNatClampNeg) < 0 then
      SS G m_Mo_counted 84 [vr 7 0, vi x1, vi (x2 + 0), vi (x3 + 1)] [] μ (RI K)
     else
      SS G m_Mo_counted 84 [vr 7 0, vi x1, vi (x2 + 1), vi (x3 + 1)] [] μ (RI K)))
   else
    SS G m_Mo_counted 84 [vr 7 0, vi x1, vi (x2 + 0), vi (x3 + 1)] [] μ (RI K)))) :
  SS G m_Mo_counted 84 [vr 7 0, vi x1, vi x2, vi x3] [] μ (RI K) :=
  wp_s (M := m_Mo_counted) (lk := lk_Mo) (tb := tb_Mo_counted_84) (cu := [(4, [true, true, true, true]), (84, [true, true, true, true]), (121, [true, true, true, true]), (157, [true, true, true, true])]) lk_Mo_ok (by decide +kernel) 22 true _ _ _ _ h
def tb_Mo_counted_121 : List En := [e0 121 (.iload_n 3) 1, eC 122 (.iconst 4) 1 4, eT 123 (.if_icmp .ge 32) 3 155, e0 126 (.iload_n 2) 1, e0 127 (.iload_n 1) 1, eC 128 (.bipush 8) 2 8, eT 130 (.if_icmp .ne 16) 3 146, e0 133 (.aload_n 0) 1, eF 134 (.getfield 26) 3 7 8, e0 137 (.iload_n 3) 1, e0 138 .iaload 1, eT 139 (.ifCond .lt 7) 3 146, eC 142 (.iconst 1) 1 1, eT 143 (.goto 4) 3 147, eC 146 (.iconst 0) 1 0, e0 147 .iadd 1, e0 148 (.istore_n 2) 1, eC 149 (.iinc 3 1) 3 1, eT 152 (.goto (-31)) 3 121, eC 155 (.iconst 0) 1 0, e0 156 (.istore_n 3) 1]
set_option maxRecDepth 100000 in
theorem b_Mo_counted_121 {G : Ge} (x1 : Int32) (x2 : Int32) (x3 : Int32) {μ : Mm} {K : Int32 → Mm → Prop} (h :
  (if (4 : Int32) ≤ x3 then
   SS G m_Mo_counted 157 [vr 7 0, vi x1, vi x2, vi 0] [] μ (RI K)
  else
   (if x1 = 8 then
    (vp_in x3 4 ∧
     (if (μ.1 30 0 x3.toNatClampNeg) < 0 then
      SS G m_Mo_counted 121 [vr 7 0, vi x1, vi (x2 + 0), vi (x3 + 1)] [] μ (RI K)
     else
      SS G m_Mo_counted 121 [vr 7 0, vi x1, vi (x2 + 1), vi (x3 + 1)] [] μ (RI K)))
   else
    SS G m_Mo_counted 121 [vr 7 0, vi x1, vi (x2 + 0), vi (x3 + 1)] [] μ (RI K)))) :
  SS G m_Mo_counted 121 [vr 7 0, vi x1, vi x2, vi x3] [] μ (RI K) :=
  wp_s (M := m_Mo_counted) (lk := lk_Mo) (tb := tb_Mo_counted_121) (cu := [(4, [true, true, true, true]), (84, [true, true, true, true]), (121, [true, true, true, true]), (157, [true, true, true, true])]) lk_Mo_ok (by decide +kernel) 22 true _ _ _ _ h
def tb_Mo_counted_157 : List En := [e0 157 (.iload_n 3) 1, eC 158 (.iconst 3) 1 3, eT 159 (.if_icmp .ge 32) 3 191, e0 162 (.iload_n 2) 1, e0 163 (.iload_n 1) 1, eC 164 (.bipush 9) 2 9, eT 166 (.if_icmp .ne 16) 3 182, e0 169 (.aload_n 0) 1, eF 170 (.getfield 54) 3 7 23, e0 173 (.iload_n 3) 1, e0 174 .baload 1, eT 175 (.ifCond .eq 7) 3 182, eC 178 (.iconst 1) 1 1, eT 179 (.goto 4) 3 183, eC 182 (.iconst 0) 1 0, e0 183 .iadd 1, e0 184 (.istore_n 2) 1, eC 185 (.iinc 3 1) 3 1, eT 188 (.goto (-31)) 3 157, e0 191 (.iload_n 1) 1, eS 192 (.tableswitch 55 0 3 #[32, 37, 42, 50]) 32 247 [(0, 224), (1, 229), (2, 234), (3, 242)], e0 224 (.aload_n 0) 1, eF 225 (.getfield 154) 3 7 10, e0 228 .ireturn 1, e0 229 (.aload_n 0) 1, eF 230 (.getfield 157) 3 7 11, e0 233 .ireturn 1, e0 234 (.aload_n 0) 1, eF 235 (.getfield 48) 3 7 20, eC 238 (.bipush 15) 2 15, e0 240 .iaload 1, e0 241 .ireturn 1, e0 242 (.aload_n 0) 1, eF 243 (.getfield 160) 3 7 21, e0 246 .ireturn 1, e0 247 (.iload_n 2) 1, e0 248 .ireturn 1]
set_option maxRecDepth 100000 in
theorem b_Mo_counted_157 {G : Ge} (x1 : Int32) (x2 : Int32) (x3 : Int32) {μ : Mm} {K : Int32 → Mm → Prop} (h :
  (if (3 : Int32) ≤ x3 then
   (if x1 = 0 then
    K (μ.1 7 0 10) μ
   else
    (if x1 = 1 then
     K (μ.1 7 0 11) μ
    else
     (if x1 = 2 then
      (vp_in 15 16 ∧
       K (μ.1 37 0 (Int32.toNatClampNeg 15)) μ)
     else
      (if x1 = 3 then
       K (μ.1 7 0 21) μ
      else
       K x2 μ))))
  else
   (if x1 = 9 then
    (vp_in x3 3 ∧
     (if (μ.1 39 0 x3.toNatClampNeg) = 0 then
      SS G m_Mo_counted 157 [vr 7 0, vi x1, vi (x2 + 0), vi (x3 + 1)] [] μ (RI K)
     else
      SS G m_Mo_counted 157 [vr 7 0, vi x1, vi (x2 + 1), vi (x3 + 1)] [] μ (RI K)))
   else
    SS G m_Mo_counted 157 [vr 7 0, vi x1, vi (x2 + 0), vi (x3 + 1)] [] μ (RI K)))) :
  SS G m_Mo_counted 157 [vr 7 0, vi x1, vi x2, vi x3] [] μ (RI K) :=
  wp_s (M := m_Mo_counted) (lk := lk_Mo) (tb := tb_Mo_counted_157) (cu := [(4, [true, true, true, true]), (84, [true, true, true, true]), (121, [true, true, true, true]), (157, [true, true, true, true])]) lk_Mo_ok (by decide +kernel) 22 true _ _ _ _ h
def tc_Mo_count : List En := [e0 0 (.iload_n 1) 1, eC 1 (.iconst 0) 1 0, eC 2 (.bipush 9) 2 9, eT 4 (.invokestatic 99) 3 0, eT 7 (.ifCond .eq 11) 3 18, e0 10 (.aload_n 0) 1, e0 11 (.iload_n 1) 1, eT 12 (.invokevirtual 285) 3 47, eT 15 (.goto 4) 3 19, eC 18 (.iconst (-1)) 1 (-1), e0 19 .ireturn 1]
set_option maxRecDepth 100000 in
theorem c_Mo_count {G : Ge} (x1 : Int32) {μ : Mm} {K : Int32 → Mm → Prop} (h :
  (CS G m_Mo_in [vi x1, vi 0, vi 9] μ (RI fun v1 μ1 =>
   (if v1 = 0 then
    K (-1) μ1
   else
    (CS G m_Mo_counted [vr 7 0, vi x1] μ1 (RI fun v2 μ2 =>
     K v2 μ2)))))) :
  CS G m_Mo_count [vr 7 0, vi x1] μ (RI K) :=
  CS_of pf_Mo_count (Nat.le_of_ble_eq_true rfl) (show SS G m_Mo_count 0 [vr 7 0, vi x1] [] μ (RI K) from wp_s (M := m_Mo_count) (lk := lk_Mo) (tb := tc_Mo_count) (cu := []) lk_Mo_ok (by decide +kernel) 13 true 0 _ _ _ h)
def tc_Mo_mix : List En := [e0 0 (.aload_n 0) 1, eD 1 (.ldc2_w 288) 3 31, e0 4 (.aload_n 0) 1, eF 5 (.getfield 290) 3 7 36, e0 8 .lmul 1, e0 9 (.lload_n 1) 1, e0 10 .ladd 1, eF 11 (.putfield 290) 3 7 36, e0 14 .return_ 1]
set_option maxRecDepth 100000 in
theorem c_Mo_mix {G : Ge} (l1 : Int64) {μ : Mm} {K : Mm → Prop} (h :
  K (wL μ 7 0 36 ((31 * (μ.2 7 0 36)) + l1))) :
  CS G m_Mo_mix [vr 7 0, vl l1] μ (RV K) :=
  CS_of pf_Mo_mix (Nat.le_of_ble_eq_true rfl) (show SS G m_Mo_mix 0 [vr 7 0, vl l1, un] [] μ (RV K) from wp_s (M := m_Mo_mix) (lk := lk_Mo) (tb := tc_Mo_mix) (cu := []) lk_Mo_ok (by decide +kernel) 12 true 0 _ _ _ h)
def tc_Mo_mixStreet : List En := [eC 0 (.iconst 0) 1 0, e0 1 (.istore_n 1) 1]
set_option maxRecDepth 100000 in
theorem c_Mo_mixStreet {G : Ge}  {μ : Mm} {K : Mm → Prop} (h :
  SS G m_Mo_mixStreet 2 [vr 7 0, vi 0, un] [] μ (RV K)) :
  CS G m_Mo_mixStreet [vr 7 0] μ (RV K) :=
  CS_of pf_Mo_mixStreet (Nat.le_of_ble_eq_true rfl) (show SS G m_Mo_mixStreet 0 [vr 7 0, un, un] [] μ (RV K) from wp_s (M := m_Mo_mixStreet) (lk := lk_Mo) (tb := tc_Mo_mixStreet) (cu := [(2, [true, true, false]), (29, [true, true, false]), (39, [true, true, true]), (70, [true, true, false])]) lk_Mo_ok (by decide +kernel) 6 true 0 _ _ _ h)
def tb_Mo_mixStreet_2 : List En := [e0 2 (.iload_n 1) 1, e0 3 (.aload_n 0) 1, eF 4 (.getfield 157) 3 7 11, eT 7 (.if_icmp .ge 20) 3 27, e0 10 (.aload_n 0) 1, e0 11 (.aload_n 0) 1, eF 12 (.getfield 39) 3 7 14, e0 15 (.iload_n 1) 1, e0 16 .iaload 1, e0 17 .i2l 1, eT 18 (.invokevirtual 293) 3 48, eC 21 (.iinc 1 1) 3 1, eT 24 (.goto (-22)) 3 2, eC 27 (.iconst 0) 1 0, e0 28 (.istore_n 1) 1]
set_option maxRecDepth 100000 in
theorem b_Mo_mixStreet_2 {G : Ge} (x1 : Int32) {μ : Mm} {K : Mm → Prop} (h :
  (if (μ.1 7 0 11) ≤ x1 then
   SS G m_Mo_mixStreet 29 [vr 7 0, vi 0, un] [] μ (RV K)
  else
   (vp_in x1 8 ∧
    (CS G m_Mo_mix [vr 7 0, vl (Int32.toInt64 (μ.1 34 0 x1.toNatClampNeg))] μ (RV fun μ1 =>
     SS G m_Mo_mixStreet 2 [vr 7 0, vi (x1 + 1), un] [] μ1 (RV K)))))) :
  SS G m_Mo_mixStreet 2 [vr 7 0, vi x1, un] [] μ (RV K) :=
  wp_s (M := m_Mo_mixStreet) (lk := lk_Mo) (tb := tb_Mo_mixStreet_2) (cu := [(2, [true, true, false]), (29, [true, true, false]), (39, [true, true, true]), (70, [true, true, false])]) lk_Mo_ok (by decide +kernel) 17 true _ _ _ _ h
def tb_Mo_mixStreet_29 : List En := [e0 29 (.iload_n 1) 1, e0 30 (.aload_n 0) 1, eF 31 (.getfield 154) 3 7 10, eT 34 (.if_icmp .ge 34) 3 68, eC 37 (.iconst 0) 1 0, e0 38 (.istore_n 2) 1, eC 68 (.iconst 0) 1 0, e0 69 (.istore_n 1) 1]
set_option maxRecDepth 100000 in
theorem b_Mo_mixStreet_29 {G : Ge} (x1 : Int32) {μ : Mm} {K : Mm → Prop} (h :
  (if (μ.1 7 0 10) ≤ x1 then
   SS G m_Mo_mixStreet 70 [vr 7 0, vi 0, un] [] μ (RV K)
  else
   SS G m_Mo_mixStreet 39 [vr 7 0, vi x1, vi 0] [] μ (RV K))) :
  SS G m_Mo_mixStreet 29 [vr 7 0, vi x1, un] [] μ (RV K) :=
  wp_s (M := m_Mo_mixStreet) (lk := lk_Mo) (tb := tb_Mo_mixStreet_29) (cu := [(2, [true, true, false]), (29, [true, true, false]), (39, [true, true, true]), (70, [true, true, false])]) lk_Mo_ok (by decide +kernel) 10 true _ _ _ _ h
def tb_Mo_mixStreet_39 : List En := [e0 39 (.iload_n 2) 1, eC 40 (.bipush 6) 2 6, eT 42 (.if_icmp .ge 20) 3 62, e0 45 (.aload_n 0) 1, e0 46 (.aload_n 0) 1, e0 47 (.iload_n 1) 1, e0 48 (.iload_n 2) 1, eT 49 (.invokevirtual 191) 3 21, e0 52 .i2l 1, eT 53 (.invokevirtual 293) 3 48, eC 56 (.iinc 2 1) 3 1, eT 59 (.goto (-20)) 3 39, eC 62 (.iinc 1 1) 3 1, eT 65 (.goto (-36)) 3 29]
set_option maxRecDepth 100000 in
theorem b_Mo_mixStreet_39 {G : Ge} (x1 : Int32) (x2 : Int32) {μ : Mm} {K : Mm → Prop} (h :
  (if (6 : Int32) ≤ x2 then
   SS G m_Mo_mixStreet 29 [vr 7 0, vi (x1 + 1), un] [] μ (RV K)
  else
   (CS G m_Mo_houseTells [vr 7 0, vi x1, vi x2] μ (RI fun v1 μ1 =>
    (CS G m_Mo_mix [vr 7 0, vl (Int32.toInt64 v1)] μ1 (RV fun μ2 =>
     SS G m_Mo_mixStreet 39 [vr 7 0, vi x1, vi (x2 + 1)] [] μ2 (RV K))))))) :
  SS G m_Mo_mixStreet 39 [vr 7 0, vi x1, vi x2] [] μ (RV K) :=
  wp_s (M := m_Mo_mixStreet) (lk := lk_Mo) (tb := tb_Mo_mixStreet_39) (cu := [(2, [true, true, false]), (29, [true, true, false]), (39, [true, true, true]), (70, [true, true, false])]) lk_Mo_ok (by decide +kernel) 16 true _ _ _ _ h
def tb_Mo_mixStreet_70 : List En := [e0 70 (.iload_n 1) 1, eC 71 (.iconst 3) 1 3, eT 72 (.if_icmp .ge 35) 3 107, e0 75 (.aload_n 0) 1, e0 76 (.aload_n 0) 1, eF 77 (.getfield 54) 3 7 23, e0 80 (.iload_n 1) 1, e0 81 .baload 1, eT 82 (.ifCond .eq 13) 3 95, e0 85 (.aload_n 0) 1, eF 86 (.getfield 58) 3 7 24, e0 89 (.iload_n 1) 1, e0 90 .iaload 1, e0 91 .i2l 1, eT 92 (.goto 6) 3 98, eD 95 (.ldc2_w 297) 3 (-1), eT 98 (.invokevirtual 293) 3 48, eC 101 (.iinc 1 1) 3 1, eT 104 (.goto (-34)) 3 70, e0 107 .return_ 1]
set_option maxRecDepth 100000 in
theorem b_Mo_mixStreet_70 {G : Ge} (x1 : Int32) {μ : Mm} {K : Mm → Prop} (h :
  (if (3 : Int32) ≤ x1 then
   K μ
  else
   (vp_in x1 3 ∧
    (if (μ.1 39 0 x1.toNatClampNeg) = 0 then
     (CS G m_Mo_mix [vr 7 0, vl (-1)] μ (RV fun μ1 =>
      SS G m_Mo_mixStreet 70 [vr 7 0, vi (x1 + 1), un] [] μ1 (RV K)))
    else
     (vp_in x1 3 ∧
      (CS G m_Mo_mix [vr 7 0, vl (Int32.toInt64 (μ.1 40 0 x1.toNatClampNeg))] μ (RV fun μ2 =>
       SS G m_Mo_mixStreet 70 [vr 7 0, vi (x1 + 1), un] [] μ2 (RV K)))))))) :
  SS G m_Mo_mixStreet 70 [vr 7 0, vi x1, un] [] μ (RV K) :=
  wp_s (M := m_Mo_mixStreet) (lk := lk_Mo) (tb := tb_Mo_mixStreet_70) (cu := [(2, [true, true, false]), (29, [true, true, false]), (39, [true, true, true]), (70, [true, true, false])]) lk_Mo_ok (by decide +kernel) 22 true _ _ _ _ h
def tc_Mo_digest : List En := [e0 0 (.aload_n 0) 1, eD 1 (.ldc2_w 299) 3 17, eF 4 (.putfield 290) 3 7 36, eC 7 (.iconst 0) 1 0, e0 8 (.istore_n 1) 1]
set_option maxRecDepth 100000 in
theorem c_Mo_digest {G : Ge}  {μ : Mm} {K : Int64 → Mm → Prop} (h :
  SS G m_Mo_digest 9 [vr 7 0, vi 0, un] [] (wL μ 7 0 36 17) (RL K)) :
  CS G m_Mo_digest [vr 7 0] μ (RL K) :=
  CS_of pf_Mo_digest (Nat.le_of_ble_eq_true rfl) (show SS G m_Mo_digest 0 [vr 7 0, un, un] [] μ (RL K) from wp_s (M := m_Mo_digest) (lk := lk_Mo) (tb := tc_Mo_digest) (cu := [(9, [true, true, false]), (37, [true, true, false]), (56, [true, true, true]), (91, [true, true, false]), (109, [true, true, true])]) lk_Mo_ok (by decide +kernel) 9 true 0 _ _ _ h)
def tb_Mo_digest_9 : List En := [e0 9 (.iload_n 1) 1, eC 10 (.bipush 10) 2 10, eT 12 (.if_icmp .ge 19) 3 31, e0 15 (.aload_n 0) 1, e0 16 (.aload_n 0) 1, e0 17 (.iload_n 1) 1, eT 18 (.invokevirtual 285) 3 47, e0 21 .i2l 1, eT 22 (.invokevirtual 293) 3 48, eC 25 (.iinc 1 1) 3 1, eT 28 (.goto (-19)) 3 9, e0 31 (.aload_n 0) 1, eT 32 (.invokevirtual 301) 3 49, eC 35 (.iconst 0) 1 0, e0 36 (.istore_n 1) 1]
set_option maxRecDepth 100000 in
theorem b_Mo_digest_9 {G : Ge} (x1 : Int32) {μ : Mm} {K : Int64 → Mm → Prop} (h :
  (if (10 : Int32) ≤ x1 then
   (CS G m_Mo_mixStreet [vr 7 0] μ (RV fun μ1 =>
    SS G m_Mo_digest 37 [vr 7 0, vi 0, un] [] μ1 (RL K)))
  else
   (CS G m_Mo_counted [vr 7 0, vi x1] μ (RI fun v2 μ2 =>
    (CS G m_Mo_mix [vr 7 0, vl (Int32.toInt64 v2)] μ2 (RV fun μ3 =>
     SS G m_Mo_digest 9 [vr 7 0, vi (x1 + 1), un] [] μ3 (RL K))))))) :
  SS G m_Mo_digest 9 [vr 7 0, vi x1, un] [] μ (RL K) :=
  wp_s (M := m_Mo_digest) (lk := lk_Mo) (tb := tb_Mo_digest_9) (cu := [(9, [true, true, false]), (37, [true, true, false]), (56, [true, true, true]), (91, [true, true, false]), (109, [true, true, true])]) lk_Mo_ok (by decide +kernel) 15 true _ _ _ _ h
def tb_Mo_digest_37 : List En := [e0 37 (.iload_n 1) 1, eC 38 (.bipush 6) 2 6, eT 40 (.if_icmp .ge 49) 3 89, e0 43 (.aload_n 0) 1, e0 44 (.aload_n 0) 1, eF 45 (.getfield 17) 3 7 5, e0 48 (.iload_n 1) 1, e0 49 .iaload 1, e0 50 .i2l 1, eT 51 (.invokevirtual 293) 3 48, eC 54 (.iconst 0) 1 0, e0 55 (.istore_n 2) 1, eC 89 (.iconst 0) 1 0, e0 90 (.istore_n 1) 1]
set_option maxRecDepth 100000 in
theorem b_Mo_digest_37 {G : Ge} (x1 : Int32) {μ : Mm} {K : Int64 → Mm → Prop} (h :
  (if (6 : Int32) ≤ x1 then
   SS G m_Mo_digest 91 [vr 7 0, vi 0, un] [] μ (RL K)
  else
   (vp_in x1 6 ∧
    (CS G m_Mo_mix [vr 7 0, vl (Int32.toInt64 (μ.1 27 0 x1.toNatClampNeg))] μ (RV fun μ1 =>
     SS G m_Mo_digest 56 [vr 7 0, vi x1, vi 0] [] μ1 (RL K)))))) :
  SS G m_Mo_digest 37 [vr 7 0, vi x1, un] [] μ (RL K) :=
  wp_s (M := m_Mo_digest) (lk := lk_Mo) (tb := tb_Mo_digest_37) (cu := [(9, [true, true, false]), (37, [true, true, false]), (56, [true, true, true]), (91, [true, true, false]), (109, [true, true, true])]) lk_Mo_ok (by decide +kernel) 16 true _ _ _ _ h
def tb_Mo_digest_56 : List En := [e0 56 (.iload_n 2) 1, e0 57 (.aload_n 0) 1, eF 58 (.getfield 17) 3 7 5, e0 61 (.iload_n 1) 1, e0 62 .iaload 1, eT 63 (.if_icmp .ge 20) 3 83, e0 66 (.aload_n 0) 1, e0 67 (.aload_n 0) 1, e0 68 (.iload_n 1) 1, e0 69 (.iload_n 2) 1, eT 70 (.invokevirtual 117) 3 3, e0 73 .i2l 1, eT 74 (.invokevirtual 293) 3 48, eC 77 (.iinc 2 1) 3 1, eT 80 (.goto (-24)) 3 56, eC 83 (.iinc 1 1) 3 1, eT 86 (.goto (-49)) 3 37]
set_option maxRecDepth 100000 in
theorem b_Mo_digest_56 {G : Ge} (x1 : Int32) (x2 : Int32) {μ : Mm} {K : Int64 → Mm → Prop} (h :
  (vp_in x1 6 ∧
   (if (μ.1 27 0 x1.toNatClampNeg) ≤ x2 then
    SS G m_Mo_digest 37 [vr 7 0, vi (x1 + 1), un] [] μ (RL K)
   else
    (CS G m_Mo_rowAt [vr 7 0, vi x1, vi x2] μ (RI fun v1 μ1 =>
     (CS G m_Mo_mix [vr 7 0, vl (Int32.toInt64 v1)] μ1 (RV fun μ2 =>
      SS G m_Mo_digest 56 [vr 7 0, vi x1, vi (x2 + 1)] [] μ2 (RL K)))))))) :
  SS G m_Mo_digest 56 [vr 7 0, vi x1, vi x2] [] μ (RL K) :=
  wp_s (M := m_Mo_digest) (lk := lk_Mo) (tb := tb_Mo_digest_56) (cu := [(9, [true, true, false]), (37, [true, true, false]), (56, [true, true, true]), (91, [true, true, false]), (109, [true, true, true])]) lk_Mo_ok (by decide +kernel) 19 true _ _ _ _ h
def tb_Mo_digest_91 : List En := [e0 91 (.iload_n 1) 1, eC 92 (.iconst 4) 1 4, eT 93 (.if_icmp .ge 49) 3 142, e0 96 (.aload_n 0) 1, e0 97 (.aload_n 0) 1, eF 98 (.getfield 26) 3 7 8, e0 101 (.iload_n 1) 1, e0 102 .iaload 1, e0 103 .i2l 1, eT 104 (.invokevirtual 293) 3 48, eC 107 (.iconst 0) 1 0, e0 108 (.istore_n 2) 1, e0 142 (.aload_n 0) 1, eF 143 (.getfield 290) 3 7 36, e0 146 .lreturn 1]
set_option maxRecDepth 100000 in
theorem b_Mo_digest_91 {G : Ge} (x1 : Int32) {μ : Mm} {K : Int64 → Mm → Prop} (h :
  (if (4 : Int32) ≤ x1 then
   K (μ.2 7 0 36) μ
  else
   (vp_in x1 4 ∧
    (CS G m_Mo_mix [vr 7 0, vl (Int32.toInt64 (μ.1 30 0 x1.toNatClampNeg))] μ (RV fun μ1 =>
     SS G m_Mo_digest 109 [vr 7 0, vi x1, vi 0] [] μ1 (RL K)))))) :
  SS G m_Mo_digest 91 [vr 7 0, vi x1, un] [] μ (RL K) :=
  wp_s (M := m_Mo_digest) (lk := lk_Mo) (tb := tb_Mo_digest_91) (cu := [(9, [true, true, false]), (37, [true, true, false]), (56, [true, true, true]), (91, [true, true, false]), (109, [true, true, true])]) lk_Mo_ok (by decide +kernel) 16 true _ _ _ _ h
def tb_Mo_digest_109 : List En := [e0 109 (.iload_n 2) 1, e0 110 (.aload_n 0) 1, eF 111 (.getfield 26) 3 7 8, e0 114 (.iload_n 1) 1, e0 115 .iaload 1, eT 116 (.if_icmp .ge 20) 3 136, e0 119 (.aload_n 0) 1, e0 120 (.aload_n 0) 1, e0 121 (.iload_n 1) 1, e0 122 (.iload_n 2) 1, eT 123 (.invokevirtual 130) 3 6, e0 126 .i2l 1, eT 127 (.invokevirtual 293) 3 48, eC 130 (.iinc 2 1) 3 1, eT 133 (.goto (-24)) 3 109, eC 136 (.iinc 1 1) 3 1, eT 139 (.goto (-48)) 3 91]
set_option maxRecDepth 100000 in
theorem b_Mo_digest_109 {G : Ge} (x1 : Int32) (x2 : Int32) {μ : Mm} {K : Int64 → Mm → Prop} (h :
  (vp_in x1 4 ∧
   (if (μ.1 30 0 x1.toNatClampNeg) ≤ x2 then
    SS G m_Mo_digest 91 [vr 7 0, vi (x1 + 1), un] [] μ (RL K)
   else
    (CS G m_Mo_byteAt [vr 7 0, vi x1, vi x2] μ (RI fun v1 μ1 =>
     (CS G m_Mo_mix [vr 7 0, vl (Int32.toInt64 v1)] μ1 (RV fun μ2 =>
      SS G m_Mo_digest 109 [vr 7 0, vi x1, vi (x2 + 1)] [] μ2 (RL K)))))))) :
  SS G m_Mo_digest 109 [vr 7 0, vi x1, vi x2] [] μ (RL K) :=
  wp_s (M := m_Mo_digest) (lk := lk_Mo) (tb := tb_Mo_digest_109) (cu := [(9, [true, true, false]), (37, [true, true, false]), (56, [true, true, true]), (91, [true, true, false]), (109, [true, true, true])]) lk_Mo_ok (by decide +kernel) 19 true _ _ _ _ h
