def tc_Mo_isMiser : List En := [e0 0 (.aload_n 0) 1, eF 1 (.getfield 33) 3 7 12, e0 4 (.iload_n 1) 1, e0 5 .iaload 1, eC 6 (.iconst 3) 1 3, eT 7 (.if_icmp .eq 13) 3 20, e0 10 (.aload_n 0) 1, eF 11 (.getfield 33) 3 7 12, e0 14 (.iload_n 1) 1, e0 15 .iaload 1, eC 16 (.iconst 4) 1 4, eT 17 (.if_icmp .ne 7) 3 24, eC 20 (.iconst 1) 1 1, eT 21 (.goto 4) 3 25, eC 24 (.iconst 0) 1 0, e0 25 .ireturn 1]
set_option maxRecDepth 100000 in
theorem c_Mo_isMiser {G : Ge} (x1 : Int32) {μ : Mm} {K : Int32 → Mm → Prop} (h :
  (vp_in x1 5 ∧
   (if (μ.1 32 0 x1.toNatClampNeg) = 3 then
    (((1 : Int32) = 0 ∨ (1 : Int32) = 1) ∧ K 1 μ)
   else
    (vp_in x1 5 ∧
     (if (μ.1 32 0 x1.toNatClampNeg) = 4 then
      (((1 : Int32) = 0 ∨ (1 : Int32) = 1) ∧ K 1 μ)
     else
      (((0 : Int32) = 0 ∨ (0 : Int32) = 1) ∧ K 0 μ)))))) :
  CS G m_Mo_isMiser [vr 7 0, vi x1] μ (RI K) :=
  CS_of pf_Mo_isMiser (Nat.le_of_ble_eq_true rfl) (show SS G m_Mo_isMiser 0 [vr 7 0, vi x1] [] μ (RI K) from wp_s (M := m_Mo_isMiser) (lk := lk_Mo) (tb := tc_Mo_isMiser) (cu := []) lk_Mo_ok (by decide +kernel) 18 true 0 _ _ _ h)
def tc_Mo_lesser : List En := [e0 0 (.iload_n 0) 1, e0 1 (.iload_n 1) 1, eT 2 (.if_icmp .ge 7) 3 9, e0 5 (.iload_n 0) 1, eT 6 (.goto 4) 3 10, e0 9 (.iload_n 1) 1, e0 10 .ireturn 1]
set_option maxRecDepth 100000 in
theorem c_Mo_lesser {G : Ge} (x0 : Int32) (x1 : Int32) {μ : Mm} {K : Int32 → Mm → Prop} (h :
  (if x1 ≤ x0 then
   K x1 μ
  else
   K x0 μ)) :
  CS G m_Mo_lesser [vi x0, vi x1] μ (RI K) :=
  CS_of pf_Mo_lesser (Nat.le_of_ble_eq_true rfl) (show SS G m_Mo_lesser 0 [vi x0, vi x1] [] μ (RI K) from wp_s (M := m_Mo_lesser) (lk := lk_Mo) (tb := tc_Mo_lesser) (cu := []) lk_Mo_ok (by decide +kernel) 9 true 0 _ _ _ h)
def tc_Mo_canIn : List En := [e0 0 (.aload_n 0) 1, e0 1 (.iload_n 1) 1, eT 2 (.invokevirtual 166) 3 13, eT 5 (.ifCond .eq 11) 3 16, eC 8 (.iconst 2) 1 2, e0 9 (.iload_n 2) 1, eT 10 (.invokestatic 169) 3 14, eT 13 (.goto 4) 3 17, e0 16 (.iload_n 2) 1, e0 17 .ireturn 1]
set_option maxRecDepth 100000 in
theorem c_Mo_canIn {G : Ge} (x1 : Int32) (x2 : Int32) {μ : Mm} {K : Int32 → Mm → Prop} (h :
  (CS G m_Mo_isMiser [vr 7 0, vi x1] μ (RI fun v1 μ1 =>
   (if v1 = 0 then
    K x2 μ1
   else
    (CS G m_Mo_lesser [vi 2, vi x2] μ1 (RI fun v2 μ2 =>
     K v2 μ2)))))) :
  CS G m_Mo_canIn [vr 7 0, vi x1, vi x2] μ (RI K) :=
  CS_of pf_Mo_canIn (Nat.le_of_ble_eq_true rfl) (show SS G m_Mo_canIn 0 [vr 7 0, vi x1, vi x2] [] μ (RI K) from wp_s (M := m_Mo_canIn) (lk := lk_Mo) (tb := tc_Mo_canIn) (cu := []) lk_Mo_ok (by decide +kernel) 12 true 0 _ _ _ h)
def tc_Mo_canOn : List En := [e0 0 (.iload_n 2) 1, e0 1 (.aload_n 0) 1, eF 2 (.getfield 48) 3 7 20, eC 5 (.bipush 15) 2 15, e0 7 .iaload 1, eT 8 (.if_icmp .ne 15) 3 23, e0 11 (.aload_n 0) 1, e0 12 (.iload_n 1) 1, eT 13 (.invokevirtual 172) 3 15, eT 16 (.ifCond .eq 7) 3 23, eC 19 (.iconst 0) 1 0, eT 20 (.goto 14) 3 34, e0 23 (.aload_n 0) 1, e0 24 (.iload_n 1) 1, e0 25 (.aload_n 0) 1, eF 26 (.getfield 39) 3 7 14, e0 29 (.iload_n 2) 1, e0 30 .iaload 1, eT 31 (.invokevirtual 175) 3 16, e0 34 .ireturn 1]
set_option maxRecDepth 100000 in
theorem c_Mo_canOn {G : Ge} (x1 : Int32) (x2 : Int32) {μ : Mm} {K : Int32 → Mm → Prop} (h :
  (vp_in 15 16 ∧
   (if x2 = (μ.1 37 0 (Int32.toNatClampNeg 15)) then
    (CS G m_Mo_didBear [vr 7 0, vi x1] μ (RI fun v1 μ1 =>
     (if v1 = 0 then
      (vp_in x2 8 ∧
       (CS G m_Mo_canIn [vr 7 0, vi x1, vi (μ1.1 34 0 x2.toNatClampNeg)] μ1 (RI fun v2 μ2 =>
        K v2 μ2)))
     else
      K 0 μ1)))
   else
    (vp_in x2 8 ∧
     (CS G m_Mo_canIn [vr 7 0, vi x1, vi (μ.1 34 0 x2.toNatClampNeg)] μ (RI fun v3 μ3 =>
      K v3 μ3)))))) :
  CS G m_Mo_canOn [vr 7 0, vi x1, vi x2] μ (RI K) :=
  CS_of pf_Mo_canOn (Nat.le_of_ble_eq_true rfl) (show SS G m_Mo_canOn 0 [vr 7 0, vi x1, vi x2] [] μ (RI K) from wp_s (M := m_Mo_canOn) (lk := lk_Mo) (tb := tc_Mo_canOn) (cu := []) lk_Mo_ok (by decide +kernel) 21 true 0 _ _ _ h)
def tc_Mo_canTonight : List En := [e0 0 (.aload_n 0) 1, eT 1 (.invokevirtual 178) 3 17, eT 4 (.ifCond .eq 7) 3 11, eC 7 (.iconst 0) 1 0, eT 8 (.goto 24) 3 32, e0 11 (.aload_n 0) 1, eF 12 (.getfield 48) 3 7 20, e0 15 (.iload_n 1) 1, e0 16 .iaload 1, e0 17 (.aload_n 0) 1, e0 18 (.iload_n 1) 1, e0 19 (.aload_n 0) 1, eF 20 (.getfield 48) 3 7 20, eC 23 (.bipush 15) 2 15, e0 25 .iaload 1, eT 26 (.invokevirtual 182) 3 18, eT 29 (.invokestatic 169) 3 14, e0 32 .ireturn 1]
set_option maxRecDepth 100000 in
theorem c_Mo_canTonight {G : Ge} (x1 : Int32) {μ : Mm} {K : Int32 → Mm → Prop} (h :
  (CS G m_Mo_isCandlemas [vr 7 0] μ (RI fun v1 μ1 =>
   (if v1 = 0 then
    (vp_in x1 16 ∧
     (vp_in 15 16 ∧
      (CS G m_Mo_canOn [vr 7 0, vi x1, vi (μ1.1 37 0 (Int32.toNatClampNeg 15))] μ1 (RI fun v2 μ2 =>
       (CS G m_Mo_lesser [vi (μ1.1 37 0 x1.toNatClampNeg), vi v2] μ2 (RI fun v3 μ3 =>
        K v3 μ3))))))
   else
    K 0 μ1)))) :
  CS G m_Mo_canTonight [vr 7 0, vi x1] μ (RI K) :=
  CS_of pf_Mo_canTonight (Nat.le_of_ble_eq_true rfl) (show SS G m_Mo_canTonight 0 [vr 7 0, vi x1] [] μ (RI K) from wp_s (M := m_Mo_canTonight) (lk := lk_Mo) (tb := tc_Mo_canTonight) (cu := []) lk_Mo_ok (by decide +kernel) 19 true 0 _ _ _ h)
def tc_Mo_houseTells : List En := [e0 0 (.iload_n 2) 1, eS 1 (.tableswitch 75 0 4 #[35, 42, 49, 56, 65]) 35 76 [(0, 36), (1, 43), (2, 50), (3, 57), (4, 66)], e0 36 (.aload_n 0) 1, eF 37 (.getfield 33) 3 7 12, e0 40 (.iload_n 1) 1, e0 41 .iaload 1, e0 42 .ireturn 1, e0 43 (.aload_n 0) 1, eF 44 (.getfield 36) 3 7 13, e0 47 (.iload_n 1) 1, e0 48 .iaload 1, e0 49 .ireturn 1, e0 50 (.aload_n 0) 1, eF 51 (.getfield 48) 3 7 20, e0 54 (.iload_n 1) 1, e0 55 .iaload 1, e0 56 .ireturn 1, e0 57 (.aload_n 0) 1, eF 58 (.getfield 48) 3 7 20, eC 61 (.iconst 5) 1 5, e0 62 (.iload_n 1) 1, e0 63 .iadd 1, e0 64 .iaload 1, e0 65 .ireturn 1, e0 66 (.aload_n 0) 1, eF 67 (.getfield 48) 3 7 20, eC 70 (.bipush 10) 2 10, e0 72 (.iload_n 1) 1, e0 73 .iadd 1, e0 74 .iaload 1, e0 75 .ireturn 1, e0 76 (.aload_n 0) 1, e0 77 (.iload_n 1) 1, eT 78 (.invokevirtual 185) 3 19, e0 81 .ireturn 1]
set_option maxRecDepth 100000 in
theorem c_Mo_houseTells {G : Ge} (x1 : Int32) (x2 : Int32) {μ : Mm} {K : Int32 → Mm → Prop} (h :
  (if x2 = 0 then
   (vp_in x1 5 ∧
    K (μ.1 32 0 x1.toNatClampNeg) μ)
  else
   (if x2 = 1 then
    (vp_in x1 5 ∧
     K (μ.1 33 0 x1.toNatClampNeg) μ)
   else
    (if x2 = 2 then
     (vp_in x1 16 ∧
      K (μ.1 37 0 x1.toNatClampNeg) μ)
    else
     (if x2 = 3 then
      (vp_in (5 + x1) 16 ∧
       K (μ.1 37 0 (Int32.toNatClampNeg (5 + x1))) μ)
     else
      (if x2 = 4 then
       (vp_in (10 + x1) 16 ∧
        K (μ.1 37 0 (Int32.toNatClampNeg (10 + x1))) μ)
      else
       (CS G m_Mo_canTonight [vr 7 0, vi x1] μ (RI fun v1 μ1 =>
        K v1 μ1)))))))) :
  CS G m_Mo_houseTells [vr 7 0, vi x1, vi x2] μ (RI K) :=
  CS_of pf_Mo_houseTells (Nat.le_of_ble_eq_true rfl) (show SS G m_Mo_houseTells 0 [vr 7 0, vi x1, vi x2] [] μ (RI K) from wp_s (M := m_Mo_houseTells) (lk := lk_Mo) (tb := tc_Mo_houseTells) (cu := []) lk_Mo_ok (by decide +kernel) 12 true 0 _ _ _ h)
def tc_Mo_house : List En := [e0 0 (.aload_n 0) 1, e0 1 (.iload_n 1) 1, eT 2 (.invokevirtual 188) 3 20, eT 5 (.ifCond .eq 26) 3 31, e0 8 (.iload_n 2) 1, eC 9 (.iconst 0) 1 0, eC 10 (.iconst 5) 1 5, eT 11 (.invokestatic 99) 3 0, eT 14 (.ifCond .eq 17) 3 31, e0 17 (.aload_n 0) 1, e0 18 (.aload_n 0) 1, e0 19 (.iload_n 1) 1, e0 20 (.iload_n 2) 1, eT 21 (.invokevirtual 191) 3 21, eC 24 (.iconst 1) 1 1, eT 25 (.invokevirtual 121) 3 4, eT 28 (.goto 4) 3 32, eC 31 (.iconst (-1)) 1 (-1), e0 32 .ireturn 1]
set_option maxRecDepth 100000 in
theorem c_Mo_house {G : Ge} (x1 : Int32) (x2 : Int32) {μ : Mm} {K : Int32 → Mm → Prop} (h :
  (CS G m_Mo_isHouse [vr 7 0, vi x1] μ (RI fun v1 μ1 =>
   (if v1 = 0 then
    K (-1) μ1
   else
    (CS G m_Mo_in [vi x2, vi 0, vi 5] μ1 (RI fun v2 μ2 =>
     (if v2 = 0 then
      K (-1) μ2
     else
      (CS G m_Mo_houseTells [vr 7 0, vi x1, vi x2] μ2 (RI fun v3 μ3 =>
       (CS G m_Mo_tells [vr 7 0, vi v3, vi 1] μ3 (RI fun v4 μ4 =>
        K v4 μ4))))))))))) :
  CS G m_Mo_house [vr 7 0, vi x1, vi x2] μ (RI K) :=
  CS_of pf_Mo_house (Nat.le_of_ble_eq_true rfl) (show SS G m_Mo_house 0 [vr 7 0, vi x1, vi x2] [] μ (RI K) from wp_s (M := m_Mo_house) (lk := lk_Mo) (tb := tc_Mo_house) (cu := []) lk_Mo_ok (by decide +kernel) 21 true 0 _ _ _ h)
def tc_Mo_isNight : List En := [e0 0 (.iload_n 1) 1, eC 1 (.iconst 0) 1 0, e0 2 (.aload_n 0) 1, eF 3 (.getfield 157) 3 7 11, eC 6 (.iconst 1) 1 1, e0 7 .isub 1, eT 8 (.invokestatic 99) 3 0, e0 11 .ireturn 1]
set_option maxRecDepth 100000 in
theorem c_Mo_isNight {G : Ge} (x1 : Int32) {μ : Mm} {K : Int32 → Mm → Prop} (h :
  (CS G m_Mo_in [vi x1, vi 0, vi ((μ.1 7 0 11) - 1)] μ (RI fun v1 μ1 =>
   ((v1 = 0 ∨ v1 = 1) ∧ K v1 μ1)))) :
  CS G m_Mo_isNight [vr 7 0, vi x1] μ (RI K) :=
  CS_of pf_Mo_isNight (Nat.le_of_ble_eq_true rfl) (show SS G m_Mo_isNight 0 [vr 7 0, vi x1] [] μ (RI K) from wp_s (M := m_Mo_isNight) (lk := lk_Mo) (tb := tc_Mo_isNight) (cu := []) lk_Mo_ok (by decide +kernel) 11 true 0 _ _ _ h)
def tc_Mo_cold : List En := [e0 0 (.aload_n 0) 1, e0 1 (.iload_n 1) 1, eT 2 (.invokevirtual 194) 3 22, eT 5 (.ifCond .eq 12) 3 17, e0 8 (.aload_n 0) 1, eF 9 (.getfield 39) 3 7 14, e0 12 (.iload_n 1) 1, e0 13 .iaload 1, eT 14 (.goto 4) 3 18, eC 17 (.iconst (-1)) 1 (-1), e0 18 .ireturn 1]
set_option maxRecDepth 100000 in
theorem c_Mo_cold {G : Ge} (x1 : Int32) {μ : Mm} {K : Int32 → Mm → Prop} (h :
  (CS G m_Mo_isNight [vr 7 0, vi x1] μ (RI fun v1 μ1 =>
   (if v1 = 0 then
    K (-1) μ1
   else
    (vp_in x1 8 ∧
     K (μ1.1 34 0 x1.toNatClampNeg) μ1))))) :
  CS G m_Mo_cold [vr 7 0, vi x1] μ (RI K) :=
  CS_of pf_Mo_cold (Nat.le_of_ble_eq_true rfl) (show SS G m_Mo_cold 0 [vr 7 0, vi x1] [] μ (RI K) from wp_s (M := m_Mo_cold) (lk := lk_Mo) (tb := tc_Mo_cold) (cu := []) lk_Mo_ok (by decide +kernel) 13 true 0 _ _ _ h)
def tc_Mo_squared : List En := [e0 0 (.iload_n 0) 1, e0 1 (.iload_n 1) 1, eT 2 (.if_icmp .le 13) 3 15, e0 5 (.iload_n 0) 1, e0 6 (.iload_n 1) 1, e0 7 .isub 1, e0 8 (.iload_n 0) 1, e0 9 (.iload_n 1) 1, e0 10 .isub 1, e0 11 .imul 1, eT 12 (.goto 4) 3 16, eC 15 (.iconst 0) 1 0, e0 16 .ireturn 1]
set_option maxRecDepth 100000 in
theorem c_Mo_squared {G : Ge} (x0 : Int32) (x1 : Int32) {μ : Mm} {K : Int32 → Mm → Prop} (h :
  (if x0 ≤ x1 then
   K 0 μ
  else
   K ((x0 - x1) * (x0 - x1)) μ)) :
  CS G m_Mo_squared [vi x0, vi x1] μ (RI K) :=
  CS_of pf_Mo_squared (Nat.le_of_ble_eq_true rfl) (show SS G m_Mo_squared 0 [vi x0, vi x1] [] μ (RI K) from wp_s (M := m_Mo_squared) (lk := lk_Mo) (tb := tc_Mo_squared) (cu := []) lk_Mo_ok (by decide +kernel) 15 true 0 _ _ _ h)
def tc_Mo_hurtOf : List En := [e0 0 (.aload_n 0) 1, eF 1 (.getfield 33) 3 7 12, e0 4 (.iload_n 1) 1, e0 5 .iaload 1, eS 6 (.tableswitch 90 1 5 #[34, 47, 90, 88, 60]) 34 96 [(1, 40), (2, 53), (3, 96), (4, 94), (5, 66)], e0 40 (.iload_n 2) 1, e0 41 (.aload_n 0) 1, eF 42 (.getfield 36) 3 7 13, e0 45 (.iload_n 1) 1, e0 46 .iaload 1, eC 47 (.iconst 2) 1 2, e0 48 .iadd 1, eT 49 (.invokestatic 163) 3 12, e0 52 .ireturn 1, eC 53 (.iconst 2) 1 2, e0 54 (.iload_n 2) 1, e0 55 (.aload_n 0) 1, eF 56 (.getfield 36) 3 7 13, e0 59 (.iload_n 1) 1, e0 60 .iaload 1, eT 61 (.invokestatic 163) 3 12, e0 64 .imul 1, e0 65 .ireturn 1, eC 66 (.iconst 2) 1 2, e0 67 (.iload_n 2) 1, e0 68 (.aload_n 0) 1, eF 69 (.getfield 36) 3 7 13, e0 72 (.iload_n 1) 1, e0 73 .iaload 1, eT 74 (.ifCond .le 14) 3 88, e0 77 (.aload_n 0) 1, eF 78 (.getfield 36) 3 7 13, e0 81 (.iload_n 1) 1, e0 82 .iaload 1, eC 83 (.iconst 1) 1 1, e0 84 .isub 1, eT 85 (.goto 4) 3 89, eC 88 (.iconst 0) 1 0, eT 89 (.invokestatic 163) 3 12, e0 92 .imul 1, e0 93 .ireturn 1, eC 94 (.iconst 0) 1 0, e0 95 .ireturn 1, e0 96 (.iload_n 2) 1, e0 97 (.aload_n 0) 1, eF 98 (.getfield 36) 3 7 13, e0 101 (.iload_n 1) 1, e0 102 .iaload 1, eT 103 (.invokestatic 163) 3 12, e0 106 .ireturn 1]
set_option maxRecDepth 100000 in
theorem c_Mo_hurtOf {G : Ge} (x1 : Int32) (x2 : Int32) {μ : Mm} {K : Int32 → Mm → Prop} (h :
  (vp_in x1 5 ∧
   (if (μ.1 32 0 x1.toNatClampNeg) = 1 then
    (vp_in x1 5 ∧
     (CS G m_Mo_squared [vi x2, vi ((μ.1 33 0 x1.toNatClampNeg) + 2)] μ (RI fun v6 μ6 =>
      K v6 μ6)))
   else
    (if (μ.1 32 0 x1.toNatClampNeg) = 2 then
     (vp_in x1 5 ∧
      (CS G m_Mo_squared [vi x2, vi (μ.1 33 0 x1.toNatClampNeg)] μ (RI fun v5 μ5 =>
       K (2 * v5) μ5)))
    else
     (if (μ.1 32 0 x1.toNatClampNeg) = 3 then
      (vp_in x1 5 ∧
       (CS G m_Mo_squared [vi x2, vi (μ.1 33 0 x1.toNatClampNeg)] μ (RI fun v4 μ4 =>
        K v4 μ4)))
     else
      (if (μ.1 32 0 x1.toNatClampNeg) = 4 then
       K 0 μ
      else
       (if (μ.1 32 0 x1.toNatClampNeg) = 5 then
        (vp_in x1 5 ∧
         (if (μ.1 33 0 x1.toNatClampNeg) ≤ 0 then
          (CS G m_Mo_squared [vi x2, vi 0] μ (RI fun v2 μ2 =>
           K (2 * v2) μ2))
         else
          (vp_in x1 5 ∧
           (CS G m_Mo_squared [vi x2, vi ((μ.1 33 0 x1.toNatClampNeg) - 1)] μ (RI fun v3 μ3 =>
            K (2 * v3) μ3)))))
       else
        (vp_in x1 5 ∧
         (CS G m_Mo_squared [vi x2, vi (μ.1 33 0 x1.toNatClampNeg)] μ (RI fun v1 μ1 =>
          K v1 μ1)))))))))) :
  CS G m_Mo_hurtOf [vr 7 0, vi x1, vi x2] μ (RI K) :=
  CS_of pf_Mo_hurtOf (Nat.le_of_ble_eq_true rfl) (show SS G m_Mo_hurtOf 0 [vr 7 0, vi x1, vi x2] [] μ (RI K) from wp_s (M := m_Mo_hurtOf) (lk := lk_Mo) (tb := tc_Mo_hurtOf) (cu := []) lk_Mo_ok (by decide +kernel) 25 true 0 _ _ _ h)
def tc_Mo_painless : List En := [eC 0 (.iconst 0) 1 0, e0 1 (.istore_n 2) 1, eC 2 (.iconst 0) 1 0, e0 3 (.istore_n 3) 1]
set_option maxRecDepth 100000 in
theorem c_Mo_painless {G : Ge} (x1 : Int32) {μ : Mm} {K : Int32 → Mm → Prop} (h :
  SS G m_Mo_painless 4 [vr 7 0, vi x1, vi 0, vi 0] [] μ (RI K)) :
  CS G m_Mo_painless [vr 7 0, vi x1] μ (RI K) :=
  CS_of pf_Mo_painless (Nat.le_of_ble_eq_true rfl) (show SS G m_Mo_painless 0 [vr 7 0, vi x1, un, un] [] μ (RI K) from wp_s (M := m_Mo_painless) (lk := lk_Mo) (tb := tc_Mo_painless) (cu := [(4, [true, true, true, true])]) lk_Mo_ok (by decide +kernel) 8 true 0 _ _ _ h)
def tb_Mo_painless_4 : List En := [e0 4 (.iload_n 3) 1, eC 5 (.bipush 9) 2 9, eT 7 (.if_icmp .gt 24) 3 31, e0 10 (.aload_n 0) 1, e0 11 (.iload_n 1) 1, e0 12 (.iload_n 3) 1, eT 13 (.invokevirtual 197) 3 23, eT 16 (.ifCond .ne 7) 3 23, e0 19 (.iload_n 3) 1, eT 20 (.goto 4) 3 24, e0 23 (.iload_n 2) 1, e0 24 (.istore_n 2) 1, eC 25 (.iinc 3 1) 3 1, eT 28 (.goto (-24)) 3 4, e0 31 (.iload_n 2) 1, e0 32 .ireturn 1]
set_option maxRecDepth 100000 in
theorem b_Mo_painless_4 {G : Ge} (x1 : Int32) (x2 : Int32) (x3 : Int32) {μ : Mm} {K : Int32 → Mm → Prop} (h :
  (if (9 : Int32) < x3 then
   K x2 μ
  else
   (CS G m_Mo_hurtOf [vr 7 0, vi x1, vi x3] μ (RI fun v1 μ1 =>
    (if v1 = 0 then
     SS G m_Mo_painless 4 [vr 7 0, vi x1, vi x3, vi (x3 + 1)] [] μ1 (RI K)
    else
     SS G m_Mo_painless 4 [vr 7 0, vi x1, vi x2, vi (x3 + 1)] [] μ1 (RI K)))))) :
  SS G m_Mo_painless 4 [vr 7 0, vi x1, vi x2, vi x3] [] μ (RI K) :=
  wp_s (M := m_Mo_painless) (lk := lk_Mo) (tb := tb_Mo_painless_4) (cu := [(4, [true, true, true, true])]) lk_Mo_ok (by decide +kernel) 17 true _ _ _ _ h
def tc_Mo_firstHurt : List En := [eC 0 (.iconst 1) 1 1, e0 1 (.istore_n 2) 1]
set_option maxRecDepth 100000 in
theorem c_Mo_firstHurt {G : Ge} (x1 : Int32) {μ : Mm} {K : Int32 → Mm → Prop} (h :
  SS G m_Mo_firstHurt 2 [vr 7 0, vi x1, vi 1] [] μ (RI K)) :
  CS G m_Mo_firstHurt [vr 7 0, vi x1] μ (RI K) :=
  CS_of pf_Mo_firstHurt (Nat.le_of_ble_eq_true rfl) (show SS G m_Mo_firstHurt 0 [vr 7 0, vi x1, un] [] μ (RI K) from wp_s (M := m_Mo_firstHurt) (lk := lk_Mo) (tb := tc_Mo_firstHurt) (cu := [(2, [true, true, true])]) lk_Mo_ok (by decide +kernel) 6 true 0 _ _ _ h)
def tb_Mo_firstHurt_2 : List En := [e0 2 (.iload_n 2) 1, eC 3 (.bipush 9) 2 9, eT 5 (.if_icmp .gt 20) 3 25, e0 8 (.aload_n 0) 1, e0 9 (.iload_n 1) 1, e0 10 (.iload_n 2) 1, eT 11 (.invokevirtual 197) 3 23, eT 14 (.ifCond .le 5) 3 19, e0 17 (.iload_n 2) 1, e0 18 .ireturn 1, eC 19 (.iinc 2 1) 3 1, eT 22 (.goto (-20)) 3 2, eC 25 (.bipush (-9)) 2 (-9), e0 27 .ireturn 1]
set_option maxRecDepth 100000 in
theorem b_Mo_firstHurt_2 {G : Ge} (x1 : Int32) (x2 : Int32) {μ : Mm} {K : Int32 → Mm → Prop} (h :
  (if (9 : Int32) < x2 then
   K (-9) μ
  else
   (CS G m_Mo_hurtOf [vr 7 0, vi x1, vi x2] μ (RI fun v1 μ1 =>
    (if v1 ≤ 0 then
     SS G m_Mo_firstHurt 2 [vr 7 0, vi x1, vi (x2 + 1)] [] μ1 (RI K)
    else
     K x2 μ1))))) :
  SS G m_Mo_firstHurt 2 [vr 7 0, vi x1, vi x2] [] μ (RI K) :=
  wp_s (M := m_Mo_firstHurt) (lk := lk_Mo) (tb := tb_Mo_firstHurt_2) (cu := [(2, [true, true, true])]) lk_Mo_ok (by decide +kernel) 14 true _ _ _ _ h
def tc_Mo_mark : List En := [e0 0 (.aload_n 0) 1, e0 1 (.iload_n 1) 1, eT 2 (.invokevirtual 188) 3 20, eT 5 (.ifCond .eq 12) 3 17, e0 8 (.iload_n 2) 1, eC 9 (.iconst 1) 1 1, eC 10 (.iconst 5) 1 5, eT 11 (.invokestatic 99) 3 0, eT 14 (.ifCond .ne 5) 3 19, eC 17 (.iconst (-1)) 1 (-1), e0 18 .ireturn 1, e0 19 (.aload_n 0) 1, eF 20 (.getfield 33) 3 7 12, e0 23 (.iload_n 1) 1, e0 24 .iaload 1, e0 25 (.istore_n 3) 1, e0 26 (.iload_n 3) 1, e0 27 (.iload_n 2) 1, eT 28 (.if_icmp .eq 29) 3 57, e0 31 (.iload_n 2) 1, eC 32 (.iconst 2) 1 2, eT 33 (.if_icmp .ne 8) 3 41, e0 36 (.iload_n 3) 1, eC 37 (.iconst 5) 1 5, eT 38 (.if_icmp .eq 19) 3 57, e0 41 (.iload_n 2) 1, eC 42 (.iconst 3) 1 3, eT 43 (.if_icmp .ne 8) 3 51, e0 46 (.iload_n 3) 1, eC 47 (.iconst 4) 1 4, eT 48 (.if_icmp .eq 9) 3 57, e0 51 (.aload_n 0) 1, eC 52 (.iconst 3) 1 3, eT 53 (.invokevirtual 113) 3 2, e0 56 .ireturn 1, e0 57 (.iload_n 2) 1, eS 58 (.tableswitch 83 1 4 #[30, 36, 56, 67]) 30 141 [(1, 88), (2, 94), (3, 114), (4, 125)], e0 88 (.aload_n 0) 1, e0 89 (.iload_n 1) 1, eT 90 (.invokevirtual 200) 3 24, e0 93 .ireturn 1, e0 94 (.aload_n 0) 1, e0 95 (.iload_n 1) 1, eC 96 (.bipush 9) 2 9, eT 98 (.invokevirtual 197) 3 23, eC 101 (.bipush 9) 2 9, e0 103 (.aload_n 0) 1, eF 104 (.getfield 36) 3 7 13, e0 107 (.iload_n 1) 1, e0 108 .iaload 1, eT 109 (.invokestatic 163) 3 12, e0 112 .isub 1, e0 113 .ireturn 1, e0 114 (.aload_n 0) 1, eF 115 (.getfield 48) 3 7 20, e0 118 (.iload_n 1) 1, e0 119 .iaload 1, eC 120 (.iconst 1) 1 1, e0 121 .iadd 1, eC 122 (.iconst 2) 1 2, e0 123 .idiv 1, e0 124 .ireturn 1, e0 125 (.aload_n 0) 1, eF 126 (.getfield 48) 3 7 20, e0 129 (.iload_n 1) 1, e0 130 .iaload 1, e0 131 (.aload_n 0) 1, eF 132 (.getfield 36) 3 7 13, e0 135 (.iload_n 1) 1, e0 136 .iaload 1, eT 137 (.invokestatic 163) 3 12, e0 140 .ireturn 1, e0 141 (.aload_n 0) 1, e0 142 (.iload_n 1) 1, eT 143 (.invokevirtual 203) 3 25, e0 146 .ireturn 1]
set_option maxRecDepth 100000 in
theorem c_Mo_mark {G : Ge} (x1 : Int32) (x2 : Int32) {μ : Mm} {K : Int32 → Mm → Prop} (h :
  (CS G m_Mo_isHouse [vr 7 0, vi x1] μ (RI fun v1 μ1 =>
   (if v1 = 0 then
    K (-1) μ1
   else
    (CS G m_Mo_in [vi x2, vi 1, vi 5] μ1 (RI fun v2 μ2 =>
     (if v2 = 0 then
      K (-1) μ2
     else
      (vp_in x1 5 ∧
       (if (μ2.1 32 0 x1.toNatClampNeg) = x2 then
        (if x2 = 1 then
         (CS G m_Mo_painless [vr 7 0, vi x1] μ2 (RI fun v7 μ7 =>
          K v7 μ7))
        else
         (if x2 = 2 then
          (CS G m_Mo_hurtOf [vr 7 0, vi x1, vi 9] μ2 (RI fun v5 μ5 =>
           (vp_in x1 5 ∧
            (CS G m_Mo_squared [vi 9, vi (μ5.1 33 0 x1.toNatClampNeg)] μ5 (RI fun v6 μ6 =>
             K (v5 - v6) μ6)))))
         else
          (if x2 = 3 then
           (vp_in x1 16 ∧
            (¬ (2 : Int32) = 0 ∧
             K (((μ2.1 37 0 x1.toNatClampNeg) + 1) / 2) μ2))
          else
           (if x2 = 4 then
            (vp_in x1 16 ∧
             (vp_in x1 5 ∧
              (CS G m_Mo_squared [vi (μ2.1 37 0 x1.toNatClampNeg), vi (μ2.1 33 0 x1.toNatClampNeg)] μ2 (RI fun v4 μ4 =>
               K v4 μ4))))
           else
            (CS G m_Mo_firstHurt [vr 7 0, vi x1] μ2 (RI fun v3 μ3 =>
             K v3 μ3))))))
       else
        (if x2 = 2 then
         (if (μ2.1 32 0 x1.toNatClampNeg) = 5 then
          (if x2 = 1 then
           (CS G m_Mo_painless [vr 7 0, vi x1] μ2 (RI fun v12 μ12 =>
            K v12 μ12))
          else
           (if x2 = 2 then
            (CS G m_Mo_hurtOf [vr 7 0, vi x1, vi 9] μ2 (RI fun v10 μ10 =>
             (vp_in x1 5 ∧
              (CS G m_Mo_squared [vi 9, vi (μ10.1 33 0 x1.toNatClampNeg)] μ10 (RI fun v11 μ11 =>
               K (v10 - v11) μ11)))))
           else
            (if x2 = 3 then
             (vp_in x1 16 ∧
              (¬ (2 : Int32) = 0 ∧
               K (((μ2.1 37 0 x1.toNatClampNeg) + 1) / 2) μ2))
            else
             (if x2 = 4 then
              (vp_in x1 16 ∧
               (vp_in x1 5 ∧
                (CS G m_Mo_squared [vi (μ2.1 37 0 x1.toNatClampNeg), vi (μ2.1 33 0 x1.toNatClampNeg)] μ2 (RI fun v9 μ9 =>
                 K v9 μ9))))
             else
              (CS G m_Mo_firstHurt [vr 7 0, vi x1] μ2 (RI fun v8 μ8 =>
               K v8 μ8))))))
         else
          (if x2 = 3 then
           (if (μ2.1 32 0 x1.toNatClampNeg) = 4 then
            (if x2 = 1 then
             (CS G m_Mo_painless [vr 7 0, vi x1] μ2 (RI fun v17 μ17 =>
              K v17 μ17))
            else
             (if x2 = 2 then
              (CS G m_Mo_hurtOf [vr 7 0, vi x1, vi 9] μ2 (RI fun v15 μ15 =>
               (vp_in x1 5 ∧
                (CS G m_Mo_squared [vi 9, vi (μ15.1 33 0 x1.toNatClampNeg)] μ15 (RI fun v16 μ16 =>
                 K (v15 - v16) μ16)))))
             else
              (if x2 = 3 then
               (vp_in x1 16 ∧
                (¬ (2 : Int32) = 0 ∧
                 K (((μ2.1 37 0 x1.toNatClampNeg) + 1) / 2) μ2))
              else
               (if x2 = 4 then
                (vp_in x1 16 ∧
                 (vp_in x1 5 ∧
                  (CS G m_Mo_squared [vi (μ2.1 37 0 x1.toNatClampNeg), vi (μ2.1 33 0 x1.toNatClampNeg)] μ2 (RI fun v14 μ14 =>
                   K v14 μ14))))
               else
                (CS G m_Mo_firstHurt [vr 7 0, vi x1] μ2 (RI fun v13 μ13 =>
                 K v13 μ13))))))
           else
            (CS G m_Mo_meets [vr 7 0, vi 3] μ2 (RI fun v18 μ18 =>
             K v18 μ18)))
          else
           (CS G m_Mo_meets [vr 7 0, vi 3] μ2 (RI fun v19 μ19 =>
            K v19 μ19))))
        else
         (if x2 = 3 then
          (if (μ2.1 32 0 x1.toNatClampNeg) = 4 then
           (if x2 = 1 then
            (CS G m_Mo_painless [vr 7 0, vi x1] μ2 (RI fun v24 μ24 =>
             K v24 μ24))
           else
            (if x2 = 2 then
             (CS G m_Mo_hurtOf [vr 7 0, vi x1, vi 9] μ2 (RI fun v22 μ22 =>
              (vp_in x1 5 ∧
               (CS G m_Mo_squared [vi 9, vi (μ22.1 33 0 x1.toNatClampNeg)] μ22 (RI fun v23 μ23 =>
                K (v22 - v23) μ23)))))
            else
             (if x2 = 3 then
              (vp_in x1 16 ∧
               (¬ (2 : Int32) = 0 ∧
                K (((μ2.1 37 0 x1.toNatClampNeg) + 1) / 2) μ2))
             else
              (if x2 = 4 then
               (vp_in x1 16 ∧
                (vp_in x1 5 ∧
                 (CS G m_Mo_squared [vi (μ2.1 37 0 x1.toNatClampNeg), vi (μ2.1 33 0 x1.toNatClampNeg)] μ2 (RI fun v21 μ21 =>
                  K v21 μ21))))
              else
               (CS G m_Mo_firstHurt [vr 7 0, vi x1] μ2 (RI fun v20 μ20 =>
                K v20 μ20))))))
          else
           (CS G m_Mo_meets [vr 7 0, vi 3] μ2 (RI fun v25 μ25 =>
            K v25 μ25)))
         else
          (CS G m_Mo_meets [vr 7 0, vi 3] μ2 (RI fun v26 μ26 =>
           K v26 μ26))))))))))))) :
  CS G m_Mo_mark [vr 7 0, vi x1, vi x2] μ (RI K) :=
  CS_of pf_Mo_mark (Nat.le_of_ble_eq_true rfl) (show SS G m_Mo_mark 0 [vr 7 0, vi x1, vi x2, un] [] μ (RI K) from wp_s (M := m_Mo_mark) (lk := lk_Mo) (tb := tc_Mo_mark) (cu := []) lk_Mo_ok (by decide +kernel) 46 true 0 _ _ _ h)
def tc_Mo_wind : List En := [e0 0 (.aload_n 0) 1, e0 1 (.iload_n 1) 1, eT 2 (.invokevirtual 194) 3 22, eT 5 (.ifCond .eq 13) 3 18, e0 8 (.iload_n 2) 1, eC 9 (.iconst 0) 1 0, eC 10 (.bipush 9) 2 9, eT 12 (.invokestatic 99) 3 0, eT 15 (.ifCond .ne 5) 3 20, eC 18 (.iconst (-1)) 1 (-1), e0 19 .ireturn 1, e0 20 (.aload_n 0) 1, eF 21 (.getfield 160) 3 7 21, eT 24 (.ifCond .le 6) 3 30, eC 27 (.bipush (-4)) 2 (-4), e0 29 .ireturn 1, e0 30 (.aload_n 0) 1, eF 31 (.getfield 39) 3 7 14, e0 34 (.iload_n 1) 1, e0 35 .iaload 1, e0 36 (.istore_n 3) 1, e0 37 (.aload_n 0) 1, eF 38 (.getfield 39) 3 7 14, e0 41 (.iload_n 1) 1, e0 42 (.iload_n 2) 1, e0 43 .iastore 1, e0 44 (.iload_n 3) 1, e0 45 .ireturn 1]
set_option maxRecDepth 100000 in
theorem c_Mo_wind {G : Ge} (x1 : Int32) (x2 : Int32) {μ : Mm} {K : Int32 → Mm → Prop} (h :
  (CS G m_Mo_isNight [vr 7 0, vi x1] μ (RI fun v1 μ1 =>
   (if v1 = 0 then
    K (-1) μ1
   else
    (CS G m_Mo_in [vi x2, vi 0, vi 9] μ1 (RI fun v2 μ2 =>
     (if v2 = 0 then
      K (-1) μ2
     else
      (if (μ2.1 7 0 21) ≤ 0 then
       (vp_in x1 8 ∧
        (vp_in x1 8 ∧
         K (μ2.1 34 0 x1.toNatClampNeg) (wI μ2 34 0 x1.toNatClampNeg x2)))
      else
       K (-4) μ2)))))))) :
  CS G m_Mo_wind [vr 7 0, vi x1, vi x2] μ (RI K) :=
  CS_of pf_Mo_wind (Nat.le_of_ble_eq_true rfl) (show SS G m_Mo_wind 0 [vr 7 0, vi x1, vi x2, un] [] μ (RI K) from wp_s (M := m_Mo_wind) (lk := lk_Mo) (tb := tc_Mo_wind) (cu := []) lk_Mo_ok (by decide +kernel) 27 true 0 _ _ _ h)
def tc_Mo_remember : List En := [eC 0 (.iconst 0) 1 0, e0 1 (.istore_n 1) 1]
set_option maxRecDepth 100000 in
theorem c_Mo_remember {G : Ge}  {μ : Mm} {K : Mm → Prop} (h :
  SS G m_Mo_remember 2 [vr 7 0, vi 0] [] μ (RV K)) :
  CS G m_Mo_remember [vr 7 0] μ (RV K) :=
  CS_of pf_Mo_remember (Nat.le_of_ble_eq_true rfl) (show SS G m_Mo_remember 0 [vr 7 0, un] [] μ (RV K) from wp_s (M := m_Mo_remember) (lk := lk_Mo) (tb := tc_Mo_remember) (cu := [(2, [true, true])]) lk_Mo_ok (by decide +kernel) 6 true 0 _ _ _ h)
def tb_Mo_remember_2 : List En := [e0 2 (.iload_n 1) 1, eC 3 (.bipush 16) 2 16, eT 5 (.if_icmp .ge 29) 3 34, e0 8 (.aload_n 0) 1, eF 9 (.getfield 51) 3 7 22, eC 12 (.bipush 16) 2 16, e0 14 (.aload_n 0) 1, eF 15 (.getfield 160) 3 7 21, e0 18 .imul 1, e0 19 (.iload_n 1) 1, e0 20 .iadd 1, e0 21 (.aload_n 0) 1, eF 22 (.getfield 48) 3 7 20, e0 25 (.iload_n 1) 1, e0 26 .iaload 1, e0 27 .iastore 1, eC 28 (.iinc 1 1) 3 1, eT 31 (.goto (-29)) 3 2, e0 34 (.aload_n 0) 1, e0 35 .dup 1, eF 36 (.getfield 160) 3 7 21, eC 39 (.iconst 1) 1 1, e0 40 .iadd 1, eF 41 (.putfield 160) 3 7 21, e0 44 .return_ 1]
set_option maxRecDepth 100000 in
theorem b_Mo_remember_2 {G : Ge} (x1 : Int32) {μ : Mm} {K : Mm → Prop} (h :
  (if (16 : Int32) ≤ x1 then
   K (wI μ 7 0 21 ((μ.1 7 0 21) + 1))
  else
   (vp_in x1 16 ∧
    (vp_in ((16 * (μ.1 7 0 21)) + x1) 960 ∧
     SS G m_Mo_remember 2 [vr 7 0, vi (x1 + 1)] [] (wI μ 38 0 (Int32.toNatClampNeg ((16 * (μ.1 7 0 21)) + x1)) (μ.1 37 0 x1.toNatClampNeg)) (RV K))))) :
  SS G m_Mo_remember 2 [vr 7 0, vi x1] [] μ (RV K) :=
  wp_s (M := m_Mo_remember) (lk := lk_Mo) (tb := tb_Mo_remember_2) (cu := [(2, [true, true])]) lk_Mo_ok (by decide +kernel) 22 true _ _ _ _ h
def tc_Mo_bears : List En := [e0 0 (.aload_n 0) 1, e0 1 (.iload_n 1) 1, e0 2 (.iload_n 2) 1, eT 3 (.invokevirtual 197) 3 23, e0 6 (.istore_n 3) 1, e0 7 (.aload_n 0) 1, eT 8 (.invokevirtual 206) 3 26, e0 11 (.aload_n 0) 1, eF 12 (.getfield 48) 3 7 20, e0 15 (.iload_n 1) 1, e0 16 .dup2 1, e0 17 .iaload 1, e0 18 (.iload_n 2) 1, e0 19 .isub 1, e0 20 .iastore 1, e0 21 (.aload_n 0) 1, eF 22 (.getfield 48) 3 7 20, eC 25 (.iconst 5) 1 5, e0 26 (.iload_n 1) 1, e0 27 .iadd 1, e0 28 .dup2 1, e0 29 .iaload 1, e0 30 (.iload_n 3) 1, e0 31 .iadd 1, e0 32 .iastore 1, e0 33 (.aload_n 0) 1, eF 34 (.getfield 48) 3 7 20, eC 37 (.bipush 10) 2 10, e0 39 (.iload_n 1) 1, e0 40 .iadd 1, e0 41 (.iload_n 2) 1, e0 42 .iastore 1, e0 43 (.iload_n 3) 1, e0 44 .ireturn 1]
set_option maxRecDepth 100000 in
theorem c_Mo_bears {G : Ge} (x1 : Int32) (x2 : Int32) {μ : Mm} {K : Int32 → Mm → Prop} (h :
  (CS G m_Mo_hurtOf [vr 7 0, vi x1, vi x2] μ (RI fun v1 μ1 =>
   (CS G m_Mo_remember [vr 7 0] μ1 (RV fun μ2 =>
    (vp_in x1 16 ∧
     (vp_in x1 16 ∧
      (vp_in (5 + x1) 16 ∧
       (vp_in (5 + x1) 16 ∧
        (vp_in (10 + x1) 16 ∧
         K v1 (wI (wI (wI μ2 37 0 x1.toNatClampNeg ((μ2.1 37 0 x1.toNatClampNeg) - x2)) 37 0 (Int32.toNatClampNeg (5 + x1)) (((wI μ2 37 0 x1.toNatClampNeg ((μ2.1 37 0 x1.toNatClampNeg) - x2)).1 37 0 (Int32.toNatClampNeg (5 + x1))) + v1)) 37 0 (Int32.toNatClampNeg (10 + x1)) x2))))))))))) :
  CS G m_Mo_bears [vr 7 0, vi x1, vi x2] μ (RI K) :=
  CS_of pf_Mo_bears (Nat.le_of_ble_eq_true rfl) (show SS G m_Mo_bears 0 [vr 7 0, vi x1, vi x2, un] [] μ (RI K) from wp_s (M := m_Mo_bears) (lk := lk_Mo) (tb := tc_Mo_bears) (cu := []) lk_Mo_ok (by decide +kernel) 37 true 0 _ _ _ h)
def tc_Mo_bear : List En := [e0 0 (.aload_n 0) 1, e0 1 (.iload_n 1) 1, eT 2 (.invokevirtual 188) 3 20, eT 5 (.ifCond .eq 8) 3 13, e0 8 (.iload_n 2) 1, eC 9 (.iconst 1) 1 1, eT 10 (.if_icmp .ge 5) 3 15, eC 13 (.iconst (-1)) 1 (-1), e0 14 .ireturn 1, e0 15 (.iload_n 2) 1, e0 16 (.aload_n 0) 1, e0 17 (.iload_n 1) 1, eT 18 (.invokevirtual 185) 3 19, eT 21 (.if_icmp .le 6) 3 27, eC 24 (.bipush (-4)) 2 (-4), e0 26 .ireturn 1, e0 27 (.aload_n 0) 1, eF 28 (.getfield 160) 3 7 21, eC 31 (.bipush 60) 2 60, eT 33 (.if_icmp .ne 8) 3 41, eC 36 (.bipush (-2)) 2 (-2), eT 38 (.goto 9) 3 47, e0 41 (.aload_n 0) 1, e0 42 (.iload_n 1) 1, e0 43 (.iload_n 2) 1, eT 44 (.invokevirtual 209) 3 27, e0 47 .ireturn 1]
set_option maxRecDepth 100000 in
theorem c_Mo_bear {G : Ge} (x1 : Int32) (x2 : Int32) {μ : Mm} {K : Int32 → Mm → Prop} (h :
  (CS G m_Mo_isHouse [vr 7 0, vi x1] μ (RI fun v1 μ1 =>
   (if v1 = 0 then
    K (-1) μ1
   else
    (if (1 : Int32) ≤ x2 then
     (CS G m_Mo_canTonight [vr 7 0, vi x1] μ1 (RI fun v2 μ2 =>
      (if x2 ≤ v2 then
       (if (μ2.1 7 0 21) = 60 then
        K (-2) μ2
       else
        (CS G m_Mo_bears [vr 7 0, vi x1, vi x2] μ2 (RI fun v3 μ3 =>
         K v3 μ3)))
      else
       K (-4) μ2)))
    else
     K (-1) μ1))))) :
  CS G m_Mo_bear [vr 7 0, vi x1, vi x2] μ (RI K) :=
  CS_of pf_Mo_bear (Nat.le_of_ble_eq_true rfl) (show SS G m_Mo_bear 0 [vr 7 0, vi x1, vi x2] [] μ (RI K) from wp_s (M := m_Mo_bear) (lk := lk_Mo) (tb := tc_Mo_bear) (cu := []) lk_Mo_ok (by decide +kernel) 24 true 0 _ _ _ h)
def tc_Mo_sell : List En := [e0 0 (.aload_n 0) 1, e0 1 (.iload_n 1) 1, eT 2 (.invokevirtual 188) 3 20, eT 5 (.ifCond .eq 21) 3 26, e0 8 (.aload_n 0) 1, e0 9 (.iload_n 2) 1, eT 10 (.invokevirtual 188) 3 20, eT 13 (.ifCond .eq 13) 3 26, e0 16 (.iload_n 1) 1, e0 17 (.iload_n 2) 1, eT 18 (.if_icmp .eq 8) 3 26, e0 21 (.iload_n 3) 1, eC 22 (.iconst 1) 1 1, eT 23 (.if_icmp .ge 5) 3 28, eC 26 (.iconst (-1)) 1 (-1), e0 27 .ireturn 1, e0 28 (.aload_n 0) 1, eF 29 (.getfield 48) 3 7 20, e0 32 (.iload_n 1) 1, e0 33 .iaload 1, e0 34 (.iload_n 3) 1, eT 35 (.if_icmp .lt 16) 3 51, e0 38 (.aload_n 0) 1, eF 39 (.getfield 48) 3 7 20, e0 42 (.iload_n 2) 1, e0 43 .iaload 1, e0 44 (.iload_n 3) 1, e0 45 .iadd 1, eC 46 (.bipush 99) 2 99, eT 48 (.if_icmp .le 6) 3 54, eC 51 (.bipush (-4)) 2 (-4), e0 53 .ireturn 1, e0 54 (.aload_n 0) 1, eF 55 (.getfield 160) 3 7 21, eC 58 (.bipush 60) 2 60, eT 60 (.if_icmp .ne 6) 3 66, eC 63 (.bipush (-2)) 2 (-2), e0 65 .ireturn 1, e0 66 (.aload_n 0) 1, eT 67 (.invokevirtual 206) 3 26, e0 70 (.aload_n 0) 1, eF 71 (.getfield 48) 3 7 20, e0 74 (.iload_n 1) 1, e0 75 .dup2 1, e0 76 .iaload 1, e0 77 (.iload_n 3) 1, e0 78 .isub 1, e0 79 .iastore 1, e0 80 (.aload_n 0) 1, eF 81 (.getfield 48) 3 7 20, e0 84 (.iload_n 2) 1, e0 85 .dup2 1, e0 86 .iaload 1, e0 87 (.iload_n 3) 1, e0 88 .iadd 1, e0 89 .iastore 1, e0 90 (.aload_n 0) 1, eF 91 (.getfield 48) 3 7 20, e0 94 (.iload_n 2) 1, e0 95 .iaload 1, e0 96 .ireturn 1]
set_option maxRecDepth 100000 in
theorem c_Mo_sell {G : Ge} (x1 : Int32) (x2 : Int32) (x3 : Int32) {μ : Mm} {K : Int32 → Mm → Prop} (h :
  (CS G m_Mo_isHouse [vr 7 0, vi x1] μ (RI fun v1 μ1 =>
   (if v1 = 0 then
    K (-1) μ1
   else
    (CS G m_Mo_isHouse [vr 7 0, vi x2] μ1 (RI fun v2 μ2 =>
     (if v2 = 0 then
      K (-1) μ2
     else
      (if x1 = x2 then
       K (-1) μ2
      else
       (if (1 : Int32) ≤ x3 then
        (vp_in x1 16 ∧
         (if (μ2.1 37 0 x1.toNatClampNeg) < x3 then
          K (-4) μ2
         else
          (vp_in x2 16 ∧
           (if ((μ2.1 37 0 x2.toNatClampNeg) + x3) ≤ 99 then
            (if (μ2.1 7 0 21) = 60 then
             K (-2) μ2
            else
             (CS G m_Mo_remember [vr 7 0] μ2 (RV fun μ3 =>
              (vp_in x1 16 ∧
               (vp_in x1 16 ∧
                (vp_in x2 16 ∧
                 (vp_in x2 16 ∧
                  (vp_in x2 16 ∧
                   K ((wI (wI μ3 37 0 x1.toNatClampNeg ((μ3.1 37 0 x1.toNatClampNeg) - x3)) 37 0 x2.toNatClampNeg (((wI μ3 37 0 x1.toNatClampNeg ((μ3.1 37 0 x1.toNatClampNeg) - x3)).1 37 0 x2.toNatClampNeg) + x3)).1 37 0 x2.toNatClampNeg) (wI (wI μ3 37 0 x1.toNatClampNeg ((μ3.1 37 0 x1.toNatClampNeg) - x3)) 37 0 x2.toNatClampNeg (((wI μ3 37 0 x1.toNatClampNeg ((μ3.1 37 0 x1.toNatClampNeg) - x3)).1 37 0 x2.toNatClampNeg) + x3))))))))))
           else
            K (-4) μ2))))
       else
        K (-1) μ2))))))))) :
  CS G m_Mo_sell [vr 7 0, vi x1, vi x2, vi x3] μ (RI K) :=
  CS_of pf_Mo_sell (Nat.le_of_ble_eq_true rfl) (show SS G m_Mo_sell 0 [vr 7 0, vi x1, vi x2, vi x3] [] μ (RI K) from wp_s (M := m_Mo_sell) (lk := lk_Mo) (tb := tc_Mo_sell) (cu := []) lk_Mo_ok (by decide +kernel) 58 true 0 _ _ _ h)
def tc_Mo_passes : List En := [e0 0 (.aload_n 0) 1, eT 1 (.invokevirtual 206) 3 26, e0 4 (.aload_n 0) 1, eF 5 (.getfield 48) 3 7 20, eC 8 (.bipush 15) 2 15, e0 10 .dup2 1, e0 11 .iaload 1, eC 12 (.iconst 1) 1 1, e0 13 .iadd 1, e0 14 .iastore 1, eC 15 (.iconst 0) 1 0, e0 16 (.istore_n 1) 1]
set_option maxRecDepth 100000 in
theorem c_Mo_passes {G : Ge}  {μ : Mm} {K : Mm → Prop} (h :
  (CS G m_Mo_remember [vr 7 0] μ (RV fun μ1 =>
   (vp_in 15 16 ∧
    (vp_in 15 16 ∧
     SS G m_Mo_passes 17 [vr 7 0, vi 0] [] (wI μ1 37 0 (Int32.toNatClampNeg 15) ((μ1.1 37 0 (Int32.toNatClampNeg 15)) + 1)) (RV K)))))) :
  CS G m_Mo_passes [vr 7 0] μ (RV K) :=
  CS_of pf_Mo_passes (Nat.le_of_ble_eq_true rfl) (show SS G m_Mo_passes 0 [vr 7 0, un] [] μ (RV K) from wp_s (M := m_Mo_passes) (lk := lk_Mo) (tb := tc_Mo_passes) (cu := [(17, [true, true])]) lk_Mo_ok (by decide +kernel) 16 true 0 _ _ _ h)
def tb_Mo_passes_17 : List En := [e0 17 (.iload_n 1) 1, e0 18 (.aload_n 0) 1, eF 19 (.getfield 154) 3 7 10, eT 22 (.if_icmp .ge 20) 3 42, e0 25 (.aload_n 0) 1, eF 26 (.getfield 48) 3 7 20, eC 29 (.bipush 10) 2 10, e0 31 (.iload_n 1) 1, e0 32 .iadd 1, eC 33 (.bipush (-9)) 2 (-9), e0 35 .iastore 1, eC 36 (.iinc 1 1) 3 1, eT 39 (.goto (-22)) 3 17, e0 42 .return_ 1]
set_option maxRecDepth 100000 in
theorem b_Mo_passes_17 {G : Ge} (x1 : Int32) {μ : Mm} {K : Mm → Prop} (h :
  (if (μ.1 7 0 10) ≤ x1 then
   K μ
  else
   (vp_in (10 + x1) 16 ∧
    SS G m_Mo_passes 17 [vr 7 0, vi (x1 + 1)] [] (wI μ 37 0 (Int32.toNatClampNeg (10 + x1)) (-9)) (RV K)))) :
  SS G m_Mo_passes 17 [vr 7 0, vi x1] [] μ (RV K) :=
  wp_s (M := m_Mo_passes) (lk := lk_Mo) (tb := tb_Mo_passes_17) (cu := [(17, [true, true])]) lk_Mo_ok (by decide +kernel) 17 true _ _ _ _ h
def tc_Mo_night : List En := [e0 0 (.aload_n 0) 1, eF 1 (.getfield 154) 3 7 10, eT 4 (.ifCond .eq 10) 3 14, e0 7 (.aload_n 0) 1, eT 8 (.invokevirtual 178) 3 17, eT 11 (.ifCond .eq 6) 3 17, eC 14 (.bipush (-4)) 2 (-4), e0 16 .ireturn 1, e0 17 (.aload_n 0) 1, eF 18 (.getfield 160) 3 7 21, eC 21 (.bipush 60) 2 60, eT 23 (.if_icmp .ne 6) 3 29, eC 26 (.bipush (-2)) 2 (-2), e0 28 .ireturn 1, e0 29 (.aload_n 0) 1, eT 30 (.invokevirtual 212) 3 28, e0 33 (.aload_n 0) 1, eF 34 (.getfield 157) 3 7 11, e0 37 (.aload_n 0) 1, eF 38 (.getfield 48) 3 7 20, eC 41 (.bipush 15) 2 15, e0 43 .iaload 1, e0 44 .isub 1, e0 45 .ireturn 1]
set_option maxRecDepth 100000 in
theorem c_Mo_night {G : Ge}  {μ : Mm} {K : Int32 → Mm → Prop} (h :
  (if (μ.1 7 0 10) = 0 then
   K (-4) μ
  else
   (CS G m_Mo_isCandlemas [vr 7 0] μ (RI fun v1 μ1 =>
    (if v1 = 0 then
     (if (μ1.1 7 0 21) = 60 then
      K (-2) μ1
     else
      (CS G m_Mo_passes [vr 7 0] μ1 (RV fun μ2 =>
       (vp_in 15 16 ∧
        K ((μ2.1 7 0 11) - (μ2.1 37 0 (Int32.toNatClampNeg 15))) μ2))))
    else
     K (-4) μ1))))) :
  CS G m_Mo_night [vr 7 0] μ (RI K) :=
  CS_of pf_Mo_night (Nat.le_of_ble_eq_true rfl) (show SS G m_Mo_night 0 [vr 7 0] [] μ (RI K) from wp_s (M := m_Mo_night) (lk := lk_Mo) (tb := tc_Mo_night) (cu := []) lk_Mo_ok (by decide +kernel) 23 true 0 _ _ _ h)
def tc_Mo_undo : List En := [e0 0 (.iload_n 1) 1, eC 1 (.iconst 0) 1 0, e0 2 (.aload_n 0) 1, eF 3 (.getfield 160) 3 7 21, eT 6 (.invokestatic 99) 3 0, eT 9 (.ifCond .ne 5) 3 14, eC 12 (.iconst (-1)) 1 (-1), e0 13 .ireturn 1, e0 14 (.aload_n 0) 1, eF 15 (.getfield 160) 3 7 21, e0 18 (.iload_n 1) 1, e0 19 .isub 1, e0 20 (.istore_n 2) 1, eC 21 (.iconst 0) 1 0, e0 22 (.istore_n 3) 1]
set_option maxRecDepth 100000 in
theorem c_Mo_undo {G : Ge} (x1 : Int32) {μ : Mm} {K : Int32 → Mm → Prop} (h :
  (CS G m_Mo_in [vi x1, vi 0, vi (μ.1 7 0 21)] μ (RI fun v1 μ1 =>
   (if v1 = 0 then
    K (-1) μ1
   else
    SS G m_Mo_undo 23 [vr 7 0, vi x1, vi ((μ1.1 7 0 21) - x1), vi 0] [] μ1 (RI K))))) :
  CS G m_Mo_undo [vr 7 0, vi x1] μ (RI K) :=
  CS_of pf_Mo_undo (Nat.le_of_ble_eq_true rfl) (show SS G m_Mo_undo 0 [vr 7 0, vi x1, un, un] [] μ (RI K) from wp_s (M := m_Mo_undo) (lk := lk_Mo) (tb := tc_Mo_undo) (cu := [(23, [true, true, true, true])]) lk_Mo_ok (by decide +kernel) 17 true 0 _ _ _ h)
def tb_Mo_undo_23 : List En := [e0 23 (.iload_n 3) 1, eC 24 (.bipush 16) 2 16, eT 26 (.if_icmp .ge 30) 3 56, e0 29 (.iload_n 2) 1, eT 30 (.ifCond .le 26) 3 56, e0 33 (.aload_n 0) 1, eF 34 (.getfield 48) 3 7 20, e0 37 (.iload_n 3) 1, e0 38 (.aload_n 0) 1, eF 39 (.getfield 51) 3 7 22, eC 42 (.bipush 16) 2 16, e0 44 (.iload_n 1) 1, e0 45 .imul 1, e0 46 (.iload_n 3) 1, e0 47 .iadd 1, e0 48 .iaload 1, e0 49 .iastore 1, eC 50 (.iinc 3 1) 3 1, eT 53 (.goto (-30)) 3 23, e0 56 (.aload_n 0) 1, e0 57 (.iload_n 1) 1, eF 58 (.putfield 160) 3 7 21, e0 61 (.iload_n 2) 1, e0 62 .ireturn 1]
set_option maxRecDepth 100000 in
theorem b_Mo_undo_23 {G : Ge} (x1 : Int32) (x2 : Int32) (x3 : Int32) {μ : Mm} {K : Int32 → Mm → Prop} (h :
  (if (16 : Int32) ≤ x3 then
   K x2 (wI μ 7 0 21 x1)
  else
   (if x2 ≤ 0 then
    K x2 (wI μ 7 0 21 x1)
   else
    (vp_in ((16 * x1) + x3) 960 ∧
     (vp_in x3 16 ∧
      SS G m_Mo_undo 23 [vr 7 0, vi x1, vi x2, vi (x3 + 1)] [] (wI μ 37 0 x3.toNatClampNeg (μ.1 38 0 (Int32.toNatClampNeg ((16 * x1) + x3)))) (RI K)))))) :
  SS G m_Mo_undo 23 [vr 7 0, vi x1, vi x2, vi x3] [] μ (RI K) :=
  wp_s (M := m_Mo_undo) (lk := lk_Mo) (tb := tb_Mo_undo_23) (cu := [(23, [true, true, true, true])]) lk_Mo_ok (by decide +kernel) 23 true _ _ _ _ h
def tc_Mo_keep : List En := [e0 0 (.iload_n 1) 1, eC 1 (.iconst 0) 1 0, eC 2 (.iconst 2) 1 2, eT 3 (.invokestatic 99) 3 0, eT 6 (.ifCond .ne 5) 3 11, eC 9 (.iconst (-1)) 1 (-1), e0 10 .ireturn 1, e0 11 (.aload_n 0) 1, eF 12 (.getfield 154) 3 7 10, eT 15 (.ifCond .ne 6) 3 21, eC 18 (.bipush (-4)) 2 (-4), e0 20 .ireturn 1, e0 21 (.aload_n 0) 1, eF 22 (.getfield 54) 3 7 23, e0 25 (.iload_n 1) 1, eC 26 (.iconst 1) 1 1, e0 27 .bastore 1, e0 28 (.aload_n 0) 1, eF 29 (.getfield 58) 3 7 24, e0 32 (.iload_n 1) 1, e0 33 (.aload_n 0) 1, eF 34 (.getfield 160) 3 7 21, e0 37 .iastore 1, eC 38 (.iconst 0) 1 0, e0 39 (.istore_n 2) 1]
set_option maxRecDepth 100000 in
theorem c_Mo_keep {G : Ge} (x1 : Int32) {μ : Mm} {K : Int32 → Mm → Prop} (h :
  (CS G m_Mo_in [vi x1, vi 0, vi 2] μ (RI fun v1 μ1 =>
   (if v1 = 0 then
    K (-1) μ1
   else
    (if (μ1.1 7 0 10) = 0 then
     K (-4) μ1
    else
     (vp_in x1 3 ∧
      (vp_in x1 3 ∧
       SS G m_Mo_keep 40 [vr 7 0, vi x1, vi 0] [] (wI (wI μ1 39 0 x1.toNatClampNeg (1 &&& 1)) 40 0 x1.toNatClampNeg ((wI μ1 39 0 x1.toNatClampNeg (1 &&& 1)).1 7 0 21)) (RI K)))))))) :
  CS G m_Mo_keep [vr 7 0, vi x1] μ (RI K) :=
  CS_of pf_Mo_keep (Nat.le_of_ble_eq_true rfl) (show SS G m_Mo_keep 0 [vr 7 0, vi x1, un] [] μ (RI K) from wp_s (M := m_Mo_keep) (lk := lk_Mo) (tb := tc_Mo_keep) (cu := [(40, [true, true, true]), (71, [true, true, true]), (102, [true, true, true])]) lk_Mo_ok (by decide +kernel) 25 true 0 _ _ _ h)
def tb_Mo_keep_40 : List En := [e0 40 (.iload_n 2) 1, eC 41 (.bipush 8) 2 8, eT 43 (.if_icmp .ge 26) 3 69, e0 46 (.aload_n 0) 1, eF 47 (.getfield 61) 3 7 25, eC 50 (.bipush 8) 2 8, e0 52 (.iload_n 1) 1, e0 53 .imul 1, e0 54 (.iload_n 2) 1, e0 55 .iadd 1, e0 56 (.aload_n 0) 1, eF 57 (.getfield 39) 3 7 14, e0 60 (.iload_n 2) 1, e0 61 .iaload 1, e0 62 .iastore 1, eC 63 (.iinc 2 1) 3 1, eT 66 (.goto (-26)) 3 40, eC 69 (.iconst 0) 1 0, e0 70 (.istore_n 2) 1]
set_option maxRecDepth 100000 in
theorem b_Mo_keep_40 {G : Ge} (x1 : Int32) (x2 : Int32) {μ : Mm} {K : Int32 → Mm → Prop} (h :
  (if (8 : Int32) ≤ x2 then
   SS G m_Mo_keep 71 [vr 7 0, vi x1, vi 0] [] μ (RI K)
  else
   (vp_in x2 8 ∧
    (vp_in ((8 * x1) + x2) 24 ∧
     SS G m_Mo_keep 40 [vr 7 0, vi x1, vi (x2 + 1)] [] (wI μ 41 0 (Int32.toNatClampNeg ((8 * x1) + x2)) (μ.1 34 0 x2.toNatClampNeg)) (RI K))))) :
  SS G m_Mo_keep 40 [vr 7 0, vi x1, vi x2] [] μ (RI K) :=
  wp_s (M := m_Mo_keep) (lk := lk_Mo) (tb := tb_Mo_keep_40) (cu := [(40, [true, true, true]), (71, [true, true, true]), (102, [true, true, true])]) lk_Mo_ok (by decide +kernel) 21 true _ _ _ _ h
def tb_Mo_keep_71 : List En := [e0 71 (.iload_n 2) 1, eC 72 (.bipush 16) 2 16, eT 74 (.if_icmp .ge 26) 3 100, e0 77 (.aload_n 0) 1, eF 78 (.getfield 64) 3 7 26, eC 81 (.bipush 16) 2 16, e0 83 (.iload_n 1) 1, e0 84 .imul 1, e0 85 (.iload_n 2) 1, e0 86 .iadd 1, e0 87 (.aload_n 0) 1, eF 88 (.getfield 48) 3 7 20, e0 91 (.iload_n 2) 1, e0 92 .iaload 1, e0 93 .iastore 1, eC 94 (.iinc 2 1) 3 1, eT 97 (.goto (-26)) 3 71, eC 100 (.iconst 0) 1 0, e0 101 (.istore_n 2) 1]
set_option maxRecDepth 100000 in
theorem b_Mo_keep_71 {G : Ge} (x1 : Int32) (x2 : Int32) {μ : Mm} {K : Int32 → Mm → Prop} (h :
  (if (16 : Int32) ≤ x2 then
   SS G m_Mo_keep 102 [vr 7 0, vi x1, vi 0] [] μ (RI K)
  else
   (vp_in x2 16 ∧
    (vp_in ((16 * x1) + x2) 48 ∧
     SS G m_Mo_keep 71 [vr 7 0, vi x1, vi (x2 + 1)] [] (wI μ 42 0 (Int32.toNatClampNeg ((16 * x1) + x2)) (μ.1 37 0 x2.toNatClampNeg)) (RI K))))) :
  SS G m_Mo_keep 71 [vr 7 0, vi x1, vi x2] [] μ (RI K) :=
  wp_s (M := m_Mo_keep) (lk := lk_Mo) (tb := tb_Mo_keep_71) (cu := [(40, [true, true, true]), (71, [true, true, true]), (102, [true, true, true])]) lk_Mo_ok (by decide +kernel) 21 true _ _ _ _ h
def tb_Mo_keep_102 : List En := [e0 102 (.iload_n 2) 1, eC 103 (.bipush 16) 2 16, e0 105 (.aload_n 0) 1, eF 106 (.getfield 160) 3 7 21, e0 109 .imul 1, eT 110 (.if_icmp .ge 27) 3 137, e0 113 (.aload_n 0) 1, eF 114 (.getfield 67) 3 7 27, eC 117 (.sipush 960) 3 960, e0 120 (.iload_n 1) 1, e0 121 .imul 1, e0 122 (.iload_n 2) 1, e0 123 .iadd 1, e0 124 (.aload_n 0) 1, eF 125 (.getfield 51) 3 7 22, e0 128 (.iload_n 2) 1, e0 129 .iaload 1, e0 130 .iastore 1, eC 131 (.iinc 2 1) 3 1, eT 134 (.goto (-32)) 3 102, e0 137 (.aload_n 0) 1, eF 138 (.getfield 160) 3 7 21, e0 141 .ireturn 1]
set_option maxRecDepth 100000 in
theorem b_Mo_keep_102 {G : Ge} (x1 : Int32) (x2 : Int32) {μ : Mm} {K : Int32 → Mm → Prop} (h :
  (if (16 * (μ.1 7 0 21)) ≤ x2 then
   K (μ.1 7 0 21) μ
  else
   (vp_in x2 960 ∧
    (vp_in ((960 * x1) + x2) 2880 ∧
     SS G m_Mo_keep 102 [vr 7 0, vi x1, vi (x2 + 1)] [] (wI μ 43 0 (Int32.toNatClampNeg ((960 * x1) + x2)) (μ.1 38 0 x2.toNatClampNeg)) (RI K))))) :
  SS G m_Mo_keep 102 [vr 7 0, vi x1, vi x2] [] μ (RI K) :=
  wp_s (M := m_Mo_keep) (lk := lk_Mo) (tb := tb_Mo_keep_102) (cu := [(40, [true, true, true]), (71, [true, true, true]), (102, [true, true, true])]) lk_Mo_ok (by decide +kernel) 24 true _ _ _ _ h
def tc_Mo_on : List En := [e0 0 (.iload_n 1) 1, eC 1 (.iconst 0) 1 0, eC 2 (.iconst 2) 1 2, eT 3 (.invokestatic 99) 3 0, eT 6 (.ifCond .ne 5) 3 11, eC 9 (.iconst (-1)) 1 (-1), e0 10 .ireturn 1, e0 11 (.aload_n 0) 1, eF 12 (.getfield 54) 3 7 23, e0 15 (.iload_n 1) 1, e0 16 .baload 1, eT 17 (.ifCond .ne 9) 3 26, e0 20 (.aload_n 0) 1, eC 21 (.iconst 1) 1 1, eT 22 (.invokevirtual 113) 3 2, e0 25 .ireturn 1, e0 26 (.aload_n 0) 1, e0 27 (.aload_n 0) 1, eF 28 (.getfield 58) 3 7 24, e0 31 (.iload_n 1) 1, e0 32 .iaload 1, eF 33 (.putfield 160) 3 7 21, eC 36 (.iconst 0) 1 0, e0 37 (.istore_n 2) 1]
set_option maxRecDepth 100000 in
theorem c_Mo_on {G : Ge} (x1 : Int32) {μ : Mm} {K : Int32 → Mm → Prop} (h :
  (CS G m_Mo_in [vi x1, vi 0, vi 2] μ (RI fun v1 μ1 =>
   (if v1 = 0 then
    K (-1) μ1
   else
    (vp_in x1 3 ∧
     (if (μ1.1 39 0 x1.toNatClampNeg) = 0 then
      (CS G m_Mo_meets [vr 7 0, vi 1] μ1 (RI fun v2 μ2 =>
       K v2 μ2))
     else
      (vp_in x1 3 ∧
       SS G m_Mo_on 38 [vr 7 0, vi x1, vi 0] [] (wI μ1 7 0 21 (μ1.1 40 0 x1.toNatClampNeg)) (RI K)))))))) :
  CS G m_Mo_on [vr 7 0, vi x1] μ (RI K) :=
  CS_of pf_Mo_on (Nat.le_of_ble_eq_true rfl) (show SS G m_Mo_on 0 [vr 7 0, vi x1, un] [] μ (RI K) from wp_s (M := m_Mo_on) (lk := lk_Mo) (tb := tc_Mo_on) (cu := [(38, [true, true, true]), (69, [true, true, true]), (100, [true, true, true])]) lk_Mo_ok (by decide +kernel) 22 true 0 _ _ _ h)
def tb_Mo_on_38 : List En := [e0 38 (.iload_n 2) 1, eC 39 (.bipush 8) 2 8, eT 41 (.if_icmp .ge 26) 3 67, e0 44 (.aload_n 0) 1, eF 45 (.getfield 39) 3 7 14, e0 48 (.iload_n 2) 1, e0 49 (.aload_n 0) 1, eF 50 (.getfield 61) 3 7 25, eC 53 (.bipush 8) 2 8, e0 55 (.iload_n 1) 1, e0 56 .imul 1, e0 57 (.iload_n 2) 1, e0 58 .iadd 1, e0 59 .iaload 1, e0 60 .iastore 1, eC 61 (.iinc 2 1) 3 1, eT 64 (.goto (-26)) 3 38, eC 67 (.iconst 0) 1 0, e0 68 (.istore_n 2) 1]
set_option maxRecDepth 100000 in
theorem b_Mo_on_38 {G : Ge} (x1 : Int32) (x2 : Int32) {μ : Mm} {K : Int32 → Mm → Prop} (h :
  (if (8 : Int32) ≤ x2 then
   SS G m_Mo_on 69 [vr 7 0, vi x1, vi 0] [] μ (RI K)
  else
   (vp_in ((8 * x1) + x2) 24 ∧
    (vp_in x2 8 ∧
     SS G m_Mo_on 38 [vr 7 0, vi x1, vi (x2 + 1)] [] (wI μ 34 0 x2.toNatClampNeg (μ.1 41 0 (Int32.toNatClampNeg ((8 * x1) + x2)))) (RI K))))) :
  SS G m_Mo_on 38 [vr 7 0, vi x1, vi x2] [] μ (RI K) :=
  wp_s (M := m_Mo_on) (lk := lk_Mo) (tb := tb_Mo_on_38) (cu := [(38, [true, true, true]), (69, [true, true, true]), (100, [true, true, true])]) lk_Mo_ok (by decide +kernel) 21 true _ _ _ _ h
def tb_Mo_on_69 : List En := [e0 69 (.iload_n 2) 1, eC 70 (.bipush 16) 2 16, eT 72 (.if_icmp .ge 26) 3 98, e0 75 (.aload_n 0) 1, eF 76 (.getfield 48) 3 7 20, e0 79 (.iload_n 2) 1, e0 80 (.aload_n 0) 1, eF 81 (.getfield 64) 3 7 26, eC 84 (.bipush 16) 2 16, e0 86 (.iload_n 1) 1, e0 87 .imul 1, e0 88 (.iload_n 2) 1, e0 89 .iadd 1, e0 90 .iaload 1, e0 91 .iastore 1, eC 92 (.iinc 2 1) 3 1, eT 95 (.goto (-26)) 3 69, eC 98 (.iconst 0) 1 0, e0 99 (.istore_n 2) 1]
set_option maxRecDepth 100000 in
theorem b_Mo_on_69 {G : Ge} (x1 : Int32) (x2 : Int32) {μ : Mm} {K : Int32 → Mm → Prop} (h :
  (if (16 : Int32) ≤ x2 then
   SS G m_Mo_on 100 [vr 7 0, vi x1, vi 0] [] μ (RI K)
  else
   (vp_in ((16 * x1) + x2) 48 ∧
    (vp_in x2 16 ∧
     SS G m_Mo_on 69 [vr 7 0, vi x1, vi (x2 + 1)] [] (wI μ 37 0 x2.toNatClampNeg (μ.1 42 0 (Int32.toNatClampNeg ((16 * x1) + x2)))) (RI K))))) :
  SS G m_Mo_on 69 [vr 7 0, vi x1, vi x2] [] μ (RI K) :=
  wp_s (M := m_Mo_on) (lk := lk_Mo) (tb := tb_Mo_on_69) (cu := [(38, [true, true, true]), (69, [true, true, true]), (100, [true, true, true])]) lk_Mo_ok (by decide +kernel) 21 true _ _ _ _ h
def tb_Mo_on_100 : List En := [e0 100 (.iload_n 2) 1, eC 101 (.bipush 16) 2 16, e0 103 (.aload_n 0) 1, eF 104 (.getfield 160) 3 7 21, e0 107 .imul 1, eT 108 (.if_icmp .ge 27) 3 135, e0 111 (.aload_n 0) 1, eF 112 (.getfield 51) 3 7 22, e0 115 (.iload_n 2) 1, e0 116 (.aload_n 0) 1, eF 117 (.getfield 67) 3 7 27, eC 120 (.sipush 960) 3 960, e0 123 (.iload_n 1) 1, e0 124 .imul 1, e0 125 (.iload_n 2) 1, e0 126 .iadd 1, e0 127 .iaload 1, e0 128 .iastore 1, eC 129 (.iinc 2 1) 3 1, eT 132 (.goto (-32)) 3 100, e0 135 (.aload_n 0) 1, eF 136 (.getfield 160) 3 7 21, e0 139 .ireturn 1]
set_option maxRecDepth 100000 in
theorem b_Mo_on_100 {G : Ge} (x1 : Int32) (x2 : Int32) {μ : Mm} {K : Int32 → Mm → Prop} (h :
  (if (16 * (μ.1 7 0 21)) ≤ x2 then
   K (μ.1 7 0 21) μ
  else
   (vp_in ((960 * x1) + x2) 2880 ∧
    (vp_in x2 960 ∧
     SS G m_Mo_on 100 [vr 7 0, vi x1, vi (x2 + 1)] [] (wI μ 38 0 x2.toNatClampNeg (μ.1 43 0 (Int32.toNatClampNeg ((960 * x1) + x2)))) (RI K))))) :
  SS G m_Mo_on 100 [vr 7 0, vi x1, vi x2] [] μ (RI K) :=
  wp_s (M := m_Mo_on) (lk := lk_Mo) (tb := tb_Mo_on_100) (cu := [(38, [true, true, true]), (69, [true, true, true]), (100, [true, true, true])]) lk_Mo_ok (by decide +kernel) 24 true _ _ _ _ h
def tc_Mo_hurt : List En := [e0 0 (.aload_n 0) 1, e0 1 (.iload_n 1) 1, eT 2 (.invokevirtual 188) 3 20, eT 5 (.ifCond .eq 22) 3 27, e0 8 (.iload_n 2) 1, eC 9 (.iconst 0) 1 0, eC 10 (.bipush 9) 2 9, eT 12 (.invokestatic 99) 3 0, eT 15 (.ifCond .eq 12) 3 27, e0 18 (.aload_n 0) 1, e0 19 (.iload_n 1) 1, e0 20 (.iload_n 2) 1, eT 21 (.invokevirtual 197) 3 23, eT 24 (.goto 4) 3 28, eC 27 (.iconst (-1)) 1 (-1), e0 28 .ireturn 1]
set_option maxRecDepth 100000 in
theorem c_Mo_hurt {G : Ge} (x1 : Int32) (x2 : Int32) {μ : Mm} {K : Int32 → Mm → Prop} (h :
  (CS G m_Mo_isHouse [vr 7 0, vi x1] μ (RI fun v1 μ1 =>
   (if v1 = 0 then
    K (-1) μ1
   else
    (CS G m_Mo_in [vi x2, vi 0, vi 9] μ1 (RI fun v2 μ2 =>
     (if v2 = 0 then
      K (-1) μ2
     else
      (CS G m_Mo_hurtOf [vr 7 0, vi x1, vi x2] μ2 (RI fun v3 μ3 =>
       K v3 μ3))))))))) :
  CS G m_Mo_hurt [vr 7 0, vi x1, vi x2] μ (RI K) :=
  CS_of pf_Mo_hurt (Nat.le_of_ble_eq_true rfl) (show SS G m_Mo_hurt 0 [vr 7 0, vi x1, vi x2] [] μ (RI K) from wp_s (M := m_Mo_hurt) (lk := lk_Mo) (tb := tc_Mo_hurt) (cu := []) lk_Mo_ok (by decide +kernel) 18 true 0 _ _ _ h)
def tc_Mo_mostOf : List En := [eC 0 (.iconst 0) 1 0, e0 1 (.istore_n 2) 1, e0 2 (.aload_n 0) 1, eF 3 (.getfield 48) 3 7 20, eC 6 (.bipush 15) 2 15, e0 8 .iaload 1, e0 9 (.istore_n 3) 1]
set_option maxRecDepth 100000 in
theorem c_Mo_mostOf {G : Ge} (x1 : Int32) {μ : Mm} {K : Int32 → Mm → Prop} (h :
  (vp_in 15 16 ∧
   SS G m_Mo_mostOf 10 [vr 7 0, vi x1, vi 0, vi (μ.1 37 0 (Int32.toNatClampNeg 15))] [] μ (RI K))) :
  CS G m_Mo_mostOf [vr 7 0, vi x1] μ (RI K) :=
  CS_of pf_Mo_mostOf (Nat.le_of_ble_eq_true rfl) (show SS G m_Mo_mostOf 0 [vr 7 0, vi x1, un, un] [] μ (RI K) from wp_s (M := m_Mo_mostOf) (lk := lk_Mo) (tb := tc_Mo_mostOf) (cu := [(10, [true, true, true, true])]) lk_Mo_ok (by decide +kernel) 11 true 0 _ _ _ h)
def tb_Mo_mostOf_10 : List En := [e0 10 (.iload_n 3) 1, e0 11 (.aload_n 0) 1, eF 12 (.getfield 157) 3 7 11, eT 15 (.if_icmp .ge 18) 3 33, e0 18 (.iload_n 2) 1, e0 19 (.aload_n 0) 1, e0 20 (.iload_n 1) 1, e0 21 (.iload_n 3) 1, eT 22 (.invokevirtual 182) 3 18, e0 25 .iadd 1, e0 26 (.istore_n 2) 1, eC 27 (.iinc 3 1) 3 1, eT 30 (.goto (-20)) 3 10, e0 33 (.iload_n 2) 1, e0 34 .ireturn 1]
set_option maxRecDepth 100000 in
theorem b_Mo_mostOf_10 {G : Ge} (x1 : Int32) (x2 : Int32) (x3 : Int32) {μ : Mm} {K : Int32 → Mm → Prop} (h :
  (if (μ.1 7 0 11) ≤ x3 then
   K x2 μ
  else
   (CS G m_Mo_canOn [vr 7 0, vi x1, vi x3] μ (RI fun v1 μ1 =>
    SS G m_Mo_mostOf 10 [vr 7 0, vi x1, vi (x2 + v1), vi (x3 + 1)] [] μ1 (RI K))))) :
  SS G m_Mo_mostOf 10 [vr 7 0, vi x1, vi x2, vi x3] [] μ (RI K) :=
  wp_s (M := m_Mo_mostOf) (lk := lk_Mo) (tb := tb_Mo_mostOf_10) (cu := [(10, [true, true, true, true])]) lk_Mo_ok (by decide +kernel) 17 true _ _ _ _ h
def tc_Mo_most : List En := [e0 0 (.aload_n 0) 1, e0 1 (.iload_n 1) 1, eT 2 (.invokevirtual 188) 3 20, eT 5 (.ifCond .eq 11) 3 16, e0 8 (.aload_n 0) 1, e0 9 (.iload_n 1) 1, eT 10 (.invokevirtual 220) 3 30, eT 13 (.goto 4) 3 17, eC 16 (.iconst (-1)) 1 (-1), e0 17 .ireturn 1]
set_option maxRecDepth 100000 in
theorem c_Mo_most {G : Ge} (x1 : Int32) {μ : Mm} {K : Int32 → Mm → Prop} (h :
  (CS G m_Mo_isHouse [vr 7 0, vi x1] μ (RI fun v1 μ1 =>
   (if v1 = 0 then
    K (-1) μ1
   else
    (CS G m_Mo_mostOf [vr 7 0, vi x1] μ1 (RI fun v2 μ2 =>
     K v2 μ2)))))) :
  CS G m_Mo_most [vr 7 0, vi x1] μ (RI K) :=
  CS_of pf_Mo_most (Nat.le_of_ble_eq_true rfl) (show SS G m_Mo_most 0 [vr 7 0, vi x1] [] μ (RI K) from wp_s (M := m_Mo_most) (lk := lk_Mo) (tb := tc_Mo_most) (cu := []) lk_Mo_ok (by decide +kernel) 12 true 0 _ _ _ h)
def tc_Mo_layPlans : List En := [eC 0 (.iconst 0) 1 0, e0 1 (.istore_n 2) 1]
set_option maxRecDepth 100000 in
theorem c_Mo_layPlans {G : Ge} (x1 : Int32) {μ : Mm} {K : Mm → Prop} (h :
  SS G m_Mo_layPlans 2 [vr 7 0, vi x1, vi 0, un, un, un] [] μ (RV K)) :
  CS G m_Mo_layPlans [vr 7 0, vi x1] μ (RV K) :=
  CS_of pf_Mo_layPlans (Nat.le_of_ble_eq_true rfl) (show SS G m_Mo_layPlans 0 [vr 7 0, vi x1, un, un, un, un] [] μ (RV K) from wp_s (M := m_Mo_layPlans) (lk := lk_Mo) (tb := tc_Mo_layPlans) (cu := [(2, [true, true, true, false, false, false]), (45, [true, true, true, false, false, false]), (58, [true, true, true, true, false, false]), (71, [true, true, true, true, true, true])]) lk_Mo_ok (by decide +kernel) 6 true 0 _ _ _ h)
def tb_Mo_layPlans_2 : List En := [e0 2 (.iload_n 2) 1, eC 3 (.bipush 101) 2 101, eT 5 (.if_icmp .ge 33) 3 38, e0 8 (.aload_n 0) 1, eF 9 (.getfield 70) 3 7 28, eC 12 (.bipush 101) 2 101, e0 14 (.aload_n 0) 1, eF 15 (.getfield 157) 3 7 11, e0 18 .imul 1, e0 19 (.iload_n 2) 1, e0 20 .iadd 1, e0 21 (.iload_n 2) 1, eT 22 (.ifCond .ne 7) 3 29, eC 25 (.iconst 0) 1 0, eT 26 (.goto 5) 3 31, eC 29 (.ldc 215) 2 100000000, e0 31 .iastore 1, eC 32 (.iinc 2 1) 3 1, eT 35 (.goto (-33)) 3 2, e0 38 (.aload_n 0) 1, eF 39 (.getfield 157) 3 7 11, eC 42 (.iconst 1) 1 1, e0 43 .isub 1, e0 44 (.istore_n 2) 1]
set_option maxRecDepth 100000 in
theorem b_Mo_layPlans_2 {G : Ge} (x1 : Int32) (x2 : Int32) {μ : Mm} {K : Mm → Prop} (h :
  (if (101 : Int32) ≤ x2 then
   SS G m_Mo_layPlans 45 [vr 7 0, vi x1, vi ((μ.1 7 0 11) - 1), un, un, un] [] μ (RV K)
  else
   (if x2 = 0 then
    (vp_in ((101 * (μ.1 7 0 11)) + x2) 909 ∧
     SS G m_Mo_layPlans 2 [vr 7 0, vi x1, vi (x2 + 1), un, un, un] [] (wI μ 44 0 (Int32.toNatClampNeg ((101 * (μ.1 7 0 11)) + x2)) 0) (RV K))
   else
    (vp_in ((101 * (μ.1 7 0 11)) + x2) 909 ∧
     SS G m_Mo_layPlans 2 [vr 7 0, vi x1, vi (x2 + 1), un, un, un] [] (wI μ 44 0 (Int32.toNatClampNeg ((101 * (μ.1 7 0 11)) + x2)) 100000000) (RV K))))) :
  SS G m_Mo_layPlans 2 [vr 7 0, vi x1, vi x2, un, un, un] [] μ (RV K) :=
  wp_s (M := m_Mo_layPlans) (lk := lk_Mo) (tb := tb_Mo_layPlans_2) (cu := [(2, [true, true, true, false, false, false]), (45, [true, true, true, false, false, false]), (58, [true, true, true, true, false, false]), (71, [true, true, true, true, true, true])]) lk_Mo_ok (by decide +kernel) 22 true _ _ _ _ h
def tb_Mo_layPlans_45 : List En := [e0 45 (.iload_n 2) 1, e0 46 (.aload_n 0) 1, eF 47 (.getfield 48) 3 7 20, eC 50 (.bipush 15) 2 15, e0 52 .iaload 1, eT 53 (.if_icmp .lt 102) 3 155, eC 56 (.iconst 0) 1 0, e0 57 (.istore_n 3) 1, e0 155 .return_ 1]
set_option maxRecDepth 100000 in
theorem b_Mo_layPlans_45 {G : Ge} (x1 : Int32) (x2 : Int32) {μ : Mm} {K : Mm → Prop} (h :
  (vp_in 15 16 ∧
   (if x2 < (μ.1 37 0 (Int32.toNatClampNeg 15)) then
    K μ
   else
    SS G m_Mo_layPlans 58 [vr 7 0, vi x1, vi x2, vi 0, un, un] [] μ (RV K)))) :
  SS G m_Mo_layPlans 45 [vr 7 0, vi x1, vi x2, un, un, un] [] μ (RV K) :=
  wp_s (M := m_Mo_layPlans) (lk := lk_Mo) (tb := tb_Mo_layPlans_45) (cu := [(2, [true, true, true, false, false, false]), (45, [true, true, true, false, false, false]), (58, [true, true, true, true, false, false]), (71, [true, true, true, true, true, true])]) lk_Mo_ok (by decide +kernel) 12 true _ _ _ _ h
def tb_Mo_layPlans_58 : List En := [e0 58 (.iload_n 3) 1, eC 59 (.bipush 101) 2 101, eT 61 (.if_icmp .ge 88) 3 149, eC 64 (.ldc 215) 2 100000000, e0 66 (.istore 4) 2, eC 68 (.iconst 0) 1 0, e0 69 (.istore 5) 2, eC 149 (.iinc 2 (-1)) 3 (-1), eT 152 (.goto (-107)) 3 45]
set_option maxRecDepth 100000 in
theorem b_Mo_layPlans_58 {G : Ge} (x1 : Int32) (x2 : Int32) (x3 : Int32) {μ : Mm} {K : Mm → Prop} (h :
  (if (101 : Int32) ≤ x3 then
   SS G m_Mo_layPlans 45 [vr 7 0, vi x1, vi (x2 + (-1)), un, un, un] [] μ (RV K)
  else
   SS G m_Mo_layPlans 71 [vr 7 0, vi x1, vi x2, vi x3, vi 100000000, vi 0] [] μ (RV K))) :
  SS G m_Mo_layPlans 58 [vr 7 0, vi x1, vi x2, vi x3, un, un] [] μ (RV K) :=
  wp_s (M := m_Mo_layPlans) (lk := lk_Mo) (tb := tb_Mo_layPlans_58) (cu := [(2, [true, true, true, false, false, false]), (45, [true, true, true, false, false, false]), (58, [true, true, true, true, false, false]), (71, [true, true, true, true, true, true])]) lk_Mo_ok (by decide +kernel) 11 true _ _ _ _ h
def tb_Mo_layPlans_71 : List En := [e0 71 (.iload 5) 2, e0 73 (.aload_n 0) 1, e0 74 (.iload_n 1) 1, e0 75 (.iload_n 2) 1, eT 76 (.invokevirtual 182) 3 18, eT 79 (.if_icmp .gt 46) 3 125, e0 82 (.iload 5) 2, e0 84 (.iload_n 3) 1, eT 85 (.if_icmp .gt 40) 3 125, e0 88 (.iload 4) 2, e0 90 (.aload_n 0) 1, e0 91 (.iload_n 1) 1, e0 92 (.iload 5) 2, eT 94 (.invokevirtual 197) 3 23, e0 97 (.aload_n 0) 1, eF 98 (.getfield 70) 3 7 28, eC 101 (.bipush 101) 2 101, e0 103 (.iload_n 2) 1, eC 104 (.iconst 1) 1 1, e0 105 .iadd 1, e0 106 .imul 1, e0 107 (.iload_n 3) 1, e0 108 .iadd 1, e0 109 (.iload 5) 2, e0 111 .isub 1, e0 112 .iaload 1, e0 113 .iadd 1, eT 114 (.invokestatic 169) 3 14, e0 117 (.istore 4) 2, eC 119 (.iinc 5 1) 3 1, eT 122 (.goto (-51)) 3 71, e0 125 (.aload_n 0) 1, eF 126 (.getfield 70) 3 7 28, eC 129 (.bipush 101) 2 101, e0 131 (.iload_n 2) 1, e0 132 .imul 1, e0 133 (.iload_n 3) 1, e0 134 .iadd 1, eC 135 (.ldc 215) 2 100000000, e0 137 (.iload 4) 2, eT 139 (.invokestatic 169) 3 14, e0 142 .iastore 1, eC 143 (.iinc 3 1) 3 1, eT 146 (.goto (-88)) 3 58]
set_option maxRecDepth 100000 in
theorem b_Mo_layPlans_71 {G : Ge} (x1 : Int32) (x2 : Int32) (x3 : Int32) (x4 : Int32) (x5 : Int32) {μ : Mm} {K : Mm → Prop} (h :
  (CS G m_Mo_canOn [vr 7 0, vi x1, vi x2] μ (RI fun v1 μ1 =>
   (if v1 < x5 then
    (CS G m_Mo_lesser [vi 100000000, vi x4] μ1 (RI fun v2 μ2 =>
     (vp_in ((101 * x2) + x3) 909 ∧
      SS G m_Mo_layPlans 58 [vr 7 0, vi x1, vi x2, vi (x3 + 1), un, un] [] (wI μ2 44 0 (Int32.toNatClampNeg ((101 * x2) + x3)) v2) (RV K))))
   else
    (if x3 < x5 then
     (CS G m_Mo_lesser [vi 100000000, vi x4] μ1 (RI fun v3 μ3 =>
      (vp_in ((101 * x2) + x3) 909 ∧
       SS G m_Mo_layPlans 58 [vr 7 0, vi x1, vi x2, vi (x3 + 1), un, un] [] (wI μ3 44 0 (Int32.toNatClampNeg ((101 * x2) + x3)) v3) (RV K))))
    else
     (CS G m_Mo_hurtOf [vr 7 0, vi x1, vi x5] μ1 (RI fun v4 μ4 =>
      (vp_in (((101 * (x2 + 1)) + x3) - x5) 909 ∧
       (CS G m_Mo_lesser [vi x4, vi (v4 + (μ4.1 44 0 (Int32.toNatClampNeg (((101 * (x2 + 1)) + x3) - x5))))] μ4 (RI fun v5 μ5 =>
        SS G m_Mo_layPlans 71 [vr 7 0, vi x1, vi x2, vi x3, vi v5, vi (x5 + 1)] [] μ5 (RV K))))))))))) :
  SS G m_Mo_layPlans 71 [vr 7 0, vi x1, vi x2, vi x3, vi x4, vi x5] [] μ (RV K) :=
  wp_s (M := m_Mo_layPlans) (lk := lk_Mo) (tb := tb_Mo_layPlans_71) (cu := [(2, [true, true, true, false, false, false]), (45, [true, true, true, false, false, false]), (58, [true, true, true, true, false, false]), (71, [true, true, true, true, true, true])]) lk_Mo_ok (by decide +kernel) 35 true _ _ _ _ h
def tc_Mo_layRow_46 : List En := [e0 0 (.aload_n 0) 1, eF 1 (.getfield 17) 3 7 5, e0 4 (.iload_n 1) 1, e0 5 (.iload_n 3) 1, e0 6 .iastore 1, eC 7 (.iconst 0) 1 0, e0 8 (.istore 4) 2]
set_option maxRecDepth 100000 in
theorem c_Mo_layRow_46 {G : Ge} (x1 : Int32) (x3 : Int32) {μ : Mm} {K : Mm → Prop} (h :
  (vp_in x1 6 ∧
   SS G m_Mo_layRow 10 [vr 7 0, vi x1, vr 46 0, vi x3, vi 0] [] (wI μ 27 0 x1.toNatClampNeg x3) (RV K))) :
  CS G m_Mo_layRow [vr 7 0, vi x1, vr 46 0, vi x3] μ (RV K) :=
  CS_of pf_Mo_layRow (Nat.le_of_ble_eq_true rfl) (show SS G m_Mo_layRow 0 [vr 7 0, vi x1, vr 46 0, vi x3, un] [] μ (RV K) from wp_s (M := m_Mo_layRow) (lk := lk_Mo) (tb := tc_Mo_layRow_46) (cu := [(10, [true, true, true, true, true])]) lk_Mo_ok (by decide +kernel) 11 true 0 _ _ _ h)
def tb_Mo_layRow_46_10 : List En := [e0 10 (.iload 4) 2, eC 12 (.bipush 40) 2 40, eT 14 (.if_icmp .ge 35) 3 49, e0 17 (.aload_n 0) 1, eF 18 (.getfield 20) 3 7 6, eC 21 (.bipush 40) 2 40, e0 23 (.iload_n 1) 1, e0 24 .imul 1, e0 25 (.iload 4) 2, e0 27 .iadd 1, e0 28 (.iload 4) 2, e0 30 (.iload_n 3) 1, eT 31 (.if_icmp .ge 10) 3 41, e0 34 (.aload_n 2) 1, e0 35 (.iload 4) 2, e0 37 .iaload 1, eT 38 (.goto 4) 3 42, eC 41 (.iconst 0) 1 0, e0 42 .iastore 1, eC 43 (.iinc 4 1) 3 1, eT 46 (.goto (-36)) 3 10, e0 49 .return_ 1]
set_option maxRecDepth 100000 in
theorem b_Mo_layRow_46_10 {G : Ge} (x1 : Int32) (x3 : Int32) (x4 : Int32) {μ : Mm} {K : Mm → Prop} (h :
  (if (40 : Int32) ≤ x4 then
   K μ
  else
   (if x3 ≤ x4 then
    (vp_in ((40 * x1) + x4) 240 ∧
     SS G m_Mo_layRow 10 [vr 7 0, vi x1, vr 46 0, vi x3, vi (x4 + 1)] [] (wI μ 28 0 (Int32.toNatClampNeg ((40 * x1) + x4)) 0) (RV K))
   else
    (vp_in x4 8 ∧
     (vp_in ((40 * x1) + x4) 240 ∧
      SS G m_Mo_layRow 10 [vr 7 0, vi x1, vr 46 0, vi x3, vi (x4 + 1)] [] (wI μ 28 0 (Int32.toNatClampNeg ((40 * x1) + x4)) (μ.1 46 0 x4.toNatClampNeg)) (RV K)))))) :
  SS G m_Mo_layRow 10 [vr 7 0, vi x1, vr 46 0, vi x3, vi x4] [] μ (RV K) :=
  wp_s (M := m_Mo_layRow) (lk := lk_Mo) (tb := tb_Mo_layRow_46_10) (cu := [(10, [true, true, true, true, true])]) lk_Mo_ok (by decide +kernel) 24 true _ _ _ _ h
def tc_Mo_layRow_48 : List En := [e0 0 (.aload_n 0) 1, eF 1 (.getfield 17) 3 7 5, e0 4 (.iload_n 1) 1, e0 5 (.iload_n 3) 1, e0 6 .iastore 1, eC 7 (.iconst 0) 1 0, e0 8 (.istore 4) 2]
set_option maxRecDepth 100000 in
theorem c_Mo_layRow_48 {G : Ge} (x1 : Int32) (x3 : Int32) {μ : Mm} {K : Mm → Prop} (h :
  (vp_in x1 6 ∧
   SS G m_Mo_layRow 10 [vr 7 0, vi x1, vr 48 0, vi x3, vi 0] [] (wI μ 27 0 x1.toNatClampNeg x3) (RV K))) :
  CS G m_Mo_layRow [vr 7 0, vi x1, vr 48 0, vi x3] μ (RV K) :=
  CS_of pf_Mo_layRow (Nat.le_of_ble_eq_true rfl) (show SS G m_Mo_layRow 0 [vr 7 0, vi x1, vr 48 0, vi x3, un] [] μ (RV K) from wp_s (M := m_Mo_layRow) (lk := lk_Mo) (tb := tc_Mo_layRow_48) (cu := [(10, [true, true, true, true, true])]) lk_Mo_ok (by decide +kernel) 11 true 0 _ _ _ h)
def tb_Mo_layRow_48_10 : List En := [e0 10 (.iload 4) 2, eC 12 (.bipush 40) 2 40, eT 14 (.if_icmp .ge 35) 3 49, e0 17 (.aload_n 0) 1, eF 18 (.getfield 20) 3 7 6, eC 21 (.bipush 40) 2 40, e0 23 (.iload_n 1) 1, e0 24 .imul 1, e0 25 (.iload 4) 2, e0 27 .iadd 1, e0 28 (.iload 4) 2, e0 30 (.iload_n 3) 1, eT 31 (.if_icmp .ge 10) 3 41, e0 34 (.aload_n 2) 1, e0 35 (.iload 4) 2, e0 37 .iaload 1, eT 38 (.goto 4) 3 42, eC 41 (.iconst 0) 1 0, e0 42 .iastore 1, eC 43 (.iinc 4 1) 3 1, eT 46 (.goto (-36)) 3 10, e0 49 .return_ 1]
set_option maxRecDepth 100000 in
theorem b_Mo_layRow_48_10 {G : Ge} (x1 : Int32) (x3 : Int32) (x4 : Int32) {μ : Mm} {K : Mm → Prop} (h :
  (if (40 : Int32) ≤ x4 then
   K μ
  else
   (if x3 ≤ x4 then
    (vp_in ((40 * x1) + x4) 240 ∧
     SS G m_Mo_layRow 10 [vr 7 0, vi x1, vr 48 0, vi x3, vi (x4 + 1)] [] (wI μ 28 0 (Int32.toNatClampNeg ((40 * x1) + x4)) 0) (RV K))
   else
    (vp_in x4 5 ∧
     (vp_in ((40 * x1) + x4) 240 ∧
      SS G m_Mo_layRow 10 [vr 7 0, vi x1, vr 48 0, vi x3, vi (x4 + 1)] [] (wI μ 28 0 (Int32.toNatClampNeg ((40 * x1) + x4)) (μ.1 48 0 x4.toNatClampNeg)) (RV K)))))) :
  SS G m_Mo_layRow 10 [vr 7 0, vi x1, vr 48 0, vi x3, vi x4] [] μ (RV K) :=
  wp_s (M := m_Mo_layRow) (lk := lk_Mo) (tb := tb_Mo_layRow_48_10) (cu := [(10, [true, true, true, true, true])]) lk_Mo_ok (by decide +kernel) 24 true _ _ _ _ h
def tc_Mo_least : List En := [e0 0 (.aload_n 0) 1, e0 1 (.iload_n 1) 1, eT 2 (.invokevirtual 188) 3 20, eT 5 (.ifCond .eq 10) 3 15, e0 8 (.iload_n 2) 1, eT 9 (.invokestatic 109) 3 1, eT 12 (.ifCond .ne 5) 3 17, eC 15 (.iconst (-1)) 1 (-1), e0 16 .ireturn 1, e0 17 (.aload_n 0) 1, e0 18 (.iload_n 1) 1, eT 19 (.invokevirtual 216) 3 29, e0 22 (.aload_n 0) 1, eF 23 (.getfield 48) 3 7 20, e0 26 (.iload_n 1) 1, e0 27 .iaload 1, e0 28 (.istore_n 3) 1, e0 29 (.aload_n 0) 1, eF 30 (.getfield 70) 3 7 28, eC 33 (.bipush 101) 2 101, e0 35 (.aload_n 0) 1, eF 36 (.getfield 48) 3 7 20, eC 39 (.bipush 15) 2 15, e0 41 .iaload 1, e0 42 .imul 1, e0 43 (.iload_n 3) 1, e0 44 .iadd 1, e0 45 .iaload 1, e0 46 (.istore 4) 2, e0 48 (.iload 4) 2, eC 50 (.ldc 215) 2 100000000, eT 52 (.if_icmp .ne 6) 3 58, eC 55 (.bipush (-9)) 2 (-9), e0 57 .ireturn 1, eC 58 (.iconst 0) 1 0, e0 59 (.istore 5) 2, e0 61 (.aload_n 0) 1, eF 62 (.getfield 48) 3 7 20, eC 65 (.bipush 15) 2 15, e0 67 .iaload 1, e0 68 (.istore 6) 2]
set_option maxRecDepth 100000 in
theorem c_Mo_least {G : Ge} (x1 : Int32) (x2 : Int32) {μ : Mm} {K : Int32 → Mm → Prop} (h :
  (CS G m_Mo_isHouse [vr 7 0, vi x1] μ (RI fun v1 μ1 =>
   (if v1 = 0 then
    K (-1) μ1
   else
    (CS G m_Mo_isRow [vi x2] μ1 (RI fun v2 μ2 =>
     (if v2 = 0 then
      K (-1) μ2
     else
      (CS G m_Mo_layPlans [vr 7 0, vi x1] μ2 (RV fun μ3 =>
       (vp_in x1 16 ∧
        (vp_in 15 16 ∧
         (vp_in ((101 * (μ3.1 37 0 (Int32.toNatClampNeg 15))) + (μ3.1 37 0 x1.toNatClampNeg)) 909 ∧
          (if (μ3.1 44 0 (Int32.toNatClampNeg ((101 * (μ3.1 37 0 (Int32.toNatClampNeg 15))) + (μ3.1 37 0 x1.toNatClampNeg)))) = 100000000 then
           K (-9) μ3
          else
           (vp_in 15 16 ∧
            SS G m_Mo_least 70 [vr 7 0, vi x1, vi x2, vi (μ3.1 37 0 x1.toNatClampNeg), vi (μ3.1 44 0 (Int32.toNatClampNeg ((101 * (μ3.1 37 0 (Int32.toNatClampNeg 15))) + (μ3.1 37 0 x1.toNatClampNeg)))), vi 0, vi (μ3.1 37 0 (Int32.toNatClampNeg 15)), un] [] μ3 (RI K))))))))))))))) :
  CS G m_Mo_least [vr 7 0, vi x1, vi x2] μ (RI K) :=
  CS_of pf_Mo_least (Nat.le_of_ble_eq_true rfl) (show SS G m_Mo_least 0 [vr 7 0, vi x1, vi x2, un, un, un, un, un] [] μ (RI K) from wp_s (M := m_Mo_least) (lk := lk_Mo) (tb := tc_Mo_least) (cu := [(70, [true, true, true, true, true, true, true, false]), (82, [true, true, true, true, true, true, true, true])]) lk_Mo_ok (by decide +kernel) 41 true 0 _ _ _ h)
def tb_Mo_least_70 : List En := [e0 70 (.iload 6) 2, e0 72 (.aload_n 0) 1, eF 73 (.getfield 157) 3 7 11, eT 76 (.if_icmp .ge 75) 3 151, eC 79 (.iconst 0) 1 0, e0 80 (.istore 7) 2, e0 151 (.aload_n 0) 1, e0 152 (.iload_n 2) 1, e0 153 (.aload_n 0) 1, eF 154 (.getfield 76) 3 7 30, e0 157 (.iload 5) 2, eT 159 (.invokevirtual 223) 3 31, e0 162 (.iload 4) 2, e0 164 .ireturn 1]
set_option maxRecDepth 100000 in
theorem b_Mo_least_70 {G : Ge} (x1 : Int32) (x2 : Int32) (x3 : Int32) (x4 : Int32) (x5 : Int32) (x6 : Int32) {μ : Mm} {K : Int32 → Mm → Prop} (h :
  (if (μ.1 7 0 11) ≤ x6 then
   (CS G m_Mo_layRow [vr 7 0, vi x2, vr 46 0, vi x5] μ (RV fun μ1 =>
    K x4 μ1))
  else
   SS G m_Mo_least 82 [vr 7 0, vi x1, vi x2, vi x3, vi x4, vi x5, vi x6, vi 0] [] μ (RI K))) :
  SS G m_Mo_least 70 [vr 7 0, vi x1, vi x2, vi x3, vi x4, vi x5, vi x6, un] [] μ (RI K) :=
  wp_s (M := m_Mo_least) (lk := lk_Mo) (tb := tb_Mo_least_70) (cu := [(70, [true, true, true, true, true, true, true, false]), (82, [true, true, true, true, true, true, true, true])]) lk_Mo_ok (by decide +kernel) 15 true _ _ _ _ h
def tb_Mo_least_82 : List En := [e0 82 (.aload_n 0) 1, e0 83 (.iload_n 1) 1, e0 84 (.iload 7) 2, eT 86 (.invokevirtual 197) 3 23, e0 89 (.aload_n 0) 1, eF 90 (.getfield 70) 3 7 28, eC 93 (.bipush 101) 2 101, e0 95 (.iload 6) 2, eC 97 (.iconst 1) 1 1, e0 98 .iadd 1, e0 99 .imul 1, e0 100 (.iload_n 3) 1, e0 101 .iadd 1, e0 102 (.iload 7) 2, e0 104 .isub 1, e0 105 .iaload 1, e0 106 .iadd 1, e0 107 (.aload_n 0) 1, eF 108 (.getfield 70) 3 7 28, eC 111 (.bipush 101) 2 101, e0 113 (.iload 6) 2, e0 115 .imul 1, e0 116 (.iload_n 3) 1, e0 117 .iadd 1, e0 118 .iaload 1, eT 119 (.if_icmp .eq 9) 3 128, eC 122 (.iinc 7 1) 3 1, eT 125 (.goto (-43)) 3 82, e0 128 (.aload_n 0) 1, eF 129 (.getfield 76) 3 7 30, e0 132 (.iload 5) 2, e0 134 (.iload 7) 2, e0 136 .iastore 1, eC 137 (.iinc 5 1) 3 1, e0 140 (.iload_n 3) 1, e0 141 (.iload 7) 2, e0 143 .isub 1, e0 144 (.istore_n 3) 1, eC 145 (.iinc 6 1) 3 1, eT 148 (.goto (-78)) 3 70]
set_option maxRecDepth 100000 in
theorem b_Mo_least_82 {G : Ge} (x1 : Int32) (x2 : Int32) (x3 : Int32) (x4 : Int32) (x5 : Int32) (x6 : Int32) (x7 : Int32) {μ : Mm} {K : Int32 → Mm → Prop} (h :
  (CS G m_Mo_hurtOf [vr 7 0, vi x1, vi x7] μ (RI fun v1 μ1 =>
   (vp_in (((101 * (x6 + 1)) + x3) - x7) 909 ∧
    (vp_in ((101 * x6) + x3) 909 ∧
     (if (v1 + (μ1.1 44 0 (Int32.toNatClampNeg (((101 * (x6 + 1)) + x3) - x7)))) = (μ1.1 44 0 (Int32.toNatClampNeg ((101 * x6) + x3))) then
      (vp_in x5 8 ∧
       SS G m_Mo_least 70 [vr 7 0, vi x1, vi x2, vi (x3 - x7), vi x4, vi (x5 + 1), vi (x6 + 1), un] [] (wI μ1 46 0 x5.toNatClampNeg x7) (RI K))
     else
      SS G m_Mo_least 82 [vr 7 0, vi x1, vi x2, vi x3, vi x4, vi x5, vi x6, vi (x7 + 1)] [] μ1 (RI K))))))) :
  SS G m_Mo_least 82 [vr 7 0, vi x1, vi x2, vi x3, vi x4, vi x5, vi x6, vi x7] [] μ (RI K) :=
  wp_s (M := m_Mo_least) (lk := lk_Mo) (tb := tb_Mo_least_82) (cu := [(70, [true, true, true, true, true, true, true, false]), (82, [true, true, true, true, true, true, true, true])]) lk_Mo_ok (by decide +kernel) 42 true _ _ _ _ h
