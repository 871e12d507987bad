def tb_La_law_18 : List En := [e0 18 (.iload_n 3) 1, e0 19 (.aload_n 0) 1, e0 20 .arraylength 1, eC 21 (.bipush 6) 2 6, e0 23 .isub 1, eT 24 (.if_icmp .gt 1280) 3 1304, e0 27 (.aload_n 0) 1, e0 28 (.iload_n 3) 1, e0 29 .iaload 1, eC 30 (.bipush 63) 2 63, e0 32 .iand 1, eS 33 (.tableswitch 1265 0 40 #[179, 212, 255, 288, 311, 374, 397, 430, 473, 496, 519, 552, 575, 608, 641, 674, 717, 730, 753, 776, 799, 832, 855, 888, 911, 924, 957, 970, 993, 1016, 1039, 1072, 1095, 1118, 1151, 1164, 1178, 1192, 1215, 1228, 1251]) 179 1298 [(0, 212), (1, 245), (2, 288), (3, 321), (4, 344), (5, 407), (6, 430), (7, 463), (8, 506), (9, 529), (10, 552), (11, 585), (12, 608), (13, 641), (14, 674), (15, 707), (16, 750), (17, 763), (18, 786), (19, 809), (20, 832), (21, 865), (22, 888), (23, 921), (24, 944), (25, 957), (26, 990), (27, 1003), (28, 1026), (29, 1049), (30, 1072), (31, 1105), (32, 1128), (33, 1151), (34, 1184), (35, 1197), (36, 1211), (37, 1225), (38, 1248), (39, 1261), (40, 1284)], eC 1304 (.iconst 1) 1 1, e0 1305 .ireturn 1]
set_option maxRecDepth 100000 in
theorem b_La_law_18 {G : Ge} (x3 : Int32) {μ : Mm} {K : Int32 → Mm → Prop} (h :
  (if ((nI (gL G)) - 6) < x3 then
   (((1 : Int32) = 0 ∨ (1 : Int32) = 1) ∧ K 1 μ)
  else
   (vp_in x3 (gL G) ∧
    (if ((gxs G x3.toNatClampNeg) &&& 63) = 0 then
     SS G m_La_law 212 [vr 57 0, vr 6 0, vr 7 0, vi x3] [] μ (RI K)
    else
     (if ((gxs G x3.toNatClampNeg) &&& 63) = 1 then
      SS G m_La_law 245 [vr 57 0, vr 6 0, vr 7 0, vi x3] [] μ (RI K)
     else
      (if ((gxs G x3.toNatClampNeg) &&& 63) = 2 then
       SS G m_La_law 288 [vr 57 0, vr 6 0, vr 7 0, vi x3] [] μ (RI K)
      else
       (if ((gxs G x3.toNatClampNeg) &&& 63) = 3 then
        SS G m_La_law 321 [vr 57 0, vr 6 0, vr 7 0, vi x3] [] μ (RI K)
       else
        (if ((gxs G x3.toNatClampNeg) &&& 63) = 4 then
         SS G m_La_law 344 [vr 57 0, vr 6 0, vr 7 0, vi x3] [] μ (RI K)
        else
         (if ((gxs G x3.toNatClampNeg) &&& 63) = 5 then
          SS G m_La_law 407 [vr 57 0, vr 6 0, vr 7 0, vi x3] [] μ (RI K)
         else
          (if ((gxs G x3.toNatClampNeg) &&& 63) = 6 then
           SS G m_La_law 430 [vr 57 0, vr 6 0, vr 7 0, vi x3] [] μ (RI K)
          else
           (if ((gxs G x3.toNatClampNeg) &&& 63) = 7 then
            SS G m_La_law 463 [vr 57 0, vr 6 0, vr 7 0, vi x3] [] μ (RI K)
           else
            (if ((gxs G x3.toNatClampNeg) &&& 63) = 8 then
             SS G m_La_law 506 [vr 57 0, vr 6 0, vr 7 0, vi x3] [] μ (RI K)
            else
             (if ((gxs G x3.toNatClampNeg) &&& 63) = 9 then
              SS G m_La_law 529 [vr 57 0, vr 6 0, vr 7 0, vi x3] [] μ (RI K)
             else
              (if ((gxs G x3.toNatClampNeg) &&& 63) = 10 then
               SS G m_La_law 552 [vr 57 0, vr 6 0, vr 7 0, vi x3] [] μ (RI K)
              else
               (if ((gxs G x3.toNatClampNeg) &&& 63) = 11 then
                SS G m_La_law 585 [vr 57 0, vr 6 0, vr 7 0, vi x3] [] μ (RI K)
               else
                (if ((gxs G x3.toNatClampNeg) &&& 63) = 12 then
                 SS G m_La_law 608 [vr 57 0, vr 6 0, vr 7 0, vi x3] [] μ (RI K)
                else
                 (if ((gxs G x3.toNatClampNeg) &&& 63) = 13 then
                  SS G m_La_law 641 [vr 57 0, vr 6 0, vr 7 0, vi x3] [] μ (RI K)
                 else
                  (if ((gxs G x3.toNatClampNeg) &&& 63) = 14 then
                   SS G m_La_law 674 [vr 57 0, vr 6 0, vr 7 0, vi x3] [] μ (RI K)
                  else
                   (if ((gxs G x3.toNatClampNeg) &&& 63) = 15 then
                    SS G m_La_law 707 [vr 57 0, vr 6 0, vr 7 0, vi x3] [] μ (RI K)
                   else
                    (if ((gxs G x3.toNatClampNeg) &&& 63) = 16 then
                     SS G m_La_law 750 [vr 57 0, vr 6 0, vr 7 0, vi x3] [] μ (RI K)
                    else
                     (if ((gxs G x3.toNatClampNeg) &&& 63) = 17 then
                      SS G m_La_law 763 [vr 57 0, vr 6 0, vr 7 0, vi x3] [] μ (RI K)
                     else
                      (if ((gxs G x3.toNatClampNeg) &&& 63) = 18 then
                       SS G m_La_law 786 [vr 57 0, vr 6 0, vr 7 0, vi x3] [] μ (RI K)
                      else
                       (if ((gxs G x3.toNatClampNeg) &&& 63) = 19 then
                        SS G m_La_law 809 [vr 57 0, vr 6 0, vr 7 0, vi x3] [] μ (RI K)
                       else
                        (if ((gxs G x3.toNatClampNeg) &&& 63) = 20 then
                         SS G m_La_law 832 [vr 57 0, vr 6 0, vr 7 0, vi x3] [] μ (RI K)
                        else
                         (if ((gxs G x3.toNatClampNeg) &&& 63) = 21 then
                          SS G m_La_law 865 [vr 57 0, vr 6 0, vr 7 0, vi x3] [] μ (RI K)
                         else
                          (if ((gxs G x3.toNatClampNeg) &&& 63) = 22 then
                           SS G m_La_law 888 [vr 57 0, vr 6 0, vr 7 0, vi x3] [] μ (RI K)
                          else
                           (if ((gxs G x3.toNatClampNeg) &&& 63) = 23 then
                            SS G m_La_law 921 [vr 57 0, vr 6 0, vr 7 0, vi x3] [] μ (RI K)
                           else
                            (if ((gxs G x3.toNatClampNeg) &&& 63) = 24 then
                             SS G m_La_law 944 [vr 57 0, vr 6 0, vr 7 0, vi x3] [] μ (RI K)
                            else
                             (if ((gxs G x3.toNatClampNeg) &&& 63) = 25 then
                              SS G m_La_law 957 [vr 57 0, vr 6 0, vr 7 0, vi x3] [] μ (RI K)
                             else
                              (if ((gxs G x3.toNatClampNeg) &&& 63) = 26 then
                               SS G m_La_law 990 [vr 57 0, vr 6 0, vr 7 0, vi x3] [] μ (RI K)
                              else
                               (if ((gxs G x3.toNatClampNeg) &&& 63) = 27 then
                                SS G m_La_law 1003 [vr 57 0, vr 6 0, vr 7 0, vi x3] [] μ (RI K)
                               else
                                (if ((gxs G x3.toNatClampNeg) &&& 63) = 28 then
                                 SS G m_La_law 1026 [vr 57 0, vr 6 0, vr 7 0, vi x3] [] μ (RI K)
                                else
                                 (if ((gxs G x3.toNatClampNeg) &&& 63) = 29 then
                                  SS G m_La_law 1049 [vr 57 0, vr 6 0, vr 7 0, vi x3] [] μ (RI K)
                                 else
                                  (if ((gxs G x3.toNatClampNeg) &&& 63) = 30 then
                                   SS G m_La_law 1072 [vr 57 0, vr 6 0, vr 7 0, vi x3] [] μ (RI K)
                                  else
                                   (if ((gxs G x3.toNatClampNeg) &&& 63) = 31 then
                                    SS G m_La_law 1105 [vr 57 0, vr 6 0, vr 7 0, vi x3] [] μ (RI K)
                                   else
                                    (if ((gxs G x3.toNatClampNeg) &&& 63) = 32 then
                                     SS G m_La_law 1128 [vr 57 0, vr 6 0, vr 7 0, vi x3] [] μ (RI K)
                                    else
                                     (if ((gxs G x3.toNatClampNeg) &&& 63) = 33 then
                                      SS G m_La_law 1151 [vr 57 0, vr 6 0, vr 7 0, vi x3] [] μ (RI K)
                                     else
                                      (if ((gxs G x3.toNatClampNeg) &&& 63) = 34 then
                                       SS G m_La_law 1184 [vr 57 0, vr 6 0, vr 7 0, vi x3] [] μ (RI K)
                                      else
                                       (if ((gxs G x3.toNatClampNeg) &&& 63) = 35 then
                                        SS G m_La_law 1197 [vr 57 0, vr 6 0, vr 7 0, vi x3] [] μ (RI K)
                                       else
                                        (if ((gxs G x3.toNatClampNeg) &&& 63) = 36 then
                                         SS G m_La_law 1211 [vr 57 0, vr 6 0, vr 7 0, vi x3] [] μ (RI K)
                                        else
                                         (if ((gxs G x3.toNatClampNeg) &&& 63) = 37 then
                                          SS G m_La_law 1225 [vr 57 0, vr 6 0, vr 7 0, vi x3] [] μ (RI K)
                                         else
                                          (if ((gxs G x3.toNatClampNeg) &&& 63) = 38 then
                                           SS G m_La_law 1248 [vr 57 0, vr 6 0, vr 7 0, vi x3] [] μ (RI K)
                                          else
                                           (if ((gxs G x3.toNatClampNeg) &&& 63) = 39 then
                                            SS G m_La_law 1261 [vr 57 0, vr 6 0, vr 7 0, vi x3] [] μ (RI K)
                                           else
                                            (if ((gxs G x3.toNatClampNeg) &&& 63) = 40 then
                                             SS G m_La_law 1284 [vr 57 0, vr 6 0, vr 7 0, vi x3] [] μ (RI K)
                                            else
                                             SS G m_La_law 1298 [vr 57 0, vr 6 0, vr 7 0, vi x3] [] μ (RI K))))))))))))))))))))))))))))))))))))))))))))) :
  SS G m_La_law 18 [vr 57 0, vr 6 0, vr 7 0, vi x3] [] μ (RI K) :=
  wp_s (M := m_La_law) (lk := lk_La) (tb := tb_La_law_18) (cu := [(18, [true, true, true, true]), (212, [true, true, true, true]), (245, [true, true, true, true]), (288, [true, true, true, true]), (321, [true, true, true, true]), (344, [true, true, true, true]), (407, [true, true, true, true]), (430, [true, true, true, true]), (463, [true, true, true, true]), (506, [true, true, true, true]), (529, [true, true, true, true]), (552, [true, true, true, true]), (585, [true, true, true, true]), (608, [true, true, true, true]), (641, [true, true, true, true]), (674, [true, true, true, true]), (707, [true, true, true, true]), (750, [true, true, true, true]), (763, [true, true, true, true]), (786, [true, true, true, true]), (809, [true, true, true, true]), (832, [true, true, true, true]), (865, [true, true, true, true]), (888, [true, true, true, true]), (921, [true, true, true, true]), (944, [true, true, true, true]), (957, [true, true, true, true]), (990, [true, true, true, true]), (1003, [true, true, true, true]), (1026, [true, true, true, true]), (1049, [true, true, true, true]), (1072, [true, true, true, true]), (1105, [true, true, true, true]), (1128, [true, true, true, true]), (1151, [true, true, true, true]), (1184, [true, true, true, true]), (1197, [true, true, true, true]), (1211, [true, true, true, true]), (1225, [true, true, true, true]), (1248, [true, true, true, true]), (1261, [true, true, true, true]), (1284, [true, true, true, true]), (1298, [true, true, true, true])]) lk_La_ok (by decide +kernel) 16 true _ _ _ _ h
def tb_La_law_212 : List En := [e0 212 (.aload_n 1) 1, e0 213 (.aload_n 0) 1, e0 214 (.iload_n 3) 1, eC 215 (.iconst 1) 1 1, e0 216 .iadd 1, e0 217 .iaload 1, e0 218 (.aload_n 0) 1, e0 219 (.iload_n 3) 1, eC 220 (.iconst 2) 1 2, e0 221 .iadd 1, e0 222 .iaload 1, eT 223 (.invokevirtual 13) 3 0, e0 226 (.aload_n 2) 1, e0 227 (.aload_n 0) 1, e0 228 (.iload_n 3) 1, eC 229 (.iconst 1) 1 1, e0 230 .iadd 1, e0 231 .iaload 1, e0 232 (.aload_n 0) 1, e0 233 (.iload_n 3) 1, eC 234 (.iconst 2) 1 2, e0 235 .iadd 1, e0 236 .iaload 1, eT 237 (.invokevirtual 17) 3 1, eT 240 (.if_icmp .eq 1058) 3 1298, eC 243 (.iconst 0) 1 0, e0 244 .ireturn 1]
set_option maxRecDepth 100000 in
theorem b_La_law_212 {G : Ge} (x3 : Int32) {μ : Mm} {K : Int32 → Mm → Prop} (h :
  (vp_in (x3 + 1) (gL G) ∧
   (vp_in (x3 + 2) (gL G) ∧
    (CS G m_Cs_row [vr 6 0, vi (gxs G (Int32.toNatClampNeg (x3 + 1))), vi (gxs G (Int32.toNatClampNeg (x3 + 2)))] μ (RI fun v1 μ1 =>
     (vp_in (x3 + 1) (gL G) ∧
      (vp_in (x3 + 2) (gL G) ∧
       (CS G m_Mo_row [vr 7 0, vi (gxs G (Int32.toNatClampNeg (x3 + 1))), vi (gxs G (Int32.toNatClampNeg (x3 + 2)))] μ1 (RI fun v2 μ2 =>
        (if v1 = v2 then
         SS G m_La_law 1298 [vr 57 0, vr 6 0, vr 7 0, vi x3] [] μ2 (RI K)
        else
         (((0 : Int32) = 0 ∨ (0 : Int32) = 1) ∧ K 0 μ2))))))))))) :
  SS G m_La_law 212 [vr 57 0, vr 6 0, vr 7 0, vi x3] [] μ (RI K) :=
  wp_s (M := m_La_law) (lk := lk_La) (tb := tb_La_law_212) (cu := [(18, [true, true, true, true]), (212, [true, true, true, true]), (245, [true, true, true, true]), (288, [true, true, true, true]), (321, [true, true, true, true]), (344, [true, true, true, true]), (407, [true, true, true, true]), (430, [true, true, true, true]), (463, [true, true, true, true]), (506, [true, true, true, true]), (529, [true, true, true, true]), (552, [true, true, true, true]), (585, [true, true, true, true]), (608, [true, true, true, true]), (641, [true, true, true, true]), (674, [true, true, true, true]), (707, [true, true, true, true]), (750, [true, true, true, true]), (763, [true, true, true, true]), (786, [true, true, true, true]), (809, [true, true, true, true]), (832, [true, true, true, true]), (865, [true, true, true, true]), (888, [true, true, true, true]), (921, [true, true, true, true]), (944, [true, true, true, true]), (957, [true, true, true, true]), (990, [true, true, true, true]), (1003, [true, true, true, true]), (1026, [true, true, true, true]), (1049, [true, true, true, true]), (1072, [true, true, true, true]), (1105, [true, true, true, true]), (1128, [true, true, true, true]), (1151, [true, true, true, true]), (1184, [true, true, true, true]), (1197, [true, true, true, true]), (1211, [true, true, true, true]), (1225, [true, true, true, true]), (1248, [true, true, true, true]), (1261, [true, true, true, true]), (1284, [true, true, true, true]), (1298, [true, true, true, true])]) lk_La_ok (by decide +kernel) 30 true _ _ _ _ h
def tb_La_law_245 : List En := [e0 245 (.aload_n 1) 1, e0 246 (.aload_n 0) 1, e0 247 (.iload_n 3) 1, eC 248 (.iconst 1) 1 1, e0 249 .iadd 1, e0 250 .iaload 1, e0 251 (.aload_n 0) 1, e0 252 (.iload_n 3) 1, eC 253 (.iconst 2) 1 2, e0 254 .iadd 1, e0 255 .iaload 1, e0 256 (.aload_n 0) 1, e0 257 (.iload_n 3) 1, eC 258 (.iconst 3) 1 3, e0 259 .iadd 1, e0 260 .iaload 1, eT 261 (.invokevirtual 18) 3 2, e0 264 (.aload_n 2) 1, e0 265 (.aload_n 0) 1, e0 266 (.iload_n 3) 1, eC 267 (.iconst 1) 1 1, e0 268 .iadd 1, e0 269 .iaload 1, e0 270 (.aload_n 0) 1, e0 271 (.iload_n 3) 1, eC 272 (.iconst 2) 1 2, e0 273 .iadd 1, e0 274 .iaload 1, e0 275 (.aload_n 0) 1, e0 276 (.iload_n 3) 1, eC 277 (.iconst 3) 1 3, e0 278 .iadd 1, e0 279 .iaload 1, eT 280 (.invokevirtual 22) 3 3, eT 283 (.if_icmp .eq 1015) 3 1298, eC 286 (.iconst 0) 1 0, e0 287 .ireturn 1]
set_option maxRecDepth 100000 in
theorem b_La_law_245 {G : Ge} (x3 : Int32) {μ : Mm} {K : Int32 → Mm → Prop} (h :
  (vp_in (x3 + 1) (gL G) ∧
   (vp_in (x3 + 2) (gL G) ∧
    (vp_in (x3 + 3) (gL G) ∧
     (CS G m_Cs_lay [vr 6 0, vi (gxs G (Int32.toNatClampNeg (x3 + 1))), vi (gxs G (Int32.toNatClampNeg (x3 + 2))), vi (gxs G (Int32.toNatClampNeg (x3 + 3)))] μ (RI fun v1 μ1 =>
      (vp_in (x3 + 1) (gL G) ∧
       (vp_in (x3 + 2) (gL G) ∧
        (vp_in (x3 + 3) (gL G) ∧
         (CS G m_Mo_lay [vr 7 0, vi (gxs G (Int32.toNatClampNeg (x3 + 1))), vi (gxs G (Int32.toNatClampNeg (x3 + 2))), vi (gxs G (Int32.toNatClampNeg (x3 + 3)))] μ1 (RI fun v2 μ2 =>
          (if v1 = v2 then
           SS G m_La_law 1298 [vr 57 0, vr 6 0, vr 7 0, vi x3] [] μ2 (RI K)
          else
           (((0 : Int32) = 0 ∨ (0 : Int32) = 1) ∧ K 0 μ2))))))))))))) :
  SS G m_La_law 245 [vr 57 0, vr 6 0, vr 7 0, vi x3] [] μ (RI K) :=
  wp_s (M := m_La_law) (lk := lk_La) (tb := tb_La_law_245) (cu := [(18, [true, true, true, true]), (212, [true, true, true, true]), (245, [true, true, true, true]), (288, [true, true, true, true]), (321, [true, true, true, true]), (344, [true, true, true, true]), (407, [true, true, true, true]), (430, [true, true, true, true]), (463, [true, true, true, true]), (506, [true, true, true, true]), (529, [true, true, true, true]), (552, [true, true, true, true]), (585, [true, true, true, true]), (608, [true, true, true, true]), (641, [true, true, true, true]), (674, [true, true, true, true]), (707, [true, true, true, true]), (750, [true, true, true, true]), (763, [true, true, true, true]), (786, [true, true, true, true]), (809, [true, true, true, true]), (832, [true, true, true, true]), (865, [true, true, true, true]), (888, [true, true, true, true]), (921, [true, true, true, true]), (944, [true, true, true, true]), (957, [true, true, true, true]), (990, [true, true, true, true]), (1003, [true, true, true, true]), (1026, [true, true, true, true]), (1049, [true, true, true, true]), (1072, [true, true, true, true]), (1105, [true, true, true, true]), (1128, [true, true, true, true]), (1151, [true, true, true, true]), (1184, [true, true, true, true]), (1197, [true, true, true, true]), (1211, [true, true, true, true]), (1225, [true, true, true, true]), (1248, [true, true, true, true]), (1261, [true, true, true, true]), (1284, [true, true, true, true]), (1298, [true, true, true, true])]) lk_La_ok (by decide +kernel) 40 true _ _ _ _ h
def tb_La_law_288 : List En := [e0 288 (.aload_n 1) 1, e0 289 (.aload_n 0) 1, e0 290 (.iload_n 3) 1, eC 291 (.iconst 1) 1 1, e0 292 .iadd 1, e0 293 .iaload 1, e0 294 (.aload_n 0) 1, e0 295 (.iload_n 3) 1, eC 296 (.iconst 2) 1 2, e0 297 .iadd 1, e0 298 .iaload 1, eT 299 (.invokevirtual 23) 3 4, e0 302 (.aload_n 2) 1, e0 303 (.aload_n 0) 1, e0 304 (.iload_n 3) 1, eC 305 (.iconst 1) 1 1, e0 306 .iadd 1, e0 307 .iaload 1, e0 308 (.aload_n 0) 1, e0 309 (.iload_n 3) 1, eC 310 (.iconst 2) 1 2, e0 311 .iadd 1, e0 312 .iaload 1, eT 313 (.invokevirtual 26) 3 5, eT 316 (.if_icmp .eq 982) 3 1298, eC 319 (.iconst 0) 1 0, e0 320 .ireturn 1]
set_option maxRecDepth 100000 in
theorem b_La_law_288 {G : Ge} (x3 : Int32) {μ : Mm} {K : Int32 → Mm → Prop} (h :
  (vp_in (x3 + 1) (gL G) ∧
   (vp_in (x3 + 2) (gL G) ∧
    (CS G m_Cs_at [vr 6 0, vi (gxs G (Int32.toNatClampNeg (x3 + 1))), vi (gxs G (Int32.toNatClampNeg (x3 + 2)))] μ (RI fun v1 μ1 =>
     (vp_in (x3 + 1) (gL G) ∧
      (vp_in (x3 + 2) (gL G) ∧
       (CS G m_Mo_at [vr 7 0, vi (gxs G (Int32.toNatClampNeg (x3 + 1))), vi (gxs G (Int32.toNatClampNeg (x3 + 2)))] μ1 (RI fun v2 μ2 =>
        (if v1 = v2 then
         SS G m_La_law 1298 [vr 57 0, vr 6 0, vr 7 0, vi x3] [] μ2 (RI K)
        else
         (((0 : Int32) = 0 ∨ (0 : Int32) = 1) ∧ K 0 μ2))))))))))) :
  SS G m_La_law 288 [vr 57 0, vr 6 0, vr 7 0, vi x3] [] μ (RI K) :=
  wp_s (M := m_La_law) (lk := lk_La) (tb := tb_La_law_288) (cu := [(18, [true, true, true, true]), (212, [true, true, true, true]), (245, [true, true, true, true]), (288, [true, true, true, true]), (321, [true, true, true, true]), (344, [true, true, true, true]), (407, [true, true, true, true]), (430, [true, true, true, true]), (463, [true, true, true, true]), (506, [true, true, true, true]), (529, [true, true, true, true]), (552, [true, true, true, true]), (585, [true, true, true, true]), (608, [true, true, true, true]), (641, [true, true, true, true]), (674, [true, true, true, true]), (707, [true, true, true, true]), (750, [true, true, true, true]), (763, [true, true, true, true]), (786, [true, true, true, true]), (809, [true, true, true, true]), (832, [true, true, true, true]), (865, [true, true, true, true]), (888, [true, true, true, true]), (921, [true, true, true, true]), (944, [true, true, true, true]), (957, [true, true, true, true]), (990, [true, true, true, true]), (1003, [true, true, true, true]), (1026, [true, true, true, true]), (1049, [true, true, true, true]), (1072, [true, true, true, true]), (1105, [true, true, true, true]), (1128, [true, true, true, true]), (1151, [true, true, true, true]), (1184, [true, true, true, true]), (1197, [true, true, true, true]), (1211, [true, true, true, true]), (1225, [true, true, true, true]), (1248, [true, true, true, true]), (1261, [true, true, true, true]), (1284, [true, true, true, true]), (1298, [true, true, true, true])]) lk_La_ok (by decide +kernel) 30 true _ _ _ _ h
def tb_La_law_321 : List En := [e0 321 (.aload_n 1) 1, e0 322 (.aload_n 0) 1, e0 323 (.iload_n 3) 1, eC 324 (.iconst 1) 1 1, e0 325 .iadd 1, e0 326 .iaload 1, eT 327 (.invokevirtual 27) 3 6, e0 330 (.aload_n 2) 1, e0 331 (.aload_n 0) 1, e0 332 (.iload_n 3) 1, eC 333 (.iconst 1) 1 1, e0 334 .iadd 1, e0 335 .iaload 1, eT 336 (.invokevirtual 31) 3 7, eT 339 (.if_icmp .eq 959) 3 1298, eC 342 (.iconst 0) 1 0, e0 343 .ireturn 1]
set_option maxRecDepth 100000 in
theorem b_La_law_321 {G : Ge} (x3 : Int32) {μ : Mm} {K : Int32 → Mm → Prop} (h :
  (vp_in (x3 + 1) (gL G) ∧
   (CS G m_Cs_tear [vr 6 0, vi (gxs G (Int32.toNatClampNeg (x3 + 1)))] μ (RI fun v1 μ1 =>
    (vp_in (x3 + 1) (gL G) ∧
     (CS G m_Mo_tear [vr 7 0, vi (gxs G (Int32.toNatClampNeg (x3 + 1)))] μ1 (RI fun v2 μ2 =>
      (if v1 = v2 then
       SS G m_La_law 1298 [vr 57 0, vr 6 0, vr 7 0, vi x3] [] μ2 (RI K)
      else
       (((0 : Int32) = 0 ∨ (0 : Int32) = 1) ∧ K 0 μ2))))))))) :
  SS G m_La_law 321 [vr 57 0, vr 6 0, vr 7 0, vi x3] [] μ (RI K) :=
  wp_s (M := m_La_law) (lk := lk_La) (tb := tb_La_law_321) (cu := [(18, [true, true, true, true]), (212, [true, true, true, true]), (245, [true, true, true, true]), (288, [true, true, true, true]), (321, [true, true, true, true]), (344, [true, true, true, true]), (407, [true, true, true, true]), (430, [true, true, true, true]), (463, [true, true, true, true]), (506, [true, true, true, true]), (529, [true, true, true, true]), (552, [true, true, true, true]), (585, [true, true, true, true]), (608, [true, true, true, true]), (641, [true, true, true, true]), (674, [true, true, true, true]), (707, [true, true, true, true]), (750, [true, true, true, true]), (763, [true, true, true, true]), (786, [true, true, true, true]), (809, [true, true, true, true]), (832, [true, true, true, true]), (865, [true, true, true, true]), (888, [true, true, true, true]), (921, [true, true, true, true]), (944, [true, true, true, true]), (957, [true, true, true, true]), (990, [true, true, true, true]), (1003, [true, true, true, true]), (1026, [true, true, true, true]), (1049, [true, true, true, true]), (1072, [true, true, true, true]), (1105, [true, true, true, true]), (1128, [true, true, true, true]), (1151, [true, true, true, true]), (1184, [true, true, true, true]), (1197, [true, true, true, true]), (1211, [true, true, true, true]), (1225, [true, true, true, true]), (1248, [true, true, true, true]), (1261, [true, true, true, true]), (1284, [true, true, true, true]), (1298, [true, true, true, true])]) lk_La_ok (by decide +kernel) 20 true _ _ _ _ h
def tb_La_law_344 : List En := [e0 344 (.aload_n 1) 1, e0 345 (.aload_n 0) 1, e0 346 (.iload_n 3) 1, eC 347 (.iconst 1) 1 1, e0 348 .iadd 1, e0 349 .iaload 1, e0 350 (.aload_n 0) 1, e0 351 (.iload_n 3) 1, eC 352 (.iconst 2) 1 2, e0 353 .iadd 1, e0 354 .iaload 1, e0 355 (.aload_n 0) 1, e0 356 (.iload_n 3) 1, eC 357 (.iconst 3) 1 3, e0 358 .iadd 1, e0 359 .iaload 1, e0 360 (.aload_n 0) 1, e0 361 (.iload_n 3) 1, eC 362 (.iconst 4) 1 4, e0 363 .iadd 1, e0 364 .iaload 1, e0 365 (.aload_n 0) 1, e0 366 (.iload_n 3) 1, eC 367 (.iconst 5) 1 5, e0 368 .iadd 1, e0 369 .iaload 1, eT 370 (.invokevirtual 32) 3 8, e0 373 (.aload_n 2) 1, e0 374 (.aload_n 0) 1, e0 375 (.iload_n 3) 1, eC 376 (.iconst 1) 1 1, e0 377 .iadd 1, e0 378 .iaload 1, e0 379 (.aload_n 0) 1, e0 380 (.iload_n 3) 1, eC 381 (.iconst 2) 1 2, e0 382 .iadd 1, e0 383 .iaload 1, e0 384 (.aload_n 0) 1, e0 385 (.iload_n 3) 1, eC 386 (.iconst 3) 1 3, e0 387 .iadd 1, e0 388 .iaload 1, e0 389 (.aload_n 0) 1, e0 390 (.iload_n 3) 1, eC 391 (.iconst 4) 1 4, e0 392 .iadd 1, e0 393 .iaload 1, e0 394 (.aload_n 0) 1, e0 395 (.iload_n 3) 1, eC 396 (.iconst 5) 1 5, e0 397 .iadd 1, e0 398 .iaload 1, eT 399 (.invokevirtual 36) 3 9, eT 402 (.if_icmp .eq 896) 3 1298, eC 405 (.iconst 0) 1 0, e0 406 .ireturn 1]
set_option maxRecDepth 100000 in
theorem b_La_law_344 {G : Ge} (x3 : Int32) {μ : Mm} {K : Int32 → Mm → Prop} (h :
  (vp_in (x3 + 1) (gL G) ∧
   (vp_in (x3 + 2) (gL G) ∧
    (vp_in (x3 + 3) (gL G) ∧
     (vp_in (x3 + 4) (gL G) ∧
      (vp_in (x3 + 5) (gL G) ∧
       (CS G m_Cs_copy [vr 6 0, vi (gxs G (Int32.toNatClampNeg (x3 + 1))), vi (gxs G (Int32.toNatClampNeg (x3 + 2))), vi (gxs G (Int32.toNatClampNeg (x3 + 3))), vi (gxs G (Int32.toNatClampNeg (x3 + 4))), vi (gxs G (Int32.toNatClampNeg (x3 + 5)))] μ (RI fun v1 μ1 =>
        (vp_in (x3 + 1) (gL G) ∧
         (vp_in (x3 + 2) (gL G) ∧
          (vp_in (x3 + 3) (gL G) ∧
           (vp_in (x3 + 4) (gL G) ∧
            (vp_in (x3 + 5) (gL G) ∧
             (CS G m_Mo_copy [vr 7 0, vi (gxs G (Int32.toNatClampNeg (x3 + 1))), vi (gxs G (Int32.toNatClampNeg (x3 + 2))), vi (gxs G (Int32.toNatClampNeg (x3 + 3))), vi (gxs G (Int32.toNatClampNeg (x3 + 4))), vi (gxs G (Int32.toNatClampNeg (x3 + 5)))] μ1 (RI fun v2 μ2 =>
              (if v1 = v2 then
               SS G m_La_law 1298 [vr 57 0, vr 6 0, vr 7 0, vi x3] [] μ2 (RI K)
              else
               (((0 : Int32) = 0 ∨ (0 : Int32) = 1) ∧ K 0 μ2))))))))))))))))) :
  SS G m_La_law 344 [vr 57 0, vr 6 0, vr 7 0, vi x3] [] μ (RI K) :=
  wp_s (M := m_La_law) (lk := lk_La) (tb := tb_La_law_344) (cu := [(18, [true, true, true, true]), (212, [true, true, true, true]), (245, [true, true, true, true]), (288, [true, true, true, true]), (321, [true, true, true, true]), (344, [true, true, true, true]), (407, [true, true, true, true]), (430, [true, true, true, true]), (463, [true, true, true, true]), (506, [true, true, true, true]), (529, [true, true, true, true]), (552, [true, true, true, true]), (585, [true, true, true, true]), (608, [true, true, true, true]), (641, [true, true, true, true]), (674, [true, true, true, true]), (707, [true, true, true, true]), (750, [true, true, true, true]), (763, [true, true, true, true]), (786, [true, true, true, true]), (809, [true, true, true, true]), (832, [true, true, true, true]), (865, [true, true, true, true]), (888, [true, true, true, true]), (921, [true, true, true, true]), (944, [true, true, true, true]), (957, [true, true, true, true]), (990, [true, true, true, true]), (1003, [true, true, true, true]), (1026, [true, true, true, true]), (1049, [true, true, true, true]), (1072, [true, true, true, true]), (1105, [true, true, true, true]), (1128, [true, true, true, true]), (1151, [true, true, true, true]), (1184, [true, true, true, true]), (1197, [true, true, true, true]), (1211, [true, true, true, true]), (1225, [true, true, true, true]), (1248, [true, true, true, true]), (1261, [true, true, true, true]), (1284, [true, true, true, true]), (1298, [true, true, true, true])]) lk_La_ok (by decide +kernel) 60 true _ _ _ _ h
def tb_La_law_407 : List En := [e0 407 (.aload_n 1) 1, e0 408 (.aload_n 0) 1, e0 409 (.iload_n 3) 1, eC 410 (.iconst 1) 1 1, e0 411 .iadd 1, e0 412 .iaload 1, eT 413 (.invokevirtual 37) 3 10, e0 416 (.aload_n 2) 1, e0 417 (.aload_n 0) 1, e0 418 (.iload_n 3) 1, eC 419 (.iconst 1) 1 1, e0 420 .iadd 1, e0 421 .iaload 1, eT 422 (.invokevirtual 40) 3 11, eT 425 (.if_icmp .eq 873) 3 1298, eC 428 (.iconst 0) 1 0, e0 429 .ireturn 1]
set_option maxRecDepth 100000 in
theorem b_La_law_407 {G : Ge} (x3 : Int32) {μ : Mm} {K : Int32 → Mm → Prop} (h :
  (vp_in (x3 + 1) (gL G) ∧
   (CS G m_Cs_mean [vr 6 0, vi (gxs G (Int32.toNatClampNeg (x3 + 1)))] μ (RI fun v1 μ1 =>
    (vp_in (x3 + 1) (gL G) ∧
     (CS G m_Mo_mean [vr 7 0, vi (gxs G (Int32.toNatClampNeg (x3 + 1)))] μ1 (RI fun v2 μ2 =>
      (if v1 = v2 then
       SS G m_La_law 1298 [vr 57 0, vr 6 0, vr 7 0, vi x3] [] μ2 (RI K)
      else
       (((0 : Int32) = 0 ∨ (0 : Int32) = 1) ∧ K 0 μ2))))))))) :
  SS G m_La_law 407 [vr 57 0, vr 6 0, vr 7 0, vi x3] [] μ (RI K) :=
  wp_s (M := m_La_law) (lk := lk_La) (tb := tb_La_law_407) (cu := [(18, [true, true, true, true]), (212, [true, true, true, true]), (245, [true, true, true, true]), (288, [true, true, true, true]), (321, [true, true, true, true]), (344, [true, true, true, true]), (407, [true, true, true, true]), (430, [true, true, true, true]), (463, [true, true, true, true]), (506, [true, true, true, true]), (529, [true, true, true, true]), (552, [true, true, true, true]), (585, [true, true, true, true]), (608, [true, true, true, true]), (641, [true, true, true, true]), (674, [true, true, true, true]), (707, [true, true, true, true]), (750, [true, true, true, true]), (763, [true, true, true, true]), (786, [true, true, true, true]), (809, [true, true, true, true]), (832, [true, true, true, true]), (865, [true, true, true, true]), (888, [true, true, true, true]), (921, [true, true, true, true]), (944, [true, true, true, true]), (957, [true, true, true, true]), (990, [true, true, true, true]), (1003, [true, true, true, true]), (1026, [true, true, true, true]), (1049, [true, true, true, true]), (1072, [true, true, true, true]), (1105, [true, true, true, true]), (1128, [true, true, true, true]), (1151, [true, true, true, true]), (1184, [true, true, true, true]), (1197, [true, true, true, true]), (1211, [true, true, true, true]), (1225, [true, true, true, true]), (1248, [true, true, true, true]), (1261, [true, true, true, true]), (1284, [true, true, true, true]), (1298, [true, true, true, true])]) lk_La_ok (by decide +kernel) 20 true _ _ _ _ h
def tb_La_law_430 : List En := [e0 430 (.aload_n 1) 1, e0 431 (.aload_n 0) 1, e0 432 (.iload_n 3) 1, eC 433 (.iconst 1) 1 1, e0 434 .iadd 1, e0 435 .iaload 1, e0 436 (.aload_n 0) 1, e0 437 (.iload_n 3) 1, eC 438 (.iconst 2) 1 2, e0 439 .iadd 1, e0 440 .iaload 1, eT 441 (.invokevirtual 41) 3 12, e0 444 (.aload_n 2) 1, e0 445 (.aload_n 0) 1, e0 446 (.iload_n 3) 1, eC 447 (.iconst 1) 1 1, e0 448 .iadd 1, e0 449 .iaload 1, e0 450 (.aload_n 0) 1, e0 451 (.iload_n 3) 1, eC 452 (.iconst 2) 1 2, e0 453 .iadd 1, e0 454 .iaload 1, eT 455 (.invokevirtual 44) 3 13, eT 458 (.if_icmp .eq 840) 3 1298, eC 461 (.iconst 0) 1 0, e0 462 .ireturn 1]
set_option maxRecDepth 100000 in
theorem b_La_law_430 {G : Ge} (x3 : Int32) {μ : Mm} {K : Int32 → Mm → Prop} (h :
  (vp_in (x3 + 1) (gL G) ∧
   (vp_in (x3 + 2) (gL G) ∧
    (CS G m_Cs_text [vr 6 0, vi (gxs G (Int32.toNatClampNeg (x3 + 1))), vi (gxs G (Int32.toNatClampNeg (x3 + 2)))] μ (RI fun v1 μ1 =>
     (vp_in (x3 + 1) (gL G) ∧
      (vp_in (x3 + 2) (gL G) ∧
       (CS G m_Mo_text [vr 7 0, vi (gxs G (Int32.toNatClampNeg (x3 + 1))), vi (gxs G (Int32.toNatClampNeg (x3 + 2)))] μ1 (RI fun v2 μ2 =>
        (if v1 = v2 then
         SS G m_La_law 1298 [vr 57 0, vr 6 0, vr 7 0, vi x3] [] μ2 (RI K)
        else
         (((0 : Int32) = 0 ∨ (0 : Int32) = 1) ∧ K 0 μ2))))))))))) :
  SS G m_La_law 430 [vr 57 0, vr 6 0, vr 7 0, vi x3] [] μ (RI K) :=
  wp_s (M := m_La_law) (lk := lk_La) (tb := tb_La_law_430) (cu := [(18, [true, true, true, true]), (212, [true, true, true, true]), (245, [true, true, true, true]), (288, [true, true, true, true]), (321, [true, true, true, true]), (344, [true, true, true, true]), (407, [true, true, true, true]), (430, [true, true, true, true]), (463, [true, true, true, true]), (506, [true, true, true, true]), (529, [true, true, true, true]), (552, [true, true, true, true]), (585, [true, true, true, true]), (608, [true, true, true, true]), (641, [true, true, true, true]), (674, [true, true, true, true]), (707, [true, true, true, true]), (750, [true, true, true, true]), (763, [true, true, true, true]), (786, [true, true, true, true]), (809, [true, true, true, true]), (832, [true, true, true, true]), (865, [true, true, true, true]), (888, [true, true, true, true]), (921, [true, true, true, true]), (944, [true, true, true, true]), (957, [true, true, true, true]), (990, [true, true, true, true]), (1003, [true, true, true, true]), (1026, [true, true, true, true]), (1049, [true, true, true, true]), (1072, [true, true, true, true]), (1105, [true, true, true, true]), (1128, [true, true, true, true]), (1151, [true, true, true, true]), (1184, [true, true, true, true]), (1197, [true, true, true, true]), (1211, [true, true, true, true]), (1225, [true, true, true, true]), (1248, [true, true, true, true]), (1261, [true, true, true, true]), (1284, [true, true, true, true]), (1298, [true, true, true, true])]) lk_La_ok (by decide +kernel) 30 true _ _ _ _ h
def tb_La_law_463 : List En := [e0 463 (.aload_n 1) 1, e0 464 (.aload_n 0) 1, e0 465 (.iload_n 3) 1, eC 466 (.iconst 1) 1 1, e0 467 .iadd 1, e0 468 .iaload 1, e0 469 (.aload_n 0) 1, e0 470 (.iload_n 3) 1, eC 471 (.iconst 2) 1 2, e0 472 .iadd 1, e0 473 .iaload 1, e0 474 (.aload_n 0) 1, e0 475 (.iload_n 3) 1, eC 476 (.iconst 3) 1 3, e0 477 .iadd 1, e0 478 .iaload 1, eT 479 (.invokevirtual 45) 3 14, e0 482 (.aload_n 2) 1, e0 483 (.aload_n 0) 1, e0 484 (.iload_n 3) 1, eC 485 (.iconst 1) 1 1, e0 486 .iadd 1, e0 487 .iaload 1, e0 488 (.aload_n 0) 1, e0 489 (.iload_n 3) 1, eC 490 (.iconst 2) 1 2, e0 491 .iadd 1, e0 492 .iaload 1, e0 493 (.aload_n 0) 1, e0 494 (.iload_n 3) 1, eC 495 (.iconst 3) 1 3, e0 496 .iadd 1, e0 497 .iaload 1, eT 498 (.invokevirtual 48) 3 15, eT 501 (.if_icmp .eq 797) 3 1298, eC 504 (.iconst 0) 1 0, e0 505 .ireturn 1]
set_option maxRecDepth 100000 in
theorem b_La_law_463 {G : Ge} (x3 : Int32) {μ : Mm} {K : Int32 → Mm → Prop} (h :
  (vp_in (x3 + 1) (gL G) ∧
   (vp_in (x3 + 2) (gL G) ∧
    (vp_in (x3 + 3) (gL G) ∧
     (CS G m_Cs_put [vr 6 0, vi (gxs G (Int32.toNatClampNeg (x3 + 1))), vi (gxs G (Int32.toNatClampNeg (x3 + 2))), vi (gxs G (Int32.toNatClampNeg (x3 + 3)))] μ (RI fun v1 μ1 =>
      (vp_in (x3 + 1) (gL G) ∧
       (vp_in (x3 + 2) (gL G) ∧
        (vp_in (x3 + 3) (gL G) ∧
         (CS G m_Mo_put [vr 7 0, vi (gxs G (Int32.toNatClampNeg (x3 + 1))), vi (gxs G (Int32.toNatClampNeg (x3 + 2))), vi (gxs G (Int32.toNatClampNeg (x3 + 3)))] μ1 (RI fun v2 μ2 =>
          (if v1 = v2 then
           SS G m_La_law 1298 [vr 57 0, vr 6 0, vr 7 0, vi x3] [] μ2 (RI K)
          else
           (((0 : Int32) = 0 ∨ (0 : Int32) = 1) ∧ K 0 μ2))))))))))))) :
  SS G m_La_law 463 [vr 57 0, vr 6 0, vr 7 0, vi x3] [] μ (RI K) :=
  wp_s (M := m_La_law) (lk := lk_La) (tb := tb_La_law_463) (cu := [(18, [true, true, true, true]), (212, [true, true, true, true]), (245, [true, true, true, true]), (288, [true, true, true, true]), (321, [true, true, true, true]), (344, [true, true, true, true]), (407, [true, true, true, true]), (430, [true, true, true, true]), (463, [true, true, true, true]), (506, [true, true, true, true]), (529, [true, true, true, true]), (552, [true, true, true, true]), (585, [true, true, true, true]), (608, [true, true, true, true]), (641, [true, true, true, true]), (674, [true, true, true, true]), (707, [true, true, true, true]), (750, [true, true, true, true]), (763, [true, true, true, true]), (786, [true, true, true, true]), (809, [true, true, true, true]), (832, [true, true, true, true]), (865, [true, true, true, true]), (888, [true, true, true, true]), (921, [true, true, true, true]), (944, [true, true, true, true]), (957, [true, true, true, true]), (990, [true, true, true, true]), (1003, [true, true, true, true]), (1026, [true, true, true, true]), (1049, [true, true, true, true]), (1072, [true, true, true, true]), (1105, [true, true, true, true]), (1128, [true, true, true, true]), (1151, [true, true, true, true]), (1184, [true, true, true, true]), (1197, [true, true, true, true]), (1211, [true, true, true, true]), (1225, [true, true, true, true]), (1248, [true, true, true, true]), (1261, [true, true, true, true]), (1284, [true, true, true, true]), (1298, [true, true, true, true])]) lk_La_ok (by decide +kernel) 40 true _ _ _ _ h
def tb_La_law_506 : List En := [e0 506 (.aload_n 1) 1, e0 507 (.aload_n 0) 1, e0 508 (.iload_n 3) 1, eC 509 (.iconst 1) 1 1, e0 510 .iadd 1, e0 511 .iaload 1, eT 512 (.invokevirtual 49) 3 16, e0 515 (.aload_n 2) 1, e0 516 (.aload_n 0) 1, e0 517 (.iload_n 3) 1, eC 518 (.iconst 1) 1 1, e0 519 .iadd 1, e0 520 .iaload 1, eT 521 (.invokevirtual 52) 3 17, eT 524 (.if_icmp .eq 774) 3 1298, eC 527 (.iconst 0) 1 0, e0 528 .ireturn 1]
set_option maxRecDepth 100000 in
theorem b_La_law_506 {G : Ge} (x3 : Int32) {μ : Mm} {K : Int32 → Mm → Prop} (h :
  (vp_in (x3 + 1) (gL G) ∧
   (CS G m_Cs_fault [vr 6 0, vi (gxs G (Int32.toNatClampNeg (x3 + 1)))] μ (RI fun v1 μ1 =>
    (vp_in (x3 + 1) (gL G) ∧
     (CS G m_Mo_fault [vr 7 0, vi (gxs G (Int32.toNatClampNeg (x3 + 1)))] μ1 (RI fun v2 μ2 =>
      (if v1 = v2 then
       SS G m_La_law 1298 [vr 57 0, vr 6 0, vr 7 0, vi x3] [] μ2 (RI K)
      else
       (((0 : Int32) = 0 ∨ (0 : Int32) = 1) ∧ K 0 μ2))))))))) :
  SS G m_La_law 506 [vr 57 0, vr 6 0, vr 7 0, vi x3] [] μ (RI K) :=
  wp_s (M := m_La_law) (lk := lk_La) (tb := tb_La_law_506) (cu := [(18, [true, true, true, true]), (212, [true, true, true, true]), (245, [true, true, true, true]), (288, [true, true, true, true]), (321, [true, true, true, true]), (344, [true, true, true, true]), (407, [true, true, true, true]), (430, [true, true, true, true]), (463, [true, true, true, true]), (506, [true, true, true, true]), (529, [true, true, true, true]), (552, [true, true, true, true]), (585, [true, true, true, true]), (608, [true, true, true, true]), (641, [true, true, true, true]), (674, [true, true, true, true]), (707, [true, true, true, true]), (750, [true, true, true, true]), (763, [true, true, true, true]), (786, [true, true, true, true]), (809, [true, true, true, true]), (832, [true, true, true, true]), (865, [true, true, true, true]), (888, [true, true, true, true]), (921, [true, true, true, true]), (944, [true, true, true, true]), (957, [true, true, true, true]), (990, [true, true, true, true]), (1003, [true, true, true, true]), (1026, [true, true, true, true]), (1049, [true, true, true, true]), (1072, [true, true, true, true]), (1105, [true, true, true, true]), (1128, [true, true, true, true]), (1151, [true, true, true, true]), (1184, [true, true, true, true]), (1197, [true, true, true, true]), (1211, [true, true, true, true]), (1225, [true, true, true, true]), (1248, [true, true, true, true]), (1261, [true, true, true, true]), (1284, [true, true, true, true]), (1298, [true, true, true, true])]) lk_La_ok (by decide +kernel) 20 true _ _ _ _ h
def tb_La_law_529 : List En := [e0 529 (.aload_n 1) 1, e0 530 (.aload_n 0) 1, e0 531 (.iload_n 3) 1, eC 532 (.iconst 1) 1 1, e0 533 .iadd 1, e0 534 .iaload 1, eT 535 (.invokevirtual 53) 3 18, e0 538 (.aload_n 2) 1, e0 539 (.aload_n 0) 1, e0 540 (.iload_n 3) 1, eC 541 (.iconst 1) 1 1, e0 542 .iadd 1, e0 543 .iaload 1, eT 544 (.invokevirtual 56) 3 19, eT 547 (.if_icmp .eq 751) 3 1298, eC 550 (.iconst 0) 1 0, e0 551 .ireturn 1]
set_option maxRecDepth 100000 in
theorem b_La_law_529 {G : Ge} (x3 : Int32) {μ : Mm} {K : Int32 → Mm → Prop} (h :
  (vp_in (x3 + 1) (gL G) ∧
   (CS G m_Cs_street [vr 6 0, vi (gxs G (Int32.toNatClampNeg (x3 + 1)))] μ (RI fun v1 μ1 =>
    (vp_in (x3 + 1) (gL G) ∧
     (CS G m_Mo_street [vr 7 0, vi (gxs G (Int32.toNatClampNeg (x3 + 1)))] μ1 (RI fun v2 μ2 =>
      (if v1 = v2 then
       SS G m_La_law 1298 [vr 57 0, vr 6 0, vr 7 0, vi x3] [] μ2 (RI K)
      else
       (((0 : Int32) = 0 ∨ (0 : Int32) = 1) ∧ K 0 μ2))))))))) :
  SS G m_La_law 529 [vr 57 0, vr 6 0, vr 7 0, vi x3] [] μ (RI K) :=
  wp_s (M := m_La_law) (lk := lk_La) (tb := tb_La_law_529) (cu := [(18, [true, true, true, true]), (212, [true, true, true, true]), (245, [true, true, true, true]), (288, [true, true, true, true]), (321, [true, true, true, true]), (344, [true, true, true, true]), (407, [true, true, true, true]), (430, [true, true, true, true]), (463, [true, true, true, true]), (506, [true, true, true, true]), (529, [true, true, true, true]), (552, [true, true, true, true]), (585, [true, true, true, true]), (608, [true, true, true, true]), (641, [true, true, true, true]), (674, [true, true, true, true]), (707, [true, true, true, true]), (750, [true, true, true, true]), (763, [true, true, true, true]), (786, [true, true, true, true]), (809, [true, true, true, true]), (832, [true, true, true, true]), (865, [true, true, true, true]), (888, [true, true, true, true]), (921, [true, true, true, true]), (944, [true, true, true, true]), (957, [true, true, true, true]), (990, [true, true, true, true]), (1003, [true, true, true, true]), (1026, [true, true, true, true]), (1049, [true, true, true, true]), (1072, [true, true, true, true]), (1105, [true, true, true, true]), (1128, [true, true, true, true]), (1151, [true, true, true, true]), (1184, [true, true, true, true]), (1197, [true, true, true, true]), (1211, [true, true, true, true]), (1225, [true, true, true, true]), (1248, [true, true, true, true]), (1261, [true, true, true, true]), (1284, [true, true, true, true]), (1298, [true, true, true, true])]) lk_La_ok (by decide +kernel) 20 true _ _ _ _ h
def tb_La_law_552 : List En := [e0 552 (.aload_n 1) 1, e0 553 (.aload_n 0) 1, e0 554 (.iload_n 3) 1, eC 555 (.iconst 1) 1 1, e0 556 .iadd 1, e0 557 .iaload 1, e0 558 (.aload_n 0) 1, e0 559 (.iload_n 3) 1, eC 560 (.iconst 2) 1 2, e0 561 .iadd 1, e0 562 .iaload 1, eT 563 (.invokevirtual 57) 3 20, e0 566 (.aload_n 2) 1, e0 567 (.aload_n 0) 1, e0 568 (.iload_n 3) 1, eC 569 (.iconst 1) 1 1, e0 570 .iadd 1, e0 571 .iaload 1, e0 572 (.aload_n 0) 1, e0 573 (.iload_n 3) 1, eC 574 (.iconst 2) 1 2, e0 575 .iadd 1, e0 576 .iaload 1, eT 577 (.invokevirtual 60) 3 21, eT 580 (.if_icmp .eq 718) 3 1298, eC 583 (.iconst 0) 1 0, e0 584 .ireturn 1]
set_option maxRecDepth 100000 in
theorem b_La_law_552 {G : Ge} (x3 : Int32) {μ : Mm} {K : Int32 → Mm → Prop} (h :
  (vp_in (x3 + 1) (gL G) ∧
   (vp_in (x3 + 2) (gL G) ∧
    (CS G m_Cs_house [vr 6 0, vi (gxs G (Int32.toNatClampNeg (x3 + 1))), vi (gxs G (Int32.toNatClampNeg (x3 + 2)))] μ (RI fun v1 μ1 =>
     (vp_in (x3 + 1) (gL G) ∧
      (vp_in (x3 + 2) (gL G) ∧
       (CS G m_Mo_house [vr 7 0, vi (gxs G (Int32.toNatClampNeg (x3 + 1))), vi (gxs G (Int32.toNatClampNeg (x3 + 2)))] μ1 (RI fun v2 μ2 =>
        (if v1 = v2 then
         SS G m_La_law 1298 [vr 57 0, vr 6 0, vr 7 0, vi x3] [] μ2 (RI K)
        else
         (((0 : Int32) = 0 ∨ (0 : Int32) = 1) ∧ K 0 μ2))))))))))) :
  SS G m_La_law 552 [vr 57 0, vr 6 0, vr 7 0, vi x3] [] μ (RI K) :=
  wp_s (M := m_La_law) (lk := lk_La) (tb := tb_La_law_552) (cu := [(18, [true, true, true, true]), (212, [true, true, true, true]), (245, [true, true, true, true]), (288, [true, true, true, true]), (321, [true, true, true, true]), (344, [true, true, true, true]), (407, [true, true, true, true]), (430, [true, true, true, true]), (463, [true, true, true, true]), (506, [true, true, true, true]), (529, [true, true, true, true]), (552, [true, true, true, true]), (585, [true, true, true, true]), (608, [true, true, true, true]), (641, [true, true, true, true]), (674, [true, true, true, true]), (707, [true, true, true, true]), (750, [true, true, true, true]), (763, [true, true, true, true]), (786, [true, true, true, true]), (809, [true, true, true, true]), (832, [true, true, true, true]), (865, [true, true, true, true]), (888, [true, true, true, true]), (921, [true, true, true, true]), (944, [true, true, true, true]), (957, [true, true, true, true]), (990, [true, true, true, true]), (1003, [true, true, true, true]), (1026, [true, true, true, true]), (1049, [true, true, true, true]), (1072, [true, true, true, true]), (1105, [true, true, true, true]), (1128, [true, true, true, true]), (1151, [true, true, true, true]), (1184, [true, true, true, true]), (1197, [true, true, true, true]), (1211, [true, true, true, true]), (1225, [true, true, true, true]), (1248, [true, true, true, true]), (1261, [true, true, true, true]), (1284, [true, true, true, true]), (1298, [true, true, true, true])]) lk_La_ok (by decide +kernel) 30 true _ _ _ _ h
def tb_La_law_585 : List En := [e0 585 (.aload_n 1) 1, e0 586 (.aload_n 0) 1, e0 587 (.iload_n 3) 1, eC 588 (.iconst 1) 1 1, e0 589 .iadd 1, e0 590 .iaload 1, eT 591 (.invokevirtual 61) 3 22, e0 594 (.aload_n 2) 1, e0 595 (.aload_n 0) 1, e0 596 (.iload_n 3) 1, eC 597 (.iconst 1) 1 1, e0 598 .iadd 1, e0 599 .iaload 1, eT 600 (.invokevirtual 64) 3 23, eT 603 (.if_icmp .eq 695) 3 1298, eC 606 (.iconst 0) 1 0, e0 607 .ireturn 1]
set_option maxRecDepth 100000 in
theorem b_La_law_585 {G : Ge} (x3 : Int32) {μ : Mm} {K : Int32 → Mm → Prop} (h :
  (vp_in (x3 + 1) (gL G) ∧
   (CS G m_Cs_cold [vr 6 0, vi (gxs G (Int32.toNatClampNeg (x3 + 1)))] μ (RI fun v1 μ1 =>
    (vp_in (x3 + 1) (gL G) ∧
     (CS G m_Mo_cold [vr 7 0, vi (gxs G (Int32.toNatClampNeg (x3 + 1)))] μ1 (RI fun v2 μ2 =>
      (if v1 = v2 then
       SS G m_La_law 1298 [vr 57 0, vr 6 0, vr 7 0, vi x3] [] μ2 (RI K)
      else
       (((0 : Int32) = 0 ∨ (0 : Int32) = 1) ∧ K 0 μ2))))))))) :
  SS G m_La_law 585 [vr 57 0, vr 6 0, vr 7 0, vi x3] [] μ (RI K) :=
  wp_s (M := m_La_law) (lk := lk_La) (tb := tb_La_law_585) (cu := [(18, [true, true, true, true]), (212, [true, true, true, true]), (245, [true, true, true, true]), (288, [true, true, true, true]), (321, [true, true, true, true]), (344, [true, true, true, true]), (407, [true, true, true, true]), (430, [true, true, true, true]), (463, [true, true, true, true]), (506, [true, true, true, true]), (529, [true, true, true, true]), (552, [true, true, true, true]), (585, [true, true, true, true]), (608, [true, true, true, true]), (641, [true, true, true, true]), (674, [true, true, true, true]), (707, [true, true, true, true]), (750, [true, true, true, true]), (763, [true, true, true, true]), (786, [true, true, true, true]), (809, [true, true, true, true]), (832, [true, true, true, true]), (865, [true, true, true, true]), (888, [true, true, true, true]), (921, [true, true, true, true]), (944, [true, true, true, true]), (957, [true, true, true, true]), (990, [true, true, true, true]), (1003, [true, true, true, true]), (1026, [true, true, true, true]), (1049, [true, true, true, true]), (1072, [true, true, true, true]), (1105, [true, true, true, true]), (1128, [true, true, true, true]), (1151, [true, true, true, true]), (1184, [true, true, true, true]), (1197, [true, true, true, true]), (1211, [true, true, true, true]), (1225, [true, true, true, true]), (1248, [true, true, true, true]), (1261, [true, true, true, true]), (1284, [true, true, true, true]), (1298, [true, true, true, true])]) lk_La_ok (by decide +kernel) 20 true _ _ _ _ h
def tb_La_law_608 : List En := [e0 608 (.aload_n 1) 1, e0 609 (.aload_n 0) 1, e0 610 (.iload_n 3) 1, eC 611 (.iconst 1) 1 1, e0 612 .iadd 1, e0 613 .iaload 1, e0 614 (.aload_n 0) 1, e0 615 (.iload_n 3) 1, eC 616 (.iconst 2) 1 2, e0 617 .iadd 1, e0 618 .iaload 1, eT 619 (.invokevirtual 65) 3 24, e0 622 (.aload_n 2) 1, e0 623 (.aload_n 0) 1, e0 624 (.iload_n 3) 1, eC 625 (.iconst 1) 1 1, e0 626 .iadd 1, e0 627 .iaload 1, e0 628 (.aload_n 0) 1, e0 629 (.iload_n 3) 1, eC 630 (.iconst 2) 1 2, e0 631 .iadd 1, e0 632 .iaload 1, eT 633 (.invokevirtual 68) 3 25, eT 636 (.if_icmp .eq 662) 3 1298, eC 639 (.iconst 0) 1 0, e0 640 .ireturn 1]
set_option maxRecDepth 100000 in
theorem b_La_law_608 {G : Ge} (x3 : Int32) {μ : Mm} {K : Int32 → Mm → Prop} (h :
  (vp_in (x3 + 1) (gL G) ∧
   (vp_in (x3 + 2) (gL G) ∧
    (CS G m_Cs_mark [vr 6 0, vi (gxs G (Int32.toNatClampNeg (x3 + 1))), vi (gxs G (Int32.toNatClampNeg (x3 + 2)))] μ (RI fun v1 μ1 =>
     (vp_in (x3 + 1) (gL G) ∧
      (vp_in (x3 + 2) (gL G) ∧
       (CS G m_Mo_mark [vr 7 0, vi (gxs G (Int32.toNatClampNeg (x3 + 1))), vi (gxs G (Int32.toNatClampNeg (x3 + 2)))] μ1 (RI fun v2 μ2 =>
        (if v1 = v2 then
         SS G m_La_law 1298 [vr 57 0, vr 6 0, vr 7 0, vi x3] [] μ2 (RI K)
        else
         (((0 : Int32) = 0 ∨ (0 : Int32) = 1) ∧ K 0 μ2))))))))))) :
  SS G m_La_law 608 [vr 57 0, vr 6 0, vr 7 0, vi x3] [] μ (RI K) :=
  wp_s (M := m_La_law) (lk := lk_La) (tb := tb_La_law_608) (cu := [(18, [true, true, true, true]), (212, [true, true, true, true]), (245, [true, true, true, true]), (288, [true, true, true, true]), (321, [true, true, true, true]), (344, [true, true, true, true]), (407, [true, true, true, true]), (430, [true, true, true, true]), (463, [true, true, true, true]), (506, [true, true, true, true]), (529, [true, true, true, true]), (552, [true, true, true, true]), (585, [true, true, true, true]), (608, [true, true, true, true]), (641, [true, true, true, true]), (674, [true, true, true, true]), (707, [true, true, true, true]), (750, [true, true, true, true]), (763, [true, true, true, true]), (786, [true, true, true, true]), (809, [true, true, true, true]), (832, [true, true, true, true]), (865, [true, true, true, true]), (888, [true, true, true, true]), (921, [true, true, true, true]), (944, [true, true, true, true]), (957, [true, true, true, true]), (990, [true, true, true, true]), (1003, [true, true, true, true]), (1026, [true, true, true, true]), (1049, [true, true, true, true]), (1072, [true, true, true, true]), (1105, [true, true, true, true]), (1128, [true, true, true, true]), (1151, [true, true, true, true]), (1184, [true, true, true, true]), (1197, [true, true, true, true]), (1211, [true, true, true, true]), (1225, [true, true, true, true]), (1248, [true, true, true, true]), (1261, [true, true, true, true]), (1284, [true, true, true, true]), (1298, [true, true, true, true])]) lk_La_ok (by decide +kernel) 30 true _ _ _ _ h
def tb_La_law_641 : List En := [e0 641 (.aload_n 1) 1, e0 642 (.aload_n 0) 1, e0 643 (.iload_n 3) 1, eC 644 (.iconst 1) 1 1, e0 645 .iadd 1, e0 646 .iaload 1, e0 647 (.aload_n 0) 1, e0 648 (.iload_n 3) 1, eC 649 (.iconst 2) 1 2, e0 650 .iadd 1, e0 651 .iaload 1, eT 652 (.invokevirtual 69) 3 26, e0 655 (.aload_n 2) 1, e0 656 (.aload_n 0) 1, e0 657 (.iload_n 3) 1, eC 658 (.iconst 1) 1 1, e0 659 .iadd 1, e0 660 .iaload 1, e0 661 (.aload_n 0) 1, e0 662 (.iload_n 3) 1, eC 663 (.iconst 2) 1 2, e0 664 .iadd 1, e0 665 .iaload 1, eT 666 (.invokevirtual 72) 3 27, eT 669 (.if_icmp .eq 629) 3 1298, eC 672 (.iconst 0) 1 0, e0 673 .ireturn 1]
set_option maxRecDepth 100000 in
theorem b_La_law_641 {G : Ge} (x3 : Int32) {μ : Mm} {K : Int32 → Mm → Prop} (h :
  (vp_in (x3 + 1) (gL G) ∧
   (vp_in (x3 + 2) (gL G) ∧
    (CS G m_Cs_wind [vr 6 0, vi (gxs G (Int32.toNatClampNeg (x3 + 1))), vi (gxs G (Int32.toNatClampNeg (x3 + 2)))] μ (RI fun v1 μ1 =>
     (vp_in (x3 + 1) (gL G) ∧
      (vp_in (x3 + 2) (gL G) ∧
       (CS G m_Mo_wind [vr 7 0, vi (gxs G (Int32.toNatClampNeg (x3 + 1))), vi (gxs G (Int32.toNatClampNeg (x3 + 2)))] μ1 (RI fun v2 μ2 =>
        (if v1 = v2 then
         SS G m_La_law 1298 [vr 57 0, vr 6 0, vr 7 0, vi x3] [] μ2 (RI K)
        else
         (((0 : Int32) = 0 ∨ (0 : Int32) = 1) ∧ K 0 μ2))))))))))) :
  SS G m_La_law 641 [vr 57 0, vr 6 0, vr 7 0, vi x3] [] μ (RI K) :=
  wp_s (M := m_La_law) (lk := lk_La) (tb := tb_La_law_641) (cu := [(18, [true, true, true, true]), (212, [true, true, true, true]), (245, [true, true, true, true]), (288, [true, true, true, true]), (321, [true, true, true, true]), (344, [true, true, true, true]), (407, [true, true, true, true]), (430, [true, true, true, true]), (463, [true, true, true, true]), (506, [true, true, true, true]), (529, [true, true, true, true]), (552, [true, true, true, true]), (585, [true, true, true, true]), (608, [true, true, true, true]), (641, [true, true, true, true]), (674, [true, true, true, true]), (707, [true, true, true, true]), (750, [true, true, true, true]), (763, [true, true, true, true]), (786, [true, true, true, true]), (809, [true, true, true, true]), (832, [true, true, true, true]), (865, [true, true, true, true]), (888, [true, true, true, true]), (921, [true, true, true, true]), (944, [true, true, true, true]), (957, [true, true, true, true]), (990, [true, true, true, true]), (1003, [true, true, true, true]), (1026, [true, true, true, true]), (1049, [true, true, true, true]), (1072, [true, true, true, true]), (1105, [true, true, true, true]), (1128, [true, true, true, true]), (1151, [true, true, true, true]), (1184, [true, true, true, true]), (1197, [true, true, true, true]), (1211, [true, true, true, true]), (1225, [true, true, true, true]), (1248, [true, true, true, true]), (1261, [true, true, true, true]), (1284, [true, true, true, true]), (1298, [true, true, true, true])]) lk_La_ok (by decide +kernel) 30 true _ _ _ _ h
def tb_La_law_674 : List En := [e0 674 (.aload_n 1) 1, e0 675 (.aload_n 0) 1, e0 676 (.iload_n 3) 1, eC 677 (.iconst 1) 1 1, e0 678 .iadd 1, e0 679 .iaload 1, e0 680 (.aload_n 0) 1, e0 681 (.iload_n 3) 1, eC 682 (.iconst 2) 1 2, e0 683 .iadd 1, e0 684 .iaload 1, eT 685 (.invokevirtual 73) 3 28, e0 688 (.aload_n 2) 1, e0 689 (.aload_n 0) 1, e0 690 (.iload_n 3) 1, eC 691 (.iconst 1) 1 1, e0 692 .iadd 1, e0 693 .iaload 1, e0 694 (.aload_n 0) 1, e0 695 (.iload_n 3) 1, eC 696 (.iconst 2) 1 2, e0 697 .iadd 1, e0 698 .iaload 1, eT 699 (.invokevirtual 76) 3 29, eT 702 (.if_icmp .eq 596) 3 1298, eC 705 (.iconst 0) 1 0, e0 706 .ireturn 1]
set_option maxRecDepth 100000 in
theorem b_La_law_674 {G : Ge} (x3 : Int32) {μ : Mm} {K : Int32 → Mm → Prop} (h :
  (vp_in (x3 + 1) (gL G) ∧
   (vp_in (x3 + 2) (gL G) ∧
    (CS G m_Cs_bear [vr 6 0, vi (gxs G (Int32.toNatClampNeg (x3 + 1))), vi (gxs G (Int32.toNatClampNeg (x3 + 2)))] μ (RI fun v1 μ1 =>
     (vp_in (x3 + 1) (gL G) ∧
      (vp_in (x3 + 2) (gL G) ∧
       (CS G m_Mo_bear [vr 7 0, vi (gxs G (Int32.toNatClampNeg (x3 + 1))), vi (gxs G (Int32.toNatClampNeg (x3 + 2)))] μ1 (RI fun v2 μ2 =>
        (if v1 = v2 then
         SS G m_La_law 1298 [vr 57 0, vr 6 0, vr 7 0, vi x3] [] μ2 (RI K)
        else
         (((0 : Int32) = 0 ∨ (0 : Int32) = 1) ∧ K 0 μ2))))))))))) :
  SS G m_La_law 674 [vr 57 0, vr 6 0, vr 7 0, vi x3] [] μ (RI K) :=
  wp_s (M := m_La_law) (lk := lk_La) (tb := tb_La_law_674) (cu := [(18, [true, true, true, true]), (212, [true, true, true, true]), (245, [true, true, true, true]), (288, [true, true, true, true]), (321, [true, true, true, true]), (344, [true, true, true, true]), (407, [true, true, true, true]), (430, [true, true, true, true]), (463, [true, true, true, true]), (506, [true, true, true, true]), (529, [true, true, true, true]), (552, [true, true, true, true]), (585, [true, true, true, true]), (608, [true, true, true, true]), (641, [true, true, true, true]), (674, [true, true, true, true]), (707, [true, true, true, true]), (750, [true, true, true, true]), (763, [true, true, true, true]), (786, [true, true, true, true]), (809, [true, true, true, true]), (832, [true, true, true, true]), (865, [true, true, true, true]), (888, [true, true, true, true]), (921, [true, true, true, true]), (944, [true, true, true, true]), (957, [true, true, true, true]), (990, [true, true, true, true]), (1003, [true, true, true, true]), (1026, [true, true, true, true]), (1049, [true, true, true, true]), (1072, [true, true, true, true]), (1105, [true, true, true, true]), (1128, [true, true, true, true]), (1151, [true, true, true, true]), (1184, [true, true, true, true]), (1197, [true, true, true, true]), (1211, [true, true, true, true]), (1225, [true, true, true, true]), (1248, [true, true, true, true]), (1261, [true, true, true, true]), (1284, [true, true, true, true]), (1298, [true, true, true, true])]) lk_La_ok (by decide +kernel) 30 true _ _ _ _ h
def tb_La_law_707 : List En := [e0 707 (.aload_n 1) 1, e0 708 (.aload_n 0) 1, e0 709 (.iload_n 3) 1, eC 710 (.iconst 1) 1 1, e0 711 .iadd 1, e0 712 .iaload 1, e0 713 (.aload_n 0) 1, e0 714 (.iload_n 3) 1, eC 715 (.iconst 2) 1 2, e0 716 .iadd 1, e0 717 .iaload 1, e0 718 (.aload_n 0) 1, e0 719 (.iload_n 3) 1, eC 720 (.iconst 3) 1 3, e0 721 .iadd 1, e0 722 .iaload 1, eT 723 (.invokevirtual 77) 3 30, e0 726 (.aload_n 2) 1, e0 727 (.aload_n 0) 1, e0 728 (.iload_n 3) 1, eC 729 (.iconst 1) 1 1, e0 730 .iadd 1, e0 731 .iaload 1, e0 732 (.aload_n 0) 1, e0 733 (.iload_n 3) 1, eC 734 (.iconst 2) 1 2, e0 735 .iadd 1, e0 736 .iaload 1, e0 737 (.aload_n 0) 1, e0 738 (.iload_n 3) 1, eC 739 (.iconst 3) 1 3, e0 740 .iadd 1, e0 741 .iaload 1, eT 742 (.invokevirtual 80) 3 31, eT 745 (.if_icmp .eq 553) 3 1298, eC 748 (.iconst 0) 1 0, e0 749 .ireturn 1]
set_option maxRecDepth 100000 in
theorem b_La_law_707 {G : Ge} (x3 : Int32) {μ : Mm} {K : Int32 → Mm → Prop} (h :
  (vp_in (x3 + 1) (gL G) ∧
   (vp_in (x3 + 2) (gL G) ∧
    (vp_in (x3 + 3) (gL G) ∧
     (CS G m_Cs_sell [vr 6 0, vi (gxs G (Int32.toNatClampNeg (x3 + 1))), vi (gxs G (Int32.toNatClampNeg (x3 + 2))), vi (gxs G (Int32.toNatClampNeg (x3 + 3)))] μ (RI fun v1 μ1 =>
      (vp_in (x3 + 1) (gL G) ∧
       (vp_in (x3 + 2) (gL G) ∧
        (vp_in (x3 + 3) (gL G) ∧
         (CS G m_Mo_sell [vr 7 0, vi (gxs G (Int32.toNatClampNeg (x3 + 1))), vi (gxs G (Int32.toNatClampNeg (x3 + 2))), vi (gxs G (Int32.toNatClampNeg (x3 + 3)))] μ1 (RI fun v2 μ2 =>
          (if v1 = v2 then
           SS G m_La_law 1298 [vr 57 0, vr 6 0, vr 7 0, vi x3] [] μ2 (RI K)
          else
           (((0 : Int32) = 0 ∨ (0 : Int32) = 1) ∧ K 0 μ2))))))))))))) :
  SS G m_La_law 707 [vr 57 0, vr 6 0, vr 7 0, vi x3] [] μ (RI K) :=
  wp_s (M := m_La_law) (lk := lk_La) (tb := tb_La_law_707) (cu := [(18, [true, true, true, true]), (212, [true, true, true, true]), (245, [true, true, true, true]), (288, [true, true, true, true]), (321, [true, true, true, true]), (344, [true, true, true, true]), (407, [true, true, true, true]), (430, [true, true, true, true]), (463, [true, true, true, true]), (506, [true, true, true, true]), (529, [true, true, true, true]), (552, [true, true, true, true]), (585, [true, true, true, true]), (608, [true, true, true, true]), (641, [true, true, true, true]), (674, [true, true, true, true]), (707, [true, true, true, true]), (750, [true, true, true, true]), (763, [true, true, true, true]), (786, [true, true, true, true]), (809, [true, true, true, true]), (832, [true, true, true, true]), (865, [true, true, true, true]), (888, [true, true, true, true]), (921, [true, true, true, true]), (944, [true, true, true, true]), (957, [true, true, true, true]), (990, [true, true, true, true]), (1003, [true, true, true, true]), (1026, [true, true, true, true]), (1049, [true, true, true, true]), (1072, [true, true, true, true]), (1105, [true, true, true, true]), (1128, [true, true, true, true]), (1151, [true, true, true, true]), (1184, [true, true, true, true]), (1197, [true, true, true, true]), (1211, [true, true, true, true]), (1225, [true, true, true, true]), (1248, [true, true, true, true]), (1261, [true, true, true, true]), (1284, [true, true, true, true]), (1298, [true, true, true, true])]) lk_La_ok (by decide +kernel) 40 true _ _ _ _ h
def tb_La_law_750 : List En := [e0 750 (.aload_n 1) 1, eT 751 (.invokevirtual 81) 3 32, e0 754 (.aload_n 2) 1, eT 755 (.invokevirtual 85) 3 33, eT 758 (.if_icmp .eq 540) 3 1298, eC 761 (.iconst 0) 1 0, e0 762 .ireturn 1]
set_option maxRecDepth 100000 in
theorem b_La_law_750 {G : Ge} (x3 : Int32) {μ : Mm} {K : Int32 → Mm → Prop} (h :
  (CS G m_Cs_night [vr 6 0] μ (RI fun v1 μ1 =>
   (CS G m_Mo_night [vr 7 0] μ1 (RI fun v2 μ2 =>
    (if v1 = v2 then
     SS G m_La_law 1298 [vr 57 0, vr 6 0, vr 7 0, vi x3] [] μ2 (RI K)
    else
     (((0 : Int32) = 0 ∨ (0 : Int32) = 1) ∧ K 0 μ2))))))) :
  SS G m_La_law 750 [vr 57 0, vr 6 0, vr 7 0, vi x3] [] μ (RI K) :=
  wp_s (M := m_La_law) (lk := lk_La) (tb := tb_La_law_750) (cu := [(18, [true, true, true, true]), (212, [true, true, true, true]), (245, [true, true, true, true]), (288, [true, true, true, true]), (321, [true, true, true, true]), (344, [true, true, true, true]), (407, [true, true, true, true]), (430, [true, true, true, true]), (463, [true, true, true, true]), (506, [true, true, true, true]), (529, [true, true, true, true]), (552, [true, true, true, true]), (585, [true, true, true, true]), (608, [true, true, true, true]), (641, [true, true, true, true]), (674, [true, true, true, true]), (707, [true, true, true, true]), (750, [true, true, true, true]), (763, [true, true, true, true]), (786, [true, true, true, true]), (809, [true, true, true, true]), (832, [true, true, true, true]), (865, [true, true, true, true]), (888, [true, true, true, true]), (921, [true, true, true, true]), (944, [true, true, true, true]), (957, [true, true, true, true]), (990, [true, true, true, true]), (1003, [true, true, true, true]), (1026, [true, true, true, true]), (1049, [true, true, true, true]), (1072, [true, true, true, true]), (1105, [true, true, true, true]), (1128, [true, true, true, true]), (1151, [true, true, true, true]), (1184, [true, true, true, true]), (1197, [true, true, true, true]), (1211, [true, true, true, true]), (1225, [true, true, true, true]), (1248, [true, true, true, true]), (1261, [true, true, true, true]), (1284, [true, true, true, true]), (1298, [true, true, true, true])]) lk_La_ok (by decide +kernel) 10 true _ _ _ _ h
def tb_La_law_763 : List En := [e0 763 (.aload_n 1) 1, e0 764 (.aload_n 0) 1, e0 765 (.iload_n 3) 1, eC 766 (.iconst 1) 1 1, e0 767 .iadd 1, e0 768 .iaload 1, eT 769 (.invokevirtual 86) 3 34, e0 772 (.aload_n 2) 1, e0 773 (.aload_n 0) 1, e0 774 (.iload_n 3) 1, eC 775 (.iconst 1) 1 1, e0 776 .iadd 1, e0 777 .iaload 1, eT 778 (.invokevirtual 89) 3 35, eT 781 (.if_icmp .eq 517) 3 1298, eC 784 (.iconst 0) 1 0, e0 785 .ireturn 1]
set_option maxRecDepth 100000 in
theorem b_La_law_763 {G : Ge} (x3 : Int32) {μ : Mm} {K : Int32 → Mm → Prop} (h :
  (vp_in (x3 + 1) (gL G) ∧
   (CS G m_Cs_undo [vr 6 0, vi (gxs G (Int32.toNatClampNeg (x3 + 1)))] μ (RI fun v1 μ1 =>
    (vp_in (x3 + 1) (gL G) ∧
     (CS G m_Mo_undo [vr 7 0, vi (gxs G (Int32.toNatClampNeg (x3 + 1)))] μ1 (RI fun v2 μ2 =>
      (if v1 = v2 then
       SS G m_La_law 1298 [vr 57 0, vr 6 0, vr 7 0, vi x3] [] μ2 (RI K)
      else
       (((0 : Int32) = 0 ∨ (0 : Int32) = 1) ∧ K 0 μ2))))))))) :
  SS G m_La_law 763 [vr 57 0, vr 6 0, vr 7 0, vi x3] [] μ (RI K) :=
  wp_s (M := m_La_law) (lk := lk_La) (tb := tb_La_law_763) (cu := [(18, [true, true, true, true]), (212, [true, true, true, true]), (245, [true, true, true, true]), (288, [true, true, true, true]), (321, [true, true, true, true]), (344, [true, true, true, true]), (407, [true, true, true, true]), (430, [true, true, true, true]), (463, [true, true, true, true]), (506, [true, true, true, true]), (529, [true, true, true, true]), (552, [true, true, true, true]), (585, [true, true, true, true]), (608, [true, true, true, true]), (641, [true, true, true, true]), (674, [true, true, true, true]), (707, [true, true, true, true]), (750, [true, true, true, true]), (763, [true, true, true, true]), (786, [true, true, true, true]), (809, [true, true, true, true]), (832, [true, true, true, true]), (865, [true, true, true, true]), (888, [true, true, true, true]), (921, [true, true, true, true]), (944, [true, true, true, true]), (957, [true, true, true, true]), (990, [true, true, true, true]), (1003, [true, true, true, true]), (1026, [true, true, true, true]), (1049, [true, true, true, true]), (1072, [true, true, true, true]), (1105, [true, true, true, true]), (1128, [true, true, true, true]), (1151, [true, true, true, true]), (1184, [true, true, true, true]), (1197, [true, true, true, true]), (1211, [true, true, true, true]), (1225, [true, true, true, true]), (1248, [true, true, true, true]), (1261, [true, true, true, true]), (1284, [true, true, true, true]), (1298, [true, true, true, true])]) lk_La_ok (by decide +kernel) 20 true _ _ _ _ h
def tb_La_law_786 : List En := [e0 786 (.aload_n 1) 1, e0 787 (.aload_n 0) 1, e0 788 (.iload_n 3) 1, eC 789 (.iconst 1) 1 1, e0 790 .iadd 1, e0 791 .iaload 1, eT 792 (.invokevirtual 90) 3 36, e0 795 (.aload_n 2) 1, e0 796 (.aload_n 0) 1, e0 797 (.iload_n 3) 1, eC 798 (.iconst 1) 1 1, e0 799 .iadd 1, e0 800 .iaload 1, eT 801 (.invokevirtual 93) 3 37, eT 804 (.if_icmp .eq 494) 3 1298, eC 807 (.iconst 0) 1 0, e0 808 .ireturn 1]
set_option maxRecDepth 100000 in
theorem b_La_law_786 {G : Ge} (x3 : Int32) {μ : Mm} {K : Int32 → Mm → Prop} (h :
  (vp_in (x3 + 1) (gL G) ∧
   (CS G m_Cs_keep [vr 6 0, vi (gxs G (Int32.toNatClampNeg (x3 + 1)))] μ (RI fun v1 μ1 =>
    (vp_in (x3 + 1) (gL G) ∧
     (CS G m_Mo_keep [vr 7 0, vi (gxs G (Int32.toNatClampNeg (x3 + 1)))] μ1 (RI fun v2 μ2 =>
      (if v1 = v2 then
       SS G m_La_law 1298 [vr 57 0, vr 6 0, vr 7 0, vi x3] [] μ2 (RI K)
      else
       (((0 : Int32) = 0 ∨ (0 : Int32) = 1) ∧ K 0 μ2))))))))) :
  SS G m_La_law 786 [vr 57 0, vr 6 0, vr 7 0, vi x3] [] μ (RI K) :=
  wp_s (M := m_La_law) (lk := lk_La) (tb := tb_La_law_786) (cu := [(18, [true, true, true, true]), (212, [true, true, true, true]), (245, [true, true, true, true]), (288, [true, true, true, true]), (321, [true, true, true, true]), (344, [true, true, true, true]), (407, [true, true, true, true]), (430, [true, true, true, true]), (463, [true, true, true, true]), (506, [true, true, true, true]), (529, [true, true, true, true]), (552, [true, true, true, true]), (585, [true, true, true, true]), (608, [true, true, true, true]), (641, [true, true, true, true]), (674, [true, true, true, true]), (707, [true, true, true, true]), (750, [true, true, true, true]), (763, [true, true, true, true]), (786, [true, true, true, true]), (809, [true, true, true, true]), (832, [true, true, true, true]), (865, [true, true, true, true]), (888, [true, true, true, true]), (921, [true, true, true, true]), (944, [true, true, true, true]), (957, [true, true, true, true]), (990, [true, true, true, true]), (1003, [true, true, true, true]), (1026, [true, true, true, true]), (1049, [true, true, true, true]), (1072, [true, true, true, true]), (1105, [true, true, true, true]), (1128, [true, true, true, true]), (1151, [true, true, true, true]), (1184, [true, true, true, true]), (1197, [true, true, true, true]), (1211, [true, true, true, true]), (1225, [true, true, true, true]), (1248, [true, true, true, true]), (1261, [true, true, true, true]), (1284, [true, true, true, true]), (1298, [true, true, true, true])]) lk_La_ok (by decide +kernel) 20 true _ _ _ _ h
def tb_La_law_809 : List En := [e0 809 (.aload_n 1) 1, e0 810 (.aload_n 0) 1, e0 811 (.iload_n 3) 1, eC 812 (.iconst 1) 1 1, e0 813 .iadd 1, e0 814 .iaload 1, eT 815 (.invokevirtual 94) 3 38, e0 818 (.aload_n 2) 1, e0 819 (.aload_n 0) 1, e0 820 (.iload_n 3) 1, eC 821 (.iconst 1) 1 1, e0 822 .iadd 1, e0 823 .iaload 1, eT 824 (.invokevirtual 97) 3 39, eT 827 (.if_icmp .eq 471) 3 1298, eC 830 (.iconst 0) 1 0, e0 831 .ireturn 1]
set_option maxRecDepth 100000 in
theorem b_La_law_809 {G : Ge} (x3 : Int32) {μ : Mm} {K : Int32 → Mm → Prop} (h :
  (vp_in (x3 + 1) (gL G) ∧
   (CS G m_Cs_on [vr 6 0, vi (gxs G (Int32.toNatClampNeg (x3 + 1)))] μ (RI fun v1 μ1 =>
    (vp_in (x3 + 1) (gL G) ∧
     (CS G m_Mo_on [vr 7 0, vi (gxs G (Int32.toNatClampNeg (x3 + 1)))] μ1 (RI fun v2 μ2 =>
      (if v1 = v2 then
       SS G m_La_law 1298 [vr 57 0, vr 6 0, vr 7 0, vi x3] [] μ2 (RI K)
      else
       (((0 : Int32) = 0 ∨ (0 : Int32) = 1) ∧ K 0 μ2))))))))) :
  SS G m_La_law 809 [vr 57 0, vr 6 0, vr 7 0, vi x3] [] μ (RI K) :=
  wp_s (M := m_La_law) (lk := lk_La) (tb := tb_La_law_809) (cu := [(18, [true, true, true, true]), (212, [true, true, true, true]), (245, [true, true, true, true]), (288, [true, true, true, true]), (321, [true, true, true, true]), (344, [true, true, true, true]), (407, [true, true, true, true]), (430, [true, true, true, true]), (463, [true, true, true, true]), (506, [true, true, true, true]), (529, [true, true, true, true]), (552, [true, true, true, true]), (585, [true, true, true, true]), (608, [true, true, true, true]), (641, [true, true, true, true]), (674, [true, true, true, true]), (707, [true, true, true, true]), (750, [true, true, true, true]), (763, [true, true, true, true]), (786, [true, true, true, true]), (809, [true, true, true, true]), (832, [true, true, true, true]), (865, [true, true, true, true]), (888, [true, true, true, true]), (921, [true, true, true, true]), (944, [true, true, true, true]), (957, [true, true, true, true]), (990, [true, true, true, true]), (1003, [true, true, true, true]), (1026, [true, true, true, true]), (1049, [true, true, true, true]), (1072, [true, true, true, true]), (1105, [true, true, true, true]), (1128, [true, true, true, true]), (1151, [true, true, true, true]), (1184, [true, true, true, true]), (1197, [true, true, true, true]), (1211, [true, true, true, true]), (1225, [true, true, true, true]), (1248, [true, true, true, true]), (1261, [true, true, true, true]), (1284, [true, true, true, true]), (1298, [true, true, true, true])]) lk_La_ok (by decide +kernel) 20 true _ _ _ _ h
def tb_La_law_832 : List En := [e0 832 (.aload_n 1) 1, e0 833 (.aload_n 0) 1, e0 834 (.iload_n 3) 1, eC 835 (.iconst 1) 1 1, e0 836 .iadd 1, e0 837 .iaload 1, e0 838 (.aload_n 0) 1, e0 839 (.iload_n 3) 1, eC 840 (.iconst 2) 1 2, e0 841 .iadd 1, e0 842 .iaload 1, eT 843 (.invokevirtual 98) 3 40, e0 846 (.aload_n 2) 1, e0 847 (.aload_n 0) 1, e0 848 (.iload_n 3) 1, eC 849 (.iconst 1) 1 1, e0 850 .iadd 1, e0 851 .iaload 1, e0 852 (.aload_n 0) 1, e0 853 (.iload_n 3) 1, eC 854 (.iconst 2) 1 2, e0 855 .iadd 1, e0 856 .iaload 1, eT 857 (.invokevirtual 101) 3 41, eT 860 (.if_icmp .eq 438) 3 1298, eC 863 (.iconst 0) 1 0, e0 864 .ireturn 1]
set_option maxRecDepth 100000 in
theorem b_La_law_832 {G : Ge} (x3 : Int32) {μ : Mm} {K : Int32 → Mm → Prop} (h :
  (vp_in (x3 + 1) (gL G) ∧
   (vp_in (x3 + 2) (gL G) ∧
    (CS G m_Cs_hurt [vr 6 0, vi (gxs G (Int32.toNatClampNeg (x3 + 1))), vi (gxs G (Int32.toNatClampNeg (x3 + 2)))] μ (RI fun v1 μ1 =>
     (vp_in (x3 + 1) (gL G) ∧
      (vp_in (x3 + 2) (gL G) ∧
       (CS G m_Mo_hurt [vr 7 0, vi (gxs G (Int32.toNatClampNeg (x3 + 1))), vi (gxs G (Int32.toNatClampNeg (x3 + 2)))] μ1 (RI fun v2 μ2 =>
        (if v1 = v2 then
         SS G m_La_law 1298 [vr 57 0, vr 6 0, vr 7 0, vi x3] [] μ2 (RI K)
        else
         (((0 : Int32) = 0 ∨ (0 : Int32) = 1) ∧ K 0 μ2))))))))))) :
  SS G m_La_law 832 [vr 57 0, vr 6 0, vr 7 0, vi x3] [] μ (RI K) :=
  wp_s (M := m_La_law) (lk := lk_La) (tb := tb_La_law_832) (cu := [(18, [true, true, true, true]), (212, [true, true, true, true]), (245, [true, true, true, true]), (288, [true, true, true, true]), (321, [true, true, true, true]), (344, [true, true, true, true]), (407, [true, true, true, true]), (430, [true, true, true, true]), (463, [true, true, true, true]), (506, [true, true, true, true]), (529, [true, true, true, true]), (552, [true, true, true, true]), (585, [true, true, true, true]), (608, [true, true, true, true]), (641, [true, true, true, true]), (674, [true, true, true, true]), (707, [true, true, true, true]), (750, [true, true, true, true]), (763, [true, true, true, true]), (786, [true, true, true, true]), (809, [true, true, true, true]), (832, [true, true, true, true]), (865, [true, true, true, true]), (888, [true, true, true, true]), (921, [true, true, true, true]), (944, [true, true, true, true]), (957, [true, true, true, true]), (990, [true, true, true, true]), (1003, [true, true, true, true]), (1026, [true, true, true, true]), (1049, [true, true, true, true]), (1072, [true, true, true, true]), (1105, [true, true, true, true]), (1128, [true, true, true, true]), (1151, [true, true, true, true]), (1184, [true, true, true, true]), (1197, [true, true, true, true]), (1211, [true, true, true, true]), (1225, [true, true, true, true]), (1248, [true, true, true, true]), (1261, [true, true, true, true]), (1284, [true, true, true, true]), (1298, [true, true, true, true])]) lk_La_ok (by decide +kernel) 30 true _ _ _ _ h
def tb_La_law_865 : List En := [e0 865 (.aload_n 1) 1, e0 866 (.aload_n 0) 1, e0 867 (.iload_n 3) 1, eC 868 (.iconst 1) 1 1, e0 869 .iadd 1, e0 870 .iaload 1, eT 871 (.invokevirtual 102) 3 42, e0 874 (.aload_n 2) 1, e0 875 (.aload_n 0) 1, e0 876 (.iload_n 3) 1, eC 877 (.iconst 1) 1 1, e0 878 .iadd 1, e0 879 .iaload 1, eT 880 (.invokevirtual 105) 3 43, eT 883 (.if_icmp .eq 415) 3 1298, eC 886 (.iconst 0) 1 0, e0 887 .ireturn 1]
set_option maxRecDepth 100000 in
theorem b_La_law_865 {G : Ge} (x3 : Int32) {μ : Mm} {K : Int32 → Mm → Prop} (h :
  (vp_in (x3 + 1) (gL G) ∧
   (CS G m_Cs_most [vr 6 0, vi (gxs G (Int32.toNatClampNeg (x3 + 1)))] μ (RI fun v1 μ1 =>
    (vp_in (x3 + 1) (gL G) ∧
     (CS G m_Mo_most [vr 7 0, vi (gxs G (Int32.toNatClampNeg (x3 + 1)))] μ1 (RI fun v2 μ2 =>
      (if v1 = v2 then
       SS G m_La_law 1298 [vr 57 0, vr 6 0, vr 7 0, vi x3] [] μ2 (RI K)
      else
       (((0 : Int32) = 0 ∨ (0 : Int32) = 1) ∧ K 0 μ2))))))))) :
  SS G m_La_law 865 [vr 57 0, vr 6 0, vr 7 0, vi x3] [] μ (RI K) :=
  wp_s (M := m_La_law) (lk := lk_La) (tb := tb_La_law_865) (cu := [(18, [true, true, true, true]), (212, [true, true, true, true]), (245, [true, true, true, true]), (288, [true, true, true, true]), (321, [true, true, true, true]), (344, [true, true, true, true]), (407, [true, true, true, true]), (430, [true, true, true, true]), (463, [true, true, true, true]), (506, [true, true, true, true]), (529, [true, true, true, true]), (552, [true, true, true, true]), (585, [true, true, true, true]), (608, [true, true, true, true]), (641, [true, true, true, true]), (674, [true, true, true, true]), (707, [true, true, true, true]), (750, [true, true, true, true]), (763, [true, true, true, true]), (786, [true, true, true, true]), (809, [true, true, true, true]), (832, [true, true, true, true]), (865, [true, true, true, true]), (888, [true, true, true, true]), (921, [true, true, true, true]), (944, [true, true, true, true]), (957, [true, true, true, true]), (990, [true, true, true, true]), (1003, [true, true, true, true]), (1026, [true, true, true, true]), (1049, [true, true, true, true]), (1072, [true, true, true, true]), (1105, [true, true, true, true]), (1128, [true, true, true, true]), (1151, [true, true, true, true]), (1184, [true, true, true, true]), (1197, [true, true, true, true]), (1211, [true, true, true, true]), (1225, [true, true, true, true]), (1248, [true, true, true, true]), (1261, [true, true, true, true]), (1284, [true, true, true, true]), (1298, [true, true, true, true])]) lk_La_ok (by decide +kernel) 20 true _ _ _ _ h
def tb_La_law_888 : List En := [e0 888 (.aload_n 1) 1, e0 889 (.aload_n 0) 1, e0 890 (.iload_n 3) 1, eC 891 (.iconst 1) 1 1, e0 892 .iadd 1, e0 893 .iaload 1, e0 894 (.aload_n 0) 1, e0 895 (.iload_n 3) 1, eC 896 (.iconst 2) 1 2, e0 897 .iadd 1, e0 898 .iaload 1, eT 899 (.invokevirtual 106) 3 44, e0 902 (.aload_n 2) 1, e0 903 (.aload_n 0) 1, e0 904 (.iload_n 3) 1, eC 905 (.iconst 1) 1 1, e0 906 .iadd 1, e0 907 .iaload 1, e0 908 (.aload_n 0) 1, e0 909 (.iload_n 3) 1, eC 910 (.iconst 2) 1 2, e0 911 .iadd 1, e0 912 .iaload 1, eT 913 (.invokevirtual 109) 3 45, eT 916 (.if_icmp .eq 382) 3 1298, eC 919 (.iconst 0) 1 0, e0 920 .ireturn 1]
set_option maxRecDepth 100000 in
theorem b_La_law_888 {G : Ge} (x3 : Int32) {μ : Mm} {K : Int32 → Mm → Prop} (h :
  (vp_in (x3 + 1) (gL G) ∧
   (vp_in (x3 + 2) (gL G) ∧
    (CS G m_Cs_least [vr 6 0, vi (gxs G (Int32.toNatClampNeg (x3 + 1))), vi (gxs G (Int32.toNatClampNeg (x3 + 2)))] μ (RI fun v1 μ1 =>
     (vp_in (x3 + 1) (gL G) ∧
      (vp_in (x3 + 2) (gL G) ∧
       (CS G m_Mo_least [vr 7 0, vi (gxs G (Int32.toNatClampNeg (x3 + 1))), vi (gxs G (Int32.toNatClampNeg (x3 + 2)))] μ1 (RI fun v2 μ2 =>
        (if v1 = v2 then
         SS G m_La_law 1298 [vr 57 0, vr 6 0, vr 7 0, vi x3] [] μ2 (RI K)
        else
         (((0 : Int32) = 0 ∨ (0 : Int32) = 1) ∧ K 0 μ2))))))))))) :
  SS G m_La_law 888 [vr 57 0, vr 6 0, vr 7 0, vi x3] [] μ (RI K) :=
  wp_s (M := m_La_law) (lk := lk_La) (tb := tb_La_law_888) (cu := [(18, [true, true, true, true]), (212, [true, true, true, true]), (245, [true, true, true, true]), (288, [true, true, true, true]), (321, [true, true, true, true]), (344, [true, true, true, true]), (407, [true, true, true, true]), (430, [true, true, true, true]), (463, [true, true, true, true]), (506, [true, true, true, true]), (529, [true, true, true, true]), (552, [true, true, true, true]), (585, [true, true, true, true]), (608, [true, true, true, true]), (641, [true, true, true, true]), (674, [true, true, true, true]), (707, [true, true, true, true]), (750, [true, true, true, true]), (763, [true, true, true, true]), (786, [true, true, true, true]), (809, [true, true, true, true]), (832, [true, true, true, true]), (865, [true, true, true, true]), (888, [true, true, true, true]), (921, [true, true, true, true]), (944, [true, true, true, true]), (957, [true, true, true, true]), (990, [true, true, true, true]), (1003, [true, true, true, true]), (1026, [true, true, true, true]), (1049, [true, true, true, true]), (1072, [true, true, true, true]), (1105, [true, true, true, true]), (1128, [true, true, true, true]), (1151, [true, true, true, true]), (1184, [true, true, true, true]), (1197, [true, true, true, true]), (1211, [true, true, true, true]), (1225, [true, true, true, true]), (1248, [true, true, true, true]), (1261, [true, true, true, true]), (1284, [true, true, true, true]), (1298, [true, true, true, true])]) lk_La_ok (by decide +kernel) 30 true _ _ _ _ h
def tb_La_law_921 : List En := [e0 921 (.aload_n 1) 1, e0 922 (.aload_n 0) 1, e0 923 (.iload_n 3) 1, eC 924 (.iconst 1) 1 1, e0 925 .iadd 1, e0 926 .iaload 1, eT 927 (.invokevirtual 110) 3 46, e0 930 (.aload_n 2) 1, e0 931 (.aload_n 0) 1, e0 932 (.iload_n 3) 1, eC 933 (.iconst 1) 1 1, e0 934 .iadd 1, e0 935 .iaload 1, eT 936 (.invokevirtual 113) 3 47, eT 939 (.if_icmp .eq 359) 3 1298, eC 942 (.iconst 0) 1 0, e0 943 .ireturn 1]
set_option maxRecDepth 100000 in
theorem b_La_law_921 {G : Ge} (x3 : Int32) {μ : Mm} {K : Int32 → Mm → Prop} (h :
  (vp_in (x3 + 1) (gL G) ∧
   (CS G m_Cs_price [vr 6 0, vi (gxs G (Int32.toNatClampNeg (x3 + 1)))] μ (RI fun v1 μ1 =>
    (vp_in (x3 + 1) (gL G) ∧
     (CS G m_Mo_price [vr 7 0, vi (gxs G (Int32.toNatClampNeg (x3 + 1)))] μ1 (RI fun v2 μ2 =>
      (if v1 = v2 then
       SS G m_La_law 1298 [vr 57 0, vr 6 0, vr 7 0, vi x3] [] μ2 (RI K)
      else
       (((0 : Int32) = 0 ∨ (0 : Int32) = 1) ∧ K 0 μ2))))))))) :
  SS G m_La_law 921 [vr 57 0, vr 6 0, vr 7 0, vi x3] [] μ (RI K) :=
  wp_s (M := m_La_law) (lk := lk_La) (tb := tb_La_law_921) (cu := [(18, [true, true, true, true]), (212, [true, true, true, true]), (245, [true, true, true, true]), (288, [true, true, true, true]), (321, [true, true, true, true]), (344, [true, true, true, true]), (407, [true, true, true, true]), (430, [true, true, true, true]), (463, [true, true, true, true]), (506, [true, true, true, true]), (529, [true, true, true, true]), (552, [true, true, true, true]), (585, [true, true, true, true]), (608, [true, true, true, true]), (641, [true, true, true, true]), (674, [true, true, true, true]), (707, [true, true, true, true]), (750, [true, true, true, true]), (763, [true, true, true, true]), (786, [true, true, true, true]), (809, [true, true, true, true]), (832, [true, true, true, true]), (865, [true, true, true, true]), (888, [true, true, true, true]), (921, [true, true, true, true]), (944, [true, true, true, true]), (957, [true, true, true, true]), (990, [true, true, true, true]), (1003, [true, true, true, true]), (1026, [true, true, true, true]), (1049, [true, true, true, true]), (1072, [true, true, true, true]), (1105, [true, true, true, true]), (1128, [true, true, true, true]), (1151, [true, true, true, true]), (1184, [true, true, true, true]), (1197, [true, true, true, true]), (1211, [true, true, true, true]), (1225, [true, true, true, true]), (1248, [true, true, true, true]), (1261, [true, true, true, true]), (1284, [true, true, true, true]), (1298, [true, true, true, true])]) lk_La_ok (by decide +kernel) 20 true _ _ _ _ h
def tb_La_law_944 : List En := [e0 944 (.aload_n 1) 1, eT 945 (.invokevirtual 114) 3 48, e0 948 (.aload_n 2) 1, eT 949 (.invokevirtual 117) 3 49, eT 952 (.if_icmp .eq 346) 3 1298, eC 955 (.iconst 0) 1 0, e0 956 .ireturn 1]
set_option maxRecDepth 100000 in
theorem b_La_law_944 {G : Ge} (x3 : Int32) {μ : Mm} {K : Int32 → Mm → Prop} (h :
  (CS G m_Cs_late [vr 6 0] μ (RI fun v1 μ1 =>
   (CS G m_Mo_late [vr 7 0] μ1 (RI fun v2 μ2 =>
    (if v1 = v2 then
     SS G m_La_law 1298 [vr 57 0, vr 6 0, vr 7 0, vi x3] [] μ2 (RI K)
    else
     (((0 : Int32) = 0 ∨ (0 : Int32) = 1) ∧ K 0 μ2))))))) :
  SS G m_La_law 944 [vr 57 0, vr 6 0, vr 7 0, vi x3] [] μ (RI K) :=
  wp_s (M := m_La_law) (lk := lk_La) (tb := tb_La_law_944) (cu := [(18, [true, true, true, true]), (212, [true, true, true, true]), (245, [true, true, true, true]), (288, [true, true, true, true]), (321, [true, true, true, true]), (344, [true, true, true, true]), (407, [true, true, true, true]), (430, [true, true, true, true]), (463, [true, true, true, true]), (506, [true, true, true, true]), (529, [true, true, true, true]), (552, [true, true, true, true]), (585, [true, true, true, true]), (608, [true, true, true, true]), (641, [true, true, true, true]), (674, [true, true, true, true]), (707, [true, true, true, true]), (750, [true, true, true, true]), (763, [true, true, true, true]), (786, [true, true, true, true]), (809, [true, true, true, true]), (832, [true, true, true, true]), (865, [true, true, true, true]), (888, [true, true, true, true]), (921, [true, true, true, true]), (944, [true, true, true, true]), (957, [true, true, true, true]), (990, [true, true, true, true]), (1003, [true, true, true, true]), (1026, [true, true, true, true]), (1049, [true, true, true, true]), (1072, [true, true, true, true]), (1105, [true, true, true, true]), (1128, [true, true, true, true]), (1151, [true, true, true, true]), (1184, [true, true, true, true]), (1197, [true, true, true, true]), (1211, [true, true, true, true]), (1225, [true, true, true, true]), (1248, [true, true, true, true]), (1261, [true, true, true, true]), (1284, [true, true, true, true]), (1298, [true, true, true, true])]) lk_La_ok (by decide +kernel) 10 true _ _ _ _ h
def tb_La_law_957 : List En := [e0 957 (.aload_n 1) 1, e0 958 (.aload_n 0) 1, e0 959 (.iload_n 3) 1, eC 960 (.iconst 1) 1 1, e0 961 .iadd 1, e0 962 .iaload 1, e0 963 (.aload_n 0) 1, e0 964 (.iload_n 3) 1, eC 965 (.iconst 2) 1 2, e0 966 .iadd 1, e0 967 .iaload 1, eT 968 (.invokevirtual 118) 3 50, e0 971 (.aload_n 2) 1, e0 972 (.aload_n 0) 1, e0 973 (.iload_n 3) 1, eC 974 (.iconst 1) 1 1, e0 975 .iadd 1, e0 976 .iaload 1, e0 977 (.aload_n 0) 1, e0 978 (.iload_n 3) 1, eC 979 (.iconst 2) 1 2, e0 980 .iadd 1, e0 981 .iaload 1, eT 982 (.invokevirtual 121) 3 51, eT 985 (.if_icmp .eq 313) 3 1298, eC 988 (.iconst 0) 1 0, e0 989 .ireturn 1]
set_option maxRecDepth 100000 in
theorem b_La_law_957 {G : Ge} (x3 : Int32) {μ : Mm} {K : Int32 → Mm → Prop} (h :
  (vp_in (x3 + 1) (gL G) ∧
   (vp_in (x3 + 2) (gL G) ∧
    (CS G m_Cs_gain [vr 6 0, vi (gxs G (Int32.toNatClampNeg (x3 + 1))), vi (gxs G (Int32.toNatClampNeg (x3 + 2)))] μ (RI fun v1 μ1 =>
     (vp_in (x3 + 1) (gL G) ∧
      (vp_in (x3 + 2) (gL G) ∧
       (CS G m_Mo_gain [vr 7 0, vi (gxs G (Int32.toNatClampNeg (x3 + 1))), vi (gxs G (Int32.toNatClampNeg (x3 + 2)))] μ1 (RI fun v2 μ2 =>
        (if v1 = v2 then
         SS G m_La_law 1298 [vr 57 0, vr 6 0, vr 7 0, vi x3] [] μ2 (RI K)
        else
         (((0 : Int32) = 0 ∨ (0 : Int32) = 1) ∧ K 0 μ2))))))))))) :
  SS G m_La_law 957 [vr 57 0, vr 6 0, vr 7 0, vi x3] [] μ (RI K) :=
  wp_s (M := m_La_law) (lk := lk_La) (tb := tb_La_law_957) (cu := [(18, [true, true, true, true]), (212, [true, true, true, true]), (245, [true, true, true, true]), (288, [true, true, true, true]), (321, [true, true, true, true]), (344, [true, true, true, true]), (407, [true, true, true, true]), (430, [true, true, true, true]), (463, [true, true, true, true]), (506, [true, true, true, true]), (529, [true, true, true, true]), (552, [true, true, true, true]), (585, [true, true, true, true]), (608, [true, true, true, true]), (641, [true, true, true, true]), (674, [true, true, true, true]), (707, [true, true, true, true]), (750, [true, true, true, true]), (763, [true, true, true, true]), (786, [true, true, true, true]), (809, [true, true, true, true]), (832, [true, true, true, true]), (865, [true, true, true, true]), (888, [true, true, true, true]), (921, [true, true, true, true]), (944, [true, true, true, true]), (957, [true, true, true, true]), (990, [true, true, true, true]), (1003, [true, true, true, true]), (1026, [true, true, true, true]), (1049, [true, true, true, true]), (1072, [true, true, true, true]), (1105, [true, true, true, true]), (1128, [true, true, true, true]), (1151, [true, true, true, true]), (1184, [true, true, true, true]), (1197, [true, true, true, true]), (1211, [true, true, true, true]), (1225, [true, true, true, true]), (1248, [true, true, true, true]), (1261, [true, true, true, true]), (1284, [true, true, true, true]), (1298, [true, true, true, true])]) lk_La_ok (by decide +kernel) 30 true _ _ _ _ h
def tb_La_law_990 : List En := [e0 990 (.aload_n 1) 1, eT 991 (.invokevirtual 122) 3 52, e0 994 (.aload_n 2) 1, eT 995 (.invokevirtual 125) 3 53, eT 998 (.if_icmp .eq 300) 3 1298, eC 1001 (.iconst 0) 1 0, e0 1002 .ireturn 1]
set_option maxRecDepth 100000 in
theorem b_La_law_990 {G : Ge} (x3 : Int32) {μ : Mm} {K : Int32 → Mm → Prop} (h :
  (CS G m_Cs_sales [vr 6 0] μ (RI fun v1 μ1 =>
   (CS G m_Mo_sales [vr 7 0] μ1 (RI fun v2 μ2 =>
    (if v1 = v2 then
     SS G m_La_law 1298 [vr 57 0, vr 6 0, vr 7 0, vi x3] [] μ2 (RI K)
    else
     (((0 : Int32) = 0 ∨ (0 : Int32) = 1) ∧ K 0 μ2))))))) :
  SS G m_La_law 990 [vr 57 0, vr 6 0, vr 7 0, vi x3] [] μ (RI K) :=
  wp_s (M := m_La_law) (lk := lk_La) (tb := tb_La_law_990) (cu := [(18, [true, true, true, true]), (212, [true, true, true, true]), (245, [true, true, true, true]), (288, [true, true, true, true]), (321, [true, true, true, true]), (344, [true, true, true, true]), (407, [true, true, true, true]), (430, [true, true, true, true]), (463, [true, true, true, true]), (506, [true, true, true, true]), (529, [true, true, true, true]), (552, [true, true, true, true]), (585, [true, true, true, true]), (608, [true, true, true, true]), (641, [true, true, true, true]), (674, [true, true, true, true]), (707, [true, true, true, true]), (750, [true, true, true, true]), (763, [true, true, true, true]), (786, [true, true, true, true]), (809, [true, true, true, true]), (832, [true, true, true, true]), (865, [true, true, true, true]), (888, [true, true, true, true]), (921, [true, true, true, true]), (944, [true, true, true, true]), (957, [true, true, true, true]), (990, [true, true, true, true]), (1003, [true, true, true, true]), (1026, [true, true, true, true]), (1049, [true, true, true, true]), (1072, [true, true, true, true]), (1105, [true, true, true, true]), (1128, [true, true, true, true]), (1151, [true, true, true, true]), (1184, [true, true, true, true]), (1197, [true, true, true, true]), (1211, [true, true, true, true]), (1225, [true, true, true, true]), (1248, [true, true, true, true]), (1261, [true, true, true, true]), (1284, [true, true, true, true]), (1298, [true, true, true, true])]) lk_La_ok (by decide +kernel) 10 true _ _ _ _ h
def tb_La_law_1003 : List En := [e0 1003 (.aload_n 1) 1, e0 1004 (.aload_n 0) 1, e0 1005 (.iload_n 3) 1, eC 1006 (.iconst 1) 1 1, e0 1007 .iadd 1, e0 1008 .iaload 1, eT 1009 (.invokevirtual 126) 3 54, e0 1012 (.aload_n 2) 1, e0 1013 (.aload_n 0) 1, e0 1014 (.iload_n 3) 1, eC 1015 (.iconst 1) 1 1, e0 1016 .iadd 1, e0 1017 .iaload 1, eT 1018 (.invokevirtual 129) 3 55, eT 1021 (.if_icmp .eq 277) 3 1298, eC 1024 (.iconst 0) 1 0, e0 1025 .ireturn 1]
set_option maxRecDepth 100000 in
theorem b_La_law_1003 {G : Ge} (x3 : Int32) {μ : Mm} {K : Int32 → Mm → Prop} (h :
  (vp_in (x3 + 1) (gL G) ∧
   (CS G m_Cs_share [vr 6 0, vi (gxs G (Int32.toNatClampNeg (x3 + 1)))] μ (RI fun v1 μ1 =>
    (vp_in (x3 + 1) (gL G) ∧
     (CS G m_Mo_share [vr 7 0, vi (gxs G (Int32.toNatClampNeg (x3 + 1)))] μ1 (RI fun v2 μ2 =>
      (if v1 = v2 then
       SS G m_La_law 1298 [vr 57 0, vr 6 0, vr 7 0, vi x3] [] μ2 (RI K)
      else
       (((0 : Int32) = 0 ∨ (0 : Int32) = 1) ∧ K 0 μ2))))))))) :
  SS G m_La_law 1003 [vr 57 0, vr 6 0, vr 7 0, vi x3] [] μ (RI K) :=
  wp_s (M := m_La_law) (lk := lk_La) (tb := tb_La_law_1003) (cu := [(18, [true, true, true, true]), (212, [true, true, true, true]), (245, [true, true, true, true]), (288, [true, true, true, true]), (321, [true, true, true, true]), (344, [true, true, true, true]), (407, [true, true, true, true]), (430, [true, true, true, true]), (463, [true, true, true, true]), (506, [true, true, true, true]), (529, [true, true, true, true]), (552, [true, true, true, true]), (585, [true, true, true, true]), (608, [true, true, true, true]), (641, [true, true, true, true]), (674, [true, true, true, true]), (707, [true, true, true, true]), (750, [true, true, true, true]), (763, [true, true, true, true]), (786, [true, true, true, true]), (809, [true, true, true, true]), (832, [true, true, true, true]), (865, [true, true, true, true]), (888, [true, true, true, true]), (921, [true, true, true, true]), (944, [true, true, true, true]), (957, [true, true, true, true]), (990, [true, true, true, true]), (1003, [true, true, true, true]), (1026, [true, true, true, true]), (1049, [true, true, true, true]), (1072, [true, true, true, true]), (1105, [true, true, true, true]), (1128, [true, true, true, true]), (1151, [true, true, true, true]), (1184, [true, true, true, true]), (1197, [true, true, true, true]), (1211, [true, true, true, true]), (1225, [true, true, true, true]), (1248, [true, true, true, true]), (1261, [true, true, true, true]), (1284, [true, true, true, true]), (1298, [true, true, true, true])]) lk_La_ok (by decide +kernel) 20 true _ _ _ _ h
def tb_La_law_1026 : List En := [e0 1026 (.aload_n 1) 1, e0 1027 (.aload_n 0) 1, e0 1028 (.iload_n 3) 1, eC 1029 (.iconst 1) 1 1, e0 1030 .iadd 1, e0 1031 .iaload 1, eT 1032 (.invokevirtual 130) 3 56, e0 1035 (.aload_n 2) 1, e0 1036 (.aload_n 0) 1, e0 1037 (.iload_n 3) 1, eC 1038 (.iconst 1) 1 1, e0 1039 .iadd 1, e0 1040 .iaload 1, eT 1041 (.invokevirtual 133) 3 57, eT 1044 (.if_icmp .eq 254) 3 1298, eC 1047 (.iconst 0) 1 0, e0 1048 .ireturn 1]
set_option maxRecDepth 100000 in
theorem b_La_law_1026 {G : Ge} (x3 : Int32) {μ : Mm} {K : Int32 → Mm → Prop} (h :
  (vp_in (x3 + 1) (gL G) ∧
   (CS G m_Cs_saves [vr 6 0, vi (gxs G (Int32.toNatClampNeg (x3 + 1)))] μ (RI fun v1 μ1 =>
    (vp_in (x3 + 1) (gL G) ∧
     (CS G m_Mo_saves [vr 7 0, vi (gxs G (Int32.toNatClampNeg (x3 + 1)))] μ1 (RI fun v2 μ2 =>
      (if v1 = v2 then
       SS G m_La_law 1298 [vr 57 0, vr 6 0, vr 7 0, vi x3] [] μ2 (RI K)
      else
       (((0 : Int32) = 0 ∨ (0 : Int32) = 1) ∧ K 0 μ2))))))))) :
  SS G m_La_law 1026 [vr 57 0, vr 6 0, vr 7 0, vi x3] [] μ (RI K) :=
  wp_s (M := m_La_law) (lk := lk_La) (tb := tb_La_law_1026) (cu := [(18, [true, true, true, true]), (212, [true, true, true, true]), (245, [true, true, true, true]), (288, [true, true, true, true]), (321, [true, true, true, true]), (344, [true, true, true, true]), (407, [true, true, true, true]), (430, [true, true, true, true]), (463, [true, true, true, true]), (506, [true, true, true, true]), (529, [true, true, true, true]), (552, [true, true, true, true]), (585, [true, true, true, true]), (608, [true, true, true, true]), (641, [true, true, true, true]), (674, [true, true, true, true]), (707, [true, true, true, true]), (750, [true, true, true, true]), (763, [true, true, true, true]), (786, [true, true, true, true]), (809, [true, true, true, true]), (832, [true, true, true, true]), (865, [true, true, true, true]), (888, [true, true, true, true]), (921, [true, true, true, true]), (944, [true, true, true, true]), (957, [true, true, true, true]), (990, [true, true, true, true]), (1003, [true, true, true, true]), (1026, [true, true, true, true]), (1049, [true, true, true, true]), (1072, [true, true, true, true]), (1105, [true, true, true, true]), (1128, [true, true, true, true]), (1151, [true, true, true, true]), (1184, [true, true, true, true]), (1197, [true, true, true, true]), (1211, [true, true, true, true]), (1225, [true, true, true, true]), (1248, [true, true, true, true]), (1261, [true, true, true, true]), (1284, [true, true, true, true]), (1298, [true, true, true, true])]) lk_La_ok (by decide +kernel) 20 true _ _ _ _ h
def tb_La_law_1049 : List En := [e0 1049 (.aload_n 1) 1, e0 1050 (.aload_n 0) 1, e0 1051 (.iload_n 3) 1, eC 1052 (.iconst 1) 1 1, e0 1053 .iadd 1, e0 1054 .iaload 1, eT 1055 (.invokevirtual 134) 3 58, e0 1058 (.aload_n 2) 1, e0 1059 (.aload_n 0) 1, e0 1060 (.iload_n 3) 1, eC 1061 (.iconst 1) 1 1, e0 1062 .iadd 1, e0 1063 .iaload 1, eT 1064 (.invokevirtual 137) 3 59, eT 1067 (.if_icmp .eq 231) 3 1298, eC 1070 (.iconst 0) 1 0, e0 1071 .ireturn 1]
set_option maxRecDepth 100000 in
theorem b_La_law_1049 {G : Ge} (x3 : Int32) {μ : Mm} {K : Int32 → Mm → Prop} (h :
  (vp_in (x3 + 1) (gL G) ∧
   (CS G m_Cs_part [vr 6 0, vi (gxs G (Int32.toNatClampNeg (x3 + 1)))] μ (RI fun v1 μ1 =>
    (vp_in (x3 + 1) (gL G) ∧
     (CS G m_Mo_part [vr 7 0, vi (gxs G (Int32.toNatClampNeg (x3 + 1)))] μ1 (RI fun v2 μ2 =>
      (if v1 = v2 then
       SS G m_La_law 1298 [vr 57 0, vr 6 0, vr 7 0, vi x3] [] μ2 (RI K)
      else
       (((0 : Int32) = 0 ∨ (0 : Int32) = 1) ∧ K 0 μ2))))))))) :
  SS G m_La_law 1049 [vr 57 0, vr 6 0, vr 7 0, vi x3] [] μ (RI K) :=
  wp_s (M := m_La_law) (lk := lk_La) (tb := tb_La_law_1049) (cu := [(18, [true, true, true, true]), (212, [true, true, true, true]), (245, [true, true, true, true]), (288, [true, true, true, true]), (321, [true, true, true, true]), (344, [true, true, true, true]), (407, [true, true, true, true]), (430, [true, true, true, true]), (463, [true, true, true, true]), (506, [true, true, true, true]), (529, [true, true, true, true]), (552, [true, true, true, true]), (585, [true, true, true, true]), (608, [true, true, true, true]), (641, [true, true, true, true]), (674, [true, true, true, true]), (707, [true, true, true, true]), (750, [true, true, true, true]), (763, [true, true, true, true]), (786, [true, true, true, true]), (809, [true, true, true, true]), (832, [true, true, true, true]), (865, [true, true, true, true]), (888, [true, true, true, true]), (921, [true, true, true, true]), (944, [true, true, true, true]), (957, [true, true, true, true]), (990, [true, true, true, true]), (1003, [true, true, true, true]), (1026, [true, true, true, true]), (1049, [true, true, true, true]), (1072, [true, true, true, true]), (1105, [true, true, true, true]), (1128, [true, true, true, true]), (1151, [true, true, true, true]), (1184, [true, true, true, true]), (1197, [true, true, true, true]), (1211, [true, true, true, true]), (1225, [true, true, true, true]), (1248, [true, true, true, true]), (1261, [true, true, true, true]), (1284, [true, true, true, true]), (1298, [true, true, true, true])]) lk_La_ok (by decide +kernel) 20 true _ _ _ _ h
def tb_La_law_1072 : List En := [e0 1072 (.aload_n 1) 1, e0 1073 (.aload_n 0) 1, e0 1074 (.iload_n 3) 1, eC 1075 (.iconst 1) 1 1, e0 1076 .iadd 1, e0 1077 .iaload 1, e0 1078 (.aload_n 0) 1, e0 1079 (.iload_n 3) 1, eC 1080 (.iconst 2) 1 2, e0 1081 .iadd 1, e0 1082 .iaload 1, eT 1083 (.invokevirtual 138) 3 60, e0 1086 (.aload_n 2) 1, e0 1087 (.aload_n 0) 1, e0 1088 (.iload_n 3) 1, eC 1089 (.iconst 1) 1 1, e0 1090 .iadd 1, e0 1091 .iaload 1, e0 1092 (.aload_n 0) 1, e0 1093 (.iload_n 3) 1, eC 1094 (.iconst 2) 1 2, e0 1095 .iadd 1, e0 1096 .iaload 1, eT 1097 (.invokevirtual 141) 3 61, eT 1100 (.if_icmp .eq 198) 3 1298, eC 1103 (.iconst 0) 1 0, e0 1104 .ireturn 1]
set_option maxRecDepth 100000 in
theorem b_La_law_1072 {G : Ge} (x3 : Int32) {μ : Mm} {K : Int32 → Mm → Prop} (h :
  (vp_in (x3 + 1) (gL G) ∧
   (vp_in (x3 + 2) (gL G) ∧
    (CS G m_Cs_ice [vr 6 0, vi (gxs G (Int32.toNatClampNeg (x3 + 1))), vi (gxs G (Int32.toNatClampNeg (x3 + 2)))] μ (RI fun v1 μ1 =>
     (vp_in (x3 + 1) (gL G) ∧
      (vp_in (x3 + 2) (gL G) ∧
       (CS G m_Mo_ice [vr 7 0, vi (gxs G (Int32.toNatClampNeg (x3 + 1))), vi (gxs G (Int32.toNatClampNeg (x3 + 2)))] μ1 (RI fun v2 μ2 =>
        (if v1 = v2 then
         SS G m_La_law 1298 [vr 57 0, vr 6 0, vr 7 0, vi x3] [] μ2 (RI K)
        else
         (((0 : Int32) = 0 ∨ (0 : Int32) = 1) ∧ K 0 μ2))))))))))) :
  SS G m_La_law 1072 [vr 57 0, vr 6 0, vr 7 0, vi x3] [] μ (RI K) :=
  wp_s (M := m_La_law) (lk := lk_La) (tb := tb_La_law_1072) (cu := [(18, [true, true, true, true]), (212, [true, true, true, true]), (245, [true, true, true, true]), (288, [true, true, true, true]), (321, [true, true, true, true]), (344, [true, true, true, true]), (407, [true, true, true, true]), (430, [true, true, true, true]), (463, [true, true, true, true]), (506, [true, true, true, true]), (529, [true, true, true, true]), (552, [true, true, true, true]), (585, [true, true, true, true]), (608, [true, true, true, true]), (641, [true, true, true, true]), (674, [true, true, true, true]), (707, [true, true, true, true]), (750, [true, true, true, true]), (763, [true, true, true, true]), (786, [true, true, true, true]), (809, [true, true, true, true]), (832, [true, true, true, true]), (865, [true, true, true, true]), (888, [true, true, true, true]), (921, [true, true, true, true]), (944, [true, true, true, true]), (957, [true, true, true, true]), (990, [true, true, true, true]), (1003, [true, true, true, true]), (1026, [true, true, true, true]), (1049, [true, true, true, true]), (1072, [true, true, true, true]), (1105, [true, true, true, true]), (1128, [true, true, true, true]), (1151, [true, true, true, true]), (1184, [true, true, true, true]), (1197, [true, true, true, true]), (1211, [true, true, true, true]), (1225, [true, true, true, true]), (1248, [true, true, true, true]), (1261, [true, true, true, true]), (1284, [true, true, true, true]), (1298, [true, true, true, true])]) lk_La_ok (by decide +kernel) 30 true _ _ _ _ h
def tb_La_law_1105 : List En := [e0 1105 (.aload_n 1) 1, e0 1106 (.aload_n 0) 1, e0 1107 (.iload_n 3) 1, eC 1108 (.iconst 1) 1 1, e0 1109 .iadd 1, e0 1110 .iaload 1, eT 1111 (.invokevirtual 142) 3 62, e0 1114 (.aload_n 2) 1, e0 1115 (.aload_n 0) 1, e0 1116 (.iload_n 3) 1, eC 1117 (.iconst 1) 1 1, e0 1118 .iadd 1, e0 1119 .iaload 1, eT 1120 (.invokevirtual 145) 3 63, eT 1123 (.if_icmp .eq 175) 3 1298, eC 1126 (.iconst 0) 1 0, e0 1127 .ireturn 1]
set_option maxRecDepth 100000 in
theorem b_La_law_1105 {G : Ge} (x3 : Int32) {μ : Mm} {K : Int32 → Mm → Prop} (h :
  (vp_in (x3 + 1) (gL G) ∧
   (CS G m_Cs_odds [vr 6 0, vi (gxs G (Int32.toNatClampNeg (x3 + 1)))] μ (RI fun v1 μ1 =>
    (vp_in (x3 + 1) (gL G) ∧
     (CS G m_Mo_odds [vr 7 0, vi (gxs G (Int32.toNatClampNeg (x3 + 1)))] μ1 (RI fun v2 μ2 =>
      (if v1 = v2 then
       SS G m_La_law 1298 [vr 57 0, vr 6 0, vr 7 0, vi x3] [] μ2 (RI K)
      else
       (((0 : Int32) = 0 ∨ (0 : Int32) = 1) ∧ K 0 μ2))))))))) :
  SS G m_La_law 1105 [vr 57 0, vr 6 0, vr 7 0, vi x3] [] μ (RI K) :=
  wp_s (M := m_La_law) (lk := lk_La) (tb := tb_La_law_1105) (cu := [(18, [true, true, true, true]), (212, [true, true, true, true]), (245, [true, true, true, true]), (288, [true, true, true, true]), (321, [true, true, true, true]), (344, [true, true, true, true]), (407, [true, true, true, true]), (430, [true, true, true, true]), (463, [true, true, true, true]), (506, [true, true, true, true]), (529, [true, true, true, true]), (552, [true, true, true, true]), (585, [true, true, true, true]), (608, [true, true, true, true]), (641, [true, true, true, true]), (674, [true, true, true, true]), (707, [true, true, true, true]), (750, [true, true, true, true]), (763, [true, true, true, true]), (786, [true, true, true, true]), (809, [true, true, true, true]), (832, [true, true, true, true]), (865, [true, true, true, true]), (888, [true, true, true, true]), (921, [true, true, true, true]), (944, [true, true, true, true]), (957, [true, true, true, true]), (990, [true, true, true, true]), (1003, [true, true, true, true]), (1026, [true, true, true, true]), (1049, [true, true, true, true]), (1072, [true, true, true, true]), (1105, [true, true, true, true]), (1128, [true, true, true, true]), (1151, [true, true, true, true]), (1184, [true, true, true, true]), (1197, [true, true, true, true]), (1211, [true, true, true, true]), (1225, [true, true, true, true]), (1248, [true, true, true, true]), (1261, [true, true, true, true]), (1284, [true, true, true, true]), (1298, [true, true, true, true])]) lk_La_ok (by decide +kernel) 20 true _ _ _ _ h
def tb_La_law_1128 : List En := [e0 1128 (.aload_n 1) 1, e0 1129 (.aload_n 0) 1, e0 1130 (.iload_n 3) 1, eC 1131 (.iconst 1) 1 1, e0 1132 .iadd 1, e0 1133 .iaload 1, eT 1134 (.invokevirtual 146) 3 64, e0 1137 (.aload_n 2) 1, e0 1138 (.aload_n 0) 1, e0 1139 (.iload_n 3) 1, eC 1140 (.iconst 1) 1 1, e0 1141 .iadd 1, e0 1142 .iaload 1, eT 1143 (.invokevirtual 149) 3 65, eT 1146 (.if_icmp .eq 152) 3 1298, eC 1149 (.iconst 0) 1 0, e0 1150 .ireturn 1]
set_option maxRecDepth 100000 in
theorem b_La_law_1128 {G : Ge} (x3 : Int32) {μ : Mm} {K : Int32 → Mm → Prop} (h :
  (vp_in (x3 + 1) (gL G) ∧
   (CS G m_Cs_risk [vr 6 0, vi (gxs G (Int32.toNatClampNeg (x3 + 1)))] μ (RI fun v1 μ1 =>
    (vp_in (x3 + 1) (gL G) ∧
     (CS G m_Mo_risk [vr 7 0, vi (gxs G (Int32.toNatClampNeg (x3 + 1)))] μ1 (RI fun v2 μ2 =>
      (if v1 = v2 then
       SS G m_La_law 1298 [vr 57 0, vr 6 0, vr 7 0, vi x3] [] μ2 (RI K)
      else
       (((0 : Int32) = 0 ∨ (0 : Int32) = 1) ∧ K 0 μ2))))))))) :
  SS G m_La_law 1128 [vr 57 0, vr 6 0, vr 7 0, vi x3] [] μ (RI K) :=
  wp_s (M := m_La_law) (lk := lk_La) (tb := tb_La_law_1128) (cu := [(18, [true, true, true, true]), (212, [true, true, true, true]), (245, [true, true, true, true]), (288, [true, true, true, true]), (321, [true, true, true, true]), (344, [true, true, true, true]), (407, [true, true, true, true]), (430, [true, true, true, true]), (463, [true, true, true, true]), (506, [true, true, true, true]), (529, [true, true, true, true]), (552, [true, true, true, true]), (585, [true, true, true, true]), (608, [true, true, true, true]), (641, [true, true, true, true]), (674, [true, true, true, true]), (707, [true, true, true, true]), (750, [true, true, true, true]), (763, [true, true, true, true]), (786, [true, true, true, true]), (809, [true, true, true, true]), (832, [true, true, true, true]), (865, [true, true, true, true]), (888, [true, true, true, true]), (921, [true, true, true, true]), (944, [true, true, true, true]), (957, [true, true, true, true]), (990, [true, true, true, true]), (1003, [true, true, true, true]), (1026, [true, true, true, true]), (1049, [true, true, true, true]), (1072, [true, true, true, true]), (1105, [true, true, true, true]), (1128, [true, true, true, true]), (1151, [true, true, true, true]), (1184, [true, true, true, true]), (1197, [true, true, true, true]), (1211, [true, true, true, true]), (1225, [true, true, true, true]), (1248, [true, true, true, true]), (1261, [true, true, true, true]), (1284, [true, true, true, true]), (1298, [true, true, true, true])]) lk_La_ok (by decide +kernel) 20 true _ _ _ _ h
def tb_La_law_1151 : List En := [e0 1151 (.aload_n 1) 1, e0 1152 (.aload_n 0) 1, e0 1153 (.iload_n 3) 1, eC 1154 (.iconst 1) 1 1, e0 1155 .iadd 1, e0 1156 .iaload 1, e0 1157 (.aload_n 0) 1, e0 1158 (.iload_n 3) 1, eC 1159 (.iconst 2) 1 2, e0 1160 .iadd 1, e0 1161 .iaload 1, eT 1162 (.invokevirtual 150) 3 66, e0 1165 (.aload_n 2) 1, e0 1166 (.aload_n 0) 1, e0 1167 (.iload_n 3) 1, eC 1168 (.iconst 1) 1 1, e0 1169 .iadd 1, e0 1170 .iaload 1, e0 1171 (.aload_n 0) 1, e0 1172 (.iload_n 3) 1, eC 1173 (.iconst 2) 1 2, e0 1174 .iadd 1, e0 1175 .iaload 1, eT 1176 (.invokevirtual 153) 3 67, eT 1179 (.if_icmp .eq 119) 3 1298, eC 1182 (.iconst 0) 1 0, e0 1183 .ireturn 1]
set_option maxRecDepth 100000 in
theorem b_La_law_1151 {G : Ge} (x3 : Int32) {μ : Mm} {K : Int32 → Mm → Prop} (h :
  (vp_in (x3 + 1) (gL G) ∧
   (vp_in (x3 + 2) (gL G) ∧
    (CS G m_Cs_lots [vr 6 0, vi (gxs G (Int32.toNatClampNeg (x3 + 1))), vi (gxs G (Int32.toNatClampNeg (x3 + 2)))] μ (RI fun v1 μ1 =>
     (vp_in (x3 + 1) (gL G) ∧
      (vp_in (x3 + 2) (gL G) ∧
       (CS G m_Mo_lots [vr 7 0, vi (gxs G (Int32.toNatClampNeg (x3 + 1))), vi (gxs G (Int32.toNatClampNeg (x3 + 2)))] μ1 (RI fun v2 μ2 =>
        (if v1 = v2 then
         SS G m_La_law 1298 [vr 57 0, vr 6 0, vr 7 0, vi x3] [] μ2 (RI K)
        else
         (((0 : Int32) = 0 ∨ (0 : Int32) = 1) ∧ K 0 μ2))))))))))) :
  SS G m_La_law 1151 [vr 57 0, vr 6 0, vr 7 0, vi x3] [] μ (RI K) :=
  wp_s (M := m_La_law) (lk := lk_La) (tb := tb_La_law_1151) (cu := [(18, [true, true, true, true]), (212, [true, true, true, true]), (245, [true, true, true, true]), (288, [true, true, true, true]), (321, [true, true, true, true]), (344, [true, true, true, true]), (407, [true, true, true, true]), (430, [true, true, true, true]), (463, [true, true, true, true]), (506, [true, true, true, true]), (529, [true, true, true, true]), (552, [true, true, true, true]), (585, [true, true, true, true]), (608, [true, true, true, true]), (641, [true, true, true, true]), (674, [true, true, true, true]), (707, [true, true, true, true]), (750, [true, true, true, true]), (763, [true, true, true, true]), (786, [true, true, true, true]), (809, [true, true, true, true]), (832, [true, true, true, true]), (865, [true, true, true, true]), (888, [true, true, true, true]), (921, [true, true, true, true]), (944, [true, true, true, true]), (957, [true, true, true, true]), (990, [true, true, true, true]), (1003, [true, true, true, true]), (1026, [true, true, true, true]), (1049, [true, true, true, true]), (1072, [true, true, true, true]), (1105, [true, true, true, true]), (1128, [true, true, true, true]), (1151, [true, true, true, true]), (1184, [true, true, true, true]), (1197, [true, true, true, true]), (1211, [true, true, true, true]), (1225, [true, true, true, true]), (1248, [true, true, true, true]), (1261, [true, true, true, true]), (1284, [true, true, true, true]), (1298, [true, true, true, true])]) lk_La_ok (by decide +kernel) 30 true _ _ _ _ h
def tb_La_law_1184 : List En := [e0 1184 (.aload_n 1) 1, eT 1185 (.invokevirtual 154) 3 68, e0 1188 (.aload_n 2) 1, eT 1189 (.invokevirtual 157) 3 69, eT 1192 (.if_icmp .eq 106) 3 1298, eC 1195 (.iconst 0) 1 0, e0 1196 .ireturn 1]
set_option maxRecDepth 100000 in
theorem b_La_law_1184 {G : Ge} (x3 : Int32) {μ : Mm} {K : Int32 → Mm → Prop} (h :
  (CS G m_Cs_asked [vr 6 0] μ (RI fun v1 μ1 =>
   (CS G m_Mo_asked [vr 7 0] μ1 (RI fun v2 μ2 =>
    (if v1 = v2 then
     SS G m_La_law 1298 [vr 57 0, vr 6 0, vr 7 0, vi x3] [] μ2 (RI K)
    else
     (((0 : Int32) = 0 ∨ (0 : Int32) = 1) ∧ K 0 μ2))))))) :
  SS G m_La_law 1184 [vr 57 0, vr 6 0, vr 7 0, vi x3] [] μ (RI K) :=
  wp_s (M := m_La_law) (lk := lk_La) (tb := tb_La_law_1184) (cu := [(18, [true, true, true, true]), (212, [true, true, true, true]), (245, [true, true, true, true]), (288, [true, true, true, true]), (321, [true, true, true, true]), (344, [true, true, true, true]), (407, [true, true, true, true]), (430, [true, true, true, true]), (463, [true, true, true, true]), (506, [true, true, true, true]), (529, [true, true, true, true]), (552, [true, true, true, true]), (585, [true, true, true, true]), (608, [true, true, true, true]), (641, [true, true, true, true]), (674, [true, true, true, true]), (707, [true, true, true, true]), (750, [true, true, true, true]), (763, [true, true, true, true]), (786, [true, true, true, true]), (809, [true, true, true, true]), (832, [true, true, true, true]), (865, [true, true, true, true]), (888, [true, true, true, true]), (921, [true, true, true, true]), (944, [true, true, true, true]), (957, [true, true, true, true]), (990, [true, true, true, true]), (1003, [true, true, true, true]), (1026, [true, true, true, true]), (1049, [true, true, true, true]), (1072, [true, true, true, true]), (1105, [true, true, true, true]), (1128, [true, true, true, true]), (1151, [true, true, true, true]), (1184, [true, true, true, true]), (1197, [true, true, true, true]), (1211, [true, true, true, true]), (1225, [true, true, true, true]), (1248, [true, true, true, true]), (1261, [true, true, true, true]), (1284, [true, true, true, true]), (1298, [true, true, true, true])]) lk_La_ok (by decide +kernel) 10 true _ _ _ _ h
def tb_La_law_1197 : List En := [e0 1197 (.aload_n 1) 1, eT 1198 (.invokevirtual 158) 3 70, e0 1201 (.aload_n 2) 1, eT 1202 (.invokevirtual 162) 3 71, e0 1205 .lcmp 1, eT 1206 (.ifCond .eq 92) 3 1298, eC 1209 (.iconst 0) 1 0, e0 1210 .ireturn 1]
set_option maxRecDepth 100000 in
theorem b_La_law_1197 {G : Ge} (x3 : Int32) {μ : Mm} {K : Int32 → Mm → Prop} (h :
  (CS G m_Cs_upper [vr 6 0] μ (RL fun v1 μ1 =>
   (CS G m_Mo_upper [vr 7 0] μ1 (RL fun v2 μ2 =>
    (if (lg_cmp v1 v2) = 0 then
     SS G m_La_law 1298 [vr 57 0, vr 6 0, vr 7 0, vi x3] [] μ2 (RI K)
    else
     (((0 : Int32) = 0 ∨ (0 : Int32) = 1) ∧ K 0 μ2))))))) :
  SS G m_La_law 1197 [vr 57 0, vr 6 0, vr 7 0, vi x3] [] μ (RI K) :=
  wp_s (M := m_La_law) (lk := lk_La) (tb := tb_La_law_1197) (cu := [(18, [true, true, true, true]), (212, [true, true, true, true]), (245, [true, true, true, true]), (288, [true, true, true, true]), (321, [true, true, true, true]), (344, [true, true, true, true]), (407, [true, true, true, true]), (430, [true, true, true, true]), (463, [true, true, true, true]), (506, [true, true, true, true]), (529, [true, true, true, true]), (552, [true, true, true, true]), (585, [true, true, true, true]), (608, [true, true, true, true]), (641, [true, true, true, true]), (674, [true, true, true, true]), (707, [true, true, true, true]), (750, [true, true, true, true]), (763, [true, true, true, true]), (786, [true, true, true, true]), (809, [true, true, true, true]), (832, [true, true, true, true]), (865, [true, true, true, true]), (888, [true, true, true, true]), (921, [true, true, true, true]), (944, [true, true, true, true]), (957, [true, true, true, true]), (990, [true, true, true, true]), (1003, [true, true, true, true]), (1026, [true, true, true, true]), (1049, [true, true, true, true]), (1072, [true, true, true, true]), (1105, [true, true, true, true]), (1128, [true, true, true, true]), (1151, [true, true, true, true]), (1184, [true, true, true, true]), (1197, [true, true, true, true]), (1211, [true, true, true, true]), (1225, [true, true, true, true]), (1248, [true, true, true, true]), (1261, [true, true, true, true]), (1284, [true, true, true, true]), (1298, [true, true, true, true])]) lk_La_ok (by decide +kernel) 11 true _ _ _ _ h
def tb_La_law_1211 : List En := [e0 1211 (.aload_n 1) 1, eT 1212 (.invokevirtual 163) 3 72, e0 1215 (.aload_n 2) 1, eT 1216 (.invokevirtual 166) 3 73, e0 1219 .lcmp 1, eT 1220 (.ifCond .eq 78) 3 1298, eC 1223 (.iconst 0) 1 0, e0 1224 .ireturn 1]
set_option maxRecDepth 100000 in
theorem b_La_law_1211 {G : Ge} (x3 : Int32) {μ : Mm} {K : Int32 → Mm → Prop} (h :
  (CS G m_Cs_lower [vr 6 0] μ (RL fun v1 μ1 =>
   (CS G m_Mo_lower [vr 7 0] μ1 (RL fun v2 μ2 =>
    (if (lg_cmp v1 v2) = 0 then
     SS G m_La_law 1298 [vr 57 0, vr 6 0, vr 7 0, vi x3] [] μ2 (RI K)
    else
     (((0 : Int32) = 0 ∨ (0 : Int32) = 1) ∧ K 0 μ2))))))) :
  SS G m_La_law 1211 [vr 57 0, vr 6 0, vr 7 0, vi x3] [] μ (RI K) :=
  wp_s (M := m_La_law) (lk := lk_La) (tb := tb_La_law_1211) (cu := [(18, [true, true, true, true]), (212, [true, true, true, true]), (245, [true, true, true, true]), (288, [true, true, true, true]), (321, [true, true, true, true]), (344, [true, true, true, true]), (407, [true, true, true, true]), (430, [true, true, true, true]), (463, [true, true, true, true]), (506, [true, true, true, true]), (529, [true, true, true, true]), (552, [true, true, true, true]), (585, [true, true, true, true]), (608, [true, true, true, true]), (641, [true, true, true, true]), (674, [true, true, true, true]), (707, [true, true, true, true]), (750, [true, true, true, true]), (763, [true, true, true, true]), (786, [true, true, true, true]), (809, [true, true, true, true]), (832, [true, true, true, true]), (865, [true, true, true, true]), (888, [true, true, true, true]), (921, [true, true, true, true]), (944, [true, true, true, true]), (957, [true, true, true, true]), (990, [true, true, true, true]), (1003, [true, true, true, true]), (1026, [true, true, true, true]), (1049, [true, true, true, true]), (1072, [true, true, true, true]), (1105, [true, true, true, true]), (1128, [true, true, true, true]), (1151, [true, true, true, true]), (1184, [true, true, true, true]), (1197, [true, true, true, true]), (1211, [true, true, true, true]), (1225, [true, true, true, true]), (1248, [true, true, true, true]), (1261, [true, true, true, true]), (1284, [true, true, true, true]), (1298, [true, true, true, true])]) lk_La_ok (by decide +kernel) 11 true _ _ _ _ h
def tb_La_law_1225 : List En := [e0 1225 (.aload_n 1) 1, e0 1226 (.aload_n 0) 1, e0 1227 (.iload_n 3) 1, eC 1228 (.iconst 1) 1 1, e0 1229 .iadd 1, e0 1230 .iaload 1, eT 1231 (.invokevirtual 167) 3 74, e0 1234 (.aload_n 2) 1, e0 1235 (.aload_n 0) 1, e0 1236 (.iload_n 3) 1, eC 1237 (.iconst 1) 1 1, e0 1238 .iadd 1, e0 1239 .iaload 1, eT 1240 (.invokevirtual 170) 3 75, eT 1243 (.if_icmp .eq 55) 3 1298, eC 1246 (.iconst 0) 1 0, e0 1247 .ireturn 1]
set_option maxRecDepth 100000 in
theorem b_La_law_1225 {G : Ge} (x3 : Int32) {μ : Mm} {K : Int32 → Mm → Prop} (h :
  (vp_in (x3 + 1) (gL G) ∧
   (CS G m_Cs_count [vr 6 0, vi (gxs G (Int32.toNatClampNeg (x3 + 1)))] μ (RI fun v1 μ1 =>
    (vp_in (x3 + 1) (gL G) ∧
     (CS G m_Mo_count [vr 7 0, vi (gxs G (Int32.toNatClampNeg (x3 + 1)))] μ1 (RI fun v2 μ2 =>
      (if v1 = v2 then
       SS G m_La_law 1298 [vr 57 0, vr 6 0, vr 7 0, vi x3] [] μ2 (RI K)
      else
       (((0 : Int32) = 0 ∨ (0 : Int32) = 1) ∧ K 0 μ2))))))))) :
  SS G m_La_law 1225 [vr 57 0, vr 6 0, vr 7 0, vi x3] [] μ (RI K) :=
  wp_s (M := m_La_law) (lk := lk_La) (tb := tb_La_law_1225) (cu := [(18, [true, true, true, true]), (212, [true, true, true, true]), (245, [true, true, true, true]), (288, [true, true, true, true]), (321, [true, true, true, true]), (344, [true, true, true, true]), (407, [true, true, true, true]), (430, [true, true, true, true]), (463, [true, true, true, true]), (506, [true, true, true, true]), (529, [true, true, true, true]), (552, [true, true, true, true]), (585, [true, true, true, true]), (608, [true, true, true, true]), (641, [true, true, true, true]), (674, [true, true, true, true]), (707, [true, true, true, true]), (750, [true, true, true, true]), (763, [true, true, true, true]), (786, [true, true, true, true]), (809, [true, true, true, true]), (832, [true, true, true, true]), (865, [true, true, true, true]), (888, [true, true, true, true]), (921, [true, true, true, true]), (944, [true, true, true, true]), (957, [true, true, true, true]), (990, [true, true, true, true]), (1003, [true, true, true, true]), (1026, [true, true, true, true]), (1049, [true, true, true, true]), (1072, [true, true, true, true]), (1105, [true, true, true, true]), (1128, [true, true, true, true]), (1151, [true, true, true, true]), (1184, [true, true, true, true]), (1197, [true, true, true, true]), (1211, [true, true, true, true]), (1225, [true, true, true, true]), (1248, [true, true, true, true]), (1261, [true, true, true, true]), (1284, [true, true, true, true]), (1298, [true, true, true, true])]) lk_La_ok (by decide +kernel) 20 true _ _ _ _ h
def tb_La_law_1248 : List En := [e0 1248 (.aload_n 1) 1, eT 1249 (.invokevirtual 171) 3 76, e0 1252 (.aload_n 2) 1, eT 1253 (.invokevirtual 174) 3 77, eT 1256 (.if_icmp .eq 42) 3 1298, eC 1259 (.iconst 0) 1 0, e0 1260 .ireturn 1]
set_option maxRecDepth 100000 in
theorem b_La_law_1248 {G : Ge} (x3 : Int32) {μ : Mm} {K : Int32 → Mm → Prop} (h :
  (CS G m_Cs_finding [vr 6 0] μ (RI fun v1 μ1 =>
   (CS G m_Mo_finding [vr 7 0] μ1 (RI fun v2 μ2 =>
    (if v1 = v2 then
     SS G m_La_law 1298 [vr 57 0, vr 6 0, vr 7 0, vi x3] [] μ2 (RI K)
    else
     (((0 : Int32) = 0 ∨ (0 : Int32) = 1) ∧ K 0 μ2))))))) :
  SS G m_La_law 1248 [vr 57 0, vr 6 0, vr 7 0, vi x3] [] μ (RI K) :=
  wp_s (M := m_La_law) (lk := lk_La) (tb := tb_La_law_1248) (cu := [(18, [true, true, true, true]), (212, [true, true, true, true]), (245, [true, true, true, true]), (288, [true, true, true, true]), (321, [true, true, true, true]), (344, [true, true, true, true]), (407, [true, true, true, true]), (430, [true, true, true, true]), (463, [true, true, true, true]), (506, [true, true, true, true]), (529, [true, true, true, true]), (552, [true, true, true, true]), (585, [true, true, true, true]), (608, [true, true, true, true]), (641, [true, true, true, true]), (674, [true, true, true, true]), (707, [true, true, true, true]), (750, [true, true, true, true]), (763, [true, true, true, true]), (786, [true, true, true, true]), (809, [true, true, true, true]), (832, [true, true, true, true]), (865, [true, true, true, true]), (888, [true, true, true, true]), (921, [true, true, true, true]), (944, [true, true, true, true]), (957, [true, true, true, true]), (990, [true, true, true, true]), (1003, [true, true, true, true]), (1026, [true, true, true, true]), (1049, [true, true, true, true]), (1072, [true, true, true, true]), (1105, [true, true, true, true]), (1128, [true, true, true, true]), (1151, [true, true, true, true]), (1184, [true, true, true, true]), (1197, [true, true, true, true]), (1211, [true, true, true, true]), (1225, [true, true, true, true]), (1248, [true, true, true, true]), (1261, [true, true, true, true]), (1284, [true, true, true, true]), (1298, [true, true, true, true])]) lk_La_ok (by decide +kernel) 10 true _ _ _ _ h
def tb_La_law_1261 : List En := [e0 1261 (.aload_n 1) 1, e0 1262 (.aload_n 0) 1, e0 1263 (.iload_n 3) 1, eC 1264 (.iconst 1) 1 1, e0 1265 .iadd 1, e0 1266 .iaload 1, eT 1267 (.invokevirtual 175) 3 78, e0 1270 (.aload_n 2) 1, e0 1271 (.aload_n 0) 1, e0 1272 (.iload_n 3) 1, eC 1273 (.iconst 1) 1 1, e0 1274 .iadd 1, e0 1275 .iaload 1, eT 1276 (.invokevirtual 178) 3 79, eT 1279 (.if_icmp .eq 19) 3 1298, eC 1282 (.iconst 0) 1 0, e0 1283 .ireturn 1]
set_option maxRecDepth 100000 in
theorem b_La_law_1261 {G : Ge} (x3 : Int32) {μ : Mm} {K : Int32 → Mm → Prop} (h :
  (vp_in (x3 + 1) (gL G) ∧
   (CS G m_Cs_findings [vr 6 0, vi (gxs G (Int32.toNatClampNeg (x3 + 1)))] μ (RI fun v1 μ1 =>
    (vp_in (x3 + 1) (gL G) ∧
     (CS G m_Mo_findings [vr 7 0, vi (gxs G (Int32.toNatClampNeg (x3 + 1)))] μ1 (RI fun v2 μ2 =>
      (if v1 = v2 then
       SS G m_La_law 1298 [vr 57 0, vr 6 0, vr 7 0, vi x3] [] μ2 (RI K)
      else
       (((0 : Int32) = 0 ∨ (0 : Int32) = 1) ∧ K 0 μ2))))))))) :
  SS G m_La_law 1261 [vr 57 0, vr 6 0, vr 7 0, vi x3] [] μ (RI K) :=
  wp_s (M := m_La_law) (lk := lk_La) (tb := tb_La_law_1261) (cu := [(18, [true, true, true, true]), (212, [true, true, true, true]), (245, [true, true, true, true]), (288, [true, true, true, true]), (321, [true, true, true, true]), (344, [true, true, true, true]), (407, [true, true, true, true]), (430, [true, true, true, true]), (463, [true, true, true, true]), (506, [true, true, true, true]), (529, [true, true, true, true]), (552, [true, true, true, true]), (585, [true, true, true, true]), (608, [true, true, true, true]), (641, [true, true, true, true]), (674, [true, true, true, true]), (707, [true, true, true, true]), (750, [true, true, true, true]), (763, [true, true, true, true]), (786, [true, true, true, true]), (809, [true, true, true, true]), (832, [true, true, true, true]), (865, [true, true, true, true]), (888, [true, true, true, true]), (921, [true, true, true, true]), (944, [true, true, true, true]), (957, [true, true, true, true]), (990, [true, true, true, true]), (1003, [true, true, true, true]), (1026, [true, true, true, true]), (1049, [true, true, true, true]), (1072, [true, true, true, true]), (1105, [true, true, true, true]), (1128, [true, true, true, true]), (1151, [true, true, true, true]), (1184, [true, true, true, true]), (1197, [true, true, true, true]), (1211, [true, true, true, true]), (1225, [true, true, true, true]), (1248, [true, true, true, true]), (1261, [true, true, true, true]), (1284, [true, true, true, true]), (1298, [true, true, true, true])]) lk_La_ok (by decide +kernel) 20 true _ _ _ _ h
def tb_La_law_1284 : List En := [e0 1284 (.aload_n 1) 1, eT 1285 (.invokevirtual 179) 3 80, e0 1288 (.aload_n 2) 1, eT 1289 (.invokevirtual 182) 3 81, e0 1292 .lcmp 1, eT 1293 (.ifCond .eq 5) 3 1298, eC 1296 (.iconst 0) 1 0, e0 1297 .ireturn 1]
set_option maxRecDepth 100000 in
theorem b_La_law_1284 {G : Ge} (x3 : Int32) {μ : Mm} {K : Int32 → Mm → Prop} (h :
  (CS G m_Cs_digest [vr 6 0] μ (RL fun v1 μ1 =>
   (CS G m_Mo_digest [vr 7 0] μ1 (RL fun v2 μ2 =>
    (if (lg_cmp v1 v2) = 0 then
     SS G m_La_law 1298 [vr 57 0, vr 6 0, vr 7 0, vi x3] [] μ2 (RI K)
    else
     (((0 : Int32) = 0 ∨ (0 : Int32) = 1) ∧ K 0 μ2))))))) :
  SS G m_La_law 1284 [vr 57 0, vr 6 0, vr 7 0, vi x3] [] μ (RI K) :=
  wp_s (M := m_La_law) (lk := lk_La) (tb := tb_La_law_1284) (cu := [(18, [true, true, true, true]), (212, [true, true, true, true]), (245, [true, true, true, true]), (288, [true, true, true, true]), (321, [true, true, true, true]), (344, [true, true, true, true]), (407, [true, true, true, true]), (430, [true, true, true, true]), (463, [true, true, true, true]), (506, [true, true, true, true]), (529, [true, true, true, true]), (552, [true, true, true, true]), (585, [true, true, true, true]), (608, [true, true, true, true]), (641, [true, true, true, true]), (674, [true, true, true, true]), (707, [true, true, true, true]), (750, [true, true, true, true]), (763, [true, true, true, true]), (786, [true, true, true, true]), (809, [true, true, true, true]), (832, [true, true, true, true]), (865, [true, true, true, true]), (888, [true, true, true, true]), (921, [true, true, true, true]), (944, [true, true, true, true]), (957, [true, true, true, true]), (990, [true, true, true, true]), (1003, [true, true, true, true]), (1026, [true, true, true, true]), (1049, [true, true, true, true]), (1072, [true, true, true, true]), (1105, [true, true, true, true]), (1128, [true, true, true, true]), (1151, [true, true, true, true]), (1184, [true, true, true, true]), (1197, [true, true, true, true]), (1211, [true, true, true, true]), (1225, [true, true, true, true]), (1248, [true, true, true, true]), (1261, [true, true, true, true]), (1284, [true, true, true, true]), (1298, [true, true, true, true])]) lk_La_ok (by decide +kernel) 11 true _ _ _ _ h
def tb_La_law_1298 : List En := [eC 1298 (.iinc 3 6) 3 6, eT 1301 (.goto (-1283)) 3 18]
set_option maxRecDepth 100000 in
theorem b_La_law_1298 {G : Ge} (x3 : Int32) {μ : Mm} {K : Int32 → Mm → Prop} (h :
  SS G m_La_law 18 [vr 57 0, vr 6 0, vr 7 0, vi (x3 + 6)] [] μ (RI K)) :
  SS G m_La_law 1298 [vr 57 0, vr 6 0, vr 7 0, vi x3] [] μ (RI K) :=
  wp_s (M := m_La_law) (lk := lk_La) (tb := tb_La_law_1298) (cu := [(18, [true, true, true, true]), (212, [true, true, true, true]), (245, [true, true, true, true]), (288, [true, true, true, true]), (321, [true, true, true, true]), (344, [true, true, true, true]), (407, [true, true, true, true]), (430, [true, true, true, true]), (463, [true, true, true, true]), (506, [true, true, true, true]), (529, [true, true, true, true]), (552, [true, true, true, true]), (585, [true, true, true, true]), (608, [true, true, true, true]), (641, [true, true, true, true]), (674, [true, true, true, true]), (707, [true, true, true, true]), (750, [true, true, true, true]), (763, [true, true, true, true]), (786, [true, true, true, true]), (809, [true, true, true, true]), (832, [true, true, true, true]), (865, [true, true, true, true]), (888, [true, true, true, true]), (921, [true, true, true, true]), (944, [true, true, true, true]), (957, [true, true, true, true]), (990, [true, true, true, true]), (1003, [true, true, true, true]), (1026, [true, true, true, true]), (1049, [true, true, true, true]), (1072, [true, true, true, true]), (1105, [true, true, true, true]), (1128, [true, true, true, true]), (1151, [true, true, true, true]), (1184, [true, true, true, true]), (1197, [true, true, true, true]), (1211, [true, true, true, true]), (1225, [true, true, true, true]), (1248, [true, true, true, true]), (1261, [true, true, true, true]), (1284, [true, true, true, true]), (1298, [true, true, true, true])]) lk_La_ok (by decide +kernel) 6 true _ _ _ _ h
