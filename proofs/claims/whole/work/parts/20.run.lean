/-! runs of the abstract machine -/
def xq_dt0 : List (Nat × Bool × ByteArray × List (Nat × Instr × Nat × Nat × Nat × Nat)) := [(11, true, prog_1_method_1_code, xq_c0), (10, true, prog_12_method_1_code, xq_c1), (1, true, prog_3_method_1_code, xq_c2), (2, true, prog_4_method_1_code, xq_c3), (4, true, prog_6_method_1_code, xq_c4), (6, true, prog_8_method_1_code, xq_c5), (0, true, prog_2_method_1_code, xq_c6), (14, false, prog_17_method_65_code, xq_c7), (9, true, prog_11_method_1_code, xq_c8), (8, true, prog_10_method_1_code, xq_c9), (7, true, prog_9_method_1_code, xq_c10), (3, true, prog_5_method_1_code, xq_c11), (5, true, prog_7_method_1_code, xq_c12), (11, false, prog_1_method_2_code, xq_c13), (11, false, prog_1_method_34_code, xq_c14), (8, false, prog_10_method_2_code, xq_c15), (11, false, prog_1_method_3_code, xq_c16), (11, false, prog_1_method_4_code, xq_c17), (11, false, prog_1_method_5_code, xq_c18), (6, false, prog_8_method_7_code, xq_c19), (6, false, prog_8_method_6_code, xq_c20), (11, false, prog_1_method_6_code, xq_c21), (5, false, prog_7_method_2_code, xq_c22), (5, false, prog_7_method_3_code, xq_c23), (11, false, prog_1_method_7_code, xq_c24), (5, false, prog_7_method_4_code, xq_c25), (11, false, prog_1_method_8_code, xq_c26), (5, false, prog_7_method_6_code, xq_c27), (5, false, prog_7_method_7_code, xq_c28), (5, false, prog_7_method_9_code, xq_c29), (5, false, prog_7_method_8_code, xq_c30), (11, false, prog_1_method_9_code, xq_c31), (1, false, prog_3_method_2_code, xq_c32), (1, false, prog_3_method_8_code, xq_c33), (5, false, prog_7_method_11_code, xq_c34), (5, false, prog_7_method_13_code, xq_c35), (5, false, prog_7_method_10_code, xq_c36), (1, false, prog_3_method_9_code, xq_c37), (5, false, prog_7_method_12_code, xq_c38), (14, false, prog_17_method_69_code, xq_c39)]
def xq_dt1 : List (Nat × Bool × ByteArray × List (Nat × Instr × Nat × Nat × Nat × Nat)) := [(5, false, prog_7_method_16_code, xq_c40), (5, false, prog_7_method_17_code, xq_c41), (5, false, prog_7_method_18_code, xq_c42), (1, false, prog_3_method_10_code, xq_c43), (5, false, prog_7_method_19_code, xq_c44), (5, false, prog_7_method_14_code, xq_c45), (1, false, prog_3_method_11_code, xq_c46), (1, false, prog_3_method_12_code, xq_c47), (6, false, prog_8_method_3_code, xq_c48), (16, false, prog_22_method_103_code, xq_c49), (2, false, prog_4_method_5_code, xq_c50), (2, false, prog_4_method_8_code, xq_c51), (2, false, prog_4_method_9_code, xq_c52), (2, false, prog_4_method_10_code, xq_c53), (5, false, prog_7_method_15_code, xq_c54), (2, false, prog_4_method_11_code, xq_c55), (2, false, prog_4_method_6_code, xq_c56), (2, false, prog_4_method_7_code, xq_c57), (2, false, prog_4_method_2_code, xq_c58), (4, false, prog_6_method_4_code, xq_c59), (4, false, prog_6_method_5_code, xq_c60), (4, false, prog_6_method_6_code, xq_c61), (4, false, prog_6_method_7_code, xq_c62), (4, false, prog_6_method_9_code, xq_c63), (4, false, prog_6_method_8_code, xq_c64), (4, false, prog_6_method_10_code, xq_c65), (4, false, prog_6_method_2_code, xq_c66), (5, false, prog_7_method_5_code, xq_c67), (11, false, prog_1_method_10_code, xq_c68), (11, false, prog_1_method_11_code, xq_c69), (3, false, prog_5_method_2_code, xq_c70), (6, false, prog_8_method_2_code, xq_c71), (9, false, prog_11_method_3_code, xq_c72), (9, false, prog_11_method_4_code, xq_c73), (6, false, prog_8_method_4_code, xq_c74), (6, false, prog_8_method_10_code, xq_c75), (6, false, prog_8_method_11_code, xq_c76), (9, false, prog_11_method_5_code, xq_c77), (9, false, prog_11_method_6_code, xq_c78), (0, false, prog_2_method_3_code, xq_c79)]
def xq_dt2 : List (Nat × Bool × ByteArray × List (Nat × Instr × Nat × Nat × Nat × Nat)) := [(9, false, prog_11_method_7_code, xq_c80), (9, false, prog_11_method_8_code, xq_c81), (9, false, prog_11_method_9_code, xq_c82), (1, false, prog_3_method_7_code, xq_c83), (2, false, prog_4_method_3_code, xq_c84), (2, false, prog_4_method_4_code, xq_c85), (9, false, prog_11_method_10_code, xq_c86), (9, false, prog_11_method_11_code, xq_c87), (6, false, prog_8_method_5_code, xq_c88), (9, false, prog_11_method_13_code, xq_c89), (9, false, prog_11_method_12_code, xq_c90), (1, false, prog_3_method_6_code, xq_c91), (14, false, prog_17_method_59_code, xq_c92), (9, false, prog_11_method_2_code, xq_c93), (1, false, prog_3_method_5_code, xq_c94), (9, false, prog_11_method_14_code, xq_c95), (9, false, prog_11_method_15_code, xq_c96), (9, false, prog_11_method_16_code, xq_c97), (6, false, prog_8_method_12_code, xq_c98), (11, false, prog_1_method_12_code, xq_c99), (4, false, prog_6_method_3_code, xq_c100), (9, false, prog_11_method_17_code, xq_c101), (9, false, prog_11_method_18_code, xq_c102), (11, false, prog_1_method_13_code, xq_c103), (8, false, prog_10_method_5_code, xq_c104), (8, false, prog_10_method_3_code, xq_c105), (15, false, prog_16_method_49_code, xq_c106), (8, false, prog_10_method_6_code, xq_c107), (9, false, prog_11_method_19_code, xq_c108), (9, false, prog_11_method_20_code, xq_c109), (9, false, prog_11_method_21_code, xq_c110), (9, false, prog_11_method_22_code, xq_c111), (9, false, prog_11_method_23_code, xq_c112), (11, false, prog_1_method_14_code, xq_c113), (1, false, prog_3_method_3_code, xq_c114), (11, false, prog_1_method_15_code, xq_c115), (1, false, prog_3_method_4_code, xq_c116), (6, false, prog_8_method_8_code, xq_c117), (11, false, prog_1_method_16_code, xq_c118), (11, false, prog_1_method_17_code, xq_c119)]
def xq_dt3 : List (Nat × Bool × ByteArray × List (Nat × Instr × Nat × Nat × Nat × Nat)) := [(11, false, prog_1_method_18_code, xq_c120), (8, false, prog_10_method_4_code, xq_c121), (11, false, prog_1_method_19_code, xq_c122), (8, false, prog_10_method_7_code, xq_c123), (8, false, prog_10_method_8_code, xq_c124), (8, false, prog_10_method_9_code, xq_c125), (8, false, prog_10_method_10_code, xq_c126), (8, false, prog_10_method_11_code, xq_c127), (11, false, prog_1_method_20_code, xq_c128), (8, false, prog_10_method_12_code, xq_c129), (11, false, prog_1_method_21_code, xq_c130), (8, false, prog_10_method_13_code, xq_c131), (11, false, prog_1_method_22_code, xq_c132), (8, false, prog_10_method_14_code, xq_c133), (11, false, prog_1_method_23_code, xq_c134), (11, false, prog_1_method_24_code, xq_c135), (7, false, prog_9_method_3_code, xq_c136), (7, false, prog_9_method_4_code, xq_c137), (7, false, prog_9_method_5_code, xq_c138), (11, false, prog_1_method_25_code, xq_c139), (7, false, prog_9_method_2_code, xq_c140), (11, false, prog_1_method_26_code, xq_c141), (0, false, prog_2_method_4_code, xq_c142), (11, false, prog_1_method_27_code, xq_c143), (6, false, prog_8_method_9_code, xq_c144), (11, false, prog_1_method_28_code, xq_c145), (8, false, prog_10_method_15_code, xq_c146), (11, false, prog_1_method_29_code, xq_c147), (8, false, prog_10_method_16_code, xq_c148), (11, false, prog_1_method_30_code, xq_c149), (8, false, prog_10_method_17_code, xq_c150), (11, false, prog_1_method_31_code, xq_c151), (3, false, prog_5_method_3_code, xq_c152), (11, false, prog_1_method_32_code, xq_c153), (10, false, prog_12_method_2_code, xq_c154), (0, false, prog_2_method_2_code, xq_c155), (11, false, prog_1_method_33_code, xq_c156), (12, true, prog_14_method_1_code, xq_c157), (12, false, prog_14_method_13_code, xq_c158), (12, false, prog_14_method_12_code, xq_c159)]
def xq_dt4 : List (Nat × Bool × ByteArray × List (Nat × Instr × Nat × Nat × Nat × Nat)) := [(12, false, prog_14_method_16_code, xq_c160), (12, false, prog_14_method_2_code, xq_c161), (12, false, prog_14_method_15_code, xq_c162), (12, false, prog_14_method_17_code, xq_c163), (12, false, prog_14_method_19_code, xq_c164), (12, false, prog_14_method_8_code, xq_c165), (12, false, prog_14_method_18_code, xq_c166), (12, false, prog_14_method_21_code, xq_c167), (12, false, prog_14_method_22_code, xq_c168), (12, false, prog_14_method_59_code, xq_c169), (12, false, prog_14_method_32_code, xq_c170), (12, false, prog_14_method_23_code, xq_c171), (12, false, prog_14_method_24_code, xq_c172), (12, false, prog_14_method_31_code, xq_c173), (12, false, prog_14_method_28_code, xq_c174), (12, false, prog_14_method_26_code, xq_c175), (12, false, prog_14_method_29_code, xq_c176), (12, false, prog_14_method_27_code, xq_c177), (12, false, prog_14_method_30_code, xq_c178), (12, false, prog_14_method_25_code, xq_c179), (12, false, prog_14_method_44_code, xq_c180), (12, false, prog_14_method_43_code, xq_c181), (12, false, prog_14_method_33_code, xq_c182), (12, false, prog_14_method_37_code, xq_c183), (12, false, prog_14_method_38_code, xq_c184), (12, false, prog_14_method_39_code, xq_c185), (12, false, prog_14_method_35_code, xq_c186), (12, false, prog_14_method_40_code, xq_c187), (12, false, prog_14_method_41_code, xq_c188), (12, false, prog_14_method_42_code, xq_c189), (12, false, prog_14_method_36_code, xq_c190), (12, false, prog_14_method_34_code, xq_c191), (12, false, prog_14_method_54_code, xq_c192), (12, false, prog_14_method_53_code, xq_c193), (12, false, prog_14_method_52_code, xq_c194), (12, false, prog_14_method_45_code, xq_c195), (12, false, prog_14_method_49_code, xq_c196), (12, false, prog_14_method_51_code, xq_c197), (12, false, prog_14_method_50_code, xq_c198), (12, false, prog_14_method_56_code, xq_c199)]
def xq_dt5 : List (Nat × Bool × ByteArray × List (Nat × Instr × Nat × Nat × Nat × Nat)) := [(12, false, prog_14_method_47_code, xq_c200), (12, false, prog_14_method_46_code, xq_c201), (12, false, prog_14_method_48_code, xq_c202), (12, false, prog_14_method_57_code, xq_c203), (12, false, prog_14_method_55_code, xq_c204), (12, false, prog_14_method_58_code, xq_c205), (12, false, prog_14_method_7_code, xq_c206), (12, false, prog_14_method_6_code, xq_c207), (12, false, prog_14_method_20_code, xq_c208), (12, false, prog_14_method_60_code, xq_c209), (12, false, prog_14_method_84_code, xq_c210), (12, false, prog_14_method_85_code, xq_c211), (12, false, prog_14_method_83_code, xq_c212), (12, false, prog_14_method_82_code, xq_c213), (12, false, prog_14_method_5_code, xq_c214), (12, false, prog_14_method_14_code, xq_c215), (12, false, prog_14_method_3_code, xq_c216), (12, false, prog_14_method_4_code, xq_c217), (12, false, prog_14_method_68_code, xq_c218), (12, false, prog_14_method_69_code, xq_c219), (12, false, prog_14_method_63_code, xq_c220), (12, false, prog_14_method_73_code, xq_c221), (12, false, prog_14_method_65_code, xq_c222), (12, false, prog_14_method_66_code, xq_c223), (12, false, prog_14_method_9_code, xq_c224), (12, false, prog_14_method_72_code, xq_c225), (12, false, prog_14_method_70_code, xq_c226), (12, false, prog_14_method_10_code, xq_c227), (12, false, prog_14_method_64_code, xq_c228), (12, false, prog_14_method_11_code, xq_c229), (12, false, prog_14_method_71_code, xq_c230), (12, false, prog_14_method_62_code, xq_c231), (12, false, prog_14_method_61_code, xq_c232), (12, false, prog_14_method_67_code, xq_c233), (12, false, prog_14_method_79_code, xq_c234), (12, false, prog_14_method_78_code, xq_c235), (12, false, prog_14_method_77_code, xq_c236), (12, false, prog_14_method_74_code, xq_c237), (12, false, prog_14_method_76_code, xq_c238), (12, false, prog_14_method_75_code, xq_c239)]
def xq_dt6 : List (Nat × Bool × ByteArray × List (Nat × Instr × Nat × Nat × Nat × Nat)) := [(12, false, prog_14_method_80_code, xq_c240), (12, false, prog_14_method_81_code, xq_c241), (12, false, prog_14_method_89_code, xq_c242), (12, false, prog_14_method_88_code, xq_c243), (12, false, prog_14_method_86_code, xq_c244), (12, false, prog_14_method_87_code, xq_c245), (12, false, prog_14_method_90_code, xq_c246), (12, false, prog_14_method_91_code, xq_c247), (12, false, prog_14_method_92_code, xq_c248), (12, false, prog_14_method_93_code, xq_c249), (12, false, prog_14_method_98_code, xq_c250), (12, false, prog_14_method_97_code, xq_c251), (12, false, prog_14_method_94_code, xq_c252), (12, false, prog_14_method_96_code, xq_c253), (12, false, prog_14_method_95_code, xq_c254), (12, false, prog_14_method_100_code, xq_c255), (12, false, prog_14_method_99_code, xq_c256), (12, false, prog_14_method_101_code, xq_c257), (12, false, prog_14_method_102_code, xq_c258), (12, false, prog_14_method_103_code, xq_c259), (12, false, prog_14_method_104_code, xq_c260), (12, false, prog_14_method_105_code, xq_c261), (12, false, prog_14_method_106_code, xq_c262), (12, false, prog_14_method_107_code, xq_c263), (12, false, prog_14_method_108_code, xq_c264), (12, false, prog_14_method_111_code, xq_c265), (12, false, prog_14_method_109_code, xq_c266), (12, false, prog_14_method_110_code, xq_c267), (12, false, prog_14_method_112_code, xq_c268), (12, false, prog_14_method_113_code, xq_c269), (12, false, prog_14_method_114_code, xq_c270), (12, false, prog_14_method_115_code, xq_c271), (12, false, prog_14_method_116_code, xq_c272)]
def xq_dt : List (Nat × Bool × ByteArray × List (Nat × Instr × Nat × Nat × Nat × Nat)) := xq_dt0 ++ (xq_dt1 ++ (xq_dt2 ++ (xq_dt3 ++ (xq_dt4 ++ (xq_dt5 ++ (xq_dt6))))))
theorem xq_dq0 : ∀ q ∈ xq_dt0, q.2.2.2.all (xq_rok q.1 q.2.1 q.2.2.1) = true := List.forall_mem_cons.mpr ⟨xq_d0, List.forall_mem_cons.mpr ⟨xq_d1, List.forall_mem_cons.mpr ⟨xq_d2, List.forall_mem_cons.mpr ⟨xq_d3, List.forall_mem_cons.mpr ⟨xq_d4, List.forall_mem_cons.mpr ⟨xq_d5, List.forall_mem_cons.mpr ⟨xq_d6, List.forall_mem_cons.mpr ⟨xq_d7, List.forall_mem_cons.mpr ⟨xq_d8, List.forall_mem_cons.mpr ⟨xq_d9, List.forall_mem_cons.mpr ⟨xq_d10, List.forall_mem_cons.mpr ⟨xq_d11, List.forall_mem_cons.mpr ⟨xq_d12, List.forall_mem_cons.mpr ⟨xq_d13, List.forall_mem_cons.mpr ⟨xq_d14, List.forall_mem_cons.mpr ⟨xq_d15, List.forall_mem_cons.mpr ⟨xq_d16, List.forall_mem_cons.mpr ⟨xq_d17, List.forall_mem_cons.mpr ⟨xq_d18, List.forall_mem_cons.mpr ⟨xq_d19, List.forall_mem_cons.mpr ⟨xq_d20, List.forall_mem_cons.mpr ⟨xq_d21, List.forall_mem_cons.mpr ⟨xq_d22, List.forall_mem_cons.mpr ⟨xq_d23, List.forall_mem_cons.mpr ⟨xq_d24, List.forall_mem_cons.mpr ⟨xq_d25, List.forall_mem_cons.mpr ⟨xq_d26, List.forall_mem_cons.mpr ⟨xq_d27, List.forall_mem_cons.mpr ⟨xq_d28, List.forall_mem_cons.mpr ⟨xq_d29, List.forall_mem_cons.mpr ⟨xq_d30, List.forall_mem_cons.mpr ⟨xq_d31, List.forall_mem_cons.mpr ⟨xq_d32, List.forall_mem_cons.mpr ⟨xq_d33, List.forall_mem_cons.mpr ⟨xq_d34, List.forall_mem_cons.mpr ⟨xq_d35, List.forall_mem_cons.mpr ⟨xq_d36, List.forall_mem_cons.mpr ⟨xq_d37, List.forall_mem_cons.mpr ⟨xq_d38, List.forall_mem_cons.mpr ⟨xq_d39, fun _ h => absurd h List.not_mem_nil⟩⟩⟩⟩⟩⟩⟩⟩⟩⟩⟩⟩⟩⟩⟩⟩⟩⟩⟩⟩⟩⟩⟩⟩⟩⟩⟩⟩⟩⟩⟩⟩⟩⟩⟩⟩⟩⟩⟩⟩
theorem xq_dq1 : ∀ q ∈ xq_dt1, q.2.2.2.all (xq_rok q.1 q.2.1 q.2.2.1) = true := List.forall_mem_cons.mpr ⟨xq_d40, List.forall_mem_cons.mpr ⟨xq_d41, List.forall_mem_cons.mpr ⟨xq_d42, List.forall_mem_cons.mpr ⟨xq_d43, List.forall_mem_cons.mpr ⟨xq_d44, List.forall_mem_cons.mpr ⟨xq_d45, List.forall_mem_cons.mpr ⟨xq_d46, List.forall_mem_cons.mpr ⟨xq_d47, List.forall_mem_cons.mpr ⟨xq_d48, List.forall_mem_cons.mpr ⟨xq_d49, List.forall_mem_cons.mpr ⟨xq_d50, List.forall_mem_cons.mpr ⟨xq_d51, List.forall_mem_cons.mpr ⟨xq_d52, List.forall_mem_cons.mpr ⟨xq_d53, List.forall_mem_cons.mpr ⟨xq_d54, List.forall_mem_cons.mpr ⟨xq_d55, List.forall_mem_cons.mpr ⟨xq_d56, List.forall_mem_cons.mpr ⟨xq_d57, List.forall_mem_cons.mpr ⟨xq_d58, List.forall_mem_cons.mpr ⟨xq_d59, List.forall_mem_cons.mpr ⟨xq_d60, List.forall_mem_cons.mpr ⟨xq_d61, List.forall_mem_cons.mpr ⟨xq_d62, List.forall_mem_cons.mpr ⟨xq_d63, List.forall_mem_cons.mpr ⟨xq_d64, List.forall_mem_cons.mpr ⟨xq_d65, List.forall_mem_cons.mpr ⟨xq_d66, List.forall_mem_cons.mpr ⟨xq_d67, List.forall_mem_cons.mpr ⟨xq_d68, List.forall_mem_cons.mpr ⟨xq_d69, List.forall_mem_cons.mpr ⟨xq_d70, List.forall_mem_cons.mpr ⟨xq_d71, List.forall_mem_cons.mpr ⟨xq_d72, List.forall_mem_cons.mpr ⟨xq_d73, List.forall_mem_cons.mpr ⟨xq_d74, List.forall_mem_cons.mpr ⟨xq_d75, List.forall_mem_cons.mpr ⟨xq_d76, List.forall_mem_cons.mpr ⟨xq_d77, List.forall_mem_cons.mpr ⟨xq_d78, List.forall_mem_cons.mpr ⟨xq_d79, fun _ h => absurd h List.not_mem_nil⟩⟩⟩⟩⟩⟩⟩⟩⟩⟩⟩⟩⟩⟩⟩⟩⟩⟩⟩⟩⟩⟩⟩⟩⟩⟩⟩⟩⟩⟩⟩⟩⟩⟩⟩⟩⟩⟩⟩⟩
theorem xq_dq2 : ∀ q ∈ xq_dt2, q.2.2.2.all (xq_rok q.1 q.2.1 q.2.2.1) = true := List.forall_mem_cons.mpr ⟨xq_d80, List.forall_mem_cons.mpr ⟨xq_d81, List.forall_mem_cons.mpr ⟨xq_d82, List.forall_mem_cons.mpr ⟨xq_d83, List.forall_mem_cons.mpr ⟨xq_d84, List.forall_mem_cons.mpr ⟨xq_d85, List.forall_mem_cons.mpr ⟨xq_d86, List.forall_mem_cons.mpr ⟨xq_d87, List.forall_mem_cons.mpr ⟨xq_d88, List.forall_mem_cons.mpr ⟨xq_d89, List.forall_mem_cons.mpr ⟨xq_d90, List.forall_mem_cons.mpr ⟨xq_d91, List.forall_mem_cons.mpr ⟨xq_d92, List.forall_mem_cons.mpr ⟨xq_d93, List.forall_mem_cons.mpr ⟨xq_d94, List.forall_mem_cons.mpr ⟨xq_d95, List.forall_mem_cons.mpr ⟨xq_d96, List.forall_mem_cons.mpr ⟨xq_d97, List.forall_mem_cons.mpr ⟨xq_d98, List.forall_mem_cons.mpr ⟨xq_d99, List.forall_mem_cons.mpr ⟨xq_d100, List.forall_mem_cons.mpr ⟨xq_d101, List.forall_mem_cons.mpr ⟨xq_d102, List.forall_mem_cons.mpr ⟨xq_d103, List.forall_mem_cons.mpr ⟨xq_d104, List.forall_mem_cons.mpr ⟨xq_d105, List.forall_mem_cons.mpr ⟨xq_d106, List.forall_mem_cons.mpr ⟨xq_d107, List.forall_mem_cons.mpr ⟨xq_d108, List.forall_mem_cons.mpr ⟨xq_d109, List.forall_mem_cons.mpr ⟨xq_d110, List.forall_mem_cons.mpr ⟨xq_d111, List.forall_mem_cons.mpr ⟨xq_d112, List.forall_mem_cons.mpr ⟨xq_d113, List.forall_mem_cons.mpr ⟨xq_d114, List.forall_mem_cons.mpr ⟨xq_d115, List.forall_mem_cons.mpr ⟨xq_d116, List.forall_mem_cons.mpr ⟨xq_d117, List.forall_mem_cons.mpr ⟨xq_d118, List.forall_mem_cons.mpr ⟨xq_d119, fun _ h => absurd h List.not_mem_nil⟩⟩⟩⟩⟩⟩⟩⟩⟩⟩⟩⟩⟩⟩⟩⟩⟩⟩⟩⟩⟩⟩⟩⟩⟩⟩⟩⟩⟩⟩⟩⟩⟩⟩⟩⟩⟩⟩⟩⟩
theorem xq_dq3 : ∀ q ∈ xq_dt3, q.2.2.2.all (xq_rok q.1 q.2.1 q.2.2.1) = true := List.forall_mem_cons.mpr ⟨xq_d120, List.forall_mem_cons.mpr ⟨xq_d121, List.forall_mem_cons.mpr ⟨xq_d122, List.forall_mem_cons.mpr ⟨xq_d123, List.forall_mem_cons.mpr ⟨xq_d124, List.forall_mem_cons.mpr ⟨xq_d125, List.forall_mem_cons.mpr ⟨xq_d126, List.forall_mem_cons.mpr ⟨xq_d127, List.forall_mem_cons.mpr ⟨xq_d128, List.forall_mem_cons.mpr ⟨xq_d129, List.forall_mem_cons.mpr ⟨xq_d130, List.forall_mem_cons.mpr ⟨xq_d131, List.forall_mem_cons.mpr ⟨xq_d132, List.forall_mem_cons.mpr ⟨xq_d133, List.forall_mem_cons.mpr ⟨xq_d134, List.forall_mem_cons.mpr ⟨xq_d135, List.forall_mem_cons.mpr ⟨xq_d136, List.forall_mem_cons.mpr ⟨xq_d137, List.forall_mem_cons.mpr ⟨xq_d138, List.forall_mem_cons.mpr ⟨xq_d139, List.forall_mem_cons.mpr ⟨xq_d140, List.forall_mem_cons.mpr ⟨xq_d141, List.forall_mem_cons.mpr ⟨xq_d142, List.forall_mem_cons.mpr ⟨xq_d143, List.forall_mem_cons.mpr ⟨xq_d144, List.forall_mem_cons.mpr ⟨xq_d145, List.forall_mem_cons.mpr ⟨xq_d146, List.forall_mem_cons.mpr ⟨xq_d147, List.forall_mem_cons.mpr ⟨xq_d148, List.forall_mem_cons.mpr ⟨xq_d149, List.forall_mem_cons.mpr ⟨xq_d150, List.forall_mem_cons.mpr ⟨xq_d151, List.forall_mem_cons.mpr ⟨xq_d152, List.forall_mem_cons.mpr ⟨xq_d153, List.forall_mem_cons.mpr ⟨xq_d154, List.forall_mem_cons.mpr ⟨xq_d155, List.forall_mem_cons.mpr ⟨xq_d156, List.forall_mem_cons.mpr ⟨xq_d157, List.forall_mem_cons.mpr ⟨xq_d158, List.forall_mem_cons.mpr ⟨xq_d159, fun _ h => absurd h List.not_mem_nil⟩⟩⟩⟩⟩⟩⟩⟩⟩⟩⟩⟩⟩⟩⟩⟩⟩⟩⟩⟩⟩⟩⟩⟩⟩⟩⟩⟩⟩⟩⟩⟩⟩⟩⟩⟩⟩⟩⟩⟩
theorem xq_dq4 : ∀ q ∈ xq_dt4, q.2.2.2.all (xq_rok q.1 q.2.1 q.2.2.1) = true := List.forall_mem_cons.mpr ⟨xq_d160, List.forall_mem_cons.mpr ⟨xq_d161, List.forall_mem_cons.mpr ⟨xq_d162, List.forall_mem_cons.mpr ⟨xq_d163, List.forall_mem_cons.mpr ⟨xq_d164, List.forall_mem_cons.mpr ⟨xq_d165, List.forall_mem_cons.mpr ⟨xq_d166, List.forall_mem_cons.mpr ⟨xq_d167, List.forall_mem_cons.mpr ⟨xq_d168, List.forall_mem_cons.mpr ⟨xq_d169, List.forall_mem_cons.mpr ⟨xq_d170, List.forall_mem_cons.mpr ⟨xq_d171, List.forall_mem_cons.mpr ⟨xq_d172, List.forall_mem_cons.mpr ⟨xq_d173, List.forall_mem_cons.mpr ⟨xq_d174, List.forall_mem_cons.mpr ⟨xq_d175, List.forall_mem_cons.mpr ⟨xq_d176, List.forall_mem_cons.mpr ⟨xq_d177, List.forall_mem_cons.mpr ⟨xq_d178, List.forall_mem_cons.mpr ⟨xq_d179, List.forall_mem_cons.mpr ⟨xq_d180, List.forall_mem_cons.mpr ⟨xq_d181, List.forall_mem_cons.mpr ⟨xq_d182, List.forall_mem_cons.mpr ⟨xq_d183, List.forall_mem_cons.mpr ⟨xq_d184, List.forall_mem_cons.mpr ⟨xq_d185, List.forall_mem_cons.mpr ⟨xq_d186, List.forall_mem_cons.mpr ⟨xq_d187, List.forall_mem_cons.mpr ⟨xq_d188, List.forall_mem_cons.mpr ⟨xq_d189, List.forall_mem_cons.mpr ⟨xq_d190, List.forall_mem_cons.mpr ⟨xq_d191, List.forall_mem_cons.mpr ⟨xq_d192, List.forall_mem_cons.mpr ⟨xq_d193, List.forall_mem_cons.mpr ⟨xq_d194, List.forall_mem_cons.mpr ⟨xq_d195, List.forall_mem_cons.mpr ⟨xq_d196, List.forall_mem_cons.mpr ⟨xq_d197, List.forall_mem_cons.mpr ⟨xq_d198, List.forall_mem_cons.mpr ⟨xq_d199, fun _ h => absurd h List.not_mem_nil⟩⟩⟩⟩⟩⟩⟩⟩⟩⟩⟩⟩⟩⟩⟩⟩⟩⟩⟩⟩⟩⟩⟩⟩⟩⟩⟩⟩⟩⟩⟩⟩⟩⟩⟩⟩⟩⟩⟩⟩
theorem xq_dq5 : ∀ q ∈ xq_dt5, q.2.2.2.all (xq_rok q.1 q.2.1 q.2.2.1) = true := List.forall_mem_cons.mpr ⟨xq_d200, List.forall_mem_cons.mpr ⟨xq_d201, List.forall_mem_cons.mpr ⟨xq_d202, List.forall_mem_cons.mpr ⟨xq_d203, List.forall_mem_cons.mpr ⟨xq_d204, List.forall_mem_cons.mpr ⟨xq_d205, List.forall_mem_cons.mpr ⟨xq_d206, List.forall_mem_cons.mpr ⟨xq_d207, List.forall_mem_cons.mpr ⟨xq_d208, List.forall_mem_cons.mpr ⟨xq_d209, List.forall_mem_cons.mpr ⟨xq_d210, List.forall_mem_cons.mpr ⟨xq_d211, List.forall_mem_cons.mpr ⟨xq_d212, List.forall_mem_cons.mpr ⟨xq_d213, List.forall_mem_cons.mpr ⟨xq_d214, List.forall_mem_cons.mpr ⟨xq_d215, List.forall_mem_cons.mpr ⟨xq_d216, List.forall_mem_cons.mpr ⟨xq_d217, List.forall_mem_cons.mpr ⟨xq_d218, List.forall_mem_cons.mpr ⟨xq_d219, List.forall_mem_cons.mpr ⟨xq_d220, List.forall_mem_cons.mpr ⟨xq_d221, List.forall_mem_cons.mpr ⟨xq_d222, List.forall_mem_cons.mpr ⟨xq_d223, List.forall_mem_cons.mpr ⟨xq_d224, List.forall_mem_cons.mpr ⟨xq_d225, List.forall_mem_cons.mpr ⟨xq_d226, List.forall_mem_cons.mpr ⟨xq_d227, List.forall_mem_cons.mpr ⟨xq_d228, List.forall_mem_cons.mpr ⟨xq_d229, List.forall_mem_cons.mpr ⟨xq_d230, List.forall_mem_cons.mpr ⟨xq_d231, List.forall_mem_cons.mpr ⟨xq_d232, List.forall_mem_cons.mpr ⟨xq_d233, List.forall_mem_cons.mpr ⟨xq_d234, List.forall_mem_cons.mpr ⟨xq_d235, List.forall_mem_cons.mpr ⟨xq_d236, List.forall_mem_cons.mpr ⟨xq_d237, List.forall_mem_cons.mpr ⟨xq_d238, List.forall_mem_cons.mpr ⟨xq_d239, fun _ h => absurd h List.not_mem_nil⟩⟩⟩⟩⟩⟩⟩⟩⟩⟩⟩⟩⟩⟩⟩⟩⟩⟩⟩⟩⟩⟩⟩⟩⟩⟩⟩⟩⟩⟩⟩⟩⟩⟩⟩⟩⟩⟩⟩⟩
theorem xq_dq6 : ∀ q ∈ xq_dt6, q.2.2.2.all (xq_rok q.1 q.2.1 q.2.2.1) = true := List.forall_mem_cons.mpr ⟨xq_d240, List.forall_mem_cons.mpr ⟨xq_d241, List.forall_mem_cons.mpr ⟨xq_d242, List.forall_mem_cons.mpr ⟨xq_d243, List.forall_mem_cons.mpr ⟨xq_d244, List.forall_mem_cons.mpr ⟨xq_d245, List.forall_mem_cons.mpr ⟨xq_d246, List.forall_mem_cons.mpr ⟨xq_d247, List.forall_mem_cons.mpr ⟨xq_d248, List.forall_mem_cons.mpr ⟨xq_d249, List.forall_mem_cons.mpr ⟨xq_d250, List.forall_mem_cons.mpr ⟨xq_d251, List.forall_mem_cons.mpr ⟨xq_d252, List.forall_mem_cons.mpr ⟨xq_d253, List.forall_mem_cons.mpr ⟨xq_d254, List.forall_mem_cons.mpr ⟨xq_d255, List.forall_mem_cons.mpr ⟨xq_d256, List.forall_mem_cons.mpr ⟨xq_d257, List.forall_mem_cons.mpr ⟨xq_d258, List.forall_mem_cons.mpr ⟨xq_d259, List.forall_mem_cons.mpr ⟨xq_d260, List.forall_mem_cons.mpr ⟨xq_d261, List.forall_mem_cons.mpr ⟨xq_d262, List.forall_mem_cons.mpr ⟨xq_d263, List.forall_mem_cons.mpr ⟨xq_d264, List.forall_mem_cons.mpr ⟨xq_d265, List.forall_mem_cons.mpr ⟨xq_d266, List.forall_mem_cons.mpr ⟨xq_d267, List.forall_mem_cons.mpr ⟨xq_d268, List.forall_mem_cons.mpr ⟨xq_d269, List.forall_mem_cons.mpr ⟨xq_d270, List.forall_mem_cons.mpr ⟨xq_d271, List.forall_mem_cons.mpr ⟨xq_d272, fun _ h => absurd h List.not_mem_nil⟩⟩⟩⟩⟩⟩⟩⟩⟩⟩⟩⟩⟩⟩⟩⟩⟩⟩⟩⟩⟩⟩⟩⟩⟩⟩⟩⟩⟩⟩⟩⟩⟩
theorem xq_dq : ∀ q ∈ xq_dt, q.2.2.2.all (xq_rok q.1 q.2.1 q.2.2.1) = true := List.forall_mem_append.mpr ⟨xq_dq0, List.forall_mem_append.mpr ⟨xq_dq1, List.forall_mem_append.mpr ⟨xq_dq2, List.forall_mem_append.mpr ⟨xq_dq3, List.forall_mem_append.mpr ⟨xq_dq4, List.forall_mem_append.mpr ⟨xq_dq5, xq_dq6⟩⟩⟩⟩⟩⟩
theorem xq_dm0 : xq_dt0.map (fun q => (q.1, q.2.2.1)) = xq_ml0.map (fun r => (r.2.2.2.2, r.2.1)) := rfl
theorem xq_dm1 : xq_dt1.map (fun q => (q.1, q.2.2.1)) = xq_ml1.map (fun r => (r.2.2.2.2, r.2.1)) := rfl
theorem xq_dm2 : xq_dt2.map (fun q => (q.1, q.2.2.1)) = xq_ml2.map (fun r => (r.2.2.2.2, r.2.1)) := rfl
theorem xq_dm3 : xq_dt3.map (fun q => (q.1, q.2.2.1)) = xq_ml3.map (fun r => (r.2.2.2.2, r.2.1)) := rfl
theorem xq_dm4 : xq_dt4.map (fun q => (q.1, q.2.2.1)) = xq_ml4.map (fun r => (r.2.2.2.2, r.2.1)) := rfl
theorem xq_dm5 : xq_dt5.map (fun q => (q.1, q.2.2.1)) = xq_ml5.map (fun r => (r.2.2.2.2, r.2.1)) := rfl
theorem xq_dm6 : xq_dt6.map (fun q => (q.1, q.2.2.1)) = xq_ml6.map (fun r => (r.2.2.2.2, r.2.1)) := rfl
theorem xq_dm : xq_dt.map (fun q => (q.1, q.2.2.1)) = xq_ml.map (fun r => (r.2.2.2.2, r.2.1)) := by
  simp only [xq_dt, xq_ml, List.map_append, xq_dm0, xq_dm1, xq_dm2, xq_dm3, xq_dm4, xq_dm5, xq_dm6]
theorem xq_di : xq_dt.map (fun q => q.2.1) = xq_mp.map (fun r => r.1 == 2) := by decide +kernel
abbrev xq_de (m : Nat) : Nat × Bool × ByteArray × List (Nat × Instr × Nat × Nat × Nat × Nat) := xq_dt.getD m (0, false, ByteArray.empty, [])
def xq_code (m pc : Nat) : Option (Instr × Nat × Nat × Nat × Nat) := ((xq_de m).2.2.2.find? (fun q => q.1 == pc)).map (fun q => q.2)
def xq_rt (m : Nat) : Nat := (xq_mn m).2.2.2.1
def xq_ow (m : Nat) : Nat := (xq_mn m).2.2.2.2
/-- the receiver is of the class that the method is of -/
def xq_rc (i : Instr) (x : xq_S) (w : Nat) (As : List Value) : Bool := match i with
  | .invokevirtual _ => (match As with
    | .ref a :: _ => decide (a < xq_N x) && decide ((xq_K x a).1 = w)
    | _ => false)
  | .invokespecial _ => (match As with
    | .ref _ :: _ => true
    | _ => false)
  | _ => true
/-- a run: fuel, depth of calls, method, state, place, locals, stack -/
def xq_x : Nat → Nat → Nat → xq_S → Nat → List Value → List Value → Option (Option Value × xq_S)
  | 0, _, _, _, _, _, _ => none
  | F + 1, d, m, x, pc, L, st => match xq_code m pc with
    | none => none
    | some (i, _, a, b, c) =>
      if xq_isCall i a then
        match d, xq_args b st with
        | d' + 1, some (As, r) => if xq_room r && xq_rc i x (xq_ow a) As then
            match xq_x F d' a x 0 (As ++ List.replicate (c - b) xq_un) [] with
            | some (v, x') => xq_x F (d' + 1) m x' (pc + 3) L (v.toList ++ r)
            | none => none
          else none
        | _, _ => none
      else match xq_ret i (xq_rt m) st with
        | some v => some (v, x)
        | none => match xq_step i a b pc x L st with
          | some (pc', x', L', st') => xq_x F d m x' pc' L' st'
          | none => none
/-! cells are only made -/
def xq_le (x x' : xq_S) : Prop := xq_N x ≤ xq_N x' ∧ xq_Z x ≤ xq_Z x'
theorem xq_le_rf (x : xq_S) : xq_le x x := ⟨Nat.le_refl _, Nat.le_refl _⟩
theorem xq_le_tr {x y z : xq_S} (h : xq_le x y) (h2 : xq_le y z) : xq_le x z := ⟨Nat.le_trans h.1 h2.1, Nat.le_trans h.2 h2.2⟩
section xq_mono
variable {x x' : xq_S} {q pc' : Nat} {L L' st st' : List Value}
theorem xq_le_load {k : Nat} {int : Bool} (h : xq_load q x L st k int = some (pc', x', L', st')) : xq_le x x' := by
  unfold xq_load at h
  (repeat' split at h) <;> first | (cases h; exact xq_le_rf _) | cases h
theorem xq_le_store {k : Nat} {int : Bool} (h : xq_store q x L st k int = some (pc', x', L', st')) : xq_le x x' := by
  unfold xq_store at h
  (repeat' split at h) <;> first | (cases h; exact xq_le_rf _) | cases h
theorem xq_le_bin {f : Int32 → Int32 → Int32} (h : xq_bin f q x L st = some (pc', x', L', st')) : xq_le x x' := by
  unfold xq_bin at h
  (repeat' split at h) <;> first | (cases h; exact xq_le_rf _) | cases h
theorem xq_le_div {f : Int32 → Int32 → Int32} (h : xq_div f q x L st = some (pc', x', L', st')) : xq_le x x' := by
  unfold xq_div at h
  (repeat' split at h) <;> first | (cases h; exact xq_le_rf _) | cases h
theorem xq_le_lbin {f : Int64 → Int64 → Int64} (h : xq_lbin f q x L st = some (pc', x', L', st')) : xq_le x x' := by
  unfold xq_lbin at h
  (repeat' split at h) <;> first | (cases h; exact xq_le_rf _) | cases h
theorem xq_le_if1 {f : Int32 → Bool} {u : Nat} (h : xq_if1 f u q x L st = some (pc', x', L', st')) : xq_le x x' := by
  unfold xq_if1 at h
  (repeat' split at h) <;> first | (cases h; exact xq_le_rf _) | cases h
theorem xq_le_if2 {f : Int32 → Int32 → Bool} {u : Nat} (h : xq_if2 f u q x L st = some (pc', x', L', st')) : xq_le x x' := by
  unfold xq_if2 at h
  (repeat' split at h) <;> first | (cases h; exact xq_le_rf _) | cases h
theorem xq_le_getf {c k : Nat} (h : xq_getf q x L st c k = some (pc', x', L', st')) : xq_le x x' := by
  unfold xq_getf at h
  (repeat' split at h) <;> first | (cases h; exact xq_le_rf _) | cases h
theorem xq_le_putf {c k : Nat} (h : xq_putf q x L st c k = some (pc', x', L', st')) : xq_le x x' := by
  unfold xq_putf at h
  (repeat' split at h) <;> first | (cases h; exact xq_le_rf _) | cases h
theorem xq_le_aload {c : Nat} (h : xq_aload q x L st c = some (pc', x', L', st')) : xq_le x x' := by
  unfold xq_aload at h
  (repeat' split at h) <;> first | (cases h; exact xq_le_rf _) | cases h
theorem xq_le_astore {c : Nat} (h : xq_astore q x L st c = some (pc', x', L', st')) : xq_le x x' := by
  unfold xq_astore at h
  (repeat' split at h) <;> first | (cases h; exact xq_le_rf _) | cases h
theorem xq_le_alen  (h : xq_alen q x L st = some (pc', x', L', st')) : xq_le x x' := by
  unfold xq_alen at h
  (repeat' split at h) <;> first | (cases h; exact xq_le_rf _) | cases h
theorem xq_le_dup  (h : xq_dup q x L st = some (pc', x', L', st')) : xq_le x x' := by
  unfold xq_dup at h
  (repeat' split at h) <;> first | (cases h; exact xq_le_rf _) | cases h
theorem xq_le_dup2  (h : xq_dup2 q x L st = some (pc', x', L', st')) : xq_le x x' := by
  unfold xq_dup2 at h
  (repeat' split at h) <;> first | (cases h; exact xq_le_rf _) | cases h
theorem xq_le_pop  (h : xq_pop q x L st = some (pc', x', L', st')) : xq_le x x' := by
  unfold xq_pop at h
  (repeat' split at h) <;> first | (cases h; exact xq_le_rf _) | cases h
theorem xq_le_null {u : Nat} (h : xq_null u q x L st = some (pc', x', L', st')) : xq_le x x' := by
  unfold xq_null at h
  (repeat' split at h) <;> first | (cases h; exact xq_le_rf _) | cases h
theorem xq_le_sw {d lo hi : Int} {offs : Array Int} (h : xq_sw q d lo hi offs x L st = some (pc', x', L', st')) : xq_le x x' := by
  unfold xq_sw at h
  (repeat' split at h) <;> first | (cases h; exact xq_le_rf _) | cases h
theorem xq_le_new {c n : Nat} : xq_le x (xq_new x c n) := ⟨Nat.le_succ _, Nat.le_add_right _ _⟩
theorem xq_le_newa {c : Nat} (h : xq_newa q x L st c = some (pc', x', L', st')) : xq_le x x' := by
  unfold xq_newa at h
  (repeat' split at h) <;> first | (cases h; exact xq_le_new) | cases h
theorem xq_le_obj {c : Nat} (h : xq_obj q x L st c = some (pc', x', L', st')) : xq_le x x' := by
  unfold xq_obj at h
  (repeat' split at h) <;> first | (cases h; exact xq_le_new) | cases h
theorem xq_le_self {y : Nat} (h : xq_self q x L st y = some (pc', x', L', st')) : xq_le x x' := by
  unfold xq_self at h
  (repeat' split at h) <;> first | (cases h; exact xq_le_rf _) | (cases h; exact ⟨Nat.le_succ _, Nat.le_add_right _ _⟩) | cases h
set_option maxHeartbeats 4000000 in
theorem xq_le_step {i : Instr} {a b pc : Nat} (h : xq_step i a b pc x L st = some (pc', x', L', st')) : xq_le x x' := by
  cases i
  case aconst_null => cases h; exact xq_le_rf _
  case iconst => cases h; exact xq_le_rf _
  case lconst => cases h; exact xq_le_rf _
  case bipush => cases h; exact xq_le_rf _
  case sipush => cases h; exact xq_le_rf _
  case ldc2_w => cases h; exact xq_le_rf _
  case goto => cases h; exact xq_le_rf _
  case getstatic => cases h; exact xq_le_rf _
  case iload => exact xq_le_load h
  case aload => exact xq_le_load h
  case iload_n => exact xq_le_load h
  case aload_n => exact xq_le_load h
  case istore => exact xq_le_store h
  case astore => exact xq_le_store h
  case istore_n => exact xq_le_store h
  case astore_n => exact xq_le_store h
  case iadd => exact xq_le_bin h
  case isub => exact xq_le_bin h
  case imul => exact xq_le_bin h
  case iand => exact xq_le_bin h
  case ior => exact xq_le_bin h
  case ixor => exact xq_le_bin h
  case ishl => exact xq_le_bin h
  case ishr => exact xq_le_bin h
  case iushr => exact xq_le_bin h
  case idiv => exact xq_le_div h
  case irem => exact xq_le_div h
  case ladd => exact xq_le_lbin h
  case lmul => exact xq_le_lbin h
  case dup => exact xq_le_dup h
  case dup2 => exact xq_le_dup2 h
  case pop => exact xq_le_pop h
  case ifnonnull => exact xq_le_null h
  case ifnull => exact xq_le_null h
  case tableswitch => exact xq_le_sw h
  case getfield => exact xq_le_getf h
  case putfield => exact xq_le_putf h
  case iaload => exact xq_le_aload h
  case laload => exact xq_le_aload h
  case aaload => exact xq_le_aload h
  case iastore => exact xq_le_astore h
  case lastore => exact xq_le_astore h
  case aastore => exact xq_le_astore h
  case arraylength => exact xq_le_alen h
  case anewarray => exact xq_le_newa h
  case new => exact xq_le_obj h
  case invokevirtual => exact xq_le_self h
  case invokespecial => exact xq_le_self h
  case invokestatic => exact xq_le_self h
  case ldc =>
    simp only [xq_step] at h
    (repeat' split at h) <;> first | (cases h; exact xq_le_rf _) | cases h
  case ldc_w =>
    simp only [xq_step] at h
    (repeat' split at h) <;> first | (cases h; exact xq_le_rf _) | cases h
  case iinc =>
    simp only [xq_step] at h
    (repeat' split at h) <;> first | (cases h; exact xq_le_rf _) | cases h
  case ineg =>
    simp only [xq_step] at h
    (repeat' split at h) <;> first | (cases h; exact xq_le_rf _) | cases h
  case lcmp =>
    simp only [xq_step] at h
    (repeat' split at h) <;> first | (cases h; exact xq_le_rf _) | cases h
  case checkcast =>
    simp only [xq_step] at h
    (repeat' split at h) <;> first | (cases h; exact xq_le_rf _) | cases h
  case ifCond cd off =>
    cases cd <;> exact xq_le_if1 h
  case if_icmp cd off =>
    cases cd <;> exact xq_le_if2 h
  case newarray ty =>
    cases ty
    case int => exact xq_le_newa h
    case long => exact xq_le_newa h
    all_goals (cases h)
  all_goals (cases h)
end xq_mono
theorem xq_le_x : ∀ (F d m : Nat) (x : xq_S) (pc : Nat) (L st : List Value) (v : Option Value) (x' : xq_S), xq_x F d m x pc L st = some (v, x') → xq_le x x' := by
  intro F
  induction F with
  | zero => intro d m x pc L st v x' h; cases h
  | succ F ih =>
    intro d m x pc L st v x' h
    unfold xq_x at h
    split at h
    · cases h
    · split at h
      · split at h
        · split at h
          · split at h
            · rename_i h1
              exact xq_le_tr (ih _ _ _ _ _ _ _ _ h1) (ih _ _ _ _ _ _ _ _ h)
            · cases h
          · cases h
        · cases h
      · split at h
        · cases h
          exact xq_le_rf _
        · split at h
          · rename_i h1
            exact xq_le_tr (xq_le_step h1) (ih _ _ _ _ _ _ _ _ h)
          · cases h
