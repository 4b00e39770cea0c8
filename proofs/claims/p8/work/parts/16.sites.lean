/-! Calls' places, and what is called. -/
def tb_cchk2 (q : Nat × Nat) (x : (Nat × Nat) × (Nat × Nat) × (Nat × Nat)) : Bool :=
  tb_w x.1 (.initialized (mi_nm tb_P q.1).cls) && ((decide (mi_mx tb_P q.1 ≤ 45) && (decide ((mi_nm tb_P q.1).cls ≠ "java/lang/invoke/MethodHandle") && (decide ((mi_nm tb_P q.1).cls ≠ "java/lang/invoke/VarHandle") &&
  (match q.2 with
    | 0 => (mi_hh tb_P q.1).isEmpty && (tb_w x.2.1 (.instanceMethod (mi_nm tb_P q.1)) && (tb_w x.2.2 (.selects (mi_nm tb_P q.1).cls (mi_nm tb_P q.1) (mi_nm tb_P q.1)) && (match vwCl[mi_kc tb_P q.1]? with
      | some r => decide (r.1 = (mi_nm tb_P q.1).cls)
      | none => false)))
    | 1 => (mi_hh tb_P q.1).isEmpty && tb_w x.2.1 (.static (mi_nm tb_P q.1))
    | 2 => (mi_hh tb_P q.1).isEmpty && (tb_w x.2.1 (.instanceMethod (mi_nm tb_P q.1)) && (decide ((mi_nm tb_P q.1).name = "<init>") && (mi_rt tb_P q.1).isNone))
    | 4 => (mi_hh tb_P q.1).isEmpty && tb_w x.2.1 (.static (mi_nm tb_P q.1))
    | 5 => !(mi_hh tb_P q.1).isEmpty && tb_w x.2.1 (.static (mi_nm tb_P q.1))
    | _ => false)))))
def tb_cal_0 : List (Nat × Nat) := [(1, 2), (2, 2), (3, 2), (4, 2), (5, 2), (6, 2), (7, 2), (8, 0), (9, 2), (10, 2), (11, 2), (12, 0), (13, 2), (14, 0), (15, 0), (16, 0), (17, 0), (18, 0), (19, 1), (20, 1), (21, 0), (22, 1), (23, 0), (24, 0), (25, 1), (26, 1), (27, 0), (28, 0), (29, 0), (30, 0)]
def tb_calh_0 : List ((Nat × Nat) × (Nat × Nat) × (Nat × Nat)) := [((1, 1), (1, 29), (99, 0)), ((1, 2), (1, 37), (99, 0)), ((1, 3), (1, 48), (99, 0)), ((1, 4), (1, 56), (99, 0)), ((1, 5), (1, 86), (99, 0)), ((1, 6), (1, 92), (99, 0)), ((1, 7), (1, 137), (99, 0)), ((1, 5), (1, 141), (1, 142)), ((1, 8), (1, 191), (99, 0)), ((1, 9), (1, 214), (99, 0)), ((1, 10), (2, 23), (99, 0)), ((1, 8), (2, 28), (2, 29)), ((1, 11), (2, 71), (99, 0)), ((1, 1), (2, 165), (2, 166)), ((1, 3), (2, 169), (2, 170)), ((1, 2), (2, 173), (2, 174)), ((1, 3), (2, 178), (0, 0)), ((1, 2), (2, 181), (2, 182)), ((1, 3), (2, 185), (99, 0)), ((1, 3), (2, 188), (99, 0)), ((1, 3), (2, 192), (0, 1)), ((1, 3), (2, 196), (99, 0)), ((1, 3), (2, 205), (0, 2)), ((1, 4), (2, 208), (2, 209)), ((1, 3), (2, 213), (99, 0)), ((1, 18), (2, 216), (99, 0)), ((1, 7), (2, 219), (2, 220)), ((1, 5), (2, 223), (2, 224)), ((1, 6), (2, 227), (2, 228)), ((1, 3), (2, 231), (2, 232))]
set_option maxRecDepth 100000 in
theorem tb_cal_ok_0 : tb_zc tb_cal_0 tb_calh_0 tb_cchk2 = true := by decide +kernel
def tb_cal_1 : List (Nat × Nat) := [(31, 0), (32, 0), (33, 0), (34, 0), (35, 0), (36, 0), (37, 0), (38, 0), (39, 0), (40, 0), (41, 0), (42, 0), (43, 0), (44, 0), (45, 0), (46, 0), (47, 0), (48, 0), (49, 0), (50, 0), (51, 0), (52, 0), (53, 0), (54, 0), (55, 0), (56, 0), (57, 0), (58, 0), (59, 0), (60, 0)]
def tb_calh_1 : List ((Nat × Nat) × (Nat × Nat) × (Nat × Nat)) := [((1, 7), (2, 236), (0, 3)), ((1, 5), (2, 239), (3, 0)), ((1, 3), (3, 3), (3, 4)), ((1, 4), (3, 7), (3, 8)), ((1, 4), (3, 11), (3, 12)), ((1, 7), (3, 17), (0, 4)), ((1, 7), (3, 21), (0, 5)), ((1, 7), (3, 25), (0, 6)), ((1, 7), (3, 29), (0, 7)), ((1, 7), (3, 34), (0, 8)), ((1, 7), (3, 38), (0, 9)), ((1, 5), (3, 42), (3, 43)), ((1, 7), (3, 48), (0, 10)), ((1, 7), (3, 52), (0, 11)), ((1, 7), (3, 56), (0, 12)), ((1, 6), (3, 59), (3, 60)), ((1, 6), (3, 64), (3, 65)), ((1, 7), (3, 70), (0, 13)), ((1, 7), (3, 74), (0, 14)), ((1, 7), (3, 78), (0, 15)), ((1, 7), (3, 82), (0, 16)), ((1, 7), (3, 86), (0, 17)), ((1, 7), (3, 90), (0, 18)), ((1, 7), (3, 94), (0, 19)), ((1, 7), (3, 98), (0, 20)), ((1, 6), (3, 102), (3, 103)), ((1, 5), (3, 108), (3, 109)), ((1, 7), (3, 113), (0, 21)), ((1, 6), (3, 116), (3, 117)), ((1, 6), (3, 120), (3, 121))]
set_option maxRecDepth 100000 in
theorem tb_cal_ok_1 : tb_zc tb_cal_1 tb_calh_1 tb_cchk2 = true := by decide +kernel
def tb_cal_2 : List (Nat × Nat) := [(61, 0), (62, 0), (63, 0), (64, 0), (65, 0), (66, 0), (67, 0), (68, 0), (69, 0), (70, 0), (71, 0), (72, 0), (73, 0), (74, 0), (75, 0), (76, 0), (77, 0), (78, 0), (79, 0), (80, 0), (81, 1), (82, 0), (83, 0), (84, 0), (85, 1), (86, 0), (87, 0), (88, 0), (89, 0), (90, 0)]
def tb_calh_2 : List ((Nat × Nat) × (Nat × Nat) × (Nat × Nat)) := [((1, 6), (3, 124), (3, 125)), ((1, 7), (3, 129), (0, 22)), ((1, 6), (3, 132), (3, 133)), ((1, 5), (3, 136), (3, 137)), ((1, 6), (3, 141), (3, 142)), ((1, 7), (3, 145), (3, 146)), ((1, 3), (3, 149), (3, 150)), ((1, 8), (3, 153), (3, 154)), ((1, 1), (3, 159), (3, 160)), ((1, 1), (3, 167), (3, 168)), ((1, 1), (4, 1), (0, 24)), ((1, 1), (4, 9), (4, 10)), ((1, 1), (4, 33), (4, 34)), ((1, 5), (4, 37), (4, 38)), ((1, 5), (4, 58), (4, 59)), ((1, 5), (4, 62), (4, 63)), ((1, 6), (4, 66), (4, 67)), ((1, 5), (4, 70), (4, 71)), ((1, 6), (4, 74), (4, 75)), ((1, 1), (4, 81), (4, 82)), ((1, 20), (4, 86), (99, 0)), ((1, 1), (4, 96), (4, 97)), ((1, 5), (4, 102), (4, 103)), ((1, 8), (4, 107), (4, 108)), ((1, 8), (4, 114), (99, 0)), ((1, 10), (4, 118), (4, 119)), ((1, 8), (4, 122), (4, 123)), ((1, 10), (4, 128), (0, 25)), ((1, 8), (4, 131), (4, 132)), ((1, 8), (4, 136), (4, 137))]
set_option maxRecDepth 100000 in
theorem tb_cal_ok_2 : tb_zc tb_cal_2 tb_calh_2 tb_cchk2 = true := by decide +kernel
def tb_cal_3 : List (Nat × Nat) := [(91, 0), (92, 0), (93, 0), (94, 0), (95, 0), (96, 0), (97, 0), (98, 0), (99, 0), (100, 0), (101, 0), (102, 0), (103, 0), (104, 0), (105, 0), (106, 0), (107, 0), (108, 4), (109, 0), (110, 0), (111, 0), (112, 0), (113, 0), (114, 0), (115, 0), (116, 0), (117, 0), (118, 0), (119, 0), (120, 0)]
def tb_calh_3 : List ((Nat × Nat) × (Nat × Nat) × (Nat × Nat)) := [((1, 8), (4, 141), (4, 142)), ((1, 10), (4, 146), (0, 26)), ((1, 10), (4, 152), (0, 27)), ((1, 10), (4, 176), (0, 28)), ((1, 6), (4, 179), (4, 180)), ((1, 10), (4, 184), (0, 29)), ((1, 10), (4, 189), (0, 30)), ((1, 10), (4, 193), (0, 31)), ((1, 10), (4, 198), (0, 32)), ((1, 9), (4, 202), (4, 203)), ((1, 9), (4, 210), (0, 33)), ((1, 9), (4, 218), (0, 34)), ((1, 9), (4, 222), (0, 35)), ((1, 9), (4, 226), (0, 36)), ((1, 9), (4, 231), (0, 37)), ((1, 9), (4, 235), (0, 38)), ((1, 9), (5, 0), (0, 39)), ((1, 1), (5, 3), (99, 0)), ((1, 9), (5, 6), (5, 7)), ((1, 6), (5, 10), (5, 11)), ((1, 10), (5, 15), (0, 40)), ((1, 8), (5, 18), (5, 19)), ((1, 8), (5, 26), (0, 41)), ((1, 6), (5, 29), (5, 30)), ((1, 10), (5, 39), (0, 42)), ((1, 1), (5, 46), (0, 43)), ((1, 8), (5, 50), (5, 51)), ((1, 10), (5, 55), (5, 56)), ((1, 10), (5, 59), (5, 60)), ((1, 10), (5, 63), (5, 64))]
set_option maxRecDepth 100000 in
theorem tb_cal_ok_3 : tb_zc tb_cal_3 tb_calh_3 tb_cchk2 = true := by decide +kernel
def tb_cal_4 : List (Nat × Nat) := [(121, 0), (122, 0), (123, 0), (124, 0), (125, 0), (126, 0), (127, 0), (128, 0), (129, 0), (130, 0), (131, 0), (132, 0), (133, 0), (134, 0), (135, 0), (136, 0), (137, 1), (138, 0), (139, 0), (140, 0), (141, 0), (142, 0), (143, 0), (144, 0), (145, 2), (146, 0), (147, 0), (148, 0), (149, 1), (150, 0)]
def tb_calh_4 : List ((Nat × Nat) × (Nat × Nat) × (Nat × Nat)) := [((1, 1), (5, 70), (5, 71)), ((1, 8), (5, 78), (5, 79)), ((1, 1), (5, 89), (5, 90)), ((1, 1), (5, 98), (5, 99)), ((1, 11), (5, 103), (5, 104)), ((1, 11), (5, 109), (0, 44)), ((1, 11), (5, 114), (0, 45)), ((1, 11), (5, 119), (0, 46)), ((1, 11), (5, 126), (0, 47)), ((1, 11), (5, 180), (0, 48)), ((1, 11), (5, 186), (0, 49)), ((1, 11), (5, 192), (0, 50)), ((1, 11), (5, 197), (0, 51)), ((1, 11), (5, 205), (0, 52)), ((1, 11), (5, 212), (0, 53)), ((1, 11), (5, 217), (0, 54)), ((1, 11), (5, 220), (99, 0)), ((1, 1), (5, 235), (5, 236)), ((1, 1), (6, 3), (6, 4)), ((1, 1), (6, 10), (6, 11)), ((1, 1), (6, 18), (6, 19)), ((1, 9), (6, 27), (6, 28)), ((1, 9), (6, 31), (6, 32)), ((1, 1), (6, 38), (6, 39)), ((1, 12), (6, 44), (99, 0)), ((1, 12), (7, 108), (7, 109)), ((1, 12), (7, 112), (7, 113)), ((1, 12), (7, 116), (7, 117)), ((1, 12), (7, 120), (99, 0)), ((1, 12), (7, 123), (7, 124))]
set_option maxRecDepth 100000 in
theorem tb_cal_ok_4 : tb_zc tb_cal_4 tb_calh_4 tb_cchk2 = true := by decide +kernel
def tb_cal_5 : List (Nat × Nat) := [(151, 0), (152, 1), (153, 1), (154, 0), (155, 1), (156, 1), (157, 0), (158, 0), (159, 0), (160, 0), (161, 0), (162, 0), (163, 0), (164, 0), (165, 0), (166, 0), (167, 0), (168, 0), (169, 0), (170, 0), (171, 0), (172, 0), (173, 0), (174, 0), (175, 0), (176, 0), (177, 0), (178, 0), (179, 0), (180, 0)]
def tb_calh_5 : List ((Nat × Nat) × (Nat × Nat) × (Nat × Nat)) := [((1, 12), (7, 128), (0, 55)), ((1, 12), (7, 131), (99, 0)), ((1, 12), (7, 134), (99, 0)), ((1, 12), (7, 138), (0, 56)), ((1, 12), (7, 145), (99, 0)), ((1, 12), (7, 148), (99, 0)), ((1, 12), (7, 152), (0, 57)), ((1, 12), (7, 156), (0, 58)), ((1, 12), (7, 160), (0, 59)), ((1, 12), (7, 164), (0, 60)), ((1, 12), (7, 168), (0, 61)), ((1, 12), (7, 172), (0, 62)), ((1, 12), (7, 176), (0, 63)), ((1, 12), (7, 180), (0, 64)), ((1, 12), (7, 184), (0, 65)), ((1, 12), (7, 188), (0, 66)), ((1, 12), (7, 192), (0, 67)), ((1, 12), (7, 196), (0, 68)), ((1, 12), (7, 200), (0, 69)), ((1, 12), (7, 204), (0, 70)), ((1, 12), (7, 208), (0, 71)), ((1, 12), (7, 212), (0, 72)), ((1, 12), (7, 216), (0, 73)), ((1, 12), (7, 219), (7, 220)), ((1, 12), (7, 223), (7, 224)), ((1, 12), (7, 228), (0, 74)), ((1, 12), (7, 232), (7, 233)), ((1, 12), (7, 238), (0, 75)), ((1, 12), (8, 1), (8, 2)), ((1, 12), (8, 6), (0, 76))]
set_option maxRecDepth 100000 in
theorem tb_cal_ok_5 : tb_zc tb_cal_5 tb_calh_5 tb_cchk2 = true := by decide +kernel
def tb_cal_6 : List (Nat × Nat) := [(181, 0), (182, 0), (183, 0), (184, 0), (185, 0), (186, 0), (187, 1), (188, 0), (189, 0), (190, 0), (191, 0), (192, 0), (193, 0), (194, 0), (195, 0), (196, 0), (197, 0), (198, 1), (199, 0), (200, 0), (201, 0), (202, 0), (203, 0), (204, 0), (205, 0), (206, 0), (207, 0), (208, 5), (209, 5), (210, 5)]
def tb_calh_6 : List ((Nat × Nat) × (Nat × Nat) × (Nat × Nat)) := [((1, 12), (8, 10), (0, 77)), ((1, 12), (8, 14), (0, 78)), ((1, 12), (8, 18), (0, 79)), ((1, 12), (8, 22), (0, 80)), ((1, 12), (8, 26), (0, 81)), ((1, 12), (8, 30), (0, 82)), ((1, 12), (8, 33), (99, 0)), ((1, 12), (8, 37), (0, 83)), ((1, 12), (8, 41), (0, 84)), ((1, 12), (8, 45), (0, 85)), ((1, 12), (8, 49), (0, 86)), ((1, 12), (8, 52), (8, 53)), ((1, 12), (8, 58), (0, 87)), ((1, 12), (8, 61), (8, 62)), ((1, 12), (8, 66), (8, 67)), ((1, 12), (8, 71), (0, 88)), ((1, 12), (8, 75), (0, 89)), ((1, 12), (8, 78), (99, 0)), ((1, 12), (8, 82), (0, 90)), ((1, 12), (8, 87), (0, 91)), ((1, 12), (8, 91), (0, 92)), ((1, 12), (8, 98), (0, 93)), ((1, 12), (8, 101), (8, 102)), ((1, 12), (8, 105), (8, 106)), ((1, 12), (8, 109), (8, 110)), ((1, 12), (8, 113), (8, 114)), ((1, 12), (8, 118), (8, 119)), ((1, 0), (3, 163), (99, 0)), ((1, 0), (4, 5), (99, 0)), ((1, 0), (4, 29), (99, 0))]
set_option maxRecDepth 100000 in
theorem tb_cal_ok_6 : tb_zc tb_cal_6 tb_calh_6 tb_cchk2 = true := by decide +kernel
def tb_cal_7 : List (Nat × Nat) := [(211, 5), (212, 5), (213, 5), (214, 5), (215, 5), (216, 5), (217, 5), (218, 5), (219, 5), (220, 5)]
def tb_calh_7 : List ((Nat × Nat) × (Nat × Nat) × (Nat × Nat)) := [((1, 0), (4, 78), (99, 0)), ((1, 0), (4, 92), (99, 0)), ((1, 0), (5, 67), (99, 0)), ((1, 0), (5, 86), (99, 0)), ((1, 0), (5, 95), (99, 0)), ((1, 0), (5, 232), (99, 0)), ((1, 0), (6, 0), (99, 0)), ((1, 0), (6, 7), (99, 0)), ((1, 0), (6, 15), (99, 0)), ((1, 0), (6, 35), (99, 0))]
set_option maxRecDepth 100000 in
theorem tb_cal_ok_7 : tb_zc tb_cal_7 tb_calh_7 tb_cchk2 = true := by decide +kernel
def tb_cal : List (Nat × Nat) := tb_cal_0 ++ tb_cal_1 ++ tb_cal_2 ++ tb_cal_3 ++ tb_cal_4 ++ tb_cal_5 ++ tb_cal_6 ++ tb_cal_7
theorem tb_cal_ok : ∀ q ∈ tb_cal, ∃ x, tb_cchk2 q x = true := by
  intro q h
  unfold tb_cal at h
  simp only [List.mem_append] at h
  rcases h with ((((((h | h) | h) | h) | h) | h) | h) | h
  · exact tb_zc_ok tb_cal_ok_0 q h
  · exact tb_zc_ok tb_cal_ok_1 q h
  · exact tb_zc_ok tb_cal_ok_2 q h
  · exact tb_zc_ok tb_cal_ok_3 q h
  · exact tb_zc_ok tb_cal_ok_4 q h
  · exact tb_zc_ok tb_cal_ok_5 q h
  · exact tb_zc_ok tb_cal_ok_6 q h
  · exact tb_zc_ok tb_cal_ok_7 q h
set_option maxRecDepth 100000 in
theorem tb_cw_1 : (tb_tab 1)[30]? = some (mi_cw tb_P 1) := rfl
set_option maxRecDepth 100000 in
theorem tb_cw_2 : (tb_tab 1)[38]? = some (mi_cw tb_P 2) := rfl
set_option maxRecDepth 100000 in
theorem tb_cw_3 : (tb_tab 1)[49]? = some (mi_cw tb_P 3) := rfl
set_option maxRecDepth 100000 in
theorem tb_cw_4 : (tb_tab 1)[57]? = some (mi_cw tb_P 4) := rfl
set_option maxRecDepth 100000 in
theorem tb_cw_5 : (tb_tab 1)[87]? = some (mi_cw tb_P 5) := rfl
set_option maxRecDepth 100000 in
theorem tb_cw_6 : (tb_tab 1)[93]? = some (mi_cw tb_P 6) := rfl
set_option maxRecDepth 100000 in
theorem tb_cw_7 : (tb_tab 1)[138]? = some (mi_cw tb_P 7) := rfl
set_option maxRecDepth 100000 in
theorem tb_cw_8 : (tb_tab 1)[143]? = some (mi_cw tb_P 8) := rfl
set_option maxRecDepth 100000 in
theorem tb_cw_9 : (tb_tab 1)[192]? = some (mi_cw tb_P 9) := rfl
set_option maxRecDepth 100000 in
theorem tb_cw_10 : (tb_tab 1)[215]? = some (mi_cw tb_P 10) := rfl
set_option maxRecDepth 100000 in
theorem tb_cw_11 : (tb_tab 2)[24]? = some (mi_cw tb_P 11) := rfl
set_option maxRecDepth 100000 in
theorem tb_cw_12 : (tb_tab 2)[30]? = some (mi_cw tb_P 12) := rfl
set_option maxRecDepth 100000 in
theorem tb_cw_13 : (tb_tab 2)[72]? = some (mi_cw tb_P 13) := rfl
set_option maxRecDepth 100000 in
theorem tb_cw_14 : (tb_tab 2)[167]? = some (mi_cw tb_P 14) := rfl
set_option maxRecDepth 100000 in
theorem tb_cw_15 : (tb_tab 2)[171]? = some (mi_cw tb_P 15) := rfl
set_option maxRecDepth 100000 in
theorem tb_cw_16 : (tb_tab 2)[175]? = some (mi_cw tb_P 16) := rfl
set_option maxRecDepth 100000 in
theorem tb_cw_17 : (tb_tab 2)[179]? = some (mi_cw tb_P 17) := rfl
set_option maxRecDepth 100000 in
theorem tb_cw_18 : (tb_tab 2)[183]? = some (mi_cw tb_P 18) := rfl
set_option maxRecDepth 100000 in
theorem tb_cw_19 : (tb_tab 2)[186]? = some (mi_cw tb_P 19) := rfl
set_option maxRecDepth 100000 in
theorem tb_cw_20 : (tb_tab 2)[189]? = some (mi_cw tb_P 20) := rfl
set_option maxRecDepth 100000 in
theorem tb_cw_21 : (tb_tab 2)[193]? = some (mi_cw tb_P 21) := rfl
set_option maxRecDepth 100000 in
theorem tb_cw_22 : (tb_tab 2)[197]? = some (mi_cw tb_P 22) := rfl
set_option maxRecDepth 100000 in
theorem tb_cw_23 : (tb_tab 2)[206]? = some (mi_cw tb_P 23) := rfl
set_option maxRecDepth 100000 in
theorem tb_cw_24 : (tb_tab 2)[210]? = some (mi_cw tb_P 24) := rfl
set_option maxRecDepth 100000 in
theorem tb_cw_25 : (tb_tab 2)[214]? = some (mi_cw tb_P 25) := rfl
set_option maxRecDepth 100000 in
theorem tb_cw_26 : (tb_tab 2)[217]? = some (mi_cw tb_P 26) := rfl
set_option maxRecDepth 100000 in
theorem tb_cw_27 : (tb_tab 2)[221]? = some (mi_cw tb_P 27) := rfl
set_option maxRecDepth 100000 in
theorem tb_cw_28 : (tb_tab 2)[225]? = some (mi_cw tb_P 28) := rfl
set_option maxRecDepth 100000 in
theorem tb_cw_29 : (tb_tab 2)[229]? = some (mi_cw tb_P 29) := rfl
set_option maxRecDepth 100000 in
theorem tb_cw_30 : (tb_tab 2)[233]? = some (mi_cw tb_P 30) := rfl
set_option maxRecDepth 100000 in
theorem tb_cw_31 : (tb_tab 2)[237]? = some (mi_cw tb_P 31) := rfl
set_option maxRecDepth 100000 in
theorem tb_cw_32 : (tb_tab 3)[1]? = some (mi_cw tb_P 32) := rfl
set_option maxRecDepth 100000 in
theorem tb_cw_33 : (tb_tab 3)[5]? = some (mi_cw tb_P 33) := rfl
set_option maxRecDepth 100000 in
theorem tb_cw_34 : (tb_tab 3)[9]? = some (mi_cw tb_P 34) := rfl
set_option maxRecDepth 100000 in
theorem tb_cw_35 : (tb_tab 3)[13]? = some (mi_cw tb_P 35) := rfl
set_option maxRecDepth 100000 in
theorem tb_cw_36 : (tb_tab 3)[18]? = some (mi_cw tb_P 36) := rfl
set_option maxRecDepth 100000 in
theorem tb_cw_37 : (tb_tab 3)[22]? = some (mi_cw tb_P 37) := rfl
set_option maxRecDepth 100000 in
theorem tb_cw_38 : (tb_tab 3)[26]? = some (mi_cw tb_P 38) := rfl
set_option maxRecDepth 100000 in
theorem tb_cw_39 : (tb_tab 3)[30]? = some (mi_cw tb_P 39) := rfl
set_option maxRecDepth 100000 in
theorem tb_cw_40 : (tb_tab 3)[35]? = some (mi_cw tb_P 40) := rfl
set_option maxRecDepth 100000 in
theorem tb_cw_41 : (tb_tab 3)[39]? = some (mi_cw tb_P 41) := rfl
set_option maxRecDepth 100000 in
theorem tb_cw_42 : (tb_tab 3)[44]? = some (mi_cw tb_P 42) := rfl
set_option maxRecDepth 100000 in
theorem tb_cw_43 : (tb_tab 3)[49]? = some (mi_cw tb_P 43) := rfl
set_option maxRecDepth 100000 in
theorem tb_cw_44 : (tb_tab 3)[53]? = some (mi_cw tb_P 44) := rfl
set_option maxRecDepth 100000 in
theorem tb_cw_45 : (tb_tab 3)[57]? = some (mi_cw tb_P 45) := rfl
set_option maxRecDepth 100000 in
theorem tb_cw_46 : (tb_tab 3)[61]? = some (mi_cw tb_P 46) := rfl
set_option maxRecDepth 100000 in
theorem tb_cw_47 : (tb_tab 3)[66]? = some (mi_cw tb_P 47) := rfl
set_option maxRecDepth 100000 in
theorem tb_cw_48 : (tb_tab 3)[71]? = some (mi_cw tb_P 48) := rfl
set_option maxRecDepth 100000 in
theorem tb_cw_49 : (tb_tab 3)[75]? = some (mi_cw tb_P 49) := rfl
set_option maxRecDepth 100000 in
theorem tb_cw_50 : (tb_tab 3)[79]? = some (mi_cw tb_P 50) := rfl
set_option maxRecDepth 100000 in
theorem tb_cw_51 : (tb_tab 3)[83]? = some (mi_cw tb_P 51) := rfl
set_option maxRecDepth 100000 in
theorem tb_cw_52 : (tb_tab 3)[87]? = some (mi_cw tb_P 52) := rfl
set_option maxRecDepth 100000 in
theorem tb_cw_53 : (tb_tab 3)[91]? = some (mi_cw tb_P 53) := rfl
set_option maxRecDepth 100000 in
theorem tb_cw_54 : (tb_tab 3)[95]? = some (mi_cw tb_P 54) := rfl
set_option maxRecDepth 100000 in
theorem tb_cw_55 : (tb_tab 3)[99]? = some (mi_cw tb_P 55) := rfl
set_option maxRecDepth 100000 in
theorem tb_cw_56 : (tb_tab 3)[104]? = some (mi_cw tb_P 56) := rfl
set_option maxRecDepth 100000 in
theorem tb_cw_57 : (tb_tab 3)[110]? = some (mi_cw tb_P 57) := rfl
set_option maxRecDepth 100000 in
theorem tb_cw_58 : (tb_tab 3)[114]? = some (mi_cw tb_P 58) := rfl
set_option maxRecDepth 100000 in
theorem tb_cw_59 : (tb_tab 3)[118]? = some (mi_cw tb_P 59) := rfl
set_option maxRecDepth 100000 in
theorem tb_cw_60 : (tb_tab 3)[122]? = some (mi_cw tb_P 60) := rfl
set_option maxRecDepth 100000 in
theorem tb_cw_61 : (tb_tab 3)[126]? = some (mi_cw tb_P 61) := rfl
set_option maxRecDepth 100000 in
theorem tb_cw_62 : (tb_tab 3)[130]? = some (mi_cw tb_P 62) := rfl
set_option maxRecDepth 100000 in
theorem tb_cw_63 : (tb_tab 3)[134]? = some (mi_cw tb_P 63) := rfl
set_option maxRecDepth 100000 in
theorem tb_cw_64 : (tb_tab 3)[138]? = some (mi_cw tb_P 64) := rfl
set_option maxRecDepth 100000 in
theorem tb_cw_65 : (tb_tab 3)[143]? = some (mi_cw tb_P 65) := rfl
set_option maxRecDepth 100000 in
theorem tb_cw_66 : (tb_tab 3)[147]? = some (mi_cw tb_P 66) := rfl
set_option maxRecDepth 100000 in
theorem tb_cw_67 : (tb_tab 3)[151]? = some (mi_cw tb_P 67) := rfl
set_option maxRecDepth 100000 in
theorem tb_cw_68 : (tb_tab 3)[155]? = some (mi_cw tb_P 68) := rfl
set_option maxRecDepth 100000 in
theorem tb_cw_69 : (tb_tab 3)[161]? = some (mi_cw tb_P 69) := rfl
set_option maxRecDepth 100000 in
theorem tb_cw_70 : (tb_tab 3)[169]? = some (mi_cw tb_P 70) := rfl
set_option maxRecDepth 100000 in
theorem tb_cw_71 : (tb_tab 4)[2]? = some (mi_cw tb_P 71) := rfl
set_option maxRecDepth 100000 in
theorem tb_cw_72 : (tb_tab 4)[11]? = some (mi_cw tb_P 72) := rfl
set_option maxRecDepth 100000 in
theorem tb_cw_73 : (tb_tab 4)[35]? = some (mi_cw tb_P 73) := rfl
set_option maxRecDepth 100000 in
theorem tb_cw_74 : (tb_tab 4)[39]? = some (mi_cw tb_P 74) := rfl
set_option maxRecDepth 100000 in
theorem tb_cw_75 : (tb_tab 4)[60]? = some (mi_cw tb_P 75) := rfl
set_option maxRecDepth 100000 in
theorem tb_cw_76 : (tb_tab 4)[64]? = some (mi_cw tb_P 76) := rfl
set_option maxRecDepth 100000 in
theorem tb_cw_77 : (tb_tab 4)[68]? = some (mi_cw tb_P 77) := rfl
set_option maxRecDepth 100000 in
theorem tb_cw_78 : (tb_tab 4)[72]? = some (mi_cw tb_P 78) := rfl
set_option maxRecDepth 100000 in
theorem tb_cw_79 : (tb_tab 4)[76]? = some (mi_cw tb_P 79) := rfl
set_option maxRecDepth 100000 in
theorem tb_cw_80 : (tb_tab 4)[83]? = some (mi_cw tb_P 80) := rfl
set_option maxRecDepth 100000 in
theorem tb_cw_81 : (tb_tab 4)[87]? = some (mi_cw tb_P 81) := rfl
set_option maxRecDepth 100000 in
theorem tb_cw_82 : (tb_tab 4)[98]? = some (mi_cw tb_P 82) := rfl
set_option maxRecDepth 100000 in
theorem tb_cw_83 : (tb_tab 4)[104]? = some (mi_cw tb_P 83) := rfl
set_option maxRecDepth 100000 in
theorem tb_cw_84 : (tb_tab 4)[109]? = some (mi_cw tb_P 84) := rfl
set_option maxRecDepth 100000 in
theorem tb_cw_85 : (tb_tab 4)[115]? = some (mi_cw tb_P 85) := rfl
set_option maxRecDepth 100000 in
theorem tb_cw_86 : (tb_tab 4)[120]? = some (mi_cw tb_P 86) := rfl
set_option maxRecDepth 100000 in
theorem tb_cw_87 : (tb_tab 4)[124]? = some (mi_cw tb_P 87) := rfl
set_option maxRecDepth 100000 in
theorem tb_cw_88 : (tb_tab 4)[129]? = some (mi_cw tb_P 88) := rfl
set_option maxRecDepth 100000 in
theorem tb_cw_89 : (tb_tab 4)[133]? = some (mi_cw tb_P 89) := rfl
set_option maxRecDepth 100000 in
theorem tb_cw_90 : (tb_tab 4)[138]? = some (mi_cw tb_P 90) := rfl
set_option maxRecDepth 100000 in
theorem tb_cw_91 : (tb_tab 4)[143]? = some (mi_cw tb_P 91) := rfl
set_option maxRecDepth 100000 in
theorem tb_cw_92 : (tb_tab 4)[147]? = some (mi_cw tb_P 92) := rfl
set_option maxRecDepth 100000 in
theorem tb_cw_93 : (tb_tab 4)[153]? = some (mi_cw tb_P 93) := rfl
set_option maxRecDepth 100000 in
theorem tb_cw_94 : (tb_tab 4)[177]? = some (mi_cw tb_P 94) := rfl
set_option maxRecDepth 100000 in
theorem tb_cw_95 : (tb_tab 4)[181]? = some (mi_cw tb_P 95) := rfl
set_option maxRecDepth 100000 in
theorem tb_cw_96 : (tb_tab 4)[185]? = some (mi_cw tb_P 96) := rfl
set_option maxRecDepth 100000 in
theorem tb_cw_97 : (tb_tab 4)[190]? = some (mi_cw tb_P 97) := rfl
set_option maxRecDepth 100000 in
theorem tb_cw_98 : (tb_tab 4)[194]? = some (mi_cw tb_P 98) := rfl
set_option maxRecDepth 100000 in
theorem tb_cw_99 : (tb_tab 4)[199]? = some (mi_cw tb_P 99) := rfl
set_option maxRecDepth 100000 in
theorem tb_cw_100 : (tb_tab 4)[204]? = some (mi_cw tb_P 100) := rfl
set_option maxRecDepth 100000 in
theorem tb_cw_101 : (tb_tab 4)[211]? = some (mi_cw tb_P 101) := rfl
set_option maxRecDepth 100000 in
theorem tb_cw_102 : (tb_tab 4)[219]? = some (mi_cw tb_P 102) := rfl
set_option maxRecDepth 100000 in
theorem tb_cw_103 : (tb_tab 4)[223]? = some (mi_cw tb_P 103) := rfl
set_option maxRecDepth 100000 in
theorem tb_cw_104 : (tb_tab 4)[227]? = some (mi_cw tb_P 104) := rfl
set_option maxRecDepth 100000 in
theorem tb_cw_105 : (tb_tab 4)[232]? = some (mi_cw tb_P 105) := rfl
set_option maxRecDepth 100000 in
theorem tb_cw_106 : (tb_tab 4)[236]? = some (mi_cw tb_P 106) := rfl
set_option maxRecDepth 100000 in
theorem tb_cw_107 : (tb_tab 5)[1]? = some (mi_cw tb_P 107) := rfl
set_option maxRecDepth 100000 in
theorem tb_cw_108 : (tb_tab 5)[4]? = some (mi_cw tb_P 108) := rfl
set_option maxRecDepth 100000 in
theorem tb_cw_109 : (tb_tab 5)[8]? = some (mi_cw tb_P 109) := rfl
set_option maxRecDepth 100000 in
theorem tb_cw_110 : (tb_tab 5)[12]? = some (mi_cw tb_P 110) := rfl
set_option maxRecDepth 100000 in
theorem tb_cw_111 : (tb_tab 5)[16]? = some (mi_cw tb_P 111) := rfl
set_option maxRecDepth 100000 in
theorem tb_cw_112 : (tb_tab 5)[20]? = some (mi_cw tb_P 112) := rfl
set_option maxRecDepth 100000 in
theorem tb_cw_113 : (tb_tab 5)[27]? = some (mi_cw tb_P 113) := rfl
set_option maxRecDepth 100000 in
theorem tb_cw_114 : (tb_tab 5)[31]? = some (mi_cw tb_P 114) := rfl
set_option maxRecDepth 100000 in
theorem tb_cw_115 : (tb_tab 5)[40]? = some (mi_cw tb_P 115) := rfl
set_option maxRecDepth 100000 in
theorem tb_cw_116 : (tb_tab 5)[47]? = some (mi_cw tb_P 116) := rfl
set_option maxRecDepth 100000 in
theorem tb_cw_117 : (tb_tab 5)[52]? = some (mi_cw tb_P 117) := rfl
set_option maxRecDepth 100000 in
theorem tb_cw_118 : (tb_tab 5)[57]? = some (mi_cw tb_P 118) := rfl
set_option maxRecDepth 100000 in
theorem tb_cw_119 : (tb_tab 5)[61]? = some (mi_cw tb_P 119) := rfl
set_option maxRecDepth 100000 in
theorem tb_cw_120 : (tb_tab 5)[65]? = some (mi_cw tb_P 120) := rfl
set_option maxRecDepth 100000 in
theorem tb_cw_121 : (tb_tab 5)[72]? = some (mi_cw tb_P 121) := rfl
set_option maxRecDepth 100000 in
theorem tb_cw_122 : (tb_tab 5)[80]? = some (mi_cw tb_P 122) := rfl
set_option maxRecDepth 100000 in
theorem tb_cw_123 : (tb_tab 5)[91]? = some (mi_cw tb_P 123) := rfl
set_option maxRecDepth 100000 in
theorem tb_cw_124 : (tb_tab 5)[100]? = some (mi_cw tb_P 124) := rfl
set_option maxRecDepth 100000 in
theorem tb_cw_125 : (tb_tab 5)[105]? = some (mi_cw tb_P 125) := rfl
set_option maxRecDepth 100000 in
theorem tb_cw_126 : (tb_tab 5)[110]? = some (mi_cw tb_P 126) := rfl
set_option maxRecDepth 100000 in
theorem tb_cw_127 : (tb_tab 5)[115]? = some (mi_cw tb_P 127) := rfl
set_option maxRecDepth 100000 in
theorem tb_cw_128 : (tb_tab 5)[120]? = some (mi_cw tb_P 128) := rfl
set_option maxRecDepth 100000 in
theorem tb_cw_129 : (tb_tab 5)[127]? = some (mi_cw tb_P 129) := rfl
set_option maxRecDepth 100000 in
theorem tb_cw_130 : (tb_tab 5)[181]? = some (mi_cw tb_P 130) := rfl
set_option maxRecDepth 100000 in
theorem tb_cw_131 : (tb_tab 5)[187]? = some (mi_cw tb_P 131) := rfl
set_option maxRecDepth 100000 in
theorem tb_cw_132 : (tb_tab 5)[193]? = some (mi_cw tb_P 132) := rfl
set_option maxRecDepth 100000 in
theorem tb_cw_133 : (tb_tab 5)[198]? = some (mi_cw tb_P 133) := rfl
set_option maxRecDepth 100000 in
theorem tb_cw_134 : (tb_tab 5)[206]? = some (mi_cw tb_P 134) := rfl
set_option maxRecDepth 100000 in
theorem tb_cw_135 : (tb_tab 5)[213]? = some (mi_cw tb_P 135) := rfl
set_option maxRecDepth 100000 in
theorem tb_cw_136 : (tb_tab 5)[218]? = some (mi_cw tb_P 136) := rfl
set_option maxRecDepth 100000 in
theorem tb_cw_137 : (tb_tab 5)[221]? = some (mi_cw tb_P 137) := rfl
set_option maxRecDepth 100000 in
theorem tb_cw_138 : (tb_tab 5)[237]? = some (mi_cw tb_P 138) := rfl
set_option maxRecDepth 100000 in
theorem tb_cw_139 : (tb_tab 6)[5]? = some (mi_cw tb_P 139) := rfl
set_option maxRecDepth 100000 in
theorem tb_cw_140 : (tb_tab 6)[12]? = some (mi_cw tb_P 140) := rfl
set_option maxRecDepth 100000 in
theorem tb_cw_141 : (tb_tab 6)[20]? = some (mi_cw tb_P 141) := rfl
set_option maxRecDepth 100000 in
theorem tb_cw_142 : (tb_tab 6)[29]? = some (mi_cw tb_P 142) := rfl
set_option maxRecDepth 100000 in
theorem tb_cw_143 : (tb_tab 6)[33]? = some (mi_cw tb_P 143) := rfl
set_option maxRecDepth 100000 in
theorem tb_cw_144 : (tb_tab 6)[40]? = some (mi_cw tb_P 144) := rfl
set_option maxRecDepth 100000 in
theorem tb_cw_145 : (tb_tab 6)[45]? = some (mi_cw tb_P 145) := rfl
set_option maxRecDepth 100000 in
theorem tb_cw_146 : (tb_tab 7)[110]? = some (mi_cw tb_P 146) := rfl
set_option maxRecDepth 100000 in
theorem tb_cw_147 : (tb_tab 7)[114]? = some (mi_cw tb_P 147) := rfl
set_option maxRecDepth 100000 in
theorem tb_cw_148 : (tb_tab 7)[118]? = some (mi_cw tb_P 148) := rfl
set_option maxRecDepth 100000 in
theorem tb_cw_149 : (tb_tab 7)[121]? = some (mi_cw tb_P 149) := rfl
set_option maxRecDepth 100000 in
theorem tb_cw_150 : (tb_tab 7)[125]? = some (mi_cw tb_P 150) := rfl
set_option maxRecDepth 100000 in
theorem tb_cw_151 : (tb_tab 7)[129]? = some (mi_cw tb_P 151) := rfl
set_option maxRecDepth 100000 in
theorem tb_cw_152 : (tb_tab 7)[132]? = some (mi_cw tb_P 152) := rfl
set_option maxRecDepth 100000 in
theorem tb_cw_153 : (tb_tab 7)[135]? = some (mi_cw tb_P 153) := rfl
set_option maxRecDepth 100000 in
theorem tb_cw_154 : (tb_tab 7)[139]? = some (mi_cw tb_P 154) := rfl
set_option maxRecDepth 100000 in
theorem tb_cw_155 : (tb_tab 7)[146]? = some (mi_cw tb_P 155) := rfl
set_option maxRecDepth 100000 in
theorem tb_cw_156 : (tb_tab 7)[149]? = some (mi_cw tb_P 156) := rfl
set_option maxRecDepth 100000 in
theorem tb_cw_157 : (tb_tab 7)[153]? = some (mi_cw tb_P 157) := rfl
set_option maxRecDepth 100000 in
theorem tb_cw_158 : (tb_tab 7)[157]? = some (mi_cw tb_P 158) := rfl
set_option maxRecDepth 100000 in
theorem tb_cw_159 : (tb_tab 7)[161]? = some (mi_cw tb_P 159) := rfl
set_option maxRecDepth 100000 in
theorem tb_cw_160 : (tb_tab 7)[165]? = some (mi_cw tb_P 160) := rfl
set_option maxRecDepth 100000 in
theorem tb_cw_161 : (tb_tab 7)[169]? = some (mi_cw tb_P 161) := rfl
set_option maxRecDepth 100000 in
theorem tb_cw_162 : (tb_tab 7)[173]? = some (mi_cw tb_P 162) := rfl
set_option maxRecDepth 100000 in
theorem tb_cw_163 : (tb_tab 7)[177]? = some (mi_cw tb_P 163) := rfl
set_option maxRecDepth 100000 in
theorem tb_cw_164 : (tb_tab 7)[181]? = some (mi_cw tb_P 164) := rfl
set_option maxRecDepth 100000 in
theorem tb_cw_165 : (tb_tab 7)[185]? = some (mi_cw tb_P 165) := rfl
set_option maxRecDepth 100000 in
theorem tb_cw_166 : (tb_tab 7)[189]? = some (mi_cw tb_P 166) := rfl
set_option maxRecDepth 100000 in
theorem tb_cw_167 : (tb_tab 7)[193]? = some (mi_cw tb_P 167) := rfl
set_option maxRecDepth 100000 in
theorem tb_cw_168 : (tb_tab 7)[197]? = some (mi_cw tb_P 168) := rfl
set_option maxRecDepth 100000 in
theorem tb_cw_169 : (tb_tab 7)[201]? = some (mi_cw tb_P 169) := rfl
set_option maxRecDepth 100000 in
theorem tb_cw_170 : (tb_tab 7)[205]? = some (mi_cw tb_P 170) := rfl
set_option maxRecDepth 100000 in
theorem tb_cw_171 : (tb_tab 7)[209]? = some (mi_cw tb_P 171) := rfl
set_option maxRecDepth 100000 in
theorem tb_cw_172 : (tb_tab 7)[213]? = some (mi_cw tb_P 172) := rfl
set_option maxRecDepth 100000 in
theorem tb_cw_173 : (tb_tab 7)[217]? = some (mi_cw tb_P 173) := rfl
set_option maxRecDepth 100000 in
theorem tb_cw_174 : (tb_tab 7)[221]? = some (mi_cw tb_P 174) := rfl
set_option maxRecDepth 100000 in
theorem tb_cw_175 : (tb_tab 7)[225]? = some (mi_cw tb_P 175) := rfl
set_option maxRecDepth 100000 in
theorem tb_cw_176 : (tb_tab 7)[229]? = some (mi_cw tb_P 176) := rfl
set_option maxRecDepth 100000 in
theorem tb_cw_177 : (tb_tab 7)[234]? = some (mi_cw tb_P 177) := rfl
set_option maxRecDepth 100000 in
theorem tb_cw_178 : (tb_tab 7)[239]? = some (mi_cw tb_P 178) := rfl
set_option maxRecDepth 100000 in
theorem tb_cw_179 : (tb_tab 8)[3]? = some (mi_cw tb_P 179) := rfl
set_option maxRecDepth 100000 in
theorem tb_cw_180 : (tb_tab 8)[7]? = some (mi_cw tb_P 180) := rfl
set_option maxRecDepth 100000 in
theorem tb_cw_181 : (tb_tab 8)[11]? = some (mi_cw tb_P 181) := rfl
set_option maxRecDepth 100000 in
theorem tb_cw_182 : (tb_tab 8)[15]? = some (mi_cw tb_P 182) := rfl
set_option maxRecDepth 100000 in
theorem tb_cw_183 : (tb_tab 8)[19]? = some (mi_cw tb_P 183) := rfl
set_option maxRecDepth 100000 in
theorem tb_cw_184 : (tb_tab 8)[23]? = some (mi_cw tb_P 184) := rfl
set_option maxRecDepth 100000 in
theorem tb_cw_185 : (tb_tab 8)[27]? = some (mi_cw tb_P 185) := rfl
set_option maxRecDepth 100000 in
theorem tb_cw_186 : (tb_tab 8)[31]? = some (mi_cw tb_P 186) := rfl
set_option maxRecDepth 100000 in
theorem tb_cw_187 : (tb_tab 8)[34]? = some (mi_cw tb_P 187) := rfl
set_option maxRecDepth 100000 in
theorem tb_cw_188 : (tb_tab 8)[38]? = some (mi_cw tb_P 188) := rfl
set_option maxRecDepth 100000 in
theorem tb_cw_189 : (tb_tab 8)[42]? = some (mi_cw tb_P 189) := rfl
set_option maxRecDepth 100000 in
theorem tb_cw_190 : (tb_tab 8)[46]? = some (mi_cw tb_P 190) := rfl
set_option maxRecDepth 100000 in
theorem tb_cw_191 : (tb_tab 8)[50]? = some (mi_cw tb_P 191) := rfl
set_option maxRecDepth 100000 in
theorem tb_cw_192 : (tb_tab 8)[54]? = some (mi_cw tb_P 192) := rfl
set_option maxRecDepth 100000 in
theorem tb_cw_193 : (tb_tab 8)[59]? = some (mi_cw tb_P 193) := rfl
set_option maxRecDepth 100000 in
theorem tb_cw_194 : (tb_tab 8)[63]? = some (mi_cw tb_P 194) := rfl
set_option maxRecDepth 100000 in
theorem tb_cw_195 : (tb_tab 8)[68]? = some (mi_cw tb_P 195) := rfl
set_option maxRecDepth 100000 in
theorem tb_cw_196 : (tb_tab 8)[72]? = some (mi_cw tb_P 196) := rfl
set_option maxRecDepth 100000 in
theorem tb_cw_197 : (tb_tab 8)[76]? = some (mi_cw tb_P 197) := rfl
set_option maxRecDepth 100000 in
theorem tb_cw_198 : (tb_tab 8)[79]? = some (mi_cw tb_P 198) := rfl
set_option maxRecDepth 100000 in
theorem tb_cw_199 : (tb_tab 8)[83]? = some (mi_cw tb_P 199) := rfl
set_option maxRecDepth 100000 in
theorem tb_cw_200 : (tb_tab 8)[88]? = some (mi_cw tb_P 200) := rfl
set_option maxRecDepth 100000 in
theorem tb_cw_201 : (tb_tab 8)[92]? = some (mi_cw tb_P 201) := rfl
set_option maxRecDepth 100000 in
theorem tb_cw_202 : (tb_tab 8)[99]? = some (mi_cw tb_P 202) := rfl
set_option maxRecDepth 100000 in
theorem tb_cw_203 : (tb_tab 8)[103]? = some (mi_cw tb_P 203) := rfl
set_option maxRecDepth 100000 in
theorem tb_cw_204 : (tb_tab 8)[107]? = some (mi_cw tb_P 204) := rfl
set_option maxRecDepth 100000 in
theorem tb_cw_205 : (tb_tab 8)[111]? = some (mi_cw tb_P 205) := rfl
set_option maxRecDepth 100000 in
theorem tb_cw_206 : (tb_tab 8)[115]? = some (mi_cw tb_P 206) := rfl
set_option maxRecDepth 100000 in
theorem tb_cw_207 : (tb_tab 8)[120]? = some (mi_cw tb_P 207) := rfl
set_option maxRecDepth 100000 in
theorem tb_cw_208 : (tb_tab 3)[164]? = some (mi_cw tb_P 208) := rfl
set_option maxRecDepth 100000 in
theorem tb_cw_209 : (tb_tab 4)[6]? = some (mi_cw tb_P 209) := rfl
set_option maxRecDepth 100000 in
theorem tb_cw_210 : (tb_tab 4)[30]? = some (mi_cw tb_P 210) := rfl
set_option maxRecDepth 100000 in
theorem tb_cw_211 : (tb_tab 4)[79]? = some (mi_cw tb_P 211) := rfl
set_option maxRecDepth 100000 in
theorem tb_cw_212 : (tb_tab 4)[93]? = some (mi_cw tb_P 212) := rfl
set_option maxRecDepth 100000 in
theorem tb_cw_213 : (tb_tab 5)[68]? = some (mi_cw tb_P 213) := rfl
set_option maxRecDepth 100000 in
theorem tb_cw_214 : (tb_tab 5)[87]? = some (mi_cw tb_P 214) := rfl
set_option maxRecDepth 100000 in
theorem tb_cw_215 : (tb_tab 5)[96]? = some (mi_cw tb_P 215) := rfl
set_option maxRecDepth 100000 in
theorem tb_cw_216 : (tb_tab 5)[233]? = some (mi_cw tb_P 216) := rfl
set_option maxRecDepth 100000 in
theorem tb_cw_217 : (tb_tab 6)[1]? = some (mi_cw tb_P 217) := rfl
set_option maxRecDepth 100000 in
theorem tb_cw_218 : (tb_tab 6)[8]? = some (mi_cw tb_P 218) := rfl
set_option maxRecDepth 100000 in
theorem tb_cw_219 : (tb_tab 6)[16]? = some (mi_cw tb_P 219) := rfl
set_option maxRecDepth 100000 in
theorem tb_cw_220 : (tb_tab 6)[36]? = some (mi_cw tb_P 220) := rfl
theorem tb_cw : ∀ q ∈ tb_cal, mi_cw tb_P q.1 ∈ tb_GT := by
  have key : ∀ (s i : Nat) (w : Cond), (tb_tab s)[i]? = some w → mi_wk w = true → w ∈ tb_GT := fun s i w h k => List.mem_filter.mpr ⟨tb_tab_in s w (List.mem_of_getElem? h), k⟩
  intro q h
  unfold tb_cal at h
  simp only [List.mem_append] at h
  rcases h with ((((((h | h) | h) | h) | h) | h) | h) | h
  · simp only [tb_cal_0, List.mem_cons, List.not_mem_nil, or_false] at h
    rcases h with rfl | rfl | rfl | rfl | rfl | rfl | rfl | rfl | rfl | rfl | rfl | rfl | rfl | rfl | rfl | rfl | rfl | rfl | rfl | rfl | rfl | rfl | rfl | rfl | rfl | rfl | rfl | rfl | rfl | rfl
    · exact key _ _ _ tb_cw_1 rfl
    · exact key _ _ _ tb_cw_2 rfl
    · exact key _ _ _ tb_cw_3 rfl
    · exact key _ _ _ tb_cw_4 rfl
    · exact key _ _ _ tb_cw_5 rfl
    · exact key _ _ _ tb_cw_6 rfl
    · exact key _ _ _ tb_cw_7 rfl
    · exact key _ _ _ tb_cw_8 rfl
    · exact key _ _ _ tb_cw_9 rfl
    · exact key _ _ _ tb_cw_10 rfl
    · exact key _ _ _ tb_cw_11 rfl
    · exact key _ _ _ tb_cw_12 rfl
    · exact key _ _ _ tb_cw_13 rfl
    · exact key _ _ _ tb_cw_14 rfl
    · exact key _ _ _ tb_cw_15 rfl
    · exact key _ _ _ tb_cw_16 rfl
    · exact key _ _ _ tb_cw_17 rfl
    · exact key _ _ _ tb_cw_18 rfl
    · exact key _ _ _ tb_cw_19 rfl
    · exact key _ _ _ tb_cw_20 rfl
    · exact key _ _ _ tb_cw_21 rfl
    · exact key _ _ _ tb_cw_22 rfl
    · exact key _ _ _ tb_cw_23 rfl
    · exact key _ _ _ tb_cw_24 rfl
    · exact key _ _ _ tb_cw_25 rfl
    · exact key _ _ _ tb_cw_26 rfl
    · exact key _ _ _ tb_cw_27 rfl
    · exact key _ _ _ tb_cw_28 rfl
    · exact key _ _ _ tb_cw_29 rfl
    · exact key _ _ _ tb_cw_30 rfl
  · simp only [tb_cal_1, List.mem_cons, List.not_mem_nil, or_false] at h
    rcases h with rfl | rfl | rfl | rfl | rfl | rfl | rfl | rfl | rfl | rfl | rfl | rfl | rfl | rfl | rfl | rfl | rfl | rfl | rfl | rfl | rfl | rfl | rfl | rfl | rfl | rfl | rfl | rfl | rfl | rfl
    · exact key _ _ _ tb_cw_31 rfl
    · exact key _ _ _ tb_cw_32 rfl
    · exact key _ _ _ tb_cw_33 rfl
    · exact key _ _ _ tb_cw_34 rfl
    · exact key _ _ _ tb_cw_35 rfl
    · exact key _ _ _ tb_cw_36 rfl
    · exact key _ _ _ tb_cw_37 rfl
    · exact key _ _ _ tb_cw_38 rfl
    · exact key _ _ _ tb_cw_39 rfl
    · exact key _ _ _ tb_cw_40 rfl
    · exact key _ _ _ tb_cw_41 rfl
    · exact key _ _ _ tb_cw_42 rfl
    · exact key _ _ _ tb_cw_43 rfl
    · exact key _ _ _ tb_cw_44 rfl
    · exact key _ _ _ tb_cw_45 rfl
    · exact key _ _ _ tb_cw_46 rfl
    · exact key _ _ _ tb_cw_47 rfl
    · exact key _ _ _ tb_cw_48 rfl
    · exact key _ _ _ tb_cw_49 rfl
    · exact key _ _ _ tb_cw_50 rfl
    · exact key _ _ _ tb_cw_51 rfl
    · exact key _ _ _ tb_cw_52 rfl
    · exact key _ _ _ tb_cw_53 rfl
    · exact key _ _ _ tb_cw_54 rfl
    · exact key _ _ _ tb_cw_55 rfl
    · exact key _ _ _ tb_cw_56 rfl
    · exact key _ _ _ tb_cw_57 rfl
    · exact key _ _ _ tb_cw_58 rfl
    · exact key _ _ _ tb_cw_59 rfl
    · exact key _ _ _ tb_cw_60 rfl
  · simp only [tb_cal_2, List.mem_cons, List.not_mem_nil, or_false] at h
    rcases h with rfl | rfl | rfl | rfl | rfl | rfl | rfl | rfl | rfl | rfl | rfl | rfl | rfl | rfl | rfl | rfl | rfl | rfl | rfl | rfl | rfl | rfl | rfl | rfl | rfl | rfl | rfl | rfl | rfl | rfl
    · exact key _ _ _ tb_cw_61 rfl
    · exact key _ _ _ tb_cw_62 rfl
    · exact key _ _ _ tb_cw_63 rfl
    · exact key _ _ _ tb_cw_64 rfl
    · exact key _ _ _ tb_cw_65 rfl
    · exact key _ _ _ tb_cw_66 rfl
    · exact key _ _ _ tb_cw_67 rfl
    · exact key _ _ _ tb_cw_68 rfl
    · exact key _ _ _ tb_cw_69 rfl
    · exact key _ _ _ tb_cw_70 rfl
    · exact key _ _ _ tb_cw_71 rfl
    · exact key _ _ _ tb_cw_72 rfl
    · exact key _ _ _ tb_cw_73 rfl
    · exact key _ _ _ tb_cw_74 rfl
    · exact key _ _ _ tb_cw_75 rfl
    · exact key _ _ _ tb_cw_76 rfl
    · exact key _ _ _ tb_cw_77 rfl
    · exact key _ _ _ tb_cw_78 rfl
    · exact key _ _ _ tb_cw_79 rfl
    · exact key _ _ _ tb_cw_80 rfl
    · exact key _ _ _ tb_cw_81 rfl
    · exact key _ _ _ tb_cw_82 rfl
    · exact key _ _ _ tb_cw_83 rfl
    · exact key _ _ _ tb_cw_84 rfl
    · exact key _ _ _ tb_cw_85 rfl
    · exact key _ _ _ tb_cw_86 rfl
    · exact key _ _ _ tb_cw_87 rfl
    · exact key _ _ _ tb_cw_88 rfl
    · exact key _ _ _ tb_cw_89 rfl
    · exact key _ _ _ tb_cw_90 rfl
  · simp only [tb_cal_3, List.mem_cons, List.not_mem_nil, or_false] at h
    rcases h with rfl | rfl | rfl | rfl | rfl | rfl | rfl | rfl | rfl | rfl | rfl | rfl | rfl | rfl | rfl | rfl | rfl | rfl | rfl | rfl | rfl | rfl | rfl | rfl | rfl | rfl | rfl | rfl | rfl | rfl
    · exact key _ _ _ tb_cw_91 rfl
    · exact key _ _ _ tb_cw_92 rfl
    · exact key _ _ _ tb_cw_93 rfl
    · exact key _ _ _ tb_cw_94 rfl
    · exact key _ _ _ tb_cw_95 rfl
    · exact key _ _ _ tb_cw_96 rfl
    · exact key _ _ _ tb_cw_97 rfl
    · exact key _ _ _ tb_cw_98 rfl
    · exact key _ _ _ tb_cw_99 rfl
    · exact key _ _ _ tb_cw_100 rfl
    · exact key _ _ _ tb_cw_101 rfl
    · exact key _ _ _ tb_cw_102 rfl
    · exact key _ _ _ tb_cw_103 rfl
    · exact key _ _ _ tb_cw_104 rfl
    · exact key _ _ _ tb_cw_105 rfl
    · exact key _ _ _ tb_cw_106 rfl
    · exact key _ _ _ tb_cw_107 rfl
    · exact key _ _ _ tb_cw_108 rfl
    · exact key _ _ _ tb_cw_109 rfl
    · exact key _ _ _ tb_cw_110 rfl
    · exact key _ _ _ tb_cw_111 rfl
    · exact key _ _ _ tb_cw_112 rfl
    · exact key _ _ _ tb_cw_113 rfl
    · exact key _ _ _ tb_cw_114 rfl
    · exact key _ _ _ tb_cw_115 rfl
    · exact key _ _ _ tb_cw_116 rfl
    · exact key _ _ _ tb_cw_117 rfl
    · exact key _ _ _ tb_cw_118 rfl
    · exact key _ _ _ tb_cw_119 rfl
    · exact key _ _ _ tb_cw_120 rfl
  · simp only [tb_cal_4, List.mem_cons, List.not_mem_nil, or_false] at h
    rcases h with rfl | rfl | rfl | rfl | rfl | rfl | rfl | rfl | rfl | rfl | rfl | rfl | rfl | rfl | rfl | rfl | rfl | rfl | rfl | rfl | rfl | rfl | rfl | rfl | rfl | rfl | rfl | rfl | rfl | rfl
    · exact key _ _ _ tb_cw_121 rfl
    · exact key _ _ _ tb_cw_122 rfl
    · exact key _ _ _ tb_cw_123 rfl
    · exact key _ _ _ tb_cw_124 rfl
    · exact key _ _ _ tb_cw_125 rfl
    · exact key _ _ _ tb_cw_126 rfl
    · exact key _ _ _ tb_cw_127 rfl
    · exact key _ _ _ tb_cw_128 rfl
    · exact key _ _ _ tb_cw_129 rfl
    · exact key _ _ _ tb_cw_130 rfl
    · exact key _ _ _ tb_cw_131 rfl
    · exact key _ _ _ tb_cw_132 rfl
    · exact key _ _ _ tb_cw_133 rfl
    · exact key _ _ _ tb_cw_134 rfl
    · exact key _ _ _ tb_cw_135 rfl
    · exact key _ _ _ tb_cw_136 rfl
    · exact key _ _ _ tb_cw_137 rfl
    · exact key _ _ _ tb_cw_138 rfl
    · exact key _ _ _ tb_cw_139 rfl
    · exact key _ _ _ tb_cw_140 rfl
    · exact key _ _ _ tb_cw_141 rfl
    · exact key _ _ _ tb_cw_142 rfl
    · exact key _ _ _ tb_cw_143 rfl
    · exact key _ _ _ tb_cw_144 rfl
    · exact key _ _ _ tb_cw_145 rfl
    · exact key _ _ _ tb_cw_146 rfl
    · exact key _ _ _ tb_cw_147 rfl
    · exact key _ _ _ tb_cw_148 rfl
    · exact key _ _ _ tb_cw_149 rfl
    · exact key _ _ _ tb_cw_150 rfl
  · simp only [tb_cal_5, List.mem_cons, List.not_mem_nil, or_false] at h
    rcases h with rfl | rfl | rfl | rfl | rfl | rfl | rfl | rfl | rfl | rfl | rfl | rfl | rfl | rfl | rfl | rfl | rfl | rfl | rfl | rfl | rfl | rfl | rfl | rfl | rfl | rfl | rfl | rfl | rfl | rfl
    · exact key _ _ _ tb_cw_151 rfl
    · exact key _ _ _ tb_cw_152 rfl
    · exact key _ _ _ tb_cw_153 rfl
    · exact key _ _ _ tb_cw_154 rfl
    · exact key _ _ _ tb_cw_155 rfl
    · exact key _ _ _ tb_cw_156 rfl
    · exact key _ _ _ tb_cw_157 rfl
    · exact key _ _ _ tb_cw_158 rfl
    · exact key _ _ _ tb_cw_159 rfl
    · exact key _ _ _ tb_cw_160 rfl
    · exact key _ _ _ tb_cw_161 rfl
    · exact key _ _ _ tb_cw_162 rfl
    · exact key _ _ _ tb_cw_163 rfl
    · exact key _ _ _ tb_cw_164 rfl
    · exact key _ _ _ tb_cw_165 rfl
    · exact key _ _ _ tb_cw_166 rfl
    · exact key _ _ _ tb_cw_167 rfl
    · exact key _ _ _ tb_cw_168 rfl
    · exact key _ _ _ tb_cw_169 rfl
    · exact key _ _ _ tb_cw_170 rfl
    · exact key _ _ _ tb_cw_171 rfl
    · exact key _ _ _ tb_cw_172 rfl
    · exact key _ _ _ tb_cw_173 rfl
    · exact key _ _ _ tb_cw_174 rfl
    · exact key _ _ _ tb_cw_175 rfl
    · exact key _ _ _ tb_cw_176 rfl
    · exact key _ _ _ tb_cw_177 rfl
    · exact key _ _ _ tb_cw_178 rfl
    · exact key _ _ _ tb_cw_179 rfl
    · exact key _ _ _ tb_cw_180 rfl
  · simp only [tb_cal_6, List.mem_cons, List.not_mem_nil, or_false] at h
    rcases h with rfl | rfl | rfl | rfl | rfl | rfl | rfl | rfl | rfl | rfl | rfl | rfl | rfl | rfl | rfl | rfl | rfl | rfl | rfl | rfl | rfl | rfl | rfl | rfl | rfl | rfl | rfl | rfl | rfl | rfl
    · exact key _ _ _ tb_cw_181 rfl
    · exact key _ _ _ tb_cw_182 rfl
    · exact key _ _ _ tb_cw_183 rfl
    · exact key _ _ _ tb_cw_184 rfl
    · exact key _ _ _ tb_cw_185 rfl
    · exact key _ _ _ tb_cw_186 rfl
    · exact key _ _ _ tb_cw_187 rfl
    · exact key _ _ _ tb_cw_188 rfl
    · exact key _ _ _ tb_cw_189 rfl
    · exact key _ _ _ tb_cw_190 rfl
    · exact key _ _ _ tb_cw_191 rfl
    · exact key _ _ _ tb_cw_192 rfl
    · exact key _ _ _ tb_cw_193 rfl
    · exact key _ _ _ tb_cw_194 rfl
    · exact key _ _ _ tb_cw_195 rfl
    · exact key _ _ _ tb_cw_196 rfl
    · exact key _ _ _ tb_cw_197 rfl
    · exact key _ _ _ tb_cw_198 rfl
    · exact key _ _ _ tb_cw_199 rfl
    · exact key _ _ _ tb_cw_200 rfl
    · exact key _ _ _ tb_cw_201 rfl
    · exact key _ _ _ tb_cw_202 rfl
    · exact key _ _ _ tb_cw_203 rfl
    · exact key _ _ _ tb_cw_204 rfl
    · exact key _ _ _ tb_cw_205 rfl
    · exact key _ _ _ tb_cw_206 rfl
    · exact key _ _ _ tb_cw_207 rfl
    · exact key _ _ _ tb_cw_208 rfl
    · exact key _ _ _ tb_cw_209 rfl
    · exact key _ _ _ tb_cw_210 rfl
  · simp only [tb_cal_7, List.mem_cons, List.not_mem_nil, or_false] at h
    rcases h with rfl | rfl | rfl | rfl | rfl | rfl | rfl | rfl | rfl | rfl
    · exact key _ _ _ tb_cw_211 rfl
    · exact key _ _ _ tb_cw_212 rfl
    · exact key _ _ _ tb_cw_213 rfl
    · exact key _ _ _ tb_cw_214 rfl
    · exact key _ _ _ tb_cw_215 rfl
    · exact key _ _ _ tb_cw_216 rfl
    · exact key _ _ _ tb_cw_217 rfl
    · exact key _ _ _ tb_cw_218 rfl
    · exact key _ _ _ tb_cw_219 rfl
    · exact key _ _ _ tb_cw_220 rfl
def tb_host : String := "Specialiser"
def tb_obh : (Nat × Nat) × (Nat × Nat) := ((1, 32), (1, 33))
def tb_ichk (c : Nat) (q : Nat × Nat × Nat × Nat) (x : Nat × Nat) : Bool :=
  if q.2.2.1 = 6 then true else if q.2.2.1 = 3 then tb_w x (.methodLink (tb_own.getD c "") q.1 Lib.objectInit) && (tb_w tb_obh.1 (.instanceMethod Lib.objectInit) && tb_w tb_obh.2 (.code Lib.objectInit ⟨#[0xb1]⟩ 1 none))
  else tb_cal.contains (q.2.1, q.2.2.1) && (decide ((parseMethodDescriptor (mi_nm tb_P q.2.1).desc).map (fun d => d.parameters.length) = some q.2.2.2) &&
    (if q.2.2.1 = 4 then tb_w x (.methodLinkNest (tb_own.getD c "") q.1 (mi_nm tb_P q.2.1) tb_host) else tb_w x (.methodLink (tb_own.getD c "") q.1 (mi_nm tb_P q.2.1))))
def tb_ih : Nat → List (Nat × Nat) := fun c => match c with
  | 0 => [(1, 88), (1, 91), (1, 120), (2, 226), (3, 45), (3, 139), (4, 105), (4, 61), (4, 65), (4, 73)]
  | 1 => [(1, 58), (3, 14)]
  | 2 => [(2, 25), (2, 26), (2, 27), (2, 32), (4, 121), (4, 126), (4, 130), (4, 149), (4, 150), (5, 43), (4, 134), (4, 135), (4, 139), (4, 140), (4, 144), (4, 148), (4, 170), (4, 171), (4, 172), (4, 173), (4, 174), (4, 187), (4, 191), (5, 37), (4, 178), (4, 182), (5, 41), (5, 42), (4, 186), (4, 195), (4, 196), (4, 200), (4, 201), (5, 5), (5, 9), (5, 13), (5, 17), (5, 28), (5, 35), (5, 36)]
  | 3 => [(2, 73), (2, 75), (2, 76), (2, 77), (5, 106), (5, 107), (5, 116), (99, 0), (99, 0), (5, 112), (5, 111), (5, 117), (5, 124), (5, 177), (5, 178), (5, 182), (5, 183), (5, 184), (5, 190), (5, 195), (5, 203), (5, 210), (5, 215), (5, 194), (5, 201), (5, 214), (5, 219)]
  | 4 => [(1, 139), (1, 140), (1, 145), (1, 147), (3, 148), (2, 222), (2, 230), (2, 234), (3, 111), (3, 19), (3, 27), (3, 2), (3, 23), (2, 238), (3, 10), (3, 15), (3, 31), (3, 32), (3, 41), (3, 46), (3, 107), (3, 36), (3, 40), (3, 50), (3, 54), (3, 68), (3, 72), (3, 58), (3, 63), (3, 76), (3, 101), (3, 80), (3, 84), (3, 88), (3, 92), (3, 96), (3, 100), (3, 115), (3, 119), (3, 123), (3, 127), (3, 131), (3, 135), (3, 140)]
  | 5 => [(1, 39)]
  | 6 => [(1, 216), (1, 218), (1, 219), (4, 205), (4, 206), (4, 207), (4, 208), (4, 214), (4, 215), (4, 216), (4, 220), (4, 224), (4, 229), (4, 233), (4, 238), (4, 212), (4, 228), (5, 2), (4, 237)]
  | 7 => [(1, 50), (1, 52), (1, 55), (2, 180), (3, 6), (2, 172), (2, 176), (2, 215), (2, 184), (2, 187), (2, 190), (2, 203), (2, 212), (2, 195), (2, 207)]
  | 8 => [(1, 94), (1, 96), (3, 62), (3, 67), (3, 105), (3, 106), (5, 32), (5, 33), (5, 34)]
  | 9 => [(1, 193), (1, 195), (1, 197), (3, 156), (4, 110), (4, 111), (4, 112), (4, 113), (4, 116), (5, 21), (5, 22), (5, 23), (5, 24), (4, 125), (5, 81), (5, 82), (5, 83), (5, 53)]
  | 10 => [(1, 31), (1, 36), (1, 47), (1, 85), (1, 136), (1, 190), (1, 213), (2, 22), (2, 70), (3, 239), (4, 3), (2, 168), (2, 218), (3, 144), (3, 152), (3, 157), (4, 36), (4, 56), (4, 57), (4, 69), (4, 85), (4, 101), (4, 106), (4, 117), (5, 44), (5, 48), (5, 49), (5, 54), (5, 58), (5, 62), (5, 73), (5, 75), (5, 76), (5, 77), (5, 84), (5, 93), (5, 102), (6, 24), (6, 25), (6, 26), (6, 30)]
  | 11 => [(6, 46), (7, 119), (7, 133), (7, 147), (7, 130), (7, 136), (7, 150), (7, 144), (7, 126), (7, 158), (7, 174), (7, 162), (7, 178), (7, 190), (7, 206), (7, 182), (7, 186), (7, 194), (7, 202), (7, 198), (7, 166), (7, 170), (7, 214), (7, 154), (7, 210), (7, 226), (8, 47), (8, 32), (8, 28), (8, 12), (8, 16), (8, 35), (8, 20), (8, 24), (8, 39), (8, 43), (8, 4), (7, 236), (8, 8), (8, 56), (8, 69), (8, 73), (8, 77), (8, 80), (8, 89), (8, 96), (8, 85)]
  | 12 => [(3, 166), (4, 8), (4, 32), (4, 80), (4, 95), (5, 69), (5, 88), (5, 97), (5, 234), (6, 2), (6, 9), (6, 17), (6, 37), (1, 28), (6, 43), (3, 162), (7, 111), (4, 4), (7, 115), (2, 164), (7, 122), (3, 158), (7, 218), (4, 28), (7, 222), (4, 77), (7, 231), (4, 91), (8, 0), (7, 107), (5, 66), (8, 51), (5, 85), (8, 60), (5, 94), (8, 65), (5, 231), (8, 100), (5, 239), (8, 104), (6, 6), (8, 108), (6, 14), (8, 112), (6, 34), (8, 117)]
  | _ => []
set_option maxRecDepth 100000 in
theorem tb_i_ok_0 : tb_zc (tb_i 0) (tb_ih 0) (tb_ichk 0) = true := by decide +kernel
set_option maxRecDepth 100000 in
theorem tb_i_ok_1 : tb_zc (tb_i 1) (tb_ih 1) (tb_ichk 1) = true := by decide +kernel
set_option maxRecDepth 100000 in
theorem tb_i_ok_2 : tb_zc (tb_i 2) (tb_ih 2) (tb_ichk 2) = true := by decide +kernel
set_option maxRecDepth 100000 in
theorem tb_i_ok_3 : tb_zc (tb_i 3) (tb_ih 3) (tb_ichk 3) = true := by decide +kernel
set_option maxRecDepth 100000 in
theorem tb_i_ok_4 : tb_zc (tb_i 4) (tb_ih 4) (tb_ichk 4) = true := by decide +kernel
set_option maxRecDepth 100000 in
theorem tb_i_ok_5 : tb_zc (tb_i 5) (tb_ih 5) (tb_ichk 5) = true := by decide +kernel
set_option maxRecDepth 100000 in
theorem tb_i_ok_6 : tb_zc (tb_i 6) (tb_ih 6) (tb_ichk 6) = true := by decide +kernel
set_option maxRecDepth 100000 in
theorem tb_i_ok_7 : tb_zc (tb_i 7) (tb_ih 7) (tb_ichk 7) = true := by decide +kernel
set_option maxRecDepth 100000 in
theorem tb_i_ok_8 : tb_zc (tb_i 8) (tb_ih 8) (tb_ichk 8) = true := by decide +kernel
set_option maxRecDepth 100000 in
theorem tb_i_ok_9 : tb_zc (tb_i 9) (tb_ih 9) (tb_ichk 9) = true := by decide +kernel
set_option maxRecDepth 100000 in
theorem tb_i_ok_10 : tb_zc (tb_i 10) (tb_ih 10) (tb_ichk 10) = true := by decide +kernel
set_option maxRecDepth 100000 in
theorem tb_i_ok_11 : tb_zc (tb_i 11) (tb_ih 11) (tb_ichk 11) = true := by decide +kernel
set_option maxRecDepth 100000 in
theorem tb_i_ok_12 : tb_zc (tb_i 12) (tb_ih 12) (tb_ichk 12) = true := by decide +kernel
theorem tb_i_ok : ∀ c : Nat, tb_zc (tb_i c) (tb_ih c) (tb_ichk c) = true := by
  intro c
  match c with
  | 0 => exact tb_i_ok_0
  | 1 => exact tb_i_ok_1
  | 2 => exact tb_i_ok_2
  | 3 => exact tb_i_ok_3
  | 4 => exact tb_i_ok_4
  | 5 => exact tb_i_ok_5
  | 6 => exact tb_i_ok_6
  | 7 => exact tb_i_ok_7
  | 8 => exact tb_i_ok_8
  | 9 => exact tb_i_ok_9
  | 10 => exact tb_i_ok_10
  | 11 => exact tb_i_ok_11
  | 12 => exact tb_i_ok_12
  | 13 => exact rfl
  | 14 => exact rfl
  | c + 15 => rfl
