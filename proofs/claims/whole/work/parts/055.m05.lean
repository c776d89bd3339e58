def F_X12_init (a0 : Nat) (h : pg_H) : Option pg_H := (if a0 = 0 then none else Option.bind (pg_newA 21 h (7 : Int32)) fun v1 => Option.bind (pg_pR 12 2 v1.2 a0 v1.1) fun v2 => Option.bind (pg_newA 21 v2 (7758 : Int32)) fun v3 => Option.bind (pg_pR 12 3 v3.2 a0 v3.1) fun v4 => Option.bind (pg_newA 21 v4 (15516 : Int32)) fun v5 => Option.bind (pg_pR 12 4 v5.2 a0 v5.1) fun v6 => Option.bind (pg_newA 23 v6 (2 : Int32)) fun v7 => Option.bind (pg_pR 12 5 v7.2 a0 v7.1) fun v8 => Option.bind (pg_newA 20 v8 (114 : Int32)) fun v9 => Option.bind (pg_sI 20 v9.2 v9.1 (0 : Int32) (119 : Int32)) fun v10 => Option.bind (pg_sI 20 v10 v9.1 (1 : Int32) (101 : Int32)) fun v11 => Option.bind (pg_sI 20 v11 v9.1 (2 : Int32) (105 : Int32)) fun v12 => Option.bind (pg_sI 20 v12 v9.1 (3 : Int32) (103 : Int32)) fun v13 => Option.bind (pg_sI 20 v13 v9.1 (4 : Int32) (104 : Int32)) fun v14 => Option.bind (pg_sI 20 v14 v9.1 (5 : Int32) (116 : Int32)) fun v15 => Option.bind (pg_sI 20 v15 v9.1 (6 : Int32) (32 : Int32)) fun v16 => Option.bind (pg_sI 20 v16 v9.1 (7 : Int32) (114 : Int32)) fun v17 => Option.bind (pg_sI 20 v17 v9.1 (8 : Int32) (101 : Int32)) fun v18 => Option.bind (pg_sI 20 v18 v9.1 (9 : Int32) (97 : Int32)) fun v19 => Option.bind (pg_sI 20 v19 v9.1 (10 : Int32) (100 : Int32)) fun v20 => Option.bind (pg_sI 20 v20 v9.1 (11 : Int32) (115 : Int32)) fun v21 => Option.bind (pg_sI 20 v21 v9.1 (12 : Int32) (32 : Int32)) fun v22 => Option.bind (pg_sI 20 v22 v9.1 (13 : Int32) (110 : Int32)) fun v23 => Option.bind (pg_sI 20 v23 v9.1 (14 : Int32) (111 : Int32)) fun v24 => Option.bind (pg_sI 20 v24 v9.1 (15 : Int32) (116 : Int32)) fun v25 => Option.bind (pg_sI 20 v25 v9.1 (16 : Int32) (101 : Int32)) fun v26 => Option.bind (pg_sI 20 v26 v9.1 (17 : Int32) (115 : Int32)) fun v27 => Option.bind (pg_sI 20 v27 v9.1 (18 : Int32) (32 : Int32)) fun v28 => Option.bind (pg_sI 20 v28 v9.1 (19 : Int32) (99 : Int32)) fun v29 => Option.bind (pg_sI 20 v29 v9.1 (20 : Int32) (111 : Int32)) fun v30 => Option.bind (pg_sI 20 v30 v9.1 (21 : Int32) (112 : Int32)) fun v31 => Option.bind (pg_sI 20 v31 v9.1 (22 : Int32) (105 : Int32)) fun v32 => Option.bind (pg_sI 20 v32 v9.1 (23 : Int32) (101 : Int32)) fun v33 => Option.bind (pg_sI 20 v33 v9.1 (24 : Int32) (115 : Int32)) fun v34 => Option.bind (pg_sI 20 v34 v9.1 (25 : Int32) (32 : Int32)) fun v35 => Option.bind (pg_sI 20 v35 v9.1 (26 : Int32) (97 : Int32)) fun v36 => Option.bind (pg_sI 20 v36 v9.1 (27 : Int32) (100 : Int32)) fun v37 => Option.bind (pg_sI 20 v37 v9.1 (28 : Int32) (100 : Int32)) fun v38 => Option.bind (pg_sI 20 v38 v9.1 (29 : Int32) (115 : Int32)) fun v39 => Option.bind (pg_sI 20 v39 v9.1 (30 : Int32) (32 : Int32)) fun v40 => Option.bind (pg_sI 20 v40 v9.1 (31 : Int32) (108 : Int32)) fun v41 => Option.bind (pg_sI 20 v41 v9.1 (32 : Int32) (97 : Int32)) fun v42 => Option.bind (pg_sI 20 v42 v9.1 (33 : Int32) (116 : Int32)) fun v43 => Option.bind (pg_sI 20 v43 v9.1 (34 : Int32) (101 : Int32)) fun v44 => Option.bind (pg_sI 20 v44 v9.1 (35 : Int32) (32 : Int32)) fun v45 => Option.bind (pg_sI 20 v45 v9.1 (36 : Int32) (115 : Int32)) fun v46 => Option.bind (pg_sI 20 v46 v9.1 (37 : Int32) (116 : Int32)) fun v47 => Option.bind (pg_sI 20 v47 v9.1 (38 : Int32) (114 : Int32)) fun v48 => Option.bind (pg_sI 20 v48 v9.1 (39 : Int32) (117 : Int32)) fun v49 => Option.bind (pg_sI 20 v49 v9.1 (40 : Int32) (99 : Int32)) fun v50 => Option.bind (pg_sI 20 v50 v9.1 (41 : Int32) (107 : Int32)) fun v51 => Option.bind (pg_sI 20 v51 v9.1 (42 : Int32) (32 : Int32)) fun v52 => Option.bind (pg_sI 20 v52 v9.1 (43 : Int32) (105 : Int32)) fun v53 => Option.bind (pg_sI 20 v53 v9.1 (44 : Int32) (102 : Int32)) fun v54 => Option.bind (pg_sI 20 v54 v9.1 (45 : Int32) (32 : Int32)) fun v55 => Option.bind (pg_sI 20 v55 v9.1 (46 : Int32) (111 : Int32)) fun v56 => Option.bind (pg_sI 20 v56 v9.1 (47 : Int32) (114 : Int32)) fun v57 => Option.bind (pg_sI 20 v57 v9.1 (48 : Int32) (32 : Int32)) fun v58 => Option.bind (pg_sI 20 v58 v9.1 (49 : Int32) (97 : Int32)) fun v59 => Option.bind (pg_sI 20 v59 v9.1 (50 : Int32) (110 : Int32)) fun v60 => Option.bind (pg_sI 20 v60 v9.1 (51 : Int32) (100 : Int32)) fun v61 => Option.bind (pg_sI 20 v61 v9.1 (52 : Int32) (32 : Int32)) fun v62 => Option.bind (pg_sI 20 v62 v9.1 (53 : Int32) (110 : Int32)) fun v63 => Option.bind (pg_sI 20 v63 v9.1 (54 : Int32) (111 : Int32)) fun v64 => Option.bind (pg_sI 20 v64 v9.1 (55 : Int32) (116 : Int32)) fun v65 => Option.bind (pg_sI 20 v65 v9.1 (56 : Int32) (32 : Int32)) fun v66 => Option.bind (pg_sI 20 v66 v9.1 (57 : Int32) (112 : Int32)) fun v67 => Option.bind (pg_sI 20 v67 v9.1 (58 : Int32) (108 : Int32)) fun v68 => Option.bind (pg_sI 20 v68 v9.1 (59 : Int32) (97 : Int32)) fun v69 => Option.bind (pg_sI 20 v69 v9.1 (60 : Int32) (99 : Int32)) fun v70 => Option.bind (pg_sI 20 v70 v9.1 (61 : Int32) (101 : Int32)) fun v71 => Option.bind (pg_sI 20 v71 v9.1 (62 : Int32) (32 : Int32)) fun v72 => Option.bind (pg_sI 20 v72 v9.1 (63 : Int32) (99 : Int32)) fun v73 => Option.bind (pg_sI 20 v73 v9.1 (64 : Int32) (104 : Int32)) fun v74 => Option.bind (pg_sI 20 v74 v9.1 (65 : Int32) (97 : Int32)) fun v75 => Option.bind (pg_sI 20 v75 v9.1 (66 : Int32) (112 : Int32)) fun v76 => Option.bind (pg_sI 20 v76 v9.1 (67 : Int32) (116 : Int32)) fun v77 => Option.bind (pg_sI 20 v77 v9.1 (68 : Int32) (101 : Int32)) fun v78 => Option.bind (pg_sI 20 v78 v9.1 (69 : Int32) (114 : Int32)) fun v79 => Option.bind (pg_sI 20 v79 v9.1 (70 : Int32) (32 : Int32)) fun v80 => Option.bind (pg_sI 20 v80 v9.1 (71 : Int32) (119 : Int32)) fun v81 => Option.bind (pg_sI 20 v81 v9.1 (72 : Int32) (111 : Int32)) fun v82 => Option.bind (pg_sI 20 v82 v9.1 (73 : Int32) (114 : Int32)) fun v83 => Option.bind (pg_sI 20 v83 v9.1 (74 : Int32) (100 : Int32)) fun v84 => Option.bind (pg_sI 20 v84 v9.1 (75 : Int32) (105 : Int32)) fun v85 => Option.bind (pg_sI 20 v85 v9.1 (76 : Int32) (110 : Int32)) fun v86 => Option.bind (pg_sI 20 v86 v9.1 (77 : Int32) (103 : Int32)) fun v87 => Option.bind (pg_sI 20 v87 v9.1 (78 : Int32) (32 : Int32)) fun v88 => Option.bind (pg_sI 20 v88 v9.1 (79 : Int32) (115 : Int32)) fun v89 => Option.bind (pg_sI 20 v89 v9.1 (80 : Int32) (104 : Int32)) fun v90 => Option.bind (pg_sI 20 v90 v9.1 (81 : Int32) (97 : Int32)) fun v91 => Option.bind (pg_sI 20 v91 v9.1 (82 : Int32) (114 : Int32)) fun v92 => Option.bind (pg_sI 20 v92 v9.1 (83 : Int32) (101 : Int32)) fun v93 => Option.bind (pg_sI 20 v93 v9.1 (84 : Int32) (100 : Int32)) fun v94 => Option.bind (pg_sI 20 v94 v9.1 (85 : Int32) (32 : Int32)) fun v95 => Option.bind (pg_sI 20 v95 v9.1 (86 : Int32) (108 : Int32)) fun v96 => Option.bind (pg_sI 20 v96 v9.1 (87 : Int32) (97 : Int32)) fun v97 => Option.bind (pg_sI 20 v97 v9.1 (88 : Int32) (110 : Int32)) fun v98 => Option.bind (pg_sI 20 v98 v9.1 (89 : Int32) (100 : Int32)) fun v99 => Option.bind (pg_sI 20 v99 v9.1 (90 : Int32) (32 : Int32)) fun v100 => Option.bind (pg_sI 20 v100 v9.1 (91 : Int32) (104 : Int32)) fun v101 => Option.bind (pg_sI 20 v101 v9.1 (92 : Int32) (97 : Int32)) fun v102 => Option.bind (pg_sI 20 v102 v9.1 (93 : Int32) (110 : Int32)) fun v103 => Option.bind (pg_sI 20 v103 v9.1 (94 : Int32) (100 : Int32)) fun v104 => Option.bind (pg_sI 20 v104 v9.1 (95 : Int32) (32 : Int32)) fun v105 => Option.bind (pg_sI 20 v105 v9.1 (96 : Int32) (107 : Int32)) fun v106 => Option.bind (pg_sI 20 v106 v9.1 (97 : Int32) (105 : Int32)) fun v107 => Option.bind (pg_sI 20 v107 v9.1 (98 : Int32) (110 : Int32)) fun v108 => Option.bind (pg_sI 20 v108 v9.1 (99 : Int32) (100 : Int32)) fun v109 => Option.bind (pg_sI 20 v109 v9.1 (100 : Int32) (32 : Int32)) fun v110 => Option.bind (pg_sI 20 v110 v9.1 (101 : Int32) (108 : Int32)) fun v111 => Option.bind (pg_sI 20 v111 v9.1 (102 : Int32) (105 : Int32)) fun v112 => Option.bind (pg_sI 20 v112 v9.1 (103 : Int32) (115 : Int32)) fun v113 => Option.bind (pg_sI 20 v113 v9.1 (104 : Int32) (116 : Int32)) fun v114 => Option.bind (pg_sI 20 v114 v9.1 (105 : Int32) (115 : Int32)) fun v115 => Option.bind (pg_sI 20 v115 v9.1 (106 : Int32) (32 : Int32)) fun v116 => Option.bind (pg_sI 20 v116 v9.1 (107 : Int32) (108 : Int32)) fun v117 => Option.bind (pg_sI 20 v117 v9.1 (108 : Int32) (111 : Int32)) fun v118 => Option.bind (pg_sI 20 v118 v9.1 (109 : Int32) (111 : Int32)) fun v119 => Option.bind (pg_sI 20 v119 v9.1 (110 : Int32) (107 : Int32)) fun v120 => Option.bind (pg_sI 20 v120 v9.1 (111 : Int32) (101 : Int32)) fun v121 => Option.bind (pg_sI 20 v121 v9.1 (112 : Int32) (100 : Int32)) fun v122 => Option.bind (pg_sI 20 v122 v9.1 (113 : Int32) (32 : Int32)) fun v123 => Option.bind (pg_pR 12 7 v123 a0 v9.1) fun v124 => Option.bind (pg_newA 20 v124 (400 : Int32)) fun v125 => Option.bind (pg_pR 12 8 v125.2 a0 v125.1) fun v126 => Option.bind (pg_newA 21 v126 (5 : Int32)) fun v127 => Option.bind (pg_pR 12 9 v127.2 a0 v127.1) fun v128 => Option.bind (pg_pI 12 11 v128 a0 (-1 : Int32)) fun v129 => Option.bind (pg_newA 21 v129 (401 : Int32)) fun v130 => Option.bind (pg_pR 12 12 v130.2 a0 v130.1) fun v131 => Option.bind (pg_newA 21 v131 (401 : Int32)) fun v132 => Option.bind (pg_pR 12 13 v132.2 a0 v132.1) fun v133 => Option.bind (pg_newA 21 v133 (401 : Int32)) fun v134 => Option.bind (pg_pR 12 14 v134.2 a0 v134.1) fun v135 => Option.bind (pg_newA 21 v135 (9 : Int32)) fun v136 => Option.bind (pg_pR 12 22 v136.2 a0 v136.1) fun v137 => Option.bind (pg_newA 21 v137 (200 : Int32)) fun v138 => Option.bind (pg_pR 12 25 v138.2 a0 v138.1) fun v139 => Option.bind (pg_newA 21 v139 (156 : Int32)) fun v140 => Option.bind (pg_pR 12 26 v140.2 a0 v140.1) fun v141 => Option.bind (pg_newA 21 v141 (12 : Int32)) fun v142 => Option.bind (pg_pR 12 27 v142.2 a0 v142.1) fun v143 => Option.bind (pg_newA 21 v143 (4096 : Int32)) fun v144 => Option.bind (pg_pR 12 28 v144.2 a0 v144.1) fun v145 => Option.bind (pg_newA 21 v145 (12 : Int32)) fun v146 => Option.bind (pg_pR 12 29 v146.2 a0 v146.1) fun v147 => Option.bind (pg_pI 12 31 v147 a0 (-1 : Int32)) fun v148 => Option.bind (pg_newA 23 v148 (144 : Int32)) fun v149 => Option.bind (pg_pR 12 32 v149.2 a0 v149.1) fun v150 => Option.bind (pg_newA 21 v150 (12 : Int32)) fun v151 => Option.bind (pg_pR 12 33 v151.2 a0 v151.1) fun v152 => Option.bind (pg_newA 22 v152 (380 : Int32)) fun v153 => Option.bind (pg_pR 12 34 v153.2 a0 v153.1) fun v154 => Option.bind (pg_newA 22 v154 (380 : Int32)) fun v155 => Option.bind (pg_pR 12 35 v155.2 a0 v155.1) fun v156 => Option.bind (pg_newA 22 v156 (380 : Int32)) fun v157 => Option.bind (pg_pR 12 36 v157.2 a0 v157.1) fun v158 => Option.bind (pg_newA 21 v158 (12 : Int32)) fun v159 => Option.bind (pg_pR 12 37 v159.2 a0 v159.1) fun v160 => Option.bind (pg_newA 21 v160 (12 : Int32)) fun v161 => Option.bind (pg_pR 12 38 v161.2 a0 v161.1) fun v162 => Option.bind (pg_newA 22 v162 (380 : Int32)) fun v163 => Option.bind (pg_pR 12 39 v163.2 a0 v163.1) fun v164 => Option.bind (pg_newA 23 v164 (60 : Int32)) fun v165 => Option.bind (pg_pR 12 40 v165.2 a0 v165.1) fun v166 => Option.bind (pg_newA 21 v166 (1728 : Int32)) fun v167 => Option.bind (pg_pR 12 41 v167.2 a0 v167.1) fun v168 => Option.bind (pg_newA 21 v168 (12 : Int32)) fun v169 => Option.bind (pg_pR 12 42 v169.2 a0 v169.1) fun v170 => Option.bind (pg_newA 21 v170 (12 : Int32)) fun v171 => Option.bind (pg_pR 12 43 v171.2 a0 v171.1) fun v172 => Option.bind (pg_pI 12 44 v172 a0 (-1 : Int32)) fun v173 => Option.bind (pg_gR 12 3 v173 a0) fun v174 => Option.bind (pg_sI 21 v173 v174 (1340 : Int32) (3 : Int32)) fun v175 => Option.bind (pg_gR 12 3 v175 a0) fun v176 => Option.bind (pg_sI 21 v175 v176 (1341 : Int32) (1 : Int32)) fun v177 => Option.bind (pg_gR 12 3 v177 a0) fun v178 => Option.bind (pg_sI 21 v177 v178 (1342 : Int32) (2 : Int32)) fun v179 => Option.bind (pg_gR 12 3 v179 a0) fun v180 => Option.bind (pg_sI 21 v179 v180 (1343 : Int32) (20 : Int32)) fun v181 => Option.bind (pg_gR 12 3 v181 a0) fun v182 => Option.bind (pg_sI 21 v181 v182 (1349 : Int32) (-1 : Int32)) fun v183 => (some v183))
theorem e_X12_init (l : Launch) (D : pg_D)  (a0 : Nat) (h : pg_H) : pg_EvF l D RX12 cX12_init 1 none "<init>" 1 20 pg_wV (F_X12_init a0 h) 0 [(0, pR a0)] [] h := by
  unfold F_X12_init
  refine pg_aload_n (i := 0) dX12_init_0 rfl 0 rfl ?_
  refine pg_objInit dX12_init_1 pw6_34 pw_obj1 pw_obj2 (Nat.le_of_ble_eq_true rfl) (by decide) (by decide) ?_
  refine pg_aload_n (i := 0) dX12_init_4 rfl 0 rfl ?_
  refine pg_bipush dX12_init_5 cb_7 ?_
  refine pg_newI dX12_init_7 pw_arr_int (fun v1 => ?_)
  refine pg_putR dX12_init_9 fl_RX12_7 rfl (fun _ => ⟨rfl, fp_RX12_7⟩) (fun v2 => ?_)
  refine pg_aload_n (i := 0) dX12_init_12 rfl 0 rfl ?_
  refine pg_sipush dX12_init_13 cs_7758 ?_
  refine pg_newI dX12_init_16 pw_arr_int (fun v3 => ?_)
  refine pg_putR dX12_init_18 fl_RX12_20 rfl (fun _ => ⟨rfl, fp_RX12_20⟩) (fun v4 => ?_)
  refine pg_aload_n (i := 0) dX12_init_21 rfl 0 rfl ?_
  refine pg_sipush dX12_init_22 cs_15516 ?_
  refine pg_newI dX12_init_25 pw_arr_int (fun v5 => ?_)
  refine pg_putR dX12_init_27 fl_RX12_23 rfl (fun _ => ⟨rfl, fp_RX12_23⟩) (fun v6 => ?_)
  refine pg_aload_n (i := 0) dX12_init_30 rfl 0 rfl ?_
  refine pg_iconst dX12_init_31 ci_2 ?_
  refine pg_newZ dX12_init_32 pw_arr_boolean (fun v7 => ?_)
  refine pg_putR dX12_init_34 fl_RX12_26 rfl (fun _ => ⟨rfl, fp_RX12_26⟩) (fun v8 => ?_)
  refine pg_aload_n (i := 0) dX12_init_37 rfl 0 rfl ?_
  refine pg_bipush dX12_init_38 cb_114 ?_
  refine pg_newB dX12_init_40 pw_arr_byte (fun v9 => ?_)
  refine pg_dup dX12_init_42 rfl ?_
  refine pg_iconst dX12_init_43 ci_0 ?_
  refine pg_bipush dX12_init_44 cb_119 ?_
  refine pg_bastore dX12_init_46 (fun v10 => ?_)
  refine pg_dup dX12_init_47 rfl ?_
  refine pg_iconst dX12_init_48 ci_1 ?_
  refine pg_bipush dX12_init_49 cb_101 ?_
  refine pg_bastore dX12_init_51 (fun v11 => ?_)
  refine pg_dup dX12_init_52 rfl ?_
  refine pg_iconst dX12_init_53 ci_2 ?_
  refine pg_bipush dX12_init_54 cb_105 ?_
  refine pg_bastore dX12_init_56 (fun v12 => ?_)
  refine pg_dup dX12_init_57 rfl ?_
  refine pg_iconst dX12_init_58 ci_3 ?_
  refine pg_bipush dX12_init_59 cb_103 ?_
  refine pg_bastore dX12_init_61 (fun v13 => ?_)
  refine pg_dup dX12_init_62 rfl ?_
  refine pg_iconst dX12_init_63 ci_4 ?_
  refine pg_bipush dX12_init_64 cb_104 ?_
  refine pg_bastore dX12_init_66 (fun v14 => ?_)
  refine pg_dup dX12_init_67 rfl ?_
  refine pg_iconst dX12_init_68 ci_5 ?_
  refine pg_bipush dX12_init_69 cb_116 ?_
  refine pg_bastore dX12_init_71 (fun v15 => ?_)
  refine pg_dup dX12_init_72 rfl ?_
  refine pg_bipush dX12_init_73 cb_6 ?_
  refine pg_bipush dX12_init_75 cb_32 ?_
  refine pg_bastore dX12_init_77 (fun v16 => ?_)
  refine pg_dup dX12_init_78 rfl ?_
  refine pg_bipush dX12_init_79 cb_7 ?_
  refine pg_bipush dX12_init_81 cb_114 ?_
  refine pg_bastore dX12_init_83 (fun v17 => ?_)
  refine pg_dup dX12_init_84 rfl ?_
  refine pg_bipush dX12_init_85 cb_8 ?_
  refine pg_bipush dX12_init_87 cb_101 ?_
  refine pg_bastore dX12_init_89 (fun v18 => ?_)
  refine pg_dup dX12_init_90 rfl ?_
  refine pg_bipush dX12_init_91 cb_9 ?_
  refine pg_bipush dX12_init_93 cb_97 ?_
  refine pg_bastore dX12_init_95 (fun v19 => ?_)
  refine pg_dup dX12_init_96 rfl ?_
  refine pg_bipush dX12_init_97 cb_10 ?_
  refine pg_bipush dX12_init_99 cb_100 ?_
  refine pg_bastore dX12_init_101 (fun v20 => ?_)
  refine pg_dup dX12_init_102 rfl ?_
  refine pg_bipush dX12_init_103 cb_11 ?_
  refine pg_bipush dX12_init_105 cb_115 ?_
  refine pg_bastore dX12_init_107 (fun v21 => ?_)
  refine pg_dup dX12_init_108 rfl ?_
  refine pg_bipush dX12_init_109 cb_12 ?_
  refine pg_bipush dX12_init_111 cb_32 ?_
  refine pg_bastore dX12_init_113 (fun v22 => ?_)
  refine pg_dup dX12_init_114 rfl ?_
  refine pg_bipush dX12_init_115 cb_13 ?_
  refine pg_bipush dX12_init_117 cb_110 ?_
  refine pg_bastore dX12_init_119 (fun v23 => ?_)
  refine pg_dup dX12_init_120 rfl ?_
  refine pg_bipush dX12_init_121 cb_14 ?_
  refine pg_bipush dX12_init_123 cb_111 ?_
  refine pg_bastore dX12_init_125 (fun v24 => ?_)
  refine pg_dup dX12_init_126 rfl ?_
  refine pg_bipush dX12_init_127 cb_15 ?_
  refine pg_bipush dX12_init_129 cb_116 ?_
  refine pg_bastore dX12_init_131 (fun v25 => ?_)
  refine pg_dup dX12_init_132 rfl ?_
  refine pg_bipush dX12_init_133 cb_16 ?_
  refine pg_bipush dX12_init_135 cb_101 ?_
  refine pg_bastore dX12_init_137 (fun v26 => ?_)
  refine pg_dup dX12_init_138 rfl ?_
  refine pg_bipush dX12_init_139 cb_17 ?_
  refine pg_bipush dX12_init_141 cb_115 ?_
  refine pg_bastore dX12_init_143 (fun v27 => ?_)
  refine pg_dup dX12_init_144 rfl ?_
  refine pg_bipush dX12_init_145 cb_18 ?_
  refine pg_bipush dX12_init_147 cb_32 ?_
  refine pg_bastore dX12_init_149 (fun v28 => ?_)
  refine pg_dup dX12_init_150 rfl ?_
  refine pg_bipush dX12_init_151 cb_19 ?_
  refine pg_bipush dX12_init_153 cb_99 ?_
  refine pg_bastore dX12_init_155 (fun v29 => ?_)
  refine pg_dup dX12_init_156 rfl ?_
  refine pg_bipush dX12_init_157 cb_20 ?_
  refine pg_bipush dX12_init_159 cb_111 ?_
  refine pg_bastore dX12_init_161 (fun v30 => ?_)
  refine pg_dup dX12_init_162 rfl ?_
  refine pg_bipush dX12_init_163 cb_21 ?_
  refine pg_bipush dX12_init_165 cb_112 ?_
  refine pg_bastore dX12_init_167 (fun v31 => ?_)
  refine pg_dup dX12_init_168 rfl ?_
  refine pg_bipush dX12_init_169 cb_22 ?_
  refine pg_bipush dX12_init_171 cb_105 ?_
  refine pg_bastore dX12_init_173 (fun v32 => ?_)
  refine pg_dup dX12_init_174 rfl ?_
  refine pg_bipush dX12_init_175 cb_23 ?_
  refine pg_bipush dX12_init_177 cb_101 ?_
  refine pg_bastore dX12_init_179 (fun v33 => ?_)
  refine pg_dup dX12_init_180 rfl ?_
  refine pg_bipush dX12_init_181 cb_24 ?_
  refine pg_bipush dX12_init_183 cb_115 ?_
  refine pg_bastore dX12_init_185 (fun v34 => ?_)
  refine pg_dup dX12_init_186 rfl ?_
  refine pg_bipush dX12_init_187 cb_25 ?_
  refine pg_bipush dX12_init_189 cb_32 ?_
  refine pg_bastore dX12_init_191 (fun v35 => ?_)
  refine pg_dup dX12_init_192 rfl ?_
  refine pg_bipush dX12_init_193 cb_26 ?_
  refine pg_bipush dX12_init_195 cb_97 ?_
  refine pg_bastore dX12_init_197 (fun v36 => ?_)
  refine pg_dup dX12_init_198 rfl ?_
  refine pg_bipush dX12_init_199 cb_27 ?_
  refine pg_bipush dX12_init_201 cb_100 ?_
  refine pg_bastore dX12_init_203 (fun v37 => ?_)
  refine pg_dup dX12_init_204 rfl ?_
  refine pg_bipush dX12_init_205 cb_28 ?_
  refine pg_bipush dX12_init_207 cb_100 ?_
  refine pg_bastore dX12_init_209 (fun v38 => ?_)
  refine pg_dup dX12_init_210 rfl ?_
  refine pg_bipush dX12_init_211 cb_29 ?_
  refine pg_bipush dX12_init_213 cb_115 ?_
  refine pg_bastore dX12_init_215 (fun v39 => ?_)
  refine pg_dup dX12_init_216 rfl ?_
  refine pg_bipush dX12_init_217 cb_30 ?_
  refine pg_bipush dX12_init_219 cb_32 ?_
  refine pg_bastore dX12_init_221 (fun v40 => ?_)
  refine pg_dup dX12_init_222 rfl ?_
  refine pg_bipush dX12_init_223 cb_31 ?_
  refine pg_bipush dX12_init_225 cb_108 ?_
  refine pg_bastore dX12_init_227 (fun v41 => ?_)
  refine pg_dup dX12_init_228 rfl ?_
  refine pg_bipush dX12_init_229 cb_32 ?_
  refine pg_bipush dX12_init_231 cb_97 ?_
  refine pg_bastore dX12_init_233 (fun v42 => ?_)
  refine pg_dup dX12_init_234 rfl ?_
  refine pg_bipush dX12_init_235 cb_33 ?_
  refine pg_bipush dX12_init_237 cb_116 ?_
  refine pg_bastore dX12_init_239 (fun v43 => ?_)
  refine pg_dup dX12_init_240 rfl ?_
  refine pg_bipush dX12_init_241 cb_34 ?_
  refine pg_bipush dX12_init_243 cb_101 ?_
  refine pg_bastore dX12_init_245 (fun v44 => ?_)
  refine pg_dup dX12_init_246 rfl ?_
  refine pg_bipush dX12_init_247 cb_35 ?_
  refine pg_bipush dX12_init_249 cb_32 ?_
  refine pg_bastore dX12_init_251 (fun v45 => ?_)
  refine pg_dup dX12_init_252 rfl ?_
  refine pg_bipush dX12_init_253 cb_36 ?_
  refine pg_bipush dX12_init_255 cb_115 ?_
  refine pg_bastore dX12_init_257 (fun v46 => ?_)
  refine pg_dup dX12_init_258 rfl ?_
  refine pg_bipush dX12_init_259 cb_37 ?_
  refine pg_bipush dX12_init_261 cb_116 ?_
  refine pg_bastore dX12_init_263 (fun v47 => ?_)
  refine pg_dup dX12_init_264 rfl ?_
  refine pg_bipush dX12_init_265 cb_38 ?_
  refine pg_bipush dX12_init_267 cb_114 ?_
  refine pg_bastore dX12_init_269 (fun v48 => ?_)
  refine pg_dup dX12_init_270 rfl ?_
  refine pg_bipush dX12_init_271 cb_39 ?_
  refine pg_bipush dX12_init_273 cb_117 ?_
  refine pg_bastore dX12_init_275 (fun v49 => ?_)
  refine pg_dup dX12_init_276 rfl ?_
  refine pg_bipush dX12_init_277 cb_40 ?_
  refine pg_bipush dX12_init_279 cb_99 ?_
  refine pg_bastore dX12_init_281 (fun v50 => ?_)
  refine pg_dup dX12_init_282 rfl ?_
  refine pg_bipush dX12_init_283 cb_41 ?_
  refine pg_bipush dX12_init_285 cb_107 ?_
  refine pg_bastore dX12_init_287 (fun v51 => ?_)
  refine pg_dup dX12_init_288 rfl ?_
  refine pg_bipush dX12_init_289 cb_42 ?_
  refine pg_bipush dX12_init_291 cb_32 ?_
  refine pg_bastore dX12_init_293 (fun v52 => ?_)
  refine pg_dup dX12_init_294 rfl ?_
  refine pg_bipush dX12_init_295 cb_43 ?_
  refine pg_bipush dX12_init_297 cb_105 ?_
  refine pg_bastore dX12_init_299 (fun v53 => ?_)
  refine pg_dup dX12_init_300 rfl ?_
  refine pg_bipush dX12_init_301 cb_44 ?_
  refine pg_bipush dX12_init_303 cb_102 ?_
  refine pg_bastore dX12_init_305 (fun v54 => ?_)
  refine pg_dup dX12_init_306 rfl ?_
  refine pg_bipush dX12_init_307 cb_45 ?_
  refine pg_bipush dX12_init_309 cb_32 ?_
  refine pg_bastore dX12_init_311 (fun v55 => ?_)
  refine pg_dup dX12_init_312 rfl ?_
  refine pg_bipush dX12_init_313 cb_46 ?_
  refine pg_bipush dX12_init_315 cb_111 ?_
  refine pg_bastore dX12_init_317 (fun v56 => ?_)
  refine pg_dup dX12_init_318 rfl ?_
  refine pg_bipush dX12_init_319 cb_47 ?_
  refine pg_bipush dX12_init_321 cb_114 ?_
  refine pg_bastore dX12_init_323 (fun v57 => ?_)
  refine pg_dup dX12_init_324 rfl ?_
  refine pg_bipush dX12_init_325 cb_48 ?_
  refine pg_bipush dX12_init_327 cb_32 ?_
  refine pg_bastore dX12_init_329 (fun v58 => ?_)
  refine pg_dup dX12_init_330 rfl ?_
  refine pg_bipush dX12_init_331 cb_49 ?_
  refine pg_bipush dX12_init_333 cb_97 ?_
  refine pg_bastore dX12_init_335 (fun v59 => ?_)
  refine pg_dup dX12_init_336 rfl ?_
  refine pg_bipush dX12_init_337 cb_50 ?_
  refine pg_bipush dX12_init_339 cb_110 ?_
  refine pg_bastore dX12_init_341 (fun v60 => ?_)
  refine pg_dup dX12_init_342 rfl ?_
  refine pg_bipush dX12_init_343 cb_51 ?_
  refine pg_bipush dX12_init_345 cb_100 ?_
  refine pg_bastore dX12_init_347 (fun v61 => ?_)
  refine pg_dup dX12_init_348 rfl ?_
  refine pg_bipush dX12_init_349 cb_52 ?_
  refine pg_bipush dX12_init_351 cb_32 ?_
  refine pg_bastore dX12_init_353 (fun v62 => ?_)
  refine pg_dup dX12_init_354 rfl ?_
  refine pg_bipush dX12_init_355 cb_53 ?_
  refine pg_bipush dX12_init_357 cb_110 ?_
  refine pg_bastore dX12_init_359 (fun v63 => ?_)
  refine pg_dup dX12_init_360 rfl ?_
  refine pg_bipush dX12_init_361 cb_54 ?_
  refine pg_bipush dX12_init_363 cb_111 ?_
  refine pg_bastore dX12_init_365 (fun v64 => ?_)
  refine pg_dup dX12_init_366 rfl ?_
  refine pg_bipush dX12_init_367 cb_55 ?_
  refine pg_bipush dX12_init_369 cb_116 ?_
  refine pg_bastore dX12_init_371 (fun v65 => ?_)
  refine pg_dup dX12_init_372 rfl ?_
  refine pg_bipush dX12_init_373 cb_56 ?_
  refine pg_bipush dX12_init_375 cb_32 ?_
  refine pg_bastore dX12_init_377 (fun v66 => ?_)
  refine pg_dup dX12_init_378 rfl ?_
  refine pg_bipush dX12_init_379 cb_57 ?_
  refine pg_bipush dX12_init_381 cb_112 ?_
  refine pg_bastore dX12_init_383 (fun v67 => ?_)
  refine pg_dup dX12_init_384 rfl ?_
  refine pg_bipush dX12_init_385 cb_58 ?_
  refine pg_bipush dX12_init_387 cb_108 ?_
  refine pg_bastore dX12_init_389 (fun v68 => ?_)
  refine pg_dup dX12_init_390 rfl ?_
  refine pg_bipush dX12_init_391 cb_59 ?_
  refine pg_bipush dX12_init_393 cb_97 ?_
  refine pg_bastore dX12_init_395 (fun v69 => ?_)
  refine pg_dup dX12_init_396 rfl ?_
  refine pg_bipush dX12_init_397 cb_60 ?_
  refine pg_bipush dX12_init_399 cb_99 ?_
  refine pg_bastore dX12_init_401 (fun v70 => ?_)
  refine pg_dup dX12_init_402 rfl ?_
  refine pg_bipush dX12_init_403 cb_61 ?_
  refine pg_bipush dX12_init_405 cb_101 ?_
  refine pg_bastore dX12_init_407 (fun v71 => ?_)
  refine pg_dup dX12_init_408 rfl ?_
  refine pg_bipush dX12_init_409 cb_62 ?_
  refine pg_bipush dX12_init_411 cb_32 ?_
  refine pg_bastore dX12_init_413 (fun v72 => ?_)
  refine pg_dup dX12_init_414 rfl ?_
  refine pg_bipush dX12_init_415 cb_63 ?_
  refine pg_bipush dX12_init_417 cb_99 ?_
  refine pg_bastore dX12_init_419 (fun v73 => ?_)
  refine pg_dup dX12_init_420 rfl ?_
  refine pg_bipush dX12_init_421 cb_64 ?_
  refine pg_bipush dX12_init_423 cb_104 ?_
  refine pg_bastore dX12_init_425 (fun v74 => ?_)
  refine pg_dup dX12_init_426 rfl ?_
  refine pg_bipush dX12_init_427 cb_65 ?_
  refine pg_bipush dX12_init_429 cb_97 ?_
  refine pg_bastore dX12_init_431 (fun v75 => ?_)
  refine pg_dup dX12_init_432 rfl ?_
  refine pg_bipush dX12_init_433 cb_66 ?_
  refine pg_bipush dX12_init_435 cb_112 ?_
  refine pg_bastore dX12_init_437 (fun v76 => ?_)
  refine pg_dup dX12_init_438 rfl ?_
  refine pg_bipush dX12_init_439 cb_67 ?_
  refine pg_bipush dX12_init_441 cb_116 ?_
  refine pg_bastore dX12_init_443 (fun v77 => ?_)
  refine pg_dup dX12_init_444 rfl ?_
  refine pg_bipush dX12_init_445 cb_68 ?_
  refine pg_bipush dX12_init_447 cb_101 ?_
  refine pg_bastore dX12_init_449 (fun v78 => ?_)
  refine pg_dup dX12_init_450 rfl ?_
  refine pg_bipush dX12_init_451 cb_69 ?_
  refine pg_bipush dX12_init_453 cb_114 ?_
  refine pg_bastore dX12_init_455 (fun v79 => ?_)
  refine pg_dup dX12_init_456 rfl ?_
  refine pg_bipush dX12_init_457 cb_70 ?_
  refine pg_bipush dX12_init_459 cb_32 ?_
  refine pg_bastore dX12_init_461 (fun v80 => ?_)
  refine pg_dup dX12_init_462 rfl ?_
  refine pg_bipush dX12_init_463 cb_71 ?_
  refine pg_bipush dX12_init_465 cb_119 ?_
  refine pg_bastore dX12_init_467 (fun v81 => ?_)
  refine pg_dup dX12_init_468 rfl ?_
  refine pg_bipush dX12_init_469 cb_72 ?_
  refine pg_bipush dX12_init_471 cb_111 ?_
  refine pg_bastore dX12_init_473 (fun v82 => ?_)
  refine pg_dup dX12_init_474 rfl ?_
  refine pg_bipush dX12_init_475 cb_73 ?_
  refine pg_bipush dX12_init_477 cb_114 ?_
  refine pg_bastore dX12_init_479 (fun v83 => ?_)
  refine pg_dup dX12_init_480 rfl ?_
  refine pg_bipush dX12_init_481 cb_74 ?_
  refine pg_bipush dX12_init_483 cb_100 ?_
  refine pg_bastore dX12_init_485 (fun v84 => ?_)
  refine pg_dup dX12_init_486 rfl ?_
  refine pg_bipush dX12_init_487 cb_75 ?_
  refine pg_bipush dX12_init_489 cb_105 ?_
  refine pg_bastore dX12_init_491 (fun v85 => ?_)
  refine pg_dup dX12_init_492 rfl ?_
  refine pg_bipush dX12_init_493 cb_76 ?_
  refine pg_bipush dX12_init_495 cb_110 ?_
  refine pg_bastore dX12_init_497 (fun v86 => ?_)
  refine pg_dup dX12_init_498 rfl ?_
  refine pg_bipush dX12_init_499 cb_77 ?_
  refine pg_bipush dX12_init_501 cb_103 ?_
  refine pg_bastore dX12_init_503 (fun v87 => ?_)
  refine pg_dup dX12_init_504 rfl ?_
  refine pg_bipush dX12_init_505 cb_78 ?_
  refine pg_bipush dX12_init_507 cb_32 ?_
  refine pg_bastore dX12_init_509 (fun v88 => ?_)
  refine pg_dup dX12_init_510 rfl ?_
  refine pg_bipush dX12_init_511 cb_79 ?_
  refine pg_bipush dX12_init_513 cb_115 ?_
  refine pg_bastore dX12_init_515 (fun v89 => ?_)
  refine pg_dup dX12_init_516 rfl ?_
  refine pg_bipush dX12_init_517 cb_80 ?_
  refine pg_bipush dX12_init_519 cb_104 ?_
  refine pg_bastore dX12_init_521 (fun v90 => ?_)
  refine pg_dup dX12_init_522 rfl ?_
  refine pg_bipush dX12_init_523 cb_81 ?_
  refine pg_bipush dX12_init_525 cb_97 ?_
  refine pg_bastore dX12_init_527 (fun v91 => ?_)
  refine pg_dup dX12_init_528 rfl ?_
  refine pg_bipush dX12_init_529 cb_82 ?_
  refine pg_bipush dX12_init_531 cb_114 ?_
  refine pg_bastore dX12_init_533 (fun v92 => ?_)
  refine pg_dup dX12_init_534 rfl ?_
  refine pg_bipush dX12_init_535 cb_83 ?_
  refine pg_bipush dX12_init_537 cb_101 ?_
  refine pg_bastore dX12_init_539 (fun v93 => ?_)
  refine pg_dup dX12_init_540 rfl ?_
  refine pg_bipush dX12_init_541 cb_84 ?_
  refine pg_bipush dX12_init_543 cb_100 ?_
  refine pg_bastore dX12_init_545 (fun v94 => ?_)
  refine pg_dup dX12_init_546 rfl ?_
  refine pg_bipush dX12_init_547 cb_85 ?_
  refine pg_bipush dX12_init_549 cb_32 ?_
  refine pg_bastore dX12_init_551 (fun v95 => ?_)
  refine pg_dup dX12_init_552 rfl ?_
  refine pg_bipush dX12_init_553 cb_86 ?_
  refine pg_bipush dX12_init_555 cb_108 ?_
  refine pg_bastore dX12_init_557 (fun v96 => ?_)
  refine pg_dup dX12_init_558 rfl ?_
  refine pg_bipush dX12_init_559 cb_87 ?_
  refine pg_bipush dX12_init_561 cb_97 ?_
  refine pg_bastore dX12_init_563 (fun v97 => ?_)
  refine pg_dup dX12_init_564 rfl ?_
  refine pg_bipush dX12_init_565 cb_88 ?_
  refine pg_bipush dX12_init_567 cb_110 ?_
  refine pg_bastore dX12_init_569 (fun v98 => ?_)
  refine pg_dup dX12_init_570 rfl ?_
  refine pg_bipush dX12_init_571 cb_89 ?_
  refine pg_bipush dX12_init_573 cb_100 ?_
  refine pg_bastore dX12_init_575 (fun v99 => ?_)
  refine pg_dup dX12_init_576 rfl ?_
  refine pg_bipush dX12_init_577 cb_90 ?_
  refine pg_bipush dX12_init_579 cb_32 ?_
  refine pg_bastore dX12_init_581 (fun v100 => ?_)
  refine pg_dup dX12_init_582 rfl ?_
  refine pg_bipush dX12_init_583 cb_91 ?_
  refine pg_bipush dX12_init_585 cb_104 ?_
  refine pg_bastore dX12_init_587 (fun v101 => ?_)
  refine pg_dup dX12_init_588 rfl ?_
  refine pg_bipush dX12_init_589 cb_92 ?_
  refine pg_bipush dX12_init_591 cb_97 ?_
  refine pg_bastore dX12_init_593 (fun v102 => ?_)
  refine pg_dup dX12_init_594 rfl ?_
  refine pg_bipush dX12_init_595 cb_93 ?_
  refine pg_bipush dX12_init_597 cb_110 ?_
  refine pg_bastore dX12_init_599 (fun v103 => ?_)
  refine pg_dup dX12_init_600 rfl ?_
  refine pg_bipush dX12_init_601 cb_94 ?_
  refine pg_bipush dX12_init_603 cb_100 ?_
  refine pg_bastore dX12_init_605 (fun v104 => ?_)
  refine pg_dup dX12_init_606 rfl ?_
  refine pg_bipush dX12_init_607 cb_95 ?_
  refine pg_bipush dX12_init_609 cb_32 ?_
  refine pg_bastore dX12_init_611 (fun v105 => ?_)
  refine pg_dup dX12_init_612 rfl ?_
  refine pg_bipush dX12_init_613 cb_96 ?_
  refine pg_bipush dX12_init_615 cb_107 ?_
  refine pg_bastore dX12_init_617 (fun v106 => ?_)
  refine pg_dup dX12_init_618 rfl ?_
  refine pg_bipush dX12_init_619 cb_97 ?_
  refine pg_bipush dX12_init_621 cb_105 ?_
  refine pg_bastore dX12_init_623 (fun v107 => ?_)
  refine pg_dup dX12_init_624 rfl ?_
  refine pg_bipush dX12_init_625 cb_98 ?_
  refine pg_bipush dX12_init_627 cb_110 ?_
  refine pg_bastore dX12_init_629 (fun v108 => ?_)
  refine pg_dup dX12_init_630 rfl ?_
  refine pg_bipush dX12_init_631 cb_99 ?_
  refine pg_bipush dX12_init_633 cb_100 ?_
  refine pg_bastore dX12_init_635 (fun v109 => ?_)
  refine pg_dup dX12_init_636 rfl ?_
  refine pg_bipush dX12_init_637 cb_100 ?_
  refine pg_bipush dX12_init_639 cb_32 ?_
  refine pg_bastore dX12_init_641 (fun v110 => ?_)
  refine pg_dup dX12_init_642 rfl ?_
  refine pg_bipush dX12_init_643 cb_101 ?_
  refine pg_bipush dX12_init_645 cb_108 ?_
  refine pg_bastore dX12_init_647 (fun v111 => ?_)
  refine pg_dup dX12_init_648 rfl ?_
  refine pg_bipush dX12_init_649 cb_102 ?_
  refine pg_bipush dX12_init_651 cb_105 ?_
  refine pg_bastore dX12_init_653 (fun v112 => ?_)
  refine pg_dup dX12_init_654 rfl ?_
  refine pg_bipush dX12_init_655 cb_103 ?_
  refine pg_bipush dX12_init_657 cb_115 ?_
  refine pg_bastore dX12_init_659 (fun v113 => ?_)
  refine pg_dup dX12_init_660 rfl ?_
  refine pg_bipush dX12_init_661 cb_104 ?_
  refine pg_bipush dX12_init_663 cb_116 ?_
  refine pg_bastore dX12_init_665 (fun v114 => ?_)
  refine pg_dup dX12_init_666 rfl ?_
  refine pg_bipush dX12_init_667 cb_105 ?_
  refine pg_bipush dX12_init_669 cb_115 ?_
  refine pg_bastore dX12_init_671 (fun v115 => ?_)
  refine pg_dup dX12_init_672 rfl ?_
  refine pg_bipush dX12_init_673 cb_106 ?_
  refine pg_bipush dX12_init_675 cb_32 ?_
  refine pg_bastore dX12_init_677 (fun v116 => ?_)
  refine pg_dup dX12_init_678 rfl ?_
  refine pg_bipush dX12_init_679 cb_107 ?_
  refine pg_bipush dX12_init_681 cb_108 ?_
  refine pg_bastore dX12_init_683 (fun v117 => ?_)
  refine pg_dup dX12_init_684 rfl ?_
  refine pg_bipush dX12_init_685 cb_108 ?_
  refine pg_bipush dX12_init_687 cb_111 ?_
  refine pg_bastore dX12_init_689 (fun v118 => ?_)
  refine pg_dup dX12_init_690 rfl ?_
  refine pg_bipush dX12_init_691 cb_109 ?_
  refine pg_bipush dX12_init_693 cb_111 ?_
  refine pg_bastore dX12_init_695 (fun v119 => ?_)
  refine pg_dup dX12_init_696 rfl ?_
  refine pg_bipush dX12_init_697 cb_110 ?_
  refine pg_bipush dX12_init_699 cb_107 ?_
  refine pg_bastore dX12_init_701 (fun v120 => ?_)
  refine pg_dup dX12_init_702 rfl ?_
  refine pg_bipush dX12_init_703 cb_111 ?_
  refine pg_bipush dX12_init_705 cb_101 ?_
  refine pg_bastore dX12_init_707 (fun v121 => ?_)
  refine pg_dup dX12_init_708 rfl ?_
  refine pg_bipush dX12_init_709 cb_112 ?_
  refine pg_bipush dX12_init_711 cb_100 ?_
  refine pg_bastore dX12_init_713 (fun v122 => ?_)
  refine pg_dup dX12_init_714 rfl ?_
  refine pg_bipush dX12_init_715 cb_113 ?_
  refine pg_bipush dX12_init_717 cb_32 ?_
  refine pg_bastore dX12_init_719 (fun v123 => ?_)
  refine pg_putR dX12_init_720 fl_RX12_30 rfl (fun _ => ⟨rfl, fp_RX12_30⟩) (fun v124 => ?_)
  refine pg_aload_n (i := 0) dX12_init_723 rfl 0 rfl ?_
  refine pg_sipush dX12_init_724 cs_400 ?_
  refine pg_newB dX12_init_727 pw_arr_byte (fun v125 => ?_)
  refine pg_putR dX12_init_729 fl_RX12_34 rfl (fun _ => ⟨rfl, fp_RX12_34⟩) (fun v126 => ?_)
  refine pg_aload_n (i := 0) dX12_init_732 rfl 0 rfl ?_
  refine pg_iconst dX12_init_733 ci_5 ?_
  refine pg_newI dX12_init_734 pw_arr_int (fun v127 => ?_)
  refine pg_putR dX12_init_736 fl_RX12_37 rfl (fun _ => ⟨rfl, fp_RX12_37⟩) (fun v128 => ?_)
  refine pg_aload_n (i := 0) dX12_init_739 rfl 0 rfl ?_
  refine pg_iconst dX12_init_740 ci_m1 ?_
  refine pg_putI dX12_init_741 fl_RX12_40 (fun z => by cases z) (fun v129 => ?_)
  refine pg_aload_n (i := 0) dX12_init_744 rfl 0 rfl ?_
  refine pg_sipush dX12_init_745 cs_401 ?_
  refine pg_newI dX12_init_748 pw_arr_int (fun v130 => ?_)
  refine pg_putR dX12_init_750 fl_RX12_43 rfl (fun _ => ⟨rfl, fp_RX12_43⟩) (fun v131 => ?_)
  refine pg_aload_n (i := 0) dX12_init_753 rfl 0 rfl ?_
  refine pg_sipush dX12_init_754 cs_401 ?_
  refine pg_newI dX12_init_757 pw_arr_int (fun v132 => ?_)
  refine pg_putR dX12_init_759 fl_RX12_46 rfl (fun _ => ⟨rfl, fp_RX12_46⟩) (fun v133 => ?_)
  refine pg_aload_n (i := 0) dX12_init_762 rfl 0 rfl ?_
  refine pg_sipush dX12_init_763 cs_401 ?_
  refine pg_newI dX12_init_766 pw_arr_int (fun v134 => ?_)
  refine pg_putR dX12_init_768 fl_RX12_49 rfl (fun _ => ⟨rfl, fp_RX12_49⟩) (fun v135 => ?_)
  refine pg_aload_n (i := 0) dX12_init_771 rfl 0 rfl ?_
  refine pg_bipush dX12_init_772 cb_9 ?_
  refine pg_newI dX12_init_774 pw_arr_int (fun v136 => ?_)
  refine pg_putR dX12_init_776 fl_RX12_52 rfl (fun _ => ⟨rfl, fp_RX12_52⟩) (fun v137 => ?_)
  refine pg_aload_n (i := 0) dX12_init_779 rfl 0 rfl ?_
  refine pg_sipush dX12_init_780 cs_200 ?_
  refine pg_newI dX12_init_783 pw_arr_int (fun v138 => ?_)
  refine pg_putR dX12_init_785 fl_RX12_55 rfl (fun _ => ⟨rfl, fp_RX12_55⟩) (fun v139 => ?_)
  refine pg_aload_n (i := 0) dX12_init_788 rfl 0 rfl ?_
  refine pg_sipush dX12_init_789 cs_156 ?_
  refine pg_newI dX12_init_792 pw_arr_int (fun v140 => ?_)
  refine pg_putR dX12_init_794 fl_RX12_58 rfl (fun _ => ⟨rfl, fp_RX12_58⟩) (fun v141 => ?_)
  refine pg_aload_n (i := 0) dX12_init_797 rfl 0 rfl ?_
  refine pg_bipush dX12_init_798 cb_12 ?_
  refine pg_newI dX12_init_800 pw_arr_int (fun v142 => ?_)
  refine pg_putR dX12_init_802 fl_RX12_61 rfl (fun _ => ⟨rfl, fp_RX12_61⟩) (fun v143 => ?_)
  refine pg_aload_n (i := 0) dX12_init_805 rfl 0 rfl ?_
  refine pg_sipush dX12_init_806 cs_4096 ?_
  refine pg_newI dX12_init_809 pw_arr_int (fun v144 => ?_)
  refine pg_putR dX12_init_811 fl_RX12_64 rfl (fun _ => ⟨rfl, fp_RX12_64⟩) (fun v145 => ?_)
  refine pg_aload_n (i := 0) dX12_init_814 rfl 0 rfl ?_
  refine pg_bipush dX12_init_815 cb_12 ?_
  refine pg_newI dX12_init_817 pw_arr_int (fun v146 => ?_)
  refine pg_putR dX12_init_819 fl_RX12_67 rfl (fun _ => ⟨rfl, fp_RX12_67⟩) (fun v147 => ?_)
  refine pg_aload_n (i := 0) dX12_init_822 rfl 0 rfl ?_
  refine pg_iconst dX12_init_823 ci_m1 ?_
  refine pg_putI dX12_init_824 fl_RX12_70 (fun z => by cases z) (fun v148 => ?_)
  refine pg_aload_n (i := 0) dX12_init_827 rfl 0 rfl ?_
  refine pg_sipush dX12_init_828 cs_144 ?_
  refine pg_newZ dX12_init_831 pw_arr_boolean (fun v149 => ?_)
  refine pg_putR dX12_init_833 fl_RX12_73 rfl (fun _ => ⟨rfl, fp_RX12_73⟩) (fun v150 => ?_)
  refine pg_aload_n (i := 0) dX12_init_836 rfl 0 rfl ?_
  refine pg_bipush dX12_init_837 cb_12 ?_
  refine pg_newI dX12_init_839 pw_arr_int (fun v151 => ?_)
  refine pg_putR dX12_init_841 fl_RX12_76 rfl (fun _ => ⟨rfl, fp_RX12_76⟩) (fun v152 => ?_)
  refine pg_aload_n (i := 0) dX12_init_844 rfl 0 rfl ?_
  refine pg_sipush dX12_init_845 cs_380 ?_
  refine pg_newL dX12_init_848 pw_arr_long (fun v153 => ?_)
  refine pg_putR dX12_init_850 fl_RX12_79 rfl (fun _ => ⟨rfl, fp_RX12_79⟩) (fun v154 => ?_)
  refine pg_aload_n (i := 0) dX12_init_853 rfl 0 rfl ?_
  refine pg_sipush dX12_init_854 cs_380 ?_
  refine pg_newL dX12_init_857 pw_arr_long (fun v155 => ?_)
  refine pg_putR dX12_init_859 fl_RX12_83 rfl (fun _ => ⟨rfl, fp_RX12_83⟩) (fun v156 => ?_)
  refine pg_aload_n (i := 0) dX12_init_862 rfl 0 rfl ?_
  refine pg_sipush dX12_init_863 cs_380 ?_
  refine pg_newL dX12_init_866 pw_arr_long (fun v157 => ?_)
  refine pg_putR dX12_init_868 fl_RX12_86 rfl (fun _ => ⟨rfl, fp_RX12_86⟩) (fun v158 => ?_)
  refine pg_aload_n (i := 0) dX12_init_871 rfl 0 rfl ?_
  refine pg_bipush dX12_init_872 cb_12 ?_
  refine pg_newI dX12_init_874 pw_arr_int (fun v159 => ?_)
  refine pg_putR dX12_init_876 fl_RX12_89 rfl (fun _ => ⟨rfl, fp_RX12_89⟩) (fun v160 => ?_)
  refine pg_aload_n (i := 0) dX12_init_879 rfl 0 rfl ?_
  refine pg_bipush dX12_init_880 cb_12 ?_
  refine pg_newI dX12_init_882 pw_arr_int (fun v161 => ?_)
  refine pg_putR dX12_init_884 fl_RX12_92 rfl (fun _ => ⟨rfl, fp_RX12_92⟩) (fun v162 => ?_)
  refine pg_aload_n (i := 0) dX12_init_887 rfl 0 rfl ?_
  refine pg_sipush dX12_init_888 cs_380 ?_
  refine pg_newL dX12_init_891 pw_arr_long (fun v163 => ?_)
  refine pg_putR dX12_init_893 fl_RX12_95 rfl (fun _ => ⟨rfl, fp_RX12_95⟩) (fun v164 => ?_)
  refine pg_aload_n (i := 0) dX12_init_896 rfl 0 rfl ?_
  refine pg_bipush dX12_init_897 cb_60 ?_
  refine pg_newZ dX12_init_899 pw_arr_boolean (fun v165 => ?_)
  refine pg_putR dX12_init_901 fl_RX12_98 rfl (fun _ => ⟨rfl, fp_RX12_98⟩) (fun v166 => ?_)
  refine pg_aload_n (i := 0) dX12_init_904 rfl 0 rfl ?_
  refine pg_sipush dX12_init_905 cs_1728 ?_
  refine pg_newI dX12_init_908 pw_arr_int (fun v167 => ?_)
  refine pg_putR dX12_init_910 fl_RX12_101 rfl (fun _ => ⟨rfl, fp_RX12_101⟩) (fun v168 => ?_)
  refine pg_aload_n (i := 0) dX12_init_913 rfl 0 rfl ?_
  refine pg_bipush dX12_init_914 cb_12 ?_
  refine pg_newI dX12_init_916 pw_arr_int (fun v169 => ?_)
  refine pg_putR dX12_init_918 fl_RX12_104 rfl (fun _ => ⟨rfl, fp_RX12_104⟩) (fun v170 => ?_)
  refine pg_aload_n (i := 0) dX12_init_921 rfl 0 rfl ?_
  refine pg_bipush dX12_init_922 cb_12 ?_
  refine pg_newI dX12_init_924 pw_arr_int (fun v171 => ?_)
  refine pg_putR dX12_init_926 fl_RX12_107 rfl (fun _ => ⟨rfl, fp_RX12_107⟩) (fun v172 => ?_)
  refine pg_aload_n (i := 0) dX12_init_929 rfl 0 rfl ?_
  refine pg_iconst dX12_init_930 ci_m1 ?_
  refine pg_putI dX12_init_931 fl_RX12_110 (fun z => by cases z) (fun v173 => ?_)
  refine pg_aload_n (i := 0) dX12_init_934 rfl 0 rfl ?_
  refine pg_getR dX12_init_935 fl_RX12_20 rfl (fun v174 => ?_)
  refine pg_sipush dX12_init_938 cs_1340 ?_
  refine pg_iconst dX12_init_941 ci_3 ?_
  refine pg_iastore dX12_init_942 (fun v175 => ?_)
  refine pg_aload_n (i := 0) dX12_init_943 rfl 0 rfl ?_
  refine pg_getR dX12_init_944 fl_RX12_20 rfl (fun v176 => ?_)
  refine pg_sipush dX12_init_947 cs_1341 ?_
  refine pg_iconst dX12_init_950 ci_1 ?_
  refine pg_iastore dX12_init_951 (fun v177 => ?_)
  refine pg_aload_n (i := 0) dX12_init_952 rfl 0 rfl ?_
  refine pg_getR dX12_init_953 fl_RX12_20 rfl (fun v178 => ?_)
  refine pg_sipush dX12_init_956 cs_1342 ?_
  refine pg_iconst dX12_init_959 ci_2 ?_
  refine pg_iastore dX12_init_960 (fun v179 => ?_)
  refine pg_aload_n (i := 0) dX12_init_961 rfl 0 rfl ?_
  refine pg_getR dX12_init_962 fl_RX12_20 rfl (fun v180 => ?_)
  refine pg_sipush dX12_init_965 cs_1343 ?_
  refine pg_bipush dX12_init_968 cb_20 ?_
  refine pg_iastore dX12_init_970 (fun v181 => ?_)
  refine pg_aload_n (i := 0) dX12_init_971 rfl 0 rfl ?_
  refine pg_getR dX12_init_972 fl_RX12_20 rfl (fun v182 => ?_)
  refine pg_sipush dX12_init_975 cs_1349 ?_
  refine pg_iconst dX12_init_978 ci_m1 ?_
  refine pg_iastore dX12_init_979 (fun v183 => ?_)
  exact pg_vret dX12_init_980 rfl rfl
theorem c_X12_init (l : Launch) (D : pg_D) (a0 : Nat) (h : pg_H) : ∀ x, F_X12_init a0 h = some x → pg_Ct l D yX12_init cX12_init 1 none 1 20 [pR a0] h (pg_wV x) :=
  pg_Ct.of pn_RX12 (Nat.le_of_ble_eq_true rfl) (e_X12_init l D a0 h)
def F_X12_image_17  : Nat → Nat → Int32 → Int32 → pg_H → Option (Int32 × pg_H)
  | 0 => fun _ _ _ _ => none
  | n + 1 => fun a0 a1 a2 h => (if a2 < (7758 : Int32) then Option.bind (pg_gR 12 4 h a0) fun v4 => Option.bind (pg_gR 12 3 h a0) fun v5 => Option.bind (pg_aI 21 h v5 a2) fun v6 => Option.bind (pg_sI 21 h v4 (((7758 : Int32) * a1) + a2) v6) fun v7 => (F_X12_image_17 n a0 a1 (a2 + (1 : Int32)) v7) else Option.bind (pg_gR 12 5 h a0) fun v1 => Option.bind (pg_sI 23 h v1 a1 (1 : Int32)) fun v2 => Option.bind (pg_rcv 12 v2 a0 (F_X12_good a0 (0 : Int32) v2)) fun v3 => (some (v3.1, v3.2)))
def F_X12_image (a0 : Nat) (a1 : Int32) (h : pg_H) : Option (Int32 × pg_H) := Option.bind (F_X12_lies a1 (0 : Int32) (1 : Int32)) fun v1 => (if v1 = 0 then Option.bind (pg_rcv 12 h a0 (F_X12_refuses a0 (-1 : Int32) h)) fun v2 => (some (v2.1, v2.2)) else (F_X12_image_17 pg_fuel a0 a1 (0 : Int32) h))
theorem e_X12_image_17 (l : Launch) (D : pg_D)   : ∀ (n : Nat) (a0 : Nat) (a1 : Int32) (a2 : Int32) (h : pg_H), pg_EvF l D RX12 cX12_image 3 (some FieldType.int) "image" 1 22 pg_wI (F_X12_image_17 n a0 a1 a2 h) 17 [(0, pR a0), (1, pI a1), (2, pI a2)] [] h := by
  intro n
  induction n with
  | zero => intro a0 a1 a2 h; exact pg_none
  | succ n ih =>
    intro a0 a1 a2 h
    rw [F_X12_image_17]
    refine pg_iload_n (i := 2) dX12_image_17 rfl 2 rfl ?_
    refine pg_sipush dX12_image_18 cs_7758 ?_
    refine pg_icmp_ge (tgt := 48) dX12_image_21 rfl ?_ ?_
    · refine pg_aload_n (i := 0) dX12_image_48 rfl 0 rfl ?_
      refine pg_getR dX12_image_49 fl_RX12_26 rfl (fun v1 => ?_)
      refine pg_iload_n (i := 1) dX12_image_52 rfl 1 rfl ?_
      refine pg_iconst dX12_image_53 ci_1 ?_
      refine pg_zastore dX12_image_54 (fun v2 => ?_)
      refine pg_aload_n (i := 0) dX12_image_55 rfl 0 rfl ?_
      refine pg_iconst dX12_image_56 ci_0 ?_
      refine pg_callV_wI (As := [pI (0 : Int32)]) (rs := []) dX12_image_57 lk_RX12_121 vy_X12_good nd_X12_good (c_X12_good l D a0 (0 : Int32) v2) rfl rfl (Nat.le_of_ble_eq_true rfl) (by decide) (by decide) (fun v3 => ?_)
      exact pg_iret dX12_image_60 rfl rfl
    · refine pg_aload_n (i := 0) dX12_image_24 rfl 0 rfl ?_
      refine pg_getR dX12_image_25 fl_RX12_23 rfl (fun v4 => ?_)
      refine pg_sipush dX12_image_28 cs_7758 ?_
      refine pg_iload_n (i := 1) dX12_image_31 rfl 1 rfl ?_
      refine pg_imul dX12_image_32 ?_
      refine pg_iload_n (i := 2) dX12_image_33 rfl 2 rfl ?_
      refine pg_iadd dX12_image_34 ?_
      refine pg_aload_n (i := 0) dX12_image_35 rfl 0 rfl ?_
      refine pg_getR dX12_image_36 fl_RX12_20 rfl (fun v5 => ?_)
      refine pg_iload_n (i := 2) dX12_image_39 rfl 2 rfl ?_
      refine pg_iaload dX12_image_40 (fun v6 => ?_)
      refine pg_iastore dX12_image_41 (fun v7 => ?_)
      refine pg_iinc (lv' := [(2, pI (a2 + (1 : Int32))), (0, pR a0), (1, pI a1)]) dX12_image_42 2 rfl ci_1 (by decide) rfl ?_
      refine pg_goto (tgt := 17) dX12_image_45 rfl ?_
      exact pg_to (ih a0 a1 (a2 + (1 : Int32)) v7) [1, 2, 0] rfl
theorem e_X12_image (l : Launch) (D : pg_D)  (a0 : Nat) (a1 : Int32) (h : pg_H) : pg_EvF l D RX12 cX12_image 3 (some FieldType.int) "image" 1 22 pg_wI (F_X12_image a0 a1 h) 0 [(0, pR a0), (1, pI a1)] [] h := by
  unfold F_X12_image
  refine pg_iload_n (i := 1) dX12_image_0 rfl 1 rfl ?_
  refine pg_iconst dX12_image_1 ci_0 ?_
  refine pg_iconst dX12_image_2 ci_1 ?_
  refine pg_callS_oI (As := [pI a1, pI (0 : Int32), pI (1 : Int32)]) (rs := []) dX12_image_3 lk_RX12_113 vy_X12_lies nd_X12_lies (c_X12_lies l D a1 (0 : Int32) (1 : Int32) h) rfl rfl (Nat.le_of_ble_eq_true rfl) (by decide) (by decide) (fun v1 => ?_)
  refine pg_if_ne (tgt := 15) dX12_image_6 rfl ?_ ?_
  · refine pg_iconst dX12_image_15 ci_0 ?_
    refine pg_istore_n (i := 2) (lv' := [(2, pI (0 : Int32)), (0, pR a0), (1, pI a1)]) dX12_image_16 rfl (by decide) rfl ?_
    exact pg_to (e_X12_image_17 l D pg_fuel a0 a1 (0 : Int32) h) [1, 2, 0] rfl
  · refine pg_aload_n (i := 0) dX12_image_9 rfl 0 rfl ?_
    refine pg_iconst dX12_image_10 ci_m1 ?_
    refine pg_callV_wI (As := [pI (-1 : Int32)]) (rs := []) dX12_image_11 lk_RX12_117 vy_X12_refuses nd_X12_refuses (c_X12_refuses l D a0 (-1 : Int32) h) rfl rfl (Nat.le_of_ble_eq_true rfl) (by decide) (by decide) (fun v2 => ?_)
    exact pg_iret dX12_image_14 rfl rfl
theorem c_X12_image (l : Launch) (D : pg_D) (a0 : Nat) (a1 : Int32) (h : pg_H) : ∀ x, F_X12_image a0 a1 h = some x → pg_Ct l D yX12_image cX12_image 3 (some FieldType.int) 1 22 [pR a0, pI a1] h (pg_wI x) :=
  pg_Ct.of pn_RX12 (Nat.le_of_ble_eq_true rfl) (e_X12_image l D a0 a1 h)
def F_X12_back_33  : Nat → Nat → Int32 → Int32 → pg_H → Option (Int32 × pg_H)
  | 0 => fun _ _ _ _ => none
  | n + 1 => fun a0 a1 a2 h => (if a2 < (7758 : Int32) then Option.bind (pg_gR 12 3 h a0) fun v2 => Option.bind (pg_gR 12 4 h a0) fun v3 => Option.bind (pg_aI 21 h v3 (((7758 : Int32) * a1) + a2)) fun v4 => Option.bind (pg_sI 21 h v2 a2 v4) fun v5 => (F_X12_back_33 n a0 a1 (a2 + (1 : Int32)) v5) else Option.bind (pg_rcv 12 h a0 (F_X12_good a0 (0 : Int32) h)) fun v1 => (some (v1.1, v1.2)))
def F_X12_back (a0 : Nat) (a1 : Int32) (h : pg_H) : Option (Int32 × pg_H) := Option.bind (F_X12_lies a1 (0 : Int32) (1 : Int32)) fun v1 => (if v1 = 0 then Option.bind (pg_rcv 12 h a0 (F_X12_refuses a0 (-1 : Int32) h)) fun v5 => (some (v5.1, v5.2)) else Option.bind (pg_gR 12 5 h a0) fun v2 => Option.bind (pg_aI 23 h v2 a1) fun v3 => (if v3 = 0 then Option.bind (pg_rcv 12 h a0 (F_X12_refuses a0 (-2 : Int32) h)) fun v4 => (some (v4.1, v4.2)) else (F_X12_back_33 pg_fuel a0 a1 (0 : Int32) h)))
theorem e_X12_back_33 (l : Launch) (D : pg_D)   : ∀ (n : Nat) (a0 : Nat) (a1 : Int32) (a2 : Int32) (h : pg_H), pg_EvF l D RX12 cX12_back 3 (some FieldType.int) "back" 1 22 pg_wI (F_X12_back_33 n a0 a1 a2 h) 33 [(0, pR a0), (1, pI a1), (2, pI a2)] [] h := by
  intro n
  induction n with
  | zero => intro a0 a1 a2 h; exact pg_none
  | succ n ih =>
    intro a0 a1 a2 h
    rw [F_X12_back_33]
    refine pg_iload_n (i := 2) dX12_back_33 rfl 2 rfl ?_
    refine pg_sipush dX12_back_34 cs_7758 ?_
    refine pg_icmp_ge (tgt := 64) dX12_back_37 rfl ?_ ?_
    · refine pg_aload_n (i := 0) dX12_back_64 rfl 0 rfl ?_
      refine pg_iconst dX12_back_65 ci_0 ?_
      refine pg_callV_wI (As := [pI (0 : Int32)]) (rs := []) dX12_back_66 lk_RX12_121 vy_X12_good nd_X12_good (c_X12_good l D a0 (0 : Int32) h) rfl rfl (Nat.le_of_ble_eq_true rfl) (by decide) (by decide) (fun v1 => ?_)
      exact pg_iret dX12_back_69 rfl rfl
    · refine pg_aload_n (i := 0) dX12_back_40 rfl 0 rfl ?_
      refine pg_getR dX12_back_41 fl_RX12_20 rfl (fun v2 => ?_)
      refine pg_iload_n (i := 2) dX12_back_44 rfl 2 rfl ?_
      refine pg_aload_n (i := 0) dX12_back_45 rfl 0 rfl ?_
      refine pg_getR dX12_back_46 fl_RX12_23 rfl (fun v3 => ?_)
      refine pg_sipush dX12_back_49 cs_7758 ?_
      refine pg_iload_n (i := 1) dX12_back_52 rfl 1 rfl ?_
      refine pg_imul dX12_back_53 ?_
      refine pg_iload_n (i := 2) dX12_back_54 rfl 2 rfl ?_
      refine pg_iadd dX12_back_55 ?_
      refine pg_iaload dX12_back_56 (fun v4 => ?_)
      refine pg_iastore dX12_back_57 (fun v5 => ?_)
      refine pg_iinc (lv' := [(2, pI (a2 + (1 : Int32))), (0, pR a0), (1, pI a1)]) dX12_back_58 2 rfl ci_1 (by decide) rfl ?_
      refine pg_goto (tgt := 33) dX12_back_61 rfl ?_
      exact pg_to (ih a0 a1 (a2 + (1 : Int32)) v5) [1, 2, 0] rfl
theorem e_X12_back (l : Launch) (D : pg_D)  (a0 : Nat) (a1 : Int32) (h : pg_H) : pg_EvF l D RX12 cX12_back 3 (some FieldType.int) "back" 1 22 pg_wI (F_X12_back a0 a1 h) 0 [(0, pR a0), (1, pI a1)] [] h := by
  unfold F_X12_back
  refine pg_iload_n (i := 1) dX12_back_0 rfl 1 rfl ?_
  refine pg_iconst dX12_back_1 ci_0 ?_
  refine pg_iconst dX12_back_2 ci_1 ?_
  refine pg_callS_oI (As := [pI a1, pI (0 : Int32), pI (1 : Int32)]) (rs := []) dX12_back_3 lk_RX12_113 vy_X12_lies nd_X12_lies (c_X12_lies l D a1 (0 : Int32) (1 : Int32) h) rfl rfl (Nat.le_of_ble_eq_true rfl) (by decide) (by decide) (fun v1 => ?_)
  refine pg_if_ne (tgt := 15) dX12_back_6 rfl ?_ ?_
  · refine pg_aload_n (i := 0) dX12_back_15 rfl 0 rfl ?_
    refine pg_getR dX12_back_16 fl_RX12_26 rfl (fun v2 => ?_)
    refine pg_iload_n (i := 1) dX12_back_19 rfl 1 rfl ?_
    refine pg_zaload dX12_back_20 (fun v3 => ?_)
    refine pg_if_ne (tgt := 31) dX12_back_21 rfl ?_ ?_
    · refine pg_iconst dX12_back_31 ci_0 ?_
      refine pg_istore_n (i := 2) (lv' := [(2, pI (0 : Int32)), (0, pR a0), (1, pI a1)]) dX12_back_32 rfl (by decide) rfl ?_
      exact pg_to (e_X12_back_33 l D pg_fuel a0 a1 (0 : Int32) h) [1, 2, 0] rfl
    · refine pg_aload_n (i := 0) dX12_back_24 rfl 0 rfl ?_
      refine pg_bipush dX12_back_25 cb_m2 ?_
      refine pg_callV_wI (As := [pI (-2 : Int32)]) (rs := []) dX12_back_27 lk_RX12_117 vy_X12_refuses nd_X12_refuses (c_X12_refuses l D a0 (-2 : Int32) h) rfl rfl (Nat.le_of_ble_eq_true rfl) (by decide) (by decide) (fun v4 => ?_)
      exact pg_iret dX12_back_30 rfl rfl
  · refine pg_aload_n (i := 0) dX12_back_9 rfl 0 rfl ?_
    refine pg_iconst dX12_back_10 ci_m1 ?_
    refine pg_callV_wI (As := [pI (-1 : Int32)]) (rs := []) dX12_back_11 lk_RX12_117 vy_X12_refuses nd_X12_refuses (c_X12_refuses l D a0 (-1 : Int32) h) rfl rfl (Nat.le_of_ble_eq_true rfl) (by decide) (by decide) (fun v5 => ?_)
    exact pg_iret dX12_back_14 rfl rfl
theorem c_X12_back (l : Launch) (D : pg_D) (a0 : Nat) (a1 : Int32) (h : pg_H) : ∀ x, F_X12_back a0 a1 h = some x → pg_Ct l D yX12_back cX12_back 3 (some FieldType.int) 1 22 [pR a0, pI a1] h (pg_wI x) :=
  pg_Ct.of pn_RX12 (Nat.le_of_ble_eq_true rfl) (e_X12_back l D a0 a1 h)
def F_X12_term (h : pg_H) (a0 : Nat) (a1 : Int32) : Option Int32 := Option.bind (pg_gR 12 3 h a0) fun v1 => Option.bind (pg_aI 21 h v1 ((1340 : Int32) + a1)) fun v2 => (some v2)
theorem e_X12_term (l : Launch) (D : pg_D)  (h : pg_H) (a0 : Nat) (a1 : Int32) : pg_EvF l D RX12 cX12_term 2 (some FieldType.int) "term" 0 0 (pg_oI h) (F_X12_term h a0 a1) 0 [(0, pR a0), (1, pI a1)] [] h := by
  unfold F_X12_term
  refine pg_aload_n (i := 0) dX12_term_0 rfl 0 rfl ?_
  refine pg_getR dX12_term_1 fl_RX12_20 rfl (fun v1 => ?_)
  refine pg_sipush dX12_term_4 cs_1340 ?_
  refine pg_iload_n (i := 1) dX12_term_7 rfl 1 rfl ?_
  refine pg_iadd dX12_term_8 ?_
  refine pg_iaload dX12_term_9 (fun v2 => ?_)
  exact pg_iret dX12_term_10 rfl rfl
theorem c_X12_term (l : Launch) (D : pg_D) (h : pg_H) (a0 : Nat) (a1 : Int32)  : ∀ x, F_X12_term h a0 a1 = some x → pg_Ct l D yX12_term cX12_term 2 (some FieldType.int) 0 0 [pR a0, pI a1] h (pg_oI h x) :=
  pg_Ct.of pn_RX12 (Nat.le_of_ble_eq_true rfl) (e_X12_term l D h a0 a1)
def F_X12_copies (h : pg_H) (a0 : Nat) : Option Int32 := Option.bind (pg_gR 12 3 h a0) fun v1 => Option.bind (pg_aI 21 h v1 (1344 : Int32)) fun v2 => (some v2)
theorem e_X12_copies (l : Launch) (D : pg_D)  (h : pg_H) (a0 : Nat) : pg_EvF l D RX12 cX12_copies 1 (some FieldType.int) "copies" 0 0 (pg_oI h) (F_X12_copies h a0) 0 [(0, pR a0)] [] h := by
  unfold F_X12_copies
  refine pg_aload_n (i := 0) dX12_copies_0 rfl 0 rfl ?_
  refine pg_getR dX12_copies_1 fl_RX12_20 rfl (fun v1 => ?_)
  refine pg_sipush dX12_copies_4 cs_1344 ?_
  refine pg_iaload dX12_copies_7 (fun v2 => ?_)
  exact pg_iret dX12_copies_8 rfl rfl
theorem c_X12_copies (l : Launch) (D : pg_D) (h : pg_H) (a0 : Nat)  : ∀ x, F_X12_copies h a0 = some x → pg_Ct l D yX12_copies cX12_copies 1 (some FieldType.int) 0 0 [pR a0] h (pg_oI h x) :=
  pg_Ct.of pn_RX12 (Nat.le_of_ble_eq_true rfl) (e_X12_copies l D h a0)
def F_X12_isCopy (h : pg_H) (a0 : Nat) (a1 : Int32) : Option Int32 := Option.bind (pg_rcv 12 h a0 (F_X12_copies h a0)) fun v1 => Option.bind (F_X12_lies a1 (0 : Int32) (v1 - (1 : Int32))) fun v2 => (if v2 = 0 ∨ v2 = 1 then some v2 else none)
theorem e_X12_isCopy (l : Launch) (D : pg_D)  (h : pg_H) (a0 : Nat) (a1 : Int32) : pg_EvF l D RX12 cX12_isCopy 2 (some FieldType.boolean) "isCopy" 1 22 (pg_oI h) (F_X12_isCopy h a0 a1) 0 [(0, pR a0), (1, pI a1)] [] h := by
  unfold F_X12_isCopy
  refine pg_iload_n (i := 1) dX12_isCopy_0 rfl 1 rfl ?_
  refine pg_iconst dX12_isCopy_1 ci_0 ?_
  refine pg_aload_n (i := 0) dX12_isCopy_2 rfl 0 rfl ?_
  refine pg_callV_oI (As := []) (rs := [pI (0 : Int32), pI a1]) dX12_isCopy_3 lk_RX12_124 vy_X12_copies nd_X12_copies (c_X12_copies l D h a0) rfl rfl (Nat.le_of_ble_eq_true rfl) (by decide) (by decide) (fun v1 => ?_)
  refine pg_iconst dX12_isCopy_6 ci_1 ?_
  refine pg_isub dX12_isCopy_7 ?_
  refine pg_callS_oI (As := [pI a1, pI (0 : Int32), pI (v1 - (1 : Int32))]) (rs := []) dX12_isCopy_8 lk_RX12_113 vy_X12_lies nd_X12_lies (c_X12_lies l D a1 (0 : Int32) (v1 - (1 : Int32)) h) rfl rfl (Nat.le_of_ble_eq_true rfl) (by decide) (by decide) (fun v2 => ?_)
  exact pg_zretq dX12_isCopy_11 rfl rfl
theorem c_X12_isCopy (l : Launch) (D : pg_D) (h : pg_H) (a0 : Nat) (a1 : Int32)  : ∀ x, F_X12_isCopy h a0 a1 = some x → pg_Ct l D yX12_isCopy cX12_isCopy 2 (some FieldType.boolean) 1 22 [pR a0, pI a1] h (pg_oI h x) :=
  pg_Ct.of pn_RX12 (Nat.le_of_ble_eq_true rfl) (e_X12_isCopy l D h a0 a1)
def F_X12_isHand (h : pg_H) (a0 : Nat) (a1 : Int32) : Option Int32 := Option.bind (pg_gR 12 3 h a0) fun v1 => Option.bind (pg_aI 21 h v1 (1346 : Int32)) fun v2 => Option.bind (F_X12_lies a1 (0 : Int32) (v2 - (1 : Int32))) fun v3 => (if v3 = 0 ∨ v3 = 1 then some v3 else none)
theorem e_X12_isHand (l : Launch) (D : pg_D)  (h : pg_H) (a0 : Nat) (a1 : Int32) : pg_EvF l D RX12 cX12_isHand 2 (some FieldType.boolean) "isHand" 1 22 (pg_oI h) (F_X12_isHand h a0 a1) 0 [(0, pR a0), (1, pI a1)] [] h := by
  unfold F_X12_isHand
  refine pg_iload_n (i := 1) dX12_isHand_0 rfl 1 rfl ?_
  refine pg_iconst dX12_isHand_1 ci_0 ?_
  refine pg_aload_n (i := 0) dX12_isHand_2 rfl 0 rfl ?_
  refine pg_getR dX12_isHand_3 fl_RX12_20 rfl (fun v1 => ?_)
  refine pg_sipush dX12_isHand_6 cs_1346 ?_
  refine pg_iaload dX12_isHand_9 (fun v2 => ?_)
  refine pg_iconst dX12_isHand_10 ci_1 ?_
  refine pg_isub dX12_isHand_11 ?_
  refine pg_callS_oI (As := [pI a1, pI (0 : Int32), pI (v2 - (1 : Int32))]) (rs := []) dX12_isHand_12 lk_RX12_113 vy_X12_lies nd_X12_lies (c_X12_lies l D a1 (0 : Int32) (v2 - (1 : Int32)) h) rfl rfl (Nat.le_of_ble_eq_true rfl) (by decide) (by decide) (fun v3 => ?_)
  exact pg_zretq dX12_isHand_15 rfl rfl
theorem c_X12_isHand (l : Launch) (D : pg_D) (h : pg_H) (a0 : Nat) (a1 : Int32)  : ∀ x, F_X12_isHand h a0 a1 = some x → pg_Ct l D yX12_isHand cX12_isHand 2 (some FieldType.boolean) 1 22 [pR a0, pI a1] h (pg_oI h x) :=
  pg_Ct.of pn_RX12 (Nat.le_of_ble_eq_true rfl) (e_X12_isHand l D h a0 a1)
def F_X12_isText (h : pg_H) (a0 : Nat) (a1 : Int32) : Option Int32 := Option.bind (pg_gR 12 3 h a0) fun v1 => Option.bind (pg_aI 21 h v1 (1348 : Int32)) fun v2 => Option.bind (F_X12_lies a1 (0 : Int32) (v2 - (1 : Int32))) fun v3 => (if v3 = 0 ∨ v3 = 1 then some v3 else none)
theorem e_X12_isText (l : Launch) (D : pg_D)  (h : pg_H) (a0 : Nat) (a1 : Int32) : pg_EvF l D RX12 cX12_isText 2 (some FieldType.boolean) "isText" 1 22 (pg_oI h) (F_X12_isText h a0 a1) 0 [(0, pR a0), (1, pI a1)] [] h := by
  unfold F_X12_isText
  refine pg_iload_n (i := 1) dX12_isText_0 rfl 1 rfl ?_
  refine pg_iconst dX12_isText_1 ci_0 ?_
  refine pg_aload_n (i := 0) dX12_isText_2 rfl 0 rfl ?_
  refine pg_getR dX12_isText_3 fl_RX12_20 rfl (fun v1 => ?_)
  refine pg_sipush dX12_isText_6 cs_1348 ?_
  refine pg_iaload dX12_isText_9 (fun v2 => ?_)
  refine pg_iconst dX12_isText_10 ci_1 ?_
  refine pg_isub dX12_isText_11 ?_
  refine pg_callS_oI (As := [pI a1, pI (0 : Int32), pI (v2 - (1 : Int32))]) (rs := []) dX12_isText_12 lk_RX12_113 vy_X12_lies nd_X12_lies (c_X12_lies l D a1 (0 : Int32) (v2 - (1 : Int32)) h) rfl rfl (Nat.le_of_ble_eq_true rfl) (by decide) (by decide) (fun v3 => ?_)
  exact pg_zretq dX12_isText_15 rfl rfl
theorem c_X12_isText (l : Launch) (D : pg_D) (h : pg_H) (a0 : Nat) (a1 : Int32)  : ∀ x, F_X12_isText h a0 a1 = some x → pg_Ct l D yX12_isText cX12_isText 2 (some FieldType.boolean) 1 22 [pR a0, pI a1] h (pg_oI h x) :=
  pg_Ct.of pn_RX12 (Nat.le_of_ble_eq_true rfl) (e_X12_isText l D h a0 a1)
def F_X12_copyOf (h : pg_H) (a0 : Nat) (a1 : Int32) (a2 : Int32) : Option Int32 := Option.bind (pg_gR 12 3 h a0) fun v1 => Option.bind (pg_aI 21 h v1 (((0 : Int32) + ((3 : Int32) * a1)) + a2)) fun v2 => (some v2)
theorem e_X12_copyOf (l : Launch) (D : pg_D)  (h : pg_H) (a0 : Nat) (a1 : Int32) (a2 : Int32) : pg_EvF l D RX12 cX12_copyOf 3 (some FieldType.int) "copyOf" 0 0 (pg_oI h) (F_X12_copyOf h a0 a1 a2) 0 [(0, pR a0), (1, pI a1), (2, pI a2)] [] h := by
  unfold F_X12_copyOf
  refine pg_aload_n (i := 0) dX12_copyOf_0 rfl 0 rfl ?_
  refine pg_getR dX12_copyOf_1 fl_RX12_20 rfl (fun v1 => ?_)
  refine pg_iconst dX12_copyOf_4 ci_0 ?_
  refine pg_iconst dX12_copyOf_5 ci_3 ?_
  refine pg_iload_n (i := 1) dX12_copyOf_6 rfl 1 rfl ?_
  refine pg_imul dX12_copyOf_7 ?_
  refine pg_iadd dX12_copyOf_8 ?_
  refine pg_iload_n (i := 2) dX12_copyOf_9 rfl 2 rfl ?_
  refine pg_iadd dX12_copyOf_10 ?_
  refine pg_iaload dX12_copyOf_11 (fun v2 => ?_)
  exact pg_iret dX12_copyOf_12 rfl rfl
theorem c_X12_copyOf (l : Launch) (D : pg_D) (h : pg_H) (a0 : Nat) (a1 : Int32) (a2 : Int32)  : ∀ x, F_X12_copyOf h a0 a1 a2 = some x → pg_Ct l D yX12_copyOf cX12_copyOf 3 (some FieldType.int) 0 0 [pR a0, pI a1, pI a2] h (pg_oI h x) :=
  pg_Ct.of pn_RX12 (Nat.le_of_ble_eq_true rfl) (e_X12_copyOf l D h a0 a1 a2)
def F_X12_stayOf (h : pg_H) (a0 : Nat) (a1 : Int32) (a2 : Int32) : Option Int32 := Option.bind (pg_gR 12 3 h a0) fun v1 => Option.bind (pg_aI 21 h v1 (((36 : Int32) + ((4 : Int32) * a1)) + a2)) fun v2 => (some v2)
theorem e_X12_stayOf (l : Launch) (D : pg_D)  (h : pg_H) (a0 : Nat) (a1 : Int32) (a2 : Int32) : pg_EvF l D RX12 cX12_stayOf 3 (some FieldType.int) "stayOf" 0 0 (pg_oI h) (F_X12_stayOf h a0 a1 a2) 0 [(0, pR a0), (1, pI a1), (2, pI a2)] [] h := by
  unfold F_X12_stayOf
  refine pg_aload_n (i := 0) dX12_stayOf_0 rfl 0 rfl ?_
  refine pg_getR dX12_stayOf_1 fl_RX12_20 rfl (fun v1 => ?_)
  refine pg_bipush dX12_stayOf_4 cb_36 ?_
  refine pg_iconst dX12_stayOf_6 ci_4 ?_
  refine pg_iload_n (i := 1) dX12_stayOf_7 rfl 1 rfl ?_
  refine pg_imul dX12_stayOf_8 ?_
  refine pg_iadd dX12_stayOf_9 ?_
  refine pg_iload_n (i := 2) dX12_stayOf_10 rfl 2 rfl ?_
  refine pg_iadd dX12_stayOf_11 ?_
  refine pg_iaload dX12_stayOf_12 (fun v2 => ?_)
  exact pg_iret dX12_stayOf_13 rfl rfl
theorem c_X12_stayOf (l : Launch) (D : pg_D) (h : pg_H) (a0 : Nat) (a1 : Int32) (a2 : Int32)  : ∀ x, F_X12_stayOf h a0 a1 a2 = some x → pg_Ct l D yX12_stayOf cX12_stayOf 3 (some FieldType.int) 0 0 [pR a0, pI a1, pI a2] h (pg_oI h x) :=
  pg_Ct.of pn_RX12 (Nat.le_of_ble_eq_true rfl) (e_X12_stayOf l D h a0 a1 a2)
def F_X12_handOf (h : pg_H) (a0 : Nat) (a1 : Int32) (a2 : Int32) : Option Int32 := Option.bind (pg_gR 12 3 h a0) fun v1 => Option.bind (pg_aI 21 h v1 (((196 : Int32) + ((8 : Int32) * a1)) + a2)) fun v2 => (some v2)
theorem e_X12_handOf (l : Launch) (D : pg_D)  (h : pg_H) (a0 : Nat) (a1 : Int32) (a2 : Int32) : pg_EvF l D RX12 cX12_handOf 3 (some FieldType.int) "handOf" 0 0 (pg_oI h) (F_X12_handOf h a0 a1 a2) 0 [(0, pR a0), (1, pI a1), (2, pI a2)] [] h := by
  unfold F_X12_handOf
  refine pg_aload_n (i := 0) dX12_handOf_0 rfl 0 rfl ?_
  refine pg_getR dX12_handOf_1 fl_RX12_20 rfl (fun v1 => ?_)
  refine pg_sipush dX12_handOf_4 cs_196 ?_
  refine pg_bipush dX12_handOf_7 cb_8 ?_
  refine pg_iload_n (i := 1) dX12_handOf_9 rfl 1 rfl ?_
  refine pg_imul dX12_handOf_10 ?_
  refine pg_iadd dX12_handOf_11 ?_
  refine pg_iload_n (i := 2) dX12_handOf_12 rfl 2 rfl ?_
  refine pg_iadd dX12_handOf_13 ?_
  refine pg_iaload dX12_handOf_14 (fun v2 => ?_)
  exact pg_iret dX12_handOf_15 rfl rfl
theorem c_X12_handOf (l : Launch) (D : pg_D) (h : pg_H) (a0 : Nat) (a1 : Int32) (a2 : Int32)  : ∀ x, F_X12_handOf h a0 a1 a2 = some x → pg_Ct l D yX12_handOf cX12_handOf 3 (some FieldType.int) 0 0 [pR a0, pI a1, pI a2] h (pg_oI h x) :=
  pg_Ct.of pn_RX12 (Nat.le_of_ble_eq_true rfl) (e_X12_handOf l D h a0 a1 a2)
def F_X12_noteOf (h : pg_H) (a0 : Nat) (a1 : Int32) (a2 : Int32) : Option Int32 := Option.bind (pg_gR 12 3 h a0) fun v1 => Option.bind (pg_aI 21 h v1 (((340 : Int32) + ((5 : Int32) * a1)) + a2)) fun v2 => (some v2)
theorem e_X12_noteOf (l : Launch) (D : pg_D)  (h : pg_H) (a0 : Nat) (a1 : Int32) (a2 : Int32) : pg_EvF l D RX12 cX12_noteOf 3 (some FieldType.int) "noteOf" 0 0 (pg_oI h) (F_X12_noteOf h a0 a1 a2) 0 [(0, pR a0), (1, pI a1), (2, pI a2)] [] h := by
  unfold F_X12_noteOf
  refine pg_aload_n (i := 0) dX12_noteOf_0 rfl 0 rfl ?_
  refine pg_getR dX12_noteOf_1 fl_RX12_20 rfl (fun v1 => ?_)
  refine pg_sipush dX12_noteOf_4 cs_340 ?_
  refine pg_iconst dX12_noteOf_7 ci_5 ?_
  refine pg_iload_n (i := 1) dX12_noteOf_8 rfl 1 rfl ?_
  refine pg_imul dX12_noteOf_9 ?_
  refine pg_iadd dX12_noteOf_10 ?_
  refine pg_iload_n (i := 2) dX12_noteOf_11 rfl 2 rfl ?_
  refine pg_iadd dX12_noteOf_12 ?_
  refine pg_iaload dX12_noteOf_13 (fun v2 => ?_)
  exact pg_iret dX12_noteOf_14 rfl rfl
theorem c_X12_noteOf (l : Launch) (D : pg_D) (h : pg_H) (a0 : Nat) (a1 : Int32) (a2 : Int32)  : ∀ x, F_X12_noteOf h a0 a1 a2 = some x → pg_Ct l D yX12_noteOf cX12_noteOf 3 (some FieldType.int) 0 0 [pR a0, pI a1, pI a2] h (pg_oI h x) :=
  pg_Ct.of pn_RX12 (Nat.le_of_ble_eq_true rfl) (e_X12_noteOf l D h a0 a1 a2)
def F_X12_replaces (a0 : Nat) (a1 : Int32) (a2 : Int32) (h : pg_H) : Option (Int32 × pg_H) := Option.bind (pg_gR 12 3 h a0) fun v1 => Option.bind (pg_aI 21 h v1 a1) fun v2 => Option.bind (pg_gR 12 3 h a0) fun v3 => Option.bind (pg_sI 21 h v3 a1 a2) fun v4 => Option.bind (pg_rcv 12 v4 a0 (F_X12_good a0 v2 v4)) fun v5 => (some (v5.1, v5.2))
theorem e_X12_replaces (l : Launch) (D : pg_D)  (a0 : Nat) (a1 : Int32) (a2 : Int32) (h : pg_H) : pg_EvF l D RX12 cX12_replaces 4 (some FieldType.int) "replaces" 1 21 pg_wI (F_X12_replaces a0 a1 a2 h) 0 [(0, pR a0), (1, pI a1), (2, pI a2)] [] h := by
  unfold F_X12_replaces
  refine pg_aload_n (i := 0) dX12_replaces_0 rfl 0 rfl ?_
  refine pg_getR dX12_replaces_1 fl_RX12_20 rfl (fun v1 => ?_)
  refine pg_iload_n (i := 1) dX12_replaces_4 rfl 1 rfl ?_
  refine pg_iaload dX12_replaces_5 (fun v2 => ?_)
  refine pg_istore_n (i := 3) (lv' := [(3, pI v2), (0, pR a0), (1, pI a1), (2, pI a2)]) dX12_replaces_6 rfl (by decide) rfl ?_
  refine pg_aload_n (i := 0) dX12_replaces_7 rfl 1 rfl ?_
  refine pg_getR dX12_replaces_8 fl_RX12_20 rfl (fun v3 => ?_)
  refine pg_iload_n (i := 1) dX12_replaces_11 rfl 2 rfl ?_
  refine pg_iload_n (i := 2) dX12_replaces_12 rfl 3 rfl ?_
  refine pg_iastore dX12_replaces_13 (fun v4 => ?_)
  refine pg_aload_n (i := 0) dX12_replaces_14 rfl 1 rfl ?_
  refine pg_iload_n (i := 3) dX12_replaces_15 rfl 0 rfl ?_
  refine pg_callV_wI (As := [pI v2]) (rs := []) dX12_replaces_16 lk_RX12_121 vy_X12_good nd_X12_good (c_X12_good l D a0 v2 v4) rfl rfl (Nat.le_of_ble_eq_true rfl) (by decide) (by decide) (fun v5 => ?_)
  exact pg_iret dX12_replaces_19 rfl rfl
theorem c_X12_replaces (l : Launch) (D : pg_D) (a0 : Nat) (a1 : Int32) (a2 : Int32) (h : pg_H) : ∀ x, F_X12_replaces a0 a1 a2 h = some x → pg_Ct l D yX12_replaces cX12_replaces 4 (some FieldType.int) 1 21 [pR a0, pI a1, pI a2] h (pg_wI x) :=
  pg_Ct.of pn_RX12 (Nat.le_of_ble_eq_true rfl) (e_X12_replaces l D a0 a1 a2 h)
def F_X12_copy_20 (a0 : Nat) (h : pg_H) : Option (Int32 × pg_H) := Option.bind (pg_rcv 12 h a0 (F_X12_refuses a0 (-1 : Int32) h)) fun v1 => (some (v1.1, v1.2))
def F_X12_copy (a0 : Nat) (a1 : Int32) (a2 : Int32) (h : pg_H) : Option (Int32 × pg_H) := Option.bind (F_X12_lies a1 (0 : Int32) (7 : Int32)) fun v1 => (if v1 = 0 then (F_X12_copy_20 a0 h) else Option.bind (F_X12_lies a2 (0 : Int32) (63 : Int32)) fun v2 => (if v2 = 0 then (F_X12_copy_20 a0 h) else Option.bind (pg_rcv 12 h a0 (F_X12_copies h a0)) fun v3 => (if v3 = (12 : Int32) then Option.bind (pg_rcv 12 h a0 (F_X12_refuses a0 (-5 : Int32) h)) fun v14 => (some (v14.1, v14.2)) else Option.bind (pg_gR 12 3 h a0) fun v4 => Option.bind (pg_sI 21 h v4 ((0 : Int32) + ((3 : Int32) * v3)) a1) fun v5 => Option.bind (pg_gR 12 3 v5 a0) fun v6 => Option.bind (pg_sI 21 v5 v6 (((0 : Int32) + ((3 : Int32) * v3)) + (1 : Int32)) a2) fun v7 => Option.bind (pg_gR 12 3 v7 a0) fun v8 => Option.bind (pg_sI 21 v7 v8 (((0 : Int32) + ((3 : Int32) * v3)) + (2 : Int32)) (0 : Int32)) fun v9 => Option.bind (pg_gR 12 3 v9 a0) fun v10 => Option.bind (pg_aI 21 v9 v10 (1344 : Int32)) fun v11 => Option.bind (pg_sI 21 v9 v10 (1344 : Int32) (v11 + (1 : Int32))) fun v12 => Option.bind (pg_rcv 12 v12 a0 (F_X12_good a0 v3 v12)) fun v13 => (some (v13.1, v13.2)))))
theorem e_X12_copy_20 (l : Launch) (D : pg_D)  (a0 : Nat) (h : pg_H) : pg_EvF l D RX12 cX12_copy 4 (some FieldType.int) "copy" 1 22 pg_wI (F_X12_copy_20 a0 h) 20 [(0, pR a0)] [] h := by
  unfold F_X12_copy_20
  refine pg_aload_n (i := 0) dX12_copy_20 rfl 0 rfl ?_
  refine pg_iconst dX12_copy_21 ci_m1 ?_
  refine pg_callV_wI (As := [pI (-1 : Int32)]) (rs := []) dX12_copy_22 lk_RX12_117 vy_X12_refuses nd_X12_refuses (c_X12_refuses l D a0 (-1 : Int32) h) rfl rfl (Nat.le_of_ble_eq_true rfl) (by decide) (by decide) (fun v1 => ?_)
  exact pg_iret dX12_copy_25 rfl rfl
theorem e_X12_copy (l : Launch) (D : pg_D)  (a0 : Nat) (a1 : Int32) (a2 : Int32) (h : pg_H) : pg_EvF l D RX12 cX12_copy 4 (some FieldType.int) "copy" 1 22 pg_wI (F_X12_copy a0 a1 a2 h) 0 [(0, pR a0), (1, pI a1), (2, pI a2)] [] h := by
  unfold F_X12_copy
  refine pg_iload_n (i := 1) dX12_copy_0 rfl 1 rfl ?_
  refine pg_iconst dX12_copy_1 ci_0 ?_
  refine pg_bipush dX12_copy_2 cb_7 ?_
  refine pg_callS_oI (As := [pI a1, pI (0 : Int32), pI (7 : Int32)]) (rs := []) dX12_copy_4 lk_RX12_113 vy_X12_lies nd_X12_lies (c_X12_lies l D a1 (0 : Int32) (7 : Int32) h) rfl rfl (Nat.le_of_ble_eq_true rfl) (by decide) (by decide) (fun v1 => ?_)
  refine pg_if_eq (tgt := 20) dX12_copy_7 rfl ?_ ?_
  · exact pg_to (e_X12_copy_20 l D a0 h) [0] rfl
  · refine pg_iload_n (i := 2) dX12_copy_10 rfl 2 rfl ?_
    refine pg_iconst dX12_copy_11 ci_0 ?_
    refine pg_bipush dX12_copy_12 cb_63 ?_
    refine pg_callS_oI (As := [pI a2, pI (0 : Int32), pI (63 : Int32)]) (rs := []) dX12_copy_14 lk_RX12_113 vy_X12_lies nd_X12_lies (c_X12_lies l D a2 (0 : Int32) (63 : Int32) h) rfl rfl (Nat.le_of_ble_eq_true rfl) (by decide) (by decide) (fun v2 => ?_)
    refine pg_if_ne (tgt := 26) dX12_copy_17 rfl ?_ ?_
    · refine pg_aload_n (i := 0) dX12_copy_26 rfl 0 rfl ?_
      refine pg_callV_oI (As := []) (rs := []) dX12_copy_27 lk_RX12_124 vy_X12_copies nd_X12_copies (c_X12_copies l D h a0) rfl rfl (Nat.le_of_ble_eq_true rfl) (by decide) (by decide) (fun v3 => ?_)
      refine pg_istore_n (i := 3) (lv' := [(3, pI v3), (0, pR a0), (1, pI a1), (2, pI a2)]) dX12_copy_30 rfl (by decide) rfl ?_
      refine pg_iload_n (i := 3) dX12_copy_31 rfl 0 rfl ?_
      refine pg_bipush dX12_copy_32 cb_12 ?_
      refine pg_icmp_ne (tgt := 44) dX12_copy_34 rfl ?_ ?_
      · refine pg_aload_n (i := 0) dX12_copy_44 rfl 1 rfl ?_
        refine pg_getR dX12_copy_45 fl_RX12_20 rfl (fun v4 => ?_)
        refine pg_iconst dX12_copy_48 ci_0 ?_
        refine pg_iconst dX12_copy_49 ci_3 ?_
        refine pg_iload_n (i := 3) dX12_copy_50 rfl 0 rfl ?_
        refine pg_imul dX12_copy_51 ?_
        refine pg_iadd dX12_copy_52 ?_
        refine pg_iload_n (i := 1) dX12_copy_53 rfl 2 rfl ?_
        refine pg_iastore dX12_copy_54 (fun v5 => ?_)
        refine pg_aload_n (i := 0) dX12_copy_55 rfl 1 rfl ?_
        refine pg_getR dX12_copy_56 fl_RX12_20 rfl (fun v6 => ?_)
        refine pg_iconst dX12_copy_59 ci_0 ?_
        refine pg_iconst dX12_copy_60 ci_3 ?_
        refine pg_iload_n (i := 3) dX12_copy_61 rfl 0 rfl ?_
        refine pg_imul dX12_copy_62 ?_
        refine pg_iadd dX12_copy_63 ?_
        refine pg_iconst dX12_copy_64 ci_1 ?_
        refine pg_iadd dX12_copy_65 ?_
        refine pg_iload_n (i := 2) dX12_copy_66 rfl 3 rfl ?_
        refine pg_iastore dX12_copy_67 (fun v7 => ?_)
        refine pg_aload_n (i := 0) dX12_copy_68 rfl 1 rfl ?_
        refine pg_getR dX12_copy_69 fl_RX12_20 rfl (fun v8 => ?_)
        refine pg_iconst dX12_copy_72 ci_0 ?_
        refine pg_iconst dX12_copy_73 ci_3 ?_
        refine pg_iload_n (i := 3) dX12_copy_74 rfl 0 rfl ?_
        refine pg_imul dX12_copy_75 ?_
        refine pg_iadd dX12_copy_76 ?_
        refine pg_iconst dX12_copy_77 ci_2 ?_
        refine pg_iadd dX12_copy_78 ?_
        refine pg_iconst dX12_copy_79 ci_0 ?_
        refine pg_iastore dX12_copy_80 (fun v9 => ?_)
        refine pg_aload_n (i := 0) dX12_copy_81 rfl 1 rfl ?_
        refine pg_getR dX12_copy_82 fl_RX12_20 rfl (fun v10 => ?_)
        refine pg_sipush dX12_copy_85 cs_1344 ?_
        refine pg_dup2 dX12_copy_88 rfl rfl ?_
        refine pg_iaload dX12_copy_89 (fun v11 => ?_)
        refine pg_iconst dX12_copy_90 ci_1 ?_
        refine pg_iadd dX12_copy_91 ?_
        refine pg_iastore dX12_copy_92 (fun v12 => ?_)
        refine pg_aload_n (i := 0) dX12_copy_93 rfl 1 rfl ?_
        refine pg_iload_n (i := 3) dX12_copy_94 rfl 0 rfl ?_
        refine pg_callV_wI (As := [pI v3]) (rs := []) dX12_copy_95 lk_RX12_121 vy_X12_good nd_X12_good (c_X12_good l D a0 v3 v12) rfl rfl (Nat.le_of_ble_eq_true rfl) (by decide) (by decide) (fun v13 => ?_)
        exact pg_iret dX12_copy_98 rfl rfl
      · refine pg_aload_n (i := 0) dX12_copy_37 rfl 1 rfl ?_
        refine pg_bipush dX12_copy_38 cb_m5 ?_
        refine pg_callV_wI (As := [pI (-5 : Int32)]) (rs := []) dX12_copy_40 lk_RX12_117 vy_X12_refuses nd_X12_refuses (c_X12_refuses l D a0 (-5 : Int32) h) rfl rfl (Nat.le_of_ble_eq_true rfl) (by decide) (by decide) (fun v14 => ?_)
        exact pg_iret dX12_copy_43 rfl rfl
    · exact pg_to (e_X12_copy_20 l D a0 h) [0] rfl
theorem c_X12_copy (l : Launch) (D : pg_D) (a0 : Nat) (a1 : Int32) (a2 : Int32) (h : pg_H) : ∀ x, F_X12_copy a0 a1 a2 h = some x → pg_Ct l D yX12_copy cX12_copy 4 (some FieldType.int) 1 22 [pR a0, pI a1, pI a2] h (pg_wI x) :=
  pg_Ct.of pn_RX12 (Nat.le_of_ble_eq_true rfl) (e_X12_copy l D a0 a1 a2 h)
def F_X12_look (a0 : Nat) (a1 : Int32) (a2 : Int32) (h : pg_H) : Option (Int32 × pg_H) := Option.bind (F_X12_lies a2 (0 : Int32) (1 : Int32)) fun v1 => (if v1 = 0 then Option.bind (pg_rcv 12 h a0 (F_X12_refuses a0 (-1 : Int32) h)) fun v5 => (some (v5.1, v5.2)) else Option.bind (pg_rcv 12 h a0 (F_X12_isCopy h a0 a1)) fun v2 => (if v2 = 0 then Option.bind (pg_rcv 12 h a0 (F_X12_refuses a0 (-2 : Int32) h)) fun v4 => (some (v4.1, v4.2)) else Option.bind (pg_rcv 12 h a0 (F_X12_replaces a0 (((0 : Int32) + ((3 : Int32) * a1)) + (2 : Int32)) a2 h)) fun v3 => (some (v3.1, v3.2))))
theorem e_X12_look (l : Launch) (D : pg_D)  (a0 : Nat) (a1 : Int32) (a2 : Int32) (h : pg_H) : pg_EvF l D RX12 cX12_look 3 (some FieldType.int) "look" 2 44 pg_wI (F_X12_look a0 a1 a2 h) 0 [(0, pR a0), (1, pI a1), (2, pI a2)] [] h := by
  unfold F_X12_look
  refine pg_iload_n (i := 2) dX12_look_0 rfl 2 rfl ?_
  refine pg_iconst dX12_look_1 ci_0 ?_
  refine pg_iconst dX12_look_2 ci_1 ?_
  refine pg_callS_oI (As := [pI a2, pI (0 : Int32), pI (1 : Int32)]) (rs := []) dX12_look_3 lk_RX12_113 vy_X12_lies nd_X12_lies (c_X12_lies l D a2 (0 : Int32) (1 : Int32) h) rfl rfl (Nat.le_of_ble_eq_true rfl) (by decide) (by decide) (fun v1 => ?_)
  refine pg_if_ne (tgt := 15) dX12_look_6 rfl ?_ ?_
  · refine pg_aload_n (i := 0) dX12_look_15 rfl 0 rfl ?_
    refine pg_iload_n (i := 1) dX12_look_16 rfl 1 rfl ?_
    refine pg_callV_oI (As := [pI a1]) (rs := []) dX12_look_17 lk_RX12_128 vy_X12_isCopy nd_X12_isCopy (c_X12_isCopy l D h a0 a1) rfl rfl (Nat.le_of_ble_eq_true rfl) (by decide) (by decide) (fun v2 => ?_)
    refine pg_if_ne (tgt := 30) dX12_look_20 rfl ?_ ?_
    · refine pg_aload_n (i := 0) dX12_look_30 rfl 0 rfl ?_
      refine pg_iconst dX12_look_31 ci_0 ?_
      refine pg_iconst dX12_look_32 ci_3 ?_
      refine pg_iload_n (i := 1) dX12_look_33 rfl 1 rfl ?_
      refine pg_imul dX12_look_34 ?_
      refine pg_iadd dX12_look_35 ?_
      refine pg_iconst dX12_look_36 ci_2 ?_
      refine pg_iadd dX12_look_37 ?_
      refine pg_iload_n (i := 2) dX12_look_38 rfl 2 rfl ?_
      refine pg_callV_wI (As := [pI (((0 : Int32) + ((3 : Int32) * a1)) + (2 : Int32)), pI a2]) (rs := []) dX12_look_39 lk_RX12_132 vy_X12_replaces nd_X12_replaces (c_X12_replaces l D a0 (((0 : Int32) + ((3 : Int32) * a1)) + (2 : Int32)) a2 h) rfl rfl (Nat.le_of_ble_eq_true rfl) (by decide) (by decide) (fun v3 => ?_)
      exact pg_iret dX12_look_42 rfl rfl
    · refine pg_aload_n (i := 0) dX12_look_23 rfl 0 rfl ?_
      refine pg_bipush dX12_look_24 cb_m2 ?_
      refine pg_callV_wI (As := [pI (-2 : Int32)]) (rs := []) dX12_look_26 lk_RX12_117 vy_X12_refuses nd_X12_refuses (c_X12_refuses l D a0 (-2 : Int32) h) rfl rfl (Nat.le_of_ble_eq_true rfl) (by decide) (by decide) (fun v4 => ?_)
      exact pg_iret dX12_look_29 rfl rfl
  · refine pg_aload_n (i := 0) dX12_look_9 rfl 0 rfl ?_
    refine pg_iconst dX12_look_10 ci_m1 ?_
    refine pg_callV_wI (As := [pI (-1 : Int32)]) (rs := []) dX12_look_11 lk_RX12_117 vy_X12_refuses nd_X12_refuses (c_X12_refuses l D a0 (-1 : Int32) h) rfl rfl (Nat.le_of_ble_eq_true rfl) (by decide) (by decide) (fun v5 => ?_)
    exact pg_iret dX12_look_14 rfl rfl
theorem c_X12_look (l : Launch) (D : pg_D) (a0 : Nat) (a1 : Int32) (a2 : Int32) (h : pg_H) : ∀ x, F_X12_look a0 a1 a2 h = some x → pg_Ct l D yX12_look cX12_look 3 (some FieldType.int) 2 44 [pR a0, pI a1, pI a2] h (pg_wI x) :=
  pg_Ct.of pn_RX12 (Nat.le_of_ble_eq_true rfl) (e_X12_look l D a0 a1 a2 h)
def F_X12_areYears (a0 : Int32) (a1 : Int32) : Option Int32 := Option.bind (F_X12_lies a0 (0 : Int32) (400 : Int32)) fun v1 => (if v1 = 0 then (some (0 : Int32)) else Option.bind (F_X12_lies a1 a0 (400 : Int32)) fun v2 => (if v2 = 0 then (some (0 : Int32)) else (some (1 : Int32))))
theorem e_X12_areYears (l : Launch) (D : pg_D)  (a0 : Int32) (a1 : Int32) (h : pg_H) : pg_EvF l D RX12 cX12_areYears 2 (some FieldType.boolean) "areYears" 1 22 (pg_oI h) (F_X12_areYears a0 a1) 0 [(0, pI a0), (1, pI a1)] [] h := by
  unfold F_X12_areYears
  refine pg_iload_n (i := 0) dX12_areYears_0 rfl 0 rfl ?_
  refine pg_iconst dX12_areYears_1 ci_0 ?_
  refine pg_sipush dX12_areYears_2 cs_400 ?_
  refine pg_callS_oI (As := [pI a0, pI (0 : Int32), pI (400 : Int32)]) (rs := []) dX12_areYears_5 lk_RX12_113 vy_X12_lies nd_X12_lies (c_X12_lies l D a0 (0 : Int32) (400 : Int32) h) rfl rfl (Nat.le_of_ble_eq_true rfl) (by decide) (by decide) (fun v1 => ?_)
  refine pg_if_eq (tgt := 26) dX12_areYears_8 rfl ?_ ?_
  · refine pg_iconst dX12_areYears_26 ci_0 ?_
    exact pg_zret dX12_areYears_27 rfl (Or.inl rfl) rfl
  · refine pg_iload_n (i := 1) dX12_areYears_11 rfl 1 rfl ?_
    refine pg_iload_n (i := 0) dX12_areYears_12 rfl 0 rfl ?_
    refine pg_sipush dX12_areYears_13 cs_400 ?_
    refine pg_callS_oI (As := [pI a1, pI a0, pI (400 : Int32)]) (rs := []) dX12_areYears_16 lk_RX12_113 vy_X12_lies nd_X12_lies (c_X12_lies l D a1 a0 (400 : Int32) h) rfl rfl (Nat.le_of_ble_eq_true rfl) (by decide) (by decide) (fun v2 => ?_)
    refine pg_if_eq (tgt := 26) dX12_areYears_19 rfl ?_ ?_
    · refine pg_iconst dX12_areYears_26 ci_0 ?_
      exact pg_zret dX12_areYears_27 rfl (Or.inl rfl) rfl
    · refine pg_iconst dX12_areYears_22 ci_1 ?_
      refine pg_goto (tgt := 27) dX12_areYears_23 rfl ?_
      exact pg_zret dX12_areYears_27 rfl (Or.inr rfl) rfl
theorem c_X12_areYears (l : Launch) (D : pg_D) (a0 : Int32) (a1 : Int32) (h : pg_H) : ∀ x, F_X12_areYears a0 a1 = some x → pg_Ct l D yX12_areYears cX12_areYears 2 (some FieldType.boolean) 1 22 [pI a0, pI a1] h (pg_oI h x) :=
  pg_Ct.of pn_RX12 (Nat.le_of_ble_eq_true rfl) (e_X12_areYears l D a0 a1 h)
def F_X12_stay_19 (a0 : Nat) (h : pg_H) : Option (Int32 × pg_H) := Option.bind (pg_rcv 12 h a0 (F_X12_refuses a0 (-1 : Int32) h)) fun v1 => (some (v1.1, v1.2))
def F_X12_stay (a0 : Nat) (a1 : Int32) (a2 : Int32) (a3 : Int32) (a4 : Int32) (h : pg_H) : Option (Int32 × pg_H) := Option.bind (F_X12_lies a2 (0 : Int32) (31 : Int32)) fun v1 => (if v1 = 0 then (F_X12_stay_19 a0 h) else Option.bind (F_X12_areYears a3 a4) fun v2 => (if v2 = 0 then (F_X12_stay_19 a0 h) else Option.bind (pg_rcv 12 h a0 (F_X12_isCopy h a0 a1)) fun v3 => (if v3 = 0 then Option.bind (pg_rcv 12 h a0 (F_X12_refuses a0 (-2 : Int32) h)) fun v19 => (some (v19.1, v19.2)) else Option.bind (pg_gR 12 3 h a0) fun v4 => Option.bind (pg_aI 21 h v4 (1345 : Int32)) fun v5 => (if v5 = (40 : Int32) then Option.bind (pg_rcv 12 h a0 (F_X12_refuses a0 (-5 : Int32) h)) fun v18 => (some (v18.1, v18.2)) else Option.bind (pg_gR 12 3 h a0) fun v6 => Option.bind (pg_sI 21 h v6 ((36 : Int32) + ((4 : Int32) * v5)) a1) fun v7 => Option.bind (pg_gR 12 3 v7 a0) fun v8 => Option.bind (pg_sI 21 v7 v8 (((36 : Int32) + ((4 : Int32) * v5)) + (1 : Int32)) a2) fun v9 => Option.bind (pg_gR 12 3 v9 a0) fun v10 => Option.bind (pg_sI 21 v9 v10 (((36 : Int32) + ((4 : Int32) * v5)) + (2 : Int32)) a3) fun v11 => Option.bind (pg_gR 12 3 v11 a0) fun v12 => Option.bind (pg_sI 21 v11 v12 (((36 : Int32) + ((4 : Int32) * v5)) + (3 : Int32)) a4) fun v13 => Option.bind (pg_gR 12 3 v13 a0) fun v14 => Option.bind (pg_aI 21 v13 v14 (1345 : Int32)) fun v15 => Option.bind (pg_sI 21 v13 v14 (1345 : Int32) (v15 + (1 : Int32))) fun v16 => Option.bind (pg_rcv 12 v16 a0 (F_X12_good a0 (v5 + (1 : Int32)) v16)) fun v17 => (some (v17.1, v17.2))))))
theorem e_X12_stay_19 (l : Launch) (D : pg_D)  (a0 : Nat) (h : pg_H) : pg_EvF l D RX12 cX12_stay 6 (some FieldType.int) "stay" 2 43 pg_wI (F_X12_stay_19 a0 h) 19 [(0, pR a0)] [] h := by
  unfold F_X12_stay_19
  refine pg_aload_n (i := 0) dX12_stay_19 rfl 0 rfl ?_
  refine pg_iconst dX12_stay_20 ci_m1 ?_
  refine pg_callV_wI (As := [pI (-1 : Int32)]) (rs := []) dX12_stay_21 lk_RX12_117 vy_X12_refuses nd_X12_refuses (c_X12_refuses l D a0 (-1 : Int32) h) rfl rfl (Nat.le_of_ble_eq_true rfl) (by decide) (by decide) (fun v1 => ?_)
  exact pg_iret dX12_stay_24 rfl rfl
theorem e_X12_stay (l : Launch) (D : pg_D)  (a0 : Nat) (a1 : Int32) (a2 : Int32) (a3 : Int32) (a4 : Int32) (h : pg_H) : pg_EvF l D RX12 cX12_stay 6 (some FieldType.int) "stay" 2 43 pg_wI (F_X12_stay a0 a1 a2 a3 a4 h) 0 [(0, pR a0), (1, pI a1), (2, pI a2), (3, pI a3), (4, pI a4)] [] h := by
  unfold F_X12_stay
  refine pg_iload_n (i := 2) dX12_stay_0 rfl 2 rfl ?_
  refine pg_iconst dX12_stay_1 ci_0 ?_
  refine pg_bipush dX12_stay_2 cb_31 ?_
  refine pg_callS_oI (As := [pI a2, pI (0 : Int32), pI (31 : Int32)]) (rs := []) dX12_stay_4 lk_RX12_113 vy_X12_lies nd_X12_lies (c_X12_lies l D a2 (0 : Int32) (31 : Int32) h) rfl rfl (Nat.le_of_ble_eq_true rfl) (by decide) (by decide) (fun v1 => ?_)
  refine pg_if_eq (tgt := 19) dX12_stay_7 rfl ?_ ?_
  · exact pg_to (e_X12_stay_19 l D a0 h) [0] rfl
  · refine pg_iload_n (i := 3) dX12_stay_10 rfl 3 rfl ?_
    refine pg_iload dX12_stay_11 4 rfl ?_
    refine pg_callS_oI (As := [pI a3, pI a4]) (rs := []) dX12_stay_13 lk_RX12_136 vy_X12_areYears nd_X12_areYears (c_X12_areYears l D a3 a4 h) rfl rfl (Nat.le_of_ble_eq_true rfl) (by decide) (by decide) (fun v2 => ?_)
    refine pg_if_ne (tgt := 25) dX12_stay_16 rfl ?_ ?_
    · refine pg_aload_n (i := 0) dX12_stay_25 rfl 0 rfl ?_
      refine pg_iload_n (i := 1) dX12_stay_26 rfl 1 rfl ?_
      refine pg_callV_oI (As := [pI a1]) (rs := []) dX12_stay_27 lk_RX12_128 vy_X12_isCopy nd_X12_isCopy (c_X12_isCopy l D h a0 a1) rfl rfl (Nat.le_of_ble_eq_true rfl) (by decide) (by decide) (fun v3 => ?_)
      refine pg_if_ne (tgt := 40) dX12_stay_30 rfl ?_ ?_
      · refine pg_aload_n (i := 0) dX12_stay_40 rfl 0 rfl ?_
        refine pg_getR dX12_stay_41 fl_RX12_20 rfl (fun v4 => ?_)
        refine pg_sipush dX12_stay_44 cs_1345 ?_
        refine pg_iaload dX12_stay_47 (fun v5 => ?_)
        refine pg_istore (lv' := [(5, pI v5), (0, pR a0), (1, pI a1), (2, pI a2), (3, pI a3), (4, pI a4)]) dX12_stay_48 (by decide) rfl ?_
        refine pg_iload dX12_stay_50 0 rfl ?_
        refine pg_bipush dX12_stay_52 cb_40 ?_
        refine pg_icmp_ne (tgt := 64) dX12_stay_54 rfl ?_ ?_
        · refine pg_aload_n (i := 0) dX12_stay_64 rfl 1 rfl ?_
          refine pg_getR dX12_stay_65 fl_RX12_20 rfl (fun v6 => ?_)
          refine pg_bipush dX12_stay_68 cb_36 ?_
          refine pg_iconst dX12_stay_70 ci_4 ?_
          refine pg_iload dX12_stay_71 0 rfl ?_
          refine pg_imul dX12_stay_73 ?_
          refine pg_iadd dX12_stay_74 ?_
          refine pg_iload_n (i := 1) dX12_stay_75 rfl 2 rfl ?_
          refine pg_iastore dX12_stay_76 (fun v7 => ?_)
          refine pg_aload_n (i := 0) dX12_stay_77 rfl 1 rfl ?_
          refine pg_getR dX12_stay_78 fl_RX12_20 rfl (fun v8 => ?_)
          refine pg_bipush dX12_stay_81 cb_36 ?_
          refine pg_iconst dX12_stay_83 ci_4 ?_
          refine pg_iload dX12_stay_84 0 rfl ?_
          refine pg_imul dX12_stay_86 ?_
          refine pg_iadd dX12_stay_87 ?_
          refine pg_iconst dX12_stay_88 ci_1 ?_
          refine pg_iadd dX12_stay_89 ?_
          refine pg_iload_n (i := 2) dX12_stay_90 rfl 3 rfl ?_
          refine pg_iastore dX12_stay_91 (fun v9 => ?_)
          refine pg_aload_n (i := 0) dX12_stay_92 rfl 1 rfl ?_
          refine pg_getR dX12_stay_93 fl_RX12_20 rfl (fun v10 => ?_)
          refine pg_bipush dX12_stay_96 cb_36 ?_
          refine pg_iconst dX12_stay_98 ci_4 ?_
          refine pg_iload dX12_stay_99 0 rfl ?_
          refine pg_imul dX12_stay_101 ?_
          refine pg_iadd dX12_stay_102 ?_
          refine pg_iconst dX12_stay_103 ci_2 ?_
          refine pg_iadd dX12_stay_104 ?_
          refine pg_iload_n (i := 3) dX12_stay_105 rfl 4 rfl ?_
          refine pg_iastore dX12_stay_106 (fun v11 => ?_)
          refine pg_aload_n (i := 0) dX12_stay_107 rfl 1 rfl ?_
          refine pg_getR dX12_stay_108 fl_RX12_20 rfl (fun v12 => ?_)
          refine pg_bipush dX12_stay_111 cb_36 ?_
          refine pg_iconst dX12_stay_113 ci_4 ?_
          refine pg_iload dX12_stay_114 0 rfl ?_
          refine pg_imul dX12_stay_116 ?_
          refine pg_iadd dX12_stay_117 ?_
          refine pg_iconst dX12_stay_118 ci_3 ?_
          refine pg_iadd dX12_stay_119 ?_
          refine pg_iload dX12_stay_120 5 rfl ?_
          refine pg_iastore dX12_stay_122 (fun v13 => ?_)
          refine pg_aload_n (i := 0) dX12_stay_123 rfl 1 rfl ?_
          refine pg_getR dX12_stay_124 fl_RX12_20 rfl (fun v14 => ?_)
          refine pg_sipush dX12_stay_127 cs_1345 ?_
          refine pg_dup2 dX12_stay_130 rfl rfl ?_
          refine pg_iaload dX12_stay_131 (fun v15 => ?_)
          refine pg_iconst dX12_stay_132 ci_1 ?_
          refine pg_iadd dX12_stay_133 ?_
          refine pg_iastore dX12_stay_134 (fun v16 => ?_)
          refine pg_aload_n (i := 0) dX12_stay_135 rfl 1 rfl ?_
          refine pg_iload dX12_stay_136 0 rfl ?_
          refine pg_iconst dX12_stay_138 ci_1 ?_
          refine pg_iadd dX12_stay_139 ?_
          refine pg_callV_wI (As := [pI (v5 + (1 : Int32))]) (rs := []) dX12_stay_140 lk_RX12_121 vy_X12_good nd_X12_good (c_X12_good l D a0 (v5 + (1 : Int32)) v16) rfl rfl (Nat.le_of_ble_eq_true rfl) (by decide) (by decide) (fun v17 => ?_)
          exact pg_iret dX12_stay_143 rfl rfl
        · refine pg_aload_n (i := 0) dX12_stay_57 rfl 1 rfl ?_
          refine pg_bipush dX12_stay_58 cb_m5 ?_
          refine pg_callV_wI (As := [pI (-5 : Int32)]) (rs := []) dX12_stay_60 lk_RX12_117 vy_X12_refuses nd_X12_refuses (c_X12_refuses l D a0 (-5 : Int32) h) rfl rfl (Nat.le_of_ble_eq_true rfl) (by decide) (by decide) (fun v18 => ?_)
          exact pg_iret dX12_stay_63 rfl rfl
      · refine pg_aload_n (i := 0) dX12_stay_33 rfl 0 rfl ?_
        refine pg_bipush dX12_stay_34 cb_m2 ?_
        refine pg_callV_wI (As := [pI (-2 : Int32)]) (rs := []) dX12_stay_36 lk_RX12_117 vy_X12_refuses nd_X12_refuses (c_X12_refuses l D a0 (-2 : Int32) h) rfl rfl (Nat.le_of_ble_eq_true rfl) (by decide) (by decide) (fun v19 => ?_)
        exact pg_iret dX12_stay_39 rfl rfl
    · exact pg_to (e_X12_stay_19 l D a0 h) [0] rfl
theorem c_X12_stay (l : Launch) (D : pg_D) (a0 : Nat) (a1 : Int32) (a2 : Int32) (a3 : Int32) (a4 : Int32) (h : pg_H) : ∀ x, F_X12_stay a0 a1 a2 a3 a4 h = some x → pg_Ct l D yX12_stay cX12_stay 6 (some FieldType.int) 2 43 [pR a0, pI a1, pI a2, pI a3, pI a4] h (pg_wI x) :=
  pg_Ct.of pn_RX12 (Nat.le_of_ble_eq_true rfl) (e_X12_stay l D a0 a1 a2 a3 a4 h)
def F_X12_hand_39  : Nat → Nat → Int32 → Int32 → Int32 → Int32 → pg_H → Option (Int32 × pg_H)
  | 0 => fun _ _ _ _ _ _ => none
  | n + 1 => fun a0 a1 a2 a3 a4 h => (if a4 < (8 : Int32) then Option.bind (pg_gR 12 3 h a0) fun v9 => Option.bind (pg_sI 21 h v9 (((196 : Int32) + ((8 : Int32) * a3)) + a4) (0 : Int32)) fun v10 => (F_X12_hand_39 n a0 a1 a2 a3 (a4 + (1 : Int32)) v10) else Option.bind (pg_gR 12 3 h a0) fun v1 => Option.bind (pg_sI 21 h v1 ((196 : Int32) + ((8 : Int32) * a3)) a1) fun v2 => Option.bind (pg_gR 12 3 v2 a0) fun v3 => Option.bind (pg_sI 21 v2 v3 (((196 : Int32) + ((8 : Int32) * a3)) + (1 : Int32)) a2) fun v4 => Option.bind (pg_gR 12 3 v4 a0) fun v5 => Option.bind (pg_aI 21 v4 v5 (1346 : Int32)) fun v6 => Option.bind (pg_sI 21 v4 v5 (1346 : Int32) (v6 + (1 : Int32))) fun v7 => Option.bind (pg_rcv 12 v7 a0 (F_X12_good a0 a3 v7)) fun v8 => (some (v8.1, v8.2)))
def F_X12_hand (a0 : Nat) (a1 : Int32) (a2 : Int32) (h : pg_H) : Option (Int32 × pg_H) := Option.bind (F_X12_areYears a1 a2) fun v1 => (if v1 = 0 then Option.bind (pg_rcv 12 h a0 (F_X12_refuses a0 (-1 : Int32) h)) fun v5 => (some (v5.1, v5.2)) else Option.bind (pg_gR 12 3 h a0) fun v2 => Option.bind (pg_aI 21 h v2 (1346 : Int32)) fun v3 => (if v3 = (12 : Int32) then Option.bind (pg_rcv 12 h a0 (F_X12_refuses a0 (-5 : Int32) h)) fun v4 => (some (v4.1, v4.2)) else (F_X12_hand_39 pg_fuel a0 a1 a2 v3 (0 : Int32) h)))
theorem e_X12_hand_39 (l : Launch) (D : pg_D)   : ∀ (n : Nat) (a0 : Nat) (a1 : Int32) (a2 : Int32) (a3 : Int32) (a4 : Int32) (h : pg_H), pg_EvF l D RX12 cX12_hand 5 (some FieldType.int) "hand" 2 43 pg_wI (F_X12_hand_39 n a0 a1 a2 a3 a4 h) 39 [(0, pR a0), (1, pI a1), (2, pI a2), (3, pI a3), (4, pI a4)] [] h := by
  intro n
  induction n with
  | zero => intro a0 a1 a2 a3 a4 h; exact pg_none
  | succ n ih =>
    intro a0 a1 a2 a3 a4 h
    rw [F_X12_hand_39]
    refine pg_iload dX12_hand_39 4 rfl ?_
    refine pg_bipush dX12_hand_41 cb_8 ?_
    refine pg_icmp_ge (tgt := 69) dX12_hand_43 rfl ?_ ?_
    · refine pg_aload_n (i := 0) dX12_hand_69 rfl 0 rfl ?_
      refine pg_getR dX12_hand_70 fl_RX12_20 rfl (fun v1 => ?_)
      refine pg_sipush dX12_hand_73 cs_196 ?_
      refine pg_bipush dX12_hand_76 cb_8 ?_
      refine pg_iload_n (i := 3) dX12_hand_78 rfl 3 rfl ?_
      refine pg_imul dX12_hand_79 ?_
      refine pg_iadd dX12_hand_80 ?_
      refine pg_iload_n (i := 1) dX12_hand_81 rfl 1 rfl ?_
      refine pg_iastore dX12_hand_82 (fun v2 => ?_)
      refine pg_aload_n (i := 0) dX12_hand_83 rfl 0 rfl ?_
      refine pg_getR dX12_hand_84 fl_RX12_20 rfl (fun v3 => ?_)
      refine pg_sipush dX12_hand_87 cs_196 ?_
      refine pg_bipush dX12_hand_90 cb_8 ?_
      refine pg_iload_n (i := 3) dX12_hand_92 rfl 3 rfl ?_
      refine pg_imul dX12_hand_93 ?_
      refine pg_iadd dX12_hand_94 ?_
      refine pg_iconst dX12_hand_95 ci_1 ?_
      refine pg_iadd dX12_hand_96 ?_
      refine pg_iload_n (i := 2) dX12_hand_97 rfl 2 rfl ?_
      refine pg_iastore dX12_hand_98 (fun v4 => ?_)
      refine pg_aload_n (i := 0) dX12_hand_99 rfl 0 rfl ?_
      refine pg_getR dX12_hand_100 fl_RX12_20 rfl (fun v5 => ?_)
      refine pg_sipush dX12_hand_103 cs_1346 ?_
      refine pg_dup2 dX12_hand_106 rfl rfl ?_
      refine pg_iaload dX12_hand_107 (fun v6 => ?_)
      refine pg_iconst dX12_hand_108 ci_1 ?_
      refine pg_iadd dX12_hand_109 ?_
      refine pg_iastore dX12_hand_110 (fun v7 => ?_)
      refine pg_aload_n (i := 0) dX12_hand_111 rfl 0 rfl ?_
      refine pg_iload_n (i := 3) dX12_hand_112 rfl 3 rfl ?_
      refine pg_callV_wI (As := [pI a3]) (rs := []) dX12_hand_113 lk_RX12_121 vy_X12_good nd_X12_good (c_X12_good l D a0 a3 v7) rfl rfl (Nat.le_of_ble_eq_true rfl) (by decide) (by decide) (fun v8 => ?_)
      exact pg_iret dX12_hand_116 rfl rfl
    · refine pg_aload_n (i := 0) dX12_hand_46 rfl 0 rfl ?_
      refine pg_getR dX12_hand_47 fl_RX12_20 rfl (fun v9 => ?_)
      refine pg_sipush dX12_hand_50 cs_196 ?_
      refine pg_bipush dX12_hand_53 cb_8 ?_
      refine pg_iload_n (i := 3) dX12_hand_55 rfl 3 rfl ?_
      refine pg_imul dX12_hand_56 ?_
      refine pg_iadd dX12_hand_57 ?_
      refine pg_iload dX12_hand_58 4 rfl ?_
      refine pg_iadd dX12_hand_60 ?_
      refine pg_iconst dX12_hand_61 ci_0 ?_
      refine pg_iastore dX12_hand_62 (fun v10 => ?_)
      refine pg_iinc (lv' := [(4, pI (a4 + (1 : Int32))), (0, pR a0), (1, pI a1), (2, pI a2), (3, pI a3)]) dX12_hand_63 4 rfl ci_1 (by decide) rfl ?_
      refine pg_goto (tgt := 39) dX12_hand_66 rfl ?_
      exact pg_to (ih a0 a1 a2 a3 (a4 + (1 : Int32)) v10) [1, 2, 3, 4, 0] rfl
theorem e_X12_hand (l : Launch) (D : pg_D)  (a0 : Nat) (a1 : Int32) (a2 : Int32) (h : pg_H) : pg_EvF l D RX12 cX12_hand 5 (some FieldType.int) "hand" 2 43 pg_wI (F_X12_hand a0 a1 a2 h) 0 [(0, pR a0), (1, pI a1), (2, pI a2)] [] h := by
  unfold F_X12_hand
  refine pg_iload_n (i := 1) dX12_hand_0 rfl 1 rfl ?_
  refine pg_iload_n (i := 2) dX12_hand_1 rfl 2 rfl ?_
  refine pg_callS_oI (As := [pI a1, pI a2]) (rs := []) dX12_hand_2 lk_RX12_136 vy_X12_areYears nd_X12_areYears (c_X12_areYears l D a1 a2 h) rfl rfl (Nat.le_of_ble_eq_true rfl) (by decide) (by decide) (fun v1 => ?_)
  refine pg_if_ne (tgt := 14) dX12_hand_5 rfl ?_ ?_
  · refine pg_aload_n (i := 0) dX12_hand_14 rfl 0 rfl ?_
    refine pg_getR dX12_hand_15 fl_RX12_20 rfl (fun v2 => ?_)
    refine pg_sipush dX12_hand_18 cs_1346 ?_
    refine pg_iaload dX12_hand_21 (fun v3 => ?_)
    refine pg_istore_n (i := 3) (lv' := [(3, pI v3), (0, pR a0), (1, pI a1), (2, pI a2)]) dX12_hand_22 rfl (by decide) rfl ?_
    refine pg_iload_n (i := 3) dX12_hand_23 rfl 0 rfl ?_
    refine pg_bipush dX12_hand_24 cb_12 ?_
    refine pg_icmp_ne (tgt := 36) dX12_hand_26 rfl ?_ ?_
    · refine pg_iconst dX12_hand_36 ci_0 ?_
      refine pg_istore (lv' := [(4, pI (0 : Int32)), (3, pI v3), (0, pR a0), (1, pI a1), (2, pI a2)]) dX12_hand_37 (by decide) rfl ?_
      exact pg_to (e_X12_hand_39 l D pg_fuel a0 a1 a2 v3 (0 : Int32) h) [2, 3, 4, 1, 0] rfl
    · refine pg_aload_n (i := 0) dX12_hand_29 rfl 1 rfl ?_
      refine pg_bipush dX12_hand_30 cb_m5 ?_
      refine pg_callV_wI (As := [pI (-5 : Int32)]) (rs := []) dX12_hand_32 lk_RX12_117 vy_X12_refuses nd_X12_refuses (c_X12_refuses l D a0 (-5 : Int32) h) rfl rfl (Nat.le_of_ble_eq_true rfl) (by decide) (by decide) (fun v4 => ?_)
      exact pg_iret dX12_hand_35 rfl rfl
  · refine pg_aload_n (i := 0) dX12_hand_8 rfl 0 rfl ?_
    refine pg_iconst dX12_hand_9 ci_m1 ?_
    refine pg_callV_wI (As := [pI (-1 : Int32)]) (rs := []) dX12_hand_10 lk_RX12_117 vy_X12_refuses nd_X12_refuses (c_X12_refuses l D a0 (-1 : Int32) h) rfl rfl (Nat.le_of_ble_eq_true rfl) (by decide) (by decide) (fun v5 => ?_)
    exact pg_iret dX12_hand_13 rfl rfl
theorem c_X12_hand (l : Launch) (D : pg_D) (a0 : Nat) (a1 : Int32) (a2 : Int32) (h : pg_H) : ∀ x, F_X12_hand a0 a1 a2 h = some x → pg_Ct l D yX12_hand cX12_hand 5 (some FieldType.int) 2 43 [pR a0, pI a1, pI a2] h (pg_wI x) :=
  pg_Ct.of pn_RX12 (Nat.le_of_ble_eq_true rfl) (e_X12_hand l D a0 a1 a2 h)
def F_X12_form_19 (a0 : Nat) (h : pg_H) : Option (Int32 × pg_H) := Option.bind (pg_rcv 12 h a0 (F_X12_refuses a0 (-1 : Int32) h)) fun v1 => (some (v1.1, v1.2))
def F_X12_form (a0 : Nat) (a1 : Int32) (a2 : Int32) (a3 : Int32) (h : pg_H) : Option (Int32 × pg_H) := Option.bind (F_X12_lies a2 (0 : Int32) (5 : Int32)) fun v1 => (if v1 = 0 then (F_X12_form_19 a0 h) else Option.bind (F_X12_lies a3 (0 : Int32) (99 : Int32)) fun v2 => (if v2 = 0 then (F_X12_form_19 a0 h) else Option.bind (pg_rcv 12 h a0 (F_X12_isHand h a0 a1)) fun v3 => (if v3 = 0 then Option.bind (pg_rcv 12 h a0 (F_X12_refuses a0 (-2 : Int32) h)) fun v5 => (some (v5.1, v5.2)) else Option.bind (pg_rcv 12 h a0 (F_X12_replaces a0 ((((196 : Int32) + ((8 : Int32) * a1)) + (2 : Int32)) + a2) a3 h)) fun v4 => (some (v4.1, v4.2)))))
theorem e_X12_form_19 (l : Launch) (D : pg_D)  (a0 : Nat) (h : pg_H) : pg_EvF l D RX12 cX12_form 4 (some FieldType.int) "form" 2 44 pg_wI (F_X12_form_19 a0 h) 19 [(0, pR a0)] [] h := by
  unfold F_X12_form_19
  refine pg_aload_n (i := 0) dX12_form_19 rfl 0 rfl ?_
  refine pg_iconst dX12_form_20 ci_m1 ?_
  refine pg_callV_wI (As := [pI (-1 : Int32)]) (rs := []) dX12_form_21 lk_RX12_117 vy_X12_refuses nd_X12_refuses (c_X12_refuses l D a0 (-1 : Int32) h) rfl rfl (Nat.le_of_ble_eq_true rfl) (by decide) (by decide) (fun v1 => ?_)
  exact pg_iret dX12_form_24 rfl rfl
theorem e_X12_form (l : Launch) (D : pg_D)  (a0 : Nat) (a1 : Int32) (a2 : Int32) (a3 : Int32) (h : pg_H) : pg_EvF l D RX12 cX12_form 4 (some FieldType.int) "form" 2 44 pg_wI (F_X12_form a0 a1 a2 a3 h) 0 [(0, pR a0), (1, pI a1), (2, pI a2), (3, pI a3)] [] h := by
  unfold F_X12_form
  refine pg_iload_n (i := 2) dX12_form_0 rfl 2 rfl ?_
  refine pg_iconst dX12_form_1 ci_0 ?_
  refine pg_iconst dX12_form_2 ci_5 ?_
  refine pg_callS_oI (As := [pI a2, pI (0 : Int32), pI (5 : Int32)]) (rs := []) dX12_form_3 lk_RX12_113 vy_X12_lies nd_X12_lies (c_X12_lies l D a2 (0 : Int32) (5 : Int32) h) rfl rfl (Nat.le_of_ble_eq_true rfl) (by decide) (by decide) (fun v1 => ?_)
  refine pg_if_eq (tgt := 19) dX12_form_6 rfl ?_ ?_
  · exact pg_to (e_X12_form_19 l D a0 h) [0] rfl
  · refine pg_iload_n (i := 3) dX12_form_9 rfl 3 rfl ?_
    refine pg_iconst dX12_form_10 ci_0 ?_
    refine pg_bipush dX12_form_11 cb_99 ?_
    refine pg_callS_oI (As := [pI a3, pI (0 : Int32), pI (99 : Int32)]) (rs := []) dX12_form_13 lk_RX12_113 vy_X12_lies nd_X12_lies (c_X12_lies l D a3 (0 : Int32) (99 : Int32) h) rfl rfl (Nat.le_of_ble_eq_true rfl) (by decide) (by decide) (fun v2 => ?_)
    refine pg_if_ne (tgt := 25) dX12_form_16 rfl ?_ ?_
    · refine pg_aload_n (i := 0) dX12_form_25 rfl 0 rfl ?_
      refine pg_iload_n (i := 1) dX12_form_26 rfl 1 rfl ?_
      refine pg_callV_oI (As := [pI a1]) (rs := []) dX12_form_27 lk_RX12_140 vy_X12_isHand nd_X12_isHand (c_X12_isHand l D h a0 a1) rfl rfl (Nat.le_of_ble_eq_true rfl) (by decide) (by decide) (fun v3 => ?_)
      refine pg_if_ne (tgt := 40) dX12_form_30 rfl ?_ ?_
      · refine pg_aload_n (i := 0) dX12_form_40 rfl 0 rfl ?_
        refine pg_sipush dX12_form_41 cs_196 ?_
        refine pg_bipush dX12_form_44 cb_8 ?_
        refine pg_iload_n (i := 1) dX12_form_46 rfl 1 rfl ?_
        refine pg_imul dX12_form_47 ?_
        refine pg_iadd dX12_form_48 ?_
        refine pg_iconst dX12_form_49 ci_2 ?_
        refine pg_iadd dX12_form_50 ?_
        refine pg_iload_n (i := 2) dX12_form_51 rfl 2 rfl ?_
        refine pg_iadd dX12_form_52 ?_
        refine pg_iload_n (i := 3) dX12_form_53 rfl 3 rfl ?_
        refine pg_callV_wI (As := [pI ((((196 : Int32) + ((8 : Int32) * a1)) + (2 : Int32)) + a2), pI a3]) (rs := []) dX12_form_54 lk_RX12_132 vy_X12_replaces nd_X12_replaces (c_X12_replaces l D a0 ((((196 : Int32) + ((8 : Int32) * a1)) + (2 : Int32)) + a2) a3 h) rfl rfl (Nat.le_of_ble_eq_true rfl) (by decide) (by decide) (fun v4 => ?_)
        exact pg_iret dX12_form_57 rfl rfl
      · refine pg_aload_n (i := 0) dX12_form_33 rfl 0 rfl ?_
        refine pg_bipush dX12_form_34 cb_m2 ?_
        refine pg_callV_wI (As := [pI (-2 : Int32)]) (rs := []) dX12_form_36 lk_RX12_117 vy_X12_refuses nd_X12_refuses (c_X12_refuses l D a0 (-2 : Int32) h) rfl rfl (Nat.le_of_ble_eq_true rfl) (by decide) (by decide) (fun v5 => ?_)
        exact pg_iret dX12_form_39 rfl rfl
    · exact pg_to (e_X12_form_19 l D a0 h) [0] rfl
theorem c_X12_form (l : Launch) (D : pg_D) (a0 : Nat) (a1 : Int32) (a2 : Int32) (a3 : Int32) (h : pg_H) : ∀ x, F_X12_form a0 a1 a2 a3 h = some x → pg_Ct l D yX12_form cX12_form 4 (some FieldType.int) 2 44 [pR a0, pI a1, pI a2, pI a3] h (pg_wI x) :=
  pg_Ct.of pn_RX12 (Nat.le_of_ble_eq_true rfl) (e_X12_form l D a0 a1 a2 a3 h)
def F_X12_sample_47 (a0 : Nat) (h : pg_H) : Option (Int32 × pg_H) := Option.bind (pg_rcv 12 h a0 (F_X12_refuses a0 (-1 : Int32) h)) fun v1 => (some (v1.1, v1.2))
def F_X12_sample (a0 : Nat) (a1 : Int32) (a2 : Int32) (a3 : Int32) (h : pg_H) : Option (Int32 × pg_H) := Option.bind (F_X12_lies a1 (0 : Int32) (7 : Int32)) fun v1 => (if v1 = 0 then (F_X12_sample_47 a0 h) else Option.bind (F_X12_lies a2 (0 : Int32) (5 : Int32)) fun v2 => (if v2 = 0 then (F_X12_sample_47 a0 h) else Option.bind (F_X12_lies a3 (0 : Int32) (99 : Int32)) fun v3 => (if v3 = 0 then (F_X12_sample_47 a0 h) else Option.bind (pg_rcv 12 h a0 (F_X12_replaces a0 (((292 : Int32) + ((6 : Int32) * a1)) + a2) a3 h)) fun v4 => (some (v4.1, v4.2)))))
theorem e_X12_sample_47 (l : Launch) (D : pg_D)  (a0 : Nat) (h : pg_H) : pg_EvF l D RX12 cX12_sample 4 (some FieldType.int) "sample" 2 44 pg_wI (F_X12_sample_47 a0 h) 47 [(0, pR a0)] [] h := by
  unfold F_X12_sample_47
  refine pg_aload_n (i := 0) dX12_sample_47 rfl 0 rfl ?_
  refine pg_iconst dX12_sample_48 ci_m1 ?_
  refine pg_callV_wI (As := [pI (-1 : Int32)]) (rs := []) dX12_sample_49 lk_RX12_117 vy_X12_refuses nd_X12_refuses (c_X12_refuses l D a0 (-1 : Int32) h) rfl rfl (Nat.le_of_ble_eq_true rfl) (by decide) (by decide) (fun v1 => ?_)
  exact pg_iret dX12_sample_52 rfl rfl
theorem e_X12_sample (l : Launch) (D : pg_D)  (a0 : Nat) (a1 : Int32) (a2 : Int32) (a3 : Int32) (h : pg_H) : pg_EvF l D RX12 cX12_sample 4 (some FieldType.int) "sample" 2 44 pg_wI (F_X12_sample a0 a1 a2 a3 h) 0 [(0, pR a0), (1, pI a1), (2, pI a2), (3, pI a3)] [] h := by
  unfold F_X12_sample
  refine pg_iload_n (i := 1) dX12_sample_0 rfl 1 rfl ?_
  refine pg_iconst dX12_sample_1 ci_0 ?_
  refine pg_bipush dX12_sample_2 cb_7 ?_
  refine pg_callS_oI (As := [pI a1, pI (0 : Int32), pI (7 : Int32)]) (rs := []) dX12_sample_4 lk_RX12_113 vy_X12_lies nd_X12_lies (c_X12_lies l D a1 (0 : Int32) (7 : Int32) h) rfl rfl (Nat.le_of_ble_eq_true rfl) (by decide) (by decide) (fun v1 => ?_)
  refine pg_if_eq (tgt := 47) dX12_sample_7 rfl ?_ ?_
  · exact pg_to (e_X12_sample_47 l D a0 h) [0] rfl
  · refine pg_iload_n (i := 2) dX12_sample_10 rfl 2 rfl ?_
    refine pg_iconst dX12_sample_11 ci_0 ?_
    refine pg_iconst dX12_sample_12 ci_5 ?_
    refine pg_callS_oI (As := [pI a2, pI (0 : Int32), pI (5 : Int32)]) (rs := []) dX12_sample_13 lk_RX12_113 vy_X12_lies nd_X12_lies (c_X12_lies l D a2 (0 : Int32) (5 : Int32) h) rfl rfl (Nat.le_of_ble_eq_true rfl) (by decide) (by decide) (fun v2 => ?_)
    refine pg_if_eq (tgt := 47) dX12_sample_16 rfl ?_ ?_
    · exact pg_to (e_X12_sample_47 l D a0 h) [0] rfl
    · refine pg_iload_n (i := 3) dX12_sample_19 rfl 3 rfl ?_
      refine pg_iconst dX12_sample_20 ci_0 ?_
      refine pg_bipush dX12_sample_21 cb_99 ?_
      refine pg_callS_oI (As := [pI a3, pI (0 : Int32), pI (99 : Int32)]) (rs := []) dX12_sample_23 lk_RX12_113 vy_X12_lies nd_X12_lies (c_X12_lies l D a3 (0 : Int32) (99 : Int32) h) rfl rfl (Nat.le_of_ble_eq_true rfl) (by decide) (by decide) (fun v3 => ?_)
      refine pg_if_eq (tgt := 47) dX12_sample_26 rfl ?_ ?_
      · exact pg_to (e_X12_sample_47 l D a0 h) [0] rfl
      · refine pg_aload_n (i := 0) dX12_sample_29 rfl 0 rfl ?_
        refine pg_sipush dX12_sample_30 cs_292 ?_
        refine pg_bipush dX12_sample_33 cb_6 ?_
        refine pg_iload_n (i := 1) dX12_sample_35 rfl 1 rfl ?_
        refine pg_imul dX12_sample_36 ?_
        refine pg_iadd dX12_sample_37 ?_
        refine pg_iload_n (i := 2) dX12_sample_38 rfl 2 rfl ?_
        refine pg_iadd dX12_sample_39 ?_
        refine pg_iload_n (i := 3) dX12_sample_40 rfl 3 rfl ?_
        refine pg_callV_wI (As := [pI (((292 : Int32) + ((6 : Int32) * a1)) + a2), pI a3]) (rs := []) dX12_sample_41 lk_RX12_132 vy_X12_replaces nd_X12_replaces (c_X12_replaces l D a0 (((292 : Int32) + ((6 : Int32) * a1)) + a2) a3 h) rfl rfl (Nat.le_of_ble_eq_true rfl) (by decide) (by decide) (fun v4 => ?_)
        refine pg_goto (tgt := 52) dX12_sample_44 rfl ?_
        exact pg_iret dX12_sample_52 rfl rfl
theorem c_X12_sample (l : Launch) (D : pg_D) (a0 : Nat) (a1 : Int32) (a2 : Int32) (a3 : Int32) (h : pg_H) : ∀ x, F_X12_sample a0 a1 a2 a3 h = some x → pg_Ct l D yX12_sample cX12_sample 4 (some FieldType.int) 2 44 [pR a0, pI a1, pI a2, pI a3] h (pg_wI x) :=
  pg_Ct.of pn_RX12 (Nat.le_of_ble_eq_true rfl) (e_X12_sample l D a0 a1 a2 a3 h)
def F_X12_has_61 (h : pg_H) (k3 : Nat → Int32 → Int32 → Int32 → Int32 → Option Int32) (a0 : Nat) (a1 : Int32) (a2 : Int32) (a3 : Int32) (a4 : Int32) : Option Int32 := (k3 a0 a1 a2 a3 (a4 + (1 : Int32)))
def F_X12_has_3 (h : pg_H) : Nat → Nat → Int32 → Int32 → Int32 → Int32 → Option Int32
  | 0 => fun _ _ _ _ _ => none
  | n + 1 => fun a0 a1 a2 a3 a4 => Option.bind (pg_gR 12 3 h a0) fun v1 => Option.bind (pg_aI 21 h v1 (1347 : Int32)) fun v2 => (if a4 < v2 then Option.bind (pg_rcv 12 h a0 (F_X12_noteOf h a0 a4 (0 : Int32))) fun v3 => (if v3 = a1 then Option.bind (pg_rcv 12 h a0 (F_X12_noteOf h a0 a4 (1 : Int32))) fun v4 => (if v4 = a2 then Option.bind (pg_rcv 12 h a0 (F_X12_noteOf h a0 a4 (2 : Int32))) fun v5 => (if v5 = a3 then Option.bind (pg_rcv 12 h a0 (F_X12_noteOf h a0 a4 (4 : Int32))) fun v6 => (if v6 = 0 then (some (1 : Int32)) else (F_X12_has_61 h (F_X12_has_3 h n) a0 a1 a2 a3 a4)) else (F_X12_has_61 h (F_X12_has_3 h n) a0 a1 a2 a3 a4)) else (F_X12_has_61 h (F_X12_has_3 h n) a0 a1 a2 a3 a4)) else (F_X12_has_61 h (F_X12_has_3 h n) a0 a1 a2 a3 a4)) else (some (0 : Int32)))
def F_X12_has (h : pg_H) (a0 : Nat) (a1 : Int32) (a2 : Int32) (a3 : Int32) : Option Int32 := (F_X12_has_3 h pg_fuel a0 a1 a2 a3 (0 : Int32))
theorem e_X12_has_61 (l : Launch) (D : pg_D)  (h : pg_H) (k3 : Nat → Int32 → Int32 → Int32 → Int32 → Option Int32) (hk3 : ∀ (a0 : Nat) (a1 : Int32) (a2 : Int32) (a3 : Int32) (a4 : Int32), pg_EvF l D RX12 cX12_has 5 (some FieldType.boolean) "has" 1 22 (pg_oI h) (k3 a0 a1 a2 a3 a4) 3 [(0, pR a0), (1, pI a1), (2, pI a2), (3, pI a3), (4, pI a4)] [] h) (a0 : Nat) (a1 : Int32) (a2 : Int32) (a3 : Int32) (a4 : Int32) : pg_EvF l D RX12 cX12_has 5 (some FieldType.boolean) "has" 1 22 (pg_oI h) (F_X12_has_61 h k3 a0 a1 a2 a3 a4) 61 [(0, pR a0), (1, pI a1), (2, pI a2), (3, pI a3), (4, pI a4)] [] h := by
  unfold F_X12_has_61
  refine pg_iinc (lv' := [(4, pI (a4 + (1 : Int32))), (0, pR a0), (1, pI a1), (2, pI a2), (3, pI a3)]) dX12_has_61 4 rfl ci_1 (by decide) rfl ?_
  refine pg_goto (tgt := 3) dX12_has_64 rfl ?_
  exact pg_to (hk3 a0 a1 a2 a3 (a4 + (1 : Int32))) [1, 2, 3, 4, 0] rfl
theorem e_X12_has_3 (l : Launch) (D : pg_D)  (h : pg_H) : ∀ (n : Nat) (a0 : Nat) (a1 : Int32) (a2 : Int32) (a3 : Int32) (a4 : Int32), pg_EvF l D RX12 cX12_has 5 (some FieldType.boolean) "has" 1 22 (pg_oI h) (F_X12_has_3 h n a0 a1 a2 a3 a4) 3 [(0, pR a0), (1, pI a1), (2, pI a2), (3, pI a3), (4, pI a4)] [] h := by
  intro n
  induction n with
  | zero => intro a0 a1 a2 a3 a4; exact pg_none
  | succ n ih =>
    intro a0 a1 a2 a3 a4
    rw [F_X12_has_3]
    refine pg_iload dX12_has_3 4 rfl ?_
    refine pg_aload_n (i := 0) dX12_has_5 rfl 0 rfl ?_
    refine pg_getR dX12_has_6 fl_RX12_20 rfl (fun v1 => ?_)
    refine pg_sipush dX12_has_9 cs_1347 ?_
    refine pg_iaload dX12_has_12 (fun v2 => ?_)
    refine pg_icmp_ge (tgt := 67) dX12_has_13 rfl ?_ ?_
    · refine pg_iconst dX12_has_67 ci_0 ?_
      exact pg_zret dX12_has_68 rfl (Or.inl rfl) rfl
    · refine pg_aload_n (i := 0) dX12_has_16 rfl 0 rfl ?_
      refine pg_iload dX12_has_17 4 rfl ?_
      refine pg_iconst dX12_has_19 ci_0 ?_
      refine pg_callV_oI (As := [pI a4, pI (0 : Int32)]) (rs := []) dX12_has_20 lk_RX12_143 vy_X12_noteOf nd_X12_noteOf (c_X12_noteOf l D h a0 a4 (0 : Int32)) rfl rfl (Nat.le_of_ble_eq_true rfl) (by decide) (by decide) (fun v3 => ?_)
      refine pg_iload_n (i := 1) dX12_has_23 rfl 1 rfl ?_
      refine pg_icmp_ne (tgt := 61) dX12_has_24 rfl ?_ ?_
      · exact pg_to (e_X12_has_61 l D h (F_X12_has_3 h n) ih a0 a1 a2 a3 a4) [0, 1, 2, 3, 4] rfl
      · refine pg_aload_n (i := 0) dX12_has_27 rfl 0 rfl ?_
        refine pg_iload dX12_has_28 4 rfl ?_
        refine pg_iconst dX12_has_30 ci_1 ?_
        refine pg_callV_oI (As := [pI a4, pI (1 : Int32)]) (rs := []) dX12_has_31 lk_RX12_143 vy_X12_noteOf nd_X12_noteOf (c_X12_noteOf l D h a0 a4 (1 : Int32)) rfl rfl (Nat.le_of_ble_eq_true rfl) (by decide) (by decide) (fun v4 => ?_)
        refine pg_iload_n (i := 2) dX12_has_34 rfl 2 rfl ?_
        refine pg_icmp_ne (tgt := 61) dX12_has_35 rfl ?_ ?_
        · exact pg_to (e_X12_has_61 l D h (F_X12_has_3 h n) ih a0 a1 a2 a3 a4) [0, 1, 2, 3, 4] rfl
        · refine pg_aload_n (i := 0) dX12_has_38 rfl 0 rfl ?_
          refine pg_iload dX12_has_39 4 rfl ?_
          refine pg_iconst dX12_has_41 ci_2 ?_
          refine pg_callV_oI (As := [pI a4, pI (2 : Int32)]) (rs := []) dX12_has_42 lk_RX12_143 vy_X12_noteOf nd_X12_noteOf (c_X12_noteOf l D h a0 a4 (2 : Int32)) rfl rfl (Nat.le_of_ble_eq_true rfl) (by decide) (by decide) (fun v5 => ?_)
          refine pg_iload_n (i := 3) dX12_has_45 rfl 3 rfl ?_
          refine pg_icmp_ne (tgt := 61) dX12_has_46 rfl ?_ ?_
          · exact pg_to (e_X12_has_61 l D h (F_X12_has_3 h n) ih a0 a1 a2 a3 a4) [0, 1, 2, 3, 4] rfl
          · refine pg_aload_n (i := 0) dX12_has_49 rfl 0 rfl ?_
            refine pg_iload dX12_has_50 4 rfl ?_
            refine pg_iconst dX12_has_52 ci_4 ?_
            refine pg_callV_oI (As := [pI a4, pI (4 : Int32)]) (rs := []) dX12_has_53 lk_RX12_143 vy_X12_noteOf nd_X12_noteOf (c_X12_noteOf l D h a0 a4 (4 : Int32)) rfl rfl (Nat.le_of_ble_eq_true rfl) (by decide) (by decide) (fun v6 => ?_)
            refine pg_if_ne (tgt := 61) dX12_has_56 rfl ?_ ?_
            · exact pg_to (e_X12_has_61 l D h (F_X12_has_3 h n) ih a0 a1 a2 a3 a4) [0, 1, 2, 3, 4] rfl
            · refine pg_iconst dX12_has_59 ci_1 ?_
              exact pg_zret dX12_has_60 rfl (Or.inr rfl) rfl
theorem e_X12_has (l : Launch) (D : pg_D)  (h : pg_H) (a0 : Nat) (a1 : Int32) (a2 : Int32) (a3 : Int32) : pg_EvF l D RX12 cX12_has 5 (some FieldType.boolean) "has" 1 22 (pg_oI h) (F_X12_has h a0 a1 a2 a3) 0 [(0, pR a0), (1, pI a1), (2, pI a2), (3, pI a3)] [] h := by
  unfold F_X12_has
  refine pg_iconst dX12_has_0 ci_0 ?_
  refine pg_istore (lv' := [(4, pI (0 : Int32)), (0, pR a0), (1, pI a1), (2, pI a2), (3, pI a3)]) dX12_has_1 (by decide) rfl ?_
  exact pg_to (e_X12_has_3 l D h pg_fuel a0 a1 a2 a3 (0 : Int32)) [1, 2, 3, 4, 0] rfl
theorem c_X12_has (l : Launch) (D : pg_D) (h : pg_H) (a0 : Nat) (a1 : Int32) (a2 : Int32) (a3 : Int32)  : ∀ x, F_X12_has h a0 a1 a2 a3 = some x → pg_Ct l D yX12_has cX12_has 5 (some FieldType.boolean) 1 22 [pR a0, pI a1, pI a2, pI a3] h (pg_oI h x) :=
  pg_Ct.of pn_RX12 (Nat.le_of_ble_eq_true rfl) (e_X12_has l D h a0 a1 a2 a3)
def F_X12_hasKind_51 (h : pg_H) (k3 : Nat → Int32 → Int32 → Int32 → Int32 → Option Int32) (a0 : Nat) (a1 : Int32) (a2 : Int32) (a3 : Int32) (a4 : Int32) : Option Int32 := (k3 a0 a1 a2 a3 (a4 + (1 : Int32)))
def F_X12_hasKind_3 (h : pg_H) : Nat → Nat → Int32 → Int32 → Int32 → Int32 → Option Int32
  | 0 => fun _ _ _ _ _ => none
  | n + 1 => fun a0 a1 a2 a3 a4 => Option.bind (pg_gR 12 3 h a0) fun v1 => Option.bind (pg_aI 21 h v1 (1347 : Int32)) fun v2 => (if a4 < v2 then Option.bind (pg_rcv 12 h a0 (F_X12_noteOf h a0 a4 (0 : Int32))) fun v3 => (if v3 = a1 then Option.bind (pg_rcv 12 h a0 (F_X12_noteOf h a0 a4 (1 : Int32))) fun v4 => (if v4 = a2 then Option.bind (pg_rcv 12 h a0 (F_X12_noteOf h a0 a4 (4 : Int32))) fun v5 => (if v5 = a3 then (some (1 : Int32)) else (F_X12_hasKind_51 h (F_X12_hasKind_3 h n) a0 a1 a2 a3 a4)) else (F_X12_hasKind_51 h (F_X12_hasKind_3 h n) a0 a1 a2 a3 a4)) else (F_X12_hasKind_51 h (F_X12_hasKind_3 h n) a0 a1 a2 a3 a4)) else (some (0 : Int32)))
def F_X12_hasKind (h : pg_H) (a0 : Nat) (a1 : Int32) (a2 : Int32) (a3 : Int32) : Option Int32 := (F_X12_hasKind_3 h pg_fuel a0 a1 a2 a3 (0 : Int32))
theorem e_X12_hasKind_51 (l : Launch) (D : pg_D)  (h : pg_H) (k3 : Nat → Int32 → Int32 → Int32 → Int32 → Option Int32) (hk3 : ∀ (a0 : Nat) (a1 : Int32) (a2 : Int32) (a3 : Int32) (a4 : Int32), pg_EvF l D RX12 cX12_hasKind 5 (some FieldType.boolean) "hasKind" 1 22 (pg_oI h) (k3 a0 a1 a2 a3 a4) 3 [(0, pR a0), (1, pI a1), (2, pI a2), (3, pI a3), (4, pI a4)] [] h) (a0 : Nat) (a1 : Int32) (a2 : Int32) (a3 : Int32) (a4 : Int32) : pg_EvF l D RX12 cX12_hasKind 5 (some FieldType.boolean) "hasKind" 1 22 (pg_oI h) (F_X12_hasKind_51 h k3 a0 a1 a2 a3 a4) 51 [(0, pR a0), (1, pI a1), (2, pI a2), (3, pI a3), (4, pI a4)] [] h := by
  unfold F_X12_hasKind_51
  refine pg_iinc (lv' := [(4, pI (a4 + (1 : Int32))), (0, pR a0), (1, pI a1), (2, pI a2), (3, pI a3)]) dX12_hasKind_51 4 rfl ci_1 (by decide) rfl ?_
  refine pg_goto (tgt := 3) dX12_hasKind_54 rfl ?_
  exact pg_to (hk3 a0 a1 a2 a3 (a4 + (1 : Int32))) [1, 2, 3, 4, 0] rfl
theorem e_X12_hasKind_3 (l : Launch) (D : pg_D)  (h : pg_H) : ∀ (n : Nat) (a0 : Nat) (a1 : Int32) (a2 : Int32) (a3 : Int32) (a4 : Int32), pg_EvF l D RX12 cX12_hasKind 5 (some FieldType.boolean) "hasKind" 1 22 (pg_oI h) (F_X12_hasKind_3 h n a0 a1 a2 a3 a4) 3 [(0, pR a0), (1, pI a1), (2, pI a2), (3, pI a3), (4, pI a4)] [] h := by
  intro n
  induction n with
  | zero => intro a0 a1 a2 a3 a4; exact pg_none
  | succ n ih =>
    intro a0 a1 a2 a3 a4
    rw [F_X12_hasKind_3]
    refine pg_iload dX12_hasKind_3 4 rfl ?_
    refine pg_aload_n (i := 0) dX12_hasKind_5 rfl 0 rfl ?_
    refine pg_getR dX12_hasKind_6 fl_RX12_20 rfl (fun v1 => ?_)
    refine pg_sipush dX12_hasKind_9 cs_1347 ?_
    refine pg_iaload dX12_hasKind_12 (fun v2 => ?_)
    refine pg_icmp_ge (tgt := 57) dX12_hasKind_13 rfl ?_ ?_
    · refine pg_iconst dX12_hasKind_57 ci_0 ?_
      exact pg_zret dX12_hasKind_58 rfl (Or.inl rfl) rfl
    · refine pg_aload_n (i := 0) dX12_hasKind_16 rfl 0 rfl ?_
      refine pg_iload dX12_hasKind_17 4 rfl ?_
      refine pg_iconst dX12_hasKind_19 ci_0 ?_
      refine pg_callV_oI (As := [pI a4, pI (0 : Int32)]) (rs := []) dX12_hasKind_20 lk_RX12_143 vy_X12_noteOf nd_X12_noteOf (c_X12_noteOf l D h a0 a4 (0 : Int32)) rfl rfl (Nat.le_of_ble_eq_true rfl) (by decide) (by decide) (fun v3 => ?_)
      refine pg_iload_n (i := 1) dX12_hasKind_23 rfl 1 rfl ?_
      refine pg_icmp_ne (tgt := 51) dX12_hasKind_24 rfl ?_ ?_
      · exact pg_to (e_X12_hasKind_51 l D h (F_X12_hasKind_3 h n) ih a0 a1 a2 a3 a4) [0, 1, 2, 3, 4] rfl
      · refine pg_aload_n (i := 0) dX12_hasKind_27 rfl 0 rfl ?_
        refine pg_iload dX12_hasKind_28 4 rfl ?_
        refine pg_iconst dX12_hasKind_30 ci_1 ?_
        refine pg_callV_oI (As := [pI a4, pI (1 : Int32)]) (rs := []) dX12_hasKind_31 lk_RX12_143 vy_X12_noteOf nd_X12_noteOf (c_X12_noteOf l D h a0 a4 (1 : Int32)) rfl rfl (Nat.le_of_ble_eq_true rfl) (by decide) (by decide) (fun v4 => ?_)
        refine pg_iload_n (i := 2) dX12_hasKind_34 rfl 2 rfl ?_
        refine pg_icmp_ne (tgt := 51) dX12_hasKind_35 rfl ?_ ?_
        · exact pg_to (e_X12_hasKind_51 l D h (F_X12_hasKind_3 h n) ih a0 a1 a2 a3 a4) [0, 1, 2, 3, 4] rfl
        · refine pg_aload_n (i := 0) dX12_hasKind_38 rfl 0 rfl ?_
          refine pg_iload dX12_hasKind_39 4 rfl ?_
          refine pg_iconst dX12_hasKind_41 ci_4 ?_
          refine pg_callV_oI (As := [pI a4, pI (4 : Int32)]) (rs := []) dX12_hasKind_42 lk_RX12_143 vy_X12_noteOf nd_X12_noteOf (c_X12_noteOf l D h a0 a4 (4 : Int32)) rfl rfl (Nat.le_of_ble_eq_true rfl) (by decide) (by decide) (fun v5 => ?_)
          refine pg_iload_n (i := 3) dX12_hasKind_45 rfl 3 rfl ?_
          refine pg_icmp_ne (tgt := 51) dX12_hasKind_46 rfl ?_ ?_
          · exact pg_to (e_X12_hasKind_51 l D h (F_X12_hasKind_3 h n) ih a0 a1 a2 a3 a4) [0, 1, 2, 3, 4] rfl
          · refine pg_iconst dX12_hasKind_49 ci_1 ?_
            exact pg_zret dX12_hasKind_50 rfl (Or.inr rfl) rfl
theorem e_X12_hasKind (l : Launch) (D : pg_D)  (h : pg_H) (a0 : Nat) (a1 : Int32) (a2 : Int32) (a3 : Int32) : pg_EvF l D RX12 cX12_hasKind 5 (some FieldType.boolean) "hasKind" 1 22 (pg_oI h) (F_X12_hasKind h a0 a1 a2 a3) 0 [(0, pR a0), (1, pI a1), (2, pI a2), (3, pI a3)] [] h := by
  unfold F_X12_hasKind
  refine pg_iconst dX12_hasKind_0 ci_0 ?_
  refine pg_istore (lv' := [(4, pI (0 : Int32)), (0, pR a0), (1, pI a1), (2, pI a2), (3, pI a3)]) dX12_hasKind_1 (by decide) rfl ?_
  exact pg_to (e_X12_hasKind_3 l D h pg_fuel a0 a1 a2 a3 (0 : Int32)) [1, 2, 3, 4, 0] rfl
theorem c_X12_hasKind (l : Launch) (D : pg_D) (h : pg_H) (a0 : Nat) (a1 : Int32) (a2 : Int32) (a3 : Int32)  : ∀ x, F_X12_hasKind h a0 a1 a2 a3 = some x → pg_Ct l D yX12_hasKind cX12_hasKind 5 (some FieldType.boolean) 1 22 [pR a0, pI a1, pI a2, pI a3] h (pg_oI h x) :=
  pg_Ct.of pn_RX12 (Nat.le_of_ble_eq_true rfl) (e_X12_hasKind l D h a0 a1 a2 a3)
def F_X12_hasIt (h : pg_H) (a0 : Nat) (a1 : Int32) (a2 : Int32) (a3 : Int32) (a4 : Int32) : Option Int32 := (if a4 = 0 then Option.bind (pg_rcv 12 h a0 (F_X12_has h a0 a1 a2 a3)) fun v2 => (if v2 = 0 ∨ v2 = 1 then some v2 else none) else Option.bind (pg_rcv 12 h a0 (F_X12_hasKind h a0 a1 a2 a4)) fun v1 => (if v1 = 0 ∨ v1 = 1 then some v1 else none))
theorem e_X12_hasIt (l : Launch) (D : pg_D)  (h : pg_H) (a0 : Nat) (a1 : Int32) (a2 : Int32) (a3 : Int32) (a4 : Int32) : pg_EvF l D RX12 cX12_hasIt 5 (some FieldType.boolean) "hasIt" 2 46 (pg_oI h) (F_X12_hasIt h a0 a1 a2 a3 a4) 0 [(0, pR a0), (1, pI a1), (2, pI a2), (3, pI a3), (4, pI a4)] [] h := by
  unfold F_X12_hasIt
  refine pg_iload dX12_hasIt_0 4 rfl ?_
  refine pg_if_ne (tgt := 15) dX12_hasIt_2 rfl ?_ ?_
  · refine pg_aload_n (i := 0) dX12_hasIt_15 rfl 0 rfl ?_
    refine pg_iload_n (i := 1) dX12_hasIt_16 rfl 1 rfl ?_
    refine pg_iload_n (i := 2) dX12_hasIt_17 rfl 2 rfl ?_
    refine pg_iload dX12_hasIt_18 4 rfl ?_
    refine pg_callV_oI (As := [pI a1, pI a2, pI a4]) (rs := []) dX12_hasIt_20 lk_RX12_149 vy_X12_hasKind nd_X12_hasKind (c_X12_hasKind l D h a0 a1 a2 a4) rfl rfl (Nat.le_of_ble_eq_true rfl) (by decide) (by decide) (fun v1 => ?_)
    exact pg_zretq dX12_hasIt_23 rfl rfl
  · refine pg_aload_n (i := 0) dX12_hasIt_5 rfl 0 rfl ?_
    refine pg_iload_n (i := 1) dX12_hasIt_6 rfl 1 rfl ?_
    refine pg_iload_n (i := 2) dX12_hasIt_7 rfl 2 rfl ?_
    refine pg_iload_n (i := 3) dX12_hasIt_8 rfl 3 rfl ?_
    refine pg_callV_oI (As := [pI a1, pI a2, pI a3]) (rs := []) dX12_hasIt_9 lk_RX12_146 vy_X12_has nd_X12_has (c_X12_has l D h a0 a1 a2 a3) rfl rfl (Nat.le_of_ble_eq_true rfl) (by decide) (by decide) (fun v2 => ?_)
    refine pg_goto (tgt := 23) dX12_hasIt_12 rfl ?_
    exact pg_zretq dX12_hasIt_23 rfl rfl
theorem c_X12_hasIt (l : Launch) (D : pg_D) (h : pg_H) (a0 : Nat) (a1 : Int32) (a2 : Int32) (a3 : Int32) (a4 : Int32)  : ∀ x, F_X12_hasIt h a0 a1 a2 a3 a4 = some x → pg_Ct l D yX12_hasIt cX12_hasIt 5 (some FieldType.boolean) 2 46 [pR a0, pI a1, pI a2, pI a3, pI a4] h (pg_oI h x) :=
  pg_Ct.of pn_RX12 (Nat.le_of_ble_eq_true rfl) (e_X12_hasIt l D h a0 a1 a2 a3 a4)
def F_X12_notes (a0 : Nat) (a1 : Int32) (a2 : Int32) (a3 : Int32) (a4 : Int32) (a5 : Int32) (h : pg_H) : Option pg_H := Option.bind (pg_gR 12 3 h a0) fun v1 => Option.bind (pg_aI 21 h v1 (1347 : Int32)) fun v2 => pg_let ((340 : Int32) + ((5 : Int32) * v2)) fun v3 => Option.bind (pg_gR 12 3 h a0) fun v4 => Option.bind (pg_sI 21 h v4 v3 a1) fun v5 => Option.bind (pg_gR 12 3 v5 a0) fun v6 => Option.bind (pg_sI 21 v5 v6 (v3 + (1 : Int32)) a2) fun v7 => Option.bind (pg_gR 12 3 v7 a0) fun v8 => Option.bind (pg_sI 21 v7 v8 (v3 + (2 : Int32)) a3) fun v9 => Option.bind (pg_gR 12 3 v9 a0) fun v10 => Option.bind (pg_sI 21 v9 v10 (v3 + (3 : Int32)) a4) fun v11 => Option.bind (pg_gR 12 3 v11 a0) fun v12 => Option.bind (pg_sI 21 v11 v12 (v3 + (4 : Int32)) a5) fun v13 => Option.bind (pg_gR 12 3 v13 a0) fun v14 => Option.bind (pg_aI 21 v13 v14 (1347 : Int32)) fun v15 => Option.bind (pg_sI 21 v13 v14 (1347 : Int32) (v15 + (1 : Int32))) fun v16 => (some v16)
theorem e_X12_notes (l : Launch) (D : pg_D)  (a0 : Nat) (a1 : Int32) (a2 : Int32) (a3 : Int32) (a4 : Int32) (a5 : Int32) (h : pg_H) : pg_EvF l D RX12 cX12_notes 7 none "notes" 0 0 pg_wV (F_X12_notes a0 a1 a2 a3 a4 a5 h) 0 [(0, pR a0), (1, pI a1), (2, pI a2), (3, pI a3), (4, pI a4), (5, pI a5)] [] h := by
  unfold F_X12_notes
  refine pg_sipush dX12_notes_0 cs_340 ?_
  refine pg_iconst dX12_notes_3 ci_5 ?_
  refine pg_aload_n (i := 0) dX12_notes_4 rfl 0 rfl ?_
  refine pg_getR dX12_notes_5 fl_RX12_20 rfl (fun v1 => ?_)
  refine pg_sipush dX12_notes_8 cs_1347 ?_
  refine pg_iaload dX12_notes_11 (fun v2 => ?_)
  refine pg_imul dX12_notes_12 ?_
  refine pg_iadd dX12_notes_13 ?_
  refine pg_letI (fun v3 => ?_)
  refine pg_istore (lv' := [(6, pI v3), (0, pR a0), (1, pI a1), (2, pI a2), (3, pI a3), (4, pI a4), (5, pI a5)]) dX12_notes_14 (by decide) rfl ?_
  refine pg_aload_n (i := 0) dX12_notes_16 rfl 1 rfl ?_
  refine pg_getR dX12_notes_17 fl_RX12_20 rfl (fun v4 => ?_)
  refine pg_iload dX12_notes_20 0 rfl ?_
  refine pg_iload_n (i := 1) dX12_notes_22 rfl 2 rfl ?_
  refine pg_iastore dX12_notes_23 (fun v5 => ?_)
  refine pg_aload_n (i := 0) dX12_notes_24 rfl 1 rfl ?_
  refine pg_getR dX12_notes_25 fl_RX12_20 rfl (fun v6 => ?_)
  refine pg_iload dX12_notes_28 0 rfl ?_
  refine pg_iconst dX12_notes_30 ci_1 ?_
  refine pg_iadd dX12_notes_31 ?_
  refine pg_iload_n (i := 2) dX12_notes_32 rfl 3 rfl ?_
  refine pg_iastore dX12_notes_33 (fun v7 => ?_)
  refine pg_aload_n (i := 0) dX12_notes_34 rfl 1 rfl ?_
  refine pg_getR dX12_notes_35 fl_RX12_20 rfl (fun v8 => ?_)
  refine pg_iload dX12_notes_38 0 rfl ?_
  refine pg_iconst dX12_notes_40 ci_2 ?_
  refine pg_iadd dX12_notes_41 ?_
  refine pg_iload_n (i := 3) dX12_notes_42 rfl 4 rfl ?_
  refine pg_iastore dX12_notes_43 (fun v9 => ?_)
  refine pg_aload_n (i := 0) dX12_notes_44 rfl 1 rfl ?_
  refine pg_getR dX12_notes_45 fl_RX12_20 rfl (fun v10 => ?_)
  refine pg_iload dX12_notes_48 0 rfl ?_
  refine pg_iconst dX12_notes_50 ci_3 ?_
  refine pg_iadd dX12_notes_51 ?_
  refine pg_iload dX12_notes_52 5 rfl ?_
  refine pg_iastore dX12_notes_54 (fun v11 => ?_)
  refine pg_aload_n (i := 0) dX12_notes_55 rfl 1 rfl ?_
  refine pg_getR dX12_notes_56 fl_RX12_20 rfl (fun v12 => ?_)
  refine pg_iload dX12_notes_59 0 rfl ?_
  refine pg_iconst dX12_notes_61 ci_4 ?_
  refine pg_iadd dX12_notes_62 ?_
  refine pg_iload dX12_notes_63 6 rfl ?_
  refine pg_iastore dX12_notes_65 (fun v13 => ?_)
  refine pg_aload_n (i := 0) dX12_notes_66 rfl 1 rfl ?_
  refine pg_getR dX12_notes_67 fl_RX12_20 rfl (fun v14 => ?_)
  refine pg_sipush dX12_notes_70 cs_1347 ?_
  refine pg_dup2 dX12_notes_73 rfl rfl ?_
  refine pg_iaload dX12_notes_74 (fun v15 => ?_)
  refine pg_iconst dX12_notes_75 ci_1 ?_
  refine pg_iadd dX12_notes_76 ?_
  refine pg_iastore dX12_notes_77 (fun v16 => ?_)
  exact pg_vret dX12_notes_78 rfl rfl
theorem c_X12_notes (l : Launch) (D : pg_D) (a0 : Nat) (a1 : Int32) (a2 : Int32) (a3 : Int32) (a4 : Int32) (a5 : Int32) (h : pg_H) : ∀ x, F_X12_notes a0 a1 a2 a3 a4 a5 h = some x → pg_Ct l D yX12_notes cX12_notes 7 none 0 0 [pR a0, pI a1, pI a2, pI a3, pI a4, pI a5] h (pg_wV x) :=
  pg_Ct.of pn_RX12 (Nat.le_of_ble_eq_true rfl) (e_X12_notes l D a0 a1 a2 a3 a4 a5 h)
def F_X12_note_39 (a0 : Nat) (h : pg_H) : Option (Int32 × pg_H) := Option.bind (pg_rcv 12 h a0 (F_X12_refuses a0 (-1 : Int32) h)) fun v1 => (some (v1.1, v1.2))
def F_X12_note_68 (a0 : Nat) (h : pg_H) : Option (Int32 × pg_H) := Option.bind (pg_rcv 12 h a0 (F_X12_refuses a0 (-2 : Int32) h)) fun v1 => (some (v1.1, v1.2))
def F_X12_note_75 (a0 : Nat) (a1 : Int32) (a2 : Int32) (a3 : Int32) (a4 : Int32) (a5 : Int32) (h : pg_H) : Option (Int32 × pg_H) := Option.bind (pg_rcv 12 h a0 (F_X12_hasIt h a0 a1 a2 a3 a5)) fun v1 => (if v1 = 0 then Option.bind (pg_gR 12 3 h a0) fun v2 => Option.bind (pg_aI 21 h v2 (1347 : Int32)) fun v3 => (if v3 = (200 : Int32) then Option.bind (pg_rcv 12 h a0 (F_X12_refuses a0 (-5 : Int32) h)) fun v8 => (some (v8.1, v8.2)) else Option.bind (pg_rcv 12 h a0 (F_X12_notes a0 a1 a2 a3 a4 a5 h)) fun v4 => Option.bind (pg_gR 12 3 v4 a0) fun v5 => Option.bind (pg_aI 21 v4 v5 (1347 : Int32)) fun v6 => Option.bind (pg_rcv 12 v4 a0 (F_X12_good a0 (v6 - (1 : Int32)) v4)) fun v7 => (some (v7.1, v7.2))) else Option.bind (pg_rcv 12 h a0 (F_X12_refuses a0 (-3 : Int32) h)) fun v9 => (some (v9.1, v9.2)))
def F_X12_note_45 (a0 : Nat) (a1 : Int32) (a2 : Int32) (a3 : Int32) (a4 : Int32) (a5 : Int32) (h : pg_H) : Option (Int32 × pg_H) := Option.bind (pg_rcv 12 h a0 (F_X12_isCopy h a0 a1)) fun v1 => (if v1 = 0 then (F_X12_note_68 a0 h) else (if a4 = (-1 : Int32) then (F_X12_note_75 a0 a1 a2 a3 a4 a5 h) else Option.bind (pg_rcv 12 h a0 (F_X12_isHand h a0 a4)) fun v2 => (if v2 = 0 then (F_X12_note_68 a0 h) else (F_X12_note_75 a0 a1 a2 a3 a4 a5 h))))
def F_X12_note (a0 : Nat) (a1 : Int32) (a2 : Int32) (a3 : Int32) (a4 : Int32) (a5 : Int32) (h : pg_H) : Option (Int32 × pg_H) := Option.bind (F_X12_lies a2 (0 : Int32) (59 : Int32)) fun v1 => (if v1 = 0 then (F_X12_note_39 a0 h) else Option.bind (F_X12_lies a3 (0 : Int32) (99 : Int32)) fun v2 => (if v2 = 0 then (F_X12_note_39 a0 h) else Option.bind (F_X12_lies a5 (0 : Int32) (3 : Int32)) fun v3 => (if v3 = 0 then (F_X12_note_39 a0 h) else (if a5 = 0 then (F_X12_note_45 a0 a1 a2 a3 a4 a5 h) else (if a3 = 0 then (F_X12_note_45 a0 a1 a2 a3 a4 a5 h) else (F_X12_note_39 a0 h))))))
theorem e_X12_note_39 (l : Launch) (D : pg_D)  (a0 : Nat) (h : pg_H) : pg_EvF l D RX12 cX12_note 6 (some FieldType.int) "note" 3 70 pg_wI (F_X12_note_39 a0 h) 39 [(0, pR a0)] [] h := by
  unfold F_X12_note_39
  refine pg_aload_n (i := 0) dX12_note_39 rfl 0 rfl ?_
  refine pg_iconst dX12_note_40 ci_m1 ?_
  refine pg_callV_wI (As := [pI (-1 : Int32)]) (rs := []) dX12_note_41 lk_RX12_117 vy_X12_refuses nd_X12_refuses (c_X12_refuses l D a0 (-1 : Int32) h) rfl rfl (Nat.le_of_ble_eq_true rfl) (by decide) (by decide) (fun v1 => ?_)
  exact pg_iret dX12_note_44 rfl rfl
theorem e_X12_note_68 (l : Launch) (D : pg_D)  (a0 : Nat) (h : pg_H) : pg_EvF l D RX12 cX12_note 6 (some FieldType.int) "note" 3 70 pg_wI (F_X12_note_68 a0 h) 68 [(0, pR a0)] [] h := by
  unfold F_X12_note_68
  refine pg_aload_n (i := 0) dX12_note_68 rfl 0 rfl ?_
  refine pg_bipush dX12_note_69 cb_m2 ?_
  refine pg_callV_wI (As := [pI (-2 : Int32)]) (rs := []) dX12_note_71 lk_RX12_117 vy_X12_refuses nd_X12_refuses (c_X12_refuses l D a0 (-2 : Int32) h) rfl rfl (Nat.le_of_ble_eq_true rfl) (by decide) (by decide) (fun v1 => ?_)
  exact pg_iret dX12_note_74 rfl rfl
theorem e_X12_note_75 (l : Launch) (D : pg_D)  (a0 : Nat) (a1 : Int32) (a2 : Int32) (a3 : Int32) (a4 : Int32) (a5 : Int32) (h : pg_H) : pg_EvF l D RX12 cX12_note 6 (some FieldType.int) "note" 3 70 pg_wI (F_X12_note_75 a0 a1 a2 a3 a4 a5 h) 75 [(0, pR a0), (1, pI a1), (2, pI a2), (3, pI a3), (4, pI a4), (5, pI a5)] [] h := by
  unfold F_X12_note_75
  refine pg_aload_n (i := 0) dX12_note_75 rfl 0 rfl ?_
  refine pg_iload_n (i := 1) dX12_note_76 rfl 1 rfl ?_
  refine pg_iload_n (i := 2) dX12_note_77 rfl 2 rfl ?_
  refine pg_iload_n (i := 3) dX12_note_78 rfl 3 rfl ?_
  refine pg_iload dX12_note_79 5 rfl ?_
  refine pg_callV_oI (As := [pI a1, pI a2, pI a3, pI a5]) (rs := []) dX12_note_81 lk_RX12_152 vy_X12_hasIt nd_X12_hasIt (c_X12_hasIt l D h a0 a1 a2 a3 a5) rfl rfl (Nat.le_of_ble_eq_true rfl) (by decide) (by decide) (fun v1 => ?_)
  refine pg_if_eq (tgt := 94) dX12_note_84 rfl ?_ ?_
  · refine pg_aload_n (i := 0) dX12_note_94 rfl 0 rfl ?_
    refine pg_getR dX12_note_95 fl_RX12_20 rfl (fun v2 => ?_)
    refine pg_sipush dX12_note_98 cs_1347 ?_
    refine pg_iaload dX12_note_101 (fun v3 => ?_)
    refine pg_sipush dX12_note_102 cs_200 ?_
    refine pg_icmp_ne (tgt := 115) dX12_note_105 rfl ?_ ?_
    · refine pg_aload_n (i := 0) dX12_note_115 rfl 0 rfl ?_
      refine pg_iload_n (i := 1) dX12_note_116 rfl 1 rfl ?_
      refine pg_iload_n (i := 2) dX12_note_117 rfl 2 rfl ?_
      refine pg_iload_n (i := 3) dX12_note_118 rfl 3 rfl ?_
      refine pg_iload dX12_note_119 4 rfl ?_
      refine pg_iload dX12_note_121 5 rfl ?_
      refine pg_callV_wV (As := [pI a1, pI a2, pI a3, pI a4, pI a5]) (rs := []) dX12_note_123 lk_RX12_156 vy_X12_notes nd_X12_notes (c_X12_notes l D a0 a1 a2 a3 a4 a5 h) rfl rfl (Nat.le_of_ble_eq_true rfl) (by decide) (by decide) (fun v4 => ?_)
      refine pg_aload_n (i := 0) dX12_note_126 rfl 0 rfl ?_
      refine pg_aload_n (i := 0) dX12_note_127 rfl 0 rfl ?_
      refine pg_getR dX12_note_128 fl_RX12_20 rfl (fun v5 => ?_)
      refine pg_sipush dX12_note_131 cs_1347 ?_
      refine pg_iaload dX12_note_134 (fun v6 => ?_)
      refine pg_iconst dX12_note_135 ci_1 ?_
      refine pg_isub dX12_note_136 ?_
      refine pg_callV_wI (As := [pI (v6 - (1 : Int32))]) (rs := []) dX12_note_137 lk_RX12_121 vy_X12_good nd_X12_good (c_X12_good l D a0 (v6 - (1 : Int32)) v4) rfl rfl (Nat.le_of_ble_eq_true rfl) (by decide) (by decide) (fun v7 => ?_)
      exact pg_iret dX12_note_140 rfl rfl
    · refine pg_aload_n (i := 0) dX12_note_108 rfl 0 rfl ?_
      refine pg_bipush dX12_note_109 cb_m5 ?_
      refine pg_callV_wI (As := [pI (-5 : Int32)]) (rs := []) dX12_note_111 lk_RX12_117 vy_X12_refuses nd_X12_refuses (c_X12_refuses l D a0 (-5 : Int32) h) rfl rfl (Nat.le_of_ble_eq_true rfl) (by decide) (by decide) (fun v8 => ?_)
      exact pg_iret dX12_note_114 rfl rfl
  · refine pg_aload_n (i := 0) dX12_note_87 rfl 0 rfl ?_
    refine pg_bipush dX12_note_88 cb_m3 ?_
    refine pg_callV_wI (As := [pI (-3 : Int32)]) (rs := []) dX12_note_90 lk_RX12_117 vy_X12_refuses nd_X12_refuses (c_X12_refuses l D a0 (-3 : Int32) h) rfl rfl (Nat.le_of_ble_eq_true rfl) (by decide) (by decide) (fun v9 => ?_)
    exact pg_iret dX12_note_93 rfl rfl
theorem e_X12_note_45 (l : Launch) (D : pg_D)  (a0 : Nat) (a1 : Int32) (a2 : Int32) (a3 : Int32) (a4 : Int32) (a5 : Int32) (h : pg_H) : pg_EvF l D RX12 cX12_note 6 (some FieldType.int) "note" 3 70 pg_wI (F_X12_note_45 a0 a1 a2 a3 a4 a5 h) 45 [(0, pR a0), (1, pI a1), (2, pI a2), (3, pI a3), (4, pI a4), (5, pI a5)] [] h := by
  unfold F_X12_note_45
  refine pg_aload_n (i := 0) dX12_note_45 rfl 0 rfl ?_
  refine pg_iload_n (i := 1) dX12_note_46 rfl 1 rfl ?_
  refine pg_callV_oI (As := [pI a1]) (rs := []) dX12_note_47 lk_RX12_128 vy_X12_isCopy nd_X12_isCopy (c_X12_isCopy l D h a0 a1) rfl rfl (Nat.le_of_ble_eq_true rfl) (by decide) (by decide) (fun v1 => ?_)
  refine pg_if_eq (tgt := 68) dX12_note_50 rfl ?_ ?_
  · exact pg_to (e_X12_note_68 l D a0 h) [0] rfl
  · refine pg_iload dX12_note_53 4 rfl ?_
    refine pg_iconst dX12_note_55 ci_m1 ?_
    refine pg_icmp_eq (tgt := 75) dX12_note_56 rfl ?_ ?_
    · exact pg_to (e_X12_note_75 l D a0 a1 a2 a3 a4 a5 h) [0, 1, 2, 3, 4, 5] rfl
    · refine pg_aload_n (i := 0) dX12_note_59 rfl 0 rfl ?_
      refine pg_iload dX12_note_60 4 rfl ?_
      refine pg_callV_oI (As := [pI a4]) (rs := []) dX12_note_62 lk_RX12_140 vy_X12_isHand nd_X12_isHand (c_X12_isHand l D h a0 a4) rfl rfl (Nat.le_of_ble_eq_true rfl) (by decide) (by decide) (fun v2 => ?_)
      refine pg_if_ne (tgt := 75) dX12_note_65 rfl ?_ ?_
      · exact pg_to (e_X12_note_75 l D a0 a1 a2 a3 a4 a5 h) [0, 1, 2, 3, 4, 5] rfl
      · exact pg_to (e_X12_note_68 l D a0 h) [0] rfl
theorem e_X12_note (l : Launch) (D : pg_D)  (a0 : Nat) (a1 : Int32) (a2 : Int32) (a3 : Int32) (a4 : Int32) (a5 : Int32) (h : pg_H) : pg_EvF l D RX12 cX12_note 6 (some FieldType.int) "note" 3 70 pg_wI (F_X12_note a0 a1 a2 a3 a4 a5 h) 0 [(0, pR a0), (1, pI a1), (2, pI a2), (3, pI a3), (4, pI a4), (5, pI a5)] [] h := by
  unfold F_X12_note
  refine pg_iload_n (i := 2) dX12_note_0 rfl 2 rfl ?_
  refine pg_iconst dX12_note_1 ci_0 ?_
  refine pg_bipush dX12_note_2 cb_59 ?_
  refine pg_callS_oI (As := [pI a2, pI (0 : Int32), pI (59 : Int32)]) (rs := []) dX12_note_4 lk_RX12_113 vy_X12_lies nd_X12_lies (c_X12_lies l D a2 (0 : Int32) (59 : Int32) h) rfl rfl (Nat.le_of_ble_eq_true rfl) (by decide) (by decide) (fun v1 => ?_)
  refine pg_if_eq (tgt := 39) dX12_note_7 rfl ?_ ?_
  · exact pg_to (e_X12_note_39 l D a0 h) [0] rfl
  · refine pg_iload_n (i := 3) dX12_note_10 rfl 3 rfl ?_
    refine pg_iconst dX12_note_11 ci_0 ?_
    refine pg_bipush dX12_note_12 cb_99 ?_
    refine pg_callS_oI (As := [pI a3, pI (0 : Int32), pI (99 : Int32)]) (rs := []) dX12_note_14 lk_RX12_113 vy_X12_lies nd_X12_lies (c_X12_lies l D a3 (0 : Int32) (99 : Int32) h) rfl rfl (Nat.le_of_ble_eq_true rfl) (by decide) (by decide) (fun v2 => ?_)
    refine pg_if_eq (tgt := 39) dX12_note_17 rfl ?_ ?_
    · exact pg_to (e_X12_note_39 l D a0 h) [0] rfl
    · refine pg_iload dX12_note_20 5 rfl ?_
      refine pg_iconst dX12_note_22 ci_0 ?_
      refine pg_iconst dX12_note_23 ci_3 ?_
      refine pg_callS_oI (As := [pI a5, pI (0 : Int32), pI (3 : Int32)]) (rs := []) dX12_note_24 lk_RX12_113 vy_X12_lies nd_X12_lies (c_X12_lies l D a5 (0 : Int32) (3 : Int32) h) rfl rfl (Nat.le_of_ble_eq_true rfl) (by decide) (by decide) (fun v3 => ?_)
      refine pg_if_eq (tgt := 39) dX12_note_27 rfl ?_ ?_
      · exact pg_to (e_X12_note_39 l D a0 h) [0] rfl
      · refine pg_iload dX12_note_30 5 rfl ?_
        refine pg_if_eq (tgt := 45) dX12_note_32 rfl ?_ ?_
        · exact pg_to (e_X12_note_45 l D a0 a1 a2 a3 a4 a5 h) [0, 1, 2, 3, 4, 5] rfl
        · refine pg_iload_n (i := 3) dX12_note_35 rfl 3 rfl ?_
          refine pg_if_eq (tgt := 45) dX12_note_36 rfl ?_ ?_
          · exact pg_to (e_X12_note_45 l D a0 a1 a2 a3 a4 a5 h) [0, 1, 2, 3, 4, 5] rfl
          · exact pg_to (e_X12_note_39 l D a0 h) [0] rfl
theorem c_X12_note (l : Launch) (D : pg_D) (a0 : Nat) (a1 : Int32) (a2 : Int32) (a3 : Int32) (a4 : Int32) (a5 : Int32) (h : pg_H) : ∀ x, F_X12_note a0 a1 a2 a3 a4 a5 h = some x → pg_Ct l D yX12_note cX12_note 6 (some FieldType.int) 3 70 [pR a0, pI a1, pI a2, pI a3, pI a4, pI a5] h (pg_wI x) :=
  pg_Ct.of pn_RX12 (Nat.le_of_ble_eq_true rfl) (e_X12_note l D a0 a1 a2 a3 a4 a5 h)
def F_X12_sharedBy_31 (h : pg_H) (k5 : Nat → Int32 → Int32 → Int32 → Int32 → Option Int32) (a0 : Nat) (a1 : Int32) (a2 : Int32) (a4 : Int32) (s0 : Int32) (s1 : Int32) : Option Int32 := pg_let (s1 + s0) fun v1 => (k5 a0 a1 a2 v1 (a4 + (1 : Int32)))
def F_X12_sharedBy_5 (h : pg_H) : Nat → Nat → Int32 → Int32 → Int32 → Int32 → Option Int32
  | 0 => fun _ _ _ _ _ => none
  | n + 1 => fun a0 a1 a2 a3 a4 => Option.bind (pg_rcv 12 h a0 (F_X12_copies h a0)) fun v1 => (if a4 < v1 then Option.bind (pg_rcv 12 h a0 (F_X12_has h a0 a4 a1 a2)) fun v2 => (if v2 = 0 then (F_X12_sharedBy_31 h (F_X12_sharedBy_5 h n) a0 a1 a2 a4 (0 : Int32) a3) else (F_X12_sharedBy_31 h (F_X12_sharedBy_5 h n) a0 a1 a2 a4 (1 : Int32) a3)) else (some a3))
def F_X12_sharedBy (h : pg_H) (a0 : Nat) (a1 : Int32) (a2 : Int32) : Option Int32 := (F_X12_sharedBy_5 h pg_fuel a0 a1 a2 (0 : Int32) (0 : Int32))
theorem e_X12_sharedBy_31 (l : Launch) (D : pg_D)  (h : pg_H) (k5 : Nat → Int32 → Int32 → Int32 → Int32 → Option Int32) (hk5 : ∀ (a0 : Nat) (a1 : Int32) (a2 : Int32) (a3 : Int32) (a4 : Int32), pg_EvF l D RX12 cX12_sharedBy 5 (some FieldType.int) "sharedBy" 2 46 (pg_oI h) (k5 a0 a1 a2 a3 a4) 5 [(0, pR a0), (1, pI a1), (2, pI a2), (3, pI a3), (4, pI a4)] [] h) (a0 : Nat) (a1 : Int32) (a2 : Int32) (a4 : Int32) (s0 : Int32) (s1 : Int32) : pg_EvF l D RX12 cX12_sharedBy 5 (some FieldType.int) "sharedBy" 2 46 (pg_oI h) (F_X12_sharedBy_31 h k5 a0 a1 a2 a4 s0 s1) 31 [(0, pR a0), (1, pI a1), (2, pI a2), (4, pI a4)] [pI s0, pI s1] h := by
  unfold F_X12_sharedBy_31
  refine pg_iadd dX12_sharedBy_31 ?_
  refine pg_letI (fun v1 => ?_)
  refine pg_istore_n (i := 3) (lv' := [(3, pI v1), (0, pR a0), (1, pI a1), (2, pI a2), (4, pI a4)]) dX12_sharedBy_32 rfl (by decide) rfl ?_
  refine pg_iinc (lv' := [(4, pI (a4 + (1 : Int32))), (3, pI v1), (0, pR a0), (1, pI a1), (2, pI a2)]) dX12_sharedBy_33 4 rfl ci_1 (by decide) rfl ?_
  refine pg_goto (tgt := 5) dX12_sharedBy_36 rfl ?_
  exact pg_to (hk5 a0 a1 a2 v1 (a4 + (1 : Int32))) [2, 3, 4, 1, 0] rfl
theorem e_X12_sharedBy_5 (l : Launch) (D : pg_D)  (h : pg_H) : ∀ (n : Nat) (a0 : Nat) (a1 : Int32) (a2 : Int32) (a3 : Int32) (a4 : Int32), pg_EvF l D RX12 cX12_sharedBy 5 (some FieldType.int) "sharedBy" 2 46 (pg_oI h) (F_X12_sharedBy_5 h n a0 a1 a2 a3 a4) 5 [(0, pR a0), (1, pI a1), (2, pI a2), (3, pI a3), (4, pI a4)] [] h := by
  intro n
  induction n with
  | zero => intro a0 a1 a2 a3 a4; exact pg_none
  | succ n ih =>
    intro a0 a1 a2 a3 a4
    rw [F_X12_sharedBy_5]
    refine pg_iload dX12_sharedBy_5 4 rfl ?_
    refine pg_aload_n (i := 0) dX12_sharedBy_7 rfl 0 rfl ?_
    refine pg_callV_oI (As := []) (rs := [pI a4]) dX12_sharedBy_8 lk_RX12_124 vy_X12_copies nd_X12_copies (c_X12_copies l D h a0) rfl rfl (Nat.le_of_ble_eq_true rfl) (by decide) (by decide) (fun v1 => ?_)
    refine pg_icmp_ge (tgt := 39) dX12_sharedBy_11 rfl ?_ ?_
    · refine pg_iload_n (i := 3) dX12_sharedBy_39 rfl 3 rfl ?_
      exact pg_iret dX12_sharedBy_40 rfl rfl
    · refine pg_iload_n (i := 3) dX12_sharedBy_14 rfl 3 rfl ?_
      refine pg_aload_n (i := 0) dX12_sharedBy_15 rfl 0 rfl ?_
      refine pg_iload dX12_sharedBy_16 4 rfl ?_
      refine pg_iload_n (i := 1) dX12_sharedBy_18 rfl 1 rfl ?_
      refine pg_iload_n (i := 2) dX12_sharedBy_19 rfl 2 rfl ?_
      refine pg_callV_oI (As := [pI a4, pI a1, pI a2]) (rs := [pI a3]) dX12_sharedBy_20 lk_RX12_146 vy_X12_has nd_X12_has (c_X12_has l D h a0 a4 a1 a2) rfl rfl (Nat.le_of_ble_eq_true rfl) (by decide) (by decide) (fun v2 => ?_)
      refine pg_if_eq (tgt := 30) dX12_sharedBy_23 rfl ?_ ?_
      · refine pg_iconst dX12_sharedBy_30 ci_0 ?_
        exact pg_to (e_X12_sharedBy_31 l D h (F_X12_sharedBy_5 h n) ih a0 a1 a2 a4 (0 : Int32) a3) [0, 1, 2, 4] rfl
      · refine pg_iconst dX12_sharedBy_26 ci_1 ?_
        refine pg_goto (tgt := 31) dX12_sharedBy_27 rfl ?_
        exact pg_to (e_X12_sharedBy_31 l D h (F_X12_sharedBy_5 h n) ih a0 a1 a2 a4 (1 : Int32) a3) [0, 1, 2, 4] rfl
theorem e_X12_sharedBy (l : Launch) (D : pg_D)  (h : pg_H) (a0 : Nat) (a1 : Int32) (a2 : Int32) : pg_EvF l D RX12 cX12_sharedBy 5 (some FieldType.int) "sharedBy" 2 46 (pg_oI h) (F_X12_sharedBy h a0 a1 a2) 0 [(0, pR a0), (1, pI a1), (2, pI a2)] [] h := by
  unfold F_X12_sharedBy
  refine pg_iconst dX12_sharedBy_0 ci_0 ?_
  refine pg_istore_n (i := 3) (lv' := [(3, pI (0 : Int32)), (0, pR a0), (1, pI a1), (2, pI a2)]) dX12_sharedBy_1 rfl (by decide) rfl ?_
  refine pg_iconst dX12_sharedBy_2 ci_0 ?_
  refine pg_istore (lv' := [(4, pI (0 : Int32)), (3, pI (0 : Int32)), (0, pR a0), (1, pI a1), (2, pI a2)]) dX12_sharedBy_3 (by decide) rfl ?_
  exact pg_to (e_X12_sharedBy_5 l D h pg_fuel a0 a1 a2 (0 : Int32) (0 : Int32)) [2, 3, 4, 1, 0] rfl
theorem c_X12_sharedBy (l : Launch) (D : pg_D) (h : pg_H) (a0 : Nat) (a1 : Int32) (a2 : Int32)  : ∀ x, F_X12_sharedBy h a0 a1 a2 = some x → pg_Ct l D yX12_sharedBy cX12_sharedBy 5 (some FieldType.int) 2 46 [pR a0, pI a1, pI a2] h (pg_oI h x) :=
  pg_Ct.of pn_RX12 (Nat.le_of_ble_eq_true rfl) (e_X12_sharedBy l D h a0 a1 a2)
def F_X12_of (h : pg_H) (a0 : Nat) (a1 : Int32) (a2 : Int32) : Option Int32 := Option.bind (pg_gR 12 3 h a0) fun v1 => Option.bind (pg_aI 21 h v1 (1347 : Int32)) fun v2 => Option.bind (F_X12_lies a1 (0 : Int32) (v2 - (1 : Int32))) fun v3 => (if v3 = 0 then (some (-2 : Int32)) else Option.bind (F_X12_lies a2 (0 : Int32) (5 : Int32)) fun v4 => (if v4 = 0 then (some (-2 : Int32)) else (if a2 < (5 : Int32) then Option.bind (pg_rcv 12 h a0 (F_X12_noteOf h a0 a1 a2)) fun v9 => (some v9) else Option.bind (pg_rcv 12 h a0 (F_X12_noteOf h a0 a1 (4 : Int32))) fun v5 => (if v5 = 0 then Option.bind (pg_rcv 12 h a0 (F_X12_noteOf h a0 a1 (1 : Int32))) fun v6 => Option.bind (pg_rcv 12 h a0 (F_X12_noteOf h a0 a1 (2 : Int32))) fun v7 => Option.bind (pg_rcv 12 h a0 (F_X12_sharedBy h a0 v6 v7)) fun v8 => (some v8) else (some (0 : Int32))))))
theorem e_X12_of (l : Launch) (D : pg_D)  (h : pg_H) (a0 : Nat) (a1 : Int32) (a2 : Int32) : pg_EvF l D RX12 cX12_of 3 (some FieldType.int) "of" 3 70 (pg_oI h) (F_X12_of h a0 a1 a2) 0 [(0, pR a0), (1, pI a1), (2, pI a2)] [] h := by
  unfold F_X12_of
  refine pg_iload_n (i := 1) dX12_of_0 rfl 1 rfl ?_
  refine pg_iconst dX12_of_1 ci_0 ?_
  refine pg_aload_n (i := 0) dX12_of_2 rfl 0 rfl ?_
  refine pg_getR dX12_of_3 fl_RX12_20 rfl (fun v1 => ?_)
  refine pg_sipush dX12_of_6 cs_1347 ?_
  refine pg_iaload dX12_of_9 (fun v2 => ?_)
  refine pg_iconst dX12_of_10 ci_1 ?_
  refine pg_isub dX12_of_11 ?_
  refine pg_callS_oI (As := [pI a1, pI (0 : Int32), pI (v2 - (1 : Int32))]) (rs := []) dX12_of_12 lk_RX12_113 vy_X12_lies nd_X12_lies (c_X12_lies l D a1 (0 : Int32) (v2 - (1 : Int32)) h) rfl rfl (Nat.le_of_ble_eq_true rfl) (by decide) (by decide) (fun v3 => ?_)
  refine pg_if_eq (tgt := 27) dX12_of_15 rfl ?_ ?_
  · refine pg_bipush dX12_of_27 cb_m2 ?_
    exact pg_iret dX12_of_29 rfl rfl
  · refine pg_iload_n (i := 2) dX12_of_18 rfl 2 rfl ?_
    refine pg_iconst dX12_of_19 ci_0 ?_
    refine pg_iconst dX12_of_20 ci_5 ?_
    refine pg_callS_oI (As := [pI a2, pI (0 : Int32), pI (5 : Int32)]) (rs := []) dX12_of_21 lk_RX12_113 vy_X12_lies nd_X12_lies (c_X12_lies l D a2 (0 : Int32) (5 : Int32) h) rfl rfl (Nat.le_of_ble_eq_true rfl) (by decide) (by decide) (fun v4 => ?_)
    refine pg_if_ne (tgt := 30) dX12_of_24 rfl ?_ ?_
    · refine pg_iload_n (i := 2) dX12_of_30 rfl 2 rfl ?_
      refine pg_iconst dX12_of_31 ci_5 ?_
      refine pg_icmp_ge (tgt := 44) dX12_of_32 rfl ?_ ?_
      · refine pg_aload_n (i := 0) dX12_of_44 rfl 0 rfl ?_
        refine pg_iload_n (i := 1) dX12_of_45 rfl 1 rfl ?_
        refine pg_iconst dX12_of_46 ci_4 ?_
        refine pg_callV_oI (As := [pI a1, pI (4 : Int32)]) (rs := []) dX12_of_47 lk_RX12_143 vy_X12_noteOf nd_X12_noteOf (c_X12_noteOf l D h a0 a1 (4 : Int32)) rfl rfl (Nat.le_of_ble_eq_true rfl) (by decide) (by decide) (fun v5 => ?_)
        refine pg_if_ne (tgt := 72) dX12_of_50 rfl ?_ ?_
        · refine pg_iconst dX12_of_72 ci_0 ?_
          exact pg_iret dX12_of_73 rfl rfl
        · refine pg_aload_n (i := 0) dX12_of_53 rfl 0 rfl ?_
          refine pg_aload_n (i := 0) dX12_of_54 rfl 0 rfl ?_
          refine pg_iload_n (i := 1) dX12_of_55 rfl 1 rfl ?_
          refine pg_iconst dX12_of_56 ci_1 ?_
          refine pg_callV_oI (As := [pI a1, pI (1 : Int32)]) (rs := [pR a0]) dX12_of_57 lk_RX12_143 vy_X12_noteOf nd_X12_noteOf (c_X12_noteOf l D h a0 a1 (1 : Int32)) rfl rfl (Nat.le_of_ble_eq_true rfl) (by decide) (by decide) (fun v6 => ?_)
          refine pg_aload_n (i := 0) dX12_of_60 rfl 0 rfl ?_
          refine pg_iload_n (i := 1) dX12_of_61 rfl 1 rfl ?_
          refine pg_iconst dX12_of_62 ci_2 ?_
          refine pg_callV_oI (As := [pI a1, pI (2 : Int32)]) (rs := [pI v6, pR a0]) dX12_of_63 lk_RX12_143 vy_X12_noteOf nd_X12_noteOf (c_X12_noteOf l D h a0 a1 (2 : Int32)) rfl rfl (Nat.le_of_ble_eq_true rfl) (by decide) (by decide) (fun v7 => ?_)
          refine pg_callV_oI (As := [pI v6, pI v7]) (rs := []) dX12_of_66 lk_RX12_160 vy_X12_sharedBy nd_X12_sharedBy (c_X12_sharedBy l D h a0 v6 v7) rfl rfl (Nat.le_of_ble_eq_true rfl) (by decide) (by decide) (fun v8 => ?_)
          refine pg_goto (tgt := 73) dX12_of_69 rfl ?_
          exact pg_iret dX12_of_73 rfl rfl
      · refine pg_aload_n (i := 0) dX12_of_35 rfl 0 rfl ?_
        refine pg_iload_n (i := 1) dX12_of_36 rfl 1 rfl ?_
        refine pg_iload_n (i := 2) dX12_of_37 rfl 2 rfl ?_
        refine pg_callV_oI (As := [pI a1, pI a2]) (rs := []) dX12_of_38 lk_RX12_143 vy_X12_noteOf nd_X12_noteOf (c_X12_noteOf l D h a0 a1 a2) rfl rfl (Nat.le_of_ble_eq_true rfl) (by decide) (by decide) (fun v9 => ?_)
        refine pg_goto (tgt := 73) dX12_of_41 rfl ?_
        exact pg_iret dX12_of_73 rfl rfl
    · refine pg_bipush dX12_of_27 cb_m2 ?_
      exact pg_iret dX12_of_29 rfl rfl
theorem c_X12_of (l : Launch) (D : pg_D) (h : pg_H) (a0 : Nat) (a1 : Int32) (a2 : Int32)  : ∀ x, F_X12_of h a0 a1 a2 = some x → pg_Ct l D yX12_of cX12_of 3 (some FieldType.int) 3 70 [pR a0, pI a1, pI a2] h (pg_oI h x) :=
  pg_Ct.of pn_RX12 (Nat.le_of_ble_eq_true rfl) (e_X12_of l D h a0 a1 a2)
