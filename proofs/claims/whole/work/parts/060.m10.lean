def F_L_law_1553 (sc : Nat × (Nat → Int32)) (k18 : Nat → Nat → Nat → Int32 → pg_H → Option (Int32 × pg_H)) (a0 : Nat) (a1 : Nat) (a2 : Nat) (a3 : Int32) (h : pg_H) : Option (Int32 × pg_H) := (k18 a0 a1 a2 (a3 + (6 : Int32)) h)
def F_L_law_18 (sc : Nat × (Nat → Int32)) : Nat → Nat → Nat → Nat → Int32 → pg_H → Option (Int32 × pg_H)
  | 0 => fun _ _ _ _ _ => none
  | n + 1 => fun a0 a1 a2 a3 h => Option.bind (pg_xlen 0 sc a0) fun v1 => (if (v1 - (6 : Int32)) < a3 then (some ((1 : Int32), h)) else Option.bind (pg_xI 0 sc a0 a3) fun v2 => pg_let (v2 &&& (63 : Int32)) fun v3 => (if v3 = (0 : Int32) then Option.bind (pg_xI 0 sc a0 (a3 + (1 : Int32))) fun v4 => Option.bind (pg_xI 0 sc a0 (a3 + (2 : Int32))) fun v5 => Option.bind (pg_rcv 11 h a1 (F_X11_copy a1 v4 v5 h)) fun v6 => Option.bind (pg_xI 0 sc a0 (a3 + (1 : Int32))) fun v7 => Option.bind (pg_xI 0 sc a0 (a3 + (2 : Int32))) fun v8 => Option.bind (pg_rcv 12 v6.2 a2 (F_X12_copy a2 v7 v8 v6.2)) fun v9 => (if v6.1 = v9.1 then (F_L_law_1553 sc (F_L_law_18 sc n) a0 a1 a2 a3 v9.2) else (some ((0 : Int32), v9.2))) else (if v3 = (1 : Int32) then Option.bind (pg_xI 0 sc a0 (a3 + (1 : Int32))) fun v10 => Option.bind (pg_xI 0 sc a0 (a3 + (2 : Int32))) fun v11 => Option.bind (pg_rcv 11 h a1 (F_X11_look a1 v10 v11 h)) fun v12 => Option.bind (pg_xI 0 sc a0 (a3 + (1 : Int32))) fun v13 => Option.bind (pg_xI 0 sc a0 (a3 + (2 : Int32))) fun v14 => Option.bind (pg_rcv 12 v12.2 a2 (F_X12_look a2 v13 v14 v12.2)) fun v15 => (if v12.1 = v15.1 then (F_L_law_1553 sc (F_L_law_18 sc n) a0 a1 a2 a3 v15.2) else (some ((0 : Int32), v15.2))) else (if v3 = (2 : Int32) then Option.bind (pg_xI 0 sc a0 (a3 + (1 : Int32))) fun v16 => Option.bind (pg_xI 0 sc a0 (a3 + (2 : Int32))) fun v17 => Option.bind (pg_xI 0 sc a0 (a3 + (3 : Int32))) fun v18 => Option.bind (pg_xI 0 sc a0 (a3 + (4 : Int32))) fun v19 => Option.bind (pg_rcv 11 h a1 (F_X11_stay a1 v16 v17 v18 v19 h)) fun v20 => Option.bind (pg_xI 0 sc a0 (a3 + (1 : Int32))) fun v21 => Option.bind (pg_xI 0 sc a0 (a3 + (2 : Int32))) fun v22 => Option.bind (pg_xI 0 sc a0 (a3 + (3 : Int32))) fun v23 => Option.bind (pg_xI 0 sc a0 (a3 + (4 : Int32))) fun v24 => Option.bind (pg_rcv 12 v20.2 a2 (F_X12_stay a2 v21 v22 v23 v24 v20.2)) fun v25 => (if v20.1 = v25.1 then (F_L_law_1553 sc (F_L_law_18 sc n) a0 a1 a2 a3 v25.2) else (some ((0 : Int32), v25.2))) else (if v3 = (3 : Int32) then Option.bind (pg_xI 0 sc a0 (a3 + (1 : Int32))) fun v26 => Option.bind (pg_xI 0 sc a0 (a3 + (2 : Int32))) fun v27 => Option.bind (pg_rcv 11 h a1 (F_X11_hand a1 v26 v27 h)) fun v28 => Option.bind (pg_xI 0 sc a0 (a3 + (1 : Int32))) fun v29 => Option.bind (pg_xI 0 sc a0 (a3 + (2 : Int32))) fun v30 => Option.bind (pg_rcv 12 v28.2 a2 (F_X12_hand a2 v29 v30 v28.2)) fun v31 => (if v28.1 = v31.1 then (F_L_law_1553 sc (F_L_law_18 sc n) a0 a1 a2 a3 v31.2) else (some ((0 : Int32), v31.2))) else (if v3 = (4 : Int32) then Option.bind (pg_xI 0 sc a0 (a3 + (1 : Int32))) fun v32 => Option.bind (pg_xI 0 sc a0 (a3 + (2 : Int32))) fun v33 => Option.bind (pg_xI 0 sc a0 (a3 + (3 : Int32))) fun v34 => Option.bind (pg_rcv 11 h a1 (F_X11_form a1 v32 v33 v34 h)) fun v35 => Option.bind (pg_xI 0 sc a0 (a3 + (1 : Int32))) fun v36 => Option.bind (pg_xI 0 sc a0 (a3 + (2 : Int32))) fun v37 => Option.bind (pg_xI 0 sc a0 (a3 + (3 : Int32))) fun v38 => Option.bind (pg_rcv 12 v35.2 a2 (F_X12_form a2 v36 v37 v38 v35.2)) fun v39 => (if v35.1 = v39.1 then (F_L_law_1553 sc (F_L_law_18 sc n) a0 a1 a2 a3 v39.2) else (some ((0 : Int32), v39.2))) else (if v3 = (5 : Int32) then Option.bind (pg_xI 0 sc a0 (a3 + (1 : Int32))) fun v40 => Option.bind (pg_xI 0 sc a0 (a3 + (2 : Int32))) fun v41 => Option.bind (pg_xI 0 sc a0 (a3 + (3 : Int32))) fun v42 => Option.bind (pg_rcv 11 h a1 (F_X11_sample a1 v40 v41 v42 h)) fun v43 => Option.bind (pg_xI 0 sc a0 (a3 + (1 : Int32))) fun v44 => Option.bind (pg_xI 0 sc a0 (a3 + (2 : Int32))) fun v45 => Option.bind (pg_xI 0 sc a0 (a3 + (3 : Int32))) fun v46 => Option.bind (pg_rcv 12 v43.2 a2 (F_X12_sample a2 v44 v45 v46 v43.2)) fun v47 => (if v43.1 = v47.1 then (F_L_law_1553 sc (F_L_law_18 sc n) a0 a1 a2 a3 v47.2) else (some ((0 : Int32), v47.2))) else (if v3 = (6 : Int32) then Option.bind (pg_xI 0 sc a0 (a3 + (1 : Int32))) fun v48 => Option.bind (pg_xI 0 sc a0 (a3 + (2 : Int32))) fun v49 => Option.bind (pg_xI 0 sc a0 (a3 + (3 : Int32))) fun v50 => Option.bind (pg_xI 0 sc a0 (a3 + (4 : Int32))) fun v51 => Option.bind (pg_xI 0 sc a0 (a3 + (5 : Int32))) fun v52 => Option.bind (pg_rcv 11 h a1 (F_X11_note a1 v48 v49 v50 v51 v52 h)) fun v53 => Option.bind (pg_xI 0 sc a0 (a3 + (1 : Int32))) fun v54 => Option.bind (pg_xI 0 sc a0 (a3 + (2 : Int32))) fun v55 => Option.bind (pg_xI 0 sc a0 (a3 + (3 : Int32))) fun v56 => Option.bind (pg_xI 0 sc a0 (a3 + (4 : Int32))) fun v57 => Option.bind (pg_xI 0 sc a0 (a3 + (5 : Int32))) fun v58 => Option.bind (pg_rcv 12 v53.2 a2 (F_X12_note a2 v54 v55 v56 v57 v58 v53.2)) fun v59 => (if v53.1 = v59.1 then (F_L_law_1553 sc (F_L_law_18 sc n) a0 a1 a2 a3 v59.2) else (some ((0 : Int32), v59.2))) else (if v3 = (7 : Int32) then Option.bind (pg_xI 0 sc a0 (a3 + (1 : Int32))) fun v60 => Option.bind (pg_xI 0 sc a0 (a3 + (2 : Int32))) fun v61 => Option.bind (pg_rcv 11 h a1 (F_X11_of a1 v60 v61 h)) fun v62 => Option.bind (pg_xI 0 sc a0 (a3 + (1 : Int32))) fun v63 => Option.bind (pg_xI 0 sc a0 (a3 + (2 : Int32))) fun v64 => Option.bind (pg_rcv 12 v62.2 a2 (F_X12_of v62.2 a2 v63 v64)) fun v65 => (if v62.1 = v65 then (F_L_law_1553 sc (F_L_law_18 sc n) a0 a1 a2 a3 v62.2) else (some ((0 : Int32), v62.2))) else (if v3 = (8 : Int32) then Option.bind (pg_xI 0 sc a0 (a3 + (1 : Int32))) fun v66 => Option.bind (pg_xI 0 sc a0 (a3 + (2 : Int32))) fun v67 => Option.bind (pg_rcv 11 h a1 (F_X11_terms a1 v66 v67 h)) fun v68 => Option.bind (pg_xI 0 sc a0 (a3 + (1 : Int32))) fun v69 => Option.bind (pg_xI 0 sc a0 (a3 + (2 : Int32))) fun v70 => Option.bind (pg_rcv 12 v68.2 a2 (F_X12_terms a2 v69 v70 v68.2)) fun v71 => (if v68.1 = v71.1 then (F_L_law_1553 sc (F_L_law_18 sc n) a0 a1 a2 a3 v71.2) else (some ((0 : Int32), v71.2))) else (if v3 = (9 : Int32) then Option.bind (pg_xI 0 sc a0 (a3 + (1 : Int32))) fun v72 => Option.bind (pg_xI 0 sc a0 (a3 + (2 : Int32))) fun v73 => Option.bind (pg_xI 0 sc a0 (a3 + (3 : Int32))) fun v74 => Option.bind (pg_xI 0 sc a0 (a3 + (4 : Int32))) fun v75 => Option.bind (pg_xI 0 sc a0 (a3 + (5 : Int32))) fun v76 => Option.bind (pg_rcv 11 h a1 (F_X11_feed a1 v72 v73 v74 v75 v76 h)) fun v77 => Option.bind (pg_xI 0 sc a0 (a3 + (1 : Int32))) fun v78 => Option.bind (pg_xI 0 sc a0 (a3 + (2 : Int32))) fun v79 => Option.bind (pg_xI 0 sc a0 (a3 + (3 : Int32))) fun v80 => Option.bind (pg_xI 0 sc a0 (a3 + (4 : Int32))) fun v81 => Option.bind (pg_xI 0 sc a0 (a3 + (5 : Int32))) fun v82 => Option.bind (pg_rcv 12 v77.2 a2 (F_X12_feed a2 v78 v79 v80 v81 v82 v77.2)) fun v83 => (if v77.1 = v83.1 then (F_L_law_1553 sc (F_L_law_18 sc n) a0 a1 a2 a3 v83.2) else (some ((0 : Int32), v83.2))) else (if v3 = (10 : Int32) then Option.bind (pg_xI 0 sc a0 (a3 + (1 : Int32))) fun v84 => Option.bind (pg_rcv 11 h a1 (F_X11_end a1 v84 h)) fun v85 => Option.bind (pg_xI 0 sc a0 (a3 + (1 : Int32))) fun v86 => Option.bind (pg_rcv 12 v85.2 a2 (F_X12_end a2 v86 v85.2)) fun v87 => (if v85.1 = v87.1 then (F_L_law_1553 sc (F_L_law_18 sc n) a0 a1 a2 a3 v87.2) else (some ((0 : Int32), v87.2))) else (if v3 = (11 : Int32) then Option.bind (pg_xI 0 sc a0 (a3 + (1 : Int32))) fun v88 => Option.bind (pg_rcv 11 h a1 (F_X11_row a1 v88 h)) fun v89 => Option.bind (pg_xI 0 sc a0 (a3 + (1 : Int32))) fun v90 => Option.bind (pg_rcv 12 v89.2 a2 (F_X12_row a2 v90 v89.2)) fun v91 => (if v89.1 = v91.1 then (F_L_law_1553 sc (F_L_law_18 sc n) a0 a1 a2 a3 v91.2) else (some ((0 : Int32), v91.2))) else (if v3 = (12 : Int32) then Option.bind (pg_rcv 11 h a1 (F_X11_trimmed h a1)) fun v92 => Option.bind (pg_rcv 12 h a2 (F_X12_trimmed h a2)) fun v93 => (if v92 = v93 then (F_L_law_1553 sc (F_L_law_18 sc n) a0 a1 a2 a3 h) else (some ((0 : Int32), h))) else (if v3 = (13 : Int32) then Option.bind (pg_rcv 11 h a1 (F_X11_text a1 h)) fun v94 => Option.bind (pg_rcv 12 v94.2 a2 (F_X12_text a2 v94.2)) fun v95 => (if v94.1 = v95.1 then (F_L_law_1553 sc (F_L_law_18 sc n) a0 a1 a2 a3 v95.2) else (some ((0 : Int32), v95.2))) else (if v3 = (14 : Int32) then Option.bind (pg_rcv 11 h a1 (F_X11_fault h a1)) fun v96 => Option.bind (pg_rcv 12 h a2 (F_X12_fault h a2)) fun v97 => (if v96 = v97 then (F_L_law_1553 sc (F_L_law_18 sc n) a0 a1 a2 a3 h) else (some ((0 : Int32), h))) else (if v3 = (15 : Int32) then Option.bind (pg_xI 0 sc a0 (a3 + (1 : Int32))) fun v98 => Option.bind (pg_rcv 11 h a1 (F_X11_use a1 v98 h)) fun v99 => Option.bind (pg_xI 0 sc a0 (a3 + (1 : Int32))) fun v100 => Option.bind (pg_rcv 12 v99.2 a2 (F_X12_use a2 v100 v99.2)) fun v101 => (if v99.1 = v101.1 then (F_L_law_1553 sc (F_L_law_18 sc n) a0 a1 a2 a3 v101.2) else (some ((0 : Int32), v101.2))) else (if v3 = (16 : Int32) then Option.bind (pg_xI 0 sc a0 (a3 + (1 : Int32))) fun v102 => Option.bind (pg_xI 0 sc a0 (a3 + (2 : Int32))) fun v103 => Option.bind (pg_rcv 11 h a1 (F_X11_weight a1 v102 v103 h)) fun v104 => Option.bind (pg_xI 0 sc a0 (a3 + (1 : Int32))) fun v105 => Option.bind (pg_xI 0 sc a0 (a3 + (2 : Int32))) fun v106 => Option.bind (pg_rcv 12 v104.2 a2 (F_X12_weight a2 v105 v106 v104.2)) fun v107 => (if v104.1 = v107.1 then (F_L_law_1553 sc (F_L_law_18 sc n) a0 a1 a2 a3 v107.2) else (some ((0 : Int32), v107.2))) else (if v3 = (17 : Int32) then Option.bind (pg_xI 0 sc a0 (a3 + (1 : Int32))) fun v108 => Option.bind (pg_xI 0 sc a0 (a3 + (2 : Int32))) fun v109 => Option.bind (pg_rcv 11 h a1 (F_X11_may h a1 v108 v109)) fun v110 => Option.bind (pg_xI 0 sc a0 (a3 + (1 : Int32))) fun v111 => Option.bind (pg_xI 0 sc a0 (a3 + (2 : Int32))) fun v112 => Option.bind (pg_rcv 12 h a2 (F_X12_may h a2 v111 v112)) fun v113 => (if v110 = v113 then (F_L_law_1553 sc (F_L_law_18 sc n) a0 a1 a2 a3 h) else (some ((0 : Int32), h))) else (if v3 = (18 : Int32) then Option.bind (pg_xI 0 sc a0 (a3 + (1 : Int32))) fun v114 => Option.bind (pg_xI 0 sc a0 (a3 + (2 : Int32))) fun v115 => Option.bind (pg_rcv 11 h a1 (F_X11_cost a1 v114 v115 h)) fun v116 => Option.bind (pg_xI 0 sc a0 (a3 + (1 : Int32))) fun v117 => Option.bind (pg_xI 0 sc a0 (a3 + (2 : Int32))) fun v118 => Option.bind (pg_rcv 12 v116.2 a2 (F_X12_cost a2 v117 v118 v116.2)) fun v119 => (if v116.1 = v119.1 then (F_L_law_1553 sc (F_L_law_18 sc n) a0 a1 a2 a3 v119.2) else (some ((0 : Int32), v119.2))) else (if v3 = (19 : Int32) then Option.bind (pg_rcv 11 h a1 (F_X11_tree a1 h)) fun v120 => Option.bind (pg_rcv 12 v120.2 a2 (F_X12_tree a2 v120.2)) fun v121 => (if v120.1 = v121.1 then (F_L_law_1553 sc (F_L_law_18 sc n) a0 a1 a2 a3 v121.2) else (some ((0 : Int32), v121.2))) else (if v3 = (20 : Int32) then Option.bind (pg_xI 0 sc a0 (a3 + (1 : Int32))) fun v122 => Option.bind (pg_rcv 11 h a1 (F_X11_whose a1 v122 h)) fun v123 => Option.bind (pg_xI 0 sc a0 (a3 + (1 : Int32))) fun v124 => Option.bind (pg_rcv 12 v123.2 a2 (F_X12_whose a2 v124 v123.2)) fun v125 => (if v123.1 = v125.1 then (F_L_law_1553 sc (F_L_law_18 sc n) a0 a1 a2 a3 v125.2) else (some ((0 : Int32), v125.2))) else (if v3 = (21 : Int32) then Option.bind (pg_xI 0 sc a0 (a3 + (1 : Int32))) fun v126 => Option.bind (pg_rcv 11 h a1 (F_X11_sure a1 v126 h)) fun v127 => Option.bind (pg_xI 0 sc a0 (a3 + (1 : Int32))) fun v128 => Option.bind (pg_rcv 12 v127.2 a2 (F_X12_sure a2 v128 v127.2)) fun v129 => (if v127.1 = v129.1 then (F_L_law_1553 sc (F_L_law_18 sc n) a0 a1 a2 a3 v129.2) else (some ((0 : Int32), v129.2))) else (if v3 = (22 : Int32) then Option.bind (pg_xI 0 sc a0 (a3 + (1 : Int32))) fun v130 => Option.bind (pg_xI 0 sc a0 (a3 + (2 : Int32))) fun v131 => Option.bind (pg_rcv 11 h a1 (F_X11_come a1 v130 v131 h)) fun v132 => Option.bind (pg_xI 0 sc a0 (a3 + (1 : Int32))) fun v133 => Option.bind (pg_xI 0 sc a0 (a3 + (2 : Int32))) fun v134 => Option.bind (pg_rcv 12 v132.2 a2 (F_X12_come a2 v133 v134 v132.2)) fun v135 => (if v132.1 = v135.1 then (F_L_law_1553 sc (F_L_law_18 sc n) a0 a1 a2 a3 v135.2) else (some ((0 : Int32), v135.2))) else (if v3 = (23 : Int32) then Option.bind (pg_xI 0 sc a0 (a3 + (1 : Int32))) fun v136 => Option.bind (pg_xI 0 sc a0 (a3 + (2 : Int32))) fun v137 => Option.bind (pg_rcv 11 h a1 (F_X11_net a1 v136 v137 h)) fun v138 => Option.bind (pg_xI 0 sc a0 (a3 + (1 : Int32))) fun v139 => Option.bind (pg_xI 0 sc a0 (a3 + (2 : Int32))) fun v140 => Option.bind (pg_rcv 12 v138.2 a2 (F_X12_net a2 v139 v140 v138.2)) fun v141 => (if v138.1 = v141.1 then (F_L_law_1553 sc (F_L_law_18 sc n) a0 a1 a2 a3 v141.2) else (some ((0 : Int32), v141.2))) else (if v3 = (24 : Int32) then Option.bind (pg_xI 0 sc a0 (a3 + (1 : Int32))) fun v142 => Option.bind (pg_xI 0 sc a0 (a3 + (2 : Int32))) fun v143 => Option.bind (pg_rcv 11 h a1 (F_X11_agree a1 v142 v143 h)) fun v144 => Option.bind (pg_xI 0 sc a0 (a3 + (1 : Int32))) fun v145 => Option.bind (pg_xI 0 sc a0 (a3 + (2 : Int32))) fun v146 => Option.bind (pg_rcv 12 v144.2 a2 (F_X12_agree a2 v145 v146 v144.2)) fun v147 => (if v144.1 = v147.1 then (F_L_law_1553 sc (F_L_law_18 sc n) a0 a1 a2 a3 v147.2) else (some ((0 : Int32), v147.2))) else (if v3 = (25 : Int32) then Option.bind (pg_rcv 11 h a1 (F_X11_families a1 h)) fun v148 => Option.bind (pg_rcv 12 v148.2 a2 (F_X12_families a2 v148.2)) fun v149 => (if v148.1 = v149.1 then (F_L_law_1553 sc (F_L_law_18 sc n) a0 a1 a2 a3 v149.2) else (some ((0 : Int32), v149.2))) else (if v3 = (26 : Int32) then Option.bind (pg_xI 0 sc a0 (a3 + (1 : Int32))) fun v150 => Option.bind (pg_rcv 11 h a1 (F_X11_family a1 v150 h)) fun v151 => Option.bind (pg_xI 0 sc a0 (a3 + (1 : Int32))) fun v152 => Option.bind (pg_rcv 12 v151.2 a2 (F_X12_family a2 v152 v151.2)) fun v153 => (if v151.1 = v153.1 then (F_L_law_1553 sc (F_L_law_18 sc n) a0 a1 a2 a3 v153.2) else (some ((0 : Int32), v153.2))) else (if v3 = (27 : Int32) then Option.bind (pg_xI 0 sc a0 (a3 + (1 : Int32))) fun v154 => Option.bind (pg_rcv 11 h a1 (F_X11_joins a1 v154 h)) fun v155 => Option.bind (pg_xI 0 sc a0 (a3 + (1 : Int32))) fun v156 => Option.bind (pg_rcv 12 v155.2 a2 (F_X12_joins a2 v156 v155.2)) fun v157 => (if v155.1 = v157.1 then (F_L_law_1553 sc (F_L_law_18 sc n) a0 a1 a2 a3 v157.2) else (some ((0 : Int32), v157.2))) else (if v3 = (28 : Int32) then Option.bind (pg_xI 0 sc a0 (a3 + (1 : Int32))) fun v158 => Option.bind (pg_xI 0 sc a0 (a3 + (2 : Int32))) fun v159 => Option.bind (pg_xI 0 sc a0 (a3 + (3 : Int32))) fun v160 => Option.bind (pg_rcv 11 h a1 (F_X11_times a1 v158 v159 v160 h)) fun v161 => Option.bind (pg_xI 0 sc a0 (a3 + (1 : Int32))) fun v162 => Option.bind (pg_xI 0 sc a0 (a3 + (2 : Int32))) fun v163 => Option.bind (pg_xI 0 sc a0 (a3 + (3 : Int32))) fun v164 => Option.bind (pg_rcv 12 v161.2 a2 (F_X12_times a2 v162 v163 v164 v161.2)) fun v165 => (if v161.1 = v165.1 then (F_L_law_1553 sc (F_L_law_18 sc n) a0 a1 a2 a3 v165.2) else (some ((0 : Int32), v165.2))) else (if v3 = (29 : Int32) then Option.bind (pg_xI 0 sc a0 (a3 + (1 : Int32))) fun v166 => Option.bind (pg_rcv 11 h a1 (F_X11_written a1 v166 h)) fun v167 => Option.bind (pg_xI 0 sc a0 (a3 + (1 : Int32))) fun v168 => Option.bind (pg_rcv 12 v167.2 a2 (F_X12_written a2 v168 v167.2)) fun v169 => (if v167.1 = v169.1 then (F_L_law_1553 sc (F_L_law_18 sc n) a0 a1 a2 a3 v169.2) else (some ((0 : Int32), v169.2))) else (if v3 = (30 : Int32) then Option.bind (pg_xI 0 sc a0 (a3 + (1 : Int32))) fun v170 => Option.bind (pg_rcv 11 h a1 (F_X11_towns h a1 v170)) fun v171 => Option.bind (pg_xI 0 sc a0 (a3 + (1 : Int32))) fun v172 => Option.bind (pg_rcv 12 h a2 (F_X12_towns h a2 v172)) fun v173 => (if v171 = v173 then (F_L_law_1553 sc (F_L_law_18 sc n) a0 a1 a2 a3 h) else (some ((0 : Int32), h))) else (if v3 = (31 : Int32) then Option.bind (pg_xI 0 sc a0 (a3 + (1 : Int32))) fun v174 => Option.bind (pg_xI 0 sc a0 (a3 + (2 : Int32))) fun v175 => Option.bind (pg_rcv 11 h a1 (F_X11_dates a1 v174 v175 h)) fun v176 => Option.bind (pg_xI 0 sc a0 (a3 + (1 : Int32))) fun v177 => Option.bind (pg_xI 0 sc a0 (a3 + (2 : Int32))) fun v178 => Option.bind (pg_rcv 12 v176.2 a2 (F_X12_dates a2 v177 v178 v176.2)) fun v179 => (if v176.1 = v179.1 then (F_L_law_1553 sc (F_L_law_18 sc n) a0 a1 a2 a3 v179.2) else (some ((0 : Int32), v179.2))) else (if v3 = (32 : Int32) then Option.bind (pg_xI 0 sc a0 (a3 + (1 : Int32))) fun v180 => Option.bind (pg_xI 0 sc a0 (a3 + (2 : Int32))) fun v181 => Option.bind (pg_rcv 11 h a1 (F_X11_read a1 v180 v181 h)) fun v182 => Option.bind (pg_xI 0 sc a0 (a3 + (1 : Int32))) fun v183 => Option.bind (pg_xI 0 sc a0 (a3 + (2 : Int32))) fun v184 => Option.bind (pg_rcv 12 v182.2 a2 (F_X12_read a2 v183 v184 v182.2)) fun v185 => (if v182.1 = v185.1 then (F_L_law_1553 sc (F_L_law_18 sc n) a0 a1 a2 a3 v185.2) else (some ((0 : Int32), v185.2))) else (if v3 = (33 : Int32) then Option.bind (pg_xI 0 sc a0 (a3 + (1 : Int32))) fun v186 => Option.bind (pg_xI 0 sc a0 (a3 + (2 : Int32))) fun v187 => Option.bind (pg_rcv 11 h a1 (F_X11_stops h a1 v186 v187)) fun v188 => Option.bind (pg_xI 0 sc a0 (a3 + (1 : Int32))) fun v189 => Option.bind (pg_xI 0 sc a0 (a3 + (2 : Int32))) fun v190 => Option.bind (pg_rcv 12 h a2 (F_X12_stops h a2 v189 v190)) fun v191 => (if v188 = v191 then (F_L_law_1553 sc (F_L_law_18 sc n) a0 a1 a2 a3 h) else (some ((0 : Int32), h))) else (if v3 = (34 : Int32) then Option.bind (pg_xI 0 sc a0 (a3 + (1 : Int32))) fun v192 => Option.bind (pg_xI 0 sc a0 (a3 + (2 : Int32))) fun v193 => Option.bind (pg_rcv 11 h a1 (F_X11_many h a1 v192 v193)) fun v194 => Option.bind (pg_xI 0 sc a0 (a3 + (1 : Int32))) fun v195 => Option.bind (pg_xI 0 sc a0 (a3 + (2 : Int32))) fun v196 => Option.bind (pg_rcv 12 h a2 (F_X12_many h a2 v195 v196)) fun v197 => (if v194 = v197 then (F_L_law_1553 sc (F_L_law_18 sc n) a0 a1 a2 a3 h) else (some ((0 : Int32), h))) else (if v3 = (35 : Int32) then Option.bind (pg_rcv 11 h a1 (F_X11_chao h a1)) fun v198 => Option.bind (pg_rcv 12 h a2 (F_X12_chao h a2)) fun v199 => (if v198 = v199 then (F_L_law_1553 sc (F_L_law_18 sc n) a0 a1 a2 a3 h) else (some ((0 : Int32), h))) else (if v3 = (36 : Int32) then Option.bind (pg_xI 0 sc a0 (a3 + (1 : Int32))) fun v200 => Option.bind (pg_xI 0 sc a0 (a3 + (2 : Int32))) fun v201 => Option.bind (pg_xI 0 sc a0 (a3 + (3 : Int32))) fun v202 => Option.bind (pg_rcv 11 h a1 (F_X11_censor a1 v200 v201 v202 h)) fun v203 => Option.bind (pg_xI 0 sc a0 (a3 + (1 : Int32))) fun v204 => Option.bind (pg_xI 0 sc a0 (a3 + (2 : Int32))) fun v205 => Option.bind (pg_xI 0 sc a0 (a3 + (3 : Int32))) fun v206 => Option.bind (pg_rcv 12 v203.2 a2 (F_X12_censor a2 v204 v205 v206 v203.2)) fun v207 => (if v203.1 = v207.1 then (F_L_law_1553 sc (F_L_law_18 sc n) a0 a1 a2 a3 v207.2) else (some ((0 : Int32), v207.2))) else (if v3 = (37 : Int32) then Option.bind (pg_xI 0 sc a0 (a3 + (1 : Int32))) fun v208 => Option.bind (pg_xI 0 sc a0 (a3 + (2 : Int32))) fun v209 => Option.bind (pg_rcv 11 h a1 (F_X11_late a1 v208 v209 h)) fun v210 => Option.bind (pg_xI 0 sc a0 (a3 + (1 : Int32))) fun v211 => Option.bind (pg_xI 0 sc a0 (a3 + (2 : Int32))) fun v212 => Option.bind (pg_rcv 12 v210.2 a2 (F_X12_late a2 v211 v212 v210.2)) fun v213 => (if v210.1 = v213.1 then (F_L_law_1553 sc (F_L_law_18 sc n) a0 a1 a2 a3 v213.2) else (some ((0 : Int32), v213.2))) else (if v3 = (38 : Int32) then Option.bind (pg_xI 0 sc a0 (a3 + (1 : Int32))) fun v214 => Option.bind (pg_rcv 11 h a1 (F_X11_next h a1 v214)) fun v215 => Option.bind (pg_xI 0 sc a0 (a3 + (1 : Int32))) fun v216 => Option.bind (pg_rcv 12 h a2 (F_X12_next h a2 v216)) fun v217 => (if v215 = v217 then (F_L_law_1553 sc (F_L_law_18 sc n) a0 a1 a2 a3 h) else (some ((0 : Int32), h))) else (if v3 = (39 : Int32) then Option.bind (pg_xI 0 sc a0 (a3 + (1 : Int32))) fun v218 => Option.bind (pg_rcv 11 h a1 (F_X11_run a1 v218 h)) fun v219 => Option.bind (pg_xI 0 sc a0 (a3 + (1 : Int32))) fun v220 => Option.bind (pg_rcv 12 v219.2 a2 (F_X12_run a2 v220 v219.2)) fun v221 => (if v219.1 = v221.1 then (F_L_law_1553 sc (F_L_law_18 sc n) a0 a1 a2 a3 v221.2) else (some ((0 : Int32), v221.2))) else (if v3 = (40 : Int32) then Option.bind (pg_xI 0 sc a0 (a3 + (1 : Int32))) fun v222 => Option.bind (pg_xI 0 sc a0 (a3 + (2 : Int32))) fun v223 => Option.bind (pg_rcv 11 h a1 (F_X11_world h a1 v222 v223)) fun v224 => Option.bind (pg_xI 0 sc a0 (a3 + (1 : Int32))) fun v225 => Option.bind (pg_xI 0 sc a0 (a3 + (2 : Int32))) fun v226 => Option.bind (pg_rcv 12 h a2 (F_X12_world h a2 v225 v226)) fun v227 => (if v224 = v227 then (F_L_law_1553 sc (F_L_law_18 sc n) a0 a1 a2 a3 h) else (some ((0 : Int32), h))) else (if v3 = (41 : Int32) then Option.bind (pg_xI 0 sc a0 (a3 + (1 : Int32))) fun v228 => Option.bind (pg_rcv 11 h a1 (F_X11_image a1 v228 h)) fun v229 => Option.bind (pg_xI 0 sc a0 (a3 + (1 : Int32))) fun v230 => Option.bind (pg_rcv 12 v229.2 a2 (F_X12_image a2 v230 v229.2)) fun v231 => (if v229.1 = v231.1 then (F_L_law_1553 sc (F_L_law_18 sc n) a0 a1 a2 a3 v231.2) else (some ((0 : Int32), v231.2))) else (if v3 = (42 : Int32) then Option.bind (pg_xI 0 sc a0 (a3 + (1 : Int32))) fun v232 => Option.bind (pg_rcv 11 h a1 (F_X11_back a1 v232 h)) fun v233 => Option.bind (pg_xI 0 sc a0 (a3 + (1 : Int32))) fun v234 => Option.bind (pg_rcv 12 v233.2 a2 (F_X12_back a2 v234 v233.2)) fun v235 => (if v233.1 = v235.1 then (F_L_law_1553 sc (F_L_law_18 sc n) a0 a1 a2 a3 v235.2) else (some ((0 : Int32), v235.2))) else (if v3 = (43 : Int32) then Option.bind (pg_xI 0 sc a0 (a3 + (1 : Int32))) fun v236 => Option.bind (pg_rcv 11 h a1 (F_X11_count h a1 v236)) fun v237 => Option.bind (pg_xI 0 sc a0 (a3 + (1 : Int32))) fun v238 => Option.bind (pg_rcv 12 h a2 (F_X12_count h a2 v238)) fun v239 => (if v237 = v239 then (F_L_law_1553 sc (F_L_law_18 sc n) a0 a1 a2 a3 h) else (some ((0 : Int32), h))) else (if v3 = (44 : Int32) then Option.bind (pg_rcv 11 h a1 (F_X11_status h a1)) fun v240 => Option.bind (pg_rcv 12 h a2 (F_X12_status h a2)) fun v241 => (if v240 = v241 then (F_L_law_1553 sc (F_L_law_18 sc n) a0 a1 a2 a3 h) else (some ((0 : Int32), h))) else (F_L_law_1553 sc (F_L_law_18 sc n) a0 a1 a2 a3 h)))))))))))))))))))))))))))))))))))))))))))))))
def F_L_law (sc : Nat × (Nat → Int32)) (a0 : Nat) (h : pg_H) : Option (Int32 × pg_H) := Option.bind (pg_new 11 16 h) fun v1 => Option.bind (pg_rcv 11 v1.2 v1.1 (F_X11_init v1.1 v1.2)) fun v2 => Option.bind (pg_new 12 46 v2) fun v3 => Option.bind (pg_rcv 12 v3.2 v3.1 (F_X12_init v3.1 v3.2)) fun v4 => (F_L_law_18 sc pg_fuel a0 v1.1 v3.1 (0 : Int32) v4)
theorem e_L_law_1553 (l : Launch) (D : pg_D) (nm : String) (sc : Nat × (Nat → Int32)) (hsc : pg_sx D 0 = sc)  (k18 : Nat → Nat → Nat → Int32 → pg_H → Option (Int32 × pg_H)) (hk18 : ∀ (a0 : Nat) (a1 : Nat) (a2 : Nat) (a3 : Int32) (h : pg_H), pg_EvF l D RL cL_law 4 (some FieldType.boolean) nm 1313 34028 pg_wI (k18 a0 a1 a2 a3 h) 18 [(0, pR a0), (1, pR a1), (2, pR a2), (3, pI a3)] [] h) (a0 : Nat) (a1 : Nat) (a2 : Nat) (a3 : Int32) (h : pg_H) : pg_EvF l D RL cL_law 4 (some FieldType.boolean) nm 1313 34028 pg_wI (F_L_law_1553 sc k18 a0 a1 a2 a3 h) 1553 [(0, pR a0), (1, pR a1), (2, pR a2), (3, pI a3)] [] h := by
  unfold F_L_law_1553
  refine pg_iinc (lv' := [(3, pI (a3 + (6 : Int32))), (0, pR a0), (1, pR a1), (2, pR a2)]) dL_law_1553 3 rfl ci_6 (by decide) rfl ?_
  refine pg_goto (tgt := 18) dL_law_1556 rfl ?_
  exact pg_to (hk18 a0 a1 a2 (a3 + (6 : Int32)) h) [1, 2, 3, 0] rfl
theorem e_L_law_18 (l : Launch) (D : pg_D) (nm : String) (sc : Nat × (Nat → Int32)) (hsc : pg_sx D 0 = sc)   : ∀ (n : Nat) (a0 : Nat) (a1 : Nat) (a2 : Nat) (a3 : Int32) (h : pg_H), pg_EvF l D RL cL_law 4 (some FieldType.boolean) nm 1313 34028 pg_wI (F_L_law_18 sc n a0 a1 a2 a3 h) 18 [(0, pR a0), (1, pR a1), (2, pR a2), (3, pI a3)] [] h := by
  intro n
  induction n with
  | zero => intro a0 a1 a2 a3 h; exact pg_none
  | succ n ih =>
    intro a0 a1 a2 a3 h
    rw [F_L_law_18]
    refine pg_iload_n (i := 3) dL_law_18 rfl 3 rfl ?_
    refine pg_aload_n (i := 0) dL_law_19 rfl 0 rfl ?_
    refine pg_xalen 0 (by decide) (fun _ => hsc) dL_law_20 (fun v1 => ?_)
    refine pg_bipush dL_law_21 cb_6 ?_
    refine pg_isub dL_law_23 ?_
    refine pg_icmp_gt (tgt := 1559) dL_law_24 rfl ?_ ?_
    · refine pg_iconst dL_law_1559 ci_1 ?_
      exact pg_zret dL_law_1560 rfl (Or.inr rfl) rfl
    · refine pg_aload_n (i := 0) dL_law_27 rfl 0 rfl ?_
      refine pg_iload_n (i := 3) dL_law_28 rfl 3 rfl ?_
      refine pg_xaload 0 (by decide) (fun _ => hsc) dL_law_29 (fun v2 => ?_)
      refine pg_bipush dL_law_30 cb_63 ?_
      refine pg_iand dL_law_32 ?_
      refine pg_letI (fun v3 => ?_)
      refine pg_ite (fun hc0 => ?_) (fun hn0 => ?_)
      · refine pg_swIn (tgt := 228) (j := 0) dL_law_33 (by rw [hc0]; decide) (by decide) rfl rfl ?_
        refine pg_aload_n (i := 1) dL_law_228 rfl 1 rfl ?_
        refine pg_aload_n (i := 0) dL_law_229 rfl 0 rfl ?_
        refine pg_iload_n (i := 3) dL_law_230 rfl 3 rfl ?_
        refine pg_iconst dL_law_231 ci_1 ?_
        refine pg_iadd dL_law_232 ?_
        refine pg_xaload 0 (by decide) (fun _ => hsc) dL_law_233 (fun v4 => ?_)
        refine pg_aload_n (i := 0) dL_law_234 rfl 0 rfl ?_
        refine pg_iload_n (i := 3) dL_law_235 rfl 3 rfl ?_
        refine pg_iconst dL_law_236 ci_2 ?_
        refine pg_iadd dL_law_237 ?_
        refine pg_xaload 0 (by decide) (fun _ => hsc) dL_law_238 (fun v5 => ?_)
        refine pg_callV_wI (As := [pI v4, pI v5]) (rs := []) dL_law_239 lk_RL_13 vy_X11_copy nd_X11_copy (c_X11_copy l D a1 v4 v5 h) rfl rfl (Nat.le_of_ble_eq_true rfl) (by decide) (by decide) (fun v6 => ?_)
        refine pg_aload_n (i := 2) dL_law_242 rfl 2 rfl ?_
        refine pg_aload_n (i := 0) dL_law_243 rfl 0 rfl ?_
        refine pg_iload_n (i := 3) dL_law_244 rfl 3 rfl ?_
        refine pg_iconst dL_law_245 ci_1 ?_
        refine pg_iadd dL_law_246 ?_
        refine pg_xaload 0 (by decide) (fun _ => hsc) dL_law_247 (fun v7 => ?_)
        refine pg_aload_n (i := 0) dL_law_248 rfl 0 rfl ?_
        refine pg_iload_n (i := 3) dL_law_249 rfl 3 rfl ?_
        refine pg_iconst dL_law_250 ci_2 ?_
        refine pg_iadd dL_law_251 ?_
        refine pg_xaload 0 (by decide) (fun _ => hsc) dL_law_252 (fun v8 => ?_)
        refine pg_callV_wI (As := [pI v7, pI v8]) (rs := [pI v6.1]) dL_law_253 lk_RL_17 vy_X12_copy nd_X12_copy (c_X12_copy l D a2 v7 v8 v6.2) rfl rfl (Nat.le_of_ble_eq_true rfl) (by decide) (by decide) (fun v9 => ?_)
        refine pg_icmp_eq (tgt := 1553) dL_law_256 rfl ?_ ?_
        · exact pg_to (e_L_law_1553 l D nm sc hsc (F_L_law_18 sc n) ih a0 a1 a2 a3 v9.2) [0, 1, 2, 3] rfl
        · refine pg_iconst dL_law_259 ci_0 ?_
          exact pg_zret dL_law_260 rfl (Or.inl rfl) rfl
      refine pg_ite (fun hc1 => ?_) (fun hn1 => ?_)
      · refine pg_swIn (tgt := 261) (j := 1) dL_law_33 (by rw [hc1]; decide) (by decide) rfl rfl ?_
        refine pg_aload_n (i := 1) dL_law_261 rfl 1 rfl ?_
        refine pg_aload_n (i := 0) dL_law_262 rfl 0 rfl ?_
        refine pg_iload_n (i := 3) dL_law_263 rfl 3 rfl ?_
        refine pg_iconst dL_law_264 ci_1 ?_
        refine pg_iadd dL_law_265 ?_
        refine pg_xaload 0 (by decide) (fun _ => hsc) dL_law_266 (fun v10 => ?_)
        refine pg_aload_n (i := 0) dL_law_267 rfl 0 rfl ?_
        refine pg_iload_n (i := 3) dL_law_268 rfl 3 rfl ?_
        refine pg_iconst dL_law_269 ci_2 ?_
        refine pg_iadd dL_law_270 ?_
        refine pg_xaload 0 (by decide) (fun _ => hsc) dL_law_271 (fun v11 => ?_)
        refine pg_callV_wI (As := [pI v10, pI v11]) (rs := []) dL_law_272 lk_RL_18 vy_X11_look nd_X11_look (c_X11_look l D a1 v10 v11 h) rfl rfl (Nat.le_of_ble_eq_true rfl) (by decide) (by decide) (fun v12 => ?_)
        refine pg_aload_n (i := 2) dL_law_275 rfl 2 rfl ?_
        refine pg_aload_n (i := 0) dL_law_276 rfl 0 rfl ?_
        refine pg_iload_n (i := 3) dL_law_277 rfl 3 rfl ?_
        refine pg_iconst dL_law_278 ci_1 ?_
        refine pg_iadd dL_law_279 ?_
        refine pg_xaload 0 (by decide) (fun _ => hsc) dL_law_280 (fun v13 => ?_)
        refine pg_aload_n (i := 0) dL_law_281 rfl 0 rfl ?_
        refine pg_iload_n (i := 3) dL_law_282 rfl 3 rfl ?_
        refine pg_iconst dL_law_283 ci_2 ?_
        refine pg_iadd dL_law_284 ?_
        refine pg_xaload 0 (by decide) (fun _ => hsc) dL_law_285 (fun v14 => ?_)
        refine pg_callV_wI (As := [pI v13, pI v14]) (rs := [pI v12.1]) dL_law_286 lk_RL_21 vy_X12_look nd_X12_look (c_X12_look l D a2 v13 v14 v12.2) rfl rfl (Nat.le_of_ble_eq_true rfl) (by decide) (by decide) (fun v15 => ?_)
        refine pg_icmp_eq (tgt := 1553) dL_law_289 rfl ?_ ?_
        · exact pg_to (e_L_law_1553 l D nm sc hsc (F_L_law_18 sc n) ih a0 a1 a2 a3 v15.2) [0, 1, 2, 3] rfl
        · refine pg_iconst dL_law_292 ci_0 ?_
          exact pg_zret dL_law_293 rfl (Or.inl rfl) rfl
      refine pg_ite (fun hc2 => ?_) (fun hn2 => ?_)
      · refine pg_swIn (tgt := 294) (j := 2) dL_law_33 (by rw [hc2]; decide) (by decide) rfl rfl ?_
        refine pg_aload_n (i := 1) dL_law_294 rfl 1 rfl ?_
        refine pg_aload_n (i := 0) dL_law_295 rfl 0 rfl ?_
        refine pg_iload_n (i := 3) dL_law_296 rfl 3 rfl ?_
        refine pg_iconst dL_law_297 ci_1 ?_
        refine pg_iadd dL_law_298 ?_
        refine pg_xaload 0 (by decide) (fun _ => hsc) dL_law_299 (fun v16 => ?_)
        refine pg_aload_n (i := 0) dL_law_300 rfl 0 rfl ?_
        refine pg_iload_n (i := 3) dL_law_301 rfl 3 rfl ?_
        refine pg_iconst dL_law_302 ci_2 ?_
        refine pg_iadd dL_law_303 ?_
        refine pg_xaload 0 (by decide) (fun _ => hsc) dL_law_304 (fun v17 => ?_)
        refine pg_aload_n (i := 0) dL_law_305 rfl 0 rfl ?_
        refine pg_iload_n (i := 3) dL_law_306 rfl 3 rfl ?_
        refine pg_iconst dL_law_307 ci_3 ?_
        refine pg_iadd dL_law_308 ?_
        refine pg_xaload 0 (by decide) (fun _ => hsc) dL_law_309 (fun v18 => ?_)
        refine pg_aload_n (i := 0) dL_law_310 rfl 0 rfl ?_
        refine pg_iload_n (i := 3) dL_law_311 rfl 3 rfl ?_
        refine pg_iconst dL_law_312 ci_4 ?_
        refine pg_iadd dL_law_313 ?_
        refine pg_xaload 0 (by decide) (fun _ => hsc) dL_law_314 (fun v19 => ?_)
        refine pg_callV_wI (As := [pI v16, pI v17, pI v18, pI v19]) (rs := []) dL_law_315 lk_RL_22 vy_X11_stay nd_X11_stay (c_X11_stay l D a1 v16 v17 v18 v19 h) rfl rfl (Nat.le_of_ble_eq_true rfl) (by decide) (by decide) (fun v20 => ?_)
        refine pg_aload_n (i := 2) dL_law_318 rfl 2 rfl ?_
        refine pg_aload_n (i := 0) dL_law_319 rfl 0 rfl ?_
        refine pg_iload_n (i := 3) dL_law_320 rfl 3 rfl ?_
        refine pg_iconst dL_law_321 ci_1 ?_
        refine pg_iadd dL_law_322 ?_
        refine pg_xaload 0 (by decide) (fun _ => hsc) dL_law_323 (fun v21 => ?_)
        refine pg_aload_n (i := 0) dL_law_324 rfl 0 rfl ?_
        refine pg_iload_n (i := 3) dL_law_325 rfl 3 rfl ?_
        refine pg_iconst dL_law_326 ci_2 ?_
        refine pg_iadd dL_law_327 ?_
        refine pg_xaload 0 (by decide) (fun _ => hsc) dL_law_328 (fun v22 => ?_)
        refine pg_aload_n (i := 0) dL_law_329 rfl 0 rfl ?_
        refine pg_iload_n (i := 3) dL_law_330 rfl 3 rfl ?_
        refine pg_iconst dL_law_331 ci_3 ?_
        refine pg_iadd dL_law_332 ?_
        refine pg_xaload 0 (by decide) (fun _ => hsc) dL_law_333 (fun v23 => ?_)
        refine pg_aload_n (i := 0) dL_law_334 rfl 0 rfl ?_
        refine pg_iload_n (i := 3) dL_law_335 rfl 3 rfl ?_
        refine pg_iconst dL_law_336 ci_4 ?_
        refine pg_iadd dL_law_337 ?_
        refine pg_xaload 0 (by decide) (fun _ => hsc) dL_law_338 (fun v24 => ?_)
        refine pg_callV_wI (As := [pI v21, pI v22, pI v23, pI v24]) (rs := [pI v20.1]) dL_law_339 lk_RL_26 vy_X12_stay nd_X12_stay (c_X12_stay l D a2 v21 v22 v23 v24 v20.2) rfl rfl (Nat.le_of_ble_eq_true rfl) (by decide) (by decide) (fun v25 => ?_)
        refine pg_icmp_eq (tgt := 1553) dL_law_342 rfl ?_ ?_
        · exact pg_to (e_L_law_1553 l D nm sc hsc (F_L_law_18 sc n) ih a0 a1 a2 a3 v25.2) [0, 1, 2, 3] rfl
        · refine pg_iconst dL_law_345 ci_0 ?_
          exact pg_zret dL_law_346 rfl (Or.inl rfl) rfl
      refine pg_ite (fun hc3 => ?_) (fun hn3 => ?_)
      · refine pg_swIn (tgt := 347) (j := 3) dL_law_33 (by rw [hc3]; decide) (by decide) rfl rfl ?_
        refine pg_aload_n (i := 1) dL_law_347 rfl 1 rfl ?_
        refine pg_aload_n (i := 0) dL_law_348 rfl 0 rfl ?_
        refine pg_iload_n (i := 3) dL_law_349 rfl 3 rfl ?_
        refine pg_iconst dL_law_350 ci_1 ?_
        refine pg_iadd dL_law_351 ?_
        refine pg_xaload 0 (by decide) (fun _ => hsc) dL_law_352 (fun v26 => ?_)
        refine pg_aload_n (i := 0) dL_law_353 rfl 0 rfl ?_
        refine pg_iload_n (i := 3) dL_law_354 rfl 3 rfl ?_
        refine pg_iconst dL_law_355 ci_2 ?_
        refine pg_iadd dL_law_356 ?_
        refine pg_xaload 0 (by decide) (fun _ => hsc) dL_law_357 (fun v27 => ?_)
        refine pg_callV_wI (As := [pI v26, pI v27]) (rs := []) dL_law_358 lk_RL_27 vy_X11_hand nd_X11_hand (c_X11_hand l D a1 v26 v27 h) rfl rfl (Nat.le_of_ble_eq_true rfl) (by decide) (by decide) (fun v28 => ?_)
        refine pg_aload_n (i := 2) dL_law_361 rfl 2 rfl ?_
        refine pg_aload_n (i := 0) dL_law_362 rfl 0 rfl ?_
        refine pg_iload_n (i := 3) dL_law_363 rfl 3 rfl ?_
        refine pg_iconst dL_law_364 ci_1 ?_
        refine pg_iadd dL_law_365 ?_
        refine pg_xaload 0 (by decide) (fun _ => hsc) dL_law_366 (fun v29 => ?_)
        refine pg_aload_n (i := 0) dL_law_367 rfl 0 rfl ?_
        refine pg_iload_n (i := 3) dL_law_368 rfl 3 rfl ?_
        refine pg_iconst dL_law_369 ci_2 ?_
        refine pg_iadd dL_law_370 ?_
        refine pg_xaload 0 (by decide) (fun _ => hsc) dL_law_371 (fun v30 => ?_)
        refine pg_callV_wI (As := [pI v29, pI v30]) (rs := [pI v28.1]) dL_law_372 lk_RL_30 vy_X12_hand nd_X12_hand (c_X12_hand l D a2 v29 v30 v28.2) rfl rfl (Nat.le_of_ble_eq_true rfl) (by decide) (by decide) (fun v31 => ?_)
        refine pg_icmp_eq (tgt := 1553) dL_law_375 rfl ?_ ?_
        · exact pg_to (e_L_law_1553 l D nm sc hsc (F_L_law_18 sc n) ih a0 a1 a2 a3 v31.2) [0, 1, 2, 3] rfl
        · refine pg_iconst dL_law_378 ci_0 ?_
          exact pg_zret dL_law_379 rfl (Or.inl rfl) rfl
      refine pg_ite (fun hc4 => ?_) (fun hn4 => ?_)
      · refine pg_swIn (tgt := 380) (j := 4) dL_law_33 (by rw [hc4]; decide) (by decide) rfl rfl ?_
        refine pg_aload_n (i := 1) dL_law_380 rfl 1 rfl ?_
        refine pg_aload_n (i := 0) dL_law_381 rfl 0 rfl ?_
        refine pg_iload_n (i := 3) dL_law_382 rfl 3 rfl ?_
        refine pg_iconst dL_law_383 ci_1 ?_
        refine pg_iadd dL_law_384 ?_
        refine pg_xaload 0 (by decide) (fun _ => hsc) dL_law_385 (fun v32 => ?_)
        refine pg_aload_n (i := 0) dL_law_386 rfl 0 rfl ?_
        refine pg_iload_n (i := 3) dL_law_387 rfl 3 rfl ?_
        refine pg_iconst dL_law_388 ci_2 ?_
        refine pg_iadd dL_law_389 ?_
        refine pg_xaload 0 (by decide) (fun _ => hsc) dL_law_390 (fun v33 => ?_)
        refine pg_aload_n (i := 0) dL_law_391 rfl 0 rfl ?_
        refine pg_iload_n (i := 3) dL_law_392 rfl 3 rfl ?_
        refine pg_iconst dL_law_393 ci_3 ?_
        refine pg_iadd dL_law_394 ?_
        refine pg_xaload 0 (by decide) (fun _ => hsc) dL_law_395 (fun v34 => ?_)
        refine pg_callV_wI (As := [pI v32, pI v33, pI v34]) (rs := []) dL_law_396 lk_RL_31 vy_X11_form nd_X11_form (c_X11_form l D a1 v32 v33 v34 h) rfl rfl (Nat.le_of_ble_eq_true rfl) (by decide) (by decide) (fun v35 => ?_)
        refine pg_aload_n (i := 2) dL_law_399 rfl 2 rfl ?_
        refine pg_aload_n (i := 0) dL_law_400 rfl 0 rfl ?_
        refine pg_iload_n (i := 3) dL_law_401 rfl 3 rfl ?_
        refine pg_iconst dL_law_402 ci_1 ?_
        refine pg_iadd dL_law_403 ?_
        refine pg_xaload 0 (by decide) (fun _ => hsc) dL_law_404 (fun v36 => ?_)
        refine pg_aload_n (i := 0) dL_law_405 rfl 0 rfl ?_
        refine pg_iload_n (i := 3) dL_law_406 rfl 3 rfl ?_
        refine pg_iconst dL_law_407 ci_2 ?_
        refine pg_iadd dL_law_408 ?_
        refine pg_xaload 0 (by decide) (fun _ => hsc) dL_law_409 (fun v37 => ?_)
        refine pg_aload_n (i := 0) dL_law_410 rfl 0 rfl ?_
        refine pg_iload_n (i := 3) dL_law_411 rfl 3 rfl ?_
        refine pg_iconst dL_law_412 ci_3 ?_
        refine pg_iadd dL_law_413 ?_
        refine pg_xaload 0 (by decide) (fun _ => hsc) dL_law_414 (fun v38 => ?_)
        refine pg_callV_wI (As := [pI v36, pI v37, pI v38]) (rs := [pI v35.1]) dL_law_415 lk_RL_35 vy_X12_form nd_X12_form (c_X12_form l D a2 v36 v37 v38 v35.2) rfl rfl (Nat.le_of_ble_eq_true rfl) (by decide) (by decide) (fun v39 => ?_)
        refine pg_icmp_eq (tgt := 1553) dL_law_418 rfl ?_ ?_
        · exact pg_to (e_L_law_1553 l D nm sc hsc (F_L_law_18 sc n) ih a0 a1 a2 a3 v39.2) [0, 1, 2, 3] rfl
        · refine pg_iconst dL_law_421 ci_0 ?_
          exact pg_zret dL_law_422 rfl (Or.inl rfl) rfl
      refine pg_ite (fun hc5 => ?_) (fun hn5 => ?_)
      · refine pg_swIn (tgt := 423) (j := 5) dL_law_33 (by rw [hc5]; decide) (by decide) rfl rfl ?_
        refine pg_aload_n (i := 1) dL_law_423 rfl 1 rfl ?_
        refine pg_aload_n (i := 0) dL_law_424 rfl 0 rfl ?_
        refine pg_iload_n (i := 3) dL_law_425 rfl 3 rfl ?_
        refine pg_iconst dL_law_426 ci_1 ?_
        refine pg_iadd dL_law_427 ?_
        refine pg_xaload 0 (by decide) (fun _ => hsc) dL_law_428 (fun v40 => ?_)
        refine pg_aload_n (i := 0) dL_law_429 rfl 0 rfl ?_
        refine pg_iload_n (i := 3) dL_law_430 rfl 3 rfl ?_
        refine pg_iconst dL_law_431 ci_2 ?_
        refine pg_iadd dL_law_432 ?_
        refine pg_xaload 0 (by decide) (fun _ => hsc) dL_law_433 (fun v41 => ?_)
        refine pg_aload_n (i := 0) dL_law_434 rfl 0 rfl ?_
        refine pg_iload_n (i := 3) dL_law_435 rfl 3 rfl ?_
        refine pg_iconst dL_law_436 ci_3 ?_
        refine pg_iadd dL_law_437 ?_
        refine pg_xaload 0 (by decide) (fun _ => hsc) dL_law_438 (fun v42 => ?_)
        refine pg_callV_wI (As := [pI v40, pI v41, pI v42]) (rs := []) dL_law_439 lk_RL_36 vy_X11_sample nd_X11_sample (c_X11_sample l D a1 v40 v41 v42 h) rfl rfl (Nat.le_of_ble_eq_true rfl) (by decide) (by decide) (fun v43 => ?_)
        refine pg_aload_n (i := 2) dL_law_442 rfl 2 rfl ?_
        refine pg_aload_n (i := 0) dL_law_443 rfl 0 rfl ?_
        refine pg_iload_n (i := 3) dL_law_444 rfl 3 rfl ?_
        refine pg_iconst dL_law_445 ci_1 ?_
        refine pg_iadd dL_law_446 ?_
        refine pg_xaload 0 (by decide) (fun _ => hsc) dL_law_447 (fun v44 => ?_)
        refine pg_aload_n (i := 0) dL_law_448 rfl 0 rfl ?_
        refine pg_iload_n (i := 3) dL_law_449 rfl 3 rfl ?_
        refine pg_iconst dL_law_450 ci_2 ?_
        refine pg_iadd dL_law_451 ?_
        refine pg_xaload 0 (by decide) (fun _ => hsc) dL_law_452 (fun v45 => ?_)
        refine pg_aload_n (i := 0) dL_law_453 rfl 0 rfl ?_
        refine pg_iload_n (i := 3) dL_law_454 rfl 3 rfl ?_
        refine pg_iconst dL_law_455 ci_3 ?_
        refine pg_iadd dL_law_456 ?_
        refine pg_xaload 0 (by decide) (fun _ => hsc) dL_law_457 (fun v46 => ?_)
        refine pg_callV_wI (As := [pI v44, pI v45, pI v46]) (rs := [pI v43.1]) dL_law_458 lk_RL_39 vy_X12_sample nd_X12_sample (c_X12_sample l D a2 v44 v45 v46 v43.2) rfl rfl (Nat.le_of_ble_eq_true rfl) (by decide) (by decide) (fun v47 => ?_)
        refine pg_icmp_eq (tgt := 1553) dL_law_461 rfl ?_ ?_
        · exact pg_to (e_L_law_1553 l D nm sc hsc (F_L_law_18 sc n) ih a0 a1 a2 a3 v47.2) [0, 1, 2, 3] rfl
        · refine pg_iconst dL_law_464 ci_0 ?_
          exact pg_zret dL_law_465 rfl (Or.inl rfl) rfl
      refine pg_ite (fun hc6 => ?_) (fun hn6 => ?_)
      · refine pg_swIn (tgt := 466) (j := 6) dL_law_33 (by rw [hc6]; decide) (by decide) rfl rfl ?_
        refine pg_aload_n (i := 1) dL_law_466 rfl 1 rfl ?_
        refine pg_aload_n (i := 0) dL_law_467 rfl 0 rfl ?_
        refine pg_iload_n (i := 3) dL_law_468 rfl 3 rfl ?_
        refine pg_iconst dL_law_469 ci_1 ?_
        refine pg_iadd dL_law_470 ?_
        refine pg_xaload 0 (by decide) (fun _ => hsc) dL_law_471 (fun v48 => ?_)
        refine pg_aload_n (i := 0) dL_law_472 rfl 0 rfl ?_
        refine pg_iload_n (i := 3) dL_law_473 rfl 3 rfl ?_
        refine pg_iconst dL_law_474 ci_2 ?_
        refine pg_iadd dL_law_475 ?_
        refine pg_xaload 0 (by decide) (fun _ => hsc) dL_law_476 (fun v49 => ?_)
        refine pg_aload_n (i := 0) dL_law_477 rfl 0 rfl ?_
        refine pg_iload_n (i := 3) dL_law_478 rfl 3 rfl ?_
        refine pg_iconst dL_law_479 ci_3 ?_
        refine pg_iadd dL_law_480 ?_
        refine pg_xaload 0 (by decide) (fun _ => hsc) dL_law_481 (fun v50 => ?_)
        refine pg_aload_n (i := 0) dL_law_482 rfl 0 rfl ?_
        refine pg_iload_n (i := 3) dL_law_483 rfl 3 rfl ?_
        refine pg_iconst dL_law_484 ci_4 ?_
        refine pg_iadd dL_law_485 ?_
        refine pg_xaload 0 (by decide) (fun _ => hsc) dL_law_486 (fun v51 => ?_)
        refine pg_aload_n (i := 0) dL_law_487 rfl 0 rfl ?_
        refine pg_iload_n (i := 3) dL_law_488 rfl 3 rfl ?_
        refine pg_iconst dL_law_489 ci_5 ?_
        refine pg_iadd dL_law_490 ?_
        refine pg_xaload 0 (by decide) (fun _ => hsc) dL_law_491 (fun v52 => ?_)
        refine pg_callV_wI (As := [pI v48, pI v49, pI v50, pI v51, pI v52]) (rs := []) dL_law_492 lk_RL_40 vy_X11_note nd_X11_note (c_X11_note l D a1 v48 v49 v50 v51 v52 h) rfl rfl (Nat.le_of_ble_eq_true rfl) (by decide) (by decide) (fun v53 => ?_)
        refine pg_aload_n (i := 2) dL_law_495 rfl 2 rfl ?_
        refine pg_aload_n (i := 0) dL_law_496 rfl 0 rfl ?_
        refine pg_iload_n (i := 3) dL_law_497 rfl 3 rfl ?_
        refine pg_iconst dL_law_498 ci_1 ?_
        refine pg_iadd dL_law_499 ?_
        refine pg_xaload 0 (by decide) (fun _ => hsc) dL_law_500 (fun v54 => ?_)
        refine pg_aload_n (i := 0) dL_law_501 rfl 0 rfl ?_
        refine pg_iload_n (i := 3) dL_law_502 rfl 3 rfl ?_
        refine pg_iconst dL_law_503 ci_2 ?_
        refine pg_iadd dL_law_504 ?_
        refine pg_xaload 0 (by decide) (fun _ => hsc) dL_law_505 (fun v55 => ?_)
        refine pg_aload_n (i := 0) dL_law_506 rfl 0 rfl ?_
        refine pg_iload_n (i := 3) dL_law_507 rfl 3 rfl ?_
        refine pg_iconst dL_law_508 ci_3 ?_
        refine pg_iadd dL_law_509 ?_
        refine pg_xaload 0 (by decide) (fun _ => hsc) dL_law_510 (fun v56 => ?_)
        refine pg_aload_n (i := 0) dL_law_511 rfl 0 rfl ?_
        refine pg_iload_n (i := 3) dL_law_512 rfl 3 rfl ?_
        refine pg_iconst dL_law_513 ci_4 ?_
        refine pg_iadd dL_law_514 ?_
        refine pg_xaload 0 (by decide) (fun _ => hsc) dL_law_515 (fun v57 => ?_)
        refine pg_aload_n (i := 0) dL_law_516 rfl 0 rfl ?_
        refine pg_iload_n (i := 3) dL_law_517 rfl 3 rfl ?_
        refine pg_iconst dL_law_518 ci_5 ?_
        refine pg_iadd dL_law_519 ?_
        refine pg_xaload 0 (by decide) (fun _ => hsc) dL_law_520 (fun v58 => ?_)
        refine pg_callV_wI (As := [pI v54, pI v55, pI v56, pI v57, pI v58]) (rs := [pI v53.1]) dL_law_521 lk_RL_44 vy_X12_note nd_X12_note (c_X12_note l D a2 v54 v55 v56 v57 v58 v53.2) rfl rfl (Nat.le_of_ble_eq_true rfl) (by decide) (by decide) (fun v59 => ?_)
        refine pg_icmp_eq (tgt := 1553) dL_law_524 rfl ?_ ?_
        · exact pg_to (e_L_law_1553 l D nm sc hsc (F_L_law_18 sc n) ih a0 a1 a2 a3 v59.2) [0, 1, 2, 3] rfl
        · refine pg_iconst dL_law_527 ci_0 ?_
          exact pg_zret dL_law_528 rfl (Or.inl rfl) rfl
      refine pg_ite (fun hc7 => ?_) (fun hn7 => ?_)
      · refine pg_swIn (tgt := 529) (j := 7) dL_law_33 (by rw [hc7]; decide) (by decide) rfl rfl ?_
        refine pg_aload_n (i := 1) dL_law_529 rfl 1 rfl ?_
        refine pg_aload_n (i := 0) dL_law_530 rfl 0 rfl ?_
        refine pg_iload_n (i := 3) dL_law_531 rfl 3 rfl ?_
        refine pg_iconst dL_law_532 ci_1 ?_
        refine pg_iadd dL_law_533 ?_
        refine pg_xaload 0 (by decide) (fun _ => hsc) dL_law_534 (fun v60 => ?_)
        refine pg_aload_n (i := 0) dL_law_535 rfl 0 rfl ?_
        refine pg_iload_n (i := 3) dL_law_536 rfl 3 rfl ?_
        refine pg_iconst dL_law_537 ci_2 ?_
        refine pg_iadd dL_law_538 ?_
        refine pg_xaload 0 (by decide) (fun _ => hsc) dL_law_539 (fun v61 => ?_)
        refine pg_callV_wI (As := [pI v60, pI v61]) (rs := []) dL_law_540 lk_RL_45 vy_X11_of nd_X11_of (c_X11_of l D a1 v60 v61 h) rfl rfl (Nat.le_of_ble_eq_true rfl) (by decide) (by decide) (fun v62 => ?_)
        refine pg_aload_n (i := 2) dL_law_543 rfl 2 rfl ?_
        refine pg_aload_n (i := 0) dL_law_544 rfl 0 rfl ?_
        refine pg_iload_n (i := 3) dL_law_545 rfl 3 rfl ?_
        refine pg_iconst dL_law_546 ci_1 ?_
        refine pg_iadd dL_law_547 ?_
        refine pg_xaload 0 (by decide) (fun _ => hsc) dL_law_548 (fun v63 => ?_)
        refine pg_aload_n (i := 0) dL_law_549 rfl 0 rfl ?_
        refine pg_iload_n (i := 3) dL_law_550 rfl 3 rfl ?_
        refine pg_iconst dL_law_551 ci_2 ?_
        refine pg_iadd dL_law_552 ?_
        refine pg_xaload 0 (by decide) (fun _ => hsc) dL_law_553 (fun v64 => ?_)
        refine pg_callV_oI (As := [pI v63, pI v64]) (rs := [pI v62.1]) dL_law_554 lk_RL_48 vy_X12_of nd_X12_of (c_X12_of l D v62.2 a2 v63 v64) rfl rfl (Nat.le_of_ble_eq_true rfl) (by decide) (by decide) (fun v65 => ?_)
        refine pg_icmp_eq (tgt := 1553) dL_law_557 rfl ?_ ?_
        · exact pg_to (e_L_law_1553 l D nm sc hsc (F_L_law_18 sc n) ih a0 a1 a2 a3 v62.2) [0, 1, 2, 3] rfl
        · refine pg_iconst dL_law_560 ci_0 ?_
          exact pg_zret dL_law_561 rfl (Or.inl rfl) rfl
      refine pg_ite (fun hc8 => ?_) (fun hn8 => ?_)
      · refine pg_swIn (tgt := 562) (j := 8) dL_law_33 (by rw [hc8]; decide) (by decide) rfl rfl ?_
        refine pg_aload_n (i := 1) dL_law_562 rfl 1 rfl ?_
        refine pg_aload_n (i := 0) dL_law_563 rfl 0 rfl ?_
        refine pg_iload_n (i := 3) dL_law_564 rfl 3 rfl ?_
        refine pg_iconst dL_law_565 ci_1 ?_
        refine pg_iadd dL_law_566 ?_
        refine pg_xaload 0 (by decide) (fun _ => hsc) dL_law_567 (fun v66 => ?_)
        refine pg_aload_n (i := 0) dL_law_568 rfl 0 rfl ?_
        refine pg_iload_n (i := 3) dL_law_569 rfl 3 rfl ?_
        refine pg_iconst dL_law_570 ci_2 ?_
        refine pg_iadd dL_law_571 ?_
        refine pg_xaload 0 (by decide) (fun _ => hsc) dL_law_572 (fun v67 => ?_)
        refine pg_callV_wI (As := [pI v66, pI v67]) (rs := []) dL_law_573 lk_RL_49 vy_X11_terms nd_X11_terms (c_X11_terms l D a1 v66 v67 h) rfl rfl (Nat.le_of_ble_eq_true rfl) (by decide) (by decide) (fun v68 => ?_)
        refine pg_aload_n (i := 2) dL_law_576 rfl 2 rfl ?_
        refine pg_aload_n (i := 0) dL_law_577 rfl 0 rfl ?_
        refine pg_iload_n (i := 3) dL_law_578 rfl 3 rfl ?_
        refine pg_iconst dL_law_579 ci_1 ?_
        refine pg_iadd dL_law_580 ?_
        refine pg_xaload 0 (by decide) (fun _ => hsc) dL_law_581 (fun v69 => ?_)
        refine pg_aload_n (i := 0) dL_law_582 rfl 0 rfl ?_
        refine pg_iload_n (i := 3) dL_law_583 rfl 3 rfl ?_
        refine pg_iconst dL_law_584 ci_2 ?_
        refine pg_iadd dL_law_585 ?_
        refine pg_xaload 0 (by decide) (fun _ => hsc) dL_law_586 (fun v70 => ?_)
        refine pg_callV_wI (As := [pI v69, pI v70]) (rs := [pI v68.1]) dL_law_587 lk_RL_52 vy_X12_terms nd_X12_terms (c_X12_terms l D a2 v69 v70 v68.2) rfl rfl (Nat.le_of_ble_eq_true rfl) (by decide) (by decide) (fun v71 => ?_)
        refine pg_icmp_eq (tgt := 1553) dL_law_590 rfl ?_ ?_
        · exact pg_to (e_L_law_1553 l D nm sc hsc (F_L_law_18 sc n) ih a0 a1 a2 a3 v71.2) [0, 1, 2, 3] rfl
        · refine pg_iconst dL_law_593 ci_0 ?_
          exact pg_zret dL_law_594 rfl (Or.inl rfl) rfl
      refine pg_ite (fun hc9 => ?_) (fun hn9 => ?_)
      · refine pg_swIn (tgt := 595) (j := 9) dL_law_33 (by rw [hc9]; decide) (by decide) rfl rfl ?_
        refine pg_aload_n (i := 1) dL_law_595 rfl 1 rfl ?_
        refine pg_aload_n (i := 0) dL_law_596 rfl 0 rfl ?_
        refine pg_iload_n (i := 3) dL_law_597 rfl 3 rfl ?_
        refine pg_iconst dL_law_598 ci_1 ?_
        refine pg_iadd dL_law_599 ?_
        refine pg_xaload 0 (by decide) (fun _ => hsc) dL_law_600 (fun v72 => ?_)
        refine pg_aload_n (i := 0) dL_law_601 rfl 0 rfl ?_
        refine pg_iload_n (i := 3) dL_law_602 rfl 3 rfl ?_
        refine pg_iconst dL_law_603 ci_2 ?_
        refine pg_iadd dL_law_604 ?_
        refine pg_xaload 0 (by decide) (fun _ => hsc) dL_law_605 (fun v73 => ?_)
        refine pg_aload_n (i := 0) dL_law_606 rfl 0 rfl ?_
        refine pg_iload_n (i := 3) dL_law_607 rfl 3 rfl ?_
        refine pg_iconst dL_law_608 ci_3 ?_
        refine pg_iadd dL_law_609 ?_
        refine pg_xaload 0 (by decide) (fun _ => hsc) dL_law_610 (fun v74 => ?_)
        refine pg_aload_n (i := 0) dL_law_611 rfl 0 rfl ?_
        refine pg_iload_n (i := 3) dL_law_612 rfl 3 rfl ?_
        refine pg_iconst dL_law_613 ci_4 ?_
        refine pg_iadd dL_law_614 ?_
        refine pg_xaload 0 (by decide) (fun _ => hsc) dL_law_615 (fun v75 => ?_)
        refine pg_aload_n (i := 0) dL_law_616 rfl 0 rfl ?_
        refine pg_iload_n (i := 3) dL_law_617 rfl 3 rfl ?_
        refine pg_iconst dL_law_618 ci_5 ?_
        refine pg_iadd dL_law_619 ?_
        refine pg_xaload 0 (by decide) (fun _ => hsc) dL_law_620 (fun v76 => ?_)
        refine pg_callV_wI (As := [pI v72, pI v73, pI v74, pI v75, pI v76]) (rs := []) dL_law_621 lk_RL_53 vy_X11_feed nd_X11_feed (c_X11_feed l D a1 v72 v73 v74 v75 v76 h) rfl rfl (Nat.le_of_ble_eq_true rfl) (by decide) (by decide) (fun v77 => ?_)
        refine pg_aload_n (i := 2) dL_law_624 rfl 2 rfl ?_
        refine pg_aload_n (i := 0) dL_law_625 rfl 0 rfl ?_
        refine pg_iload_n (i := 3) dL_law_626 rfl 3 rfl ?_
        refine pg_iconst dL_law_627 ci_1 ?_
        refine pg_iadd dL_law_628 ?_
        refine pg_xaload 0 (by decide) (fun _ => hsc) dL_law_629 (fun v78 => ?_)
        refine pg_aload_n (i := 0) dL_law_630 rfl 0 rfl ?_
        refine pg_iload_n (i := 3) dL_law_631 rfl 3 rfl ?_
        refine pg_iconst dL_law_632 ci_2 ?_
        refine pg_iadd dL_law_633 ?_
        refine pg_xaload 0 (by decide) (fun _ => hsc) dL_law_634 (fun v79 => ?_)
        refine pg_aload_n (i := 0) dL_law_635 rfl 0 rfl ?_
        refine pg_iload_n (i := 3) dL_law_636 rfl 3 rfl ?_
        refine pg_iconst dL_law_637 ci_3 ?_
        refine pg_iadd dL_law_638 ?_
        refine pg_xaload 0 (by decide) (fun _ => hsc) dL_law_639 (fun v80 => ?_)
        refine pg_aload_n (i := 0) dL_law_640 rfl 0 rfl ?_
        refine pg_iload_n (i := 3) dL_law_641 rfl 3 rfl ?_
        refine pg_iconst dL_law_642 ci_4 ?_
        refine pg_iadd dL_law_643 ?_
        refine pg_xaload 0 (by decide) (fun _ => hsc) dL_law_644 (fun v81 => ?_)
        refine pg_aload_n (i := 0) dL_law_645 rfl 0 rfl ?_
        refine pg_iload_n (i := 3) dL_law_646 rfl 3 rfl ?_
        refine pg_iconst dL_law_647 ci_5 ?_
        refine pg_iadd dL_law_648 ?_
        refine pg_xaload 0 (by decide) (fun _ => hsc) dL_law_649 (fun v82 => ?_)
        refine pg_callV_wI (As := [pI v78, pI v79, pI v80, pI v81, pI v82]) (rs := [pI v77.1]) dL_law_650 lk_RL_56 vy_X12_feed nd_X12_feed (c_X12_feed l D a2 v78 v79 v80 v81 v82 v77.2) rfl rfl (Nat.le_of_ble_eq_true rfl) (by decide) (by decide) (fun v83 => ?_)
        refine pg_icmp_eq (tgt := 1553) dL_law_653 rfl ?_ ?_
        · exact pg_to (e_L_law_1553 l D nm sc hsc (F_L_law_18 sc n) ih a0 a1 a2 a3 v83.2) [0, 1, 2, 3] rfl
        · refine pg_iconst dL_law_656 ci_0 ?_
          exact pg_zret dL_law_657 rfl (Or.inl rfl) rfl
      refine pg_ite (fun hc10 => ?_) (fun hn10 => ?_)
      · refine pg_swIn (tgt := 658) (j := 10) dL_law_33 (by rw [hc10]; decide) (by decide) rfl rfl ?_
        refine pg_aload_n (i := 1) dL_law_658 rfl 1 rfl ?_
        refine pg_aload_n (i := 0) dL_law_659 rfl 0 rfl ?_
        refine pg_iload_n (i := 3) dL_law_660 rfl 3 rfl ?_
        refine pg_iconst dL_law_661 ci_1 ?_
        refine pg_iadd dL_law_662 ?_
        refine pg_xaload 0 (by decide) (fun _ => hsc) dL_law_663 (fun v84 => ?_)
        refine pg_callV_wI (As := [pI v84]) (rs := []) dL_law_664 lk_RL_57 vy_X11_end nd_X11_end (c_X11_end l D a1 v84 h) rfl rfl (Nat.le_of_ble_eq_true rfl) (by decide) (by decide) (fun v85 => ?_)
        refine pg_aload_n (i := 2) dL_law_667 rfl 2 rfl ?_
        refine pg_aload_n (i := 0) dL_law_668 rfl 0 rfl ?_
        refine pg_iload_n (i := 3) dL_law_669 rfl 3 rfl ?_
        refine pg_iconst dL_law_670 ci_1 ?_
        refine pg_iadd dL_law_671 ?_
        refine pg_xaload 0 (by decide) (fun _ => hsc) dL_law_672 (fun v86 => ?_)
        refine pg_callV_wI (As := [pI v86]) (rs := [pI v85.1]) dL_law_673 lk_RL_61 vy_X12_end nd_X12_end (c_X12_end l D a2 v86 v85.2) rfl rfl (Nat.le_of_ble_eq_true rfl) (by decide) (by decide) (fun v87 => ?_)
        refine pg_icmp_eq (tgt := 1553) dL_law_676 rfl ?_ ?_
        · exact pg_to (e_L_law_1553 l D nm sc hsc (F_L_law_18 sc n) ih a0 a1 a2 a3 v87.2) [0, 1, 2, 3] rfl
        · refine pg_iconst dL_law_679 ci_0 ?_
          exact pg_zret dL_law_680 rfl (Or.inl rfl) rfl
      refine pg_ite (fun hc11 => ?_) (fun hn11 => ?_)
      · refine pg_swIn (tgt := 681) (j := 11) dL_law_33 (by rw [hc11]; decide) (by decide) rfl rfl ?_
        refine pg_aload_n (i := 1) dL_law_681 rfl 1 rfl ?_
        refine pg_aload_n (i := 0) dL_law_682 rfl 0 rfl ?_
        refine pg_iload_n (i := 3) dL_law_683 rfl 3 rfl ?_
        refine pg_iconst dL_law_684 ci_1 ?_
        refine pg_iadd dL_law_685 ?_
        refine pg_xaload 0 (by decide) (fun _ => hsc) dL_law_686 (fun v88 => ?_)
        refine pg_callV_wI (As := [pI v88]) (rs := []) dL_law_687 lk_RL_62 vy_X11_row nd_X11_row (c_X11_row l D a1 v88 h) rfl rfl (Nat.le_of_ble_eq_true rfl) (by decide) (by decide) (fun v89 => ?_)
        refine pg_aload_n (i := 2) dL_law_690 rfl 2 rfl ?_
        refine pg_aload_n (i := 0) dL_law_691 rfl 0 rfl ?_
        refine pg_iload_n (i := 3) dL_law_692 rfl 3 rfl ?_
        refine pg_iconst dL_law_693 ci_1 ?_
        refine pg_iadd dL_law_694 ?_
        refine pg_xaload 0 (by decide) (fun _ => hsc) dL_law_695 (fun v90 => ?_)
        refine pg_callV_wI (As := [pI v90]) (rs := [pI v89.1]) dL_law_696 lk_RL_65 vy_X12_row nd_X12_row (c_X12_row l D a2 v90 v89.2) rfl rfl (Nat.le_of_ble_eq_true rfl) (by decide) (by decide) (fun v91 => ?_)
        refine pg_icmp_eq (tgt := 1553) dL_law_699 rfl ?_ ?_
        · exact pg_to (e_L_law_1553 l D nm sc hsc (F_L_law_18 sc n) ih a0 a1 a2 a3 v91.2) [0, 1, 2, 3] rfl
        · refine pg_iconst dL_law_702 ci_0 ?_
          exact pg_zret dL_law_703 rfl (Or.inl rfl) rfl
      refine pg_ite (fun hc12 => ?_) (fun hn12 => ?_)
      · refine pg_swIn (tgt := 704) (j := 12) dL_law_33 (by rw [hc12]; decide) (by decide) rfl rfl ?_
        refine pg_aload_n (i := 1) dL_law_704 rfl 1 rfl ?_
        refine pg_callV_oI (As := []) (rs := []) dL_law_705 lk_RL_66 vy_X11_trimmed nd_X11_trimmed (c_X11_trimmed l D h a1) rfl rfl (Nat.le_of_ble_eq_true rfl) (by decide) (by decide) (fun v92 => ?_)
        refine pg_aload_n (i := 2) dL_law_708 rfl 2 rfl ?_
        refine pg_callV_oI (As := []) (rs := [pI v92]) dL_law_709 lk_RL_70 vy_X12_trimmed nd_X12_trimmed (c_X12_trimmed l D h a2) rfl rfl (Nat.le_of_ble_eq_true rfl) (by decide) (by decide) (fun v93 => ?_)
        refine pg_icmp_eq (tgt := 1553) dL_law_712 rfl ?_ ?_
        · exact pg_to (e_L_law_1553 l D nm sc hsc (F_L_law_18 sc n) ih a0 a1 a2 a3 h) [0, 1, 2, 3] rfl
        · refine pg_iconst dL_law_715 ci_0 ?_
          exact pg_zret dL_law_716 rfl (Or.inl rfl) rfl
      refine pg_ite (fun hc13 => ?_) (fun hn13 => ?_)
      · refine pg_swIn (tgt := 717) (j := 13) dL_law_33 (by rw [hc13]; decide) (by decide) rfl rfl ?_
        refine pg_aload_n (i := 1) dL_law_717 rfl 1 rfl ?_
        refine pg_callV_wI (As := []) (rs := []) dL_law_718 lk_RL_71 vy_X11_text nd_X11_text (c_X11_text l D a1 h) rfl rfl (Nat.le_of_ble_eq_true rfl) (by decide) (by decide) (fun v94 => ?_)
        refine pg_aload_n (i := 2) dL_law_721 rfl 2 rfl ?_
        refine pg_callV_wI (As := []) (rs := [pI v94.1]) dL_law_722 lk_RL_74 vy_X12_text nd_X12_text (c_X12_text l D a2 v94.2) rfl rfl (Nat.le_of_ble_eq_true rfl) (by decide) (by decide) (fun v95 => ?_)
        refine pg_icmp_eq (tgt := 1553) dL_law_725 rfl ?_ ?_
        · exact pg_to (e_L_law_1553 l D nm sc hsc (F_L_law_18 sc n) ih a0 a1 a2 a3 v95.2) [0, 1, 2, 3] rfl
        · refine pg_iconst dL_law_728 ci_0 ?_
          exact pg_zret dL_law_729 rfl (Or.inl rfl) rfl
      refine pg_ite (fun hc14 => ?_) (fun hn14 => ?_)
      · refine pg_swIn (tgt := 730) (j := 14) dL_law_33 (by rw [hc14]; decide) (by decide) rfl rfl ?_
        refine pg_aload_n (i := 1) dL_law_730 rfl 1 rfl ?_
        refine pg_callV_oI (As := []) (rs := []) dL_law_731 lk_RL_75 vy_X11_fault nd_X11_fault (c_X11_fault l D h a1) rfl rfl (Nat.le_of_ble_eq_true rfl) (by decide) (by decide) (fun v96 => ?_)
        refine pg_aload_n (i := 2) dL_law_734 rfl 2 rfl ?_
        refine pg_callV_oI (As := []) (rs := [pI v96]) dL_law_735 lk_RL_78 vy_X12_fault nd_X12_fault (c_X12_fault l D h a2) rfl rfl (Nat.le_of_ble_eq_true rfl) (by decide) (by decide) (fun v97 => ?_)
        refine pg_icmp_eq (tgt := 1553) dL_law_738 rfl ?_ ?_
        · exact pg_to (e_L_law_1553 l D nm sc hsc (F_L_law_18 sc n) ih a0 a1 a2 a3 h) [0, 1, 2, 3] rfl
        · refine pg_iconst dL_law_741 ci_0 ?_
          exact pg_zret dL_law_742 rfl (Or.inl rfl) rfl
      refine pg_ite (fun hc15 => ?_) (fun hn15 => ?_)
      · refine pg_swIn (tgt := 743) (j := 15) dL_law_33 (by rw [hc15]; decide) (by decide) rfl rfl ?_
        refine pg_aload_n (i := 1) dL_law_743 rfl 1 rfl ?_
        refine pg_aload_n (i := 0) dL_law_744 rfl 0 rfl ?_
        refine pg_iload_n (i := 3) dL_law_745 rfl 3 rfl ?_
        refine pg_iconst dL_law_746 ci_1 ?_
        refine pg_iadd dL_law_747 ?_
        refine pg_xaload 0 (by decide) (fun _ => hsc) dL_law_748 (fun v98 => ?_)
        refine pg_callV_wI (As := [pI v98]) (rs := []) dL_law_749 lk_RL_79 vy_X11_use nd_X11_use (c_X11_use l D a1 v98 h) rfl rfl (Nat.le_of_ble_eq_true rfl) (by decide) (by decide) (fun v99 => ?_)
        refine pg_aload_n (i := 2) dL_law_752 rfl 2 rfl ?_
        refine pg_aload_n (i := 0) dL_law_753 rfl 0 rfl ?_
        refine pg_iload_n (i := 3) dL_law_754 rfl 3 rfl ?_
        refine pg_iconst dL_law_755 ci_1 ?_
        refine pg_iadd dL_law_756 ?_
        refine pg_xaload 0 (by decide) (fun _ => hsc) dL_law_757 (fun v100 => ?_)
        refine pg_callV_wI (As := [pI v100]) (rs := [pI v99.1]) dL_law_758 lk_RL_82 vy_X12_use nd_X12_use (c_X12_use l D a2 v100 v99.2) rfl rfl (Nat.le_of_ble_eq_true rfl) (by decide) (by decide) (fun v101 => ?_)
        refine pg_icmp_eq (tgt := 1553) dL_law_761 rfl ?_ ?_
        · exact pg_to (e_L_law_1553 l D nm sc hsc (F_L_law_18 sc n) ih a0 a1 a2 a3 v101.2) [0, 1, 2, 3] rfl
        · refine pg_iconst dL_law_764 ci_0 ?_
          exact pg_zret dL_law_765 rfl (Or.inl rfl) rfl
      refine pg_ite (fun hc16 => ?_) (fun hn16 => ?_)
      · refine pg_swIn (tgt := 766) (j := 16) dL_law_33 (by rw [hc16]; decide) (by decide) rfl rfl ?_
        refine pg_aload_n (i := 1) dL_law_766 rfl 1 rfl ?_
        refine pg_aload_n (i := 0) dL_law_767 rfl 0 rfl ?_
        refine pg_iload_n (i := 3) dL_law_768 rfl 3 rfl ?_
        refine pg_iconst dL_law_769 ci_1 ?_
        refine pg_iadd dL_law_770 ?_
        refine pg_xaload 0 (by decide) (fun _ => hsc) dL_law_771 (fun v102 => ?_)
        refine pg_aload_n (i := 0) dL_law_772 rfl 0 rfl ?_
        refine pg_iload_n (i := 3) dL_law_773 rfl 3 rfl ?_
        refine pg_iconst dL_law_774 ci_2 ?_
        refine pg_iadd dL_law_775 ?_
        refine pg_xaload 0 (by decide) (fun _ => hsc) dL_law_776 (fun v103 => ?_)
        refine pg_callV_wI (As := [pI v102, pI v103]) (rs := []) dL_law_777 lk_RL_83 vy_X11_weight nd_X11_weight (c_X11_weight l D a1 v102 v103 h) rfl rfl (Nat.le_of_ble_eq_true rfl) (by decide) (by decide) (fun v104 => ?_)
        refine pg_aload_n (i := 2) dL_law_780 rfl 2 rfl ?_
        refine pg_aload_n (i := 0) dL_law_781 rfl 0 rfl ?_
        refine pg_iload_n (i := 3) dL_law_782 rfl 3 rfl ?_
        refine pg_iconst dL_law_783 ci_1 ?_
        refine pg_iadd dL_law_784 ?_
        refine pg_xaload 0 (by decide) (fun _ => hsc) dL_law_785 (fun v105 => ?_)
        refine pg_aload_n (i := 0) dL_law_786 rfl 0 rfl ?_
        refine pg_iload_n (i := 3) dL_law_787 rfl 3 rfl ?_
        refine pg_iconst dL_law_788 ci_2 ?_
        refine pg_iadd dL_law_789 ?_
        refine pg_xaload 0 (by decide) (fun _ => hsc) dL_law_790 (fun v106 => ?_)
        refine pg_callV_wI (As := [pI v105, pI v106]) (rs := [pI v104.1]) dL_law_791 lk_RL_86 vy_X12_weight nd_X12_weight (c_X12_weight l D a2 v105 v106 v104.2) rfl rfl (Nat.le_of_ble_eq_true rfl) (by decide) (by decide) (fun v107 => ?_)
        refine pg_icmp_eq (tgt := 1553) dL_law_794 rfl ?_ ?_
        · exact pg_to (e_L_law_1553 l D nm sc hsc (F_L_law_18 sc n) ih a0 a1 a2 a3 v107.2) [0, 1, 2, 3] rfl
        · refine pg_iconst dL_law_797 ci_0 ?_
          exact pg_zret dL_law_798 rfl (Or.inl rfl) rfl
      refine pg_ite (fun hc17 => ?_) (fun hn17 => ?_)
      · refine pg_swIn (tgt := 799) (j := 17) dL_law_33 (by rw [hc17]; decide) (by decide) rfl rfl ?_
        refine pg_aload_n (i := 1) dL_law_799 rfl 1 rfl ?_
        refine pg_aload_n (i := 0) dL_law_800 rfl 0 rfl ?_
        refine pg_iload_n (i := 3) dL_law_801 rfl 3 rfl ?_
        refine pg_iconst dL_law_802 ci_1 ?_
        refine pg_iadd dL_law_803 ?_
        refine pg_xaload 0 (by decide) (fun _ => hsc) dL_law_804 (fun v108 => ?_)
        refine pg_aload_n (i := 0) dL_law_805 rfl 0 rfl ?_
        refine pg_iload_n (i := 3) dL_law_806 rfl 3 rfl ?_
        refine pg_iconst dL_law_807 ci_2 ?_
        refine pg_iadd dL_law_808 ?_
        refine pg_xaload 0 (by decide) (fun _ => hsc) dL_law_809 (fun v109 => ?_)
        refine pg_callV_oI (As := [pI v108, pI v109]) (rs := []) dL_law_810 lk_RL_87 vy_X11_may nd_X11_may (c_X11_may l D h a1 v108 v109) rfl rfl (Nat.le_of_ble_eq_true rfl) (by decide) (by decide) (fun v110 => ?_)
        refine pg_aload_n (i := 2) dL_law_813 rfl 2 rfl ?_
        refine pg_aload_n (i := 0) dL_law_814 rfl 0 rfl ?_
        refine pg_iload_n (i := 3) dL_law_815 rfl 3 rfl ?_
        refine pg_iconst dL_law_816 ci_1 ?_
        refine pg_iadd dL_law_817 ?_
        refine pg_xaload 0 (by decide) (fun _ => hsc) dL_law_818 (fun v111 => ?_)
        refine pg_aload_n (i := 0) dL_law_819 rfl 0 rfl ?_
        refine pg_iload_n (i := 3) dL_law_820 rfl 3 rfl ?_
        refine pg_iconst dL_law_821 ci_2 ?_
        refine pg_iadd dL_law_822 ?_
        refine pg_xaload 0 (by decide) (fun _ => hsc) dL_law_823 (fun v112 => ?_)
        refine pg_callV_oI (As := [pI v111, pI v112]) (rs := [pI v110]) dL_law_824 lk_RL_90 vy_X12_may nd_X12_may (c_X12_may l D h a2 v111 v112) rfl rfl (Nat.le_of_ble_eq_true rfl) (by decide) (by decide) (fun v113 => ?_)
        refine pg_icmp_eq (tgt := 1553) dL_law_827 rfl ?_ ?_
        · exact pg_to (e_L_law_1553 l D nm sc hsc (F_L_law_18 sc n) ih a0 a1 a2 a3 h) [0, 1, 2, 3] rfl
        · refine pg_iconst dL_law_830 ci_0 ?_
          exact pg_zret dL_law_831 rfl (Or.inl rfl) rfl
      refine pg_ite (fun hc18 => ?_) (fun hn18 => ?_)
      · refine pg_swIn (tgt := 832) (j := 18) dL_law_33 (by rw [hc18]; decide) (by decide) rfl rfl ?_
        refine pg_aload_n (i := 1) dL_law_832 rfl 1 rfl ?_
        refine pg_aload_n (i := 0) dL_law_833 rfl 0 rfl ?_
        refine pg_iload_n (i := 3) dL_law_834 rfl 3 rfl ?_
        refine pg_iconst dL_law_835 ci_1 ?_
        refine pg_iadd dL_law_836 ?_
        refine pg_xaload 0 (by decide) (fun _ => hsc) dL_law_837 (fun v114 => ?_)
        refine pg_aload_n (i := 0) dL_law_838 rfl 0 rfl ?_
        refine pg_iload_n (i := 3) dL_law_839 rfl 3 rfl ?_
        refine pg_iconst dL_law_840 ci_2 ?_
        refine pg_iadd dL_law_841 ?_
        refine pg_xaload 0 (by decide) (fun _ => hsc) dL_law_842 (fun v115 => ?_)
        refine pg_callV_wI (As := [pI v114, pI v115]) (rs := []) dL_law_843 lk_RL_91 vy_X11_cost nd_X11_cost (c_X11_cost l D a1 v114 v115 h) rfl rfl (Nat.le_of_ble_eq_true rfl) (by decide) (by decide) (fun v116 => ?_)
        refine pg_aload_n (i := 2) dL_law_846 rfl 2 rfl ?_
        refine pg_aload_n (i := 0) dL_law_847 rfl 0 rfl ?_
        refine pg_iload_n (i := 3) dL_law_848 rfl 3 rfl ?_
        refine pg_iconst dL_law_849 ci_1 ?_
        refine pg_iadd dL_law_850 ?_
        refine pg_xaload 0 (by decide) (fun _ => hsc) dL_law_851 (fun v117 => ?_)
        refine pg_aload_n (i := 0) dL_law_852 rfl 0 rfl ?_
        refine pg_iload_n (i := 3) dL_law_853 rfl 3 rfl ?_
        refine pg_iconst dL_law_854 ci_2 ?_
        refine pg_iadd dL_law_855 ?_
        refine pg_xaload 0 (by decide) (fun _ => hsc) dL_law_856 (fun v118 => ?_)
        refine pg_callV_wI (As := [pI v117, pI v118]) (rs := [pI v116.1]) dL_law_857 lk_RL_94 vy_X12_cost nd_X12_cost (c_X12_cost l D a2 v117 v118 v116.2) rfl rfl (Nat.le_of_ble_eq_true rfl) (by decide) (by decide) (fun v119 => ?_)
        refine pg_icmp_eq (tgt := 1553) dL_law_860 rfl ?_ ?_
        · exact pg_to (e_L_law_1553 l D nm sc hsc (F_L_law_18 sc n) ih a0 a1 a2 a3 v119.2) [0, 1, 2, 3] rfl
        · refine pg_iconst dL_law_863 ci_0 ?_
          exact pg_zret dL_law_864 rfl (Or.inl rfl) rfl
      refine pg_ite (fun hc19 => ?_) (fun hn19 => ?_)
      · refine pg_swIn (tgt := 865) (j := 19) dL_law_33 (by rw [hc19]; decide) (by decide) rfl rfl ?_
        refine pg_aload_n (i := 1) dL_law_865 rfl 1 rfl ?_
        refine pg_callV_wI (As := []) (rs := []) dL_law_866 lk_RL_95 vy_X11_tree nd_X11_tree (c_X11_tree l D a1 h) rfl rfl (Nat.le_of_ble_eq_true rfl) (by decide) (by decide) (fun v120 => ?_)
        refine pg_aload_n (i := 2) dL_law_869 rfl 2 rfl ?_
        refine pg_callV_wI (As := []) (rs := [pI v120.1]) dL_law_870 lk_RL_98 vy_X12_tree nd_X12_tree (c_X12_tree l D a2 v120.2) rfl rfl (Nat.le_of_ble_eq_true rfl) (by decide) (by decide) (fun v121 => ?_)
        refine pg_icmp_eq (tgt := 1553) dL_law_873 rfl ?_ ?_
        · exact pg_to (e_L_law_1553 l D nm sc hsc (F_L_law_18 sc n) ih a0 a1 a2 a3 v121.2) [0, 1, 2, 3] rfl
        · refine pg_iconst dL_law_876 ci_0 ?_
          exact pg_zret dL_law_877 rfl (Or.inl rfl) rfl
      refine pg_ite (fun hc20 => ?_) (fun hn20 => ?_)
      · refine pg_swIn (tgt := 878) (j := 20) dL_law_33 (by rw [hc20]; decide) (by decide) rfl rfl ?_
        refine pg_aload_n (i := 1) dL_law_878 rfl 1 rfl ?_
        refine pg_aload_n (i := 0) dL_law_879 rfl 0 rfl ?_
        refine pg_iload_n (i := 3) dL_law_880 rfl 3 rfl ?_
        refine pg_iconst dL_law_881 ci_1 ?_
        refine pg_iadd dL_law_882 ?_
        refine pg_xaload 0 (by decide) (fun _ => hsc) dL_law_883 (fun v122 => ?_)
        refine pg_callV_wI (As := [pI v122]) (rs := []) dL_law_884 lk_RL_99 vy_X11_whose nd_X11_whose (c_X11_whose l D a1 v122 h) rfl rfl (Nat.le_of_ble_eq_true rfl) (by decide) (by decide) (fun v123 => ?_)
        refine pg_aload_n (i := 2) dL_law_887 rfl 2 rfl ?_
        refine pg_aload_n (i := 0) dL_law_888 rfl 0 rfl ?_
        refine pg_iload_n (i := 3) dL_law_889 rfl 3 rfl ?_
        refine pg_iconst dL_law_890 ci_1 ?_
        refine pg_iadd dL_law_891 ?_
        refine pg_xaload 0 (by decide) (fun _ => hsc) dL_law_892 (fun v124 => ?_)
        refine pg_callV_wI (As := [pI v124]) (rs := [pI v123.1]) dL_law_893 lk_RL_102 vy_X12_whose nd_X12_whose (c_X12_whose l D a2 v124 v123.2) rfl rfl (Nat.le_of_ble_eq_true rfl) (by decide) (by decide) (fun v125 => ?_)
        refine pg_icmp_eq (tgt := 1553) dL_law_896 rfl ?_ ?_
        · exact pg_to (e_L_law_1553 l D nm sc hsc (F_L_law_18 sc n) ih a0 a1 a2 a3 v125.2) [0, 1, 2, 3] rfl
        · refine pg_iconst dL_law_899 ci_0 ?_
          exact pg_zret dL_law_900 rfl (Or.inl rfl) rfl
      refine pg_ite (fun hc21 => ?_) (fun hn21 => ?_)
      · refine pg_swIn (tgt := 901) (j := 21) dL_law_33 (by rw [hc21]; decide) (by decide) rfl rfl ?_
        refine pg_aload_n (i := 1) dL_law_901 rfl 1 rfl ?_
        refine pg_aload_n (i := 0) dL_law_902 rfl 0 rfl ?_
        refine pg_iload_n (i := 3) dL_law_903 rfl 3 rfl ?_
        refine pg_iconst dL_law_904 ci_1 ?_
        refine pg_iadd dL_law_905 ?_
        refine pg_xaload 0 (by decide) (fun _ => hsc) dL_law_906 (fun v126 => ?_)
        refine pg_callV_wI (As := [pI v126]) (rs := []) dL_law_907 lk_RL_103 vy_X11_sure nd_X11_sure (c_X11_sure l D a1 v126 h) rfl rfl (Nat.le_of_ble_eq_true rfl) (by decide) (by decide) (fun v127 => ?_)
        refine pg_aload_n (i := 2) dL_law_910 rfl 2 rfl ?_
        refine pg_aload_n (i := 0) dL_law_911 rfl 0 rfl ?_
        refine pg_iload_n (i := 3) dL_law_912 rfl 3 rfl ?_
        refine pg_iconst dL_law_913 ci_1 ?_
        refine pg_iadd dL_law_914 ?_
        refine pg_xaload 0 (by decide) (fun _ => hsc) dL_law_915 (fun v128 => ?_)
        refine pg_callV_wI (As := [pI v128]) (rs := [pI v127.1]) dL_law_916 lk_RL_106 vy_X12_sure nd_X12_sure (c_X12_sure l D a2 v128 v127.2) rfl rfl (Nat.le_of_ble_eq_true rfl) (by decide) (by decide) (fun v129 => ?_)
        refine pg_icmp_eq (tgt := 1553) dL_law_919 rfl ?_ ?_
        · exact pg_to (e_L_law_1553 l D nm sc hsc (F_L_law_18 sc n) ih a0 a1 a2 a3 v129.2) [0, 1, 2, 3] rfl
        · refine pg_iconst dL_law_922 ci_0 ?_
          exact pg_zret dL_law_923 rfl (Or.inl rfl) rfl
      refine pg_ite (fun hc22 => ?_) (fun hn22 => ?_)
      · refine pg_swIn (tgt := 924) (j := 22) dL_law_33 (by rw [hc22]; decide) (by decide) rfl rfl ?_
        refine pg_aload_n (i := 1) dL_law_924 rfl 1 rfl ?_
        refine pg_aload_n (i := 0) dL_law_925 rfl 0 rfl ?_
        refine pg_iload_n (i := 3) dL_law_926 rfl 3 rfl ?_
        refine pg_iconst dL_law_927 ci_1 ?_
        refine pg_iadd dL_law_928 ?_
        refine pg_xaload 0 (by decide) (fun _ => hsc) dL_law_929 (fun v130 => ?_)
        refine pg_aload_n (i := 0) dL_law_930 rfl 0 rfl ?_
        refine pg_iload_n (i := 3) dL_law_931 rfl 3 rfl ?_
        refine pg_iconst dL_law_932 ci_2 ?_
        refine pg_iadd dL_law_933 ?_
        refine pg_xaload 0 (by decide) (fun _ => hsc) dL_law_934 (fun v131 => ?_)
        refine pg_callV_wI (As := [pI v130, pI v131]) (rs := []) dL_law_935 lk_RL_107 vy_X11_come nd_X11_come (c_X11_come l D a1 v130 v131 h) rfl rfl (Nat.le_of_ble_eq_true rfl) (by decide) (by decide) (fun v132 => ?_)
        refine pg_aload_n (i := 2) dL_law_938 rfl 2 rfl ?_
        refine pg_aload_n (i := 0) dL_law_939 rfl 0 rfl ?_
        refine pg_iload_n (i := 3) dL_law_940 rfl 3 rfl ?_
        refine pg_iconst dL_law_941 ci_1 ?_
        refine pg_iadd dL_law_942 ?_
        refine pg_xaload 0 (by decide) (fun _ => hsc) dL_law_943 (fun v133 => ?_)
        refine pg_aload_n (i := 0) dL_law_944 rfl 0 rfl ?_
        refine pg_iload_n (i := 3) dL_law_945 rfl 3 rfl ?_
        refine pg_iconst dL_law_946 ci_2 ?_
        refine pg_iadd dL_law_947 ?_
        refine pg_xaload 0 (by decide) (fun _ => hsc) dL_law_948 (fun v134 => ?_)
        refine pg_callV_wI (As := [pI v133, pI v134]) (rs := [pI v132.1]) dL_law_949 lk_RL_110 vy_X12_come nd_X12_come (c_X12_come l D a2 v133 v134 v132.2) rfl rfl (Nat.le_of_ble_eq_true rfl) (by decide) (by decide) (fun v135 => ?_)
        refine pg_icmp_eq (tgt := 1553) dL_law_952 rfl ?_ ?_
        · exact pg_to (e_L_law_1553 l D nm sc hsc (F_L_law_18 sc n) ih a0 a1 a2 a3 v135.2) [0, 1, 2, 3] rfl
        · refine pg_iconst dL_law_955 ci_0 ?_
          exact pg_zret dL_law_956 rfl (Or.inl rfl) rfl
      refine pg_ite (fun hc23 => ?_) (fun hn23 => ?_)
      · refine pg_swIn (tgt := 957) (j := 23) dL_law_33 (by rw [hc23]; decide) (by decide) rfl rfl ?_
        refine pg_aload_n (i := 1) dL_law_957 rfl 1 rfl ?_
        refine pg_aload_n (i := 0) dL_law_958 rfl 0 rfl ?_
        refine pg_iload_n (i := 3) dL_law_959 rfl 3 rfl ?_
        refine pg_iconst dL_law_960 ci_1 ?_
        refine pg_iadd dL_law_961 ?_
        refine pg_xaload 0 (by decide) (fun _ => hsc) dL_law_962 (fun v136 => ?_)
        refine pg_aload_n (i := 0) dL_law_963 rfl 0 rfl ?_
        refine pg_iload_n (i := 3) dL_law_964 rfl 3 rfl ?_
        refine pg_iconst dL_law_965 ci_2 ?_
        refine pg_iadd dL_law_966 ?_
        refine pg_xaload 0 (by decide) (fun _ => hsc) dL_law_967 (fun v137 => ?_)
        refine pg_callV_wI (As := [pI v136, pI v137]) (rs := []) dL_law_968 lk_RL_111 vy_X11_net nd_X11_net (c_X11_net l D a1 v136 v137 h) rfl rfl (Nat.le_of_ble_eq_true rfl) (by decide) (by decide) (fun v138 => ?_)
        refine pg_aload_n (i := 2) dL_law_971 rfl 2 rfl ?_
        refine pg_aload_n (i := 0) dL_law_972 rfl 0 rfl ?_
        refine pg_iload_n (i := 3) dL_law_973 rfl 3 rfl ?_
        refine pg_iconst dL_law_974 ci_1 ?_
        refine pg_iadd dL_law_975 ?_
        refine pg_xaload 0 (by decide) (fun _ => hsc) dL_law_976 (fun v139 => ?_)
        refine pg_aload_n (i := 0) dL_law_977 rfl 0 rfl ?_
        refine pg_iload_n (i := 3) dL_law_978 rfl 3 rfl ?_
        refine pg_iconst dL_law_979 ci_2 ?_
        refine pg_iadd dL_law_980 ?_
        refine pg_xaload 0 (by decide) (fun _ => hsc) dL_law_981 (fun v140 => ?_)
        refine pg_callV_wI (As := [pI v139, pI v140]) (rs := [pI v138.1]) dL_law_982 lk_RL_114 vy_X12_net nd_X12_net (c_X12_net l D a2 v139 v140 v138.2) rfl rfl (Nat.le_of_ble_eq_true rfl) (by decide) (by decide) (fun v141 => ?_)
        refine pg_icmp_eq (tgt := 1553) dL_law_985 rfl ?_ ?_
        · exact pg_to (e_L_law_1553 l D nm sc hsc (F_L_law_18 sc n) ih a0 a1 a2 a3 v141.2) [0, 1, 2, 3] rfl
        · refine pg_iconst dL_law_988 ci_0 ?_
          exact pg_zret dL_law_989 rfl (Or.inl rfl) rfl
      refine pg_ite (fun hc24 => ?_) (fun hn24 => ?_)
      · refine pg_swIn (tgt := 990) (j := 24) dL_law_33 (by rw [hc24]; decide) (by decide) rfl rfl ?_
        refine pg_aload_n (i := 1) dL_law_990 rfl 1 rfl ?_
        refine pg_aload_n (i := 0) dL_law_991 rfl 0 rfl ?_
        refine pg_iload_n (i := 3) dL_law_992 rfl 3 rfl ?_
        refine pg_iconst dL_law_993 ci_1 ?_
        refine pg_iadd dL_law_994 ?_
        refine pg_xaload 0 (by decide) (fun _ => hsc) dL_law_995 (fun v142 => ?_)
        refine pg_aload_n (i := 0) dL_law_996 rfl 0 rfl ?_
        refine pg_iload_n (i := 3) dL_law_997 rfl 3 rfl ?_
        refine pg_iconst dL_law_998 ci_2 ?_
        refine pg_iadd dL_law_999 ?_
        refine pg_xaload 0 (by decide) (fun _ => hsc) dL_law_1000 (fun v143 => ?_)
        refine pg_callV_wI (As := [pI v142, pI v143]) (rs := []) dL_law_1001 lk_RL_115 vy_X11_agree nd_X11_agree (c_X11_agree l D a1 v142 v143 h) rfl rfl (Nat.le_of_ble_eq_true rfl) (by decide) (by decide) (fun v144 => ?_)
        refine pg_aload_n (i := 2) dL_law_1004 rfl 2 rfl ?_
        refine pg_aload_n (i := 0) dL_law_1005 rfl 0 rfl ?_
        refine pg_iload_n (i := 3) dL_law_1006 rfl 3 rfl ?_
        refine pg_iconst dL_law_1007 ci_1 ?_
        refine pg_iadd dL_law_1008 ?_
        refine pg_xaload 0 (by decide) (fun _ => hsc) dL_law_1009 (fun v145 => ?_)
        refine pg_aload_n (i := 0) dL_law_1010 rfl 0 rfl ?_
        refine pg_iload_n (i := 3) dL_law_1011 rfl 3 rfl ?_
        refine pg_iconst dL_law_1012 ci_2 ?_
        refine pg_iadd dL_law_1013 ?_
        refine pg_xaload 0 (by decide) (fun _ => hsc) dL_law_1014 (fun v146 => ?_)
        refine pg_callV_wI (As := [pI v145, pI v146]) (rs := [pI v144.1]) dL_law_1015 lk_RL_118 vy_X12_agree nd_X12_agree (c_X12_agree l D a2 v145 v146 v144.2) rfl rfl (Nat.le_of_ble_eq_true rfl) (by decide) (by decide) (fun v147 => ?_)
        refine pg_icmp_eq (tgt := 1553) dL_law_1018 rfl ?_ ?_
        · exact pg_to (e_L_law_1553 l D nm sc hsc (F_L_law_18 sc n) ih a0 a1 a2 a3 v147.2) [0, 1, 2, 3] rfl
        · refine pg_iconst dL_law_1021 ci_0 ?_
          exact pg_zret dL_law_1022 rfl (Or.inl rfl) rfl
      refine pg_ite (fun hc25 => ?_) (fun hn25 => ?_)
      · refine pg_swIn (tgt := 1023) (j := 25) dL_law_33 (by rw [hc25]; decide) (by decide) rfl rfl ?_
        refine pg_aload_n (i := 1) dL_law_1023 rfl 1 rfl ?_
        refine pg_callV_wI (As := []) (rs := []) dL_law_1024 lk_RL_119 vy_X11_families nd_X11_families (c_X11_families l D a1 h) rfl rfl (Nat.le_of_ble_eq_true rfl) (by decide) (by decide) (fun v148 => ?_)
        refine pg_aload_n (i := 2) dL_law_1027 rfl 2 rfl ?_
        refine pg_callV_wI (As := []) (rs := [pI v148.1]) dL_law_1028 lk_RL_122 vy_X12_families nd_X12_families (c_X12_families l D a2 v148.2) rfl rfl (Nat.le_of_ble_eq_true rfl) (by decide) (by decide) (fun v149 => ?_)
        refine pg_icmp_eq (tgt := 1553) dL_law_1031 rfl ?_ ?_
        · exact pg_to (e_L_law_1553 l D nm sc hsc (F_L_law_18 sc n) ih a0 a1 a2 a3 v149.2) [0, 1, 2, 3] rfl
        · refine pg_iconst dL_law_1034 ci_0 ?_
          exact pg_zret dL_law_1035 rfl (Or.inl rfl) rfl
      refine pg_ite (fun hc26 => ?_) (fun hn26 => ?_)
      · refine pg_swIn (tgt := 1036) (j := 26) dL_law_33 (by rw [hc26]; decide) (by decide) rfl rfl ?_
        refine pg_aload_n (i := 1) dL_law_1036 rfl 1 rfl ?_
        refine pg_aload_n (i := 0) dL_law_1037 rfl 0 rfl ?_
        refine pg_iload_n (i := 3) dL_law_1038 rfl 3 rfl ?_
        refine pg_iconst dL_law_1039 ci_1 ?_
        refine pg_iadd dL_law_1040 ?_
        refine pg_xaload 0 (by decide) (fun _ => hsc) dL_law_1041 (fun v150 => ?_)
        refine pg_callV_wI (As := [pI v150]) (rs := []) dL_law_1042 lk_RL_123 vy_X11_family nd_X11_family (c_X11_family l D a1 v150 h) rfl rfl (Nat.le_of_ble_eq_true rfl) (by decide) (by decide) (fun v151 => ?_)
        refine pg_aload_n (i := 2) dL_law_1045 rfl 2 rfl ?_
        refine pg_aload_n (i := 0) dL_law_1046 rfl 0 rfl ?_
        refine pg_iload_n (i := 3) dL_law_1047 rfl 3 rfl ?_
        refine pg_iconst dL_law_1048 ci_1 ?_
        refine pg_iadd dL_law_1049 ?_
        refine pg_xaload 0 (by decide) (fun _ => hsc) dL_law_1050 (fun v152 => ?_)
        refine pg_callV_wI (As := [pI v152]) (rs := [pI v151.1]) dL_law_1051 lk_RL_126 vy_X12_family nd_X12_family (c_X12_family l D a2 v152 v151.2) rfl rfl (Nat.le_of_ble_eq_true rfl) (by decide) (by decide) (fun v153 => ?_)
        refine pg_icmp_eq (tgt := 1553) dL_law_1054 rfl ?_ ?_
        · exact pg_to (e_L_law_1553 l D nm sc hsc (F_L_law_18 sc n) ih a0 a1 a2 a3 v153.2) [0, 1, 2, 3] rfl
        · refine pg_iconst dL_law_1057 ci_0 ?_
          exact pg_zret dL_law_1058 rfl (Or.inl rfl) rfl
      refine pg_ite (fun hc27 => ?_) (fun hn27 => ?_)
      · refine pg_swIn (tgt := 1059) (j := 27) dL_law_33 (by rw [hc27]; decide) (by decide) rfl rfl ?_
        refine pg_aload_n (i := 1) dL_law_1059 rfl 1 rfl ?_
        refine pg_aload_n (i := 0) dL_law_1060 rfl 0 rfl ?_
        refine pg_iload_n (i := 3) dL_law_1061 rfl 3 rfl ?_
        refine pg_iconst dL_law_1062 ci_1 ?_
        refine pg_iadd dL_law_1063 ?_
        refine pg_xaload 0 (by decide) (fun _ => hsc) dL_law_1064 (fun v154 => ?_)
        refine pg_callV_wI (As := [pI v154]) (rs := []) dL_law_1065 lk_RL_127 vy_X11_joins nd_X11_joins (c_X11_joins l D a1 v154 h) rfl rfl (Nat.le_of_ble_eq_true rfl) (by decide) (by decide) (fun v155 => ?_)
        refine pg_aload_n (i := 2) dL_law_1068 rfl 2 rfl ?_
        refine pg_aload_n (i := 0) dL_law_1069 rfl 0 rfl ?_
        refine pg_iload_n (i := 3) dL_law_1070 rfl 3 rfl ?_
        refine pg_iconst dL_law_1071 ci_1 ?_
        refine pg_iadd dL_law_1072 ?_
        refine pg_xaload 0 (by decide) (fun _ => hsc) dL_law_1073 (fun v156 => ?_)
        refine pg_callV_wI (As := [pI v156]) (rs := [pI v155.1]) dL_law_1074 lk_RL_130 vy_X12_joins nd_X12_joins (c_X12_joins l D a2 v156 v155.2) rfl rfl (Nat.le_of_ble_eq_true rfl) (by decide) (by decide) (fun v157 => ?_)
        refine pg_icmp_eq (tgt := 1553) dL_law_1077 rfl ?_ ?_
        · exact pg_to (e_L_law_1553 l D nm sc hsc (F_L_law_18 sc n) ih a0 a1 a2 a3 v157.2) [0, 1, 2, 3] rfl
        · refine pg_iconst dL_law_1080 ci_0 ?_
          exact pg_zret dL_law_1081 rfl (Or.inl rfl) rfl
      refine pg_ite (fun hc28 => ?_) (fun hn28 => ?_)
      · refine pg_swIn (tgt := 1082) (j := 28) dL_law_33 (by rw [hc28]; decide) (by decide) rfl rfl ?_
        refine pg_aload_n (i := 1) dL_law_1082 rfl 1 rfl ?_
        refine pg_aload_n (i := 0) dL_law_1083 rfl 0 rfl ?_
        refine pg_iload_n (i := 3) dL_law_1084 rfl 3 rfl ?_
        refine pg_iconst dL_law_1085 ci_1 ?_
        refine pg_iadd dL_law_1086 ?_
        refine pg_xaload 0 (by decide) (fun _ => hsc) dL_law_1087 (fun v158 => ?_)
        refine pg_aload_n (i := 0) dL_law_1088 rfl 0 rfl ?_
        refine pg_iload_n (i := 3) dL_law_1089 rfl 3 rfl ?_
        refine pg_iconst dL_law_1090 ci_2 ?_
        refine pg_iadd dL_law_1091 ?_
        refine pg_xaload 0 (by decide) (fun _ => hsc) dL_law_1092 (fun v159 => ?_)
        refine pg_aload_n (i := 0) dL_law_1093 rfl 0 rfl ?_
        refine pg_iload_n (i := 3) dL_law_1094 rfl 3 rfl ?_
        refine pg_iconst dL_law_1095 ci_3 ?_
        refine pg_iadd dL_law_1096 ?_
        refine pg_xaload 0 (by decide) (fun _ => hsc) dL_law_1097 (fun v160 => ?_)
        refine pg_callV_wI (As := [pI v158, pI v159, pI v160]) (rs := []) dL_law_1098 lk_RL_131 vy_X11_times nd_X11_times (c_X11_times l D a1 v158 v159 v160 h) rfl rfl (Nat.le_of_ble_eq_true rfl) (by decide) (by decide) (fun v161 => ?_)
        refine pg_aload_n (i := 2) dL_law_1101 rfl 2 rfl ?_
        refine pg_aload_n (i := 0) dL_law_1102 rfl 0 rfl ?_
        refine pg_iload_n (i := 3) dL_law_1103 rfl 3 rfl ?_
        refine pg_iconst dL_law_1104 ci_1 ?_
        refine pg_iadd dL_law_1105 ?_
        refine pg_xaload 0 (by decide) (fun _ => hsc) dL_law_1106 (fun v162 => ?_)
        refine pg_aload_n (i := 0) dL_law_1107 rfl 0 rfl ?_
        refine pg_iload_n (i := 3) dL_law_1108 rfl 3 rfl ?_
        refine pg_iconst dL_law_1109 ci_2 ?_
        refine pg_iadd dL_law_1110 ?_
        refine pg_xaload 0 (by decide) (fun _ => hsc) dL_law_1111 (fun v163 => ?_)
        refine pg_aload_n (i := 0) dL_law_1112 rfl 0 rfl ?_
        refine pg_iload_n (i := 3) dL_law_1113 rfl 3 rfl ?_
        refine pg_iconst dL_law_1114 ci_3 ?_
        refine pg_iadd dL_law_1115 ?_
        refine pg_xaload 0 (by decide) (fun _ => hsc) dL_law_1116 (fun v164 => ?_)
        refine pg_callV_wI (As := [pI v162, pI v163, pI v164]) (rs := [pI v161.1]) dL_law_1117 lk_RL_134 vy_X12_times nd_X12_times (c_X12_times l D a2 v162 v163 v164 v161.2) rfl rfl (Nat.le_of_ble_eq_true rfl) (by decide) (by decide) (fun v165 => ?_)
        refine pg_icmp_eq (tgt := 1553) dL_law_1120 rfl ?_ ?_
        · exact pg_to (e_L_law_1553 l D nm sc hsc (F_L_law_18 sc n) ih a0 a1 a2 a3 v165.2) [0, 1, 2, 3] rfl
        · refine pg_iconst dL_law_1123 ci_0 ?_
          exact pg_zret dL_law_1124 rfl (Or.inl rfl) rfl
      refine pg_ite (fun hc29 => ?_) (fun hn29 => ?_)
      · refine pg_swIn (tgt := 1125) (j := 29) dL_law_33 (by rw [hc29]; decide) (by decide) rfl rfl ?_
        refine pg_aload_n (i := 1) dL_law_1125 rfl 1 rfl ?_
        refine pg_aload_n (i := 0) dL_law_1126 rfl 0 rfl ?_
        refine pg_iload_n (i := 3) dL_law_1127 rfl 3 rfl ?_
        refine pg_iconst dL_law_1128 ci_1 ?_
        refine pg_iadd dL_law_1129 ?_
        refine pg_xaload 0 (by decide) (fun _ => hsc) dL_law_1130 (fun v166 => ?_)
        refine pg_callV_wI (As := [pI v166]) (rs := []) dL_law_1131 lk_RL_135 vy_X11_written nd_X11_written (c_X11_written l D a1 v166 h) rfl rfl (Nat.le_of_ble_eq_true rfl) (by decide) (by decide) (fun v167 => ?_)
        refine pg_aload_n (i := 2) dL_law_1134 rfl 2 rfl ?_
        refine pg_aload_n (i := 0) dL_law_1135 rfl 0 rfl ?_
        refine pg_iload_n (i := 3) dL_law_1136 rfl 3 rfl ?_
        refine pg_iconst dL_law_1137 ci_1 ?_
        refine pg_iadd dL_law_1138 ?_
        refine pg_xaload 0 (by decide) (fun _ => hsc) dL_law_1139 (fun v168 => ?_)
        refine pg_callV_wI (As := [pI v168]) (rs := [pI v167.1]) dL_law_1140 lk_RL_138 vy_X12_written nd_X12_written (c_X12_written l D a2 v168 v167.2) rfl rfl (Nat.le_of_ble_eq_true rfl) (by decide) (by decide) (fun v169 => ?_)
        refine pg_icmp_eq (tgt := 1553) dL_law_1143 rfl ?_ ?_
        · exact pg_to (e_L_law_1553 l D nm sc hsc (F_L_law_18 sc n) ih a0 a1 a2 a3 v169.2) [0, 1, 2, 3] rfl
        · refine pg_iconst dL_law_1146 ci_0 ?_
          exact pg_zret dL_law_1147 rfl (Or.inl rfl) rfl
      refine pg_ite (fun hc30 => ?_) (fun hn30 => ?_)
      · refine pg_swIn (tgt := 1148) (j := 30) dL_law_33 (by rw [hc30]; decide) (by decide) rfl rfl ?_
        refine pg_aload_n (i := 1) dL_law_1148 rfl 1 rfl ?_
        refine pg_aload_n (i := 0) dL_law_1149 rfl 0 rfl ?_
        refine pg_iload_n (i := 3) dL_law_1150 rfl 3 rfl ?_
        refine pg_iconst dL_law_1151 ci_1 ?_
        refine pg_iadd dL_law_1152 ?_
        refine pg_xaload 0 (by decide) (fun _ => hsc) dL_law_1153 (fun v170 => ?_)
        refine pg_callV_oI (As := [pI v170]) (rs := []) dL_law_1154 lk_RL_139 vy_X11_towns nd_X11_towns (c_X11_towns l D h a1 v170) rfl rfl (Nat.le_of_ble_eq_true rfl) (by decide) (by decide) (fun v171 => ?_)
        refine pg_aload_n (i := 2) dL_law_1157 rfl 2 rfl ?_
        refine pg_aload_n (i := 0) dL_law_1158 rfl 0 rfl ?_
        refine pg_iload_n (i := 3) dL_law_1159 rfl 3 rfl ?_
        refine pg_iconst dL_law_1160 ci_1 ?_
        refine pg_iadd dL_law_1161 ?_
        refine pg_xaload 0 (by decide) (fun _ => hsc) dL_law_1162 (fun v172 => ?_)
        refine pg_callV_oI (As := [pI v172]) (rs := [pI v171]) dL_law_1163 lk_RL_142 vy_X12_towns nd_X12_towns (c_X12_towns l D h a2 v172) rfl rfl (Nat.le_of_ble_eq_true rfl) (by decide) (by decide) (fun v173 => ?_)
        refine pg_icmp_eq (tgt := 1553) dL_law_1166 rfl ?_ ?_
        · exact pg_to (e_L_law_1553 l D nm sc hsc (F_L_law_18 sc n) ih a0 a1 a2 a3 h) [0, 1, 2, 3] rfl
        · refine pg_iconst dL_law_1169 ci_0 ?_
          exact pg_zret dL_law_1170 rfl (Or.inl rfl) rfl
      refine pg_ite (fun hc31 => ?_) (fun hn31 => ?_)
      · refine pg_swIn (tgt := 1171) (j := 31) dL_law_33 (by rw [hc31]; decide) (by decide) rfl rfl ?_
        refine pg_aload_n (i := 1) dL_law_1171 rfl 1 rfl ?_
        refine pg_aload_n (i := 0) dL_law_1172 rfl 0 rfl ?_
        refine pg_iload_n (i := 3) dL_law_1173 rfl 3 rfl ?_
        refine pg_iconst dL_law_1174 ci_1 ?_
        refine pg_iadd dL_law_1175 ?_
        refine pg_xaload 0 (by decide) (fun _ => hsc) dL_law_1176 (fun v174 => ?_)
        refine pg_aload_n (i := 0) dL_law_1177 rfl 0 rfl ?_
        refine pg_iload_n (i := 3) dL_law_1178 rfl 3 rfl ?_
        refine pg_iconst dL_law_1179 ci_2 ?_
        refine pg_iadd dL_law_1180 ?_
        refine pg_xaload 0 (by decide) (fun _ => hsc) dL_law_1181 (fun v175 => ?_)
        refine pg_callV_wI (As := [pI v174, pI v175]) (rs := []) dL_law_1182 lk_RL_143 vy_X11_dates nd_X11_dates (c_X11_dates l D a1 v174 v175 h) rfl rfl (Nat.le_of_ble_eq_true rfl) (by decide) (by decide) (fun v176 => ?_)
        refine pg_aload_n (i := 2) dL_law_1185 rfl 2 rfl ?_
        refine pg_aload_n (i := 0) dL_law_1186 rfl 0 rfl ?_
        refine pg_iload_n (i := 3) dL_law_1187 rfl 3 rfl ?_
        refine pg_iconst dL_law_1188 ci_1 ?_
        refine pg_iadd dL_law_1189 ?_
        refine pg_xaload 0 (by decide) (fun _ => hsc) dL_law_1190 (fun v177 => ?_)
        refine pg_aload_n (i := 0) dL_law_1191 rfl 0 rfl ?_
        refine pg_iload_n (i := 3) dL_law_1192 rfl 3 rfl ?_
        refine pg_iconst dL_law_1193 ci_2 ?_
        refine pg_iadd dL_law_1194 ?_
        refine pg_xaload 0 (by decide) (fun _ => hsc) dL_law_1195 (fun v178 => ?_)
        refine pg_callV_wI (As := [pI v177, pI v178]) (rs := [pI v176.1]) dL_law_1196 lk_RL_146 vy_X12_dates nd_X12_dates (c_X12_dates l D a2 v177 v178 v176.2) rfl rfl (Nat.le_of_ble_eq_true rfl) (by decide) (by decide) (fun v179 => ?_)
        refine pg_icmp_eq (tgt := 1553) dL_law_1199 rfl ?_ ?_
        · exact pg_to (e_L_law_1553 l D nm sc hsc (F_L_law_18 sc n) ih a0 a1 a2 a3 v179.2) [0, 1, 2, 3] rfl
        · refine pg_iconst dL_law_1202 ci_0 ?_
          exact pg_zret dL_law_1203 rfl (Or.inl rfl) rfl
      refine pg_ite (fun hc32 => ?_) (fun hn32 => ?_)
      · refine pg_swIn (tgt := 1204) (j := 32) dL_law_33 (by rw [hc32]; decide) (by decide) rfl rfl ?_
        refine pg_aload_n (i := 1) dL_law_1204 rfl 1 rfl ?_
        refine pg_aload_n (i := 0) dL_law_1205 rfl 0 rfl ?_
        refine pg_iload_n (i := 3) dL_law_1206 rfl 3 rfl ?_
        refine pg_iconst dL_law_1207 ci_1 ?_
        refine pg_iadd dL_law_1208 ?_
        refine pg_xaload 0 (by decide) (fun _ => hsc) dL_law_1209 (fun v180 => ?_)
        refine pg_aload_n (i := 0) dL_law_1210 rfl 0 rfl ?_
        refine pg_iload_n (i := 3) dL_law_1211 rfl 3 rfl ?_
        refine pg_iconst dL_law_1212 ci_2 ?_
        refine pg_iadd dL_law_1213 ?_
        refine pg_xaload 0 (by decide) (fun _ => hsc) dL_law_1214 (fun v181 => ?_)
        refine pg_callV_wI (As := [pI v180, pI v181]) (rs := []) dL_law_1215 lk_RL_147 vy_X11_read nd_X11_read (c_X11_read l D a1 v180 v181 h) rfl rfl (Nat.le_of_ble_eq_true rfl) (by decide) (by decide) (fun v182 => ?_)
        refine pg_aload_n (i := 2) dL_law_1218 rfl 2 rfl ?_
        refine pg_aload_n (i := 0) dL_law_1219 rfl 0 rfl ?_
        refine pg_iload_n (i := 3) dL_law_1220 rfl 3 rfl ?_
        refine pg_iconst dL_law_1221 ci_1 ?_
        refine pg_iadd dL_law_1222 ?_
        refine pg_xaload 0 (by decide) (fun _ => hsc) dL_law_1223 (fun v183 => ?_)
        refine pg_aload_n (i := 0) dL_law_1224 rfl 0 rfl ?_
        refine pg_iload_n (i := 3) dL_law_1225 rfl 3 rfl ?_
        refine pg_iconst dL_law_1226 ci_2 ?_
        refine pg_iadd dL_law_1227 ?_
        refine pg_xaload 0 (by decide) (fun _ => hsc) dL_law_1228 (fun v184 => ?_)
        refine pg_callV_wI (As := [pI v183, pI v184]) (rs := [pI v182.1]) dL_law_1229 lk_RL_150 vy_X12_read nd_X12_read (c_X12_read l D a2 v183 v184 v182.2) rfl rfl (Nat.le_of_ble_eq_true rfl) (by decide) (by decide) (fun v185 => ?_)
        refine pg_icmp_eq (tgt := 1553) dL_law_1232 rfl ?_ ?_
        · exact pg_to (e_L_law_1553 l D nm sc hsc (F_L_law_18 sc n) ih a0 a1 a2 a3 v185.2) [0, 1, 2, 3] rfl
        · refine pg_iconst dL_law_1235 ci_0 ?_
          exact pg_zret dL_law_1236 rfl (Or.inl rfl) rfl
      refine pg_ite (fun hc33 => ?_) (fun hn33 => ?_)
      · refine pg_swIn (tgt := 1237) (j := 33) dL_law_33 (by rw [hc33]; decide) (by decide) rfl rfl ?_
        refine pg_aload_n (i := 1) dL_law_1237 rfl 1 rfl ?_
        refine pg_aload_n (i := 0) dL_law_1238 rfl 0 rfl ?_
        refine pg_iload_n (i := 3) dL_law_1239 rfl 3 rfl ?_
        refine pg_iconst dL_law_1240 ci_1 ?_
        refine pg_iadd dL_law_1241 ?_
        refine pg_xaload 0 (by decide) (fun _ => hsc) dL_law_1242 (fun v186 => ?_)
        refine pg_aload_n (i := 0) dL_law_1243 rfl 0 rfl ?_
        refine pg_iload_n (i := 3) dL_law_1244 rfl 3 rfl ?_
        refine pg_iconst dL_law_1245 ci_2 ?_
        refine pg_iadd dL_law_1246 ?_
        refine pg_xaload 0 (by decide) (fun _ => hsc) dL_law_1247 (fun v187 => ?_)
        refine pg_callV_oI (As := [pI v186, pI v187]) (rs := []) dL_law_1248 lk_RL_151 vy_X11_stops nd_X11_stops (c_X11_stops l D h a1 v186 v187) rfl rfl (Nat.le_of_ble_eq_true rfl) (by decide) (by decide) (fun v188 => ?_)
        refine pg_aload_n (i := 2) dL_law_1251 rfl 2 rfl ?_
        refine pg_aload_n (i := 0) dL_law_1252 rfl 0 rfl ?_
        refine pg_iload_n (i := 3) dL_law_1253 rfl 3 rfl ?_
        refine pg_iconst dL_law_1254 ci_1 ?_
        refine pg_iadd dL_law_1255 ?_
        refine pg_xaload 0 (by decide) (fun _ => hsc) dL_law_1256 (fun v189 => ?_)
        refine pg_aload_n (i := 0) dL_law_1257 rfl 0 rfl ?_
        refine pg_iload_n (i := 3) dL_law_1258 rfl 3 rfl ?_
        refine pg_iconst dL_law_1259 ci_2 ?_
        refine pg_iadd dL_law_1260 ?_
        refine pg_xaload 0 (by decide) (fun _ => hsc) dL_law_1261 (fun v190 => ?_)
        refine pg_callV_oI (As := [pI v189, pI v190]) (rs := [pI v188]) dL_law_1262 lk_RL_154 vy_X12_stops nd_X12_stops (c_X12_stops l D h a2 v189 v190) rfl rfl (Nat.le_of_ble_eq_true rfl) (by decide) (by decide) (fun v191 => ?_)
        refine pg_icmp_eq (tgt := 1553) dL_law_1265 rfl ?_ ?_
        · exact pg_to (e_L_law_1553 l D nm sc hsc (F_L_law_18 sc n) ih a0 a1 a2 a3 h) [0, 1, 2, 3] rfl
        · refine pg_iconst dL_law_1268 ci_0 ?_
          exact pg_zret dL_law_1269 rfl (Or.inl rfl) rfl
      refine pg_ite (fun hc34 => ?_) (fun hn34 => ?_)
      · refine pg_swIn (tgt := 1270) (j := 34) dL_law_33 (by rw [hc34]; decide) (by decide) rfl rfl ?_
        refine pg_aload_n (i := 1) dL_law_1270 rfl 1 rfl ?_
        refine pg_aload_n (i := 0) dL_law_1271 rfl 0 rfl ?_
        refine pg_iload_n (i := 3) dL_law_1272 rfl 3 rfl ?_
        refine pg_iconst dL_law_1273 ci_1 ?_
        refine pg_iadd dL_law_1274 ?_
        refine pg_xaload 0 (by decide) (fun _ => hsc) dL_law_1275 (fun v192 => ?_)
        refine pg_aload_n (i := 0) dL_law_1276 rfl 0 rfl ?_
        refine pg_iload_n (i := 3) dL_law_1277 rfl 3 rfl ?_
        refine pg_iconst dL_law_1278 ci_2 ?_
        refine pg_iadd dL_law_1279 ?_
        refine pg_xaload 0 (by decide) (fun _ => hsc) dL_law_1280 (fun v193 => ?_)
        refine pg_callV_oI (As := [pI v192, pI v193]) (rs := []) dL_law_1281 lk_RL_155 vy_X11_many nd_X11_many (c_X11_many l D h a1 v192 v193) rfl rfl (Nat.le_of_ble_eq_true rfl) (by decide) (by decide) (fun v194 => ?_)
        refine pg_aload_n (i := 2) dL_law_1284 rfl 2 rfl ?_
        refine pg_aload_n (i := 0) dL_law_1285 rfl 0 rfl ?_
        refine pg_iload_n (i := 3) dL_law_1286 rfl 3 rfl ?_
        refine pg_iconst dL_law_1287 ci_1 ?_
        refine pg_iadd dL_law_1288 ?_
        refine pg_xaload 0 (by decide) (fun _ => hsc) dL_law_1289 (fun v195 => ?_)
        refine pg_aload_n (i := 0) dL_law_1290 rfl 0 rfl ?_
        refine pg_iload_n (i := 3) dL_law_1291 rfl 3 rfl ?_
        refine pg_iconst dL_law_1292 ci_2 ?_
        refine pg_iadd dL_law_1293 ?_
        refine pg_xaload 0 (by decide) (fun _ => hsc) dL_law_1294 (fun v196 => ?_)
        refine pg_callV_oI (As := [pI v195, pI v196]) (rs := [pI v194]) dL_law_1295 lk_RL_158 vy_X12_many nd_X12_many (c_X12_many l D h a2 v195 v196) rfl rfl (Nat.le_of_ble_eq_true rfl) (by decide) (by decide) (fun v197 => ?_)
        refine pg_icmp_eq (tgt := 1553) dL_law_1298 rfl ?_ ?_
        · exact pg_to (e_L_law_1553 l D nm sc hsc (F_L_law_18 sc n) ih a0 a1 a2 a3 h) [0, 1, 2, 3] rfl
        · refine pg_iconst dL_law_1301 ci_0 ?_
          exact pg_zret dL_law_1302 rfl (Or.inl rfl) rfl
      refine pg_ite (fun hc35 => ?_) (fun hn35 => ?_)
      · refine pg_swIn (tgt := 1303) (j := 35) dL_law_33 (by rw [hc35]; decide) (by decide) rfl rfl ?_
        refine pg_aload_n (i := 1) dL_law_1303 rfl 1 rfl ?_
        refine pg_callV_oI (As := []) (rs := []) dL_law_1304 lk_RL_159 vy_X11_chao nd_X11_chao (c_X11_chao l D h a1) rfl rfl (Nat.le_of_ble_eq_true rfl) (by decide) (by decide) (fun v198 => ?_)
        refine pg_aload_n (i := 2) dL_law_1307 rfl 2 rfl ?_
        refine pg_callV_oI (As := []) (rs := [pI v198]) dL_law_1308 lk_RL_162 vy_X12_chao nd_X12_chao (c_X12_chao l D h a2) rfl rfl (Nat.le_of_ble_eq_true rfl) (by decide) (by decide) (fun v199 => ?_)
        refine pg_icmp_eq (tgt := 1553) dL_law_1311 rfl ?_ ?_
        · exact pg_to (e_L_law_1553 l D nm sc hsc (F_L_law_18 sc n) ih a0 a1 a2 a3 h) [0, 1, 2, 3] rfl
        · refine pg_iconst dL_law_1314 ci_0 ?_
          exact pg_zret dL_law_1315 rfl (Or.inl rfl) rfl
      refine pg_ite (fun hc36 => ?_) (fun hn36 => ?_)
      · refine pg_swIn (tgt := 1316) (j := 36) dL_law_33 (by rw [hc36]; decide) (by decide) rfl rfl ?_
        refine pg_aload_n (i := 1) dL_law_1316 rfl 1 rfl ?_
        refine pg_aload_n (i := 0) dL_law_1317 rfl 0 rfl ?_
        refine pg_iload_n (i := 3) dL_law_1318 rfl 3 rfl ?_
        refine pg_iconst dL_law_1319 ci_1 ?_
        refine pg_iadd dL_law_1320 ?_
        refine pg_xaload 0 (by decide) (fun _ => hsc) dL_law_1321 (fun v200 => ?_)
        refine pg_aload_n (i := 0) dL_law_1322 rfl 0 rfl ?_
        refine pg_iload_n (i := 3) dL_law_1323 rfl 3 rfl ?_
        refine pg_iconst dL_law_1324 ci_2 ?_
        refine pg_iadd dL_law_1325 ?_
        refine pg_xaload 0 (by decide) (fun _ => hsc) dL_law_1326 (fun v201 => ?_)
        refine pg_aload_n (i := 0) dL_law_1327 rfl 0 rfl ?_
        refine pg_iload_n (i := 3) dL_law_1328 rfl 3 rfl ?_
        refine pg_iconst dL_law_1329 ci_3 ?_
        refine pg_iadd dL_law_1330 ?_
        refine pg_xaload 0 (by decide) (fun _ => hsc) dL_law_1331 (fun v202 => ?_)
        refine pg_callV_wI (As := [pI v200, pI v201, pI v202]) (rs := []) dL_law_1332 lk_RL_163 vy_X11_censor nd_X11_censor (c_X11_censor l D a1 v200 v201 v202 h) rfl rfl (Nat.le_of_ble_eq_true rfl) (by decide) (by decide) (fun v203 => ?_)
        refine pg_aload_n (i := 2) dL_law_1335 rfl 2 rfl ?_
        refine pg_aload_n (i := 0) dL_law_1336 rfl 0 rfl ?_
        refine pg_iload_n (i := 3) dL_law_1337 rfl 3 rfl ?_
        refine pg_iconst dL_law_1338 ci_1 ?_
        refine pg_iadd dL_law_1339 ?_
        refine pg_xaload 0 (by decide) (fun _ => hsc) dL_law_1340 (fun v204 => ?_)
        refine pg_aload_n (i := 0) dL_law_1341 rfl 0 rfl ?_
        refine pg_iload_n (i := 3) dL_law_1342 rfl 3 rfl ?_
        refine pg_iconst dL_law_1343 ci_2 ?_
        refine pg_iadd dL_law_1344 ?_
        refine pg_xaload 0 (by decide) (fun _ => hsc) dL_law_1345 (fun v205 => ?_)
        refine pg_aload_n (i := 0) dL_law_1346 rfl 0 rfl ?_
        refine pg_iload_n (i := 3) dL_law_1347 rfl 3 rfl ?_
        refine pg_iconst dL_law_1348 ci_3 ?_
        refine pg_iadd dL_law_1349 ?_
        refine pg_xaload 0 (by decide) (fun _ => hsc) dL_law_1350 (fun v206 => ?_)
        refine pg_callV_wI (As := [pI v204, pI v205, pI v206]) (rs := [pI v203.1]) dL_law_1351 lk_RL_166 vy_X12_censor nd_X12_censor (c_X12_censor l D a2 v204 v205 v206 v203.2) rfl rfl (Nat.le_of_ble_eq_true rfl) (by decide) (by decide) (fun v207 => ?_)
        refine pg_icmp_eq (tgt := 1553) dL_law_1354 rfl ?_ ?_
        · exact pg_to (e_L_law_1553 l D nm sc hsc (F_L_law_18 sc n) ih a0 a1 a2 a3 v207.2) [0, 1, 2, 3] rfl
        · refine pg_iconst dL_law_1357 ci_0 ?_
          exact pg_zret dL_law_1358 rfl (Or.inl rfl) rfl
      refine pg_ite (fun hc37 => ?_) (fun hn37 => ?_)
      · refine pg_swIn (tgt := 1359) (j := 37) dL_law_33 (by rw [hc37]; decide) (by decide) rfl rfl ?_
        refine pg_aload_n (i := 1) dL_law_1359 rfl 1 rfl ?_
        refine pg_aload_n (i := 0) dL_law_1360 rfl 0 rfl ?_
        refine pg_iload_n (i := 3) dL_law_1361 rfl 3 rfl ?_
        refine pg_iconst dL_law_1362 ci_1 ?_
        refine pg_iadd dL_law_1363 ?_
        refine pg_xaload 0 (by decide) (fun _ => hsc) dL_law_1364 (fun v208 => ?_)
        refine pg_aload_n (i := 0) dL_law_1365 rfl 0 rfl ?_
        refine pg_iload_n (i := 3) dL_law_1366 rfl 3 rfl ?_
        refine pg_iconst dL_law_1367 ci_2 ?_
        refine pg_iadd dL_law_1368 ?_
        refine pg_xaload 0 (by decide) (fun _ => hsc) dL_law_1369 (fun v209 => ?_)
        refine pg_callV_wI (As := [pI v208, pI v209]) (rs := []) dL_law_1370 lk_RL_167 vy_X11_late nd_X11_late (c_X11_late l D a1 v208 v209 h) rfl rfl (Nat.le_of_ble_eq_true rfl) (by decide) (by decide) (fun v210 => ?_)
        refine pg_aload_n (i := 2) dL_law_1373 rfl 2 rfl ?_
        refine pg_aload_n (i := 0) dL_law_1374 rfl 0 rfl ?_
        refine pg_iload_n (i := 3) dL_law_1375 rfl 3 rfl ?_
        refine pg_iconst dL_law_1376 ci_1 ?_
        refine pg_iadd dL_law_1377 ?_
        refine pg_xaload 0 (by decide) (fun _ => hsc) dL_law_1378 (fun v211 => ?_)
        refine pg_aload_n (i := 0) dL_law_1379 rfl 0 rfl ?_
        refine pg_iload_n (i := 3) dL_law_1380 rfl 3 rfl ?_
        refine pg_iconst dL_law_1381 ci_2 ?_
        refine pg_iadd dL_law_1382 ?_
        refine pg_xaload 0 (by decide) (fun _ => hsc) dL_law_1383 (fun v212 => ?_)
        refine pg_callV_wI (As := [pI v211, pI v212]) (rs := [pI v210.1]) dL_law_1384 lk_RL_170 vy_X12_late nd_X12_late (c_X12_late l D a2 v211 v212 v210.2) rfl rfl (Nat.le_of_ble_eq_true rfl) (by decide) (by decide) (fun v213 => ?_)
        refine pg_icmp_eq (tgt := 1553) dL_law_1387 rfl ?_ ?_
        · exact pg_to (e_L_law_1553 l D nm sc hsc (F_L_law_18 sc n) ih a0 a1 a2 a3 v213.2) [0, 1, 2, 3] rfl
        · refine pg_iconst dL_law_1390 ci_0 ?_
          exact pg_zret dL_law_1391 rfl (Or.inl rfl) rfl
      refine pg_ite (fun hc38 => ?_) (fun hn38 => ?_)
      · refine pg_swIn (tgt := 1392) (j := 38) dL_law_33 (by rw [hc38]; decide) (by decide) rfl rfl ?_
        refine pg_aload_n (i := 1) dL_law_1392 rfl 1 rfl ?_
        refine pg_aload_n (i := 0) dL_law_1393 rfl 0 rfl ?_
        refine pg_iload_n (i := 3) dL_law_1394 rfl 3 rfl ?_
        refine pg_iconst dL_law_1395 ci_1 ?_
        refine pg_iadd dL_law_1396 ?_
        refine pg_xaload 0 (by decide) (fun _ => hsc) dL_law_1397 (fun v214 => ?_)
        refine pg_callV_oI (As := [pI v214]) (rs := []) dL_law_1398 lk_RL_171 vy_X11_next nd_X11_next (c_X11_next l D h a1 v214) rfl rfl (Nat.le_of_ble_eq_true rfl) (by decide) (by decide) (fun v215 => ?_)
        refine pg_aload_n (i := 2) dL_law_1401 rfl 2 rfl ?_
        refine pg_aload_n (i := 0) dL_law_1402 rfl 0 rfl ?_
        refine pg_iload_n (i := 3) dL_law_1403 rfl 3 rfl ?_
        refine pg_iconst dL_law_1404 ci_1 ?_
        refine pg_iadd dL_law_1405 ?_
        refine pg_xaload 0 (by decide) (fun _ => hsc) dL_law_1406 (fun v216 => ?_)
        refine pg_callV_oI (As := [pI v216]) (rs := [pI v215]) dL_law_1407 lk_RL_174 vy_X12_next nd_X12_next (c_X12_next l D h a2 v216) rfl rfl (Nat.le_of_ble_eq_true rfl) (by decide) (by decide) (fun v217 => ?_)
        refine pg_icmp_eq (tgt := 1553) dL_law_1410 rfl ?_ ?_
        · exact pg_to (e_L_law_1553 l D nm sc hsc (F_L_law_18 sc n) ih a0 a1 a2 a3 h) [0, 1, 2, 3] rfl
        · refine pg_iconst dL_law_1413 ci_0 ?_
          exact pg_zret dL_law_1414 rfl (Or.inl rfl) rfl
      refine pg_ite (fun hc39 => ?_) (fun hn39 => ?_)
      · refine pg_swIn (tgt := 1415) (j := 39) dL_law_33 (by rw [hc39]; decide) (by decide) rfl rfl ?_
        refine pg_aload_n (i := 1) dL_law_1415 rfl 1 rfl ?_
        refine pg_aload_n (i := 0) dL_law_1416 rfl 0 rfl ?_
        refine pg_iload_n (i := 3) dL_law_1417 rfl 3 rfl ?_
        refine pg_iconst dL_law_1418 ci_1 ?_
        refine pg_iadd dL_law_1419 ?_
        refine pg_xaload 0 (by decide) (fun _ => hsc) dL_law_1420 (fun v218 => ?_)
        refine pg_callV_wI (As := [pI v218]) (rs := []) dL_law_1421 lk_RL_175 vy_X11_run nd_X11_run (c_X11_run l D a1 v218 h) rfl rfl (Nat.le_of_ble_eq_true rfl) (by decide) (by decide) (fun v219 => ?_)
        refine pg_aload_n (i := 2) dL_law_1424 rfl 2 rfl ?_
        refine pg_aload_n (i := 0) dL_law_1425 rfl 0 rfl ?_
        refine pg_iload_n (i := 3) dL_law_1426 rfl 3 rfl ?_
        refine pg_iconst dL_law_1427 ci_1 ?_
        refine pg_iadd dL_law_1428 ?_
        refine pg_xaload 0 (by decide) (fun _ => hsc) dL_law_1429 (fun v220 => ?_)
        refine pg_callV_wI (As := [pI v220]) (rs := [pI v219.1]) dL_law_1430 lk_RL_178 vy_X12_run nd_X12_run (c_X12_run l D a2 v220 v219.2) rfl rfl (Nat.le_of_ble_eq_true rfl) (by decide) (by decide) (fun v221 => ?_)
        refine pg_icmp_eq (tgt := 1553) dL_law_1433 rfl ?_ ?_
        · exact pg_to (e_L_law_1553 l D nm sc hsc (F_L_law_18 sc n) ih a0 a1 a2 a3 v221.2) [0, 1, 2, 3] rfl
        · refine pg_iconst dL_law_1436 ci_0 ?_
          exact pg_zret dL_law_1437 rfl (Or.inl rfl) rfl
      refine pg_ite (fun hc40 => ?_) (fun hn40 => ?_)
      · refine pg_swIn (tgt := 1438) (j := 40) dL_law_33 (by rw [hc40]; decide) (by decide) rfl rfl ?_
        refine pg_aload_n (i := 1) dL_law_1438 rfl 1 rfl ?_
        refine pg_aload_n (i := 0) dL_law_1439 rfl 0 rfl ?_
        refine pg_iload_n (i := 3) dL_law_1440 rfl 3 rfl ?_
        refine pg_iconst dL_law_1441 ci_1 ?_
        refine pg_iadd dL_law_1442 ?_
        refine pg_xaload 0 (by decide) (fun _ => hsc) dL_law_1443 (fun v222 => ?_)
        refine pg_aload_n (i := 0) dL_law_1444 rfl 0 rfl ?_
        refine pg_iload_n (i := 3) dL_law_1445 rfl 3 rfl ?_
        refine pg_iconst dL_law_1446 ci_2 ?_
        refine pg_iadd dL_law_1447 ?_
        refine pg_xaload 0 (by decide) (fun _ => hsc) dL_law_1448 (fun v223 => ?_)
        refine pg_callV_oI (As := [pI v222, pI v223]) (rs := []) dL_law_1449 lk_RL_179 vy_X11_world nd_X11_world (c_X11_world l D h a1 v222 v223) rfl rfl (Nat.le_of_ble_eq_true rfl) (by decide) (by decide) (fun v224 => ?_)
        refine pg_aload_n (i := 2) dL_law_1452 rfl 2 rfl ?_
        refine pg_aload_n (i := 0) dL_law_1453 rfl 0 rfl ?_
        refine pg_iload_n (i := 3) dL_law_1454 rfl 3 rfl ?_
        refine pg_iconst dL_law_1455 ci_1 ?_
        refine pg_iadd dL_law_1456 ?_
        refine pg_xaload 0 (by decide) (fun _ => hsc) dL_law_1457 (fun v225 => ?_)
        refine pg_aload_n (i := 0) dL_law_1458 rfl 0 rfl ?_
        refine pg_iload_n (i := 3) dL_law_1459 rfl 3 rfl ?_
        refine pg_iconst dL_law_1460 ci_2 ?_
        refine pg_iadd dL_law_1461 ?_
        refine pg_xaload 0 (by decide) (fun _ => hsc) dL_law_1462 (fun v226 => ?_)
        refine pg_callV_oI (As := [pI v225, pI v226]) (rs := [pI v224]) dL_law_1463 lk_RL_182 vy_X12_world nd_X12_world (c_X12_world l D h a2 v225 v226) rfl rfl (Nat.le_of_ble_eq_true rfl) (by decide) (by decide) (fun v227 => ?_)
        refine pg_icmp_eq (tgt := 1553) dL_law_1466 rfl ?_ ?_
        · exact pg_to (e_L_law_1553 l D nm sc hsc (F_L_law_18 sc n) ih a0 a1 a2 a3 h) [0, 1, 2, 3] rfl
        · refine pg_iconst dL_law_1469 ci_0 ?_
          exact pg_zret dL_law_1470 rfl (Or.inl rfl) rfl
      refine pg_ite (fun hc41 => ?_) (fun hn41 => ?_)
      · refine pg_swIn (tgt := 1471) (j := 41) dL_law_33 (by rw [hc41]; decide) (by decide) rfl rfl ?_
        refine pg_aload_n (i := 1) dL_law_1471 rfl 1 rfl ?_
        refine pg_aload_n (i := 0) dL_law_1472 rfl 0 rfl ?_
        refine pg_iload_n (i := 3) dL_law_1473 rfl 3 rfl ?_
        refine pg_iconst dL_law_1474 ci_1 ?_
        refine pg_iadd dL_law_1475 ?_
        refine pg_xaload 0 (by decide) (fun _ => hsc) dL_law_1476 (fun v228 => ?_)
        refine pg_callV_wI (As := [pI v228]) (rs := []) dL_law_1477 lk_RL_183 vy_X11_image nd_X11_image (c_X11_image l D a1 v228 h) rfl rfl (Nat.le_of_ble_eq_true rfl) (by decide) (by decide) (fun v229 => ?_)
        refine pg_aload_n (i := 2) dL_law_1480 rfl 2 rfl ?_
        refine pg_aload_n (i := 0) dL_law_1481 rfl 0 rfl ?_
        refine pg_iload_n (i := 3) dL_law_1482 rfl 3 rfl ?_
        refine pg_iconst dL_law_1483 ci_1 ?_
        refine pg_iadd dL_law_1484 ?_
        refine pg_xaload 0 (by decide) (fun _ => hsc) dL_law_1485 (fun v230 => ?_)
        refine pg_callV_wI (As := [pI v230]) (rs := [pI v229.1]) dL_law_1486 lk_RL_186 vy_X12_image nd_X12_image (c_X12_image l D a2 v230 v229.2) rfl rfl (Nat.le_of_ble_eq_true rfl) (by decide) (by decide) (fun v231 => ?_)
        refine pg_icmp_eq (tgt := 1553) dL_law_1489 rfl ?_ ?_
        · exact pg_to (e_L_law_1553 l D nm sc hsc (F_L_law_18 sc n) ih a0 a1 a2 a3 v231.2) [0, 1, 2, 3] rfl
        · refine pg_iconst dL_law_1492 ci_0 ?_
          exact pg_zret dL_law_1493 rfl (Or.inl rfl) rfl
      refine pg_ite (fun hc42 => ?_) (fun hn42 => ?_)
      · refine pg_swIn (tgt := 1494) (j := 42) dL_law_33 (by rw [hc42]; decide) (by decide) rfl rfl ?_
        refine pg_aload_n (i := 1) dL_law_1494 rfl 1 rfl ?_
        refine pg_aload_n (i := 0) dL_law_1495 rfl 0 rfl ?_
        refine pg_iload_n (i := 3) dL_law_1496 rfl 3 rfl ?_
        refine pg_iconst dL_law_1497 ci_1 ?_
        refine pg_iadd dL_law_1498 ?_
        refine pg_xaload 0 (by decide) (fun _ => hsc) dL_law_1499 (fun v232 => ?_)
        refine pg_callV_wI (As := [pI v232]) (rs := []) dL_law_1500 lk_RL_187 vy_X11_back nd_X11_back (c_X11_back l D a1 v232 h) rfl rfl (Nat.le_of_ble_eq_true rfl) (by decide) (by decide) (fun v233 => ?_)
        refine pg_aload_n (i := 2) dL_law_1503 rfl 2 rfl ?_
        refine pg_aload_n (i := 0) dL_law_1504 rfl 0 rfl ?_
        refine pg_iload_n (i := 3) dL_law_1505 rfl 3 rfl ?_
        refine pg_iconst dL_law_1506 ci_1 ?_
        refine pg_iadd dL_law_1507 ?_
        refine pg_xaload 0 (by decide) (fun _ => hsc) dL_law_1508 (fun v234 => ?_)
        refine pg_callV_wI (As := [pI v234]) (rs := [pI v233.1]) dL_law_1509 lk_RL_190 vy_X12_back nd_X12_back (c_X12_back l D a2 v234 v233.2) rfl rfl (Nat.le_of_ble_eq_true rfl) (by decide) (by decide) (fun v235 => ?_)
        refine pg_icmp_eq (tgt := 1553) dL_law_1512 rfl ?_ ?_
        · exact pg_to (e_L_law_1553 l D nm sc hsc (F_L_law_18 sc n) ih a0 a1 a2 a3 v235.2) [0, 1, 2, 3] rfl
        · refine pg_iconst dL_law_1515 ci_0 ?_
          exact pg_zret dL_law_1516 rfl (Or.inl rfl) rfl
      refine pg_ite (fun hc43 => ?_) (fun hn43 => ?_)
      · refine pg_swIn (tgt := 1517) (j := 43) dL_law_33 (by rw [hc43]; decide) (by decide) rfl rfl ?_
        refine pg_aload_n (i := 1) dL_law_1517 rfl 1 rfl ?_
        refine pg_aload_n (i := 0) dL_law_1518 rfl 0 rfl ?_
        refine pg_iload_n (i := 3) dL_law_1519 rfl 3 rfl ?_
        refine pg_iconst dL_law_1520 ci_1 ?_
        refine pg_iadd dL_law_1521 ?_
        refine pg_xaload 0 (by decide) (fun _ => hsc) dL_law_1522 (fun v236 => ?_)
        refine pg_callV_oI (As := [pI v236]) (rs := []) dL_law_1523 lk_RL_191 vy_X11_count nd_X11_count (c_X11_count l D h a1 v236) rfl rfl (Nat.le_of_ble_eq_true rfl) (by decide) (by decide) (fun v237 => ?_)
        refine pg_aload_n (i := 2) dL_law_1526 rfl 2 rfl ?_
        refine pg_aload_n (i := 0) dL_law_1527 rfl 0 rfl ?_
        refine pg_iload_n (i := 3) dL_law_1528 rfl 3 rfl ?_
        refine pg_iconst dL_law_1529 ci_1 ?_
        refine pg_iadd dL_law_1530 ?_
        refine pg_xaload 0 (by decide) (fun _ => hsc) dL_law_1531 (fun v238 => ?_)
        refine pg_callV_oI (As := [pI v238]) (rs := [pI v237]) dL_law_1532 lk_RL_194 vy_X12_count nd_X12_count (c_X12_count l D h a2 v238) rfl rfl (Nat.le_of_ble_eq_true rfl) (by decide) (by decide) (fun v239 => ?_)
        refine pg_icmp_eq (tgt := 1553) dL_law_1535 rfl ?_ ?_
        · exact pg_to (e_L_law_1553 l D nm sc hsc (F_L_law_18 sc n) ih a0 a1 a2 a3 h) [0, 1, 2, 3] rfl
        · refine pg_iconst dL_law_1538 ci_0 ?_
          exact pg_zret dL_law_1539 rfl (Or.inl rfl) rfl
      refine pg_ite (fun hc44 => ?_) (fun hn44 => ?_)
      · refine pg_swIn (tgt := 1540) (j := 44) dL_law_33 (by rw [hc44]; decide) (by decide) rfl rfl ?_
        refine pg_aload_n (i := 1) dL_law_1540 rfl 1 rfl ?_
        refine pg_callV_oI (As := []) (rs := []) dL_law_1541 lk_RL_195 vy_X11_status nd_X11_status (c_X11_status l D h a1) rfl rfl (Nat.le_of_ble_eq_true rfl) (by decide) (by decide) (fun v240 => ?_)
        refine pg_aload_n (i := 2) dL_law_1544 rfl 2 rfl ?_
        refine pg_callV_oI (As := []) (rs := [pI v240]) dL_law_1545 lk_RL_198 vy_X12_status nd_X12_status (c_X12_status l D h a2) rfl rfl (Nat.le_of_ble_eq_true rfl) (by decide) (by decide) (fun v241 => ?_)
        refine pg_icmp_eq (tgt := 1553) dL_law_1548 rfl ?_ ?_
        · exact pg_to (e_L_law_1553 l D nm sc hsc (F_L_law_18 sc n) ih a0 a1 a2 a3 h) [0, 1, 2, 3] rfl
        · refine pg_iconst dL_law_1551 ci_0 ?_
          exact pg_zret dL_law_1552 rfl (Or.inl rfl) rfl
      refine pg_swOut (tgt := 1553) dL_law_33 (pg_swR (lo := 0) (n := 45) (by decide) (fun j hj => ?_)) rfl ?_
      · match j, hj with
        | 0, _ => exact pg_ne hn0 (by decide)
        | 1, _ => exact pg_ne hn1 (by decide)
        | 2, _ => exact pg_ne hn2 (by decide)
        | 3, _ => exact pg_ne hn3 (by decide)
        | 4, _ => exact pg_ne hn4 (by decide)
        | 5, _ => exact pg_ne hn5 (by decide)
        | 6, _ => exact pg_ne hn6 (by decide)
        | 7, _ => exact pg_ne hn7 (by decide)
        | 8, _ => exact pg_ne hn8 (by decide)
        | 9, _ => exact pg_ne hn9 (by decide)
        | 10, _ => exact pg_ne hn10 (by decide)
        | 11, _ => exact pg_ne hn11 (by decide)
        | 12, _ => exact pg_ne hn12 (by decide)
        | 13, _ => exact pg_ne hn13 (by decide)
        | 14, _ => exact pg_ne hn14 (by decide)
        | 15, _ => exact pg_ne hn15 (by decide)
        | 16, _ => exact pg_ne hn16 (by decide)
        | 17, _ => exact pg_ne hn17 (by decide)
        | 18, _ => exact pg_ne hn18 (by decide)
        | 19, _ => exact pg_ne hn19 (by decide)
        | 20, _ => exact pg_ne hn20 (by decide)
        | 21, _ => exact pg_ne hn21 (by decide)
        | 22, _ => exact pg_ne hn22 (by decide)
        | 23, _ => exact pg_ne hn23 (by decide)
        | 24, _ => exact pg_ne hn24 (by decide)
        | 25, _ => exact pg_ne hn25 (by decide)
        | 26, _ => exact pg_ne hn26 (by decide)
        | 27, _ => exact pg_ne hn27 (by decide)
        | 28, _ => exact pg_ne hn28 (by decide)
        | 29, _ => exact pg_ne hn29 (by decide)
        | 30, _ => exact pg_ne hn30 (by decide)
        | 31, _ => exact pg_ne hn31 (by decide)
        | 32, _ => exact pg_ne hn32 (by decide)
        | 33, _ => exact pg_ne hn33 (by decide)
        | 34, _ => exact pg_ne hn34 (by decide)
        | 35, _ => exact pg_ne hn35 (by decide)
        | 36, _ => exact pg_ne hn36 (by decide)
        | 37, _ => exact pg_ne hn37 (by decide)
        | 38, _ => exact pg_ne hn38 (by decide)
        | 39, _ => exact pg_ne hn39 (by decide)
        | 40, _ => exact pg_ne hn40 (by decide)
        | 41, _ => exact pg_ne hn41 (by decide)
        | 42, _ => exact pg_ne hn42 (by decide)
        | 43, _ => exact pg_ne hn43 (by decide)
        | 44, _ => exact pg_ne hn44 (by decide)
        | q + 45, hj => exact absurd hj (by omega)
      · exact pg_to (e_L_law_1553 l D nm sc hsc (F_L_law_18 sc n) ih a0 a1 a2 a3 h) [0, 1, 2, 3] rfl
theorem e_L_law (l : Launch) (D : pg_D) (nm : String) (sc : Nat × (Nat → Int32)) (hsc : pg_sx D 0 = sc)  (a0 : Nat) (h : pg_H) : pg_EvF l D RL cL_law 4 (some FieldType.boolean) nm 1313 34028 pg_wI (F_L_law sc a0 h) 0 [(0, pR a0)] [] h := by
  unfold F_L_law
  refine pg_newO (q := (RX11, TX11, 16)) dL_law_0 (by decide) rfl rfl pw1_23 pw1_24 pw1_1 (fun v1 => ?_)
  refine pg_dup dL_law_3 rfl ?_
  refine pg_callI_wV (As := []) (rs := [pR v1.1]) dL_law_4 lk_RL_9 vy_X11_init nd_X11_init (c_X11_init l D v1.1 v1.2) rfl rfl (Nat.le_of_ble_eq_true rfl) (by decide) (by decide) (fun v2 => ?_)
  refine pg_astore_n (i := 1) (lv' := [(1, pR v1.1), (0, pR a0)]) dL_law_7 rfl (by decide) rfl ?_
  refine pg_newO (q := (RX12, TX12, 46)) dL_law_8 (by decide) rfl rfl pw6_29 pw6_30 pw1_13 (fun v3 => ?_)
  refine pg_dup dL_law_11 rfl ?_
  refine pg_callI_wV (As := []) (rs := [pR v3.1]) dL_law_12 lk_RL_12 vy_X12_init nd_X12_init (c_X12_init l D v3.1 v3.2) rfl rfl (Nat.le_of_ble_eq_true rfl) (by decide) (by decide) (fun v4 => ?_)
  refine pg_astore_n (i := 2) (lv' := [(2, pR v3.1), (1, pR v1.1), (0, pR a0)]) dL_law_15 rfl (by decide) rfl ?_
  refine pg_iconst dL_law_16 ci_0 ?_
  refine pg_istore_n (i := 3) (lv' := [(3, pI (0 : Int32)), (2, pR v3.1), (1, pR v1.1), (0, pR a0)]) dL_law_17 rfl (by decide) rfl ?_
  exact pg_to (e_L_law_18 l D nm sc hsc pg_fuel a0 v1.1 v3.1 (0 : Int32) v4) [3, 2, 1, 0] rfl
