/-! THE LAW: its loop as a function, and its walk (written by program) -/
def f_L_law_b18 (L : Nat) (xs : Nat → Int32) : Nat → Int32 → Mem → Option (Unit × Mem)
  | 0, _, _ => none
  | n + 1, x3, I => if ((nI L) - (7 : Int32)) < x3 then (some ((), I)) else if inb x3 L = true then (lt1 ((xs (x3).toNatClampNeg) &&& (63 : Int32)) fun v1 => if v1 = (0 : Int32) then (if inb (x3 + (1 : Int32)) L = true then (bnd (f_X6_count (xs (x3 + (1 : Int32)).toNatClampNeg) I) fun v174 J173 => if inb (x3 + (1 : Int32)) L = true then (bnd (f_X7_count (xs (x3 + (1 : Int32)).toNatClampNeg) J173) fun v176 J175 => if v174 = v176 then ((f_L_law_b18 L xs n) (x3 + (7 : Int32)) J175) else none) else none) else none) else if v1 = (1 : Int32) then (if inb (x3 + (1 : Int32)) L = true then (if inb (x3 + (2 : Int32)) L = true then (if inb (x3 + (3 : Int32)) L = true then (if inb (x3 + (4 : Int32)) L = true then (if inb (x3 + (5 : Int32)) L = true then (if inb (x3 + (6 : Int32)) L = true then (bnd (f_X6_feed (xs (x3 + (1 : Int32)).toNatClampNeg) (xs (x3 + (2 : Int32)).toNatClampNeg) (xs (x3 + (3 : Int32)).toNatClampNeg) (xs (x3 + (4 : Int32)).toNatClampNeg) (xs (x3 + (5 : Int32)).toNatClampNeg) (xs (x3 + (6 : Int32)).toNatClampNeg) I) fun v170 J169 => if inb (x3 + (1 : Int32)) L = true then (if inb (x3 + (2 : Int32)) L = true then (if inb (x3 + (3 : Int32)) L = true then (if inb (x3 + (4 : Int32)) L = true then (if inb (x3 + (5 : Int32)) L = true then (if inb (x3 + (6 : Int32)) L = true then (bnd (f_X7_feed (xs (x3 + (1 : Int32)).toNatClampNeg) (xs (x3 + (2 : Int32)).toNatClampNeg) (xs (x3 + (3 : Int32)).toNatClampNeg) (xs (x3 + (4 : Int32)).toNatClampNeg) (xs (x3 + (5 : Int32)).toNatClampNeg) (xs (x3 + (6 : Int32)).toNatClampNeg) J169) fun v172 J171 => if v170 = v172 then ((f_L_law_b18 L xs n) (x3 + (7 : Int32)) J171) else none) else none) else none) else none) else none) else none) else none) else none) else none) else none) else none) else none) else none) else if v1 = (2 : Int32) then (bnd (f_X6_text I) fun v166 J165 => bnd (f_X7_text J165) fun v168 J167 => if v166 = v168 then ((f_L_law_b18 L xs n) (x3 + (7 : Int32)) J167) else none) else if v1 = (3 : Int32) then (if inb (x3 + (1 : Int32)) L = true then (bnd (f_X6_force (xs (x3 + (1 : Int32)).toNatClampNeg) I) fun v162 J161 => if inb (x3 + (1 : Int32)) L = true then (bnd (f_X7_force (xs (x3 + (1 : Int32)).toNatClampNeg) J161) fun v164 J163 => if v162 = v164 then ((f_L_law_b18 L xs n) (x3 + (7 : Int32)) J163) else none) else none) else none) else if v1 = (4 : Int32) then (if inb (x3 + (1 : Int32)) L = true then (if inb (x3 + (2 : Int32)) L = true then (bnd (f_X6_asks (xs (x3 + (1 : Int32)).toNatClampNeg) (xs (x3 + (2 : Int32)).toNatClampNeg) I) fun v158 J157 => if inb (x3 + (1 : Int32)) L = true then (if inb (x3 + (2 : Int32)) L = true then (bnd (f_X7_asks (xs (x3 + (1 : Int32)).toNatClampNeg) (xs (x3 + (2 : Int32)).toNatClampNeg) J157) fun v160 J159 => if v158 = v160 then ((f_L_law_b18 L xs n) (x3 + (7 : Int32)) J159) else none) else none) else none) else none) else none) else if v1 = (5 : Int32) then (if inb (x3 + (1 : Int32)) L = true then (if inb (x3 + (2 : Int32)) L = true then (if inb (x3 + (3 : Int32)) L = true then (bnd (f_X6_hat (xs (x3 + (1 : Int32)).toNatClampNeg) (xs (x3 + (2 : Int32)).toNatClampNeg) (xs (x3 + (3 : Int32)).toNatClampNeg) I) fun v154 J153 => if inb (x3 + (1 : Int32)) L = true then (if inb (x3 + (2 : Int32)) L = true then (if inb (x3 + (3 : Int32)) L = true then (bnd (f_X7_hat (xs (x3 + (1 : Int32)).toNatClampNeg) (xs (x3 + (2 : Int32)).toNatClampNeg) (xs (x3 + (3 : Int32)).toNatClampNeg) J153) fun v156 J155 => if v154 = v156 then ((f_L_law_b18 L xs n) (x3 + (7 : Int32)) J155) else none) else none) else none) else none) else none) else none) else none) else if v1 = (6 : Int32) then (if inb (x3 + (1 : Int32)) L = true then (if inb (x3 + (2 : Int32)) L = true then (if inb (x3 + (3 : Int32)) L = true then (bnd (f_X6_put (xs (x3 + (1 : Int32)).toNatClampNeg) (xs (x3 + (2 : Int32)).toNatClampNeg) (xs (x3 + (3 : Int32)).toNatClampNeg) I) fun v150 J149 => if inb (x3 + (1 : Int32)) L = true then (if inb (x3 + (2 : Int32)) L = true then (if inb (x3 + (3 : Int32)) L = true then (bnd (f_X7_put (xs (x3 + (1 : Int32)).toNatClampNeg) (xs (x3 + (2 : Int32)).toNatClampNeg) (xs (x3 + (3 : Int32)).toNatClampNeg) J149) fun v152 J151 => if v150 = v152 then ((f_L_law_b18 L xs n) (x3 + (7 : Int32)) J151) else none) else none) else none) else none) else none) else none) else none) else if v1 = (7 : Int32) then (if inb (x3 + (1 : Int32)) L = true then (if inb (x3 + (2 : Int32)) L = true then (bnd (f_X6_told (xs (x3 + (1 : Int32)).toNatClampNeg) (xs (x3 + (2 : Int32)).toNatClampNeg) I) fun v146 J145 => if inb (x3 + (1 : Int32)) L = true then (if inb (x3 + (2 : Int32)) L = true then (bnd (f_X7_told (xs (x3 + (1 : Int32)).toNatClampNeg) (xs (x3 + (2 : Int32)).toNatClampNeg) J145) fun v148 J147 => if v146 = v148 then ((f_L_law_b18 L xs n) (x3 + (7 : Int32)) J147) else none) else none) else none) else none) else none) else if v1 = (8 : Int32) then (if inb (x3 + (1 : Int32)) L = true then (if inb (x3 + (2 : Int32)) L = true then (if inb (x3 + (3 : Int32)) L = true then (bnd (f_X6_duel (xs (x3 + (1 : Int32)).toNatClampNeg) (xs (x3 + (2 : Int32)).toNatClampNeg) (xs (x3 + (3 : Int32)).toNatClampNeg) I) fun v142 J141 => if inb (x3 + (1 : Int32)) L = true then (if inb (x3 + (2 : Int32)) L = true then (if inb (x3 + (3 : Int32)) L = true then (bnd (f_X7_duel (xs (x3 + (1 : Int32)).toNatClampNeg) (xs (x3 + (2 : Int32)).toNatClampNeg) (xs (x3 + (3 : Int32)).toNatClampNeg) J141) fun v144 J143 => if v142 = v144 then ((f_L_law_b18 L xs n) (x3 + (7 : Int32)) J143) else none) else none) else none) else none) else none) else none) else none) else if v1 = (9 : Int32) then (bnd (f_X6_round I) fun v138 J137 => bnd (f_X7_round J137) fun v140 J139 => if v138 = v140 then ((f_L_law_b18 L xs n) (x3 + (7 : Int32)) J139) else none) else if v1 = (10 : Int32) then (if inb (x3 + (1 : Int32)) L = true then (bnd (f_X6_bell (xs (x3 + (1 : Int32)).toNatClampNeg) I) fun v134 J133 => if inb (x3 + (1 : Int32)) L = true then (bnd (f_X7_bell (xs (x3 + (1 : Int32)).toNatClampNeg) J133) fun v136 J135 => if v134 = v136 then ((f_L_law_b18 L xs n) (x3 + (7 : Int32)) J135) else none) else none) else none) else if v1 = (11 : Int32) then (if inb (x3 + (1 : Int32)) L = true then (if inb (x3 + (2 : Int32)) L = true then (bnd (f_X6_run (xs (x3 + (1 : Int32)).toNatClampNeg) (xs (x3 + (2 : Int32)).toNatClampNeg) I) fun v130 J129 => if inb (x3 + (1 : Int32)) L = true then (if inb (x3 + (2 : Int32)) L = true then (bnd (f_X7_run (xs (x3 + (1 : Int32)).toNatClampNeg) (xs (x3 + (2 : Int32)).toNatClampNeg) J129) fun v132 J131 => if v130 = v132 then ((f_L_law_b18 L xs n) (x3 + (7 : Int32)) J131) else none) else none) else none) else none) else none) else if v1 = (12 : Int32) then (if inb (x3 + (1 : Int32)) L = true then (bnd (f_X6_when (xs (x3 + (1 : Int32)).toNatClampNeg) I) fun v126 J125 => if inb (x3 + (1 : Int32)) L = true then (bnd (f_X7_when (xs (x3 + (1 : Int32)).toNatClampNeg) J125) fun v128 J127 => if v126 = v128 then ((f_L_law_b18 L xs n) (x3 + (7 : Int32)) J127) else none) else none) else none) else if v1 = (13 : Int32) then (if inb (x3 + (1 : Int32)) L = true then (bnd (f_X6_end (xs (x3 + (1 : Int32)).toNatClampNeg) I) fun v122 J121 => if inb (x3 + (1 : Int32)) L = true then (bnd (f_X7_end (xs (x3 + (1 : Int32)).toNatClampNeg) J121) fun v124 J123 => if v122 = v124 then ((f_L_law_b18 L xs n) (x3 + (7 : Int32)) J123) else none) else none) else none) else if v1 = (14 : Int32) then (if inb (x3 + (1 : Int32)) L = true then (if inb (x3 + (2 : Int32)) L = true then (bnd (f_X6_beaten (xs (x3 + (1 : Int32)).toNatClampNeg) (xs (x3 + (2 : Int32)).toNatClampNeg) I) fun v118 J117 => if inb (x3 + (1 : Int32)) L = true then (if inb (x3 + (2 : Int32)) L = true then (bnd (f_X7_beaten (xs (x3 + (1 : Int32)).toNatClampNeg) (xs (x3 + (2 : Int32)).toNatClampNeg) J117) fun v120 J119 => if v118 = v120 then ((f_L_law_b18 L xs n) (x3 + (7 : Int32)) J119) else none) else none) else none) else none) else none) else if v1 = (15 : Int32) then (if inb (x3 + (1 : Int32)) L = true then (if inb (x3 + (2 : Int32)) L = true then (if inb (x3 + (3 : Int32)) L = true then (bnd (f_X6_toss (xs (x3 + (1 : Int32)).toNatClampNeg) (xs (x3 + (2 : Int32)).toNatClampNeg) (xs (x3 + (3 : Int32)).toNatClampNeg) I) fun v114 J113 => if inb (x3 + (1 : Int32)) L = true then (if inb (x3 + (2 : Int32)) L = true then (if inb (x3 + (3 : Int32)) L = true then (bnd (f_X7_toss (xs (x3 + (1 : Int32)).toNatClampNeg) (xs (x3 + (2 : Int32)).toNatClampNeg) (xs (x3 + (3 : Int32)).toNatClampNeg) J113) fun v116 J115 => if v114 = v116 then ((f_L_law_b18 L xs n) (x3 + (7 : Int32)) J115) else none) else none) else none) else none) else none) else none) else none) else if v1 = (16 : Int32) then (if inb (x3 + (1 : Int32)) L = true then (if inb (x3 + (2 : Int32)) L = true then (if inb (x3 + (3 : Int32)) L = true then (bnd (f_X6_rid (xs (x3 + (1 : Int32)).toNatClampNeg) (xs (x3 + (2 : Int32)).toNatClampNeg) (xs (x3 + (3 : Int32)).toNatClampNeg) I) fun v110 J109 => if inb (x3 + (1 : Int32)) L = true then (if inb (x3 + (2 : Int32)) L = true then (if inb (x3 + (3 : Int32)) L = true then (bnd (f_X7_rid (xs (x3 + (1 : Int32)).toNatClampNeg) (xs (x3 + (2 : Int32)).toNatClampNeg) (xs (x3 + (3 : Int32)).toNatClampNeg) J109) fun v112 J111 => if v110 = v112 then ((f_L_law_b18 L xs n) (x3 + (7 : Int32)) J111) else none) else none) else none) else none) else none) else none) else none) else if v1 = (17 : Int32) then (if inb (x3 + (1 : Int32)) L = true then (if inb (x3 + (2 : Int32)) L = true then (bnd (f_X6_lasts (xs (x3 + (1 : Int32)).toNatClampNeg) (xs (x3 + (2 : Int32)).toNatClampNeg) I) fun v106 J105 => if inb (x3 + (1 : Int32)) L = true then (if inb (x3 + (2 : Int32)) L = true then (bnd (f_X7_lasts (xs (x3 + (1 : Int32)).toNatClampNeg) (xs (x3 + (2 : Int32)).toNatClampNeg) J105) fun v108 J107 => if v106 = v108 then ((f_L_law_b18 L xs n) (x3 + (7 : Int32)) J107) else none) else none) else none) else none) else none) else if v1 = (18 : Int32) then (if inb (x3 + (1 : Int32)) L = true then (if inb (x3 + (2 : Int32)) L = true then (bnd (f_X6_betting (xs (x3 + (1 : Int32)).toNatClampNeg) (xs (x3 + (2 : Int32)).toNatClampNeg) I) fun v102 J101 => if inb (x3 + (1 : Int32)) L = true then (if inb (x3 + (2 : Int32)) L = true then (bnd (f_X7_betting (xs (x3 + (1 : Int32)).toNatClampNeg) (xs (x3 + (2 : Int32)).toNatClampNeg) J101) fun v104 J103 => if (lg_cmp v102 v104) = 0 then ((f_L_law_b18 L xs n) (x3 + (7 : Int32)) J103) else none) else none) else none) else none) else none) else if v1 = (19 : Int32) then (if inb (x3 + (1 : Int32)) L = true then (if inb (x3 + (2 : Int32)) L = true then (bnd (f_X6_judge (xs (x3 + (1 : Int32)).toNatClampNeg) (xs (x3 + (2 : Int32)).toNatClampNeg) I) fun v98 J97 => if inb (x3 + (1 : Int32)) L = true then (if inb (x3 + (2 : Int32)) L = true then (bnd (f_X7_judge (xs (x3 + (1 : Int32)).toNatClampNeg) (xs (x3 + (2 : Int32)).toNatClampNeg) J97) fun v100 J99 => if v98 = v100 then ((f_L_law_b18 L xs n) (x3 + (7 : Int32)) J99) else none) else none) else none) else none) else none) else if v1 = (20 : Int32) then (if inb (x3 + (1 : Int32)) L = true then (if inb (x3 + (2 : Int32)) L = true then (if inb (x3 + (3 : Int32)) L = true then (if inb (x3 + (4 : Int32)) L = true then (bnd (f_X6_kinds (xs (x3 + (1 : Int32)).toNatClampNeg) (xs (x3 + (2 : Int32)).toNatClampNeg) (xs (x3 + (3 : Int32)).toNatClampNeg) (xs (x3 + (4 : Int32)).toNatClampNeg) I) fun v94 J93 => if inb (x3 + (1 : Int32)) L = true then (if inb (x3 + (2 : Int32)) L = true then (if inb (x3 + (3 : Int32)) L = true then (if inb (x3 + (4 : Int32)) L = true then (bnd (f_X7_kinds (xs (x3 + (1 : Int32)).toNatClampNeg) (xs (x3 + (2 : Int32)).toNatClampNeg) (xs (x3 + (3 : Int32)).toNatClampNeg) (xs (x3 + (4 : Int32)).toNatClampNeg) J93) fun v96 J95 => if v94 = v96 then ((f_L_law_b18 L xs n) (x3 + (7 : Int32)) J95) else none) else none) else none) else none) else none) else none) else none) else none) else none) else if v1 = (21 : Int32) then (if inb (x3 + (1 : Int32)) L = true then (if inb (x3 + (2 : Int32)) L = true then (if inb (x3 + (3 : Int32)) L = true then (if inb (x3 + (4 : Int32)) L = true then (bnd (f_X6_states (xs (x3 + (1 : Int32)).toNatClampNeg) (xs (x3 + (2 : Int32)).toNatClampNeg) (xs (x3 + (3 : Int32)).toNatClampNeg) (xs (x3 + (4 : Int32)).toNatClampNeg) I) fun v90 J89 => if inb (x3 + (1 : Int32)) L = true then (if inb (x3 + (2 : Int32)) L = true then (if inb (x3 + (3 : Int32)) L = true then (if inb (x3 + (4 : Int32)) L = true then (bnd (f_X7_states (xs (x3 + (1 : Int32)).toNatClampNeg) (xs (x3 + (2 : Int32)).toNatClampNeg) (xs (x3 + (3 : Int32)).toNatClampNeg) (xs (x3 + (4 : Int32)).toNatClampNeg) J89) fun v92 J91 => if v90 = v92 then ((f_L_law_b18 L xs n) (x3 + (7 : Int32)) J91) else none) else none) else none) else none) else none) else none) else none) else none) else none) else if v1 = (22 : Int32) then (if inb (x3 + (1 : Int32)) L = true then (if inb (x3 + (2 : Int32)) L = true then (bnd (f_X6_places (xs (x3 + (1 : Int32)).toNatClampNeg) (xs (x3 + (2 : Int32)).toNatClampNeg) I) fun v86 J85 => if inb (x3 + (1 : Int32)) L = true then (if inb (x3 + (2 : Int32)) L = true then (bnd (f_X7_places (xs (x3 + (1 : Int32)).toNatClampNeg) (xs (x3 + (2 : Int32)).toNatClampNeg) J85) fun v88 J87 => if (lg_cmp v86 v88) = 0 then ((f_L_law_b18 L xs n) (x3 + (7 : Int32)) J87) else none) else none) else none) else none) else none) else if v1 = (23 : Int32) then (if inb (x3 + (1 : Int32)) L = true then (bnd (f_X6_whose (xs (x3 + (1 : Int32)).toNatClampNeg) I) fun v82 J81 => if inb (x3 + (1 : Int32)) L = true then (bnd (f_X7_whose (xs (x3 + (1 : Int32)).toNatClampNeg) J81) fun v84 J83 => if v82 = v84 then ((f_L_law_b18 L xs n) (x3 + (7 : Int32)) J83) else none) else none) else none) else if v1 = (24 : Int32) then (if inb (x3 + (1 : Int32)) L = true then (if inb (x3 + (2 : Int32)) L = true then (bnd (f_X6_laws (xs (x3 + (1 : Int32)).toNatClampNeg) (xs (x3 + (2 : Int32)).toNatClampNeg) I) fun v78 J77 => if inb (x3 + (1 : Int32)) L = true then (if inb (x3 + (2 : Int32)) L = true then (bnd (f_X7_laws (xs (x3 + (1 : Int32)).toNatClampNeg) (xs (x3 + (2 : Int32)).toNatClampNeg) J77) fun v80 J79 => if v78 = v80 then ((f_L_law_b18 L xs n) (x3 + (7 : Int32)) J79) else none) else none) else none) else none) else none) else if v1 = (25 : Int32) then (if inb (x3 + (1 : Int32)) L = true then (if inb (x3 + (2 : Int32)) L = true then (if inb (x3 + (3 : Int32)) L = true then (bnd (f_X6_film (xs (x3 + (1 : Int32)).toNatClampNeg) (xs (x3 + (2 : Int32)).toNatClampNeg) (xs (x3 + (3 : Int32)).toNatClampNeg) I) fun v74 J73 => if inb (x3 + (1 : Int32)) L = true then (if inb (x3 + (2 : Int32)) L = true then (if inb (x3 + (3 : Int32)) L = true then (bnd (f_X7_film (xs (x3 + (1 : Int32)).toNatClampNeg) (xs (x3 + (2 : Int32)).toNatClampNeg) (xs (x3 + (3 : Int32)).toNatClampNeg) J73) fun v76 J75 => if v74 = v76 then ((f_L_law_b18 L xs n) (x3 + (7 : Int32)) J75) else none) else none) else none) else none) else none) else none) else none) else if v1 = (26 : Int32) then (if inb (x3 + (1 : Int32)) L = true then (if inb (x3 + (2 : Int32)) L = true then (bnd (f_X6_drawn (xs (x3 + (1 : Int32)).toNatClampNeg) (xs (x3 + (2 : Int32)).toNatClampNeg) I) fun v70 J69 => if inb (x3 + (1 : Int32)) L = true then (if inb (x3 + (2 : Int32)) L = true then (bnd (f_X7_drawn (xs (x3 + (1 : Int32)).toNatClampNeg) (xs (x3 + (2 : Int32)).toNatClampNeg) J69) fun v72 J71 => if v70 = v72 then ((f_L_law_b18 L xs n) (x3 + (7 : Int32)) J71) else none) else none) else none) else none) else none) else if v1 = (27 : Int32) then (if inb (x3 + (1 : Int32)) L = true then (if inb (x3 + (2 : Int32)) L = true then (if inb (x3 + (3 : Int32)) L = true then (if inb (x3 + (4 : Int32)) L = true then (bnd (f_X6_odds (xs (x3 + (1 : Int32)).toNatClampNeg) (xs (x3 + (2 : Int32)).toNatClampNeg) (xs (x3 + (3 : Int32)).toNatClampNeg) (xs (x3 + (4 : Int32)).toNatClampNeg) I) fun v66 J65 => if inb (x3 + (1 : Int32)) L = true then (if inb (x3 + (2 : Int32)) L = true then (if inb (x3 + (3 : Int32)) L = true then (if inb (x3 + (4 : Int32)) L = true then (bnd (f_X7_odds (xs (x3 + (1 : Int32)).toNatClampNeg) (xs (x3 + (2 : Int32)).toNatClampNeg) (xs (x3 + (3 : Int32)).toNatClampNeg) (xs (x3 + (4 : Int32)).toNatClampNeg) J65) fun v68 J67 => if (lg_cmp v66 v68) = 0 then ((f_L_law_b18 L xs n) (x3 + (7 : Int32)) J67) else none) else none) else none) else none) else none) else none) else none) else none) else none) else if v1 = (28 : Int32) then (bnd (f_X6_image I) fun v62 J61 => bnd (f_X7_image J61) fun v64 J63 => if v62 = v64 then ((f_L_law_b18 L xs n) (x3 + (7 : Int32)) J63) else none) else if v1 = (29 : Int32) then (bnd (f_X6_back I) fun v58 J57 => bnd (f_X7_back J57) fun v60 J59 => if v58 = v60 then ((f_L_law_b18 L xs n) (x3 + (7 : Int32)) J59) else none) else if v1 = (30 : Int32) then (if inb (x3 + (1 : Int32)) L = true then (if inb (x3 + (2 : Int32)) L = true then (if inb (x3 + (3 : Int32)) L = true then (bnd (f_X6_sheet (xs (x3 + (1 : Int32)).toNatClampNeg) (xs (x3 + (2 : Int32)).toNatClampNeg) (xs (x3 + (3 : Int32)).toNatClampNeg) I) fun v54 J53 => if inb (x3 + (1 : Int32)) L = true then (if inb (x3 + (2 : Int32)) L = true then (if inb (x3 + (3 : Int32)) L = true then (bnd (f_X7_sheet (xs (x3 + (1 : Int32)).toNatClampNeg) (xs (x3 + (2 : Int32)).toNatClampNeg) (xs (x3 + (3 : Int32)).toNatClampNeg) J53) fun v56 J55 => if v54 = v56 then ((f_L_law_b18 L xs n) (x3 + (7 : Int32)) J55) else none) else none) else none) else none) else none) else none) else none) else if v1 = (31 : Int32) then (if inb (x3 + (1 : Int32)) L = true then (if inb (x3 + (2 : Int32)) L = true then (if inb (x3 + (3 : Int32)) L = true then (bnd (f_X6_cell (xs (x3 + (1 : Int32)).toNatClampNeg) (xs (x3 + (2 : Int32)).toNatClampNeg) (xs (x3 + (3 : Int32)).toNatClampNeg) I) fun v50 J49 => if inb (x3 + (1 : Int32)) L = true then (if inb (x3 + (2 : Int32)) L = true then (if inb (x3 + (3 : Int32)) L = true then (bnd (f_X7_cell (xs (x3 + (1 : Int32)).toNatClampNeg) (xs (x3 + (2 : Int32)).toNatClampNeg) (xs (x3 + (3 : Int32)).toNatClampNeg) J49) fun v52 J51 => if v50 = v52 then ((f_L_law_b18 L xs n) (x3 + (7 : Int32)) J51) else none) else none) else none) else none) else none) else none) else none) else if v1 = (32 : Int32) then (if inb (x3 + (1 : Int32)) L = true then (if inb (x3 + (2 : Int32)) L = true then (if inb (x3 + (3 : Int32)) L = true then (if inb (x3 + (4 : Int32)) L = true then (if inb (x3 + (5 : Int32)) L = true then (bnd (f_X6_copy (xs (x3 + (1 : Int32)).toNatClampNeg) (xs (x3 + (2 : Int32)).toNatClampNeg) (xs (x3 + (3 : Int32)).toNatClampNeg) (xs (x3 + (4 : Int32)).toNatClampNeg) (xs (x3 + (5 : Int32)).toNatClampNeg) I) fun v46 J45 => if inb (x3 + (1 : Int32)) L = true then (if inb (x3 + (2 : Int32)) L = true then (if inb (x3 + (3 : Int32)) L = true then (if inb (x3 + (4 : Int32)) L = true then (if inb (x3 + (5 : Int32)) L = true then (bnd (f_X7_copy (xs (x3 + (1 : Int32)).toNatClampNeg) (xs (x3 + (2 : Int32)).toNatClampNeg) (xs (x3 + (3 : Int32)).toNatClampNeg) (xs (x3 + (4 : Int32)).toNatClampNeg) (xs (x3 + (5 : Int32)).toNatClampNeg) J45) fun v48 J47 => if v46 = v48 then ((f_L_law_b18 L xs n) (x3 + (7 : Int32)) J47) else none) else none) else none) else none) else none) else none) else none) else none) else none) else none) else none) else if v1 = (33 : Int32) then (if inb (x3 + (1 : Int32)) L = true then (if inb (x3 + (2 : Int32)) L = true then (if inb (x3 + (3 : Int32)) L = true then (if inb (x3 + (4 : Int32)) L = true then (bnd (f_X6_hatsBy (xs (x3 + (1 : Int32)).toNatClampNeg) (xs (x3 + (2 : Int32)).toNatClampNeg) (xs (x3 + (3 : Int32)).toNatClampNeg) (xs (x3 + (4 : Int32)).toNatClampNeg) I) fun v42 J41 => if inb (x3 + (1 : Int32)) L = true then (if inb (x3 + (2 : Int32)) L = true then (if inb (x3 + (3 : Int32)) L = true then (if inb (x3 + (4 : Int32)) L = true then (bnd (f_X7_hatsBy (xs (x3 + (1 : Int32)).toNatClampNeg) (xs (x3 + (2 : Int32)).toNatClampNeg) (xs (x3 + (3 : Int32)).toNatClampNeg) (xs (x3 + (4 : Int32)).toNatClampNeg) J41) fun v44 J43 => if v42 = v44 then ((f_L_law_b18 L xs n) (x3 + (7 : Int32)) J43) else none) else none) else none) else none) else none) else none) else none) else none) else none) else if v1 = (34 : Int32) then (if inb (x3 + (1 : Int32)) L = true then (if inb (x3 + (2 : Int32)) L = true then (bnd (f_X6_taken (xs (x3 + (1 : Int32)).toNatClampNeg) (xs (x3 + (2 : Int32)).toNatClampNeg) I) fun v38 J37 => if inb (x3 + (1 : Int32)) L = true then (if inb (x3 + (2 : Int32)) L = true then (bnd (f_X7_taken (xs (x3 + (1 : Int32)).toNatClampNeg) (xs (x3 + (2 : Int32)).toNatClampNeg) J37) fun v40 J39 => if v38 = v40 then ((f_L_law_b18 L xs n) (x3 + (7 : Int32)) J39) else none) else none) else none) else none) else none) else (f_L_law_b18 L xs n) (x3 + (7 : Int32)) I) else none
set_option maxHeartbeats 4000000 in
set_option maxRecDepth 100000 in
theorem xb_L_law_b18 {l : Launch} {κ : Kx} {ω : Om} {L b : Nat} {xs : Nat → Int32} (C : CX κ ω code 4 1000 yL_law.cls) (hlau : κ.2.1 = l) (hret : True) (hn : 75 ≤ oN ω) (Z : LX κ ω b L xs) : ∀ (n : Nat) (x3 : Int32) (I : Mem), EE κ ω 4 (GLaw κ b) (f_L_law_b18 L xs n x3 I) I 18 [(0, .ref b), (1, .ref (oA ω 0)), (2, .ref (oA ω 56)), (3, .int x3)] [] := by
  intro n
  induction n with
  | zero => intro x3 I; exact e_none
  | succ n ih =>
    intro x3 I
    rw [f_L_law_b18]
    refine e_iload_n C dL_law_18 rfl 3 rfl (q := 19) rfl ?_
    refine e_aload_n C dL_law_19 rfl 0 rfl (q := 20) rfl ?_
    refine e_slen C Z dL_law_20 (q := 21) rfl ?_
    refine e_bipush C dL_law_21 b8_7 (q := 23) rfl ?_
    refine e_isub C dL_law_23 (q := 24) rfl ?_
    refine e_icmpgt C (tgt := 1444) (q := 27) dL_law_24 rfl rfl ?_ ?_
    · refine e_iconst C dL_law_1444 ic_1 (q := 1445) rfl ?_
      exact e_lawret C Z dL_law_1445
    · refine e_aload_n C dL_law_27 rfl 0 rfl (q := 28) rfl ?_
      refine e_iload_n C dL_law_28 rfl 3 rfl (q := 29) rfl ?_
      refine e_sld C Z dL_law_29 (q := 30) rfl ?_
      refine e_bipush C dL_law_30 b8_63 (q := 32) rfl ?_
      refine e_iand C dL_law_32 (q := 33) rfl ?_
      refine e_nmi (fun v1 => ?_)
      refine e_if (fun h2 => ?_) (fun h2 => ?_)
      · refine e_tabIn C (v := 0) (off := 155) (tgt := 188) dL_law_33 (by rw [h2]; rfl) (by decide) rfl rfl ?_
        refine e_aload_n C dL_law_188 rfl 1 rfl (q := 189) rfl ?_
        refine e_aload_n C dL_law_189 rfl 0 rfl (q := 190) rfl ?_
        refine e_iload_n C dL_law_190 rfl 3 rfl (q := 191) rfl ?_
        refine e_iconst C dL_law_191 ic_1 (q := 192) rfl ?_
        refine e_iadd C dL_law_192 (q := 193) rfl ?_
        refine e_sld C Z dL_law_193 (q := 194) rfl ?_
        refine e_callVi C (l := l) (k := 0) (av := [.int (xs (x3 + (1 : Int32)).toNatClampNeg)]) (st := []) hlau (x_X6_count (l := l) (ω := ω) (a1 := xs (x3 + (1 : Int32)).toNatClampNeg) (Nat.le_trans (by decide) hn) (I := I)) dL_law_194 w_378 w_379 w_380 w_56 w_381 md_X6_count (by decide) (by decide) rfl (ltL hn (Nat.le_of_ble_eq_true rfl)) rfl rfl (Nat.le_of_ble_eq_true rfl) (q := 197) rfl (fun v174 J173 => ?_)
        refine e_aload_n C dL_law_197 rfl 2 rfl (q := 198) rfl ?_
        refine e_aload_n C dL_law_198 rfl 0 rfl (q := 199) rfl ?_
        refine e_iload_n C dL_law_199 rfl 3 rfl (q := 200) rfl ?_
        refine e_iconst C dL_law_200 ic_1 (q := 201) rfl ?_
        refine e_iadd C dL_law_201 (q := 202) rfl ?_
        refine e_sld C Z dL_law_202 (q := 203) rfl ?_
        refine e_callVi C (l := l) (k := 56) (av := [.int (xs (x3 + (1 : Int32)).toNatClampNeg)]) (st := [.int v174]) hlau (x_X7_count (l := l) (ω := ω) (a1 := xs (x3 + (1 : Int32)).toNatClampNeg) hn (I := J173)) dL_law_203 w_859 w_860 w_861 w_67 w_862 md_X7_count (by decide) (by decide) rfl (ltL hn (Nat.le_of_ble_eq_true rfl)) rfl rfl (Nat.le_of_ble_eq_true rfl) (q := 206) rfl (fun v176 J175 => ?_)
        refine e_icmpeq C (tgt := 1438) (q := 209) dL_law_206 rfl rfl ?_ ?_
        · refine e_iinc C (v := x3 + (7 : Int32)) (lv1 := [(3, .int (x3 + (7 : Int32))), (0, .ref b), (1, .ref (oA ω 0)), (2, .ref (oA ω 56))]) dL_law_1438 3 rfl (Nat.le_of_ble_eq_true rfl) (by rw [ic_7]) rfl (q := 1441) rfl ?_
          refine e_goto C (tgt := 18) dL_law_1441 rfl ?_
          exact e_lv [1, 2, 3, 0] (lv1 := [(0, .ref b), (1, .ref (oA ω 0)), (2, .ref (oA ω 56)), (3, .int (x3 + (7 : Int32)))]) rfl (ih (x3 + (7 : Int32)) _)
        · refine e_iconst C dL_law_209 ic_0 (q := 210) rfl ?_
          exact e_none
      · refine e_if (fun h3 => ?_) (fun h3 => ?_)
        · refine e_tabIn C (v := 1) (off := 178) (tgt := 211) dL_law_33 (by rw [h3]; rfl) (by decide) rfl rfl ?_
          refine e_aload_n C dL_law_211 rfl 1 rfl (q := 212) rfl ?_
          refine e_aload_n C dL_law_212 rfl 0 rfl (q := 213) rfl ?_
          refine e_iload_n C dL_law_213 rfl 3 rfl (q := 214) rfl ?_
          refine e_iconst C dL_law_214 ic_1 (q := 215) rfl ?_
          refine e_iadd C dL_law_215 (q := 216) rfl ?_
          refine e_sld C Z dL_law_216 (q := 217) rfl ?_
          refine e_aload_n C dL_law_217 rfl 0 rfl (q := 218) rfl ?_
          refine e_iload_n C dL_law_218 rfl 3 rfl (q := 219) rfl ?_
          refine e_iconst C dL_law_219 ic_2 (q := 220) rfl ?_
          refine e_iadd C dL_law_220 (q := 221) rfl ?_
          refine e_sld C Z dL_law_221 (q := 222) rfl ?_
          refine e_aload_n C dL_law_222 rfl 0 rfl (q := 223) rfl ?_
          refine e_iload_n C dL_law_223 rfl 3 rfl (q := 224) rfl ?_
          refine e_iconst C dL_law_224 ic_3 (q := 225) rfl ?_
          refine e_iadd C dL_law_225 (q := 226) rfl ?_
          refine e_sld C Z dL_law_226 (q := 227) rfl ?_
          refine e_aload_n C dL_law_227 rfl 0 rfl (q := 228) rfl ?_
          refine e_iload_n C dL_law_228 rfl 3 rfl (q := 229) rfl ?_
          refine e_iconst C dL_law_229 ic_4 (q := 230) rfl ?_
          refine e_iadd C dL_law_230 (q := 231) rfl ?_
          refine e_sld C Z dL_law_231 (q := 232) rfl ?_
          refine e_aload_n C dL_law_232 rfl 0 rfl (q := 233) rfl ?_
          refine e_iload_n C dL_law_233 rfl 3 rfl (q := 234) rfl ?_
          refine e_iconst C dL_law_234 ic_5 (q := 235) rfl ?_
          refine e_iadd C dL_law_235 (q := 236) rfl ?_
          refine e_sld C Z dL_law_236 (q := 237) rfl ?_
          refine e_aload_n C dL_law_237 rfl 0 rfl (q := 238) rfl ?_
          refine e_iload_n C dL_law_238 rfl 3 rfl (q := 239) rfl ?_
          refine e_bipush C dL_law_239 b8_6 (q := 241) rfl ?_
          refine e_iadd C dL_law_241 (q := 242) rfl ?_
          refine e_sld C Z dL_law_242 (q := 243) rfl ?_
          refine e_callVi C (l := l) (k := 0) (av := [.int (xs (x3 + (1 : Int32)).toNatClampNeg), .int (xs (x3 + (2 : Int32)).toNatClampNeg), .int (xs (x3 + (3 : Int32)).toNatClampNeg), .int (xs (x3 + (4 : Int32)).toNatClampNeg), .int (xs (x3 + (5 : Int32)).toNatClampNeg), .int (xs (x3 + (6 : Int32)).toNatClampNeg)]) (st := []) hlau (x_X6_feed (l := l) (ω := ω) (a1 := xs (x3 + (1 : Int32)).toNatClampNeg) (a2 := xs (x3 + (2 : Int32)).toNatClampNeg) (a3 := xs (x3 + (3 : Int32)).toNatClampNeg) (a4 := xs (x3 + (4 : Int32)).toNatClampNeg) (a5 := xs (x3 + (5 : Int32)).toNatClampNeg) (a6 := xs (x3 + (6 : Int32)).toNatClampNeg) (Nat.le_trans (by decide) hn) (I := I)) dL_law_243 w_386 w_387 w_388 w_56 w_389 md_X6_feed (by decide) (by decide) rfl (ltL hn (Nat.le_of_ble_eq_true rfl)) rfl rfl (Nat.le_of_ble_eq_true rfl) (q := 246) rfl (fun v170 J169 => ?_)
          refine e_aload_n C dL_law_246 rfl 2 rfl (q := 247) rfl ?_
          refine e_aload_n C dL_law_247 rfl 0 rfl (q := 248) rfl ?_
          refine e_iload_n C dL_law_248 rfl 3 rfl (q := 249) rfl ?_
          refine e_iconst C dL_law_249 ic_1 (q := 250) rfl ?_
          refine e_iadd C dL_law_250 (q := 251) rfl ?_
          refine e_sld C Z dL_law_251 (q := 252) rfl ?_
          refine e_aload_n C dL_law_252 rfl 0 rfl (q := 253) rfl ?_
          refine e_iload_n C dL_law_253 rfl 3 rfl (q := 254) rfl ?_
          refine e_iconst C dL_law_254 ic_2 (q := 255) rfl ?_
          refine e_iadd C dL_law_255 (q := 256) rfl ?_
          refine e_sld C Z dL_law_256 (q := 257) rfl ?_
          refine e_aload_n C dL_law_257 rfl 0 rfl (q := 258) rfl ?_
          refine e_iload_n C dL_law_258 rfl 3 rfl (q := 259) rfl ?_
          refine e_iconst C dL_law_259 ic_3 (q := 260) rfl ?_
          refine e_iadd C dL_law_260 (q := 261) rfl ?_
          refine e_sld C Z dL_law_261 (q := 262) rfl ?_
          refine e_aload_n C dL_law_262 rfl 0 rfl (q := 263) rfl ?_
          refine e_iload_n C dL_law_263 rfl 3 rfl (q := 264) rfl ?_
          refine e_iconst C dL_law_264 ic_4 (q := 265) rfl ?_
          refine e_iadd C dL_law_265 (q := 266) rfl ?_
          refine e_sld C Z dL_law_266 (q := 267) rfl ?_
          refine e_aload_n C dL_law_267 rfl 0 rfl (q := 268) rfl ?_
          refine e_iload_n C dL_law_268 rfl 3 rfl (q := 269) rfl ?_
          refine e_iconst C dL_law_269 ic_5 (q := 270) rfl ?_
          refine e_iadd C dL_law_270 (q := 271) rfl ?_
          refine e_sld C Z dL_law_271 (q := 272) rfl ?_
          refine e_aload_n C dL_law_272 rfl 0 rfl (q := 273) rfl ?_
          refine e_iload_n C dL_law_273 rfl 3 rfl (q := 274) rfl ?_
          refine e_bipush C dL_law_274 b8_6 (q := 276) rfl ?_
          refine e_iadd C dL_law_276 (q := 277) rfl ?_
          refine e_sld C Z dL_law_277 (q := 278) rfl ?_
          refine e_callVi C (l := l) (k := 56) (av := [.int (xs (x3 + (1 : Int32)).toNatClampNeg), .int (xs (x3 + (2 : Int32)).toNatClampNeg), .int (xs (x3 + (3 : Int32)).toNatClampNeg), .int (xs (x3 + (4 : Int32)).toNatClampNeg), .int (xs (x3 + (5 : Int32)).toNatClampNeg), .int (xs (x3 + (6 : Int32)).toNatClampNeg)]) (st := [.int v170]) hlau (x_X7_feed (l := l) (ω := ω) (a1 := xs (x3 + (1 : Int32)).toNatClampNeg) (a2 := xs (x3 + (2 : Int32)).toNatClampNeg) (a3 := xs (x3 + (3 : Int32)).toNatClampNeg) (a4 := xs (x3 + (4 : Int32)).toNatClampNeg) (a5 := xs (x3 + (5 : Int32)).toNatClampNeg) (a6 := xs (x3 + (6 : Int32)).toNatClampNeg) hn (I := J169)) dL_law_278 w_874 w_875 w_876 w_67 w_877 md_X7_feed (by decide) (by decide) rfl (ltL hn (Nat.le_of_ble_eq_true rfl)) rfl rfl (Nat.le_of_ble_eq_true rfl) (q := 281) rfl (fun v172 J171 => ?_)
          refine e_icmpeq C (tgt := 1438) (q := 284) dL_law_281 rfl rfl ?_ ?_
          · refine e_iinc C (v := x3 + (7 : Int32)) (lv1 := [(3, .int (x3 + (7 : Int32))), (0, .ref b), (1, .ref (oA ω 0)), (2, .ref (oA ω 56))]) dL_law_1438 3 rfl (Nat.le_of_ble_eq_true rfl) (by rw [ic_7]) rfl (q := 1441) rfl ?_
            refine e_goto C (tgt := 18) dL_law_1441 rfl ?_
            exact e_lv [1, 2, 3, 0] (lv1 := [(0, .ref b), (1, .ref (oA ω 0)), (2, .ref (oA ω 56)), (3, .int (x3 + (7 : Int32)))]) rfl (ih (x3 + (7 : Int32)) _)
          · refine e_iconst C dL_law_284 ic_0 (q := 285) rfl ?_
            exact e_none
        · refine e_if (fun h4 => ?_) (fun h4 => ?_)
          · refine e_tabIn C (v := 2) (off := 253) (tgt := 286) dL_law_33 (by rw [h4]; rfl) (by decide) rfl rfl ?_
            refine e_aload_n C dL_law_286 rfl 1 rfl (q := 287) rfl ?_
            refine e_callVi C (l := l) (k := 0) (av := []) (st := []) hlau (x_X6_text (l := l) (ω := ω) (Nat.le_trans (by decide) hn) (I := I)) dL_law_287 w_396 w_397 w_398 w_56 w_399 md_X6_text (by decide) (by decide) rfl (ltL hn (Nat.le_of_ble_eq_true rfl)) rfl rfl (Nat.le_of_ble_eq_true rfl) (q := 290) rfl (fun v166 J165 => ?_)
            refine e_aload_n C dL_law_290 rfl 2 rfl (q := 291) rfl ?_
            refine e_callVi C (l := l) (k := 56) (av := []) (st := [.int v166]) hlau (x_X7_text (l := l) (ω := ω) hn (I := J165)) dL_law_291 w_881 w_716 w_717 w_67 w_718 md_X7_text (by decide) (by decide) rfl (ltL hn (Nat.le_of_ble_eq_true rfl)) rfl rfl (Nat.le_of_ble_eq_true rfl) (q := 294) rfl (fun v168 J167 => ?_)
            refine e_icmpeq C (tgt := 1438) (q := 297) dL_law_294 rfl rfl ?_ ?_
            · refine e_iinc C (v := x3 + (7 : Int32)) (lv1 := [(3, .int (x3 + (7 : Int32))), (0, .ref b), (1, .ref (oA ω 0)), (2, .ref (oA ω 56))]) dL_law_1438 3 rfl (Nat.le_of_ble_eq_true rfl) (by rw [ic_7]) rfl (q := 1441) rfl ?_
              refine e_goto C (tgt := 18) dL_law_1441 rfl ?_
              exact e_lv [1, 2, 3, 0] (lv1 := [(0, .ref b), (1, .ref (oA ω 0)), (2, .ref (oA ω 56)), (3, .int (x3 + (7 : Int32)))]) rfl (ih (x3 + (7 : Int32)) _)
            · refine e_iconst C dL_law_297 ic_0 (q := 298) rfl ?_
              exact e_none
          · refine e_if (fun h5 => ?_) (fun h5 => ?_)
            · refine e_tabIn C (v := 3) (off := 266) (tgt := 299) dL_law_33 (by rw [h5]; rfl) (by decide) rfl rfl ?_
              refine e_aload_n C dL_law_299 rfl 1 rfl (q := 300) rfl ?_
              refine e_aload_n C dL_law_300 rfl 0 rfl (q := 301) rfl ?_
              refine e_iload_n C dL_law_301 rfl 3 rfl (q := 302) rfl ?_
              refine e_iconst C dL_law_302 ic_1 (q := 303) rfl ?_
              refine e_iadd C dL_law_303 (q := 304) rfl ?_
              refine e_sld C Z dL_law_304 (q := 305) rfl ?_
              refine e_callVi C (l := l) (k := 0) (av := [.int (xs (x3 + (1 : Int32)).toNatClampNeg)]) (st := []) hlau (x_X6_force (l := l) (ω := ω) (a1 := xs (x3 + (1 : Int32)).toNatClampNeg) (Nat.le_trans (by decide) hn) (I := I)) dL_law_305 w_400 w_401 w_402 w_56 w_403 md_X6_force (by decide) (by decide) rfl (ltL hn (Nat.le_of_ble_eq_true rfl)) rfl rfl (Nat.le_of_ble_eq_true rfl) (q := 308) rfl (fun v162 J161 => ?_)
              refine e_aload_n C dL_law_308 rfl 2 rfl (q := 309) rfl ?_
              refine e_aload_n C dL_law_309 rfl 0 rfl (q := 310) rfl ?_
              refine e_iload_n C dL_law_310 rfl 3 rfl (q := 311) rfl ?_
              refine e_iconst C dL_law_311 ic_1 (q := 312) rfl ?_
              refine e_iadd C dL_law_312 (q := 313) rfl ?_
              refine e_sld C Z dL_law_313 (q := 314) rfl ?_
              refine e_callVi C (l := l) (k := 56) (av := [.int (xs (x3 + (1 : Int32)).toNatClampNeg)]) (st := [.int v162]) hlau (x_X7_force (l := l) (ω := ω) (a1 := xs (x3 + (1 : Int32)).toNatClampNeg) hn (I := J161)) dL_law_314 w_882 w_883 w_884 w_67 w_885 md_X7_force (by decide) (by decide) rfl (ltL hn (Nat.le_of_ble_eq_true rfl)) rfl rfl (Nat.le_of_ble_eq_true rfl) (q := 317) rfl (fun v164 J163 => ?_)
              refine e_icmpeq C (tgt := 1438) (q := 320) dL_law_317 rfl rfl ?_ ?_
              · refine e_iinc C (v := x3 + (7 : Int32)) (lv1 := [(3, .int (x3 + (7 : Int32))), (0, .ref b), (1, .ref (oA ω 0)), (2, .ref (oA ω 56))]) dL_law_1438 3 rfl (Nat.le_of_ble_eq_true rfl) (by rw [ic_7]) rfl (q := 1441) rfl ?_
                refine e_goto C (tgt := 18) dL_law_1441 rfl ?_
                exact e_lv [1, 2, 3, 0] (lv1 := [(0, .ref b), (1, .ref (oA ω 0)), (2, .ref (oA ω 56)), (3, .int (x3 + (7 : Int32)))]) rfl (ih (x3 + (7 : Int32)) _)
              · refine e_iconst C dL_law_320 ic_0 (q := 321) rfl ?_
                exact e_none
            · refine e_if (fun h6 => ?_) (fun h6 => ?_)
              · refine e_tabIn C (v := 4) (off := 289) (tgt := 322) dL_law_33 (by rw [h6]; rfl) (by decide) rfl rfl ?_
                refine e_aload_n C dL_law_322 rfl 1 rfl (q := 323) rfl ?_
                refine e_aload_n C dL_law_323 rfl 0 rfl (q := 324) rfl ?_
                refine e_iload_n C dL_law_324 rfl 3 rfl (q := 325) rfl ?_
                refine e_iconst C dL_law_325 ic_1 (q := 326) rfl ?_
                refine e_iadd C dL_law_326 (q := 327) rfl ?_
                refine e_sld C Z dL_law_327 (q := 328) rfl ?_
                refine e_aload_n C dL_law_328 rfl 0 rfl (q := 329) rfl ?_
                refine e_iload_n C dL_law_329 rfl 3 rfl (q := 330) rfl ?_
                refine e_iconst C dL_law_330 ic_2 (q := 331) rfl ?_
                refine e_iadd C dL_law_331 (q := 332) rfl ?_
                refine e_sld C Z dL_law_332 (q := 333) rfl ?_
                refine e_callVi C (l := l) (k := 0) (av := [.int (xs (x3 + (1 : Int32)).toNatClampNeg), .int (xs (x3 + (2 : Int32)).toNatClampNeg)]) (st := []) hlau (x_X6_asks (l := l) (ω := ω) (a1 := xs (x3 + (1 : Int32)).toNatClampNeg) (a2 := xs (x3 + (2 : Int32)).toNatClampNeg) (Nat.le_trans (by decide) hn) (I := I)) dL_law_333 w_404 w_405 w_406 w_56 w_407 md_X6_asks (by decide) (by decide) rfl (ltL hn (Nat.le_of_ble_eq_true rfl)) rfl rfl (Nat.le_of_ble_eq_true rfl) (q := 336) rfl (fun v158 J157 => ?_)
                refine e_aload_n C dL_law_336 rfl 2 rfl (q := 337) rfl ?_
                refine e_aload_n C dL_law_337 rfl 0 rfl (q := 338) rfl ?_
                refine e_iload_n C dL_law_338 rfl 3 rfl (q := 339) rfl ?_
                refine e_iconst C dL_law_339 ic_1 (q := 340) rfl ?_
                refine e_iadd C dL_law_340 (q := 341) rfl ?_
                refine e_sld C Z dL_law_341 (q := 342) rfl ?_
                refine e_aload_n C dL_law_342 rfl 0 rfl (q := 343) rfl ?_
                refine e_iload_n C dL_law_343 rfl 3 rfl (q := 344) rfl ?_
                refine e_iconst C dL_law_344 ic_2 (q := 345) rfl ?_
                refine e_iadd C dL_law_345 (q := 346) rfl ?_
                refine e_sld C Z dL_law_346 (q := 347) rfl ?_
                refine e_callVi C (l := l) (k := 56) (av := [.int (xs (x3 + (1 : Int32)).toNatClampNeg), .int (xs (x3 + (2 : Int32)).toNatClampNeg)]) (st := [.int v158]) hlau (x_X7_asks (l := l) (ω := ω) (a1 := xs (x3 + (1 : Int32)).toNatClampNeg) (a2 := xs (x3 + (2 : Int32)).toNatClampNeg) hn (I := J157)) dL_law_347 w_886 w_887 w_888 w_67 w_889 md_X7_asks (by decide) (by decide) rfl (ltL hn (Nat.le_of_ble_eq_true rfl)) rfl rfl (Nat.le_of_ble_eq_true rfl) (q := 350) rfl (fun v160 J159 => ?_)
                refine e_icmpeq C (tgt := 1438) (q := 353) dL_law_350 rfl rfl ?_ ?_
                · refine e_iinc C (v := x3 + (7 : Int32)) (lv1 := [(3, .int (x3 + (7 : Int32))), (0, .ref b), (1, .ref (oA ω 0)), (2, .ref (oA ω 56))]) dL_law_1438 3 rfl (Nat.le_of_ble_eq_true rfl) (by rw [ic_7]) rfl (q := 1441) rfl ?_
                  refine e_goto C (tgt := 18) dL_law_1441 rfl ?_
                  exact e_lv [1, 2, 3, 0] (lv1 := [(0, .ref b), (1, .ref (oA ω 0)), (2, .ref (oA ω 56)), (3, .int (x3 + (7 : Int32)))]) rfl (ih (x3 + (7 : Int32)) _)
                · refine e_iconst C dL_law_353 ic_0 (q := 354) rfl ?_
                  exact e_none
              · refine e_if (fun h7 => ?_) (fun h7 => ?_)
                · refine e_tabIn C (v := 5) (off := 322) (tgt := 355) dL_law_33 (by rw [h7]; rfl) (by decide) rfl rfl ?_
                  refine e_aload_n C dL_law_355 rfl 1 rfl (q := 356) rfl ?_
                  refine e_aload_n C dL_law_356 rfl 0 rfl (q := 357) rfl ?_
                  refine e_iload_n C dL_law_357 rfl 3 rfl (q := 358) rfl ?_
                  refine e_iconst C dL_law_358 ic_1 (q := 359) rfl ?_
                  refine e_iadd C dL_law_359 (q := 360) rfl ?_
                  refine e_sld C Z dL_law_360 (q := 361) rfl ?_
                  refine e_aload_n C dL_law_361 rfl 0 rfl (q := 362) rfl ?_
                  refine e_iload_n C dL_law_362 rfl 3 rfl (q := 363) rfl ?_
                  refine e_iconst C dL_law_363 ic_2 (q := 364) rfl ?_
                  refine e_iadd C dL_law_364 (q := 365) rfl ?_
                  refine e_sld C Z dL_law_365 (q := 366) rfl ?_
                  refine e_aload_n C dL_law_366 rfl 0 rfl (q := 367) rfl ?_
                  refine e_iload_n C dL_law_367 rfl 3 rfl (q := 368) rfl ?_
                  refine e_iconst C dL_law_368 ic_3 (q := 369) rfl ?_
                  refine e_iadd C dL_law_369 (q := 370) rfl ?_
                  refine e_sld C Z dL_law_370 (q := 371) rfl ?_
                  refine e_callVi C (l := l) (k := 0) (av := [.int (xs (x3 + (1 : Int32)).toNatClampNeg), .int (xs (x3 + (2 : Int32)).toNatClampNeg), .int (xs (x3 + (3 : Int32)).toNatClampNeg)]) (st := []) hlau (x_X6_hat (l := l) (ω := ω) (a1 := xs (x3 + (1 : Int32)).toNatClampNeg) (a2 := xs (x3 + (2 : Int32)).toNatClampNeg) (a3 := xs (x3 + (3 : Int32)).toNatClampNeg) (Nat.le_trans (by decide) hn) (I := I)) dL_law_371 w_428 w_429 w_430 w_56 w_431 md_X6_hat (by decide) (by decide) rfl (ltL hn (Nat.le_of_ble_eq_true rfl)) rfl rfl (Nat.le_of_ble_eq_true rfl) (q := 374) rfl (fun v154 J153 => ?_)
                  refine e_aload_n C dL_law_374 rfl 2 rfl (q := 375) rfl ?_
                  refine e_aload_n C dL_law_375 rfl 0 rfl (q := 376) rfl ?_
                  refine e_iload_n C dL_law_376 rfl 3 rfl (q := 377) rfl ?_
                  refine e_iconst C dL_law_377 ic_1 (q := 378) rfl ?_
                  refine e_iadd C dL_law_378 (q := 379) rfl ?_
                  refine e_sld C Z dL_law_379 (q := 380) rfl ?_
                  refine e_aload_n C dL_law_380 rfl 0 rfl (q := 381) rfl ?_
                  refine e_iload_n C dL_law_381 rfl 3 rfl (q := 382) rfl ?_
                  refine e_iconst C dL_law_382 ic_2 (q := 383) rfl ?_
                  refine e_iadd C dL_law_383 (q := 384) rfl ?_
                  refine e_sld C Z dL_law_384 (q := 385) rfl ?_
                  refine e_aload_n C dL_law_385 rfl 0 rfl (q := 386) rfl ?_
                  refine e_iload_n C dL_law_386 rfl 3 rfl (q := 387) rfl ?_
                  refine e_iconst C dL_law_387 ic_3 (q := 388) rfl ?_
                  refine e_iadd C dL_law_388 (q := 389) rfl ?_
                  refine e_sld C Z dL_law_389 (q := 390) rfl ?_
                  refine e_callVi C (l := l) (k := 56) (av := [.int (xs (x3 + (1 : Int32)).toNatClampNeg), .int (xs (x3 + (2 : Int32)).toNatClampNeg), .int (xs (x3 + (3 : Int32)).toNatClampNeg)]) (st := [.int v154]) hlau (x_X7_hat (l := l) (ω := ω) (a1 := xs (x3 + (1 : Int32)).toNatClampNeg) (a2 := xs (x3 + (2 : Int32)).toNatClampNeg) (a3 := xs (x3 + (3 : Int32)).toNatClampNeg) hn (I := J153)) dL_law_390 w_908 w_909 w_910 w_67 w_911 md_X7_hat (by decide) (by decide) rfl (ltL hn (Nat.le_of_ble_eq_true rfl)) rfl rfl (Nat.le_of_ble_eq_true rfl) (q := 393) rfl (fun v156 J155 => ?_)
                  refine e_icmpeq C (tgt := 1438) (q := 396) dL_law_393 rfl rfl ?_ ?_
                  · refine e_iinc C (v := x3 + (7 : Int32)) (lv1 := [(3, .int (x3 + (7 : Int32))), (0, .ref b), (1, .ref (oA ω 0)), (2, .ref (oA ω 56))]) dL_law_1438 3 rfl (Nat.le_of_ble_eq_true rfl) (by rw [ic_7]) rfl (q := 1441) rfl ?_
                    refine e_goto C (tgt := 18) dL_law_1441 rfl ?_
                    exact e_lv [1, 2, 3, 0] (lv1 := [(0, .ref b), (1, .ref (oA ω 0)), (2, .ref (oA ω 56)), (3, .int (x3 + (7 : Int32)))]) rfl (ih (x3 + (7 : Int32)) _)
                  · refine e_iconst C dL_law_396 ic_0 (q := 397) rfl ?_
                    exact e_none
                · refine e_if (fun h8 => ?_) (fun h8 => ?_)
                  · refine e_tabIn C (v := 6) (off := 365) (tgt := 398) dL_law_33 (by rw [h8]; rfl) (by decide) rfl rfl ?_
                    refine e_aload_n C dL_law_398 rfl 1 rfl (q := 399) rfl ?_
                    refine e_aload_n C dL_law_399 rfl 0 rfl (q := 400) rfl ?_
                    refine e_iload_n C dL_law_400 rfl 3 rfl (q := 401) rfl ?_
                    refine e_iconst C dL_law_401 ic_1 (q := 402) rfl ?_
                    refine e_iadd C dL_law_402 (q := 403) rfl ?_
                    refine e_sld C Z dL_law_403 (q := 404) rfl ?_
                    refine e_aload_n C dL_law_404 rfl 0 rfl (q := 405) rfl ?_
                    refine e_iload_n C dL_law_405 rfl 3 rfl (q := 406) rfl ?_
                    refine e_iconst C dL_law_406 ic_2 (q := 407) rfl ?_
                    refine e_iadd C dL_law_407 (q := 408) rfl ?_
                    refine e_sld C Z dL_law_408 (q := 409) rfl ?_
                    refine e_aload_n C dL_law_409 rfl 0 rfl (q := 410) rfl ?_
                    refine e_iload_n C dL_law_410 rfl 3 rfl (q := 411) rfl ?_
                    refine e_iconst C dL_law_411 ic_3 (q := 412) rfl ?_
                    refine e_iadd C dL_law_412 (q := 413) rfl ?_
                    refine e_sld C Z dL_law_413 (q := 414) rfl ?_
                    refine e_callVi C (l := l) (k := 0) (av := [.int (xs (x3 + (1 : Int32)).toNatClampNeg), .int (xs (x3 + (2 : Int32)).toNatClampNeg), .int (xs (x3 + (3 : Int32)).toNatClampNeg)]) (st := []) hlau (x_X6_put (l := l) (ω := ω) (a1 := xs (x3 + (1 : Int32)).toNatClampNeg) (a2 := xs (x3 + (2 : Int32)).toNatClampNeg) (a3 := xs (x3 + (3 : Int32)).toNatClampNeg) (Nat.le_trans (by decide) hn) (I := I)) dL_law_414 w_436 w_437 w_438 w_56 w_439 md_X6_put (by decide) (by decide) rfl (ltL hn (Nat.le_of_ble_eq_true rfl)) rfl rfl (Nat.le_of_ble_eq_true rfl) (q := 417) rfl (fun v150 J149 => ?_)
                    refine e_aload_n C dL_law_417 rfl 2 rfl (q := 418) rfl ?_
                    refine e_aload_n C dL_law_418 rfl 0 rfl (q := 419) rfl ?_
                    refine e_iload_n C dL_law_419 rfl 3 rfl (q := 420) rfl ?_
                    refine e_iconst C dL_law_420 ic_1 (q := 421) rfl ?_
                    refine e_iadd C dL_law_421 (q := 422) rfl ?_
                    refine e_sld C Z dL_law_422 (q := 423) rfl ?_
                    refine e_aload_n C dL_law_423 rfl 0 rfl (q := 424) rfl ?_
                    refine e_iload_n C dL_law_424 rfl 3 rfl (q := 425) rfl ?_
                    refine e_iconst C dL_law_425 ic_2 (q := 426) rfl ?_
                    refine e_iadd C dL_law_426 (q := 427) rfl ?_
                    refine e_sld C Z dL_law_427 (q := 428) rfl ?_
                    refine e_aload_n C dL_law_428 rfl 0 rfl (q := 429) rfl ?_
                    refine e_iload_n C dL_law_429 rfl 3 rfl (q := 430) rfl ?_
                    refine e_iconst C dL_law_430 ic_3 (q := 431) rfl ?_
                    refine e_iadd C dL_law_431 (q := 432) rfl ?_
                    refine e_sld C Z dL_law_432 (q := 433) rfl ?_
                    refine e_callVi C (l := l) (k := 56) (av := [.int (xs (x3 + (1 : Int32)).toNatClampNeg), .int (xs (x3 + (2 : Int32)).toNatClampNeg), .int (xs (x3 + (3 : Int32)).toNatClampNeg)]) (st := [.int v150]) hlau (x_X7_put (l := l) (ω := ω) (a1 := xs (x3 + (1 : Int32)).toNatClampNeg) (a2 := xs (x3 + (2 : Int32)).toNatClampNeg) (a3 := xs (x3 + (3 : Int32)).toNatClampNeg) hn (I := J149)) dL_law_433 w_912 w_913 w_914 w_67 w_915 md_X7_put (by decide) (by decide) rfl (ltL hn (Nat.le_of_ble_eq_true rfl)) rfl rfl (Nat.le_of_ble_eq_true rfl) (q := 436) rfl (fun v152 J151 => ?_)
                    refine e_icmpeq C (tgt := 1438) (q := 439) dL_law_436 rfl rfl ?_ ?_
                    · refine e_iinc C (v := x3 + (7 : Int32)) (lv1 := [(3, .int (x3 + (7 : Int32))), (0, .ref b), (1, .ref (oA ω 0)), (2, .ref (oA ω 56))]) dL_law_1438 3 rfl (Nat.le_of_ble_eq_true rfl) (by rw [ic_7]) rfl (q := 1441) rfl ?_
                      refine e_goto C (tgt := 18) dL_law_1441 rfl ?_
                      exact e_lv [1, 2, 3, 0] (lv1 := [(0, .ref b), (1, .ref (oA ω 0)), (2, .ref (oA ω 56)), (3, .int (x3 + (7 : Int32)))]) rfl (ih (x3 + (7 : Int32)) _)
                    · refine e_iconst C dL_law_439 ic_0 (q := 440) rfl ?_
                      exact e_none
                  · refine e_if (fun h9 => ?_) (fun h9 => ?_)
                    · refine e_tabIn C (v := 7) (off := 408) (tgt := 441) dL_law_33 (by rw [h9]; rfl) (by decide) rfl rfl ?_
                      refine e_aload_n C dL_law_441 rfl 1 rfl (q := 442) rfl ?_
                      refine e_aload_n C dL_law_442 rfl 0 rfl (q := 443) rfl ?_
                      refine e_iload_n C dL_law_443 rfl 3 rfl (q := 444) rfl ?_
                      refine e_iconst C dL_law_444 ic_1 (q := 445) rfl ?_
                      refine e_iadd C dL_law_445 (q := 446) rfl ?_
                      refine e_sld C Z dL_law_446 (q := 447) rfl ?_
                      refine e_aload_n C dL_law_447 rfl 0 rfl (q := 448) rfl ?_
                      refine e_iload_n C dL_law_448 rfl 3 rfl (q := 449) rfl ?_
                      refine e_iconst C dL_law_449 ic_2 (q := 450) rfl ?_
                      refine e_iadd C dL_law_450 (q := 451) rfl ?_
                      refine e_sld C Z dL_law_451 (q := 452) rfl ?_
                      refine e_callVi C (l := l) (k := 0) (av := [.int (xs (x3 + (1 : Int32)).toNatClampNeg), .int (xs (x3 + (2 : Int32)).toNatClampNeg)]) (st := []) hlau (x_X6_told (l := l) (ω := ω) (a1 := xs (x3 + (1 : Int32)).toNatClampNeg) (a2 := xs (x3 + (2 : Int32)).toNatClampNeg) (Nat.le_trans (by decide) hn) (I := I)) dL_law_452 w_444 w_445 w_446 w_56 w_447 md_X6_told (by decide) (by decide) rfl (ltL hn (Nat.le_of_ble_eq_true rfl)) rfl rfl (Nat.le_of_ble_eq_true rfl) (q := 455) rfl (fun v146 J145 => ?_)
                      refine e_aload_n C dL_law_455 rfl 2 rfl (q := 456) rfl ?_
                      refine e_aload_n C dL_law_456 rfl 0 rfl (q := 457) rfl ?_
                      refine e_iload_n C dL_law_457 rfl 3 rfl (q := 458) rfl ?_
                      refine e_iconst C dL_law_458 ic_1 (q := 459) rfl ?_
                      refine e_iadd C dL_law_459 (q := 460) rfl ?_
                      refine e_sld C Z dL_law_460 (q := 461) rfl ?_
                      refine e_aload_n C dL_law_461 rfl 0 rfl (q := 462) rfl ?_
                      refine e_iload_n C dL_law_462 rfl 3 rfl (q := 463) rfl ?_
                      refine e_iconst C dL_law_463 ic_2 (q := 464) rfl ?_
                      refine e_iadd C dL_law_464 (q := 465) rfl ?_
                      refine e_sld C Z dL_law_465 (q := 466) rfl ?_
                      refine e_callVi C (l := l) (k := 56) (av := [.int (xs (x3 + (1 : Int32)).toNatClampNeg), .int (xs (x3 + (2 : Int32)).toNatClampNeg)]) (st := [.int v146]) hlau (x_X7_told (l := l) (ω := ω) (a1 := xs (x3 + (1 : Int32)).toNatClampNeg) (a2 := xs (x3 + (2 : Int32)).toNatClampNeg) hn (I := J145)) dL_law_466 w_916 w_917 w_918 w_67 w_919 md_X7_told (by decide) (by decide) rfl (ltL hn (Nat.le_of_ble_eq_true rfl)) rfl rfl (Nat.le_of_ble_eq_true rfl) (q := 469) rfl (fun v148 J147 => ?_)
                      refine e_icmpeq C (tgt := 1438) (q := 472) dL_law_469 rfl rfl ?_ ?_
                      · refine e_iinc C (v := x3 + (7 : Int32)) (lv1 := [(3, .int (x3 + (7 : Int32))), (0, .ref b), (1, .ref (oA ω 0)), (2, .ref (oA ω 56))]) dL_law_1438 3 rfl (Nat.le_of_ble_eq_true rfl) (by rw [ic_7]) rfl (q := 1441) rfl ?_
                        refine e_goto C (tgt := 18) dL_law_1441 rfl ?_
                        exact e_lv [1, 2, 3, 0] (lv1 := [(0, .ref b), (1, .ref (oA ω 0)), (2, .ref (oA ω 56)), (3, .int (x3 + (7 : Int32)))]) rfl (ih (x3 + (7 : Int32)) _)
                      · refine e_iconst C dL_law_472 ic_0 (q := 473) rfl ?_
                        exact e_none
                    · refine e_if (fun h10 => ?_) (fun h10 => ?_)
                      · refine e_tabIn C (v := 8) (off := 441) (tgt := 474) dL_law_33 (by rw [h10]; rfl) (by decide) rfl rfl ?_
                        refine e_aload_n C dL_law_474 rfl 1 rfl (q := 475) rfl ?_
                        refine e_aload_n C dL_law_475 rfl 0 rfl (q := 476) rfl ?_
                        refine e_iload_n C dL_law_476 rfl 3 rfl (q := 477) rfl ?_
                        refine e_iconst C dL_law_477 ic_1 (q := 478) rfl ?_
                        refine e_iadd C dL_law_478 (q := 479) rfl ?_
                        refine e_sld C Z dL_law_479 (q := 480) rfl ?_
                        refine e_aload_n C dL_law_480 rfl 0 rfl (q := 481) rfl ?_
                        refine e_iload_n C dL_law_481 rfl 3 rfl (q := 482) rfl ?_
                        refine e_iconst C dL_law_482 ic_2 (q := 483) rfl ?_
                        refine e_iadd C dL_law_483 (q := 484) rfl ?_
                        refine e_sld C Z dL_law_484 (q := 485) rfl ?_
                        refine e_aload_n C dL_law_485 rfl 0 rfl (q := 486) rfl ?_
                        refine e_iload_n C dL_law_486 rfl 3 rfl (q := 487) rfl ?_
                        refine e_iconst C dL_law_487 ic_3 (q := 488) rfl ?_
                        refine e_iadd C dL_law_488 (q := 489) rfl ?_
                        refine e_sld C Z dL_law_489 (q := 490) rfl ?_
                        refine e_callVi C (l := l) (k := 0) (av := [.int (xs (x3 + (1 : Int32)).toNatClampNeg), .int (xs (x3 + (2 : Int32)).toNatClampNeg), .int (xs (x3 + (3 : Int32)).toNatClampNeg)]) (st := []) hlau (x_X6_duel (l := l) (ω := ω) (a1 := xs (x3 + (1 : Int32)).toNatClampNeg) (a2 := xs (x3 + (2 : Int32)).toNatClampNeg) (a3 := xs (x3 + (3 : Int32)).toNatClampNeg) (Nat.le_trans (by decide) hn) (I := I)) dL_law_490 w_474 w_475 w_476 w_56 w_477 md_X6_duel (by decide) (by decide) rfl (ltL hn (Nat.le_of_ble_eq_true rfl)) rfl rfl (Nat.le_of_ble_eq_true rfl) (q := 493) rfl (fun v142 J141 => ?_)
                        refine e_aload_n C dL_law_493 rfl 2 rfl (q := 494) rfl ?_
                        refine e_aload_n C dL_law_494 rfl 0 rfl (q := 495) rfl ?_
                        refine e_iload_n C dL_law_495 rfl 3 rfl (q := 496) rfl ?_
                        refine e_iconst C dL_law_496 ic_1 (q := 497) rfl ?_
                        refine e_iadd C dL_law_497 (q := 498) rfl ?_
                        refine e_sld C Z dL_law_498 (q := 499) rfl ?_
                        refine e_aload_n C dL_law_499 rfl 0 rfl (q := 500) rfl ?_
                        refine e_iload_n C dL_law_500 rfl 3 rfl (q := 501) rfl ?_
                        refine e_iconst C dL_law_501 ic_2 (q := 502) rfl ?_
                        refine e_iadd C dL_law_502 (q := 503) rfl ?_
                        refine e_sld C Z dL_law_503 (q := 504) rfl ?_
                        refine e_aload_n C dL_law_504 rfl 0 rfl (q := 505) rfl ?_
                        refine e_iload_n C dL_law_505 rfl 3 rfl (q := 506) rfl ?_
                        refine e_iconst C dL_law_506 ic_3 (q := 507) rfl ?_
                        refine e_iadd C dL_law_507 (q := 508) rfl ?_
                        refine e_sld C Z dL_law_508 (q := 509) rfl ?_
                        refine e_callVi C (l := l) (k := 56) (av := [.int (xs (x3 + (1 : Int32)).toNatClampNeg), .int (xs (x3 + (2 : Int32)).toNatClampNeg), .int (xs (x3 + (3 : Int32)).toNatClampNeg)]) (st := [.int v142]) hlau (x_X7_duel (l := l) (ω := ω) (a1 := xs (x3 + (1 : Int32)).toNatClampNeg) (a2 := xs (x3 + (2 : Int32)).toNatClampNeg) (a3 := xs (x3 + (3 : Int32)).toNatClampNeg) hn (I := J141)) dL_law_509 w_936 w_937 w_938 w_67 w_939 md_X7_duel (by decide) (by decide) rfl (ltL hn (Nat.le_of_ble_eq_true rfl)) rfl rfl (Nat.le_of_ble_eq_true rfl) (q := 512) rfl (fun v144 J143 => ?_)
                        refine e_icmpeq C (tgt := 1438) (q := 515) dL_law_512 rfl rfl ?_ ?_
                        · refine e_iinc C (v := x3 + (7 : Int32)) (lv1 := [(3, .int (x3 + (7 : Int32))), (0, .ref b), (1, .ref (oA ω 0)), (2, .ref (oA ω 56))]) dL_law_1438 3 rfl (Nat.le_of_ble_eq_true rfl) (by rw [ic_7]) rfl (q := 1441) rfl ?_
                          refine e_goto C (tgt := 18) dL_law_1441 rfl ?_
                          exact e_lv [1, 2, 3, 0] (lv1 := [(0, .ref b), (1, .ref (oA ω 0)), (2, .ref (oA ω 56)), (3, .int (x3 + (7 : Int32)))]) rfl (ih (x3 + (7 : Int32)) _)
                        · refine e_iconst C dL_law_515 ic_0 (q := 516) rfl ?_
                          exact e_none
                      · refine e_if (fun h11 => ?_) (fun h11 => ?_)
                        · refine e_tabIn C (v := 9) (off := 484) (tgt := 517) dL_law_33 (by rw [h11]; rfl) (by decide) rfl rfl ?_
                          refine e_aload_n C dL_law_517 rfl 1 rfl (q := 518) rfl ?_
                          refine e_callVi C (l := l) (k := 0) (av := []) (st := []) hlau (x_X6_round (l := l) (ω := ω) (Nat.le_trans (by decide) hn) (I := I)) dL_law_518 w_491 w_492 w_493 w_56 w_494 md_X6_round (by decide) (by decide) rfl (ltL hn (Nat.le_of_ble_eq_true rfl)) rfl rfl (Nat.le_of_ble_eq_true rfl) (q := 521) rfl (fun v138 J137 => ?_)
                          refine e_aload_n C dL_law_521 rfl 2 rfl (q := 522) rfl ?_
                          refine e_callVi C (l := l) (k := 56) (av := []) (st := [.int v138]) hlau (x_X7_round (l := l) (ω := ω) hn (I := J137)) dL_law_522 w_952 w_953 w_954 w_67 w_955 md_X7_round (by decide) (by decide) rfl (ltL hn (Nat.le_of_ble_eq_true rfl)) rfl rfl (Nat.le_of_ble_eq_true rfl) (q := 525) rfl (fun v140 J139 => ?_)
                          refine e_icmpeq C (tgt := 1438) (q := 528) dL_law_525 rfl rfl ?_ ?_
                          · refine e_iinc C (v := x3 + (7 : Int32)) (lv1 := [(3, .int (x3 + (7 : Int32))), (0, .ref b), (1, .ref (oA ω 0)), (2, .ref (oA ω 56))]) dL_law_1438 3 rfl (Nat.le_of_ble_eq_true rfl) (by rw [ic_7]) rfl (q := 1441) rfl ?_
                            refine e_goto C (tgt := 18) dL_law_1441 rfl ?_
                            exact e_lv [1, 2, 3, 0] (lv1 := [(0, .ref b), (1, .ref (oA ω 0)), (2, .ref (oA ω 56)), (3, .int (x3 + (7 : Int32)))]) rfl (ih (x3 + (7 : Int32)) _)
                          · refine e_iconst C dL_law_528 ic_0 (q := 529) rfl ?_
                            exact e_none
                        · refine e_if (fun h12 => ?_) (fun h12 => ?_)
                          · refine e_tabIn C (v := 10) (off := 497) (tgt := 530) dL_law_33 (by rw [h12]; rfl) (by decide) rfl rfl ?_
                            refine e_aload_n C dL_law_530 rfl 1 rfl (q := 531) rfl ?_
                            refine e_aload_n C dL_law_531 rfl 0 rfl (q := 532) rfl ?_
                            refine e_iload_n C dL_law_532 rfl 3 rfl (q := 533) rfl ?_
                            refine e_iconst C dL_law_533 ic_1 (q := 534) rfl ?_
                            refine e_iadd C dL_law_534 (q := 535) rfl ?_
                            refine e_sld C Z dL_law_535 (q := 536) rfl ?_
                            refine e_callVi C (l := l) (k := 0) (av := [.int (xs (x3 + (1 : Int32)).toNatClampNeg)]) (st := []) hlau (x_X6_bell (l := l) (ω := ω) (a1 := xs (x3 + (1 : Int32)).toNatClampNeg) (Nat.le_trans (by decide) hn) (I := I)) dL_law_536 w_512 w_513 w_514 w_56 w_515 md_X6_bell (by decide) (by decide) rfl (ltL hn (Nat.le_of_ble_eq_true rfl)) rfl rfl (Nat.le_of_ble_eq_true rfl) (q := 539) rfl (fun v134 J133 => ?_)
                            refine e_aload_n C dL_law_539 rfl 2 rfl (q := 540) rfl ?_
                            refine e_aload_n C dL_law_540 rfl 0 rfl (q := 541) rfl ?_
                            refine e_iload_n C dL_law_541 rfl 3 rfl (q := 542) rfl ?_
                            refine e_iconst C dL_law_542 ic_1 (q := 543) rfl ?_
                            refine e_iadd C dL_law_543 (q := 544) rfl ?_
                            refine e_sld C Z dL_law_544 (q := 545) rfl ?_
                            refine e_callVi C (l := l) (k := 56) (av := [.int (xs (x3 + (1 : Int32)).toNatClampNeg)]) (st := [.int v134]) hlau (x_X7_bell (l := l) (ω := ω) (a1 := xs (x3 + (1 : Int32)).toNatClampNeg) hn (I := J133)) dL_law_545 w_968 w_969 w_970 w_67 w_971 md_X7_bell (by decide) (by decide) rfl (ltL hn (Nat.le_of_ble_eq_true rfl)) rfl rfl (Nat.le_of_ble_eq_true rfl) (q := 548) rfl (fun v136 J135 => ?_)
                            refine e_icmpeq C (tgt := 1438) (q := 551) dL_law_548 rfl rfl ?_ ?_
                            · refine e_iinc C (v := x3 + (7 : Int32)) (lv1 := [(3, .int (x3 + (7 : Int32))), (0, .ref b), (1, .ref (oA ω 0)), (2, .ref (oA ω 56))]) dL_law_1438 3 rfl (Nat.le_of_ble_eq_true rfl) (by rw [ic_7]) rfl (q := 1441) rfl ?_
                              refine e_goto C (tgt := 18) dL_law_1441 rfl ?_
                              exact e_lv [1, 2, 3, 0] (lv1 := [(0, .ref b), (1, .ref (oA ω 0)), (2, .ref (oA ω 56)), (3, .int (x3 + (7 : Int32)))]) rfl (ih (x3 + (7 : Int32)) _)
                            · refine e_iconst C dL_law_551 ic_0 (q := 552) rfl ?_
                              exact e_none
                          · refine e_if (fun h13 => ?_) (fun h13 => ?_)
                            · refine e_tabIn C (v := 11) (off := 520) (tgt := 553) dL_law_33 (by rw [h13]; rfl) (by decide) rfl rfl ?_
                              refine e_aload_n C dL_law_553 rfl 1 rfl (q := 554) rfl ?_
                              refine e_aload_n C dL_law_554 rfl 0 rfl (q := 555) rfl ?_
                              refine e_iload_n C dL_law_555 rfl 3 rfl (q := 556) rfl ?_
                              refine e_iconst C dL_law_556 ic_1 (q := 557) rfl ?_
                              refine e_iadd C dL_law_557 (q := 558) rfl ?_
                              refine e_sld C Z dL_law_558 (q := 559) rfl ?_
                              refine e_aload_n C dL_law_559 rfl 0 rfl (q := 560) rfl ?_
                              refine e_iload_n C dL_law_560 rfl 3 rfl (q := 561) rfl ?_
                              refine e_iconst C dL_law_561 ic_2 (q := 562) rfl ?_
                              refine e_iadd C dL_law_562 (q := 563) rfl ?_
                              refine e_sld C Z dL_law_563 (q := 564) rfl ?_
                              refine e_callVi C (l := l) (k := 0) (av := [.int (xs (x3 + (1 : Int32)).toNatClampNeg), .int (xs (x3 + (2 : Int32)).toNatClampNeg)]) (st := []) hlau (x_X6_run (l := l) (ω := ω) (a1 := xs (x3 + (1 : Int32)).toNatClampNeg) (a2 := xs (x3 + (2 : Int32)).toNatClampNeg) (Nat.le_trans (by decide) hn) (I := I)) dL_law_564 w_516 w_517 w_518 w_56 w_519 md_X6_run (by decide) (by decide) rfl (ltL hn (Nat.le_of_ble_eq_true rfl)) rfl rfl (Nat.le_of_ble_eq_true rfl) (q := 567) rfl (fun v130 J129 => ?_)
                              refine e_aload_n C dL_law_567 rfl 2 rfl (q := 568) rfl ?_
                              refine e_aload_n C dL_law_568 rfl 0 rfl (q := 569) rfl ?_
                              refine e_iload_n C dL_law_569 rfl 3 rfl (q := 570) rfl ?_
                              refine e_iconst C dL_law_570 ic_1 (q := 571) rfl ?_
                              refine e_iadd C dL_law_571 (q := 572) rfl ?_
                              refine e_sld C Z dL_law_572 (q := 573) rfl ?_
                              refine e_aload_n C dL_law_573 rfl 0 rfl (q := 574) rfl ?_
                              refine e_iload_n C dL_law_574 rfl 3 rfl (q := 575) rfl ?_
                              refine e_iconst C dL_law_575 ic_2 (q := 576) rfl ?_
                              refine e_iadd C dL_law_576 (q := 577) rfl ?_
                              refine e_sld C Z dL_law_577 (q := 578) rfl ?_
                              refine e_callVi C (l := l) (k := 56) (av := [.int (xs (x3 + (1 : Int32)).toNatClampNeg), .int (xs (x3 + (2 : Int32)).toNatClampNeg)]) (st := [.int v130]) hlau (x_X7_run (l := l) (ω := ω) (a1 := xs (x3 + (1 : Int32)).toNatClampNeg) (a2 := xs (x3 + (2 : Int32)).toNatClampNeg) hn (I := J129)) dL_law_578 w_972 w_973 w_974 w_67 w_975 md_X7_run (by decide) (by decide) rfl (ltL hn (Nat.le_of_ble_eq_true rfl)) rfl rfl (Nat.le_of_ble_eq_true rfl) (q := 581) rfl (fun v132 J131 => ?_)
                              refine e_icmpeq C (tgt := 1438) (q := 584) dL_law_581 rfl rfl ?_ ?_
                              · refine e_iinc C (v := x3 + (7 : Int32)) (lv1 := [(3, .int (x3 + (7 : Int32))), (0, .ref b), (1, .ref (oA ω 0)), (2, .ref (oA ω 56))]) dL_law_1438 3 rfl (Nat.le_of_ble_eq_true rfl) (by rw [ic_7]) rfl (q := 1441) rfl ?_
                                refine e_goto C (tgt := 18) dL_law_1441 rfl ?_
                                exact e_lv [1, 2, 3, 0] (lv1 := [(0, .ref b), (1, .ref (oA ω 0)), (2, .ref (oA ω 56)), (3, .int (x3 + (7 : Int32)))]) rfl (ih (x3 + (7 : Int32)) _)
                              · refine e_iconst C dL_law_584 ic_0 (q := 585) rfl ?_
                                exact e_none
                            · refine e_if (fun h14 => ?_) (fun h14 => ?_)
                              · refine e_tabIn C (v := 12) (off := 553) (tgt := 586) dL_law_33 (by rw [h14]; rfl) (by decide) rfl rfl ?_
                                refine e_aload_n C dL_law_586 rfl 1 rfl (q := 587) rfl ?_
                                refine e_aload_n C dL_law_587 rfl 0 rfl (q := 588) rfl ?_
                                refine e_iload_n C dL_law_588 rfl 3 rfl (q := 589) rfl ?_
                                refine e_iconst C dL_law_589 ic_1 (q := 590) rfl ?_
                                refine e_iadd C dL_law_590 (q := 591) rfl ?_
                                refine e_sld C Z dL_law_591 (q := 592) rfl ?_
                                refine e_callVi C (l := l) (k := 0) (av := [.int (xs (x3 + (1 : Int32)).toNatClampNeg)]) (st := []) hlau (x_X6_when (l := l) (ω := ω) (a1 := xs (x3 + (1 : Int32)).toNatClampNeg) (Nat.le_trans (by decide) hn) (I := I)) dL_law_592 w_539 w_540 w_541 w_56 w_542 md_X6_when (by decide) (by decide) rfl (ltL hn (Nat.le_of_ble_eq_true rfl)) rfl rfl (Nat.le_of_ble_eq_true rfl) (q := 595) rfl (fun v126 J125 => ?_)
                                refine e_aload_n C dL_law_595 rfl 2 rfl (q := 596) rfl ?_
                                refine e_aload_n C dL_law_596 rfl 0 rfl (q := 597) rfl ?_
                                refine e_iload_n C dL_law_597 rfl 3 rfl (q := 598) rfl ?_
                                refine e_iconst C dL_law_598 ic_1 (q := 599) rfl ?_
                                refine e_iadd C dL_law_599 (q := 600) rfl ?_
                                refine e_sld C Z dL_law_600 (q := 601) rfl ?_
                                refine e_callVi C (l := l) (k := 56) (av := [.int (xs (x3 + (1 : Int32)).toNatClampNeg)]) (st := [.int v126]) hlau (x_X7_when (l := l) (ω := ω) (a1 := xs (x3 + (1 : Int32)).toNatClampNeg) hn (I := J125)) dL_law_601 w_992 w_993 w_994 w_67 w_995 md_X7_when (by decide) (by decide) rfl (ltL hn (Nat.le_of_ble_eq_true rfl)) rfl rfl (Nat.le_of_ble_eq_true rfl) (q := 604) rfl (fun v128 J127 => ?_)
                                refine e_icmpeq C (tgt := 1438) (q := 607) dL_law_604 rfl rfl ?_ ?_
                                · refine e_iinc C (v := x3 + (7 : Int32)) (lv1 := [(3, .int (x3 + (7 : Int32))), (0, .ref b), (1, .ref (oA ω 0)), (2, .ref (oA ω 56))]) dL_law_1438 3 rfl (Nat.le_of_ble_eq_true rfl) (by rw [ic_7]) rfl (q := 1441) rfl ?_
                                  refine e_goto C (tgt := 18) dL_law_1441 rfl ?_
                                  exact e_lv [1, 2, 3, 0] (lv1 := [(0, .ref b), (1, .ref (oA ω 0)), (2, .ref (oA ω 56)), (3, .int (x3 + (7 : Int32)))]) rfl (ih (x3 + (7 : Int32)) _)
                                · refine e_iconst C dL_law_607 ic_0 (q := 608) rfl ?_
                                  exact e_none
                              · refine e_if (fun h15 => ?_) (fun h15 => ?_)
                                · refine e_tabIn C (v := 13) (off := 576) (tgt := 609) dL_law_33 (by rw [h15]; rfl) (by decide) rfl rfl ?_
                                  refine e_aload_n C dL_law_609 rfl 1 rfl (q := 610) rfl ?_
                                  refine e_aload_n C dL_law_610 rfl 0 rfl (q := 611) rfl ?_
                                  refine e_iload_n C dL_law_611 rfl 3 rfl (q := 612) rfl ?_
                                  refine e_iconst C dL_law_612 ic_1 (q := 613) rfl ?_
                                  refine e_iadd C dL_law_613 (q := 614) rfl ?_
                                  refine e_sld C Z dL_law_614 (q := 615) rfl ?_
                                  refine e_callVi C (l := l) (k := 0) (av := [.int (xs (x3 + (1 : Int32)).toNatClampNeg)]) (st := []) hlau (x_X6_end (l := l) (ω := ω) (a1 := xs (x3 + (1 : Int32)).toNatClampNeg) (Nat.le_trans (by decide) hn) (I := I)) dL_law_615 w_543 w_544 w_545 w_56 w_546 md_X6_end (by decide) (by decide) rfl (ltL hn (Nat.le_of_ble_eq_true rfl)) rfl rfl (Nat.le_of_ble_eq_true rfl) (q := 618) rfl (fun v122 J121 => ?_)
                                  refine e_aload_n C dL_law_618 rfl 2 rfl (q := 619) rfl ?_
                                  refine e_aload_n C dL_law_619 rfl 0 rfl (q := 620) rfl ?_
                                  refine e_iload_n C dL_law_620 rfl 3 rfl (q := 621) rfl ?_
                                  refine e_iconst C dL_law_621 ic_1 (q := 622) rfl ?_
                                  refine e_iadd C dL_law_622 (q := 623) rfl ?_
                                  refine e_sld C Z dL_law_623 (q := 624) rfl ?_
                                  refine e_callVi C (l := l) (k := 56) (av := [.int (xs (x3 + (1 : Int32)).toNatClampNeg)]) (st := [.int v122]) hlau (x_X7_end (l := l) (ω := ω) (a1 := xs (x3 + (1 : Int32)).toNatClampNeg) hn (I := J121)) dL_law_624 w_996 w_997 w_998 w_67 w_999 md_X7_end (by decide) (by decide) rfl (ltL hn (Nat.le_of_ble_eq_true rfl)) rfl rfl (Nat.le_of_ble_eq_true rfl) (q := 627) rfl (fun v124 J123 => ?_)
                                  refine e_icmpeq C (tgt := 1438) (q := 630) dL_law_627 rfl rfl ?_ ?_
                                  · refine e_iinc C (v := x3 + (7 : Int32)) (lv1 := [(3, .int (x3 + (7 : Int32))), (0, .ref b), (1, .ref (oA ω 0)), (2, .ref (oA ω 56))]) dL_law_1438 3 rfl (Nat.le_of_ble_eq_true rfl) (by rw [ic_7]) rfl (q := 1441) rfl ?_
                                    refine e_goto C (tgt := 18) dL_law_1441 rfl ?_
                                    exact e_lv [1, 2, 3, 0] (lv1 := [(0, .ref b), (1, .ref (oA ω 0)), (2, .ref (oA ω 56)), (3, .int (x3 + (7 : Int32)))]) rfl (ih (x3 + (7 : Int32)) _)
                                  · refine e_iconst C dL_law_630 ic_0 (q := 631) rfl ?_
                                    exact e_none
                                · refine e_if (fun h16 => ?_) (fun h16 => ?_)
                                  · refine e_tabIn C (v := 14) (off := 599) (tgt := 632) dL_law_33 (by rw [h16]; rfl) (by decide) rfl rfl ?_
                                    refine e_aload_n C dL_law_632 rfl 1 rfl (q := 633) rfl ?_
                                    refine e_aload_n C dL_law_633 rfl 0 rfl (q := 634) rfl ?_
                                    refine e_iload_n C dL_law_634 rfl 3 rfl (q := 635) rfl ?_
                                    refine e_iconst C dL_law_635 ic_1 (q := 636) rfl ?_
                                    refine e_iadd C dL_law_636 (q := 637) rfl ?_
                                    refine e_sld C Z dL_law_637 (q := 638) rfl ?_
                                    refine e_aload_n C dL_law_638 rfl 0 rfl (q := 639) rfl ?_
                                    refine e_iload_n C dL_law_639 rfl 3 rfl (q := 640) rfl ?_
                                    refine e_iconst C dL_law_640 ic_2 (q := 641) rfl ?_
                                    refine e_iadd C dL_law_641 (q := 642) rfl ?_
                                    refine e_sld C Z dL_law_642 (q := 643) rfl ?_
                                    refine e_callVi C (l := l) (k := 0) (av := [.int (xs (x3 + (1 : Int32)).toNatClampNeg), .int (xs (x3 + (2 : Int32)).toNatClampNeg)]) (st := []) hlau (x_X6_beaten (l := l) (ω := ω) (a1 := xs (x3 + (1 : Int32)).toNatClampNeg) (a2 := xs (x3 + (2 : Int32)).toNatClampNeg) (Nat.le_trans (by decide) hn) (I := I)) dL_law_643 w_554 w_555 w_556 w_56 w_557 md_X6_beaten (by decide) (by decide) rfl (ltL hn (Nat.le_of_ble_eq_true rfl)) rfl rfl (Nat.le_of_ble_eq_true rfl) (q := 646) rfl (fun v118 J117 => ?_)
                                    refine e_aload_n C dL_law_646 rfl 2 rfl (q := 647) rfl ?_
                                    refine e_aload_n C dL_law_647 rfl 0 rfl (q := 648) rfl ?_
                                    refine e_iload_n C dL_law_648 rfl 3 rfl (q := 649) rfl ?_
                                    refine e_iconst C dL_law_649 ic_1 (q := 650) rfl ?_
                                    refine e_iadd C dL_law_650 (q := 651) rfl ?_
                                    refine e_sld C Z dL_law_651 (q := 652) rfl ?_
                                    refine e_aload_n C dL_law_652 rfl 0 rfl (q := 653) rfl ?_
                                    refine e_iload_n C dL_law_653 rfl 3 rfl (q := 654) rfl ?_
                                    refine e_iconst C dL_law_654 ic_2 (q := 655) rfl ?_
                                    refine e_iadd C dL_law_655 (q := 656) rfl ?_
                                    refine e_sld C Z dL_law_656 (q := 657) rfl ?_
                                    refine e_callVi C (l := l) (k := 56) (av := [.int (xs (x3 + (1 : Int32)).toNatClampNeg), .int (xs (x3 + (2 : Int32)).toNatClampNeg)]) (st := [.int v118]) hlau (x_X7_beaten (l := l) (ω := ω) (a1 := xs (x3 + (1 : Int32)).toNatClampNeg) (a2 := xs (x3 + (2 : Int32)).toNatClampNeg) hn (I := J117)) dL_law_657 w_1004 w_1005 w_1006 w_67 w_1007 md_X7_beaten (by decide) (by decide) rfl (ltL hn (Nat.le_of_ble_eq_true rfl)) rfl rfl (Nat.le_of_ble_eq_true rfl) (q := 660) rfl (fun v120 J119 => ?_)
                                    refine e_icmpeq C (tgt := 1438) (q := 663) dL_law_660 rfl rfl ?_ ?_
                                    · refine e_iinc C (v := x3 + (7 : Int32)) (lv1 := [(3, .int (x3 + (7 : Int32))), (0, .ref b), (1, .ref (oA ω 0)), (2, .ref (oA ω 56))]) dL_law_1438 3 rfl (Nat.le_of_ble_eq_true rfl) (by rw [ic_7]) rfl (q := 1441) rfl ?_
                                      refine e_goto C (tgt := 18) dL_law_1441 rfl ?_
                                      exact e_lv [1, 2, 3, 0] (lv1 := [(0, .ref b), (1, .ref (oA ω 0)), (2, .ref (oA ω 56)), (3, .int (x3 + (7 : Int32)))]) rfl (ih (x3 + (7 : Int32)) _)
                                    · refine e_iconst C dL_law_663 ic_0 (q := 664) rfl ?_
                                      exact e_none
                                  · refine e_if (fun h17 => ?_) (fun h17 => ?_)
                                    · refine e_tabIn C (v := 15) (off := 632) (tgt := 665) dL_law_33 (by rw [h17]; rfl) (by decide) rfl rfl ?_
                                      refine e_aload_n C dL_law_665 rfl 1 rfl (q := 666) rfl ?_
                                      refine e_aload_n C dL_law_666 rfl 0 rfl (q := 667) rfl ?_
                                      refine e_iload_n C dL_law_667 rfl 3 rfl (q := 668) rfl ?_
                                      refine e_iconst C dL_law_668 ic_1 (q := 669) rfl ?_
                                      refine e_iadd C dL_law_669 (q := 670) rfl ?_
                                      refine e_sld C Z dL_law_670 (q := 671) rfl ?_
                                      refine e_aload_n C dL_law_671 rfl 0 rfl (q := 672) rfl ?_
                                      refine e_iload_n C dL_law_672 rfl 3 rfl (q := 673) rfl ?_
                                      refine e_iconst C dL_law_673 ic_2 (q := 674) rfl ?_
                                      refine e_iadd C dL_law_674 (q := 675) rfl ?_
                                      refine e_sld C Z dL_law_675 (q := 676) rfl ?_
                                      refine e_aload_n C dL_law_676 rfl 0 rfl (q := 677) rfl ?_
                                      refine e_iload_n C dL_law_677 rfl 3 rfl (q := 678) rfl ?_
                                      refine e_iconst C dL_law_678 ic_3 (q := 679) rfl ?_
                                      refine e_iadd C dL_law_679 (q := 680) rfl ?_
                                      refine e_sld C Z dL_law_680 (q := 681) rfl ?_
                                      refine e_callVi C (l := l) (k := 0) (av := [.int (xs (x3 + (1 : Int32)).toNatClampNeg), .int (xs (x3 + (2 : Int32)).toNatClampNeg), .int (xs (x3 + (3 : Int32)).toNatClampNeg)]) (st := []) hlau (x_X6_toss (l := l) (ω := ω) (a1 := xs (x3 + (1 : Int32)).toNatClampNeg) (a2 := xs (x3 + (2 : Int32)).toNatClampNeg) (a3 := xs (x3 + (3 : Int32)).toNatClampNeg) (Nat.le_trans (by decide) hn) (I := I)) dL_law_681 w_572 w_573 w_574 w_56 w_575 md_X6_toss (by decide) (by decide) rfl (ltL hn (Nat.le_of_ble_eq_true rfl)) rfl rfl (Nat.le_of_ble_eq_true rfl) (q := 684) rfl (fun v114 J113 => ?_)
                                      refine e_aload_n C dL_law_684 rfl 2 rfl (q := 685) rfl ?_
                                      refine e_aload_n C dL_law_685 rfl 0 rfl (q := 686) rfl ?_
                                      refine e_iload_n C dL_law_686 rfl 3 rfl (q := 687) rfl ?_
                                      refine e_iconst C dL_law_687 ic_1 (q := 688) rfl ?_
                                      refine e_iadd C dL_law_688 (q := 689) rfl ?_
                                      refine e_sld C Z dL_law_689 (q := 690) rfl ?_
                                      refine e_aload_n C dL_law_690 rfl 0 rfl (q := 691) rfl ?_
                                      refine e_iload_n C dL_law_691 rfl 3 rfl (q := 692) rfl ?_
                                      refine e_iconst C dL_law_692 ic_2 (q := 693) rfl ?_
                                      refine e_iadd C dL_law_693 (q := 694) rfl ?_
                                      refine e_sld C Z dL_law_694 (q := 695) rfl ?_
                                      refine e_aload_n C dL_law_695 rfl 0 rfl (q := 696) rfl ?_
                                      refine e_iload_n C dL_law_696 rfl 3 rfl (q := 697) rfl ?_
                                      refine e_iconst C dL_law_697 ic_3 (q := 698) rfl ?_
                                      refine e_iadd C dL_law_698 (q := 699) rfl ?_
                                      refine e_sld C Z dL_law_699 (q := 700) rfl ?_
                                      refine e_callVi C (l := l) (k := 56) (av := [.int (xs (x3 + (1 : Int32)).toNatClampNeg), .int (xs (x3 + (2 : Int32)).toNatClampNeg), .int (xs (x3 + (3 : Int32)).toNatClampNeg)]) (st := [.int v114]) hlau (x_X7_toss (l := l) (ω := ω) (a1 := xs (x3 + (1 : Int32)).toNatClampNeg) (a2 := xs (x3 + (2 : Int32)).toNatClampNeg) (a3 := xs (x3 + (3 : Int32)).toNatClampNeg) hn (I := J113)) dL_law_700 w_1008 w_1009 w_1010 w_67 w_1011 md_X7_toss (by decide) (by decide) rfl (ltL hn (Nat.le_of_ble_eq_true rfl)) rfl rfl (Nat.le_of_ble_eq_true rfl) (q := 703) rfl (fun v116 J115 => ?_)
                                      refine e_icmpeq C (tgt := 1438) (q := 706) dL_law_703 rfl rfl ?_ ?_
                                      · refine e_iinc C (v := x3 + (7 : Int32)) (lv1 := [(3, .int (x3 + (7 : Int32))), (0, .ref b), (1, .ref (oA ω 0)), (2, .ref (oA ω 56))]) dL_law_1438 3 rfl (Nat.le_of_ble_eq_true rfl) (by rw [ic_7]) rfl (q := 1441) rfl ?_
                                        refine e_goto C (tgt := 18) dL_law_1441 rfl ?_
                                        exact e_lv [1, 2, 3, 0] (lv1 := [(0, .ref b), (1, .ref (oA ω 0)), (2, .ref (oA ω 56)), (3, .int (x3 + (7 : Int32)))]) rfl (ih (x3 + (7 : Int32)) _)
                                      · refine e_iconst C dL_law_706 ic_0 (q := 707) rfl ?_
                                        exact e_none
                                    · refine e_if (fun h18 => ?_) (fun h18 => ?_)
                                      · refine e_tabIn C (v := 16) (off := 675) (tgt := 708) dL_law_33 (by rw [h18]; rfl) (by decide) rfl rfl ?_
                                        refine e_aload_n C dL_law_708 rfl 1 rfl (q := 709) rfl ?_
                                        refine e_aload_n C dL_law_709 rfl 0 rfl (q := 710) rfl ?_
                                        refine e_iload_n C dL_law_710 rfl 3 rfl (q := 711) rfl ?_
                                        refine e_iconst C dL_law_711 ic_1 (q := 712) rfl ?_
                                        refine e_iadd C dL_law_712 (q := 713) rfl ?_
                                        refine e_sld C Z dL_law_713 (q := 714) rfl ?_
                                        refine e_aload_n C dL_law_714 rfl 0 rfl (q := 715) rfl ?_
                                        refine e_iload_n C dL_law_715 rfl 3 rfl (q := 716) rfl ?_
                                        refine e_iconst C dL_law_716 ic_2 (q := 717) rfl ?_
                                        refine e_iadd C dL_law_717 (q := 718) rfl ?_
                                        refine e_sld C Z dL_law_718 (q := 719) rfl ?_
                                        refine e_aload_n C dL_law_719 rfl 0 rfl (q := 720) rfl ?_
                                        refine e_iload_n C dL_law_720 rfl 3 rfl (q := 721) rfl ?_
                                        refine e_iconst C dL_law_721 ic_3 (q := 722) rfl ?_
                                        refine e_iadd C dL_law_722 (q := 723) rfl ?_
                                        refine e_sld C Z dL_law_723 (q := 724) rfl ?_
                                        refine e_callVi C (l := l) (k := 0) (av := [.int (xs (x3 + (1 : Int32)).toNatClampNeg), .int (xs (x3 + (2 : Int32)).toNatClampNeg), .int (xs (x3 + (3 : Int32)).toNatClampNeg)]) (st := []) hlau (x_X6_rid (l := l) (ω := ω) (a1 := xs (x3 + (1 : Int32)).toNatClampNeg) (a2 := xs (x3 + (2 : Int32)).toNatClampNeg) (a3 := xs (x3 + (3 : Int32)).toNatClampNeg) (Nat.le_trans (by decide) hn) (I := I)) dL_law_724 w_576 w_577 w_578 w_56 w_579 md_X6_rid (by decide) (by decide) rfl (ltL hn (Nat.le_of_ble_eq_true rfl)) rfl rfl (Nat.le_of_ble_eq_true rfl) (q := 727) rfl (fun v110 J109 => ?_)
                                        refine e_aload_n C dL_law_727 rfl 2 rfl (q := 728) rfl ?_
                                        refine e_aload_n C dL_law_728 rfl 0 rfl (q := 729) rfl ?_
                                        refine e_iload_n C dL_law_729 rfl 3 rfl (q := 730) rfl ?_
                                        refine e_iconst C dL_law_730 ic_1 (q := 731) rfl ?_
                                        refine e_iadd C dL_law_731 (q := 732) rfl ?_
                                        refine e_sld C Z dL_law_732 (q := 733) rfl ?_
                                        refine e_aload_n C dL_law_733 rfl 0 rfl (q := 734) rfl ?_
                                        refine e_iload_n C dL_law_734 rfl 3 rfl (q := 735) rfl ?_
                                        refine e_iconst C dL_law_735 ic_2 (q := 736) rfl ?_
                                        refine e_iadd C dL_law_736 (q := 737) rfl ?_
                                        refine e_sld C Z dL_law_737 (q := 738) rfl ?_
                                        refine e_aload_n C dL_law_738 rfl 0 rfl (q := 739) rfl ?_
                                        refine e_iload_n C dL_law_739 rfl 3 rfl (q := 740) rfl ?_
                                        refine e_iconst C dL_law_740 ic_3 (q := 741) rfl ?_
                                        refine e_iadd C dL_law_741 (q := 742) rfl ?_
                                        refine e_sld C Z dL_law_742 (q := 743) rfl ?_
                                        refine e_callVi C (l := l) (k := 56) (av := [.int (xs (x3 + (1 : Int32)).toNatClampNeg), .int (xs (x3 + (2 : Int32)).toNatClampNeg), .int (xs (x3 + (3 : Int32)).toNatClampNeg)]) (st := [.int v110]) hlau (x_X7_rid (l := l) (ω := ω) (a1 := xs (x3 + (1 : Int32)).toNatClampNeg) (a2 := xs (x3 + (2 : Int32)).toNatClampNeg) (a3 := xs (x3 + (3 : Int32)).toNatClampNeg) hn (I := J109)) dL_law_743 w_1016 w_1017 w_1018 w_67 w_1019 md_X7_rid (by decide) (by decide) rfl (ltL hn (Nat.le_of_ble_eq_true rfl)) rfl rfl (Nat.le_of_ble_eq_true rfl) (q := 746) rfl (fun v112 J111 => ?_)
                                        refine e_icmpeq C (tgt := 1438) (q := 749) dL_law_746 rfl rfl ?_ ?_
                                        · refine e_iinc C (v := x3 + (7 : Int32)) (lv1 := [(3, .int (x3 + (7 : Int32))), (0, .ref b), (1, .ref (oA ω 0)), (2, .ref (oA ω 56))]) dL_law_1438 3 rfl (Nat.le_of_ble_eq_true rfl) (by rw [ic_7]) rfl (q := 1441) rfl ?_
                                          refine e_goto C (tgt := 18) dL_law_1441 rfl ?_
                                          exact e_lv [1, 2, 3, 0] (lv1 := [(0, .ref b), (1, .ref (oA ω 0)), (2, .ref (oA ω 56)), (3, .int (x3 + (7 : Int32)))]) rfl (ih (x3 + (7 : Int32)) _)
                                        · refine e_iconst C dL_law_749 ic_0 (q := 750) rfl ?_
                                          exact e_none
                                      · refine e_if (fun h19 => ?_) (fun h19 => ?_)
                                        · refine e_tabIn C (v := 17) (off := 718) (tgt := 751) dL_law_33 (by rw [h19]; rfl) (by decide) rfl rfl ?_
                                          refine e_aload_n C dL_law_751 rfl 1 rfl (q := 752) rfl ?_
                                          refine e_aload_n C dL_law_752 rfl 0 rfl (q := 753) rfl ?_
                                          refine e_iload_n C dL_law_753 rfl 3 rfl (q := 754) rfl ?_
                                          refine e_iconst C dL_law_754 ic_1 (q := 755) rfl ?_
                                          refine e_iadd C dL_law_755 (q := 756) rfl ?_
                                          refine e_sld C Z dL_law_756 (q := 757) rfl ?_
                                          refine e_aload_n C dL_law_757 rfl 0 rfl (q := 758) rfl ?_
                                          refine e_iload_n C dL_law_758 rfl 3 rfl (q := 759) rfl ?_
                                          refine e_iconst C dL_law_759 ic_2 (q := 760) rfl ?_
                                          refine e_iadd C dL_law_760 (q := 761) rfl ?_
                                          refine e_sld C Z dL_law_761 (q := 762) rfl ?_
                                          refine e_callVi C (l := l) (k := 0) (av := [.int (xs (x3 + (1 : Int32)).toNatClampNeg), .int (xs (x3 + (2 : Int32)).toNatClampNeg)]) (st := []) hlau (x_X6_lasts (l := l) (ω := ω) (a1 := xs (x3 + (1 : Int32)).toNatClampNeg) (a2 := xs (x3 + (2 : Int32)).toNatClampNeg) (Nat.le_trans (by decide) hn) (I := I)) dL_law_762 w_580 w_581 w_582 w_56 w_583 md_X6_lasts (by decide) (by decide) rfl (ltL hn (Nat.le_of_ble_eq_true rfl)) rfl rfl (Nat.le_of_ble_eq_true rfl) (q := 765) rfl (fun v106 J105 => ?_)
                                          refine e_aload_n C dL_law_765 rfl 2 rfl (q := 766) rfl ?_
                                          refine e_aload_n C dL_law_766 rfl 0 rfl (q := 767) rfl ?_
                                          refine e_iload_n C dL_law_767 rfl 3 rfl (q := 768) rfl ?_
                                          refine e_iconst C dL_law_768 ic_1 (q := 769) rfl ?_
                                          refine e_iadd C dL_law_769 (q := 770) rfl ?_
                                          refine e_sld C Z dL_law_770 (q := 771) rfl ?_
                                          refine e_aload_n C dL_law_771 rfl 0 rfl (q := 772) rfl ?_
                                          refine e_iload_n C dL_law_772 rfl 3 rfl (q := 773) rfl ?_
                                          refine e_iconst C dL_law_773 ic_2 (q := 774) rfl ?_
                                          refine e_iadd C dL_law_774 (q := 775) rfl ?_
                                          refine e_sld C Z dL_law_775 (q := 776) rfl ?_
                                          refine e_callVi C (l := l) (k := 56) (av := [.int (xs (x3 + (1 : Int32)).toNatClampNeg), .int (xs (x3 + (2 : Int32)).toNatClampNeg)]) (st := [.int v106]) hlau (x_X7_lasts (l := l) (ω := ω) (a1 := xs (x3 + (1 : Int32)).toNatClampNeg) (a2 := xs (x3 + (2 : Int32)).toNatClampNeg) hn (I := J105)) dL_law_776 w_1020 w_1021 w_1022 w_67 w_1023 md_X7_lasts (by decide) (by decide) rfl (ltL hn (Nat.le_of_ble_eq_true rfl)) rfl rfl (Nat.le_of_ble_eq_true rfl) (q := 779) rfl (fun v108 J107 => ?_)
                                          refine e_icmpeq C (tgt := 1438) (q := 782) dL_law_779 rfl rfl ?_ ?_
                                          · refine e_iinc C (v := x3 + (7 : Int32)) (lv1 := [(3, .int (x3 + (7 : Int32))), (0, .ref b), (1, .ref (oA ω 0)), (2, .ref (oA ω 56))]) dL_law_1438 3 rfl (Nat.le_of_ble_eq_true rfl) (by rw [ic_7]) rfl (q := 1441) rfl ?_
                                            refine e_goto C (tgt := 18) dL_law_1441 rfl ?_
                                            exact e_lv [1, 2, 3, 0] (lv1 := [(0, .ref b), (1, .ref (oA ω 0)), (2, .ref (oA ω 56)), (3, .int (x3 + (7 : Int32)))]) rfl (ih (x3 + (7 : Int32)) _)
                                          · refine e_iconst C dL_law_782 ic_0 (q := 783) rfl ?_
                                            exact e_none
                                        · refine e_if (fun h20 => ?_) (fun h20 => ?_)
                                          · refine e_tabIn C (v := 18) (off := 751) (tgt := 784) dL_law_33 (by rw [h20]; rfl) (by decide) rfl rfl ?_
                                            refine e_aload_n C dL_law_784 rfl 1 rfl (q := 785) rfl ?_
                                            refine e_aload_n C dL_law_785 rfl 0 rfl (q := 786) rfl ?_
                                            refine e_iload_n C dL_law_786 rfl 3 rfl (q := 787) rfl ?_
                                            refine e_iconst C dL_law_787 ic_1 (q := 788) rfl ?_
                                            refine e_iadd C dL_law_788 (q := 789) rfl ?_
                                            refine e_sld C Z dL_law_789 (q := 790) rfl ?_
                                            refine e_aload_n C dL_law_790 rfl 0 rfl (q := 791) rfl ?_
                                            refine e_iload_n C dL_law_791 rfl 3 rfl (q := 792) rfl ?_
                                            refine e_iconst C dL_law_792 ic_2 (q := 793) rfl ?_
                                            refine e_iadd C dL_law_793 (q := 794) rfl ?_
                                            refine e_sld C Z dL_law_794 (q := 795) rfl ?_
                                            refine e_callVl C (l := l) (k := 0) (av := [.int (xs (x3 + (1 : Int32)).toNatClampNeg), .int (xs (x3 + (2 : Int32)).toNatClampNeg)]) (st := []) hlau (x_X6_betting (l := l) (ω := ω) (a1 := xs (x3 + (1 : Int32)).toNatClampNeg) (a2 := xs (x3 + (2 : Int32)).toNatClampNeg) (Nat.le_trans (by decide) hn) (I := I)) dL_law_795 w_584 w_585 w_586 w_56 w_587 md_X6_betting (by decide) (by decide) rfl (ltL hn (Nat.le_of_ble_eq_true rfl)) rfl rfl (Nat.le_of_ble_eq_true rfl) (q := 798) rfl (fun v102 J101 => ?_)
                                            refine e_aload_n C dL_law_798 rfl 2 rfl (q := 799) rfl ?_
                                            refine e_aload_n C dL_law_799 rfl 0 rfl (q := 800) rfl ?_
                                            refine e_iload_n C dL_law_800 rfl 3 rfl (q := 801) rfl ?_
                                            refine e_iconst C dL_law_801 ic_1 (q := 802) rfl ?_
                                            refine e_iadd C dL_law_802 (q := 803) rfl ?_
                                            refine e_sld C Z dL_law_803 (q := 804) rfl ?_
                                            refine e_aload_n C dL_law_804 rfl 0 rfl (q := 805) rfl ?_
                                            refine e_iload_n C dL_law_805 rfl 3 rfl (q := 806) rfl ?_
                                            refine e_iconst C dL_law_806 ic_2 (q := 807) rfl ?_
                                            refine e_iadd C dL_law_807 (q := 808) rfl ?_
                                            refine e_sld C Z dL_law_808 (q := 809) rfl ?_
                                            refine e_callVl C (l := l) (k := 56) (av := [.int (xs (x3 + (1 : Int32)).toNatClampNeg), .int (xs (x3 + (2 : Int32)).toNatClampNeg)]) (st := [.long v102]) hlau (x_X7_betting (l := l) (ω := ω) (a1 := xs (x3 + (1 : Int32)).toNatClampNeg) (a2 := xs (x3 + (2 : Int32)).toNatClampNeg) hn (I := J101)) dL_law_809 w_1024 w_1025 w_1026 w_67 w_1027 md_X7_betting (by decide) (by decide) rfl (ltL hn (Nat.le_of_ble_eq_true rfl)) rfl rfl (Nat.le_of_ble_eq_true rfl) (q := 812) rfl (fun v104 J103 => ?_)
                                            refine e_lcmp C dL_law_812 (q := 813) rfl ?_
                                            refine e_ifeq C (tgt := 1438) (q := 816) dL_law_813 rfl rfl ?_ ?_
                                            · refine e_iinc C (v := x3 + (7 : Int32)) (lv1 := [(3, .int (x3 + (7 : Int32))), (0, .ref b), (1, .ref (oA ω 0)), (2, .ref (oA ω 56))]) dL_law_1438 3 rfl (Nat.le_of_ble_eq_true rfl) (by rw [ic_7]) rfl (q := 1441) rfl ?_
                                              refine e_goto C (tgt := 18) dL_law_1441 rfl ?_
                                              exact e_lv [1, 2, 3, 0] (lv1 := [(0, .ref b), (1, .ref (oA ω 0)), (2, .ref (oA ω 56)), (3, .int (x3 + (7 : Int32)))]) rfl (ih (x3 + (7 : Int32)) _)
                                            · refine e_iconst C dL_law_816 ic_0 (q := 817) rfl ?_
                                              exact e_none
                                          · refine e_if (fun h21 => ?_) (fun h21 => ?_)
                                            · refine e_tabIn C (v := 19) (off := 785) (tgt := 818) dL_law_33 (by rw [h21]; rfl) (by decide) rfl rfl ?_
                                              refine e_aload_n C dL_law_818 rfl 1 rfl (q := 819) rfl ?_
                                              refine e_aload_n C dL_law_819 rfl 0 rfl (q := 820) rfl ?_
                                              refine e_iload_n C dL_law_820 rfl 3 rfl (q := 821) rfl ?_
                                              refine e_iconst C dL_law_821 ic_1 (q := 822) rfl ?_
                                              refine e_iadd C dL_law_822 (q := 823) rfl ?_
                                              refine e_sld C Z dL_law_823 (q := 824) rfl ?_
                                              refine e_aload_n C dL_law_824 rfl 0 rfl (q := 825) rfl ?_
                                              refine e_iload_n C dL_law_825 rfl 3 rfl (q := 826) rfl ?_
                                              refine e_iconst C dL_law_826 ic_2 (q := 827) rfl ?_
                                              refine e_iadd C dL_law_827 (q := 828) rfl ?_
                                              refine e_sld C Z dL_law_828 (q := 829) rfl ?_
                                              refine e_callVi C (l := l) (k := 0) (av := [.int (xs (x3 + (1 : Int32)).toNatClampNeg), .int (xs (x3 + (2 : Int32)).toNatClampNeg)]) (st := []) hlau (x_X6_judge (l := l) (ω := ω) (a1 := xs (x3 + (1 : Int32)).toNatClampNeg) (a2 := xs (x3 + (2 : Int32)).toNatClampNeg) (Nat.le_trans (by decide) hn) (I := I)) dL_law_829 w_596 w_597 w_598 w_56 w_599 md_X6_judge (by decide) (by decide) rfl (ltL hn (Nat.le_of_ble_eq_true rfl)) rfl rfl (Nat.le_of_ble_eq_true rfl) (q := 832) rfl (fun v98 J97 => ?_)
                                              refine e_aload_n C dL_law_832 rfl 2 rfl (q := 833) rfl ?_
                                              refine e_aload_n C dL_law_833 rfl 0 rfl (q := 834) rfl ?_
                                              refine e_iload_n C dL_law_834 rfl 3 rfl (q := 835) rfl ?_
                                              refine e_iconst C dL_law_835 ic_1 (q := 836) rfl ?_
                                              refine e_iadd C dL_law_836 (q := 837) rfl ?_
                                              refine e_sld C Z dL_law_837 (q := 838) rfl ?_
                                              refine e_aload_n C dL_law_838 rfl 0 rfl (q := 839) rfl ?_
                                              refine e_iload_n C dL_law_839 rfl 3 rfl (q := 840) rfl ?_
                                              refine e_iconst C dL_law_840 ic_2 (q := 841) rfl ?_
                                              refine e_iadd C dL_law_841 (q := 842) rfl ?_
                                              refine e_sld C Z dL_law_842 (q := 843) rfl ?_
                                              refine e_callVi C (l := l) (k := 56) (av := [.int (xs (x3 + (1 : Int32)).toNatClampNeg), .int (xs (x3 + (2 : Int32)).toNatClampNeg)]) (st := [.int v98]) hlau (x_X7_judge (l := l) (ω := ω) (a1 := xs (x3 + (1 : Int32)).toNatClampNeg) (a2 := xs (x3 + (2 : Int32)).toNatClampNeg) hn (I := J97)) dL_law_843 w_1032 w_1033 w_1034 w_67 w_1035 md_X7_judge (by decide) (by decide) rfl (ltL hn (Nat.le_of_ble_eq_true rfl)) rfl rfl (Nat.le_of_ble_eq_true rfl) (q := 846) rfl (fun v100 J99 => ?_)
                                              refine e_icmpeq C (tgt := 1438) (q := 849) dL_law_846 rfl rfl ?_ ?_
                                              · refine e_iinc C (v := x3 + (7 : Int32)) (lv1 := [(3, .int (x3 + (7 : Int32))), (0, .ref b), (1, .ref (oA ω 0)), (2, .ref (oA ω 56))]) dL_law_1438 3 rfl (Nat.le_of_ble_eq_true rfl) (by rw [ic_7]) rfl (q := 1441) rfl ?_
                                                refine e_goto C (tgt := 18) dL_law_1441 rfl ?_
                                                exact e_lv [1, 2, 3, 0] (lv1 := [(0, .ref b), (1, .ref (oA ω 0)), (2, .ref (oA ω 56)), (3, .int (x3 + (7 : Int32)))]) rfl (ih (x3 + (7 : Int32)) _)
                                              · refine e_iconst C dL_law_849 ic_0 (q := 850) rfl ?_
                                                exact e_none
                                            · refine e_if (fun h22 => ?_) (fun h22 => ?_)
                                              · refine e_tabIn C (v := 20) (off := 818) (tgt := 851) dL_law_33 (by rw [h22]; rfl) (by decide) rfl rfl ?_
                                                refine e_aload_n C dL_law_851 rfl 1 rfl (q := 852) rfl ?_
                                                refine e_aload_n C dL_law_852 rfl 0 rfl (q := 853) rfl ?_
                                                refine e_iload_n C dL_law_853 rfl 3 rfl (q := 854) rfl ?_
                                                refine e_iconst C dL_law_854 ic_1 (q := 855) rfl ?_
                                                refine e_iadd C dL_law_855 (q := 856) rfl ?_
                                                refine e_sld C Z dL_law_856 (q := 857) rfl ?_
                                                refine e_aload_n C dL_law_857 rfl 0 rfl (q := 858) rfl ?_
                                                refine e_iload_n C dL_law_858 rfl 3 rfl (q := 859) rfl ?_
                                                refine e_iconst C dL_law_859 ic_2 (q := 860) rfl ?_
                                                refine e_iadd C dL_law_860 (q := 861) rfl ?_
                                                refine e_sld C Z dL_law_861 (q := 862) rfl ?_
                                                refine e_aload_n C dL_law_862 rfl 0 rfl (q := 863) rfl ?_
                                                refine e_iload_n C dL_law_863 rfl 3 rfl (q := 864) rfl ?_
                                                refine e_iconst C dL_law_864 ic_3 (q := 865) rfl ?_
                                                refine e_iadd C dL_law_865 (q := 866) rfl ?_
                                                refine e_sld C Z dL_law_866 (q := 867) rfl ?_
                                                refine e_aload_n C dL_law_867 rfl 0 rfl (q := 868) rfl ?_
                                                refine e_iload_n C dL_law_868 rfl 3 rfl (q := 869) rfl ?_
                                                refine e_iconst C dL_law_869 ic_4 (q := 870) rfl ?_
                                                refine e_iadd C dL_law_870 (q := 871) rfl ?_
                                                refine e_sld C Z dL_law_871 (q := 872) rfl ?_
                                                refine e_callVi C (l := l) (k := 0) (av := [.int (xs (x3 + (1 : Int32)).toNatClampNeg), .int (xs (x3 + (2 : Int32)).toNatClampNeg), .int (xs (x3 + (3 : Int32)).toNatClampNeg), .int (xs (x3 + (4 : Int32)).toNatClampNeg)]) (st := []) hlau (x_X6_kinds (l := l) (ω := ω) (a1 := xs (x3 + (1 : Int32)).toNatClampNeg) (a2 := xs (x3 + (2 : Int32)).toNatClampNeg) (a3 := xs (x3 + (3 : Int32)).toNatClampNeg) (a4 := xs (x3 + (4 : Int32)).toNatClampNeg) (Nat.le_trans (by decide) hn) (I := I)) dL_law_872 w_619 w_620 w_621 w_56 w_622 md_X6_kinds (by decide) (by decide) rfl (ltL hn (Nat.le_of_ble_eq_true rfl)) rfl rfl (Nat.le_of_ble_eq_true rfl) (q := 875) rfl (fun v94 J93 => ?_)
                                                refine e_aload_n C dL_law_875 rfl 2 rfl (q := 876) rfl ?_
                                                refine e_aload_n C dL_law_876 rfl 0 rfl (q := 877) rfl ?_
                                                refine e_iload_n C dL_law_877 rfl 3 rfl (q := 878) rfl ?_
                                                refine e_iconst C dL_law_878 ic_1 (q := 879) rfl ?_
                                                refine e_iadd C dL_law_879 (q := 880) rfl ?_
                                                refine e_sld C Z dL_law_880 (q := 881) rfl ?_
                                                refine e_aload_n C dL_law_881 rfl 0 rfl (q := 882) rfl ?_
                                                refine e_iload_n C dL_law_882 rfl 3 rfl (q := 883) rfl ?_
                                                refine e_iconst C dL_law_883 ic_2 (q := 884) rfl ?_
                                                refine e_iadd C dL_law_884 (q := 885) rfl ?_
                                                refine e_sld C Z dL_law_885 (q := 886) rfl ?_
                                                refine e_aload_n C dL_law_886 rfl 0 rfl (q := 887) rfl ?_
                                                refine e_iload_n C dL_law_887 rfl 3 rfl (q := 888) rfl ?_
                                                refine e_iconst C dL_law_888 ic_3 (q := 889) rfl ?_
                                                refine e_iadd C dL_law_889 (q := 890) rfl ?_
                                                refine e_sld C Z dL_law_890 (q := 891) rfl ?_
                                                refine e_aload_n C dL_law_891 rfl 0 rfl (q := 892) rfl ?_
                                                refine e_iload_n C dL_law_892 rfl 3 rfl (q := 893) rfl ?_
                                                refine e_iconst C dL_law_893 ic_4 (q := 894) rfl ?_
                                                refine e_iadd C dL_law_894 (q := 895) rfl ?_
                                                refine e_sld C Z dL_law_895 (q := 896) rfl ?_
                                                refine e_callVi C (l := l) (k := 56) (av := [.int (xs (x3 + (1 : Int32)).toNatClampNeg), .int (xs (x3 + (2 : Int32)).toNatClampNeg), .int (xs (x3 + (3 : Int32)).toNatClampNeg), .int (xs (x3 + (4 : Int32)).toNatClampNeg)]) (st := [.int v94]) hlau (x_X7_kinds (l := l) (ω := ω) (a1 := xs (x3 + (1 : Int32)).toNatClampNeg) (a2 := xs (x3 + (2 : Int32)).toNatClampNeg) (a3 := xs (x3 + (3 : Int32)).toNatClampNeg) (a4 := xs (x3 + (4 : Int32)).toNatClampNeg) hn (I := J93)) dL_law_896 w_1048 w_1049 w_1050 w_67 w_1051 md_X7_kinds (by decide) (by decide) rfl (ltL hn (Nat.le_of_ble_eq_true rfl)) rfl rfl (Nat.le_of_ble_eq_true rfl) (q := 899) rfl (fun v96 J95 => ?_)
                                                refine e_icmpeq C (tgt := 1438) (q := 902) dL_law_899 rfl rfl ?_ ?_
                                                · refine e_iinc C (v := x3 + (7 : Int32)) (lv1 := [(3, .int (x3 + (7 : Int32))), (0, .ref b), (1, .ref (oA ω 0)), (2, .ref (oA ω 56))]) dL_law_1438 3 rfl (Nat.le_of_ble_eq_true rfl) (by rw [ic_7]) rfl (q := 1441) rfl ?_
                                                  refine e_goto C (tgt := 18) dL_law_1441 rfl ?_
                                                  exact e_lv [1, 2, 3, 0] (lv1 := [(0, .ref b), (1, .ref (oA ω 0)), (2, .ref (oA ω 56)), (3, .int (x3 + (7 : Int32)))]) rfl (ih (x3 + (7 : Int32)) _)
                                                · refine e_iconst C dL_law_902 ic_0 (q := 903) rfl ?_
                                                  exact e_none
                                              · refine e_if (fun h23 => ?_) (fun h23 => ?_)
                                                · refine e_tabIn C (v := 21) (off := 871) (tgt := 904) dL_law_33 (by rw [h23]; rfl) (by decide) rfl rfl ?_
                                                  refine e_aload_n C dL_law_904 rfl 1 rfl (q := 905) rfl ?_
                                                  refine e_aload_n C dL_law_905 rfl 0 rfl (q := 906) rfl ?_
                                                  refine e_iload_n C dL_law_906 rfl 3 rfl (q := 907) rfl ?_
                                                  refine e_iconst C dL_law_907 ic_1 (q := 908) rfl ?_
                                                  refine e_iadd C dL_law_908 (q := 909) rfl ?_
                                                  refine e_sld C Z dL_law_909 (q := 910) rfl ?_
                                                  refine e_aload_n C dL_law_910 rfl 0 rfl (q := 911) rfl ?_
                                                  refine e_iload_n C dL_law_911 rfl 3 rfl (q := 912) rfl ?_
                                                  refine e_iconst C dL_law_912 ic_2 (q := 913) rfl ?_
                                                  refine e_iadd C dL_law_913 (q := 914) rfl ?_
                                                  refine e_sld C Z dL_law_914 (q := 915) rfl ?_
                                                  refine e_aload_n C dL_law_915 rfl 0 rfl (q := 916) rfl ?_
                                                  refine e_iload_n C dL_law_916 rfl 3 rfl (q := 917) rfl ?_
                                                  refine e_iconst C dL_law_917 ic_3 (q := 918) rfl ?_
                                                  refine e_iadd C dL_law_918 (q := 919) rfl ?_
                                                  refine e_sld C Z dL_law_919 (q := 920) rfl ?_
                                                  refine e_aload_n C dL_law_920 rfl 0 rfl (q := 921) rfl ?_
                                                  refine e_iload_n C dL_law_921 rfl 3 rfl (q := 922) rfl ?_
                                                  refine e_iconst C dL_law_922 ic_4 (q := 923) rfl ?_
                                                  refine e_iadd C dL_law_923 (q := 924) rfl ?_
                                                  refine e_sld C Z dL_law_924 (q := 925) rfl ?_
                                                  refine e_callVi C (l := l) (k := 0) (av := [.int (xs (x3 + (1 : Int32)).toNatClampNeg), .int (xs (x3 + (2 : Int32)).toNatClampNeg), .int (xs (x3 + (3 : Int32)).toNatClampNeg), .int (xs (x3 + (4 : Int32)).toNatClampNeg)]) (st := []) hlau (x_X6_states (l := l) (ω := ω) (a1 := xs (x3 + (1 : Int32)).toNatClampNeg) (a2 := xs (x3 + (2 : Int32)).toNatClampNeg) (a3 := xs (x3 + (3 : Int32)).toNatClampNeg) (a4 := xs (x3 + (4 : Int32)).toNatClampNeg) (Nat.le_trans (by decide) hn) (I := I)) dL_law_925 w_623 w_624 w_625 w_56 w_626 md_X6_states (by decide) (by decide) rfl (ltL hn (Nat.le_of_ble_eq_true rfl)) rfl rfl (Nat.le_of_ble_eq_true rfl) (q := 928) rfl (fun v90 J89 => ?_)
                                                  refine e_aload_n C dL_law_928 rfl 2 rfl (q := 929) rfl ?_
                                                  refine e_aload_n C dL_law_929 rfl 0 rfl (q := 930) rfl ?_
                                                  refine e_iload_n C dL_law_930 rfl 3 rfl (q := 931) rfl ?_
                                                  refine e_iconst C dL_law_931 ic_1 (q := 932) rfl ?_
                                                  refine e_iadd C dL_law_932 (q := 933) rfl ?_
                                                  refine e_sld C Z dL_law_933 (q := 934) rfl ?_
                                                  refine e_aload_n C dL_law_934 rfl 0 rfl (q := 935) rfl ?_
                                                  refine e_iload_n C dL_law_935 rfl 3 rfl (q := 936) rfl ?_
                                                  refine e_iconst C dL_law_936 ic_2 (q := 937) rfl ?_
                                                  refine e_iadd C dL_law_937 (q := 938) rfl ?_
                                                  refine e_sld C Z dL_law_938 (q := 939) rfl ?_
                                                  refine e_aload_n C dL_law_939 rfl 0 rfl (q := 940) rfl ?_
                                                  refine e_iload_n C dL_law_940 rfl 3 rfl (q := 941) rfl ?_
                                                  refine e_iconst C dL_law_941 ic_3 (q := 942) rfl ?_
                                                  refine e_iadd C dL_law_942 (q := 943) rfl ?_
                                                  refine e_sld C Z dL_law_943 (q := 944) rfl ?_
                                                  refine e_aload_n C dL_law_944 rfl 0 rfl (q := 945) rfl ?_
                                                  refine e_iload_n C dL_law_945 rfl 3 rfl (q := 946) rfl ?_
                                                  refine e_iconst C dL_law_946 ic_4 (q := 947) rfl ?_
                                                  refine e_iadd C dL_law_947 (q := 948) rfl ?_
                                                  refine e_sld C Z dL_law_948 (q := 949) rfl ?_
                                                  refine e_callVi C (l := l) (k := 56) (av := [.int (xs (x3 + (1 : Int32)).toNatClampNeg), .int (xs (x3 + (2 : Int32)).toNatClampNeg), .int (xs (x3 + (3 : Int32)).toNatClampNeg), .int (xs (x3 + (4 : Int32)).toNatClampNeg)]) (st := [.int v90]) hlau (x_X7_states (l := l) (ω := ω) (a1 := xs (x3 + (1 : Int32)).toNatClampNeg) (a2 := xs (x3 + (2 : Int32)).toNatClampNeg) (a3 := xs (x3 + (3 : Int32)).toNatClampNeg) (a4 := xs (x3 + (4 : Int32)).toNatClampNeg) hn (I := J89)) dL_law_949 w_1052 w_1053 w_1054 w_67 w_1055 md_X7_states (by decide) (by decide) rfl (ltL hn (Nat.le_of_ble_eq_true rfl)) rfl rfl (Nat.le_of_ble_eq_true rfl) (q := 952) rfl (fun v92 J91 => ?_)
                                                  refine e_icmpeq C (tgt := 1438) (q := 955) dL_law_952 rfl rfl ?_ ?_
                                                  · refine e_iinc C (v := x3 + (7 : Int32)) (lv1 := [(3, .int (x3 + (7 : Int32))), (0, .ref b), (1, .ref (oA ω 0)), (2, .ref (oA ω 56))]) dL_law_1438 3 rfl (Nat.le_of_ble_eq_true rfl) (by rw [ic_7]) rfl (q := 1441) rfl ?_
                                                    refine e_goto C (tgt := 18) dL_law_1441 rfl ?_
                                                    exact e_lv [1, 2, 3, 0] (lv1 := [(0, .ref b), (1, .ref (oA ω 0)), (2, .ref (oA ω 56)), (3, .int (x3 + (7 : Int32)))]) rfl (ih (x3 + (7 : Int32)) _)
                                                  · refine e_iconst C dL_law_955 ic_0 (q := 956) rfl ?_
                                                    exact e_none
                                                · refine e_if (fun h24 => ?_) (fun h24 => ?_)
                                                  · refine e_tabIn C (v := 22) (off := 924) (tgt := 957) dL_law_33 (by rw [h24]; rfl) (by decide) rfl rfl ?_
                                                    refine e_aload_n C dL_law_957 rfl 1 rfl (q := 958) rfl ?_
                                                    refine e_aload_n C dL_law_958 rfl 0 rfl (q := 959) rfl ?_
                                                    refine e_iload_n C dL_law_959 rfl 3 rfl (q := 960) rfl ?_
                                                    refine e_iconst C dL_law_960 ic_1 (q := 961) rfl ?_
                                                    refine e_iadd C dL_law_961 (q := 962) rfl ?_
                                                    refine e_sld C Z dL_law_962 (q := 963) rfl ?_
                                                    refine e_aload_n C dL_law_963 rfl 0 rfl (q := 964) rfl ?_
                                                    refine e_iload_n C dL_law_964 rfl 3 rfl (q := 965) rfl ?_
                                                    refine e_iconst C dL_law_965 ic_2 (q := 966) rfl ?_
                                                    refine e_iadd C dL_law_966 (q := 967) rfl ?_
                                                    refine e_sld C Z dL_law_967 (q := 968) rfl ?_
                                                    refine e_callVl C (l := l) (k := 0) (av := [.int (xs (x3 + (1 : Int32)).toNatClampNeg), .int (xs (x3 + (2 : Int32)).toNatClampNeg)]) (st := []) hlau (x_X6_places (l := l) (ω := ω) (a1 := xs (x3 + (1 : Int32)).toNatClampNeg) (a2 := xs (x3 + (2 : Int32)).toNatClampNeg) (Nat.le_trans (by decide) hn) (I := I)) dL_law_968 w_627 w_628 w_629 w_56 w_630 md_X6_places (by decide) (by decide) rfl (ltL hn (Nat.le_of_ble_eq_true rfl)) rfl rfl (Nat.le_of_ble_eq_true rfl) (q := 971) rfl (fun v86 J85 => ?_)
                                                    refine e_aload_n C dL_law_971 rfl 2 rfl (q := 972) rfl ?_
                                                    refine e_aload_n C dL_law_972 rfl 0 rfl (q := 973) rfl ?_
                                                    refine e_iload_n C dL_law_973 rfl 3 rfl (q := 974) rfl ?_
                                                    refine e_iconst C dL_law_974 ic_1 (q := 975) rfl ?_
                                                    refine e_iadd C dL_law_975 (q := 976) rfl ?_
                                                    refine e_sld C Z dL_law_976 (q := 977) rfl ?_
                                                    refine e_aload_n C dL_law_977 rfl 0 rfl (q := 978) rfl ?_
                                                    refine e_iload_n C dL_law_978 rfl 3 rfl (q := 979) rfl ?_
                                                    refine e_iconst C dL_law_979 ic_2 (q := 980) rfl ?_
                                                    refine e_iadd C dL_law_980 (q := 981) rfl ?_
                                                    refine e_sld C Z dL_law_981 (q := 982) rfl ?_
                                                    refine e_callVl C (l := l) (k := 56) (av := [.int (xs (x3 + (1 : Int32)).toNatClampNeg), .int (xs (x3 + (2 : Int32)).toNatClampNeg)]) (st := [.long v86]) hlau (x_X7_places (l := l) (ω := ω) (a1 := xs (x3 + (1 : Int32)).toNatClampNeg) (a2 := xs (x3 + (2 : Int32)).toNatClampNeg) hn (I := J85)) dL_law_982 w_1056 w_1057 w_1058 w_67 w_1059 md_X7_places (by decide) (by decide) rfl (ltL hn (Nat.le_of_ble_eq_true rfl)) rfl rfl (Nat.le_of_ble_eq_true rfl) (q := 985) rfl (fun v88 J87 => ?_)
                                                    refine e_lcmp C dL_law_985 (q := 986) rfl ?_
                                                    refine e_ifeq C (tgt := 1438) (q := 989) dL_law_986 rfl rfl ?_ ?_
                                                    · refine e_iinc C (v := x3 + (7 : Int32)) (lv1 := [(3, .int (x3 + (7 : Int32))), (0, .ref b), (1, .ref (oA ω 0)), (2, .ref (oA ω 56))]) dL_law_1438 3 rfl (Nat.le_of_ble_eq_true rfl) (by rw [ic_7]) rfl (q := 1441) rfl ?_
                                                      refine e_goto C (tgt := 18) dL_law_1441 rfl ?_
                                                      exact e_lv [1, 2, 3, 0] (lv1 := [(0, .ref b), (1, .ref (oA ω 0)), (2, .ref (oA ω 56)), (3, .int (x3 + (7 : Int32)))]) rfl (ih (x3 + (7 : Int32)) _)
                                                    · refine e_iconst C dL_law_989 ic_0 (q := 990) rfl ?_
                                                      exact e_none
                                                  · refine e_if (fun h25 => ?_) (fun h25 => ?_)
                                                    · refine e_tabIn C (v := 23) (off := 958) (tgt := 991) dL_law_33 (by rw [h25]; rfl) (by decide) rfl rfl ?_
                                                      refine e_aload_n C dL_law_991 rfl 1 rfl (q := 992) rfl ?_
                                                      refine e_aload_n C dL_law_992 rfl 0 rfl (q := 993) rfl ?_
                                                      refine e_iload_n C dL_law_993 rfl 3 rfl (q := 994) rfl ?_
                                                      refine e_iconst C dL_law_994 ic_1 (q := 995) rfl ?_
                                                      refine e_iadd C dL_law_995 (q := 996) rfl ?_
                                                      refine e_sld C Z dL_law_996 (q := 997) rfl ?_
                                                      refine e_callVi C (l := l) (k := 0) (av := [.int (xs (x3 + (1 : Int32)).toNatClampNeg)]) (st := []) hlau (x_X6_whose (l := l) (ω := ω) (a1 := xs (x3 + (1 : Int32)).toNatClampNeg) (Nat.le_trans (by decide) hn) (I := I)) dL_law_997 w_631 w_632 w_633 w_56 w_634 md_X6_whose (by decide) (by decide) rfl (ltL hn (Nat.le_of_ble_eq_true rfl)) rfl rfl (Nat.le_of_ble_eq_true rfl) (q := 1000) rfl (fun v82 J81 => ?_)
                                                      refine e_aload_n C dL_law_1000 rfl 2 rfl (q := 1001) rfl ?_
                                                      refine e_aload_n C dL_law_1001 rfl 0 rfl (q := 1002) rfl ?_
                                                      refine e_iload_n C dL_law_1002 rfl 3 rfl (q := 1003) rfl ?_
                                                      refine e_iconst C dL_law_1003 ic_1 (q := 1004) rfl ?_
                                                      refine e_iadd C dL_law_1004 (q := 1005) rfl ?_
                                                      refine e_sld C Z dL_law_1005 (q := 1006) rfl ?_
                                                      refine e_callVi C (l := l) (k := 56) (av := [.int (xs (x3 + (1 : Int32)).toNatClampNeg)]) (st := [.int v82]) hlau (x_X7_whose (l := l) (ω := ω) (a1 := xs (x3 + (1 : Int32)).toNatClampNeg) hn (I := J81)) dL_law_1006 w_1060 w_1061 w_1062 w_67 w_1063 md_X7_whose (by decide) (by decide) rfl (ltL hn (Nat.le_of_ble_eq_true rfl)) rfl rfl (Nat.le_of_ble_eq_true rfl) (q := 1009) rfl (fun v84 J83 => ?_)
                                                      refine e_icmpeq C (tgt := 1438) (q := 1012) dL_law_1009 rfl rfl ?_ ?_
                                                      · refine e_iinc C (v := x3 + (7 : Int32)) (lv1 := [(3, .int (x3 + (7 : Int32))), (0, .ref b), (1, .ref (oA ω 0)), (2, .ref (oA ω 56))]) dL_law_1438 3 rfl (Nat.le_of_ble_eq_true rfl) (by rw [ic_7]) rfl (q := 1441) rfl ?_
                                                        refine e_goto C (tgt := 18) dL_law_1441 rfl ?_
                                                        exact e_lv [1, 2, 3, 0] (lv1 := [(0, .ref b), (1, .ref (oA ω 0)), (2, .ref (oA ω 56)), (3, .int (x3 + (7 : Int32)))]) rfl (ih (x3 + (7 : Int32)) _)
                                                      · refine e_iconst C dL_law_1012 ic_0 (q := 1013) rfl ?_
                                                        exact e_none
                                                    · refine e_if (fun h26 => ?_) (fun h26 => ?_)
                                                      · refine e_tabIn C (v := 24) (off := 981) (tgt := 1014) dL_law_33 (by rw [h26]; rfl) (by decide) rfl rfl ?_
                                                        refine e_aload_n C dL_law_1014 rfl 1 rfl (q := 1015) rfl ?_
                                                        refine e_aload_n C dL_law_1015 rfl 0 rfl (q := 1016) rfl ?_
                                                        refine e_iload_n C dL_law_1016 rfl 3 rfl (q := 1017) rfl ?_
                                                        refine e_iconst C dL_law_1017 ic_1 (q := 1018) rfl ?_
                                                        refine e_iadd C dL_law_1018 (q := 1019) rfl ?_
                                                        refine e_sld C Z dL_law_1019 (q := 1020) rfl ?_
                                                        refine e_aload_n C dL_law_1020 rfl 0 rfl (q := 1021) rfl ?_
                                                        refine e_iload_n C dL_law_1021 rfl 3 rfl (q := 1022) rfl ?_
                                                        refine e_iconst C dL_law_1022 ic_2 (q := 1023) rfl ?_
                                                        refine e_iadd C dL_law_1023 (q := 1024) rfl ?_
                                                        refine e_sld C Z dL_law_1024 (q := 1025) rfl ?_
                                                        refine e_callVi C (l := l) (k := 0) (av := [.int (xs (x3 + (1 : Int32)).toNatClampNeg), .int (xs (x3 + (2 : Int32)).toNatClampNeg)]) (st := []) hlau (x_X6_laws (l := l) (ω := ω) (a1 := xs (x3 + (1 : Int32)).toNatClampNeg) (a2 := xs (x3 + (2 : Int32)).toNatClampNeg) (Nat.le_trans (by decide) hn) (I := I)) dL_law_1025 w_635 w_636 w_637 w_56 w_638 md_X6_laws (by decide) (by decide) rfl (ltL hn (Nat.le_of_ble_eq_true rfl)) rfl rfl (Nat.le_of_ble_eq_true rfl) (q := 1028) rfl (fun v78 J77 => ?_)
                                                        refine e_aload_n C dL_law_1028 rfl 2 rfl (q := 1029) rfl ?_
                                                        refine e_aload_n C dL_law_1029 rfl 0 rfl (q := 1030) rfl ?_
                                                        refine e_iload_n C dL_law_1030 rfl 3 rfl (q := 1031) rfl ?_
                                                        refine e_iconst C dL_law_1031 ic_1 (q := 1032) rfl ?_
                                                        refine e_iadd C dL_law_1032 (q := 1033) rfl ?_
                                                        refine e_sld C Z dL_law_1033 (q := 1034) rfl ?_
                                                        refine e_aload_n C dL_law_1034 rfl 0 rfl (q := 1035) rfl ?_
                                                        refine e_iload_n C dL_law_1035 rfl 3 rfl (q := 1036) rfl ?_
                                                        refine e_iconst C dL_law_1036 ic_2 (q := 1037) rfl ?_
                                                        refine e_iadd C dL_law_1037 (q := 1038) rfl ?_
                                                        refine e_sld C Z dL_law_1038 (q := 1039) rfl ?_
                                                        refine e_callVi C (l := l) (k := 56) (av := [.int (xs (x3 + (1 : Int32)).toNatClampNeg), .int (xs (x3 + (2 : Int32)).toNatClampNeg)]) (st := [.int v78]) hlau (x_X7_laws (l := l) (ω := ω) (a1 := xs (x3 + (1 : Int32)).toNatClampNeg) (a2 := xs (x3 + (2 : Int32)).toNatClampNeg) hn (I := J77)) dL_law_1039 w_1064 w_1065 w_1066 w_67 w_1067 md_X7_laws (by decide) (by decide) rfl (ltL hn (Nat.le_of_ble_eq_true rfl)) rfl rfl (Nat.le_of_ble_eq_true rfl) (q := 1042) rfl (fun v80 J79 => ?_)
                                                        refine e_icmpeq C (tgt := 1438) (q := 1045) dL_law_1042 rfl rfl ?_ ?_
                                                        · refine e_iinc C (v := x3 + (7 : Int32)) (lv1 := [(3, .int (x3 + (7 : Int32))), (0, .ref b), (1, .ref (oA ω 0)), (2, .ref (oA ω 56))]) dL_law_1438 3 rfl (Nat.le_of_ble_eq_true rfl) (by rw [ic_7]) rfl (q := 1441) rfl ?_
                                                          refine e_goto C (tgt := 18) dL_law_1441 rfl ?_
                                                          exact e_lv [1, 2, 3, 0] (lv1 := [(0, .ref b), (1, .ref (oA ω 0)), (2, .ref (oA ω 56)), (3, .int (x3 + (7 : Int32)))]) rfl (ih (x3 + (7 : Int32)) _)
                                                        · refine e_iconst C dL_law_1045 ic_0 (q := 1046) rfl ?_
                                                          exact e_none
                                                      · refine e_if (fun h27 => ?_) (fun h27 => ?_)
                                                        · refine e_tabIn C (v := 25) (off := 1014) (tgt := 1047) dL_law_33 (by rw [h27]; rfl) (by decide) rfl rfl ?_
                                                          refine e_aload_n C dL_law_1047 rfl 1 rfl (q := 1048) rfl ?_
                                                          refine e_aload_n C dL_law_1048 rfl 0 rfl (q := 1049) rfl ?_
                                                          refine e_iload_n C dL_law_1049 rfl 3 rfl (q := 1050) rfl ?_
                                                          refine e_iconst C dL_law_1050 ic_1 (q := 1051) rfl ?_
                                                          refine e_iadd C dL_law_1051 (q := 1052) rfl ?_
                                                          refine e_sld C Z dL_law_1052 (q := 1053) rfl ?_
                                                          refine e_aload_n C dL_law_1053 rfl 0 rfl (q := 1054) rfl ?_
                                                          refine e_iload_n C dL_law_1054 rfl 3 rfl (q := 1055) rfl ?_
                                                          refine e_iconst C dL_law_1055 ic_2 (q := 1056) rfl ?_
                                                          refine e_iadd C dL_law_1056 (q := 1057) rfl ?_
                                                          refine e_sld C Z dL_law_1057 (q := 1058) rfl ?_
                                                          refine e_aload_n C dL_law_1058 rfl 0 rfl (q := 1059) rfl ?_
                                                          refine e_iload_n C dL_law_1059 rfl 3 rfl (q := 1060) rfl ?_
                                                          refine e_iconst C dL_law_1060 ic_3 (q := 1061) rfl ?_
                                                          refine e_iadd C dL_law_1061 (q := 1062) rfl ?_
                                                          refine e_sld C Z dL_law_1062 (q := 1063) rfl ?_
                                                          refine e_callVi C (l := l) (k := 0) (av := [.int (xs (x3 + (1 : Int32)).toNatClampNeg), .int (xs (x3 + (2 : Int32)).toNatClampNeg), .int (xs (x3 + (3 : Int32)).toNatClampNeg)]) (st := []) hlau (x_X6_film (l := l) (ω := ω) (a1 := xs (x3 + (1 : Int32)).toNatClampNeg) (a2 := xs (x3 + (2 : Int32)).toNatClampNeg) (a3 := xs (x3 + (3 : Int32)).toNatClampNeg) (Nat.le_trans (by decide) hn) (I := I)) dL_law_1063 w_639 w_640 w_641 w_56 w_642 md_X6_film (by decide) (by decide) rfl (ltL hn (Nat.le_of_ble_eq_true rfl)) rfl rfl (Nat.le_of_ble_eq_true rfl) (q := 1066) rfl (fun v74 J73 => ?_)
                                                          refine e_aload_n C dL_law_1066 rfl 2 rfl (q := 1067) rfl ?_
                                                          refine e_aload_n C dL_law_1067 rfl 0 rfl (q := 1068) rfl ?_
                                                          refine e_iload_n C dL_law_1068 rfl 3 rfl (q := 1069) rfl ?_
                                                          refine e_iconst C dL_law_1069 ic_1 (q := 1070) rfl ?_
                                                          refine e_iadd C dL_law_1070 (q := 1071) rfl ?_
                                                          refine e_sld C Z dL_law_1071 (q := 1072) rfl ?_
                                                          refine e_aload_n C dL_law_1072 rfl 0 rfl (q := 1073) rfl ?_
                                                          refine e_iload_n C dL_law_1073 rfl 3 rfl (q := 1074) rfl ?_
                                                          refine e_iconst C dL_law_1074 ic_2 (q := 1075) rfl ?_
                                                          refine e_iadd C dL_law_1075 (q := 1076) rfl ?_
                                                          refine e_sld C Z dL_law_1076 (q := 1077) rfl ?_
                                                          refine e_aload_n C dL_law_1077 rfl 0 rfl (q := 1078) rfl ?_
                                                          refine e_iload_n C dL_law_1078 rfl 3 rfl (q := 1079) rfl ?_
                                                          refine e_iconst C dL_law_1079 ic_3 (q := 1080) rfl ?_
                                                          refine e_iadd C dL_law_1080 (q := 1081) rfl ?_
                                                          refine e_sld C Z dL_law_1081 (q := 1082) rfl ?_
                                                          refine e_callVi C (l := l) (k := 56) (av := [.int (xs (x3 + (1 : Int32)).toNatClampNeg), .int (xs (x3 + (2 : Int32)).toNatClampNeg), .int (xs (x3 + (3 : Int32)).toNatClampNeg)]) (st := [.int v74]) hlau (x_X7_film (l := l) (ω := ω) (a1 := xs (x3 + (1 : Int32)).toNatClampNeg) (a2 := xs (x3 + (2 : Int32)).toNatClampNeg) (a3 := xs (x3 + (3 : Int32)).toNatClampNeg) hn (I := J73)) dL_law_1082 w_1068 w_1069 w_1070 w_67 w_1071 md_X7_film (by decide) (by decide) rfl (ltL hn (Nat.le_of_ble_eq_true rfl)) rfl rfl (Nat.le_of_ble_eq_true rfl) (q := 1085) rfl (fun v76 J75 => ?_)
                                                          refine e_icmpeq C (tgt := 1438) (q := 1088) dL_law_1085 rfl rfl ?_ ?_
                                                          · refine e_iinc C (v := x3 + (7 : Int32)) (lv1 := [(3, .int (x3 + (7 : Int32))), (0, .ref b), (1, .ref (oA ω 0)), (2, .ref (oA ω 56))]) dL_law_1438 3 rfl (Nat.le_of_ble_eq_true rfl) (by rw [ic_7]) rfl (q := 1441) rfl ?_
                                                            refine e_goto C (tgt := 18) dL_law_1441 rfl ?_
                                                            exact e_lv [1, 2, 3, 0] (lv1 := [(0, .ref b), (1, .ref (oA ω 0)), (2, .ref (oA ω 56)), (3, .int (x3 + (7 : Int32)))]) rfl (ih (x3 + (7 : Int32)) _)
                                                          · refine e_iconst C dL_law_1088 ic_0 (q := 1089) rfl ?_
                                                            exact e_none
                                                        · refine e_if (fun h28 => ?_) (fun h28 => ?_)
                                                          · refine e_tabIn C (v := 26) (off := 1057) (tgt := 1090) dL_law_33 (by rw [h28]; rfl) (by decide) rfl rfl ?_
                                                            refine e_aload_n C dL_law_1090 rfl 1 rfl (q := 1091) rfl ?_
                                                            refine e_aload_n C dL_law_1091 rfl 0 rfl (q := 1092) rfl ?_
                                                            refine e_iload_n C dL_law_1092 rfl 3 rfl (q := 1093) rfl ?_
                                                            refine e_iconst C dL_law_1093 ic_1 (q := 1094) rfl ?_
                                                            refine e_iadd C dL_law_1094 (q := 1095) rfl ?_
                                                            refine e_sld C Z dL_law_1095 (q := 1096) rfl ?_
                                                            refine e_aload_n C dL_law_1096 rfl 0 rfl (q := 1097) rfl ?_
                                                            refine e_iload_n C dL_law_1097 rfl 3 rfl (q := 1098) rfl ?_
                                                            refine e_iconst C dL_law_1098 ic_2 (q := 1099) rfl ?_
                                                            refine e_iadd C dL_law_1099 (q := 1100) rfl ?_
                                                            refine e_sld C Z dL_law_1100 (q := 1101) rfl ?_
                                                            refine e_callVi C (l := l) (k := 0) (av := [.int (xs (x3 + (1 : Int32)).toNatClampNeg), .int (xs (x3 + (2 : Int32)).toNatClampNeg)]) (st := []) hlau (x_X6_drawn (l := l) (ω := ω) (a1 := xs (x3 + (1 : Int32)).toNatClampNeg) (a2 := xs (x3 + (2 : Int32)).toNatClampNeg) (Nat.le_trans (by decide) hn) (I := I)) dL_law_1101 w_650 w_651 w_652 w_56 w_653 md_X6_drawn (by decide) (by decide) rfl (ltL hn (Nat.le_of_ble_eq_true rfl)) rfl rfl (Nat.le_of_ble_eq_true rfl) (q := 1104) rfl (fun v70 J69 => ?_)
                                                            refine e_aload_n C dL_law_1104 rfl 2 rfl (q := 1105) rfl ?_
                                                            refine e_aload_n C dL_law_1105 rfl 0 rfl (q := 1106) rfl ?_
                                                            refine e_iload_n C dL_law_1106 rfl 3 rfl (q := 1107) rfl ?_
                                                            refine e_iconst C dL_law_1107 ic_1 (q := 1108) rfl ?_
                                                            refine e_iadd C dL_law_1108 (q := 1109) rfl ?_
                                                            refine e_sld C Z dL_law_1109 (q := 1110) rfl ?_
                                                            refine e_aload_n C dL_law_1110 rfl 0 rfl (q := 1111) rfl ?_
                                                            refine e_iload_n C dL_law_1111 rfl 3 rfl (q := 1112) rfl ?_
                                                            refine e_iconst C dL_law_1112 ic_2 (q := 1113) rfl ?_
                                                            refine e_iadd C dL_law_1113 (q := 1114) rfl ?_
                                                            refine e_sld C Z dL_law_1114 (q := 1115) rfl ?_
                                                            refine e_callVi C (l := l) (k := 56) (av := [.int (xs (x3 + (1 : Int32)).toNatClampNeg), .int (xs (x3 + (2 : Int32)).toNatClampNeg)]) (st := [.int v70]) hlau (x_X7_drawn (l := l) (ω := ω) (a1 := xs (x3 + (1 : Int32)).toNatClampNeg) (a2 := xs (x3 + (2 : Int32)).toNatClampNeg) hn (I := J69)) dL_law_1115 w_1072 w_1073 w_1074 w_67 w_1075 md_X7_drawn (by decide) (by decide) rfl (ltL hn (Nat.le_of_ble_eq_true rfl)) rfl rfl (Nat.le_of_ble_eq_true rfl) (q := 1118) rfl (fun v72 J71 => ?_)
                                                            refine e_icmpeq C (tgt := 1438) (q := 1121) dL_law_1118 rfl rfl ?_ ?_
                                                            · refine e_iinc C (v := x3 + (7 : Int32)) (lv1 := [(3, .int (x3 + (7 : Int32))), (0, .ref b), (1, .ref (oA ω 0)), (2, .ref (oA ω 56))]) dL_law_1438 3 rfl (Nat.le_of_ble_eq_true rfl) (by rw [ic_7]) rfl (q := 1441) rfl ?_
                                                              refine e_goto C (tgt := 18) dL_law_1441 rfl ?_
                                                              exact e_lv [1, 2, 3, 0] (lv1 := [(0, .ref b), (1, .ref (oA ω 0)), (2, .ref (oA ω 56)), (3, .int (x3 + (7 : Int32)))]) rfl (ih (x3 + (7 : Int32)) _)
                                                            · refine e_iconst C dL_law_1121 ic_0 (q := 1122) rfl ?_
                                                              exact e_none
                                                          · refine e_if (fun h29 => ?_) (fun h29 => ?_)
                                                            · refine e_tabIn C (v := 27) (off := 1090) (tgt := 1123) dL_law_33 (by rw [h29]; rfl) (by decide) rfl rfl ?_
                                                              refine e_aload_n C dL_law_1123 rfl 1 rfl (q := 1124) rfl ?_
                                                              refine e_aload_n C dL_law_1124 rfl 0 rfl (q := 1125) rfl ?_
                                                              refine e_iload_n C dL_law_1125 rfl 3 rfl (q := 1126) rfl ?_
                                                              refine e_iconst C dL_law_1126 ic_1 (q := 1127) rfl ?_
                                                              refine e_iadd C dL_law_1127 (q := 1128) rfl ?_
                                                              refine e_sld C Z dL_law_1128 (q := 1129) rfl ?_
                                                              refine e_aload_n C dL_law_1129 rfl 0 rfl (q := 1130) rfl ?_
                                                              refine e_iload_n C dL_law_1130 rfl 3 rfl (q := 1131) rfl ?_
                                                              refine e_iconst C dL_law_1131 ic_2 (q := 1132) rfl ?_
                                                              refine e_iadd C dL_law_1132 (q := 1133) rfl ?_
                                                              refine e_sld C Z dL_law_1133 (q := 1134) rfl ?_
                                                              refine e_aload_n C dL_law_1134 rfl 0 rfl (q := 1135) rfl ?_
                                                              refine e_iload_n C dL_law_1135 rfl 3 rfl (q := 1136) rfl ?_
                                                              refine e_iconst C dL_law_1136 ic_3 (q := 1137) rfl ?_
                                                              refine e_iadd C dL_law_1137 (q := 1138) rfl ?_
                                                              refine e_sld C Z dL_law_1138 (q := 1139) rfl ?_
                                                              refine e_aload_n C dL_law_1139 rfl 0 rfl (q := 1140) rfl ?_
                                                              refine e_iload_n C dL_law_1140 rfl 3 rfl (q := 1141) rfl ?_
                                                              refine e_iconst C dL_law_1141 ic_4 (q := 1142) rfl ?_
                                                              refine e_iadd C dL_law_1142 (q := 1143) rfl ?_
                                                              refine e_sld C Z dL_law_1143 (q := 1144) rfl ?_
                                                              refine e_callVl C (l := l) (k := 0) (av := [.int (xs (x3 + (1 : Int32)).toNatClampNeg), .int (xs (x3 + (2 : Int32)).toNatClampNeg), .int (xs (x3 + (3 : Int32)).toNatClampNeg), .int (xs (x3 + (4 : Int32)).toNatClampNeg)]) (st := []) hlau (x_X6_odds (l := l) (ω := ω) (a1 := xs (x3 + (1 : Int32)).toNatClampNeg) (a2 := xs (x3 + (2 : Int32)).toNatClampNeg) (a3 := xs (x3 + (3 : Int32)).toNatClampNeg) (a4 := xs (x3 + (4 : Int32)).toNatClampNeg) (Nat.le_trans (by decide) hn) (I := I)) dL_law_1144 w_662 w_663 w_664 w_56 w_665 md_X6_odds (by decide) (by decide) rfl (ltL hn (Nat.le_of_ble_eq_true rfl)) rfl rfl (Nat.le_of_ble_eq_true rfl) (q := 1147) rfl (fun v66 J65 => ?_)
                                                              refine e_aload_n C dL_law_1147 rfl 2 rfl (q := 1148) rfl ?_
                                                              refine e_aload_n C dL_law_1148 rfl 0 rfl (q := 1149) rfl ?_
                                                              refine e_iload_n C dL_law_1149 rfl 3 rfl (q := 1150) rfl ?_
                                                              refine e_iconst C dL_law_1150 ic_1 (q := 1151) rfl ?_
                                                              refine e_iadd C dL_law_1151 (q := 1152) rfl ?_
                                                              refine e_sld C Z dL_law_1152 (q := 1153) rfl ?_
                                                              refine e_aload_n C dL_law_1153 rfl 0 rfl (q := 1154) rfl ?_
                                                              refine e_iload_n C dL_law_1154 rfl 3 rfl (q := 1155) rfl ?_
                                                              refine e_iconst C dL_law_1155 ic_2 (q := 1156) rfl ?_
                                                              refine e_iadd C dL_law_1156 (q := 1157) rfl ?_
                                                              refine e_sld C Z dL_law_1157 (q := 1158) rfl ?_
                                                              refine e_aload_n C dL_law_1158 rfl 0 rfl (q := 1159) rfl ?_
                                                              refine e_iload_n C dL_law_1159 rfl 3 rfl (q := 1160) rfl ?_
                                                              refine e_iconst C dL_law_1160 ic_3 (q := 1161) rfl ?_
                                                              refine e_iadd C dL_law_1161 (q := 1162) rfl ?_
                                                              refine e_sld C Z dL_law_1162 (q := 1163) rfl ?_
                                                              refine e_aload_n C dL_law_1163 rfl 0 rfl (q := 1164) rfl ?_
                                                              refine e_iload_n C dL_law_1164 rfl 3 rfl (q := 1165) rfl ?_
                                                              refine e_iconst C dL_law_1165 ic_4 (q := 1166) rfl ?_
                                                              refine e_iadd C dL_law_1166 (q := 1167) rfl ?_
                                                              refine e_sld C Z dL_law_1167 (q := 1168) rfl ?_
                                                              refine e_callVl C (l := l) (k := 56) (av := [.int (xs (x3 + (1 : Int32)).toNatClampNeg), .int (xs (x3 + (2 : Int32)).toNatClampNeg), .int (xs (x3 + (3 : Int32)).toNatClampNeg), .int (xs (x3 + (4 : Int32)).toNatClampNeg)]) (st := [.long v66]) hlau (x_X7_odds (l := l) (ω := ω) (a1 := xs (x3 + (1 : Int32)).toNatClampNeg) (a2 := xs (x3 + (2 : Int32)).toNatClampNeg) (a3 := xs (x3 + (3 : Int32)).toNatClampNeg) (a4 := xs (x3 + (4 : Int32)).toNatClampNeg) hn (I := J65)) dL_law_1168 w_1084 w_1085 w_1086 w_67 w_1087 md_X7_odds (by decide) (by decide) rfl (ltL hn (Nat.le_of_ble_eq_true rfl)) rfl rfl (Nat.le_of_ble_eq_true rfl) (q := 1171) rfl (fun v68 J67 => ?_)
                                                              refine e_lcmp C dL_law_1171 (q := 1172) rfl ?_
                                                              refine e_ifeq C (tgt := 1438) (q := 1175) dL_law_1172 rfl rfl ?_ ?_
                                                              · refine e_iinc C (v := x3 + (7 : Int32)) (lv1 := [(3, .int (x3 + (7 : Int32))), (0, .ref b), (1, .ref (oA ω 0)), (2, .ref (oA ω 56))]) dL_law_1438 3 rfl (Nat.le_of_ble_eq_true rfl) (by rw [ic_7]) rfl (q := 1441) rfl ?_
                                                                refine e_goto C (tgt := 18) dL_law_1441 rfl ?_
                                                                exact e_lv [1, 2, 3, 0] (lv1 := [(0, .ref b), (1, .ref (oA ω 0)), (2, .ref (oA ω 56)), (3, .int (x3 + (7 : Int32)))]) rfl (ih (x3 + (7 : Int32)) _)
                                                              · refine e_iconst C dL_law_1175 ic_0 (q := 1176) rfl ?_
                                                                exact e_none
                                                            · refine e_if (fun h30 => ?_) (fun h30 => ?_)
                                                              · refine e_tabIn C (v := 28) (off := 1144) (tgt := 1177) dL_law_33 (by rw [h30]; rfl) (by decide) rfl rfl ?_
                                                                refine e_aload_n C dL_law_1177 rfl 1 rfl (q := 1178) rfl ?_
                                                                refine e_callVi C (l := l) (k := 0) (av := []) (st := []) hlau (x_X6_image (l := l) (ω := ω) (Nat.le_trans (by decide) hn) (I := I)) dL_law_1178 w_666 w_667 w_668 w_56 w_669 md_X6_image (by decide) (by decide) rfl (ltL hn (Nat.le_of_ble_eq_true rfl)) rfl rfl (Nat.le_of_ble_eq_true rfl) (q := 1181) rfl (fun v62 J61 => ?_)
                                                                refine e_aload_n C dL_law_1181 rfl 2 rfl (q := 1182) rfl ?_
                                                                refine e_callVi C (l := l) (k := 56) (av := []) (st := [.int v62]) hlau (x_X7_image (l := l) (ω := ω) hn (I := J61)) dL_law_1182 w_1088 w_1089 w_1090 w_67 w_1091 md_X7_image (by decide) (by decide) rfl (ltL hn (Nat.le_of_ble_eq_true rfl)) rfl rfl (Nat.le_of_ble_eq_true rfl) (q := 1185) rfl (fun v64 J63 => ?_)
                                                                refine e_icmpeq C (tgt := 1438) (q := 1188) dL_law_1185 rfl rfl ?_ ?_
                                                                · refine e_iinc C (v := x3 + (7 : Int32)) (lv1 := [(3, .int (x3 + (7 : Int32))), (0, .ref b), (1, .ref (oA ω 0)), (2, .ref (oA ω 56))]) dL_law_1438 3 rfl (Nat.le_of_ble_eq_true rfl) (by rw [ic_7]) rfl (q := 1441) rfl ?_
                                                                  refine e_goto C (tgt := 18) dL_law_1441 rfl ?_
                                                                  exact e_lv [1, 2, 3, 0] (lv1 := [(0, .ref b), (1, .ref (oA ω 0)), (2, .ref (oA ω 56)), (3, .int (x3 + (7 : Int32)))]) rfl (ih (x3 + (7 : Int32)) _)
                                                                · refine e_iconst C dL_law_1188 ic_0 (q := 1189) rfl ?_
                                                                  exact e_none
                                                              · refine e_if (fun h31 => ?_) (fun h31 => ?_)
                                                                · refine e_tabIn C (v := 29) (off := 1157) (tgt := 1190) dL_law_33 (by rw [h31]; rfl) (by decide) rfl rfl ?_
                                                                  refine e_aload_n C dL_law_1190 rfl 1 rfl (q := 1191) rfl ?_
                                                                  refine e_callVi C (l := l) (k := 0) (av := []) (st := []) hlau (x_X6_back (l := l) (ω := ω) (Nat.le_trans (by decide) hn) (I := I)) dL_law_1191 w_670 w_671 w_672 w_56 w_673 md_X6_back (by decide) (by decide) rfl (ltL hn (Nat.le_of_ble_eq_true rfl)) rfl rfl (Nat.le_of_ble_eq_true rfl) (q := 1194) rfl (fun v58 J57 => ?_)
                                                                  refine e_aload_n C dL_law_1194 rfl 2 rfl (q := 1195) rfl ?_
                                                                  refine e_callVi C (l := l) (k := 56) (av := []) (st := [.int v58]) hlau (x_X7_back (l := l) (ω := ω) hn (I := J57)) dL_law_1195 w_1092 w_1093 w_1094 w_67 w_1095 md_X7_back (by decide) (by decide) rfl (ltL hn (Nat.le_of_ble_eq_true rfl)) rfl rfl (Nat.le_of_ble_eq_true rfl) (q := 1198) rfl (fun v60 J59 => ?_)
                                                                  refine e_icmpeq C (tgt := 1438) (q := 1201) dL_law_1198 rfl rfl ?_ ?_
                                                                  · refine e_iinc C (v := x3 + (7 : Int32)) (lv1 := [(3, .int (x3 + (7 : Int32))), (0, .ref b), (1, .ref (oA ω 0)), (2, .ref (oA ω 56))]) dL_law_1438 3 rfl (Nat.le_of_ble_eq_true rfl) (by rw [ic_7]) rfl (q := 1441) rfl ?_
                                                                    refine e_goto C (tgt := 18) dL_law_1441 rfl ?_
                                                                    exact e_lv [1, 2, 3, 0] (lv1 := [(0, .ref b), (1, .ref (oA ω 0)), (2, .ref (oA ω 56)), (3, .int (x3 + (7 : Int32)))]) rfl (ih (x3 + (7 : Int32)) _)
                                                                  · refine e_iconst C dL_law_1201 ic_0 (q := 1202) rfl ?_
                                                                    exact e_none
                                                                · refine e_if (fun h32 => ?_) (fun h32 => ?_)
                                                                  · refine e_tabIn C (v := 30) (off := 1170) (tgt := 1203) dL_law_33 (by rw [h32]; rfl) (by decide) rfl rfl ?_
                                                                    refine e_aload_n C dL_law_1203 rfl 1 rfl (q := 1204) rfl ?_
                                                                    refine e_aload_n C dL_law_1204 rfl 0 rfl (q := 1205) rfl ?_
                                                                    refine e_iload_n C dL_law_1205 rfl 3 rfl (q := 1206) rfl ?_
                                                                    refine e_iconst C dL_law_1206 ic_1 (q := 1207) rfl ?_
                                                                    refine e_iadd C dL_law_1207 (q := 1208) rfl ?_
                                                                    refine e_sld C Z dL_law_1208 (q := 1209) rfl ?_
                                                                    refine e_aload_n C dL_law_1209 rfl 0 rfl (q := 1210) rfl ?_
                                                                    refine e_iload_n C dL_law_1210 rfl 3 rfl (q := 1211) rfl ?_
                                                                    refine e_iconst C dL_law_1211 ic_2 (q := 1212) rfl ?_
                                                                    refine e_iadd C dL_law_1212 (q := 1213) rfl ?_
                                                                    refine e_sld C Z dL_law_1213 (q := 1214) rfl ?_
                                                                    refine e_aload_n C dL_law_1214 rfl 0 rfl (q := 1215) rfl ?_
                                                                    refine e_iload_n C dL_law_1215 rfl 3 rfl (q := 1216) rfl ?_
                                                                    refine e_iconst C dL_law_1216 ic_3 (q := 1217) rfl ?_
                                                                    refine e_iadd C dL_law_1217 (q := 1218) rfl ?_
                                                                    refine e_sld C Z dL_law_1218 (q := 1219) rfl ?_
                                                                    refine e_callVi C (l := l) (k := 0) (av := [.int (xs (x3 + (1 : Int32)).toNatClampNeg), .int (xs (x3 + (2 : Int32)).toNatClampNeg), .int (xs (x3 + (3 : Int32)).toNatClampNeg)]) (st := []) hlau (x_X6_sheet (l := l) (ω := ω) (a1 := xs (x3 + (1 : Int32)).toNatClampNeg) (a2 := xs (x3 + (2 : Int32)).toNatClampNeg) (a3 := xs (x3 + (3 : Int32)).toNatClampNeg) (Nat.le_trans (by decide) hn) (I := I)) dL_law_1219 w_674 w_675 w_676 w_56 w_677 md_X6_sheet (by decide) (by decide) rfl (ltL hn (Nat.le_of_ble_eq_true rfl)) rfl rfl (Nat.le_of_ble_eq_true rfl) (q := 1222) rfl (fun v54 J53 => ?_)
                                                                    refine e_aload_n C dL_law_1222 rfl 2 rfl (q := 1223) rfl ?_
                                                                    refine e_aload_n C dL_law_1223 rfl 0 rfl (q := 1224) rfl ?_
                                                                    refine e_iload_n C dL_law_1224 rfl 3 rfl (q := 1225) rfl ?_
                                                                    refine e_iconst C dL_law_1225 ic_1 (q := 1226) rfl ?_
                                                                    refine e_iadd C dL_law_1226 (q := 1227) rfl ?_
                                                                    refine e_sld C Z dL_law_1227 (q := 1228) rfl ?_
                                                                    refine e_aload_n C dL_law_1228 rfl 0 rfl (q := 1229) rfl ?_
                                                                    refine e_iload_n C dL_law_1229 rfl 3 rfl (q := 1230) rfl ?_
                                                                    refine e_iconst C dL_law_1230 ic_2 (q := 1231) rfl ?_
                                                                    refine e_iadd C dL_law_1231 (q := 1232) rfl ?_
                                                                    refine e_sld C Z dL_law_1232 (q := 1233) rfl ?_
                                                                    refine e_aload_n C dL_law_1233 rfl 0 rfl (q := 1234) rfl ?_
                                                                    refine e_iload_n C dL_law_1234 rfl 3 rfl (q := 1235) rfl ?_
                                                                    refine e_iconst C dL_law_1235 ic_3 (q := 1236) rfl ?_
                                                                    refine e_iadd C dL_law_1236 (q := 1237) rfl ?_
                                                                    refine e_sld C Z dL_law_1237 (q := 1238) rfl ?_
                                                                    refine e_callVi C (l := l) (k := 56) (av := [.int (xs (x3 + (1 : Int32)).toNatClampNeg), .int (xs (x3 + (2 : Int32)).toNatClampNeg), .int (xs (x3 + (3 : Int32)).toNatClampNeg)]) (st := [.int v54]) hlau (x_X7_sheet (l := l) (ω := ω) (a1 := xs (x3 + (1 : Int32)).toNatClampNeg) (a2 := xs (x3 + (2 : Int32)).toNatClampNeg) (a3 := xs (x3 + (3 : Int32)).toNatClampNeg) hn (I := J53)) dL_law_1238 w_1096 w_1097 w_1098 w_67 w_1099 md_X7_sheet (by decide) (by decide) rfl (ltL hn (Nat.le_of_ble_eq_true rfl)) rfl rfl (Nat.le_of_ble_eq_true rfl) (q := 1241) rfl (fun v56 J55 => ?_)
                                                                    refine e_icmpeq C (tgt := 1438) (q := 1244) dL_law_1241 rfl rfl ?_ ?_
                                                                    · refine e_iinc C (v := x3 + (7 : Int32)) (lv1 := [(3, .int (x3 + (7 : Int32))), (0, .ref b), (1, .ref (oA ω 0)), (2, .ref (oA ω 56))]) dL_law_1438 3 rfl (Nat.le_of_ble_eq_true rfl) (by rw [ic_7]) rfl (q := 1441) rfl ?_
                                                                      refine e_goto C (tgt := 18) dL_law_1441 rfl ?_
                                                                      exact e_lv [1, 2, 3, 0] (lv1 := [(0, .ref b), (1, .ref (oA ω 0)), (2, .ref (oA ω 56)), (3, .int (x3 + (7 : Int32)))]) rfl (ih (x3 + (7 : Int32)) _)
                                                                    · refine e_iconst C dL_law_1244 ic_0 (q := 1245) rfl ?_
                                                                      exact e_none
                                                                  · refine e_if (fun h33 => ?_) (fun h33 => ?_)
                                                                    · refine e_tabIn C (v := 31) (off := 1213) (tgt := 1246) dL_law_33 (by rw [h33]; rfl) (by decide) rfl rfl ?_
                                                                      refine e_aload_n C dL_law_1246 rfl 1 rfl (q := 1247) rfl ?_
                                                                      refine e_aload_n C dL_law_1247 rfl 0 rfl (q := 1248) rfl ?_
                                                                      refine e_iload_n C dL_law_1248 rfl 3 rfl (q := 1249) rfl ?_
                                                                      refine e_iconst C dL_law_1249 ic_1 (q := 1250) rfl ?_
                                                                      refine e_iadd C dL_law_1250 (q := 1251) rfl ?_
                                                                      refine e_sld C Z dL_law_1251 (q := 1252) rfl ?_
                                                                      refine e_aload_n C dL_law_1252 rfl 0 rfl (q := 1253) rfl ?_
                                                                      refine e_iload_n C dL_law_1253 rfl 3 rfl (q := 1254) rfl ?_
                                                                      refine e_iconst C dL_law_1254 ic_2 (q := 1255) rfl ?_
                                                                      refine e_iadd C dL_law_1255 (q := 1256) rfl ?_
                                                                      refine e_sld C Z dL_law_1256 (q := 1257) rfl ?_
                                                                      refine e_aload_n C dL_law_1257 rfl 0 rfl (q := 1258) rfl ?_
                                                                      refine e_iload_n C dL_law_1258 rfl 3 rfl (q := 1259) rfl ?_
                                                                      refine e_iconst C dL_law_1259 ic_3 (q := 1260) rfl ?_
                                                                      refine e_iadd C dL_law_1260 (q := 1261) rfl ?_
                                                                      refine e_sld C Z dL_law_1261 (q := 1262) rfl ?_
                                                                      refine e_callVi C (l := l) (k := 0) (av := [.int (xs (x3 + (1 : Int32)).toNatClampNeg), .int (xs (x3 + (2 : Int32)).toNatClampNeg), .int (xs (x3 + (3 : Int32)).toNatClampNeg)]) (st := []) hlau (x_X6_cell (l := l) (ω := ω) (a1 := xs (x3 + (1 : Int32)).toNatClampNeg) (a2 := xs (x3 + (2 : Int32)).toNatClampNeg) (a3 := xs (x3 + (3 : Int32)).toNatClampNeg) (Nat.le_trans (by decide) hn) (I := I)) dL_law_1262 w_681 w_682 w_683 w_56 w_684 md_X6_cell (by decide) (by decide) rfl (ltL hn (Nat.le_of_ble_eq_true rfl)) rfl rfl (Nat.le_of_ble_eq_true rfl) (q := 1265) rfl (fun v50 J49 => ?_)
                                                                      refine e_aload_n C dL_law_1265 rfl 2 rfl (q := 1266) rfl ?_
                                                                      refine e_aload_n C dL_law_1266 rfl 0 rfl (q := 1267) rfl ?_
                                                                      refine e_iload_n C dL_law_1267 rfl 3 rfl (q := 1268) rfl ?_
                                                                      refine e_iconst C dL_law_1268 ic_1 (q := 1269) rfl ?_
                                                                      refine e_iadd C dL_law_1269 (q := 1270) rfl ?_
                                                                      refine e_sld C Z dL_law_1270 (q := 1271) rfl ?_
                                                                      refine e_aload_n C dL_law_1271 rfl 0 rfl (q := 1272) rfl ?_
                                                                      refine e_iload_n C dL_law_1272 rfl 3 rfl (q := 1273) rfl ?_
                                                                      refine e_iconst C dL_law_1273 ic_2 (q := 1274) rfl ?_
                                                                      refine e_iadd C dL_law_1274 (q := 1275) rfl ?_
                                                                      refine e_sld C Z dL_law_1275 (q := 1276) rfl ?_
                                                                      refine e_aload_n C dL_law_1276 rfl 0 rfl (q := 1277) rfl ?_
                                                                      refine e_iload_n C dL_law_1277 rfl 3 rfl (q := 1278) rfl ?_
                                                                      refine e_iconst C dL_law_1278 ic_3 (q := 1279) rfl ?_
                                                                      refine e_iadd C dL_law_1279 (q := 1280) rfl ?_
                                                                      refine e_sld C Z dL_law_1280 (q := 1281) rfl ?_
                                                                      refine e_callVi C (l := l) (k := 56) (av := [.int (xs (x3 + (1 : Int32)).toNatClampNeg), .int (xs (x3 + (2 : Int32)).toNatClampNeg), .int (xs (x3 + (3 : Int32)).toNatClampNeg)]) (st := [.int v50]) hlau (x_X7_cell (l := l) (ω := ω) (a1 := xs (x3 + (1 : Int32)).toNatClampNeg) (a2 := xs (x3 + (2 : Int32)).toNatClampNeg) (a3 := xs (x3 + (3 : Int32)).toNatClampNeg) hn (I := J49)) dL_law_1281 w_1100 w_1101 w_1102 w_67 w_1103 md_X7_cell (by decide) (by decide) rfl (ltL hn (Nat.le_of_ble_eq_true rfl)) rfl rfl (Nat.le_of_ble_eq_true rfl) (q := 1284) rfl (fun v52 J51 => ?_)
                                                                      refine e_icmpeq C (tgt := 1438) (q := 1287) dL_law_1284 rfl rfl ?_ ?_
                                                                      · refine e_iinc C (v := x3 + (7 : Int32)) (lv1 := [(3, .int (x3 + (7 : Int32))), (0, .ref b), (1, .ref (oA ω 0)), (2, .ref (oA ω 56))]) dL_law_1438 3 rfl (Nat.le_of_ble_eq_true rfl) (by rw [ic_7]) rfl (q := 1441) rfl ?_
                                                                        refine e_goto C (tgt := 18) dL_law_1441 rfl ?_
                                                                        exact e_lv [1, 2, 3, 0] (lv1 := [(0, .ref b), (1, .ref (oA ω 0)), (2, .ref (oA ω 56)), (3, .int (x3 + (7 : Int32)))]) rfl (ih (x3 + (7 : Int32)) _)
                                                                      · refine e_iconst C dL_law_1287 ic_0 (q := 1288) rfl ?_
                                                                        exact e_none
                                                                    · refine e_if (fun h34 => ?_) (fun h34 => ?_)
                                                                      · refine e_tabIn C (v := 32) (off := 1256) (tgt := 1289) dL_law_33 (by rw [h34]; rfl) (by decide) rfl rfl ?_
                                                                        refine e_aload_n C dL_law_1289 rfl 1 rfl (q := 1290) rfl ?_
                                                                        refine e_aload_n C dL_law_1290 rfl 0 rfl (q := 1291) rfl ?_
                                                                        refine e_iload_n C dL_law_1291 rfl 3 rfl (q := 1292) rfl ?_
                                                                        refine e_iconst C dL_law_1292 ic_1 (q := 1293) rfl ?_
                                                                        refine e_iadd C dL_law_1293 (q := 1294) rfl ?_
                                                                        refine e_sld C Z dL_law_1294 (q := 1295) rfl ?_
                                                                        refine e_aload_n C dL_law_1295 rfl 0 rfl (q := 1296) rfl ?_
                                                                        refine e_iload_n C dL_law_1296 rfl 3 rfl (q := 1297) rfl ?_
                                                                        refine e_iconst C dL_law_1297 ic_2 (q := 1298) rfl ?_
                                                                        refine e_iadd C dL_law_1298 (q := 1299) rfl ?_
                                                                        refine e_sld C Z dL_law_1299 (q := 1300) rfl ?_
                                                                        refine e_aload_n C dL_law_1300 rfl 0 rfl (q := 1301) rfl ?_
                                                                        refine e_iload_n C dL_law_1301 rfl 3 rfl (q := 1302) rfl ?_
                                                                        refine e_iconst C dL_law_1302 ic_3 (q := 1303) rfl ?_
                                                                        refine e_iadd C dL_law_1303 (q := 1304) rfl ?_
                                                                        refine e_sld C Z dL_law_1304 (q := 1305) rfl ?_
                                                                        refine e_aload_n C dL_law_1305 rfl 0 rfl (q := 1306) rfl ?_
                                                                        refine e_iload_n C dL_law_1306 rfl 3 rfl (q := 1307) rfl ?_
                                                                        refine e_iconst C dL_law_1307 ic_4 (q := 1308) rfl ?_
                                                                        refine e_iadd C dL_law_1308 (q := 1309) rfl ?_
                                                                        refine e_sld C Z dL_law_1309 (q := 1310) rfl ?_
                                                                        refine e_aload_n C dL_law_1310 rfl 0 rfl (q := 1311) rfl ?_
                                                                        refine e_iload_n C dL_law_1311 rfl 3 rfl (q := 1312) rfl ?_
                                                                        refine e_iconst C dL_law_1312 ic_5 (q := 1313) rfl ?_
                                                                        refine e_iadd C dL_law_1313 (q := 1314) rfl ?_
                                                                        refine e_sld C Z dL_law_1314 (q := 1315) rfl ?_
                                                                        refine e_callVi C (l := l) (k := 0) (av := [.int (xs (x3 + (1 : Int32)).toNatClampNeg), .int (xs (x3 + (2 : Int32)).toNatClampNeg), .int (xs (x3 + (3 : Int32)).toNatClampNeg), .int (xs (x3 + (4 : Int32)).toNatClampNeg), .int (xs (x3 + (5 : Int32)).toNatClampNeg)]) (st := []) hlau (x_X6_copy (l := l) (ω := ω) (a1 := xs (x3 + (1 : Int32)).toNatClampNeg) (a2 := xs (x3 + (2 : Int32)).toNatClampNeg) (a3 := xs (x3 + (3 : Int32)).toNatClampNeg) (a4 := xs (x3 + (4 : Int32)).toNatClampNeg) (a5 := xs (x3 + (5 : Int32)).toNatClampNeg) (Nat.le_trans (by decide) hn) (I := I)) dL_law_1315 w_689 w_690 w_691 w_56 w_692 md_X6_copy (by decide) (by decide) rfl (ltL hn (Nat.le_of_ble_eq_true rfl)) rfl rfl (Nat.le_of_ble_eq_true rfl) (q := 1318) rfl (fun v46 J45 => ?_)
                                                                        refine e_aload_n C dL_law_1318 rfl 2 rfl (q := 1319) rfl ?_
                                                                        refine e_aload_n C dL_law_1319 rfl 0 rfl (q := 1320) rfl ?_
                                                                        refine e_iload_n C dL_law_1320 rfl 3 rfl (q := 1321) rfl ?_
                                                                        refine e_iconst C dL_law_1321 ic_1 (q := 1322) rfl ?_
                                                                        refine e_iadd C dL_law_1322 (q := 1323) rfl ?_
                                                                        refine e_sld C Z dL_law_1323 (q := 1324) rfl ?_
                                                                        refine e_aload_n C dL_law_1324 rfl 0 rfl (q := 1325) rfl ?_
                                                                        refine e_iload_n C dL_law_1325 rfl 3 rfl (q := 1326) rfl ?_
                                                                        refine e_iconst C dL_law_1326 ic_2 (q := 1327) rfl ?_
                                                                        refine e_iadd C dL_law_1327 (q := 1328) rfl ?_
                                                                        refine e_sld C Z dL_law_1328 (q := 1329) rfl ?_
                                                                        refine e_aload_n C dL_law_1329 rfl 0 rfl (q := 1330) rfl ?_
                                                                        refine e_iload_n C dL_law_1330 rfl 3 rfl (q := 1331) rfl ?_
                                                                        refine e_iconst C dL_law_1331 ic_3 (q := 1332) rfl ?_
                                                                        refine e_iadd C dL_law_1332 (q := 1333) rfl ?_
                                                                        refine e_sld C Z dL_law_1333 (q := 1334) rfl ?_
                                                                        refine e_aload_n C dL_law_1334 rfl 0 rfl (q := 1335) rfl ?_
                                                                        refine e_iload_n C dL_law_1335 rfl 3 rfl (q := 1336) rfl ?_
                                                                        refine e_iconst C dL_law_1336 ic_4 (q := 1337) rfl ?_
                                                                        refine e_iadd C dL_law_1337 (q := 1338) rfl ?_
                                                                        refine e_sld C Z dL_law_1338 (q := 1339) rfl ?_
                                                                        refine e_aload_n C dL_law_1339 rfl 0 rfl (q := 1340) rfl ?_
                                                                        refine e_iload_n C dL_law_1340 rfl 3 rfl (q := 1341) rfl ?_
                                                                        refine e_iconst C dL_law_1341 ic_5 (q := 1342) rfl ?_
                                                                        refine e_iadd C dL_law_1342 (q := 1343) rfl ?_
                                                                        refine e_sld C Z dL_law_1343 (q := 1344) rfl ?_
                                                                        refine e_callVi C (l := l) (k := 56) (av := [.int (xs (x3 + (1 : Int32)).toNatClampNeg), .int (xs (x3 + (2 : Int32)).toNatClampNeg), .int (xs (x3 + (3 : Int32)).toNatClampNeg), .int (xs (x3 + (4 : Int32)).toNatClampNeg), .int (xs (x3 + (5 : Int32)).toNatClampNeg)]) (st := [.int v46]) hlau (x_X7_copy (l := l) (ω := ω) (a1 := xs (x3 + (1 : Int32)).toNatClampNeg) (a2 := xs (x3 + (2 : Int32)).toNatClampNeg) (a3 := xs (x3 + (3 : Int32)).toNatClampNeg) (a4 := xs (x3 + (4 : Int32)).toNatClampNeg) (a5 := xs (x3 + (5 : Int32)).toNatClampNeg) hn (I := J45)) dL_law_1344 w_1104 w_1105 w_1106 w_67 w_1107 md_X7_copy (by decide) (by decide) rfl (ltL hn (Nat.le_of_ble_eq_true rfl)) rfl rfl (Nat.le_of_ble_eq_true rfl) (q := 1347) rfl (fun v48 J47 => ?_)
                                                                        refine e_icmpeq C (tgt := 1438) (q := 1350) dL_law_1347 rfl rfl ?_ ?_
                                                                        · refine e_iinc C (v := x3 + (7 : Int32)) (lv1 := [(3, .int (x3 + (7 : Int32))), (0, .ref b), (1, .ref (oA ω 0)), (2, .ref (oA ω 56))]) dL_law_1438 3 rfl (Nat.le_of_ble_eq_true rfl) (by rw [ic_7]) rfl (q := 1441) rfl ?_
                                                                          refine e_goto C (tgt := 18) dL_law_1441 rfl ?_
                                                                          exact e_lv [1, 2, 3, 0] (lv1 := [(0, .ref b), (1, .ref (oA ω 0)), (2, .ref (oA ω 56)), (3, .int (x3 + (7 : Int32)))]) rfl (ih (x3 + (7 : Int32)) _)
                                                                        · refine e_iconst C dL_law_1350 ic_0 (q := 1351) rfl ?_
                                                                          exact e_none
                                                                      · refine e_if (fun h35 => ?_) (fun h35 => ?_)
                                                                        · refine e_tabIn C (v := 33) (off := 1319) (tgt := 1352) dL_law_33 (by rw [h35]; rfl) (by decide) rfl rfl ?_
                                                                          refine e_aload_n C dL_law_1352 rfl 1 rfl (q := 1353) rfl ?_
                                                                          refine e_aload_n C dL_law_1353 rfl 0 rfl (q := 1354) rfl ?_
                                                                          refine e_iload_n C dL_law_1354 rfl 3 rfl (q := 1355) rfl ?_
                                                                          refine e_iconst C dL_law_1355 ic_1 (q := 1356) rfl ?_
                                                                          refine e_iadd C dL_law_1356 (q := 1357) rfl ?_
                                                                          refine e_sld C Z dL_law_1357 (q := 1358) rfl ?_
                                                                          refine e_aload_n C dL_law_1358 rfl 0 rfl (q := 1359) rfl ?_
                                                                          refine e_iload_n C dL_law_1359 rfl 3 rfl (q := 1360) rfl ?_
                                                                          refine e_iconst C dL_law_1360 ic_2 (q := 1361) rfl ?_
                                                                          refine e_iadd C dL_law_1361 (q := 1362) rfl ?_
                                                                          refine e_sld C Z dL_law_1362 (q := 1363) rfl ?_
                                                                          refine e_aload_n C dL_law_1363 rfl 0 rfl (q := 1364) rfl ?_
                                                                          refine e_iload_n C dL_law_1364 rfl 3 rfl (q := 1365) rfl ?_
                                                                          refine e_iconst C dL_law_1365 ic_3 (q := 1366) rfl ?_
                                                                          refine e_iadd C dL_law_1366 (q := 1367) rfl ?_
                                                                          refine e_sld C Z dL_law_1367 (q := 1368) rfl ?_
                                                                          refine e_aload_n C dL_law_1368 rfl 0 rfl (q := 1369) rfl ?_
                                                                          refine e_iload_n C dL_law_1369 rfl 3 rfl (q := 1370) rfl ?_
                                                                          refine e_iconst C dL_law_1370 ic_4 (q := 1371) rfl ?_
                                                                          refine e_iadd C dL_law_1371 (q := 1372) rfl ?_
                                                                          refine e_sld C Z dL_law_1372 (q := 1373) rfl ?_
                                                                          refine e_callVi C (l := l) (k := 0) (av := [.int (xs (x3 + (1 : Int32)).toNatClampNeg), .int (xs (x3 + (2 : Int32)).toNatClampNeg), .int (xs (x3 + (3 : Int32)).toNatClampNeg), .int (xs (x3 + (4 : Int32)).toNatClampNeg)]) (st := []) hlau (x_X6_hatsBy (l := l) (ω := ω) (a1 := xs (x3 + (1 : Int32)).toNatClampNeg) (a2 := xs (x3 + (2 : Int32)).toNatClampNeg) (a3 := xs (x3 + (3 : Int32)).toNatClampNeg) (a4 := xs (x3 + (4 : Int32)).toNatClampNeg) (Nat.le_trans (by decide) hn) (I := I)) dL_law_1373 w_694 w_695 w_696 w_56 w_697 md_X6_hatsBy (by decide) (by decide) rfl (ltL hn (Nat.le_of_ble_eq_true rfl)) rfl rfl (Nat.le_of_ble_eq_true rfl) (q := 1376) rfl (fun v42 J41 => ?_)
                                                                          refine e_aload_n C dL_law_1376 rfl 2 rfl (q := 1377) rfl ?_
                                                                          refine e_aload_n C dL_law_1377 rfl 0 rfl (q := 1378) rfl ?_
                                                                          refine e_iload_n C dL_law_1378 rfl 3 rfl (q := 1379) rfl ?_
                                                                          refine e_iconst C dL_law_1379 ic_1 (q := 1380) rfl ?_
                                                                          refine e_iadd C dL_law_1380 (q := 1381) rfl ?_
                                                                          refine e_sld C Z dL_law_1381 (q := 1382) rfl ?_
                                                                          refine e_aload_n C dL_law_1382 rfl 0 rfl (q := 1383) rfl ?_
                                                                          refine e_iload_n C dL_law_1383 rfl 3 rfl (q := 1384) rfl ?_
                                                                          refine e_iconst C dL_law_1384 ic_2 (q := 1385) rfl ?_
                                                                          refine e_iadd C dL_law_1385 (q := 1386) rfl ?_
                                                                          refine e_sld C Z dL_law_1386 (q := 1387) rfl ?_
                                                                          refine e_aload_n C dL_law_1387 rfl 0 rfl (q := 1388) rfl ?_
                                                                          refine e_iload_n C dL_law_1388 rfl 3 rfl (q := 1389) rfl ?_
                                                                          refine e_iconst C dL_law_1389 ic_3 (q := 1390) rfl ?_
                                                                          refine e_iadd C dL_law_1390 (q := 1391) rfl ?_
                                                                          refine e_sld C Z dL_law_1391 (q := 1392) rfl ?_
                                                                          refine e_aload_n C dL_law_1392 rfl 0 rfl (q := 1393) rfl ?_
                                                                          refine e_iload_n C dL_law_1393 rfl 3 rfl (q := 1394) rfl ?_
                                                                          refine e_iconst C dL_law_1394 ic_4 (q := 1395) rfl ?_
                                                                          refine e_iadd C dL_law_1395 (q := 1396) rfl ?_
                                                                          refine e_sld C Z dL_law_1396 (q := 1397) rfl ?_
                                                                          refine e_callVi C (l := l) (k := 56) (av := [.int (xs (x3 + (1 : Int32)).toNatClampNeg), .int (xs (x3 + (2 : Int32)).toNatClampNeg), .int (xs (x3 + (3 : Int32)).toNatClampNeg), .int (xs (x3 + (4 : Int32)).toNatClampNeg)]) (st := [.int v42]) hlau (x_X7_hatsBy (l := l) (ω := ω) (a1 := xs (x3 + (1 : Int32)).toNatClampNeg) (a2 := xs (x3 + (2 : Int32)).toNatClampNeg) (a3 := xs (x3 + (3 : Int32)).toNatClampNeg) (a4 := xs (x3 + (4 : Int32)).toNatClampNeg) hn (I := J41)) dL_law_1397 w_1108 w_1109 w_1110 w_67 w_1111 md_X7_hatsBy (by decide) (by decide) rfl (ltL hn (Nat.le_of_ble_eq_true rfl)) rfl rfl (Nat.le_of_ble_eq_true rfl) (q := 1400) rfl (fun v44 J43 => ?_)
                                                                          refine e_icmpeq C (tgt := 1438) (q := 1403) dL_law_1400 rfl rfl ?_ ?_
                                                                          · refine e_iinc C (v := x3 + (7 : Int32)) (lv1 := [(3, .int (x3 + (7 : Int32))), (0, .ref b), (1, .ref (oA ω 0)), (2, .ref (oA ω 56))]) dL_law_1438 3 rfl (Nat.le_of_ble_eq_true rfl) (by rw [ic_7]) rfl (q := 1441) rfl ?_
                                                                            refine e_goto C (tgt := 18) dL_law_1441 rfl ?_
                                                                            exact e_lv [1, 2, 3, 0] (lv1 := [(0, .ref b), (1, .ref (oA ω 0)), (2, .ref (oA ω 56)), (3, .int (x3 + (7 : Int32)))]) rfl (ih (x3 + (7 : Int32)) _)
                                                                          · refine e_iconst C dL_law_1403 ic_0 (q := 1404) rfl ?_
                                                                            exact e_none
                                                                        · refine e_if (fun h36 => ?_) (fun h36 => ?_)
                                                                          · refine e_tabIn C (v := 34) (off := 1372) (tgt := 1405) dL_law_33 (by rw [h36]; rfl) (by decide) rfl rfl ?_
                                                                            refine e_aload_n C dL_law_1405 rfl 1 rfl (q := 1406) rfl ?_
                                                                            refine e_aload_n C dL_law_1406 rfl 0 rfl (q := 1407) rfl ?_
                                                                            refine e_iload_n C dL_law_1407 rfl 3 rfl (q := 1408) rfl ?_
                                                                            refine e_iconst C dL_law_1408 ic_1 (q := 1409) rfl ?_
                                                                            refine e_iadd C dL_law_1409 (q := 1410) rfl ?_
                                                                            refine e_sld C Z dL_law_1410 (q := 1411) rfl ?_
                                                                            refine e_aload_n C dL_law_1411 rfl 0 rfl (q := 1412) rfl ?_
                                                                            refine e_iload_n C dL_law_1412 rfl 3 rfl (q := 1413) rfl ?_
                                                                            refine e_iconst C dL_law_1413 ic_2 (q := 1414) rfl ?_
                                                                            refine e_iadd C dL_law_1414 (q := 1415) rfl ?_
                                                                            refine e_sld C Z dL_law_1415 (q := 1416) rfl ?_
                                                                            refine e_callVi C (l := l) (k := 0) (av := [.int (xs (x3 + (1 : Int32)).toNatClampNeg), .int (xs (x3 + (2 : Int32)).toNatClampNeg)]) (st := []) hlau (x_X6_taken (l := l) (ω := ω) (a1 := xs (x3 + (1 : Int32)).toNatClampNeg) (a2 := xs (x3 + (2 : Int32)).toNatClampNeg) (Nat.le_trans (by decide) hn) (I := I)) dL_law_1416 w_699 w_700 w_701 w_56 w_702 md_X6_taken (by decide) (by decide) rfl (ltL hn (Nat.le_of_ble_eq_true rfl)) rfl rfl (Nat.le_of_ble_eq_true rfl) (q := 1419) rfl (fun v38 J37 => ?_)
                                                                            refine e_aload_n C dL_law_1419 rfl 2 rfl (q := 1420) rfl ?_
                                                                            refine e_aload_n C dL_law_1420 rfl 0 rfl (q := 1421) rfl ?_
                                                                            refine e_iload_n C dL_law_1421 rfl 3 rfl (q := 1422) rfl ?_
                                                                            refine e_iconst C dL_law_1422 ic_1 (q := 1423) rfl ?_
                                                                            refine e_iadd C dL_law_1423 (q := 1424) rfl ?_
                                                                            refine e_sld C Z dL_law_1424 (q := 1425) rfl ?_
                                                                            refine e_aload_n C dL_law_1425 rfl 0 rfl (q := 1426) rfl ?_
                                                                            refine e_iload_n C dL_law_1426 rfl 3 rfl (q := 1427) rfl ?_
                                                                            refine e_iconst C dL_law_1427 ic_2 (q := 1428) rfl ?_
                                                                            refine e_iadd C dL_law_1428 (q := 1429) rfl ?_
                                                                            refine e_sld C Z dL_law_1429 (q := 1430) rfl ?_
                                                                            refine e_callVi C (l := l) (k := 56) (av := [.int (xs (x3 + (1 : Int32)).toNatClampNeg), .int (xs (x3 + (2 : Int32)).toNatClampNeg)]) (st := [.int v38]) hlau (x_X7_taken (l := l) (ω := ω) (a1 := xs (x3 + (1 : Int32)).toNatClampNeg) (a2 := xs (x3 + (2 : Int32)).toNatClampNeg) hn (I := J37)) dL_law_1430 w_1113 w_1114 w_1115 w_67 w_1116 md_X7_taken (by decide) (by decide) rfl (ltL hn (Nat.le_of_ble_eq_true rfl)) rfl rfl (Nat.le_of_ble_eq_true rfl) (q := 1433) rfl (fun v40 J39 => ?_)
                                                                            refine e_icmpeq C (tgt := 1438) (q := 1436) dL_law_1433 rfl rfl ?_ ?_
                                                                            · refine e_iinc C (v := x3 + (7 : Int32)) (lv1 := [(3, .int (x3 + (7 : Int32))), (0, .ref b), (1, .ref (oA ω 0)), (2, .ref (oA ω 56))]) dL_law_1438 3 rfl (Nat.le_of_ble_eq_true rfl) (by rw [ic_7]) rfl (q := 1441) rfl ?_
                                                                              refine e_goto C (tgt := 18) dL_law_1441 rfl ?_
                                                                              exact e_lv [1, 2, 3, 0] (lv1 := [(0, .ref b), (1, .ref (oA ω 0)), (2, .ref (oA ω 56)), (3, .int (x3 + (7 : Int32)))]) rfl (ih (x3 + (7 : Int32)) _)
                                                                            · refine e_iconst C dL_law_1436 ic_0 (q := 1437) rfl ?_
                                                                              exact e_none
                                                                          · refine e_tabOut C (tgt := 1438) dL_law_33 (by have g0 := i32_ne h2; have g1 := i32_ne h3; have g2 := i32_ne h4; have g3 := i32_ne h5; have g4 := i32_ne h6; have g5 := i32_ne h7; have g6 := i32_ne h8; have g7 := i32_ne h9; have g8 := i32_ne h10; have g9 := i32_ne h11; have g10 := i32_ne h12; have g11 := i32_ne h13; have g12 := i32_ne h14; have g13 := i32_ne h15; have g14 := i32_ne h16; have g15 := i32_ne h17; have g16 := i32_ne h18; have g17 := i32_ne h19; have g18 := i32_ne h20; have g19 := i32_ne h21; have g20 := i32_ne h22; have g21 := i32_ne h23; have g22 := i32_ne h24; have g23 := i32_ne h25; have g24 := i32_ne h26; have g25 := i32_ne h27; have g26 := i32_ne h28; have g27 := i32_ne h29; have g28 := i32_ne h30; have g29 := i32_ne h31; have g30 := i32_ne h32; have g31 := i32_ne h33; have g32 := i32_ne h34; have g33 := i32_ne h35; have g34 := i32_ne h36; have f0 : ((0 : Int32)).toInt = 0 := rfl; have f1 : ((1 : Int32)).toInt = 1 := rfl; have f2 : ((2 : Int32)).toInt = 2 := rfl; have f3 : ((3 : Int32)).toInt = 3 := rfl; have f4 : ((4 : Int32)).toInt = 4 := rfl; have f5 : ((5 : Int32)).toInt = 5 := rfl; have f6 : ((6 : Int32)).toInt = 6 := rfl; have f7 : ((7 : Int32)).toInt = 7 := rfl; have f8 : ((8 : Int32)).toInt = 8 := rfl; have f9 : ((9 : Int32)).toInt = 9 := rfl; have f10 : ((10 : Int32)).toInt = 10 := rfl; have f11 : ((11 : Int32)).toInt = 11 := rfl; have f12 : ((12 : Int32)).toInt = 12 := rfl; have f13 : ((13 : Int32)).toInt = 13 := rfl; have f14 : ((14 : Int32)).toInt = 14 := rfl; have f15 : ((15 : Int32)).toInt = 15 := rfl; have f16 : ((16 : Int32)).toInt = 16 := rfl; have f17 : ((17 : Int32)).toInt = 17 := rfl; have f18 : ((18 : Int32)).toInt = 18 := rfl; have f19 : ((19 : Int32)).toInt = 19 := rfl; have f20 : ((20 : Int32)).toInt = 20 := rfl; have f21 : ((21 : Int32)).toInt = 21 := rfl; have f22 : ((22 : Int32)).toInt = 22 := rfl; have f23 : ((23 : Int32)).toInt = 23 := rfl; have f24 : ((24 : Int32)).toInt = 24 := rfl; have f25 : ((25 : Int32)).toInt = 25 := rfl; have f26 : ((26 : Int32)).toInt = 26 := rfl; have f27 : ((27 : Int32)).toInt = 27 := rfl; have f28 : ((28 : Int32)).toInt = 28 := rfl; have f29 : ((29 : Int32)).toInt = 29 := rfl; have f30 : ((30 : Int32)).toInt = 30 := rfl; have f31 : ((31 : Int32)).toInt = 31 := rfl; have f32 : ((32 : Int32)).toInt = 32 := rfl; have f33 : ((33 : Int32)).toInt = 33 := rfl; have f34 : ((34 : Int32)).toInt = 34 := rfl; omega) rfl ?_
                                                                            refine e_iinc C (v := x3 + (7 : Int32)) (lv1 := [(3, .int (x3 + (7 : Int32))), (0, .ref b), (1, .ref (oA ω 0)), (2, .ref (oA ω 56))]) dL_law_1438 3 rfl (Nat.le_of_ble_eq_true rfl) (by rw [ic_7]) rfl (q := 1441) rfl ?_
                                                                            refine e_goto C (tgt := 18) dL_law_1441 rfl ?_
                                                                            exact e_lv [1, 2, 3, 0] (lv1 := [(0, .ref b), (1, .ref (oA ω 0)), (2, .ref (oA ω 56)), (3, .int (x3 + (7 : Int32)))]) rfl (ih (x3 + (7 : Int32)) _)
