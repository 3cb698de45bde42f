def j_L_law_1414 (xs : Nat → Int32) (L : Nat) (rec : Int32 → St (Int32)) (k : St (Int32)) (x1 : Nat) (x2 : Nat) (x3 : Int32) : St (Int32) :=
  rec (x3 + (5 : Int32))
def j_L_law_184 (xs : Nat → Int32) (L : Nat) (rec : Int32 → St (Int32)) (k : St (Int32)) (x1 : Nat) (x2 : Nat) (x3 : Int32) : St (Int32) :=
  bd (sX xs L (x3 + (1 : Int32))) fun v9 => bd (sX xs L (x3 + (2 : Int32))) fun v10 => bd (sX xs L (x3 + (3 : Int32))) fun v11 => bd (sX xs L (x3 + (4 : Int32))) fun v12 => bd (dr [9] (some x1)) fun q14 => bd (F_X10_reading q14.1 v9 v10 v11 v12) fun c13 => bd (sX xs L (x3 + (1 : Int32))) fun v15 => bd (sX xs L (x3 + (2 : Int32))) fun v16 => bd (sX xs L (x3 + (3 : Int32))) fun v17 => bd (sX xs L (x3 + (4 : Int32))) fun v18 => bd (dr [10] (some x2)) fun q20 => bd (F_X11_reading q20.1 v15 v16 v17 v18) fun c19 => br (c13 = c19) (j_L_law_1414 xs L rec k x1 x2 x3) (rt (0 : Int32))
def j_L_law_237 (xs : Nat → Int32) (L : Nat) (rec : Int32 → St (Int32)) (k : St (Int32)) (x1 : Nat) (x2 : Nat) (x3 : Int32) : St (Int32) :=
  bd (sX xs L (x3 + (1 : Int32))) fun v22 => bd (sX xs L (x3 + (2 : Int32))) fun v23 => bd (dr [9] (some x1)) fun q25 => bd (F_X10_drop q25.1 v22 v23) fun c24 => bd (sX xs L (x3 + (1 : Int32))) fun v26 => bd (sX xs L (x3 + (2 : Int32))) fun v27 => bd (dr [10] (some x2)) fun q29 => bd (F_X11_drop q29.1 v26 v27) fun c28 => br (c24 = c28) (j_L_law_1414 xs L rec k x1 x2 x3) (rt (0 : Int32))
def j_L_law_270 (xs : Nat → Int32) (L : Nat) (rec : Int32 → St (Int32)) (k : St (Int32)) (x1 : Nat) (x2 : Nat) (x3 : Int32) : St (Int32) :=
  bd (sX xs L (x3 + (1 : Int32))) fun v31 => bd (dr [9] (some x1)) fun q33 => bd (F_X10_line q33.1 v31) fun c32 => bd (sX xs L (x3 + (1 : Int32))) fun v34 => bd (dr [10] (some x2)) fun q36 => bd (F_X11_line q36.1 v34) fun c35 => br (c32 = c35) (j_L_law_1414 xs L rec k x1 x2 x3) (rt (0 : Int32))
def j_L_law_293 (xs : Nat → Int32) (L : Nat) (rec : Int32 → St (Int32)) (k : St (Int32)) (x1 : Nat) (x2 : Nat) (x3 : Int32) : St (Int32) :=
  bd (sX xs L (x3 + (1 : Int32))) fun v38 => bd (sX xs L (x3 + (2 : Int32))) fun v39 => bd (dr [9] (some x1)) fun q41 => bd (F_X10_knot q41.1 v38 v39) fun c40 => bd (sX xs L (x3 + (1 : Int32))) fun v42 => bd (sX xs L (x3 + (2 : Int32))) fun v43 => bd (dr [10] (some x2)) fun q45 => bd (F_X11_knot q45.1 v42 v43) fun c44 => br (c40 = c44) (j_L_law_1414 xs L rec k x1 x2 x3) (rt (0 : Int32))
def j_L_law_326 (xs : Nat → Int32) (L : Nat) (rec : Int32 → St (Int32)) (k : St (Int32)) (x1 : Nat) (x2 : Nat) (x3 : Int32) : St (Int32) :=
  bd (dr [9] (some x1)) fun q48 => bd (F_X10_hush q48.1) fun c47 => bd (dr [10] (some x2)) fun q50 => bd (F_X11_hush q50.1) fun c49 => br (c47 = c49) (j_L_law_1414 xs L rec k x1 x2 x3) (rt (0 : Int32))
def j_L_law_339 (xs : Nat → Int32) (L : Nat) (rec : Int32 → St (Int32)) (k : St (Int32)) (x1 : Nat) (x2 : Nat) (x3 : Int32) : St (Int32) :=
  bd (dr [9] (some x1)) fun q53 => bd (F_X10_pieces q53.1) fun c52 => bd (dr [10] (some x2)) fun q55 => bd (F_X11_pieces q55.1) fun c54 => br (c52 = c54) (j_L_law_1414 xs L rec k x1 x2 x3) (rt (0 : Int32))
def j_L_law_352 (xs : Nat → Int32) (L : Nat) (rec : Int32 → St (Int32)) (k : St (Int32)) (x1 : Nat) (x2 : Nat) (x3 : Int32) : St (Int32) :=
  bd (sX xs L (x3 + (1 : Int32))) fun v57 => bd (dr [9] (some x1)) fun q59 => bd (F_X10_gather q59.1 v57) fun c58 => bd (sX xs L (x3 + (1 : Int32))) fun v60 => bd (dr [10] (some x2)) fun q62 => bd (F_X11_gather q62.1 v60) fun c61 => br (c58 = c61) (j_L_law_1414 xs L rec k x1 x2 x3) (rt (0 : Int32))
def j_L_law_375 (xs : Nat → Int32) (L : Nat) (rec : Int32 → St (Int32)) (k : St (Int32)) (x1 : Nat) (x2 : Nat) (x3 : Int32) : St (Int32) :=
  bd (sX xs L (x3 + (1 : Int32))) fun v64 => bd (sX xs L (x3 + (2 : Int32))) fun v65 => bd (sX xs L (x3 + (3 : Int32))) fun v66 => bd (dr [9] (some x1)) fun q68 => bd (F_X10_clamp q68.1 v64 v65 v66) fun c67 => bd (sX xs L (x3 + (1 : Int32))) fun v69 => bd (sX xs L (x3 + (2 : Int32))) fun v70 => bd (sX xs L (x3 + (3 : Int32))) fun v71 => bd (dr [10] (some x2)) fun q73 => bd (F_X11_clamp q73.1 v69 v70 v71) fun c72 => br (c67 = c72) (j_L_law_1414 xs L rec k x1 x2 x3) (rt (0 : Int32))
def j_L_law_418 (xs : Nat → Int32) (L : Nat) (rec : Int32 → St (Int32)) (k : St (Int32)) (x1 : Nat) (x2 : Nat) (x3 : Int32) : St (Int32) :=
  bd (sX xs L (x3 + (1 : Int32))) fun v75 => bd (sX xs L (x3 + (2 : Int32))) fun v76 => bd (sX xs L (x3 + (3 : Int32))) fun v77 => bd (sX xs L (x3 + (4 : Int32))) fun v78 => bd (dr [9] (some x1)) fun q80 => bd (F_X10_dead q80.1 v75 v76 v77 v78) fun c79 => bd (sX xs L (x3 + (1 : Int32))) fun v81 => bd (sX xs L (x3 + (2 : Int32))) fun v82 => bd (sX xs L (x3 + (3 : Int32))) fun v83 => bd (sX xs L (x3 + (4 : Int32))) fun v84 => bd (dr [10] (some x2)) fun q86 => bd (F_X11_dead q86.1 v81 v82 v83 v84) fun c85 => br (c79 = c85) (j_L_law_1414 xs L rec k x1 x2 x3) (rt (0 : Int32))
def j_L_law_471 (xs : Nat → Int32) (L : Nat) (rec : Int32 → St (Int32)) (k : St (Int32)) (x1 : Nat) (x2 : Nat) (x3 : Int32) : St (Int32) :=
  bd (sX xs L (x3 + (1 : Int32))) fun v88 => bd (sX xs L (x3 + (2 : Int32))) fun v89 => bd (dr [9] (some x1)) fun q91 => bd (F_X10_chain q91.1 v88 v89) fun c90 => bd (sX xs L (x3 + (1 : Int32))) fun v92 => bd (sX xs L (x3 + (2 : Int32))) fun v93 => bd (dr [10] (some x2)) fun q95 => bd (F_X11_chain q95.1 v92 v93) fun c94 => br (c90 = c94) (j_L_law_1414 xs L rec k x1 x2 x3) (rt (0 : Int32))
def j_L_law_504 (xs : Nat → Int32) (L : Nat) (rec : Int32 → St (Int32)) (k : St (Int32)) (x1 : Nat) (x2 : Nat) (x3 : Int32) : St (Int32) :=
  bd (sX xs L (x3 + (1 : Int32))) fun v97 => bd (sX xs L (x3 + (2 : Int32))) fun v98 => bd (sX xs L (x3 + (3 : Int32))) fun v99 => bd (sX xs L (x3 + (4 : Int32))) fun v100 => bd (dr [9] (some x1)) fun q102 => bd (F_X10_gain q102.1 v97 v98 v99 v100) fun c101 => bd (sX xs L (x3 + (1 : Int32))) fun v103 => bd (sX xs L (x3 + (2 : Int32))) fun v104 => bd (sX xs L (x3 + (3 : Int32))) fun v105 => bd (sX xs L (x3 + (4 : Int32))) fun v106 => bd (dr [10] (some x2)) fun q108 => bd (F_X11_gain q108.1 v103 v104 v105 v106) fun c107 => br (c101 = c107) (j_L_law_1414 xs L rec k x1 x2 x3) (rt (0 : Int32))
def j_L_law_557 (xs : Nat → Int32) (L : Nat) (rec : Int32 → St (Int32)) (k : St (Int32)) (x1 : Nat) (x2 : Nat) (x3 : Int32) : St (Int32) :=
  bd (sX xs L (x3 + (1 : Int32))) fun v110 => bd (dr [9] (some x1)) fun q112 => bd (F_X10_mirror q112.1 v110) fun c111 => bd (sX xs L (x3 + (1 : Int32))) fun v113 => bd (dr [10] (some x2)) fun q115 => bd (F_X11_mirror q115.1 v113) fun c114 => br (c111 = c114) (j_L_law_1414 xs L rec k x1 x2 x3) (rt (0 : Int32))
def j_L_law_580 (xs : Nat → Int32) (L : Nat) (rec : Int32 → St (Int32)) (k : St (Int32)) (x1 : Nat) (x2 : Nat) (x3 : Int32) : St (Int32) :=
  bd (sX xs L (x3 + (1 : Int32))) fun v117 => bd (sX xs L (x3 + (2 : Int32))) fun v118 => bd (dr [9] (some x1)) fun q120 => bd (F_X10_value q120.1 v117 v118) fun c119 => bd (sX xs L (x3 + (1 : Int32))) fun v121 => bd (sX xs L (x3 + (2 : Int32))) fun v122 => bd (dr [10] (some x2)) fun q124 => bd (F_X11_value q124.1 v121 v122) fun c123 => br (c119 = c123) (j_L_law_1414 xs L rec k x1 x2 x3) (rt (0 : Int32))
def j_L_law_613 (xs : Nat → Int32) (L : Nat) (rec : Int32 → St (Int32)) (k : St (Int32)) (x1 : Nat) (x2 : Nat) (x3 : Int32) : St (Int32) :=
  bd (sX xs L (x3 + (1 : Int32))) fun v126 => bd (sX xs L (x3 + (2 : Int32))) fun v127 => bd (dr [9] (some x1)) fun q129 => bd (F_X10_about q129.1 v126 v127) fun c128 => bd (sX xs L (x3 + (1 : Int32))) fun v130 => bd (sX xs L (x3 + (2 : Int32))) fun v131 => bd (dr [10] (some x2)) fun q133 => bd (F_X11_about q133.1 v130 v131) fun c132 => br (c128 = c132) (j_L_law_1414 xs L rec k x1 x2 x3) (rt (0 : Int32))
def j_L_law_646 (xs : Nat → Int32) (L : Nat) (rec : Int32 → St (Int32)) (k : St (Int32)) (x1 : Nat) (x2 : Nat) (x3 : Int32) : St (Int32) :=
  bd (sX xs L (x3 + (1 : Int32))) fun v135 => bd (sX xs L (x3 + (2 : Int32))) fun v136 => bd (dr [9] (some x1)) fun q138 => bd (F_X10_turn q138.1 v135 v136) fun c137 => bd (sX xs L (x3 + (1 : Int32))) fun v139 => bd (sX xs L (x3 + (2 : Int32))) fun v140 => bd (dr [10] (some x2)) fun q142 => bd (F_X11_turn q142.1 v139 v140) fun c141 => br (c137 = c141) (j_L_law_1414 xs L rec k x1 x2 x3) (rt (0 : Int32))
def j_L_law_679 (xs : Nat → Int32) (L : Nat) (rec : Int32 → St (Int32)) (k : St (Int32)) (x1 : Nat) (x2 : Nat) (x3 : Int32) : St (Int32) :=
  bd (sX xs L (x3 + (1 : Int32))) fun v144 => bd (sX xs L (x3 + (2 : Int32))) fun v145 => bd (dr [9] (some x1)) fun q147 => bd (F_X10_inverse q147.1 v144 v145) fun c146 => bd (sX xs L (x3 + (1 : Int32))) fun v148 => bd (sX xs L (x3 + (2 : Int32))) fun v149 => bd (dr [10] (some x2)) fun q151 => bd (F_X11_inverse q151.1 v148 v149) fun c150 => br (c146 = c150) (j_L_law_1414 xs L rec k x1 x2 x3) (rt (0 : Int32))
def j_L_law_712 (xs : Nat → Int32) (L : Nat) (rec : Int32 → St (Int32)) (k : St (Int32)) (x1 : Nat) (x2 : Nat) (x3 : Int32) : St (Int32) :=
  bd (sX xs L (x3 + (1 : Int32))) fun v153 => bd (sX xs L (x3 + (2 : Int32))) fun v154 => bd (sX xs L (x3 + (3 : Int32))) fun v155 => bd (dr [9] (some x1)) fun q157 => bd (F_X10_residual q157.1 v153 v154 v155) fun c156 => bd (sX xs L (x3 + (1 : Int32))) fun v158 => bd (sX xs L (x3 + (2 : Int32))) fun v159 => bd (sX xs L (x3 + (3 : Int32))) fun v160 => bd (dr [10] (some x2)) fun q162 => bd (F_X11_residual q162.1 v158 v159 v160) fun c161 => br (c156 = c161) (j_L_law_1414 xs L rec k x1 x2 x3) (rt (0 : Int32))
def j_L_law_755 (xs : Nat → Int32) (L : Nat) (rec : Int32 → St (Int32)) (k : St (Int32)) (x1 : Nat) (x2 : Nat) (x3 : Int32) : St (Int32) :=
  bd (sX xs L (x3 + (1 : Int32))) fun v164 => bd (sX xs L (x3 + (2 : Int32))) fun v165 => bd (dr [9] (some x1)) fun q167 => bd (F_X10_worst q167.1 v164 v165) fun c166 => bd (sX xs L (x3 + (1 : Int32))) fun v168 => bd (sX xs L (x3 + (2 : Int32))) fun v169 => bd (dr [10] (some x2)) fun q171 => bd (F_X11_worst q171.1 v168 v169) fun c170 => br (c166 = c170) (j_L_law_1414 xs L rec k x1 x2 x3) (rt (0 : Int32))
def j_L_law_788 (xs : Nat → Int32) (L : Nat) (rec : Int32 → St (Int32)) (k : St (Int32)) (x1 : Nat) (x2 : Nat) (x3 : Int32) : St (Int32) :=
  bd (sX xs L (x3 + (1 : Int32))) fun v173 => bd (sX xs L (x3 + (2 : Int32))) fun v174 => bd (dr [9] (some x1)) fun q176 => bd (F_X10_squares q176.1 v173 v174) fun c175 => bd (sX xs L (x3 + (1 : Int32))) fun v177 => bd (sX xs L (x3 + (2 : Int32))) fun v178 => bd (dr [10] (some x2)) fun q180 => bd (F_X11_squares q180.1 v177 v178) fun c179 => br ((lg_cmp c175 c179) = 0) (j_L_law_1414 xs L rec k x1 x2 x3) (rt (0 : Int32))
def j_L_law_822 (xs : Nat → Int32) (L : Nat) (rec : Int32 → St (Int32)) (k : St (Int32)) (x1 : Nat) (x2 : Nat) (x3 : Int32) : St (Int32) :=
  bd (sX xs L (x3 + (1 : Int32))) fun v182 => bd (sX xs L (x3 + (2 : Int32))) fun v183 => bd (dr [9] (some x1)) fun q185 => bd (F_X10_drift q185.1 v182 v183) fun c184 => bd (sX xs L (x3 + (1 : Int32))) fun v186 => bd (sX xs L (x3 + (2 : Int32))) fun v187 => bd (dr [10] (some x2)) fun q189 => bd (F_X11_drift q189.1 v186 v187) fun c188 => br (c184 = c188) (j_L_law_1414 xs L rec k x1 x2 x3) (rt (0 : Int32))
def j_L_law_855 (xs : Nat → Int32) (L : Nat) (rec : Int32 → St (Int32)) (k : St (Int32)) (x1 : Nat) (x2 : Nat) (x3 : Int32) : St (Int32) :=
  bd (sX xs L (x3 + (1 : Int32))) fun v191 => bd (sX xs L (x3 + (2 : Int32))) fun v192 => bd (sX xs L (x3 + (3 : Int32))) fun v193 => bd (sX xs L (x3 + (4 : Int32))) fun v194 => bd (dr [9] (some x1)) fun q196 => bd (F_X10_probe q196.1 v191 v192 v193 v194) fun c195 => bd (sX xs L (x3 + (1 : Int32))) fun v197 => bd (sX xs L (x3 + (2 : Int32))) fun v198 => bd (sX xs L (x3 + (3 : Int32))) fun v199 => bd (sX xs L (x3 + (4 : Int32))) fun v200 => bd (dr [10] (some x2)) fun q202 => bd (F_X11_probe q202.1 v197 v198 v199 v200) fun c201 => br (c195 = c201) (j_L_law_1414 xs L rec k x1 x2 x3) (rt (0 : Int32))
def j_L_law_908 (xs : Nat → Int32) (L : Nat) (rec : Int32 → St (Int32)) (k : St (Int32)) (x1 : Nat) (x2 : Nat) (x3 : Int32) : St (Int32) :=
  bd (sX xs L (x3 + (1 : Int32))) fun v204 => bd (sX xs L (x3 + (2 : Int32))) fun v205 => bd (dr [9] (some x1)) fun q207 => bd (F_X10_feed q207.1 v204 v205) fun c206 => bd (sX xs L (x3 + (1 : Int32))) fun v208 => bd (sX xs L (x3 + (2 : Int32))) fun v209 => bd (dr [10] (some x2)) fun q211 => bd (F_X11_feed q211.1 v208 v209) fun c210 => br (c206 = c210) (j_L_law_1414 xs L rec k x1 x2 x3) (rt (0 : Int32))
def j_L_law_941 (xs : Nat → Int32) (L : Nat) (rec : Int32 → St (Int32)) (k : St (Int32)) (x1 : Nat) (x2 : Nat) (x3 : Int32) : St (Int32) :=
  bd (sX xs L (x3 + (1 : Int32))) fun v213 => bd (dr [9] (some x1)) fun q215 => bd (F_X10_probed q215.1 v213) fun c214 => bd (sX xs L (x3 + (1 : Int32))) fun v216 => bd (dr [10] (some x2)) fun q218 => bd (F_X11_probed q218.1 v216) fun c217 => br (c214 = c217) (j_L_law_1414 xs L rec k x1 x2 x3) (rt (0 : Int32))
def j_L_law_964 (xs : Nat → Int32) (L : Nat) (rec : Int32 → St (Int32)) (k : St (Int32)) (x1 : Nat) (x2 : Nat) (x3 : Int32) : St (Int32) :=
  bd (sX xs L (x3 + (1 : Int32))) fun v220 => bd (sX xs L (x3 + (2 : Int32))) fun v221 => bd (sX xs L (x3 + (3 : Int32))) fun v222 => bd (dr [9] (some x1)) fun q224 => bd (F_X10_table q224.1 v220 v221 v222) fun c223 => bd (sX xs L (x3 + (1 : Int32))) fun v225 => bd (sX xs L (x3 + (2 : Int32))) fun v226 => bd (sX xs L (x3 + (3 : Int32))) fun v227 => bd (dr [10] (some x2)) fun q229 => bd (F_X11_table q229.1 v225 v226 v227) fun c228 => br (c223 = c228) (j_L_law_1414 xs L rec k x1 x2 x3) (rt (0 : Int32))
def j_L_law_1065 (xs : Nat → Int32) (L : Nat) (rec : Int32 → St (Int32)) (k : St (Int32)) (x1 : Nat) (x2 : Nat) (x3 : Int32) : St (Int32) :=
  j_L_law_1414 xs L rec k x1 x2 x3
def j_L_law_1007 (xs : Nat → Int32) (L : Nat) (rec : Int32 → St (Int32)) (k : St (Int32)) (x1 : Nat) (x2 : Nat) (x3 : Int32) : St (Int32) :=
  bd (sX xs L (x3 + (1 : Int32))) fun v231 => bd (sX xs L (x3 + (2 : Int32))) fun v232 => bd (dr [9] (some x1)) fun q234 => bd (F_X10_entry q234.1 v231 v232) fun c233 => bd (sX xs L (x3 + (1 : Int32))) fun v235 => bd (sX xs L (x3 + (2 : Int32))) fun v236 => bd (dr [10] (some x2)) fun q238 => bd (F_X11_entry q238.1 v235 v236) fun c237 => br ((Op.cmpValue (FP.dcmp c233 c237) CmpOp.l) = 0) (j_L_law_1065 xs L rec k x1 x2 x3) (br ((Op.cmpValue (FP.dcmp c233 c233) CmpOp.l) = 0) (rt (0 : Int32)) (br ((Op.cmpValue (FP.dcmp c237 c237) CmpOp.l) = 0) (rt (0 : Int32)) (j_L_law_1065 xs L rec k x1 x2 x3)))
def j_L_law_1126 (xs : Nat → Int32) (L : Nat) (rec : Int32 → St (Int32)) (k : St (Int32)) (x1 : Nat) (x2 : Nat) (x3 : Int32) : St (Int32) :=
  j_L_law_1414 xs L rec k x1 x2 x3
def j_L_law_1068 (xs : Nat → Int32) (L : Nat) (rec : Int32 → St (Int32)) (k : St (Int32)) (x1 : Nat) (x2 : Nat) (x3 : Int32) : St (Int32) :=
  bd (sX xs L (x3 + (1 : Int32))) fun v242 => bd (sX xs L (x3 + (2 : Int32))) fun v243 => bd (dr [9] (some x1)) fun q245 => bd (F_X10_lookup q245.1 v242 v243) fun c244 => bd (sX xs L (x3 + (1 : Int32))) fun v246 => bd (sX xs L (x3 + (2 : Int32))) fun v247 => bd (dr [10] (some x2)) fun q249 => bd (F_X11_lookup q249.1 v246 v247) fun c248 => br ((Op.cmpValue (FP.dcmp c244 c248) CmpOp.l) = 0) (j_L_law_1126 xs L rec k x1 x2 x3) (br ((Op.cmpValue (FP.dcmp c244 c244) CmpOp.l) = 0) (rt (0 : Int32)) (br ((Op.cmpValue (FP.dcmp c248 c248) CmpOp.l) = 0) (rt (0 : Int32)) (j_L_law_1126 xs L rec k x1 x2 x3)))
def j_L_law_1177 (xs : Nat → Int32) (L : Nat) (rec : Int32 → St (Int32)) (k : St (Int32)) (x1 : Nat) (x2 : Nat) (x3 : Int32) : St (Int32) :=
  j_L_law_1414 xs L rec k x1 x2 x3
def j_L_law_1129 (xs : Nat → Int32) (L : Nat) (rec : Int32 → St (Int32)) (k : St (Int32)) (x1 : Nat) (x2 : Nat) (x3 : Int32) : St (Int32) :=
  bd (sX xs L (x3 + (1 : Int32))) fun v253 => bd (dr [9] (some x1)) fun q255 => bd (F_X10_off q255.1 v253) fun c254 => bd (sX xs L (x3 + (1 : Int32))) fun v256 => bd (dr [10] (some x2)) fun q258 => bd (F_X11_off q258.1 v256) fun c257 => br ((Op.cmpValue (FP.dcmp c254 c257) CmpOp.l) = 0) (j_L_law_1177 xs L rec k x1 x2 x3) (br ((Op.cmpValue (FP.dcmp c254 c254) CmpOp.l) = 0) (rt (0 : Int32)) (br ((Op.cmpValue (FP.dcmp c257 c257) CmpOp.l) = 0) (rt (0 : Int32)) (j_L_law_1177 xs L rec k x1 x2 x3)))
def j_L_law_1180 (xs : Nat → Int32) (L : Nat) (rec : Int32 → St (Int32)) (k : St (Int32)) (x1 : Nat) (x2 : Nat) (x3 : Int32) : St (Int32) :=
  bd (sX xs L (x3 + (1 : Int32))) fun v262 => bd (dr [9] (some x1)) fun q264 => bd (F_X10_offAt q264.1 v262) fun c263 => bd (sX xs L (x3 + (1 : Int32))) fun v265 => bd (dr [10] (some x2)) fun q267 => bd (F_X11_offAt q267.1 v265) fun c266 => br (c263 = c266) (j_L_law_1414 xs L rec k x1 x2 x3) (rt (0 : Int32))
def j_L_law_1203 (xs : Nat → Int32) (L : Nat) (rec : Int32 → St (Int32)) (k : St (Int32)) (x1 : Nat) (x2 : Nat) (x3 : Int32) : St (Int32) :=
  bd (sX xs L (x3 + (1 : Int32))) fun v269 => bd (sX xs L (x3 + (2 : Int32))) fun v270 => bd (dr [9] (some x1)) fun q272 => bd (F_X10_bank q272.1 v269 v270) fun c271 => bd (sX xs L (x3 + (1 : Int32))) fun v273 => bd (sX xs L (x3 + (2 : Int32))) fun v274 => bd (dr [10] (some x2)) fun q276 => bd (F_X11_bank q276.1 v273 v274) fun c275 => br ((lg_cmp c271 c275) = 0) (j_L_law_1414 xs L rec k x1 x2 x3) (rt (0 : Int32))
def j_L_law_1237 (xs : Nat → Int32) (L : Nat) (rec : Int32 → St (Int32)) (k : St (Int32)) (x1 : Nat) (x2 : Nat) (x3 : Int32) : St (Int32) :=
  bd (sX xs L (x3 + (1 : Int32))) fun v278 => bd (dr [9] (some x1)) fun q280 => bd (F_X10_free q280.1 v278) fun c279 => bd (sX xs L (x3 + (1 : Int32))) fun v281 => bd (dr [10] (some x2)) fun q283 => bd (F_X11_free q283.1 v281) fun c282 => br (c279 = c282) (j_L_law_1414 xs L rec k x1 x2 x3) (rt (0 : Int32))
def j_L_law_1260 (xs : Nat → Int32) (L : Nat) (rec : Int32 → St (Int32)) (k : St (Int32)) (x1 : Nat) (x2 : Nat) (x3 : Int32) : St (Int32) :=
  bd (sX xs L (x3 + (1 : Int32))) fun v285 => bd (sX xs L (x3 + (2 : Int32))) fun v286 => bd (sX xs L (x3 + (3 : Int32))) fun v287 => bd (sX xs L (x3 + (4 : Int32))) fun v288 => bd (dr [9] (some x1)) fun q290 => bd (F_X10_hold q290.1 v285 v286 ((v287.toInt64 <<< ((32 : Int32).toInt64 &&& 63)) ||| (v288.toInt64 &&& (4294967295 : Int64)))) fun c289 => bd (sX xs L (x3 + (1 : Int32))) fun v291 => bd (sX xs L (x3 + (2 : Int32))) fun v292 => bd (sX xs L (x3 + (3 : Int32))) fun v293 => bd (sX xs L (x3 + (4 : Int32))) fun v294 => bd (dr [10] (some x2)) fun q296 => bd (F_X11_hold q296.1 v291 v292 ((v293.toInt64 <<< ((32 : Int32).toInt64 &&& 63)) ||| (v294.toInt64 &&& (4294967295 : Int64)))) fun c295 => br ((lg_cmp c289 c295) = 0) (j_L_law_1414 xs L rec k x1 x2 x3) (rt (0 : Int32))
def j_L_law_1334 (xs : Nat → Int32) (L : Nat) (rec : Int32 → St (Int32)) (k : St (Int32)) (x1 : Nat) (x2 : Nat) (x3 : Int32) : St (Int32) :=
  bd (sX xs L (x3 + (1 : Int32))) fun v298 => bd (sX xs L (x3 + (2 : Int32))) fun v299 => bd (dr [9] (some x1)) fun q301 => bd (F_X10_held q301.1 v298 v299) fun c300 => bd (sX xs L (x3 + (1 : Int32))) fun v302 => bd (sX xs L (x3 + (2 : Int32))) fun v303 => bd (dr [10] (some x2)) fun q305 => bd (F_X11_held q305.1 v302 v303) fun c304 => br ((lg_cmp c300 c304) = 0) (j_L_law_1414 xs L rec k x1 x2 x3) (rt (0 : Int32))
def j_L_law_1368 (xs : Nat → Int32) (L : Nat) (rec : Int32 → St (Int32)) (k : St (Int32)) (x1 : Nat) (x2 : Nat) (x3 : Int32) : St (Int32) :=
  bd (sX xs L (x3 + (1 : Int32))) fun v307 => bd (dr [9] (some x1)) fun q309 => bd (F_X10_readings q309.1 v307) fun c308 => bd (sX xs L (x3 + (1 : Int32))) fun v310 => bd (dr [10] (some x2)) fun q312 => bd (F_X11_readings q312.1 v310) fun c311 => br (c308 = c311) (j_L_law_1414 xs L rec k x1 x2 x3) (rt (0 : Int32))
def j_L_law_1391 (xs : Nat → Int32) (L : Nat) (rec : Int32 → St (Int32)) (k : St (Int32)) (x1 : Nat) (x2 : Nat) (x3 : Int32) : St (Int32) :=
  bd (sX xs L (x3 + (1 : Int32))) fun v314 => bd (dr [9] (some x1)) fun q316 => bd (F_X10_count q316.1 v314) fun c315 => bd (sX xs L (x3 + (1 : Int32))) fun v317 => bd (dr [10] (some x2)) fun q319 => bd (F_X11_count q319.1 v317) fun c318 => br (c315 = c318) (j_L_law_1414 xs L rec k x1 x2 x3) (rt (0 : Int32))
def b_L_law_18 (xs : Nat → Int32) (L : Nat) (x1 : Nat) (x2 : Nat) (rec : Int32 → St (Int32)) (k : St (Int32)) (x3 : Int32) : St (Int32) :=
  br (((Int32.ofNat L) - (5 : Int32)) < x3) (k) (bd (sX xs L x3) fun v7 => bd (rt (v7 &&& (63 : Int32))) fun w8 => br (w8 = (0)) (j_L_law_184 xs L rec k x1 x2 x3) (br (w8 = (1)) (j_L_law_237 xs L rec k x1 x2 x3) (br (w8 = (2)) (j_L_law_270 xs L rec k x1 x2 x3) (br (w8 = (3)) (j_L_law_293 xs L rec k x1 x2 x3) (br (w8 = (4)) (j_L_law_326 xs L rec k x1 x2 x3) (br (w8 = (5)) (j_L_law_339 xs L rec k x1 x2 x3) (br (w8 = (6)) (j_L_law_352 xs L rec k x1 x2 x3) (br (w8 = (7)) (j_L_law_375 xs L rec k x1 x2 x3) (br (w8 = (8)) (j_L_law_418 xs L rec k x1 x2 x3) (br (w8 = (9)) (j_L_law_471 xs L rec k x1 x2 x3) (br (w8 = (10)) (j_L_law_504 xs L rec k x1 x2 x3) (br (w8 = (11)) (j_L_law_557 xs L rec k x1 x2 x3) (br (w8 = (12)) (j_L_law_580 xs L rec k x1 x2 x3) (br (w8 = (13)) (j_L_law_613 xs L rec k x1 x2 x3) (br (w8 = (14)) (j_L_law_646 xs L rec k x1 x2 x3) (br (w8 = (15)) (j_L_law_679 xs L rec k x1 x2 x3) (br (w8 = (16)) (j_L_law_712 xs L rec k x1 x2 x3) (br (w8 = (17)) (j_L_law_755 xs L rec k x1 x2 x3) (br (w8 = (18)) (j_L_law_788 xs L rec k x1 x2 x3) (br (w8 = (19)) (j_L_law_822 xs L rec k x1 x2 x3) (br (w8 = (20)) (j_L_law_855 xs L rec k x1 x2 x3) (br (w8 = (21)) (j_L_law_908 xs L rec k x1 x2 x3) (br (w8 = (22)) (j_L_law_941 xs L rec k x1 x2 x3) (br (w8 = (23)) (j_L_law_964 xs L rec k x1 x2 x3) (br (w8 = (24)) (j_L_law_1007 xs L rec k x1 x2 x3) (br (w8 = (25)) (j_L_law_1068 xs L rec k x1 x2 x3) (br (w8 = (26)) (j_L_law_1129 xs L rec k x1 x2 x3) (br (w8 = (27)) (j_L_law_1180 xs L rec k x1 x2 x3) (br (w8 = (28)) (j_L_law_1203 xs L rec k x1 x2 x3) (br (w8 = (29)) (j_L_law_1237 xs L rec k x1 x2 x3) (br (w8 = (30)) (j_L_law_1260 xs L rec k x1 x2 x3) (br (w8 = (31)) (j_L_law_1334 xs L rec k x1 x2 x3) (br (w8 = (32)) (j_L_law_1368 xs L rec k x1 x2 x3) (br (w8 = (33)) (j_L_law_1391 xs L rec k x1 x2 x3) (j_L_law_1414 xs L rec k x1 x2 x3)))))))))))))))))))))))))))))))))))
def l_L_law_18 (xs : Nat → Int32) (L : Nat) (x1 : Nat) (x2 : Nat) (k : St (Int32)) : Nat → Int32 → St (Int32)
  | 0 => fun _ => fl
  | n + 1 => fun x3 => b_L_law_18 xs L x1 x2 (l_L_law_18 xs L x1 x2 k n) k x3
def F_L_law (xs : Nat → Int32) (L : Nat) : St (Int32) :=
  bd (mk 7 (.inr (9, [.null, .null, .null, .null, .null, .null, .int 0]))) fun a1 => bd (F_X10_init a1) fun c2 => bd (mk 22 (.inr (10, [.null, .null, .null, .null, .int 0, .null, .null, .null, .int 0, .null, .null, .null, .null, .null, .null, .null, .null, .null, .null, .null, .null, .null]))) fun a3 => bd (F_X11_init a3) fun c4 => l_L_law_18 xs L a1 a3 (rt (1 : Int32)) FU (0 : Int32)
set_option maxHeartbeats 4000000 in
set_option maxRecDepth 100000 in
theorem w_L_law_1414 {l : Launch} {D : va_G} {cy : Nat → ClassId} {z : Nat} {p : Program} {e : Env} {s : State} {m : MethodId} {below : List Frame} {meth : Method} {c : Code} {ws0 wsf : WS} {b L : Nat} {xs : Nat → Int32} (cx : LX D cy z p s m meth c b L xs) (hE : AL ws0 wsf room_1.cells room_1.slots) (rec : Int32 → St (Int32)) (k : St (Int32)) (x1 : Nat) (x2 : Nat) (hrec : ∀ (x3 : Int32), AtL l D cy z p e s m below meth c b ws0 wsf 18 [(0, .ref b), (1, .ref x1), (2, .ref x2), (3, .int x3)] [] (rec x3)) (hkk : AtL l D cy z p e s m below meth c b ws0 wsf 1420 [] [] (k)) (x3 : Int32) : AtL l D cy z p e s m below meth c b ws0 wsf 1414 [(0, .ref b), (1, .ref x1), (2, .ref x2), (3, .int x3)] [] (j_L_law_1414 xs L rec k x1 x2 x3) := by
  intro ws H locs cells slots ls hl hH hF
  obtain ⟨hx, hb, hr, hml, hown, hk, hz, hlocks, hX, hbl, hbA, hz2, hfr, hlo⟩ := id cx
  unfold j_L_law_1414 at hF
  refine lv_iinc (v := (x3 + (5 : Int32))) (lv' := [(3, .int (x3 + (5 : Int32))), (0, .ref b), (1, .ref x1), (2, .ref x2)]) hx hb dL_law_1414 hl (k := 3) rfl (by first | rfl | (congr 1)) (by decide) (by first | rfl | simp [m_cat, m_ci, m_cl, m_cf, m_cd, m_cr]) (fun ls hl => ?_)
  refine lv_goto (tgt := 18) hx hb dL_law_1417 (by decide) ?_
  exact hrec _ _ _ _ _ _ _ (lv_sub hl [1, 2, 3, 0] rfl) hH hF
set_option maxHeartbeats 4000000 in
set_option maxRecDepth 100000 in
theorem w_L_law_184 {l : Launch} {D : va_G} {cy : Nat → ClassId} {z : Nat} {p : Program} {e : Env} {s : State} {m : MethodId} {below : List Frame} {meth : Method} {c : Code} {ws0 wsf : WS} {b L : Nat} {xs : Nat → Int32} (cx : LX D cy z p s m meth c b L xs) (hE : AL ws0 wsf room_1.cells room_1.slots) (rec : Int32 → St (Int32)) (k : St (Int32)) (x1 : Nat) (x2 : Nat) (hrec : ∀ (x3 : Int32), AtL l D cy z p e s m below meth c b ws0 wsf 18 [(0, .ref b), (1, .ref x1), (2, .ref x2), (3, .int x3)] [] (rec x3)) (hkk : AtL l D cy z p e s m below meth c b ws0 wsf 1420 [] [] (k)) (x3 : Int32) : AtL l D cy z p e s m below meth c b ws0 wsf 184 [(0, .ref b), (1, .ref x1), (2, .ref x2), (3, .int x3)] [] (j_L_law_184 xs L rec k x1 x2 x3) := by
  intro ws H locs cells slots ls hl hH hF
  obtain ⟨hx, hb, hr, hml, hown, hk, hz, hlocks, hX, hbl, hbA, hz2, hfr, hlo⟩ := id cx
  unfold j_L_law_184 at hF
  refine lv_aload_n hx hb dL_law_184 rfl (lv_at hl 1 rfl) ?_
  refine lv_aload_n hx hb dL_law_185 rfl (lv_at hl 0 rfl) ?_
  refine lv_iload_n hx hb dL_law_186 rfl (lv_at hl 3 rfl) ?_
  refine lv_iconst (v := (1)) hx hb dL_law_187 (by decide) ?_
  refine lv_iadd hx hb dL_law_188 ?_
  obtain ⟨hinv9, hF⟩ := sX_t hF
  refine va_sld hx hb hX hbl hbA hH.2.1 hinv9 dL_law_189 ?_
  refine lv_topi (fun v9 hv9 => ?_)
  have hF := rt_t hv9 hF
  refine lv_aload_n hx hb dL_law_190 rfl (lv_at hl 0 rfl) ?_
  refine lv_iload_n hx hb dL_law_191 rfl (lv_at hl 3 rfl) ?_
  refine lv_iconst (v := (2)) hx hb dL_law_192 (by decide) ?_
  refine lv_iadd hx hb dL_law_193 ?_
  obtain ⟨hinv10, hF⟩ := sX_t hF
  refine va_sld hx hb hX hbl hbA hH.2.1 hinv10 dL_law_194 ?_
  refine lv_topi (fun v10 hv10 => ?_)
  have hF := rt_t hv10 hF
  refine lv_aload_n hx hb dL_law_195 rfl (lv_at hl 0 rfl) ?_
  refine lv_iload_n hx hb dL_law_196 rfl (lv_at hl 3 rfl) ?_
  refine lv_iconst (v := (3)) hx hb dL_law_197 (by decide) ?_
  refine lv_iadd hx hb dL_law_198 ?_
  obtain ⟨hinv11, hF⟩ := sX_t hF
  refine va_sld hx hb hX hbl hbA hH.2.1 hinv11 dL_law_199 ?_
  refine lv_topi (fun v11 hv11 => ?_)
  have hF := rt_t hv11 hF
  refine lv_aload_n hx hb dL_law_200 rfl (lv_at hl 0 rfl) ?_
  refine lv_iload_n hx hb dL_law_201 rfl (lv_at hl 3 rfl) ?_
  refine lv_iconst (v := (4)) hx hb dL_law_202 (by decide) ?_
  refine lv_iadd hx hb dL_law_203 ?_
  obtain ⟨hinv12, hF⟩ := sX_t hF
  refine va_sld hx hb hX hbl hbA hH.2.1 hinv12 dL_law_204 ?_
  refine lv_topi (fun v12 hv12 => ?_)
  have hF := rt_t hv12 hF
  refine m_cVI hx hb hml hown hk hH hE hz (F := fun q14 => F_X10_reading q14.1 v9 v10 v11 v12) (C := RX10) (T := TX10) (N := 7) rfl (As := [.int v9, .int v10, .int v11, .int v12]) (rest := []) (fun o => t_X10_reading l D cy z o v9 v10 v11 v12) hF wd_189 wd_190 wd_33 wd_192 wd_191 yn_X10_reading ⟨Nat.le_trans (by decide) hfr, Nat.le_trans (by decide) hlo⟩ hl.1 (by first | exact Nat.le_of_ble_eq_true rfl | simp [m_cat, m_ci, m_cl, m_cf, m_cd, m_cr]) rfl dL_law_205 (fun c13 ws H locs cells slots hH hF => ?_)
  refine lv_aload_n hx hb dL_law_208 rfl (lv_at hl 2 rfl) ?_
  refine lv_aload_n hx hb dL_law_209 rfl (lv_at hl 0 rfl) ?_
  refine lv_iload_n hx hb dL_law_210 rfl (lv_at hl 3 rfl) ?_
  refine lv_iconst (v := (1)) hx hb dL_law_211 (by decide) ?_
  refine lv_iadd hx hb dL_law_212 ?_
  obtain ⟨hinv15, hF⟩ := sX_t hF
  refine va_sld hx hb hX hbl hbA hH.2.1 hinv15 dL_law_213 ?_
  refine lv_topi (fun v15 hv15 => ?_)
  have hF := rt_t hv15 hF
  refine lv_aload_n hx hb dL_law_214 rfl (lv_at hl 0 rfl) ?_
  refine lv_iload_n hx hb dL_law_215 rfl (lv_at hl 3 rfl) ?_
  refine lv_iconst (v := (2)) hx hb dL_law_216 (by decide) ?_
  refine lv_iadd hx hb dL_law_217 ?_
  obtain ⟨hinv16, hF⟩ := sX_t hF
  refine va_sld hx hb hX hbl hbA hH.2.1 hinv16 dL_law_218 ?_
  refine lv_topi (fun v16 hv16 => ?_)
  have hF := rt_t hv16 hF
  refine lv_aload_n hx hb dL_law_219 rfl (lv_at hl 0 rfl) ?_
  refine lv_iload_n hx hb dL_law_220 rfl (lv_at hl 3 rfl) ?_
  refine lv_iconst (v := (3)) hx hb dL_law_221 (by decide) ?_
  refine lv_iadd hx hb dL_law_222 ?_
  obtain ⟨hinv17, hF⟩ := sX_t hF
  refine va_sld hx hb hX hbl hbA hH.2.1 hinv17 dL_law_223 ?_
  refine lv_topi (fun v17 hv17 => ?_)
  have hF := rt_t hv17 hF
  refine lv_aload_n hx hb dL_law_224 rfl (lv_at hl 0 rfl) ?_
  refine lv_iload_n hx hb dL_law_225 rfl (lv_at hl 3 rfl) ?_
  refine lv_iconst (v := (4)) hx hb dL_law_226 (by decide) ?_
  refine lv_iadd hx hb dL_law_227 ?_
  obtain ⟨hinv18, hF⟩ := sX_t hF
  refine va_sld hx hb hX hbl hbA hH.2.1 hinv18 dL_law_228 ?_
  refine lv_topi (fun v18 hv18 => ?_)
  have hF := rt_t hv18 hF
  refine m_cVI hx hb hml hown hk hH hE hz (F := fun q20 => F_X11_reading q20.1 v15 v16 v17 v18) (C := RX11) (T := TX11) (N := 22) rfl (As := [.int v15, .int v16, .int v17, .int v18]) (rest := [.int c13]) (fun o => t_X11_reading l D cy z o v15 v16 v17 v18) hF wd_839 wd_840 wd_38 wd_842 wd_841 yn_X11_reading ⟨Nat.le_trans (by decide) hfr, Nat.le_trans (by decide) hlo⟩ hl.1 (by first | exact Nat.le_of_ble_eq_true rfl | simp [m_cat, m_ci, m_cl, m_cf, m_cd, m_cr]) rfl dL_law_229 (fun c19 ws H locs cells slots hH hF => ?_)
  refine lv_icmp_eq (tgt := 1414) hx hb dL_law_232 (by decide) (fun hc20 => ?_) (fun hc20 => ?_)
  · have hF := bq_t hc20 hF
    exact w_L_law_1414 cx hE _ _ x1 x2 hrec hkk x3 _ _ _ _ _ _ (lv_sub hl [0, 1, 2, 3] rfl) hH hF
  · have hF := bq_f hc20 hF
    refine lv_iconst (v := (0)) hx hb dL_law_235 (by decide) ?_
    exact law_ret hx hb hr hlocks hH hE hz2 hF dL_law_236
set_option maxHeartbeats 4000000 in
set_option maxRecDepth 100000 in
theorem w_L_law_237 {l : Launch} {D : va_G} {cy : Nat → ClassId} {z : Nat} {p : Program} {e : Env} {s : State} {m : MethodId} {below : List Frame} {meth : Method} {c : Code} {ws0 wsf : WS} {b L : Nat} {xs : Nat → Int32} (cx : LX D cy z p s m meth c b L xs) (hE : AL ws0 wsf room_1.cells room_1.slots) (rec : Int32 → St (Int32)) (k : St (Int32)) (x1 : Nat) (x2 : Nat) (hrec : ∀ (x3 : Int32), AtL l D cy z p e s m below meth c b ws0 wsf 18 [(0, .ref b), (1, .ref x1), (2, .ref x2), (3, .int x3)] [] (rec x3)) (hkk : AtL l D cy z p e s m below meth c b ws0 wsf 1420 [] [] (k)) (x3 : Int32) : AtL l D cy z p e s m below meth c b ws0 wsf 237 [(0, .ref b), (1, .ref x1), (2, .ref x2), (3, .int x3)] [] (j_L_law_237 xs L rec k x1 x2 x3) := by
  intro ws H locs cells slots ls hl hH hF
  obtain ⟨hx, hb, hr, hml, hown, hk, hz, hlocks, hX, hbl, hbA, hz2, hfr, hlo⟩ := id cx
  unfold j_L_law_237 at hF
  refine lv_aload_n hx hb dL_law_237 rfl (lv_at hl 1 rfl) ?_
  refine lv_aload_n hx hb dL_law_238 rfl (lv_at hl 0 rfl) ?_
  refine lv_iload_n hx hb dL_law_239 rfl (lv_at hl 3 rfl) ?_
  refine lv_iconst (v := (1)) hx hb dL_law_240 (by decide) ?_
  refine lv_iadd hx hb dL_law_241 ?_
  obtain ⟨hinv22, hF⟩ := sX_t hF
  refine va_sld hx hb hX hbl hbA hH.2.1 hinv22 dL_law_242 ?_
  refine lv_topi (fun v22 hv22 => ?_)
  have hF := rt_t hv22 hF
  refine lv_aload_n hx hb dL_law_243 rfl (lv_at hl 0 rfl) ?_
  refine lv_iload_n hx hb dL_law_244 rfl (lv_at hl 3 rfl) ?_
  refine lv_iconst (v := (2)) hx hb dL_law_245 (by decide) ?_
  refine lv_iadd hx hb dL_law_246 ?_
  obtain ⟨hinv23, hF⟩ := sX_t hF
  refine va_sld hx hb hX hbl hbA hH.2.1 hinv23 dL_law_247 ?_
  refine lv_topi (fun v23 hv23 => ?_)
  have hF := rt_t hv23 hF
  refine m_cVI hx hb hml hown hk hH hE hz (F := fun q25 => F_X10_drop q25.1 v22 v23) (C := RX10) (T := TX10) (N := 7) rfl (As := [.int v22, .int v23]) (rest := []) (fun o => t_X10_drop l D cy z o v22 v23) hF wd_207 wd_208 wd_33 wd_210 wd_209 yn_X10_drop ⟨Nat.le_trans (by decide) hfr, Nat.le_trans (by decide) hlo⟩ hl.1 (by first | exact Nat.le_of_ble_eq_true rfl | simp [m_cat, m_ci, m_cl, m_cf, m_cd, m_cr]) rfl dL_law_248 (fun c24 ws H locs cells slots hH hF => ?_)
  refine lv_aload_n hx hb dL_law_251 rfl (lv_at hl 2 rfl) ?_
  refine lv_aload_n hx hb dL_law_252 rfl (lv_at hl 0 rfl) ?_
  refine lv_iload_n hx hb dL_law_253 rfl (lv_at hl 3 rfl) ?_
  refine lv_iconst (v := (1)) hx hb dL_law_254 (by decide) ?_
  refine lv_iadd hx hb dL_law_255 ?_
  obtain ⟨hinv26, hF⟩ := sX_t hF
  refine va_sld hx hb hX hbl hbA hH.2.1 hinv26 dL_law_256 ?_
  refine lv_topi (fun v26 hv26 => ?_)
  have hF := rt_t hv26 hF
  refine lv_aload_n hx hb dL_law_257 rfl (lv_at hl 0 rfl) ?_
  refine lv_iload_n hx hb dL_law_258 rfl (lv_at hl 3 rfl) ?_
  refine lv_iconst (v := (2)) hx hb dL_law_259 (by decide) ?_
  refine lv_iadd hx hb dL_law_260 ?_
  obtain ⟨hinv27, hF⟩ := sX_t hF
  refine va_sld hx hb hX hbl hbA hH.2.1 hinv27 dL_law_261 ?_
  refine lv_topi (fun v27 hv27 => ?_)
  have hF := rt_t hv27 hF
  refine m_cVI hx hb hml hown hk hH hE hz (F := fun q29 => F_X11_drop q29.1 v26 v27) (C := RX11) (T := TX11) (N := 22) rfl (As := [.int v26, .int v27]) (rest := [.int c24]) (fun o => t_X11_drop l D cy z o v26 v27) hF wd_849 wd_850 wd_38 wd_852 wd_851 yn_X11_drop ⟨Nat.le_trans (by decide) hfr, Nat.le_trans (by decide) hlo⟩ hl.1 (by first | exact Nat.le_of_ble_eq_true rfl | simp [m_cat, m_ci, m_cl, m_cf, m_cd, m_cr]) rfl dL_law_262 (fun c28 ws H locs cells slots hH hF => ?_)
  refine lv_icmp_eq (tgt := 1414) hx hb dL_law_265 (by decide) (fun hc29 => ?_) (fun hc29 => ?_)
  · have hF := bq_t hc29 hF
    exact w_L_law_1414 cx hE _ _ x1 x2 hrec hkk x3 _ _ _ _ _ _ (lv_sub hl [0, 1, 2, 3] rfl) hH hF
  · have hF := bq_f hc29 hF
    refine lv_iconst (v := (0)) hx hb dL_law_268 (by decide) ?_
    exact law_ret hx hb hr hlocks hH hE hz2 hF dL_law_269
set_option maxHeartbeats 4000000 in
set_option maxRecDepth 100000 in
theorem w_L_law_270 {l : Launch} {D : va_G} {cy : Nat → ClassId} {z : Nat} {p : Program} {e : Env} {s : State} {m : MethodId} {below : List Frame} {meth : Method} {c : Code} {ws0 wsf : WS} {b L : Nat} {xs : Nat → Int32} (cx : LX D cy z p s m meth c b L xs) (hE : AL ws0 wsf room_1.cells room_1.slots) (rec : Int32 → St (Int32)) (k : St (Int32)) (x1 : Nat) (x2 : Nat) (hrec : ∀ (x3 : Int32), AtL l D cy z p e s m below meth c b ws0 wsf 18 [(0, .ref b), (1, .ref x1), (2, .ref x2), (3, .int x3)] [] (rec x3)) (hkk : AtL l D cy z p e s m below meth c b ws0 wsf 1420 [] [] (k)) (x3 : Int32) : AtL l D cy z p e s m below meth c b ws0 wsf 270 [(0, .ref b), (1, .ref x1), (2, .ref x2), (3, .int x3)] [] (j_L_law_270 xs L rec k x1 x2 x3) := by
  intro ws H locs cells slots ls hl hH hF
  obtain ⟨hx, hb, hr, hml, hown, hk, hz, hlocks, hX, hbl, hbA, hz2, hfr, hlo⟩ := id cx
  unfold j_L_law_270 at hF
  refine lv_aload_n hx hb dL_law_270 rfl (lv_at hl 1 rfl) ?_
  refine lv_aload_n hx hb dL_law_271 rfl (lv_at hl 0 rfl) ?_
  refine lv_iload_n hx hb dL_law_272 rfl (lv_at hl 3 rfl) ?_
  refine lv_iconst (v := (1)) hx hb dL_law_273 (by decide) ?_
  refine lv_iadd hx hb dL_law_274 ?_
  obtain ⟨hinv31, hF⟩ := sX_t hF
  refine va_sld hx hb hX hbl hbA hH.2.1 hinv31 dL_law_275 ?_
  refine lv_topi (fun v31 hv31 => ?_)
  have hF := rt_t hv31 hF
  refine m_cVI hx hb hml hown hk hH hE hz (F := fun q33 => F_X10_line q33.1 v31) (C := RX10) (T := TX10) (N := 7) rfl (As := [.int v31]) (rest := []) (fun o => t_X10_line l D cy z o v31) hF wd_223 wd_224 wd_33 wd_226 wd_225 yn_X10_line ⟨Nat.le_trans (by decide) hfr, Nat.le_trans (by decide) hlo⟩ hl.1 (by first | exact Nat.le_of_ble_eq_true rfl | simp [m_cat, m_ci, m_cl, m_cf, m_cd, m_cr]) rfl dL_law_276 (fun c32 ws H locs cells slots hH hF => ?_)
  refine lv_aload_n hx hb dL_law_279 rfl (lv_at hl 2 rfl) ?_
  refine lv_aload_n hx hb dL_law_280 rfl (lv_at hl 0 rfl) ?_
  refine lv_iload_n hx hb dL_law_281 rfl (lv_at hl 3 rfl) ?_
  refine lv_iconst (v := (1)) hx hb dL_law_282 (by decide) ?_
  refine lv_iadd hx hb dL_law_283 ?_
  obtain ⟨hinv34, hF⟩ := sX_t hF
  refine va_sld hx hb hX hbl hbA hH.2.1 hinv34 dL_law_284 ?_
  refine lv_topi (fun v34 hv34 => ?_)
  have hF := rt_t hv34 hF
  refine m_cVI hx hb hml hown hk hH hE hz (F := fun q36 => F_X11_line q36.1 v34) (C := RX11) (T := TX11) (N := 22) rfl (As := [.int v34]) (rest := [.int c32]) (fun o => t_X11_line l D cy z o v34) hF wd_857 wd_858 wd_38 wd_860 wd_859 yn_X11_line ⟨Nat.le_trans (by decide) hfr, Nat.le_trans (by decide) hlo⟩ hl.1 (by first | exact Nat.le_of_ble_eq_true rfl | simp [m_cat, m_ci, m_cl, m_cf, m_cd, m_cr]) rfl dL_law_285 (fun c35 ws H locs cells slots hH hF => ?_)
  refine lv_icmp_eq (tgt := 1414) hx hb dL_law_288 (by decide) (fun hc36 => ?_) (fun hc36 => ?_)
  · have hF := bq_t hc36 hF
    exact w_L_law_1414 cx hE _ _ x1 x2 hrec hkk x3 _ _ _ _ _ _ (lv_sub hl [0, 1, 2, 3] rfl) hH hF
  · have hF := bq_f hc36 hF
    refine lv_iconst (v := (0)) hx hb dL_law_291 (by decide) ?_
    exact law_ret hx hb hr hlocks hH hE hz2 hF dL_law_292
set_option maxHeartbeats 4000000 in
set_option maxRecDepth 100000 in
theorem w_L_law_293 {l : Launch} {D : va_G} {cy : Nat → ClassId} {z : Nat} {p : Program} {e : Env} {s : State} {m : MethodId} {below : List Frame} {meth : Method} {c : Code} {ws0 wsf : WS} {b L : Nat} {xs : Nat → Int32} (cx : LX D cy z p s m meth c b L xs) (hE : AL ws0 wsf room_1.cells room_1.slots) (rec : Int32 → St (Int32)) (k : St (Int32)) (x1 : Nat) (x2 : Nat) (hrec : ∀ (x3 : Int32), AtL l D cy z p e s m below meth c b ws0 wsf 18 [(0, .ref b), (1, .ref x1), (2, .ref x2), (3, .int x3)] [] (rec x3)) (hkk : AtL l D cy z p e s m below meth c b ws0 wsf 1420 [] [] (k)) (x3 : Int32) : AtL l D cy z p e s m below meth c b ws0 wsf 293 [(0, .ref b), (1, .ref x1), (2, .ref x2), (3, .int x3)] [] (j_L_law_293 xs L rec k x1 x2 x3) := by
  intro ws H locs cells slots ls hl hH hF
  obtain ⟨hx, hb, hr, hml, hown, hk, hz, hlocks, hX, hbl, hbA, hz2, hfr, hlo⟩ := id cx
  unfold j_L_law_293 at hF
  refine lv_aload_n hx hb dL_law_293 rfl (lv_at hl 1 rfl) ?_
  refine lv_aload_n hx hb dL_law_294 rfl (lv_at hl 0 rfl) ?_
  refine lv_iload_n hx hb dL_law_295 rfl (lv_at hl 3 rfl) ?_
  refine lv_iconst (v := (1)) hx hb dL_law_296 (by decide) ?_
  refine lv_iadd hx hb dL_law_297 ?_
  obtain ⟨hinv38, hF⟩ := sX_t hF
  refine va_sld hx hb hX hbl hbA hH.2.1 hinv38 dL_law_298 ?_
  refine lv_topi (fun v38 hv38 => ?_)
  have hF := rt_t hv38 hF
  refine lv_aload_n hx hb dL_law_299 rfl (lv_at hl 0 rfl) ?_
  refine lv_iload_n hx hb dL_law_300 rfl (lv_at hl 3 rfl) ?_
  refine lv_iconst (v := (2)) hx hb dL_law_301 (by decide) ?_
  refine lv_iadd hx hb dL_law_302 ?_
  obtain ⟨hinv39, hF⟩ := sX_t hF
  refine va_sld hx hb hX hbl hbA hH.2.1 hinv39 dL_law_303 ?_
  refine lv_topi (fun v39 hv39 => ?_)
  have hF := rt_t hv39 hF
  refine m_cVI hx hb hml hown hk hH hE hz (F := fun q41 => F_X10_knot q41.1 v38 v39) (C := RX10) (T := TX10) (N := 7) rfl (As := [.int v38, .int v39]) (rest := []) (fun o => t_X10_knot l D cy z o v38 v39) hF wd_277 wd_278 wd_33 wd_280 wd_279 yn_X10_knot ⟨Nat.le_trans (by decide) hfr, Nat.le_trans (by decide) hlo⟩ hl.1 (by first | exact Nat.le_of_ble_eq_true rfl | simp [m_cat, m_ci, m_cl, m_cf, m_cd, m_cr]) rfl dL_law_304 (fun c40 ws H locs cells slots hH hF => ?_)
  refine lv_aload_n hx hb dL_law_307 rfl (lv_at hl 2 rfl) ?_
  refine lv_aload_n hx hb dL_law_308 rfl (lv_at hl 0 rfl) ?_
  refine lv_iload_n hx hb dL_law_309 rfl (lv_at hl 3 rfl) ?_
  refine lv_iconst (v := (1)) hx hb dL_law_310 (by decide) ?_
  refine lv_iadd hx hb dL_law_311 ?_
  obtain ⟨hinv42, hF⟩ := sX_t hF
  refine va_sld hx hb hX hbl hbA hH.2.1 hinv42 dL_law_312 ?_
  refine lv_topi (fun v42 hv42 => ?_)
  have hF := rt_t hv42 hF
  refine lv_aload_n hx hb dL_law_313 rfl (lv_at hl 0 rfl) ?_
  refine lv_iload_n hx hb dL_law_314 rfl (lv_at hl 3 rfl) ?_
  refine lv_iconst (v := (2)) hx hb dL_law_315 (by decide) ?_
  refine lv_iadd hx hb dL_law_316 ?_
  obtain ⟨hinv43, hF⟩ := sX_t hF
  refine va_sld hx hb hX hbl hbA hH.2.1 hinv43 dL_law_317 ?_
  refine lv_topi (fun v43 hv43 => ?_)
  have hF := rt_t hv43 hF
  refine m_cVI hx hb hml hown hk hH hE hz (F := fun q45 => F_X11_knot q45.1 v42 v43) (C := RX11) (T := TX11) (N := 22) rfl (As := [.int v42, .int v43]) (rest := [.int c40]) (fun o => t_X11_knot l D cy z o v42 v43) hF wd_879 wd_880 wd_38 wd_882 wd_881 yn_X11_knot ⟨Nat.le_trans (by decide) hfr, Nat.le_trans (by decide) hlo⟩ hl.1 (by first | exact Nat.le_of_ble_eq_true rfl | simp [m_cat, m_ci, m_cl, m_cf, m_cd, m_cr]) rfl dL_law_318 (fun c44 ws H locs cells slots hH hF => ?_)
  refine lv_icmp_eq (tgt := 1414) hx hb dL_law_321 (by decide) (fun hc45 => ?_) (fun hc45 => ?_)
  · have hF := bq_t hc45 hF
    exact w_L_law_1414 cx hE _ _ x1 x2 hrec hkk x3 _ _ _ _ _ _ (lv_sub hl [0, 1, 2, 3] rfl) hH hF
  · have hF := bq_f hc45 hF
    refine lv_iconst (v := (0)) hx hb dL_law_324 (by decide) ?_
    exact law_ret hx hb hr hlocks hH hE hz2 hF dL_law_325
set_option maxHeartbeats 4000000 in
set_option maxRecDepth 100000 in
theorem w_L_law_326 {l : Launch} {D : va_G} {cy : Nat → ClassId} {z : Nat} {p : Program} {e : Env} {s : State} {m : MethodId} {below : List Frame} {meth : Method} {c : Code} {ws0 wsf : WS} {b L : Nat} {xs : Nat → Int32} (cx : LX D cy z p s m meth c b L xs) (hE : AL ws0 wsf room_1.cells room_1.slots) (rec : Int32 → St (Int32)) (k : St (Int32)) (x1 : Nat) (x2 : Nat) (hrec : ∀ (x3 : Int32), AtL l D cy z p e s m below meth c b ws0 wsf 18 [(0, .ref b), (1, .ref x1), (2, .ref x2), (3, .int x3)] [] (rec x3)) (hkk : AtL l D cy z p e s m below meth c b ws0 wsf 1420 [] [] (k)) (x3 : Int32) : AtL l D cy z p e s m below meth c b ws0 wsf 326 [(0, .ref b), (1, .ref x1), (2, .ref x2), (3, .int x3)] [] (j_L_law_326 xs L rec k x1 x2 x3) := by
  intro ws H locs cells slots ls hl hH hF
  obtain ⟨hx, hb, hr, hml, hown, hk, hz, hlocks, hX, hbl, hbA, hz2, hfr, hlo⟩ := id cx
  unfold j_L_law_326 at hF
  refine lv_aload_n hx hb dL_law_326 rfl (lv_at hl 1 rfl) ?_
  refine m_cVI hx hb hml hown hk hH hE hz (F := fun q48 => F_X10_hush q48.1) (C := RX10) (T := TX10) (N := 7) rfl (As := []) (rest := []) (fun o => t_X10_hush l D cy z o) hF wd_289 wd_290 wd_33 wd_292 wd_291 yn_X10_hush ⟨Nat.le_trans (by decide) hfr, Nat.le_trans (by decide) hlo⟩ hl.1 (by first | exact Nat.le_of_ble_eq_true rfl | simp [m_cat, m_ci, m_cl, m_cf, m_cd, m_cr]) rfl dL_law_327 (fun c47 ws H locs cells slots hH hF => ?_)
  refine lv_aload_n hx hb dL_law_330 rfl (lv_at hl 2 rfl) ?_
  refine m_cVI hx hb hml hown hk hH hE hz (F := fun q50 => F_X11_hush q50.1) (C := RX11) (T := TX11) (N := 22) rfl (As := []) (rest := [.int c47]) (fun o => t_X11_hush l D cy z o) hF wd_883 wd_884 wd_38 wd_886 wd_885 yn_X11_hush ⟨Nat.le_trans (by decide) hfr, Nat.le_trans (by decide) hlo⟩ hl.1 (by first | exact Nat.le_of_ble_eq_true rfl | simp [m_cat, m_ci, m_cl, m_cf, m_cd, m_cr]) rfl dL_law_331 (fun c49 ws H locs cells slots hH hF => ?_)
  refine lv_icmp_eq (tgt := 1414) hx hb dL_law_334 (by decide) (fun hc50 => ?_) (fun hc50 => ?_)
  · have hF := bq_t hc50 hF
    exact w_L_law_1414 cx hE _ _ x1 x2 hrec hkk x3 _ _ _ _ _ _ (lv_sub hl [0, 1, 2, 3] rfl) hH hF
  · have hF := bq_f hc50 hF
    refine lv_iconst (v := (0)) hx hb dL_law_337 (by decide) ?_
    exact law_ret hx hb hr hlocks hH hE hz2 hF dL_law_338
set_option maxHeartbeats 4000000 in
set_option maxRecDepth 100000 in
theorem w_L_law_339 {l : Launch} {D : va_G} {cy : Nat → ClassId} {z : Nat} {p : Program} {e : Env} {s : State} {m : MethodId} {below : List Frame} {meth : Method} {c : Code} {ws0 wsf : WS} {b L : Nat} {xs : Nat → Int32} (cx : LX D cy z p s m meth c b L xs) (hE : AL ws0 wsf room_1.cells room_1.slots) (rec : Int32 → St (Int32)) (k : St (Int32)) (x1 : Nat) (x2 : Nat) (hrec : ∀ (x3 : Int32), AtL l D cy z p e s m below meth c b ws0 wsf 18 [(0, .ref b), (1, .ref x1), (2, .ref x2), (3, .int x3)] [] (rec x3)) (hkk : AtL l D cy z p e s m below meth c b ws0 wsf 1420 [] [] (k)) (x3 : Int32) : AtL l D cy z p e s m below meth c b ws0 wsf 339 [(0, .ref b), (1, .ref x1), (2, .ref x2), (3, .int x3)] [] (j_L_law_339 xs L rec k x1 x2 x3) := by
  intro ws H locs cells slots ls hl hH hF
  obtain ⟨hx, hb, hr, hml, hown, hk, hz, hlocks, hX, hbl, hbA, hz2, hfr, hlo⟩ := id cx
  unfold j_L_law_339 at hF
  refine lv_aload_n hx hb dL_law_339 rfl (lv_at hl 1 rfl) ?_
  refine m_cVI hx hb hml hown hk hH hE hz (F := fun q53 => F_X10_pieces q53.1) (C := RX10) (T := TX10) (N := 7) rfl (As := []) (rest := []) (fun o => t_X10_pieces l D cy z o) hF wd_293 wd_294 wd_33 wd_296 wd_295 yn_X10_pieces ⟨Nat.le_trans (by decide) hfr, Nat.le_trans (by decide) hlo⟩ hl.1 (by first | exact Nat.le_of_ble_eq_true rfl | simp [m_cat, m_ci, m_cl, m_cf, m_cd, m_cr]) rfl dL_law_340 (fun c52 ws H locs cells slots hH hF => ?_)
  refine lv_aload_n hx hb dL_law_343 rfl (lv_at hl 2 rfl) ?_
  refine m_cVI hx hb hml hown hk hH hE hz (F := fun q55 => F_X11_pieces q55.1) (C := RX11) (T := TX11) (N := 22) rfl (As := []) (rest := [.int c52]) (fun o => t_X11_pieces l D cy z o) hF wd_887 wd_888 wd_38 wd_890 wd_889 yn_X11_pieces ⟨Nat.le_trans (by decide) hfr, Nat.le_trans (by decide) hlo⟩ hl.1 (by first | exact Nat.le_of_ble_eq_true rfl | simp [m_cat, m_ci, m_cl, m_cf, m_cd, m_cr]) rfl dL_law_344 (fun c54 ws H locs cells slots hH hF => ?_)
  refine lv_icmp_eq (tgt := 1414) hx hb dL_law_347 (by decide) (fun hc55 => ?_) (fun hc55 => ?_)
  · have hF := bq_t hc55 hF
    exact w_L_law_1414 cx hE _ _ x1 x2 hrec hkk x3 _ _ _ _ _ _ (lv_sub hl [0, 1, 2, 3] rfl) hH hF
  · have hF := bq_f hc55 hF
    refine lv_iconst (v := (0)) hx hb dL_law_350 (by decide) ?_
    exact law_ret hx hb hr hlocks hH hE hz2 hF dL_law_351
set_option maxHeartbeats 4000000 in
set_option maxRecDepth 100000 in
theorem w_L_law_352 {l : Launch} {D : va_G} {cy : Nat → ClassId} {z : Nat} {p : Program} {e : Env} {s : State} {m : MethodId} {below : List Frame} {meth : Method} {c : Code} {ws0 wsf : WS} {b L : Nat} {xs : Nat → Int32} (cx : LX D cy z p s m meth c b L xs) (hE : AL ws0 wsf room_1.cells room_1.slots) (rec : Int32 → St (Int32)) (k : St (Int32)) (x1 : Nat) (x2 : Nat) (hrec : ∀ (x3 : Int32), AtL l D cy z p e s m below meth c b ws0 wsf 18 [(0, .ref b), (1, .ref x1), (2, .ref x2), (3, .int x3)] [] (rec x3)) (hkk : AtL l D cy z p e s m below meth c b ws0 wsf 1420 [] [] (k)) (x3 : Int32) : AtL l D cy z p e s m below meth c b ws0 wsf 352 [(0, .ref b), (1, .ref x1), (2, .ref x2), (3, .int x3)] [] (j_L_law_352 xs L rec k x1 x2 x3) := by
  intro ws H locs cells slots ls hl hH hF
  obtain ⟨hx, hb, hr, hml, hown, hk, hz, hlocks, hX, hbl, hbA, hz2, hfr, hlo⟩ := id cx
  unfold j_L_law_352 at hF
  refine lv_aload_n hx hb dL_law_352 rfl (lv_at hl 1 rfl) ?_
  refine lv_aload_n hx hb dL_law_353 rfl (lv_at hl 0 rfl) ?_
  refine lv_iload_n hx hb dL_law_354 rfl (lv_at hl 3 rfl) ?_
  refine lv_iconst (v := (1)) hx hb dL_law_355 (by decide) ?_
  refine lv_iadd hx hb dL_law_356 ?_
  obtain ⟨hinv57, hF⟩ := sX_t hF
  refine va_sld hx hb hX hbl hbA hH.2.1 hinv57 dL_law_357 ?_
  refine lv_topi (fun v57 hv57 => ?_)
  have hF := rt_t hv57 hF
  refine m_cVI hx hb hml hown hk hH hE hz (F := fun q59 => F_X10_gather q59.1 v57) (C := RX10) (T := TX10) (N := 7) rfl (As := [.int v57]) (rest := []) (fun o => t_X10_gather l D cy z o v57) hF wd_311 wd_312 wd_33 wd_314 wd_313 yn_X10_gather ⟨Nat.le_trans (by decide) hfr, Nat.le_trans (by decide) hlo⟩ hl.1 (by first | exact Nat.le_of_ble_eq_true rfl | simp [m_cat, m_ci, m_cl, m_cf, m_cd, m_cr]) rfl dL_law_358 (fun c58 ws H locs cells slots hH hF => ?_)
  refine lv_aload_n hx hb dL_law_361 rfl (lv_at hl 2 rfl) ?_
  refine lv_aload_n hx hb dL_law_362 rfl (lv_at hl 0 rfl) ?_
  refine lv_iload_n hx hb dL_law_363 rfl (lv_at hl 3 rfl) ?_
  refine lv_iconst (v := (1)) hx hb dL_law_364 (by decide) ?_
  refine lv_iadd hx hb dL_law_365 ?_
  obtain ⟨hinv60, hF⟩ := sX_t hF
  refine va_sld hx hb hX hbl hbA hH.2.1 hinv60 dL_law_366 ?_
  refine lv_topi (fun v60 hv60 => ?_)
  have hF := rt_t hv60 hF
  refine m_cVI hx hb hml hown hk hH hE hz (F := fun q62 => F_X11_gather q62.1 v60) (C := RX11) (T := TX11) (N := 22) rfl (As := [.int v60]) (rest := [.int c58]) (fun o => t_X11_gather l D cy z o v60) hF wd_895 wd_896 wd_38 wd_898 wd_897 yn_X11_gather ⟨Nat.le_trans (by decide) hfr, Nat.le_trans (by decide) hlo⟩ hl.1 (by first | exact Nat.le_of_ble_eq_true rfl | simp [m_cat, m_ci, m_cl, m_cf, m_cd, m_cr]) rfl dL_law_367 (fun c61 ws H locs cells slots hH hF => ?_)
  refine lv_icmp_eq (tgt := 1414) hx hb dL_law_370 (by decide) (fun hc62 => ?_) (fun hc62 => ?_)
  · have hF := bq_t hc62 hF
    exact w_L_law_1414 cx hE _ _ x1 x2 hrec hkk x3 _ _ _ _ _ _ (lv_sub hl [0, 1, 2, 3] rfl) hH hF
  · have hF := bq_f hc62 hF
    refine lv_iconst (v := (0)) hx hb dL_law_373 (by decide) ?_
    exact law_ret hx hb hr hlocks hH hE hz2 hF dL_law_374
set_option maxHeartbeats 4000000 in
set_option maxRecDepth 100000 in
theorem w_L_law_375 {l : Launch} {D : va_G} {cy : Nat → ClassId} {z : Nat} {p : Program} {e : Env} {s : State} {m : MethodId} {below : List Frame} {meth : Method} {c : Code} {ws0 wsf : WS} {b L : Nat} {xs : Nat → Int32} (cx : LX D cy z p s m meth c b L xs) (hE : AL ws0 wsf room_1.cells room_1.slots) (rec : Int32 → St (Int32)) (k : St (Int32)) (x1 : Nat) (x2 : Nat) (hrec : ∀ (x3 : Int32), AtL l D cy z p e s m below meth c b ws0 wsf 18 [(0, .ref b), (1, .ref x1), (2, .ref x2), (3, .int x3)] [] (rec x3)) (hkk : AtL l D cy z p e s m below meth c b ws0 wsf 1420 [] [] (k)) (x3 : Int32) : AtL l D cy z p e s m below meth c b ws0 wsf 375 [(0, .ref b), (1, .ref x1), (2, .ref x2), (3, .int x3)] [] (j_L_law_375 xs L rec k x1 x2 x3) := by
  intro ws H locs cells slots ls hl hH hF
  obtain ⟨hx, hb, hr, hml, hown, hk, hz, hlocks, hX, hbl, hbA, hz2, hfr, hlo⟩ := id cx
  unfold j_L_law_375 at hF
  refine lv_aload_n hx hb dL_law_375 rfl (lv_at hl 1 rfl) ?_
  refine lv_aload_n hx hb dL_law_376 rfl (lv_at hl 0 rfl) ?_
  refine lv_iload_n hx hb dL_law_377 rfl (lv_at hl 3 rfl) ?_
  refine lv_iconst (v := (1)) hx hb dL_law_378 (by decide) ?_
  refine lv_iadd hx hb dL_law_379 ?_
  obtain ⟨hinv64, hF⟩ := sX_t hF
  refine va_sld hx hb hX hbl hbA hH.2.1 hinv64 dL_law_380 ?_
  refine lv_topi (fun v64 hv64 => ?_)
  have hF := rt_t hv64 hF
  refine lv_aload_n hx hb dL_law_381 rfl (lv_at hl 0 rfl) ?_
  refine lv_iload_n hx hb dL_law_382 rfl (lv_at hl 3 rfl) ?_
  refine lv_iconst (v := (2)) hx hb dL_law_383 (by decide) ?_
  refine lv_iadd hx hb dL_law_384 ?_
  obtain ⟨hinv65, hF⟩ := sX_t hF
  refine va_sld hx hb hX hbl hbA hH.2.1 hinv65 dL_law_385 ?_
  refine lv_topi (fun v65 hv65 => ?_)
  have hF := rt_t hv65 hF
  refine lv_aload_n hx hb dL_law_386 rfl (lv_at hl 0 rfl) ?_
  refine lv_iload_n hx hb dL_law_387 rfl (lv_at hl 3 rfl) ?_
  refine lv_iconst (v := (3)) hx hb dL_law_388 (by decide) ?_
  refine lv_iadd hx hb dL_law_389 ?_
  obtain ⟨hinv66, hF⟩ := sX_t hF
  refine va_sld hx hb hX hbl hbA hH.2.1 hinv66 dL_law_390 ?_
  refine lv_topi (fun v66 hv66 => ?_)
  have hF := rt_t hv66 hF
  refine m_cVI hx hb hml hown hk hH hE hz (F := fun q68 => F_X10_clamp q68.1 v64 v65 v66) (C := RX10) (T := TX10) (N := 7) rfl (As := [.int v64, .int v65, .int v66]) (rest := []) (fun o => t_X10_clamp l D cy z o v64 v65 v66) hF wd_335 wd_336 wd_33 wd_338 wd_337 yn_X10_clamp ⟨Nat.le_trans (by decide) hfr, Nat.le_trans (by decide) hlo⟩ hl.1 (by first | exact Nat.le_of_ble_eq_true rfl | simp [m_cat, m_ci, m_cl, m_cf, m_cd, m_cr]) rfl dL_law_391 (fun c67 ws H locs cells slots hH hF => ?_)
  refine lv_aload_n hx hb dL_law_394 rfl (lv_at hl 2 rfl) ?_
  refine lv_aload_n hx hb dL_law_395 rfl (lv_at hl 0 rfl) ?_
  refine lv_iload_n hx hb dL_law_396 rfl (lv_at hl 3 rfl) ?_
  refine lv_iconst (v := (1)) hx hb dL_law_397 (by decide) ?_
  refine lv_iadd hx hb dL_law_398 ?_
  obtain ⟨hinv69, hF⟩ := sX_t hF
  refine va_sld hx hb hX hbl hbA hH.2.1 hinv69 dL_law_399 ?_
  refine lv_topi (fun v69 hv69 => ?_)
  have hF := rt_t hv69 hF
  refine lv_aload_n hx hb dL_law_400 rfl (lv_at hl 0 rfl) ?_
  refine lv_iload_n hx hb dL_law_401 rfl (lv_at hl 3 rfl) ?_
  refine lv_iconst (v := (2)) hx hb dL_law_402 (by decide) ?_
  refine lv_iadd hx hb dL_law_403 ?_
  obtain ⟨hinv70, hF⟩ := sX_t hF
  refine va_sld hx hb hX hbl hbA hH.2.1 hinv70 dL_law_404 ?_
  refine lv_topi (fun v70 hv70 => ?_)
  have hF := rt_t hv70 hF
  refine lv_aload_n hx hb dL_law_405 rfl (lv_at hl 0 rfl) ?_
  refine lv_iload_n hx hb dL_law_406 rfl (lv_at hl 3 rfl) ?_
  refine lv_iconst (v := (3)) hx hb dL_law_407 (by decide) ?_
  refine lv_iadd hx hb dL_law_408 ?_
  obtain ⟨hinv71, hF⟩ := sX_t hF
  refine va_sld hx hb hX hbl hbA hH.2.1 hinv71 dL_law_409 ?_
  refine lv_topi (fun v71 hv71 => ?_)
  have hF := rt_t hv71 hF
  refine m_cVI hx hb hml hown hk hH hE hz (F := fun q73 => F_X11_clamp q73.1 v69 v70 v71) (C := RX11) (T := TX11) (N := 22) rfl (As := [.int v69, .int v70, .int v71]) (rest := [.int c67]) (fun o => t_X11_clamp l D cy z o v69 v70 v71) hF wd_899 wd_900 wd_38 wd_902 wd_901 yn_X11_clamp ⟨Nat.le_trans (by decide) hfr, Nat.le_trans (by decide) hlo⟩ hl.1 (by first | exact Nat.le_of_ble_eq_true rfl | simp [m_cat, m_ci, m_cl, m_cf, m_cd, m_cr]) rfl dL_law_410 (fun c72 ws H locs cells slots hH hF => ?_)
  refine lv_icmp_eq (tgt := 1414) hx hb dL_law_413 (by decide) (fun hc73 => ?_) (fun hc73 => ?_)
  · have hF := bq_t hc73 hF
    exact w_L_law_1414 cx hE _ _ x1 x2 hrec hkk x3 _ _ _ _ _ _ (lv_sub hl [0, 1, 2, 3] rfl) hH hF
  · have hF := bq_f hc73 hF
    refine lv_iconst (v := (0)) hx hb dL_law_416 (by decide) ?_
    exact law_ret hx hb hr hlocks hH hE hz2 hF dL_law_417
set_option maxHeartbeats 4000000 in
set_option maxRecDepth 100000 in
theorem w_L_law_418 {l : Launch} {D : va_G} {cy : Nat → ClassId} {z : Nat} {p : Program} {e : Env} {s : State} {m : MethodId} {below : List Frame} {meth : Method} {c : Code} {ws0 wsf : WS} {b L : Nat} {xs : Nat → Int32} (cx : LX D cy z p s m meth c b L xs) (hE : AL ws0 wsf room_1.cells room_1.slots) (rec : Int32 → St (Int32)) (k : St (Int32)) (x1 : Nat) (x2 : Nat) (hrec : ∀ (x3 : Int32), AtL l D cy z p e s m below meth c b ws0 wsf 18 [(0, .ref b), (1, .ref x1), (2, .ref x2), (3, .int x3)] [] (rec x3)) (hkk : AtL l D cy z p e s m below meth c b ws0 wsf 1420 [] [] (k)) (x3 : Int32) : AtL l D cy z p e s m below meth c b ws0 wsf 418 [(0, .ref b), (1, .ref x1), (2, .ref x2), (3, .int x3)] [] (j_L_law_418 xs L rec k x1 x2 x3) := by
  intro ws H locs cells slots ls hl hH hF
  obtain ⟨hx, hb, hr, hml, hown, hk, hz, hlocks, hX, hbl, hbA, hz2, hfr, hlo⟩ := id cx
  unfold j_L_law_418 at hF
  refine lv_aload_n hx hb dL_law_418 rfl (lv_at hl 1 rfl) ?_
  refine lv_aload_n hx hb dL_law_419 rfl (lv_at hl 0 rfl) ?_
  refine lv_iload_n hx hb dL_law_420 rfl (lv_at hl 3 rfl) ?_
  refine lv_iconst (v := (1)) hx hb dL_law_421 (by decide) ?_
  refine lv_iadd hx hb dL_law_422 ?_
  obtain ⟨hinv75, hF⟩ := sX_t hF
  refine va_sld hx hb hX hbl hbA hH.2.1 hinv75 dL_law_423 ?_
  refine lv_topi (fun v75 hv75 => ?_)
  have hF := rt_t hv75 hF
  refine lv_aload_n hx hb dL_law_424 rfl (lv_at hl 0 rfl) ?_
  refine lv_iload_n hx hb dL_law_425 rfl (lv_at hl 3 rfl) ?_
  refine lv_iconst (v := (2)) hx hb dL_law_426 (by decide) ?_
  refine lv_iadd hx hb dL_law_427 ?_
  obtain ⟨hinv76, hF⟩ := sX_t hF
  refine va_sld hx hb hX hbl hbA hH.2.1 hinv76 dL_law_428 ?_
  refine lv_topi (fun v76 hv76 => ?_)
  have hF := rt_t hv76 hF
  refine lv_aload_n hx hb dL_law_429 rfl (lv_at hl 0 rfl) ?_
  refine lv_iload_n hx hb dL_law_430 rfl (lv_at hl 3 rfl) ?_
  refine lv_iconst (v := (3)) hx hb dL_law_431 (by decide) ?_
  refine lv_iadd hx hb dL_law_432 ?_
  obtain ⟨hinv77, hF⟩ := sX_t hF
  refine va_sld hx hb hX hbl hbA hH.2.1 hinv77 dL_law_433 ?_
  refine lv_topi (fun v77 hv77 => ?_)
  have hF := rt_t hv77 hF
  refine lv_aload_n hx hb dL_law_434 rfl (lv_at hl 0 rfl) ?_
  refine lv_iload_n hx hb dL_law_435 rfl (lv_at hl 3 rfl) ?_
  refine lv_iconst (v := (4)) hx hb dL_law_436 (by decide) ?_
  refine lv_iadd hx hb dL_law_437 ?_
  obtain ⟨hinv78, hF⟩ := sX_t hF
  refine va_sld hx hb hX hbl hbA hH.2.1 hinv78 dL_law_438 ?_
  refine lv_topi (fun v78 hv78 => ?_)
  have hF := rt_t hv78 hF
  refine m_cVI hx hb hml hown hk hH hE hz (F := fun q80 => F_X10_dead q80.1 v75 v76 v77 v78) (C := RX10) (T := TX10) (N := 7) rfl (As := [.int v75, .int v76, .int v77, .int v78]) (rest := []) (fun o => t_X10_dead l D cy z o v75 v76 v77 v78) hF wd_376 wd_377 wd_33 wd_379 wd_378 yn_X10_dead ⟨Nat.le_trans (by decide) hfr, Nat.le_trans (by decide) hlo⟩ hl.1 (by first | exact Nat.le_of_ble_eq_true rfl | simp [m_cat, m_ci, m_cl, m_cf, m_cd, m_cr]) rfl dL_law_439 (fun c79 ws H locs cells slots hH hF => ?_)
  refine lv_aload_n hx hb dL_law_442 rfl (lv_at hl 2 rfl) ?_
  refine lv_aload_n hx hb dL_law_443 rfl (lv_at hl 0 rfl) ?_
  refine lv_iload_n hx hb dL_law_444 rfl (lv_at hl 3 rfl) ?_
  refine lv_iconst (v := (1)) hx hb dL_law_445 (by decide) ?_
  refine lv_iadd hx hb dL_law_446 ?_
  obtain ⟨hinv81, hF⟩ := sX_t hF
  refine va_sld hx hb hX hbl hbA hH.2.1 hinv81 dL_law_447 ?_
  refine lv_topi (fun v81 hv81 => ?_)
  have hF := rt_t hv81 hF
  refine lv_aload_n hx hb dL_law_448 rfl (lv_at hl 0 rfl) ?_
  refine lv_iload_n hx hb dL_law_449 rfl (lv_at hl 3 rfl) ?_
  refine lv_iconst (v := (2)) hx hb dL_law_450 (by decide) ?_
  refine lv_iadd hx hb dL_law_451 ?_
  obtain ⟨hinv82, hF⟩ := sX_t hF
  refine va_sld hx hb hX hbl hbA hH.2.1 hinv82 dL_law_452 ?_
  refine lv_topi (fun v82 hv82 => ?_)
  have hF := rt_t hv82 hF
  refine lv_aload_n hx hb dL_law_453 rfl (lv_at hl 0 rfl) ?_
  refine lv_iload_n hx hb dL_law_454 rfl (lv_at hl 3 rfl) ?_
  refine lv_iconst (v := (3)) hx hb dL_law_455 (by decide) ?_
  refine lv_iadd hx hb dL_law_456 ?_
  obtain ⟨hinv83, hF⟩ := sX_t hF
  refine va_sld hx hb hX hbl hbA hH.2.1 hinv83 dL_law_457 ?_
  refine lv_topi (fun v83 hv83 => ?_)
  have hF := rt_t hv83 hF
  refine lv_aload_n hx hb dL_law_458 rfl (lv_at hl 0 rfl) ?_
  refine lv_iload_n hx hb dL_law_459 rfl (lv_at hl 3 rfl) ?_
  refine lv_iconst (v := (4)) hx hb dL_law_460 (by decide) ?_
  refine lv_iadd hx hb dL_law_461 ?_
  obtain ⟨hinv84, hF⟩ := sX_t hF
  refine va_sld hx hb hX hbl hbA hH.2.1 hinv84 dL_law_462 ?_
  refine lv_topi (fun v84 hv84 => ?_)
  have hF := rt_t hv84 hF
  refine m_cVI hx hb hml hown hk hH hE hz (F := fun q86 => F_X11_dead q86.1 v81 v82 v83 v84) (C := RX11) (T := TX11) (N := 22) rfl (As := [.int v81, .int v82, .int v83, .int v84]) (rest := [.int c79]) (fun o => t_X11_dead l D cy z o v81 v82 v83 v84) hF wd_918 wd_919 wd_38 wd_921 wd_920 yn_X11_dead ⟨Nat.le_trans (by decide) hfr, Nat.le_trans (by decide) hlo⟩ hl.1 (by first | exact Nat.le_of_ble_eq_true rfl | simp [m_cat, m_ci, m_cl, m_cf, m_cd, m_cr]) rfl dL_law_463 (fun c85 ws H locs cells slots hH hF => ?_)
  refine lv_icmp_eq (tgt := 1414) hx hb dL_law_466 (by decide) (fun hc86 => ?_) (fun hc86 => ?_)
  · have hF := bq_t hc86 hF
    exact w_L_law_1414 cx hE _ _ x1 x2 hrec hkk x3 _ _ _ _ _ _ (lv_sub hl [0, 1, 2, 3] rfl) hH hF
  · have hF := bq_f hc86 hF
    refine lv_iconst (v := (0)) hx hb dL_law_469 (by decide) ?_
    exact law_ret hx hb hr hlocks hH hE hz2 hF dL_law_470
set_option maxHeartbeats 4000000 in
set_option maxRecDepth 100000 in
theorem w_L_law_471 {l : Launch} {D : va_G} {cy : Nat → ClassId} {z : Nat} {p : Program} {e : Env} {s : State} {m : MethodId} {below : List Frame} {meth : Method} {c : Code} {ws0 wsf : WS} {b L : Nat} {xs : Nat → Int32} (cx : LX D cy z p s m meth c b L xs) (hE : AL ws0 wsf room_1.cells room_1.slots) (rec : Int32 → St (Int32)) (k : St (Int32)) (x1 : Nat) (x2 : Nat) (hrec : ∀ (x3 : Int32), AtL l D cy z p e s m below meth c b ws0 wsf 18 [(0, .ref b), (1, .ref x1), (2, .ref x2), (3, .int x3)] [] (rec x3)) (hkk : AtL l D cy z p e s m below meth c b ws0 wsf 1420 [] [] (k)) (x3 : Int32) : AtL l D cy z p e s m below meth c b ws0 wsf 471 [(0, .ref b), (1, .ref x1), (2, .ref x2), (3, .int x3)] [] (j_L_law_471 xs L rec k x1 x2 x3) := by
  intro ws H locs cells slots ls hl hH hF
  obtain ⟨hx, hb, hr, hml, hown, hk, hz, hlocks, hX, hbl, hbA, hz2, hfr, hlo⟩ := id cx
  unfold j_L_law_471 at hF
  refine lv_aload_n hx hb dL_law_471 rfl (lv_at hl 1 rfl) ?_
  refine lv_aload_n hx hb dL_law_472 rfl (lv_at hl 0 rfl) ?_
  refine lv_iload_n hx hb dL_law_473 rfl (lv_at hl 3 rfl) ?_
  refine lv_iconst (v := (1)) hx hb dL_law_474 (by decide) ?_
  refine lv_iadd hx hb dL_law_475 ?_
  obtain ⟨hinv88, hF⟩ := sX_t hF
  refine va_sld hx hb hX hbl hbA hH.2.1 hinv88 dL_law_476 ?_
  refine lv_topi (fun v88 hv88 => ?_)
  have hF := rt_t hv88 hF
  refine lv_aload_n hx hb dL_law_477 rfl (lv_at hl 0 rfl) ?_
  refine lv_iload_n hx hb dL_law_478 rfl (lv_at hl 3 rfl) ?_
  refine lv_iconst (v := (2)) hx hb dL_law_479 (by decide) ?_
  refine lv_iadd hx hb dL_law_480 ?_
  obtain ⟨hinv89, hF⟩ := sX_t hF
  refine va_sld hx hb hX hbl hbA hH.2.1 hinv89 dL_law_481 ?_
  refine lv_topi (fun v89 hv89 => ?_)
  have hF := rt_t hv89 hF
  refine m_cVI hx hb hml hown hk hH hE hz (F := fun q91 => F_X10_chain q91.1 v88 v89) (C := RX10) (T := TX10) (N := 7) rfl (As := [.int v88, .int v89]) (rest := []) (fun o => t_X10_chain l D cy z o v88 v89) hF wd_380 wd_381 wd_33 wd_383 wd_382 yn_X10_chain ⟨Nat.le_trans (by decide) hfr, Nat.le_trans (by decide) hlo⟩ hl.1 (by first | exact Nat.le_of_ble_eq_true rfl | simp [m_cat, m_ci, m_cl, m_cf, m_cd, m_cr]) rfl dL_law_482 (fun c90 ws H locs cells slots hH hF => ?_)
  refine lv_aload_n hx hb dL_law_485 rfl (lv_at hl 2 rfl) ?_
  refine lv_aload_n hx hb dL_law_486 rfl (lv_at hl 0 rfl) ?_
  refine lv_iload_n hx hb dL_law_487 rfl (lv_at hl 3 rfl) ?_
  refine lv_iconst (v := (1)) hx hb dL_law_488 (by decide) ?_
  refine lv_iadd hx hb dL_law_489 ?_
  obtain ⟨hinv92, hF⟩ := sX_t hF
  refine va_sld hx hb hX hbl hbA hH.2.1 hinv92 dL_law_490 ?_
  refine lv_topi (fun v92 hv92 => ?_)
  have hF := rt_t hv92 hF
  refine lv_aload_n hx hb dL_law_491 rfl (lv_at hl 0 rfl) ?_
  refine lv_iload_n hx hb dL_law_492 rfl (lv_at hl 3 rfl) ?_
  refine lv_iconst (v := (2)) hx hb dL_law_493 (by decide) ?_
  refine lv_iadd hx hb dL_law_494 ?_
  obtain ⟨hinv93, hF⟩ := sX_t hF
  refine va_sld hx hb hX hbl hbA hH.2.1 hinv93 dL_law_495 ?_
  refine lv_topi (fun v93 hv93 => ?_)
  have hF := rt_t hv93 hF
  refine m_cVI hx hb hml hown hk hH hE hz (F := fun q95 => F_X11_chain q95.1 v92 v93) (C := RX11) (T := TX11) (N := 22) rfl (As := [.int v92, .int v93]) (rest := [.int c90]) (fun o => t_X11_chain l D cy z o v92 v93) hF wd_922 wd_923 wd_38 wd_925 wd_924 yn_X11_chain ⟨Nat.le_trans (by decide) hfr, Nat.le_trans (by decide) hlo⟩ hl.1 (by first | exact Nat.le_of_ble_eq_true rfl | simp [m_cat, m_ci, m_cl, m_cf, m_cd, m_cr]) rfl dL_law_496 (fun c94 ws H locs cells slots hH hF => ?_)
  refine lv_icmp_eq (tgt := 1414) hx hb dL_law_499 (by decide) (fun hc95 => ?_) (fun hc95 => ?_)
  · have hF := bq_t hc95 hF
    exact w_L_law_1414 cx hE _ _ x1 x2 hrec hkk x3 _ _ _ _ _ _ (lv_sub hl [0, 1, 2, 3] rfl) hH hF
  · have hF := bq_f hc95 hF
    refine lv_iconst (v := (0)) hx hb dL_law_502 (by decide) ?_
    exact law_ret hx hb hr hlocks hH hE hz2 hF dL_law_503
set_option maxHeartbeats 4000000 in
set_option maxRecDepth 100000 in
theorem w_L_law_504 {l : Launch} {D : va_G} {cy : Nat → ClassId} {z : Nat} {p : Program} {e : Env} {s : State} {m : MethodId} {below : List Frame} {meth : Method} {c : Code} {ws0 wsf : WS} {b L : Nat} {xs : Nat → Int32} (cx : LX D cy z p s m meth c b L xs) (hE : AL ws0 wsf room_1.cells room_1.slots) (rec : Int32 → St (Int32)) (k : St (Int32)) (x1 : Nat) (x2 : Nat) (hrec : ∀ (x3 : Int32), AtL l D cy z p e s m below meth c b ws0 wsf 18 [(0, .ref b), (1, .ref x1), (2, .ref x2), (3, .int x3)] [] (rec x3)) (hkk : AtL l D cy z p e s m below meth c b ws0 wsf 1420 [] [] (k)) (x3 : Int32) : AtL l D cy z p e s m below meth c b ws0 wsf 504 [(0, .ref b), (1, .ref x1), (2, .ref x2), (3, .int x3)] [] (j_L_law_504 xs L rec k x1 x2 x3) := by
  intro ws H locs cells slots ls hl hH hF
  obtain ⟨hx, hb, hr, hml, hown, hk, hz, hlocks, hX, hbl, hbA, hz2, hfr, hlo⟩ := id cx
  unfold j_L_law_504 at hF
  refine lv_aload_n hx hb dL_law_504 rfl (lv_at hl 1 rfl) ?_
  refine lv_aload_n hx hb dL_law_505 rfl (lv_at hl 0 rfl) ?_
  refine lv_iload_n hx hb dL_law_506 rfl (lv_at hl 3 rfl) ?_
  refine lv_iconst (v := (1)) hx hb dL_law_507 (by decide) ?_
  refine lv_iadd hx hb dL_law_508 ?_
  obtain ⟨hinv97, hF⟩ := sX_t hF
  refine va_sld hx hb hX hbl hbA hH.2.1 hinv97 dL_law_509 ?_
  refine lv_topi (fun v97 hv97 => ?_)
  have hF := rt_t hv97 hF
  refine lv_aload_n hx hb dL_law_510 rfl (lv_at hl 0 rfl) ?_
  refine lv_iload_n hx hb dL_law_511 rfl (lv_at hl 3 rfl) ?_
  refine lv_iconst (v := (2)) hx hb dL_law_512 (by decide) ?_
  refine lv_iadd hx hb dL_law_513 ?_
  obtain ⟨hinv98, hF⟩ := sX_t hF
  refine va_sld hx hb hX hbl hbA hH.2.1 hinv98 dL_law_514 ?_
  refine lv_topi (fun v98 hv98 => ?_)
  have hF := rt_t hv98 hF
  refine lv_aload_n hx hb dL_law_515 rfl (lv_at hl 0 rfl) ?_
  refine lv_iload_n hx hb dL_law_516 rfl (lv_at hl 3 rfl) ?_
  refine lv_iconst (v := (3)) hx hb dL_law_517 (by decide) ?_
  refine lv_iadd hx hb dL_law_518 ?_
  obtain ⟨hinv99, hF⟩ := sX_t hF
  refine va_sld hx hb hX hbl hbA hH.2.1 hinv99 dL_law_519 ?_
  refine lv_topi (fun v99 hv99 => ?_)
  have hF := rt_t hv99 hF
  refine lv_aload_n hx hb dL_law_520 rfl (lv_at hl 0 rfl) ?_
  refine lv_iload_n hx hb dL_law_521 rfl (lv_at hl 3 rfl) ?_
  refine lv_iconst (v := (4)) hx hb dL_law_522 (by decide) ?_
  refine lv_iadd hx hb dL_law_523 ?_
  obtain ⟨hinv100, hF⟩ := sX_t hF
  refine va_sld hx hb hX hbl hbA hH.2.1 hinv100 dL_law_524 ?_
  refine lv_topi (fun v100 hv100 => ?_)
  have hF := rt_t hv100 hF
  refine m_cVI hx hb hml hown hk hH hE hz (F := fun q102 => F_X10_gain q102.1 v97 v98 v99 v100) (C := RX10) (T := TX10) (N := 7) rfl (As := [.int v97, .int v98, .int v99, .int v100]) (rest := []) (fun o => t_X10_gain l D cy z o v97 v98 v99 v100) hF wd_384 wd_385 wd_33 wd_387 wd_386 yn_X10_gain ⟨Nat.le_trans (by decide) hfr, Nat.le_trans (by decide) hlo⟩ hl.1 (by first | exact Nat.le_of_ble_eq_true rfl | simp [m_cat, m_ci, m_cl, m_cf, m_cd, m_cr]) rfl dL_law_525 (fun c101 ws H locs cells slots hH hF => ?_)
  refine lv_aload_n hx hb dL_law_528 rfl (lv_at hl 2 rfl) ?_
  refine lv_aload_n hx hb dL_law_529 rfl (lv_at hl 0 rfl) ?_
  refine lv_iload_n hx hb dL_law_530 rfl (lv_at hl 3 rfl) ?_
  refine lv_iconst (v := (1)) hx hb dL_law_531 (by decide) ?_
  refine lv_iadd hx hb dL_law_532 ?_
  obtain ⟨hinv103, hF⟩ := sX_t hF
  refine va_sld hx hb hX hbl hbA hH.2.1 hinv103 dL_law_533 ?_
  refine lv_topi (fun v103 hv103 => ?_)
  have hF := rt_t hv103 hF
  refine lv_aload_n hx hb dL_law_534 rfl (lv_at hl 0 rfl) ?_
  refine lv_iload_n hx hb dL_law_535 rfl (lv_at hl 3 rfl) ?_
  refine lv_iconst (v := (2)) hx hb dL_law_536 (by decide) ?_
  refine lv_iadd hx hb dL_law_537 ?_
  obtain ⟨hinv104, hF⟩ := sX_t hF
  refine va_sld hx hb hX hbl hbA hH.2.1 hinv104 dL_law_538 ?_
  refine lv_topi (fun v104 hv104 => ?_)
  have hF := rt_t hv104 hF
  refine lv_aload_n hx hb dL_law_539 rfl (lv_at hl 0 rfl) ?_
  refine lv_iload_n hx hb dL_law_540 rfl (lv_at hl 3 rfl) ?_
  refine lv_iconst (v := (3)) hx hb dL_law_541 (by decide) ?_
  refine lv_iadd hx hb dL_law_542 ?_
  obtain ⟨hinv105, hF⟩ := sX_t hF
  refine va_sld hx hb hX hbl hbA hH.2.1 hinv105 dL_law_543 ?_
  refine lv_topi (fun v105 hv105 => ?_)
  have hF := rt_t hv105 hF
  refine lv_aload_n hx hb dL_law_544 rfl (lv_at hl 0 rfl) ?_
  refine lv_iload_n hx hb dL_law_545 rfl (lv_at hl 3 rfl) ?_
  refine lv_iconst (v := (4)) hx hb dL_law_546 (by decide) ?_
  refine lv_iadd hx hb dL_law_547 ?_
  obtain ⟨hinv106, hF⟩ := sX_t hF
  refine va_sld hx hb hX hbl hbA hH.2.1 hinv106 dL_law_548 ?_
  refine lv_topi (fun v106 hv106 => ?_)
  have hF := rt_t hv106 hF
  refine m_cVI hx hb hml hown hk hH hE hz (F := fun q108 => F_X11_gain q108.1 v103 v104 v105 v106) (C := RX11) (T := TX11) (N := 22) rfl (As := [.int v103, .int v104, .int v105, .int v106]) (rest := [.int c101]) (fun o => t_X11_gain l D cy z o v103 v104 v105 v106) hF wd_926 wd_927 wd_38 wd_929 wd_928 yn_X11_gain ⟨Nat.le_trans (by decide) hfr, Nat.le_trans (by decide) hlo⟩ hl.1 (by first | exact Nat.le_of_ble_eq_true rfl | simp [m_cat, m_ci, m_cl, m_cf, m_cd, m_cr]) rfl dL_law_549 (fun c107 ws H locs cells slots hH hF => ?_)
  refine lv_icmp_eq (tgt := 1414) hx hb dL_law_552 (by decide) (fun hc108 => ?_) (fun hc108 => ?_)
  · have hF := bq_t hc108 hF
    exact w_L_law_1414 cx hE _ _ x1 x2 hrec hkk x3 _ _ _ _ _ _ (lv_sub hl [0, 1, 2, 3] rfl) hH hF
  · have hF := bq_f hc108 hF
    refine lv_iconst (v := (0)) hx hb dL_law_555 (by decide) ?_
    exact law_ret hx hb hr hlocks hH hE hz2 hF dL_law_556
set_option maxHeartbeats 4000000 in
set_option maxRecDepth 100000 in
theorem w_L_law_557 {l : Launch} {D : va_G} {cy : Nat → ClassId} {z : Nat} {p : Program} {e : Env} {s : State} {m : MethodId} {below : List Frame} {meth : Method} {c : Code} {ws0 wsf : WS} {b L : Nat} {xs : Nat → Int32} (cx : LX D cy z p s m meth c b L xs) (hE : AL ws0 wsf room_1.cells room_1.slots) (rec : Int32 → St (Int32)) (k : St (Int32)) (x1 : Nat) (x2 : Nat) (hrec : ∀ (x3 : Int32), AtL l D cy z p e s m below meth c b ws0 wsf 18 [(0, .ref b), (1, .ref x1), (2, .ref x2), (3, .int x3)] [] (rec x3)) (hkk : AtL l D cy z p e s m below meth c b ws0 wsf 1420 [] [] (k)) (x3 : Int32) : AtL l D cy z p e s m below meth c b ws0 wsf 557 [(0, .ref b), (1, .ref x1), (2, .ref x2), (3, .int x3)] [] (j_L_law_557 xs L rec k x1 x2 x3) := by
  intro ws H locs cells slots ls hl hH hF
  obtain ⟨hx, hb, hr, hml, hown, hk, hz, hlocks, hX, hbl, hbA, hz2, hfr, hlo⟩ := id cx
  unfold j_L_law_557 at hF
  refine lv_aload_n hx hb dL_law_557 rfl (lv_at hl 1 rfl) ?_
  refine lv_aload_n hx hb dL_law_558 rfl (lv_at hl 0 rfl) ?_
  refine lv_iload_n hx hb dL_law_559 rfl (lv_at hl 3 rfl) ?_
  refine lv_iconst (v := (1)) hx hb dL_law_560 (by decide) ?_
  refine lv_iadd hx hb dL_law_561 ?_
  obtain ⟨hinv110, hF⟩ := sX_t hF
  refine va_sld hx hb hX hbl hbA hH.2.1 hinv110 dL_law_562 ?_
  refine lv_topi (fun v110 hv110 => ?_)
  have hF := rt_t hv110 hF
  refine m_cVI hx hb hml hown hk hH hE hz (F := fun q112 => F_X10_mirror q112.1 v110) (C := RX10) (T := TX10) (N := 7) rfl (As := [.int v110]) (rest := []) (fun o => t_X10_mirror l D cy z o v110) hF wd_388 wd_389 wd_33 wd_391 wd_390 yn_X10_mirror ⟨Nat.le_trans (by decide) hfr, Nat.le_trans (by decide) hlo⟩ hl.1 (by first | exact Nat.le_of_ble_eq_true rfl | simp [m_cat, m_ci, m_cl, m_cf, m_cd, m_cr]) rfl dL_law_563 (fun c111 ws H locs cells slots hH hF => ?_)
  refine lv_aload_n hx hb dL_law_566 rfl (lv_at hl 2 rfl) ?_
  refine lv_aload_n hx hb dL_law_567 rfl (lv_at hl 0 rfl) ?_
  refine lv_iload_n hx hb dL_law_568 rfl (lv_at hl 3 rfl) ?_
  refine lv_iconst (v := (1)) hx hb dL_law_569 (by decide) ?_
  refine lv_iadd hx hb dL_law_570 ?_
  obtain ⟨hinv113, hF⟩ := sX_t hF
  refine va_sld hx hb hX hbl hbA hH.2.1 hinv113 dL_law_571 ?_
  refine lv_topi (fun v113 hv113 => ?_)
  have hF := rt_t hv113 hF
  refine m_cVI hx hb hml hown hk hH hE hz (F := fun q115 => F_X11_mirror q115.1 v113) (C := RX11) (T := TX11) (N := 22) rfl (As := [.int v113]) (rest := [.int c111]) (fun o => t_X11_mirror l D cy z o v113) hF wd_930 wd_931 wd_38 wd_933 wd_932 yn_X11_mirror ⟨Nat.le_trans (by decide) hfr, Nat.le_trans (by decide) hlo⟩ hl.1 (by first | exact Nat.le_of_ble_eq_true rfl | simp [m_cat, m_ci, m_cl, m_cf, m_cd, m_cr]) rfl dL_law_572 (fun c114 ws H locs cells slots hH hF => ?_)
  refine lv_icmp_eq (tgt := 1414) hx hb dL_law_575 (by decide) (fun hc115 => ?_) (fun hc115 => ?_)
  · have hF := bq_t hc115 hF
    exact w_L_law_1414 cx hE _ _ x1 x2 hrec hkk x3 _ _ _ _ _ _ (lv_sub hl [0, 1, 2, 3] rfl) hH hF
  · have hF := bq_f hc115 hF
    refine lv_iconst (v := (0)) hx hb dL_law_578 (by decide) ?_
    exact law_ret hx hb hr hlocks hH hE hz2 hF dL_law_579
set_option maxHeartbeats 4000000 in
set_option maxRecDepth 100000 in
theorem w_L_law_580 {l : Launch} {D : va_G} {cy : Nat → ClassId} {z : Nat} {p : Program} {e : Env} {s : State} {m : MethodId} {below : List Frame} {meth : Method} {c : Code} {ws0 wsf : WS} {b L : Nat} {xs : Nat → Int32} (cx : LX D cy z p s m meth c b L xs) (hE : AL ws0 wsf room_1.cells room_1.slots) (rec : Int32 → St (Int32)) (k : St (Int32)) (x1 : Nat) (x2 : Nat) (hrec : ∀ (x3 : Int32), AtL l D cy z p e s m below meth c b ws0 wsf 18 [(0, .ref b), (1, .ref x1), (2, .ref x2), (3, .int x3)] [] (rec x3)) (hkk : AtL l D cy z p e s m below meth c b ws0 wsf 1420 [] [] (k)) (x3 : Int32) : AtL l D cy z p e s m below meth c b ws0 wsf 580 [(0, .ref b), (1, .ref x1), (2, .ref x2), (3, .int x3)] [] (j_L_law_580 xs L rec k x1 x2 x3) := by
  intro ws H locs cells slots ls hl hH hF
  obtain ⟨hx, hb, hr, hml, hown, hk, hz, hlocks, hX, hbl, hbA, hz2, hfr, hlo⟩ := id cx
  unfold j_L_law_580 at hF
  refine lv_aload_n hx hb dL_law_580 rfl (lv_at hl 1 rfl) ?_
  refine lv_aload_n hx hb dL_law_581 rfl (lv_at hl 0 rfl) ?_
  refine lv_iload_n hx hb dL_law_582 rfl (lv_at hl 3 rfl) ?_
  refine lv_iconst (v := (1)) hx hb dL_law_583 (by decide) ?_
  refine lv_iadd hx hb dL_law_584 ?_
  obtain ⟨hinv117, hF⟩ := sX_t hF
  refine va_sld hx hb hX hbl hbA hH.2.1 hinv117 dL_law_585 ?_
  refine lv_topi (fun v117 hv117 => ?_)
  have hF := rt_t hv117 hF
  refine lv_aload_n hx hb dL_law_586 rfl (lv_at hl 0 rfl) ?_
  refine lv_iload_n hx hb dL_law_587 rfl (lv_at hl 3 rfl) ?_
  refine lv_iconst (v := (2)) hx hb dL_law_588 (by decide) ?_
  refine lv_iadd hx hb dL_law_589 ?_
  obtain ⟨hinv118, hF⟩ := sX_t hF
  refine va_sld hx hb hX hbl hbA hH.2.1 hinv118 dL_law_590 ?_
  refine lv_topi (fun v118 hv118 => ?_)
  have hF := rt_t hv118 hF
  refine m_cVI hx hb hml hown hk hH hE hz (F := fun q120 => F_X10_value q120.1 v117 v118) (C := RX10) (T := TX10) (N := 7) rfl (As := [.int v117, .int v118]) (rest := []) (fun o => t_X10_value l D cy z o v117 v118) hF wd_392 wd_393 wd_33 wd_395 wd_394 yn_X10_value ⟨Nat.le_trans (by decide) hfr, Nat.le_trans (by decide) hlo⟩ hl.1 (by first | exact Nat.le_of_ble_eq_true rfl | simp [m_cat, m_ci, m_cl, m_cf, m_cd, m_cr]) rfl dL_law_591 (fun c119 ws H locs cells slots hH hF => ?_)
  refine lv_aload_n hx hb dL_law_594 rfl (lv_at hl 2 rfl) ?_
  refine lv_aload_n hx hb dL_law_595 rfl (lv_at hl 0 rfl) ?_
  refine lv_iload_n hx hb dL_law_596 rfl (lv_at hl 3 rfl) ?_
  refine lv_iconst (v := (1)) hx hb dL_law_597 (by decide) ?_
  refine lv_iadd hx hb dL_law_598 ?_
  obtain ⟨hinv121, hF⟩ := sX_t hF
  refine va_sld hx hb hX hbl hbA hH.2.1 hinv121 dL_law_599 ?_
  refine lv_topi (fun v121 hv121 => ?_)
  have hF := rt_t hv121 hF
  refine lv_aload_n hx hb dL_law_600 rfl (lv_at hl 0 rfl) ?_
  refine lv_iload_n hx hb dL_law_601 rfl (lv_at hl 3 rfl) ?_
  refine lv_iconst (v := (2)) hx hb dL_law_602 (by decide) ?_
  refine lv_iadd hx hb dL_law_603 ?_
  obtain ⟨hinv122, hF⟩ := sX_t hF
  refine va_sld hx hb hX hbl hbA hH.2.1 hinv122 dL_law_604 ?_
  refine lv_topi (fun v122 hv122 => ?_)
  have hF := rt_t hv122 hF
  refine m_cVI hx hb hml hown hk hH hE hz (F := fun q124 => F_X11_value q124.1 v121 v122) (C := RX11) (T := TX11) (N := 22) rfl (As := [.int v121, .int v122]) (rest := [.int c119]) (fun o => t_X11_value l D cy z o v121 v122) hF wd_934 wd_935 wd_38 wd_937 wd_936 yn_X11_value ⟨Nat.le_trans (by decide) hfr, Nat.le_trans (by decide) hlo⟩ hl.1 (by first | exact Nat.le_of_ble_eq_true rfl | simp [m_cat, m_ci, m_cl, m_cf, m_cd, m_cr]) rfl dL_law_605 (fun c123 ws H locs cells slots hH hF => ?_)
  refine lv_icmp_eq (tgt := 1414) hx hb dL_law_608 (by decide) (fun hc124 => ?_) (fun hc124 => ?_)
  · have hF := bq_t hc124 hF
    exact w_L_law_1414 cx hE _ _ x1 x2 hrec hkk x3 _ _ _ _ _ _ (lv_sub hl [0, 1, 2, 3] rfl) hH hF
  · have hF := bq_f hc124 hF
    refine lv_iconst (v := (0)) hx hb dL_law_611 (by decide) ?_
    exact law_ret hx hb hr hlocks hH hE hz2 hF dL_law_612
set_option maxHeartbeats 4000000 in
set_option maxRecDepth 100000 in
theorem w_L_law_613 {l : Launch} {D : va_G} {cy : Nat → ClassId} {z : Nat} {p : Program} {e : Env} {s : State} {m : MethodId} {below : List Frame} {meth : Method} {c : Code} {ws0 wsf : WS} {b L : Nat} {xs : Nat → Int32} (cx : LX D cy z p s m meth c b L xs) (hE : AL ws0 wsf room_1.cells room_1.slots) (rec : Int32 → St (Int32)) (k : St (Int32)) (x1 : Nat) (x2 : Nat) (hrec : ∀ (x3 : Int32), AtL l D cy z p e s m below meth c b ws0 wsf 18 [(0, .ref b), (1, .ref x1), (2, .ref x2), (3, .int x3)] [] (rec x3)) (hkk : AtL l D cy z p e s m below meth c b ws0 wsf 1420 [] [] (k)) (x3 : Int32) : AtL l D cy z p e s m below meth c b ws0 wsf 613 [(0, .ref b), (1, .ref x1), (2, .ref x2), (3, .int x3)] [] (j_L_law_613 xs L rec k x1 x2 x3) := by
  intro ws H locs cells slots ls hl hH hF
  obtain ⟨hx, hb, hr, hml, hown, hk, hz, hlocks, hX, hbl, hbA, hz2, hfr, hlo⟩ := id cx
  unfold j_L_law_613 at hF
  refine lv_aload_n hx hb dL_law_613 rfl (lv_at hl 1 rfl) ?_
  refine lv_aload_n hx hb dL_law_614 rfl (lv_at hl 0 rfl) ?_
  refine lv_iload_n hx hb dL_law_615 rfl (lv_at hl 3 rfl) ?_
  refine lv_iconst (v := (1)) hx hb dL_law_616 (by decide) ?_
  refine lv_iadd hx hb dL_law_617 ?_
  obtain ⟨hinv126, hF⟩ := sX_t hF
  refine va_sld hx hb hX hbl hbA hH.2.1 hinv126 dL_law_618 ?_
  refine lv_topi (fun v126 hv126 => ?_)
  have hF := rt_t hv126 hF
  refine lv_aload_n hx hb dL_law_619 rfl (lv_at hl 0 rfl) ?_
  refine lv_iload_n hx hb dL_law_620 rfl (lv_at hl 3 rfl) ?_
  refine lv_iconst (v := (2)) hx hb dL_law_621 (by decide) ?_
  refine lv_iadd hx hb dL_law_622 ?_
  obtain ⟨hinv127, hF⟩ := sX_t hF
  refine va_sld hx hb hX hbl hbA hH.2.1 hinv127 dL_law_623 ?_
  refine lv_topi (fun v127 hv127 => ?_)
  have hF := rt_t hv127 hF
  refine m_cVI hx hb hml hown hk hH hE hz (F := fun q129 => F_X10_about q129.1 v126 v127) (C := RX10) (T := TX10) (N := 7) rfl (As := [.int v126, .int v127]) (rest := []) (fun o => t_X10_about l D cy z o v126 v127) hF wd_451 wd_452 wd_33 wd_454 wd_453 yn_X10_about ⟨Nat.le_trans (by decide) hfr, Nat.le_trans (by decide) hlo⟩ hl.1 (by first | exact Nat.le_of_ble_eq_true rfl | simp [m_cat, m_ci, m_cl, m_cf, m_cd, m_cr]) rfl dL_law_624 (fun c128 ws H locs cells slots hH hF => ?_)
  refine lv_aload_n hx hb dL_law_627 rfl (lv_at hl 2 rfl) ?_
  refine lv_aload_n hx hb dL_law_628 rfl (lv_at hl 0 rfl) ?_
  refine lv_iload_n hx hb dL_law_629 rfl (lv_at hl 3 rfl) ?_
  refine lv_iconst (v := (1)) hx hb dL_law_630 (by decide) ?_
  refine lv_iadd hx hb dL_law_631 ?_
  obtain ⟨hinv130, hF⟩ := sX_t hF
  refine va_sld hx hb hX hbl hbA hH.2.1 hinv130 dL_law_632 ?_
  refine lv_topi (fun v130 hv130 => ?_)
  have hF := rt_t hv130 hF
  refine lv_aload_n hx hb dL_law_633 rfl (lv_at hl 0 rfl) ?_
  refine lv_iload_n hx hb dL_law_634 rfl (lv_at hl 3 rfl) ?_
  refine lv_iconst (v := (2)) hx hb dL_law_635 (by decide) ?_
  refine lv_iadd hx hb dL_law_636 ?_
  obtain ⟨hinv131, hF⟩ := sX_t hF
  refine va_sld hx hb hX hbl hbA hH.2.1 hinv131 dL_law_637 ?_
  refine lv_topi (fun v131 hv131 => ?_)
  have hF := rt_t hv131 hF
  refine m_cVI hx hb hml hown hk hH hE hz (F := fun q133 => F_X11_about q133.1 v130 v131) (C := RX11) (T := TX11) (N := 22) rfl (As := [.int v130, .int v131]) (rest := [.int c128]) (fun o => t_X11_about l D cy z o v130 v131) hF wd_939 wd_940 wd_38 wd_942 wd_941 yn_X11_about ⟨Nat.le_trans (by decide) hfr, Nat.le_trans (by decide) hlo⟩ hl.1 (by first | exact Nat.le_of_ble_eq_true rfl | simp [m_cat, m_ci, m_cl, m_cf, m_cd, m_cr]) rfl dL_law_638 (fun c132 ws H locs cells slots hH hF => ?_)
  refine lv_icmp_eq (tgt := 1414) hx hb dL_law_641 (by decide) (fun hc133 => ?_) (fun hc133 => ?_)
  · have hF := bq_t hc133 hF
    exact w_L_law_1414 cx hE _ _ x1 x2 hrec hkk x3 _ _ _ _ _ _ (lv_sub hl [0, 1, 2, 3] rfl) hH hF
  · have hF := bq_f hc133 hF
    refine lv_iconst (v := (0)) hx hb dL_law_644 (by decide) ?_
    exact law_ret hx hb hr hlocks hH hE hz2 hF dL_law_645
set_option maxHeartbeats 4000000 in
set_option maxRecDepth 100000 in
theorem w_L_law_646 {l : Launch} {D : va_G} {cy : Nat → ClassId} {z : Nat} {p : Program} {e : Env} {s : State} {m : MethodId} {below : List Frame} {meth : Method} {c : Code} {ws0 wsf : WS} {b L : Nat} {xs : Nat → Int32} (cx : LX D cy z p s m meth c b L xs) (hE : AL ws0 wsf room_1.cells room_1.slots) (rec : Int32 → St (Int32)) (k : St (Int32)) (x1 : Nat) (x2 : Nat) (hrec : ∀ (x3 : Int32), AtL l D cy z p e s m below meth c b ws0 wsf 18 [(0, .ref b), (1, .ref x1), (2, .ref x2), (3, .int x3)] [] (rec x3)) (hkk : AtL l D cy z p e s m below meth c b ws0 wsf 1420 [] [] (k)) (x3 : Int32) : AtL l D cy z p e s m below meth c b ws0 wsf 646 [(0, .ref b), (1, .ref x1), (2, .ref x2), (3, .int x3)] [] (j_L_law_646 xs L rec k x1 x2 x3) := by
  intro ws H locs cells slots ls hl hH hF
  obtain ⟨hx, hb, hr, hml, hown, hk, hz, hlocks, hX, hbl, hbA, hz2, hfr, hlo⟩ := id cx
  unfold j_L_law_646 at hF
  refine lv_aload_n hx hb dL_law_646 rfl (lv_at hl 1 rfl) ?_
  refine lv_aload_n hx hb dL_law_647 rfl (lv_at hl 0 rfl) ?_
  refine lv_iload_n hx hb dL_law_648 rfl (lv_at hl 3 rfl) ?_
  refine lv_iconst (v := (1)) hx hb dL_law_649 (by decide) ?_
  refine lv_iadd hx hb dL_law_650 ?_
  obtain ⟨hinv135, hF⟩ := sX_t hF
  refine va_sld hx hb hX hbl hbA hH.2.1 hinv135 dL_law_651 ?_
  refine lv_topi (fun v135 hv135 => ?_)
  have hF := rt_t hv135 hF
  refine lv_aload_n hx hb dL_law_652 rfl (lv_at hl 0 rfl) ?_
  refine lv_iload_n hx hb dL_law_653 rfl (lv_at hl 3 rfl) ?_
  refine lv_iconst (v := (2)) hx hb dL_law_654 (by decide) ?_
  refine lv_iadd hx hb dL_law_655 ?_
  obtain ⟨hinv136, hF⟩ := sX_t hF
  refine va_sld hx hb hX hbl hbA hH.2.1 hinv136 dL_law_656 ?_
  refine lv_topi (fun v136 hv136 => ?_)
  have hF := rt_t hv136 hF
  refine m_cVI hx hb hml hown hk hH hE hz (F := fun q138 => F_X10_turn q138.1 v135 v136) (C := RX10) (T := TX10) (N := 7) rfl (As := [.int v135, .int v136]) (rest := []) (fun o => t_X10_turn l D cy z o v135 v136) hF wd_516 wd_517 wd_33 wd_519 wd_518 yn_X10_turn ⟨Nat.le_trans (by decide) hfr, Nat.le_trans (by decide) hlo⟩ hl.1 (by first | exact Nat.le_of_ble_eq_true rfl | simp [m_cat, m_ci, m_cl, m_cf, m_cd, m_cr]) rfl dL_law_657 (fun c137 ws H locs cells slots hH hF => ?_)
  refine lv_aload_n hx hb dL_law_660 rfl (lv_at hl 2 rfl) ?_
  refine lv_aload_n hx hb dL_law_661 rfl (lv_at hl 0 rfl) ?_
  refine lv_iload_n hx hb dL_law_662 rfl (lv_at hl 3 rfl) ?_
  refine lv_iconst (v := (1)) hx hb dL_law_663 (by decide) ?_
  refine lv_iadd hx hb dL_law_664 ?_
  obtain ⟨hinv139, hF⟩ := sX_t hF
  refine va_sld hx hb hX hbl hbA hH.2.1 hinv139 dL_law_665 ?_
  refine lv_topi (fun v139 hv139 => ?_)
  have hF := rt_t hv139 hF
  refine lv_aload_n hx hb dL_law_666 rfl (lv_at hl 0 rfl) ?_
  refine lv_iload_n hx hb dL_law_667 rfl (lv_at hl 3 rfl) ?_
  refine lv_iconst (v := (2)) hx hb dL_law_668 (by decide) ?_
  refine lv_iadd hx hb dL_law_669 ?_
  obtain ⟨hinv140, hF⟩ := sX_t hF
  refine va_sld hx hb hX hbl hbA hH.2.1 hinv140 dL_law_670 ?_
  refine lv_topi (fun v140 hv140 => ?_)
  have hF := rt_t hv140 hF
  refine m_cVI hx hb hml hown hk hH hE hz (F := fun q142 => F_X11_turn q142.1 v139 v140) (C := RX11) (T := TX11) (N := 22) rfl (As := [.int v139, .int v140]) (rest := [.int c137]) (fun o => t_X11_turn l D cy z o v139 v140) hF wd_955 wd_956 wd_38 wd_958 wd_957 yn_X11_turn ⟨Nat.le_trans (by decide) hfr, Nat.le_trans (by decide) hlo⟩ hl.1 (by first | exact Nat.le_of_ble_eq_true rfl | simp [m_cat, m_ci, m_cl, m_cf, m_cd, m_cr]) rfl dL_law_671 (fun c141 ws H locs cells slots hH hF => ?_)
  refine lv_icmp_eq (tgt := 1414) hx hb dL_law_674 (by decide) (fun hc142 => ?_) (fun hc142 => ?_)
  · have hF := bq_t hc142 hF
    exact w_L_law_1414 cx hE _ _ x1 x2 hrec hkk x3 _ _ _ _ _ _ (lv_sub hl [0, 1, 2, 3] rfl) hH hF
  · have hF := bq_f hc142 hF
    refine lv_iconst (v := (0)) hx hb dL_law_677 (by decide) ?_
    exact law_ret hx hb hr hlocks hH hE hz2 hF dL_law_678
set_option maxHeartbeats 4000000 in
set_option maxRecDepth 100000 in
theorem w_L_law_679 {l : Launch} {D : va_G} {cy : Nat → ClassId} {z : Nat} {p : Program} {e : Env} {s : State} {m : MethodId} {below : List Frame} {meth : Method} {c : Code} {ws0 wsf : WS} {b L : Nat} {xs : Nat → Int32} (cx : LX D cy z p s m meth c b L xs) (hE : AL ws0 wsf room_1.cells room_1.slots) (rec : Int32 → St (Int32)) (k : St (Int32)) (x1 : Nat) (x2 : Nat) (hrec : ∀ (x3 : Int32), AtL l D cy z p e s m below meth c b ws0 wsf 18 [(0, .ref b), (1, .ref x1), (2, .ref x2), (3, .int x3)] [] (rec x3)) (hkk : AtL l D cy z p e s m below meth c b ws0 wsf 1420 [] [] (k)) (x3 : Int32) : AtL l D cy z p e s m below meth c b ws0 wsf 679 [(0, .ref b), (1, .ref x1), (2, .ref x2), (3, .int x3)] [] (j_L_law_679 xs L rec k x1 x2 x3) := by
  intro ws H locs cells slots ls hl hH hF
  obtain ⟨hx, hb, hr, hml, hown, hk, hz, hlocks, hX, hbl, hbA, hz2, hfr, hlo⟩ := id cx
  unfold j_L_law_679 at hF
  refine lv_aload_n hx hb dL_law_679 rfl (lv_at hl 1 rfl) ?_
  refine lv_aload_n hx hb dL_law_680 rfl (lv_at hl 0 rfl) ?_
  refine lv_iload_n hx hb dL_law_681 rfl (lv_at hl 3 rfl) ?_
  refine lv_iconst (v := (1)) hx hb dL_law_682 (by decide) ?_
  refine lv_iadd hx hb dL_law_683 ?_
  obtain ⟨hinv144, hF⟩ := sX_t hF
  refine va_sld hx hb hX hbl hbA hH.2.1 hinv144 dL_law_684 ?_
  refine lv_topi (fun v144 hv144 => ?_)
  have hF := rt_t hv144 hF
  refine lv_aload_n hx hb dL_law_685 rfl (lv_at hl 0 rfl) ?_
  refine lv_iload_n hx hb dL_law_686 rfl (lv_at hl 3 rfl) ?_
  refine lv_iconst (v := (2)) hx hb dL_law_687 (by decide) ?_
  refine lv_iadd hx hb dL_law_688 ?_
  obtain ⟨hinv145, hF⟩ := sX_t hF
  refine va_sld hx hb hX hbl hbA hH.2.1 hinv145 dL_law_689 ?_
  refine lv_topi (fun v145 hv145 => ?_)
  have hF := rt_t hv145 hF
  refine m_cVI hx hb hml hown hk hH hE hz (F := fun q147 => F_X10_inverse q147.1 v144 v145) (C := RX10) (T := TX10) (N := 7) rfl (As := [.int v144, .int v145]) (rest := []) (fun o => t_X10_inverse l D cy z o v144 v145) hF wd_524 wd_525 wd_33 wd_527 wd_526 yn_X10_inverse ⟨Nat.le_trans (by decide) hfr, Nat.le_trans (by decide) hlo⟩ hl.1 (by first | exact Nat.le_of_ble_eq_true rfl | simp [m_cat, m_ci, m_cl, m_cf, m_cd, m_cr]) rfl dL_law_690 (fun c146 ws H locs cells slots hH hF => ?_)
  refine lv_aload_n hx hb dL_law_693 rfl (lv_at hl 2 rfl) ?_
  refine lv_aload_n hx hb dL_law_694 rfl (lv_at hl 0 rfl) ?_
  refine lv_iload_n hx hb dL_law_695 rfl (lv_at hl 3 rfl) ?_
  refine lv_iconst (v := (1)) hx hb dL_law_696 (by decide) ?_
  refine lv_iadd hx hb dL_law_697 ?_
  obtain ⟨hinv148, hF⟩ := sX_t hF
  refine va_sld hx hb hX hbl hbA hH.2.1 hinv148 dL_law_698 ?_
  refine lv_topi (fun v148 hv148 => ?_)
  have hF := rt_t hv148 hF
  refine lv_aload_n hx hb dL_law_699 rfl (lv_at hl 0 rfl) ?_
  refine lv_iload_n hx hb dL_law_700 rfl (lv_at hl 3 rfl) ?_
  refine lv_iconst (v := (2)) hx hb dL_law_701 (by decide) ?_
  refine lv_iadd hx hb dL_law_702 ?_
  obtain ⟨hinv149, hF⟩ := sX_t hF
  refine va_sld hx hb hX hbl hbA hH.2.1 hinv149 dL_law_703 ?_
  refine lv_topi (fun v149 hv149 => ?_)
  have hF := rt_t hv149 hF
  refine m_cVI hx hb hml hown hk hH hE hz (F := fun q151 => F_X11_inverse q151.1 v148 v149) (C := RX11) (T := TX11) (N := 22) rfl (As := [.int v148, .int v149]) (rest := [.int c146]) (fun o => t_X11_inverse l D cy z o v148 v149) hF wd_959 wd_960 wd_38 wd_962 wd_961 yn_X11_inverse ⟨Nat.le_trans (by decide) hfr, Nat.le_trans (by decide) hlo⟩ hl.1 (by first | exact Nat.le_of_ble_eq_true rfl | simp [m_cat, m_ci, m_cl, m_cf, m_cd, m_cr]) rfl dL_law_704 (fun c150 ws H locs cells slots hH hF => ?_)
  refine lv_icmp_eq (tgt := 1414) hx hb dL_law_707 (by decide) (fun hc151 => ?_) (fun hc151 => ?_)
  · have hF := bq_t hc151 hF
    exact w_L_law_1414 cx hE _ _ x1 x2 hrec hkk x3 _ _ _ _ _ _ (lv_sub hl [0, 1, 2, 3] rfl) hH hF
  · have hF := bq_f hc151 hF
    refine lv_iconst (v := (0)) hx hb dL_law_710 (by decide) ?_
    exact law_ret hx hb hr hlocks hH hE hz2 hF dL_law_711
set_option maxHeartbeats 4000000 in
set_option maxRecDepth 100000 in
theorem w_L_law_712 {l : Launch} {D : va_G} {cy : Nat → ClassId} {z : Nat} {p : Program} {e : Env} {s : State} {m : MethodId} {below : List Frame} {meth : Method} {c : Code} {ws0 wsf : WS} {b L : Nat} {xs : Nat → Int32} (cx : LX D cy z p s m meth c b L xs) (hE : AL ws0 wsf room_1.cells room_1.slots) (rec : Int32 → St (Int32)) (k : St (Int32)) (x1 : Nat) (x2 : Nat) (hrec : ∀ (x3 : Int32), AtL l D cy z p e s m below meth c b ws0 wsf 18 [(0, .ref b), (1, .ref x1), (2, .ref x2), (3, .int x3)] [] (rec x3)) (hkk : AtL l D cy z p e s m below meth c b ws0 wsf 1420 [] [] (k)) (x3 : Int32) : AtL l D cy z p e s m below meth c b ws0 wsf 712 [(0, .ref b), (1, .ref x1), (2, .ref x2), (3, .int x3)] [] (j_L_law_712 xs L rec k x1 x2 x3) := by
  intro ws H locs cells slots ls hl hH hF
  obtain ⟨hx, hb, hr, hml, hown, hk, hz, hlocks, hX, hbl, hbA, hz2, hfr, hlo⟩ := id cx
  unfold j_L_law_712 at hF
  refine lv_aload_n hx hb dL_law_712 rfl (lv_at hl 1 rfl) ?_
  refine lv_aload_n hx hb dL_law_713 rfl (lv_at hl 0 rfl) ?_
  refine lv_iload_n hx hb dL_law_714 rfl (lv_at hl 3 rfl) ?_
  refine lv_iconst (v := (1)) hx hb dL_law_715 (by decide) ?_
  refine lv_iadd hx hb dL_law_716 ?_
  obtain ⟨hinv153, hF⟩ := sX_t hF
  refine va_sld hx hb hX hbl hbA hH.2.1 hinv153 dL_law_717 ?_
  refine lv_topi (fun v153 hv153 => ?_)
  have hF := rt_t hv153 hF
  refine lv_aload_n hx hb dL_law_718 rfl (lv_at hl 0 rfl) ?_
  refine lv_iload_n hx hb dL_law_719 rfl (lv_at hl 3 rfl) ?_
  refine lv_iconst (v := (2)) hx hb dL_law_720 (by decide) ?_
  refine lv_iadd hx hb dL_law_721 ?_
  obtain ⟨hinv154, hF⟩ := sX_t hF
  refine va_sld hx hb hX hbl hbA hH.2.1 hinv154 dL_law_722 ?_
  refine lv_topi (fun v154 hv154 => ?_)
  have hF := rt_t hv154 hF
  refine lv_aload_n hx hb dL_law_723 rfl (lv_at hl 0 rfl) ?_
  refine lv_iload_n hx hb dL_law_724 rfl (lv_at hl 3 rfl) ?_
  refine lv_iconst (v := (3)) hx hb dL_law_725 (by decide) ?_
  refine lv_iadd hx hb dL_law_726 ?_
  obtain ⟨hinv155, hF⟩ := sX_t hF
  refine va_sld hx hb hX hbl hbA hH.2.1 hinv155 dL_law_727 ?_
  refine lv_topi (fun v155 hv155 => ?_)
  have hF := rt_t hv155 hF
  refine m_cVI hx hb hml hown hk hH hE hz (F := fun q157 => F_X10_residual q157.1 v153 v154 v155) (C := RX10) (T := TX10) (N := 7) rfl (As := [.int v153, .int v154, .int v155]) (rest := []) (fun o => t_X10_residual l D cy z o v153 v154 v155) hF wd_537 wd_538 wd_33 wd_540 wd_539 yn_X10_residual ⟨Nat.le_trans (by decide) hfr, Nat.le_trans (by decide) hlo⟩ hl.1 (by first | exact Nat.le_of_ble_eq_true rfl | simp [m_cat, m_ci, m_cl, m_cf, m_cd, m_cr]) rfl dL_law_728 (fun c156 ws H locs cells slots hH hF => ?_)
  refine lv_aload_n hx hb dL_law_731 rfl (lv_at hl 2 rfl) ?_
  refine lv_aload_n hx hb dL_law_732 rfl (lv_at hl 0 rfl) ?_
  refine lv_iload_n hx hb dL_law_733 rfl (lv_at hl 3 rfl) ?_
  refine lv_iconst (v := (1)) hx hb dL_law_734 (by decide) ?_
  refine lv_iadd hx hb dL_law_735 ?_
  obtain ⟨hinv158, hF⟩ := sX_t hF
  refine va_sld hx hb hX hbl hbA hH.2.1 hinv158 dL_law_736 ?_
  refine lv_topi (fun v158 hv158 => ?_)
  have hF := rt_t hv158 hF
  refine lv_aload_n hx hb dL_law_737 rfl (lv_at hl 0 rfl) ?_
  refine lv_iload_n hx hb dL_law_738 rfl (lv_at hl 3 rfl) ?_
  refine lv_iconst (v := (2)) hx hb dL_law_739 (by decide) ?_
  refine lv_iadd hx hb dL_law_740 ?_
  obtain ⟨hinv159, hF⟩ := sX_t hF
  refine va_sld hx hb hX hbl hbA hH.2.1 hinv159 dL_law_741 ?_
  refine lv_topi (fun v159 hv159 => ?_)
  have hF := rt_t hv159 hF
  refine lv_aload_n hx hb dL_law_742 rfl (lv_at hl 0 rfl) ?_
  refine lv_iload_n hx hb dL_law_743 rfl (lv_at hl 3 rfl) ?_
  refine lv_iconst (v := (3)) hx hb dL_law_744 (by decide) ?_
  refine lv_iadd hx hb dL_law_745 ?_
  obtain ⟨hinv160, hF⟩ := sX_t hF
  refine va_sld hx hb hX hbl hbA hH.2.1 hinv160 dL_law_746 ?_
  refine lv_topi (fun v160 hv160 => ?_)
  have hF := rt_t hv160 hF
  refine m_cVI hx hb hml hown hk hH hE hz (F := fun q162 => F_X11_residual q162.1 v158 v159 v160) (C := RX11) (T := TX11) (N := 22) rfl (As := [.int v158, .int v159, .int v160]) (rest := [.int c156]) (fun o => t_X11_residual l D cy z o v158 v159 v160) hF wd_967 wd_968 wd_38 wd_970 wd_969 yn_X11_residual ⟨Nat.le_trans (by decide) hfr, Nat.le_trans (by decide) hlo⟩ hl.1 (by first | exact Nat.le_of_ble_eq_true rfl | simp [m_cat, m_ci, m_cl, m_cf, m_cd, m_cr]) rfl dL_law_747 (fun c161 ws H locs cells slots hH hF => ?_)
  refine lv_icmp_eq (tgt := 1414) hx hb dL_law_750 (by decide) (fun hc162 => ?_) (fun hc162 => ?_)
  · have hF := bq_t hc162 hF
    exact w_L_law_1414 cx hE _ _ x1 x2 hrec hkk x3 _ _ _ _ _ _ (lv_sub hl [0, 1, 2, 3] rfl) hH hF
  · have hF := bq_f hc162 hF
    refine lv_iconst (v := (0)) hx hb dL_law_753 (by decide) ?_
    exact law_ret hx hb hr hlocks hH hE hz2 hF dL_law_754
set_option maxHeartbeats 4000000 in
set_option maxRecDepth 100000 in
theorem w_L_law_755 {l : Launch} {D : va_G} {cy : Nat → ClassId} {z : Nat} {p : Program} {e : Env} {s : State} {m : MethodId} {below : List Frame} {meth : Method} {c : Code} {ws0 wsf : WS} {b L : Nat} {xs : Nat → Int32} (cx : LX D cy z p s m meth c b L xs) (hE : AL ws0 wsf room_1.cells room_1.slots) (rec : Int32 → St (Int32)) (k : St (Int32)) (x1 : Nat) (x2 : Nat) (hrec : ∀ (x3 : Int32), AtL l D cy z p e s m below meth c b ws0 wsf 18 [(0, .ref b), (1, .ref x1), (2, .ref x2), (3, .int x3)] [] (rec x3)) (hkk : AtL l D cy z p e s m below meth c b ws0 wsf 1420 [] [] (k)) (x3 : Int32) : AtL l D cy z p e s m below meth c b ws0 wsf 755 [(0, .ref b), (1, .ref x1), (2, .ref x2), (3, .int x3)] [] (j_L_law_755 xs L rec k x1 x2 x3) := by
  intro ws H locs cells slots ls hl hH hF
  obtain ⟨hx, hb, hr, hml, hown, hk, hz, hlocks, hX, hbl, hbA, hz2, hfr, hlo⟩ := id cx
  unfold j_L_law_755 at hF
  refine lv_aload_n hx hb dL_law_755 rfl (lv_at hl 1 rfl) ?_
  refine lv_aload_n hx hb dL_law_756 rfl (lv_at hl 0 rfl) ?_
  refine lv_iload_n hx hb dL_law_757 rfl (lv_at hl 3 rfl) ?_
  refine lv_iconst (v := (1)) hx hb dL_law_758 (by decide) ?_
  refine lv_iadd hx hb dL_law_759 ?_
  obtain ⟨hinv164, hF⟩ := sX_t hF
  refine va_sld hx hb hX hbl hbA hH.2.1 hinv164 dL_law_760 ?_
  refine lv_topi (fun v164 hv164 => ?_)
  have hF := rt_t hv164 hF
  refine lv_aload_n hx hb dL_law_761 rfl (lv_at hl 0 rfl) ?_
  refine lv_iload_n hx hb dL_law_762 rfl (lv_at hl 3 rfl) ?_
  refine lv_iconst (v := (2)) hx hb dL_law_763 (by decide) ?_
  refine lv_iadd hx hb dL_law_764 ?_
  obtain ⟨hinv165, hF⟩ := sX_t hF
  refine va_sld hx hb hX hbl hbA hH.2.1 hinv165 dL_law_765 ?_
  refine lv_topi (fun v165 hv165 => ?_)
  have hF := rt_t hv165 hF
  refine m_cVI hx hb hml hown hk hH hE hz (F := fun q167 => F_X10_worst q167.1 v164 v165) (C := RX10) (T := TX10) (N := 7) rfl (As := [.int v164, .int v165]) (rest := []) (fun o => t_X10_worst l D cy z o v164 v165) hF wd_546 wd_547 wd_33 wd_549 wd_548 yn_X10_worst ⟨Nat.le_trans (by decide) hfr, Nat.le_trans (by decide) hlo⟩ hl.1 (by first | exact Nat.le_of_ble_eq_true rfl | simp [m_cat, m_ci, m_cl, m_cf, m_cd, m_cr]) rfl dL_law_766 (fun c166 ws H locs cells slots hH hF => ?_)
  refine lv_aload_n hx hb dL_law_769 rfl (lv_at hl 2 rfl) ?_
  refine lv_aload_n hx hb dL_law_770 rfl (lv_at hl 0 rfl) ?_
  refine lv_iload_n hx hb dL_law_771 rfl (lv_at hl 3 rfl) ?_
  refine lv_iconst (v := (1)) hx hb dL_law_772 (by decide) ?_
  refine lv_iadd hx hb dL_law_773 ?_
  obtain ⟨hinv168, hF⟩ := sX_t hF
  refine va_sld hx hb hX hbl hbA hH.2.1 hinv168 dL_law_774 ?_
  refine lv_topi (fun v168 hv168 => ?_)
  have hF := rt_t hv168 hF
  refine lv_aload_n hx hb dL_law_775 rfl (lv_at hl 0 rfl) ?_
  refine lv_iload_n hx hb dL_law_776 rfl (lv_at hl 3 rfl) ?_
  refine lv_iconst (v := (2)) hx hb dL_law_777 (by decide) ?_
  refine lv_iadd hx hb dL_law_778 ?_
  obtain ⟨hinv169, hF⟩ := sX_t hF
  refine va_sld hx hb hX hbl hbA hH.2.1 hinv169 dL_law_779 ?_
  refine lv_topi (fun v169 hv169 => ?_)
  have hF := rt_t hv169 hF
  refine m_cVI hx hb hml hown hk hH hE hz (F := fun q171 => F_X11_worst q171.1 v168 v169) (C := RX11) (T := TX11) (N := 22) rfl (As := [.int v168, .int v169]) (rest := [.int c166]) (fun o => t_X11_worst l D cy z o v168 v169) hF wd_975 wd_976 wd_38 wd_978 wd_977 yn_X11_worst ⟨Nat.le_trans (by decide) hfr, Nat.le_trans (by decide) hlo⟩ hl.1 (by first | exact Nat.le_of_ble_eq_true rfl | simp [m_cat, m_ci, m_cl, m_cf, m_cd, m_cr]) rfl dL_law_780 (fun c170 ws H locs cells slots hH hF => ?_)
  refine lv_icmp_eq (tgt := 1414) hx hb dL_law_783 (by decide) (fun hc171 => ?_) (fun hc171 => ?_)
  · have hF := bq_t hc171 hF
    exact w_L_law_1414 cx hE _ _ x1 x2 hrec hkk x3 _ _ _ _ _ _ (lv_sub hl [0, 1, 2, 3] rfl) hH hF
  · have hF := bq_f hc171 hF
    refine lv_iconst (v := (0)) hx hb dL_law_786 (by decide) ?_
    exact law_ret hx hb hr hlocks hH hE hz2 hF dL_law_787
set_option maxHeartbeats 4000000 in
set_option maxRecDepth 100000 in
theorem w_L_law_788 {l : Launch} {D : va_G} {cy : Nat → ClassId} {z : Nat} {p : Program} {e : Env} {s : State} {m : MethodId} {below : List Frame} {meth : Method} {c : Code} {ws0 wsf : WS} {b L : Nat} {xs : Nat → Int32} (cx : LX D cy z p s m meth c b L xs) (hE : AL ws0 wsf room_1.cells room_1.slots) (rec : Int32 → St (Int32)) (k : St (Int32)) (x1 : Nat) (x2 : Nat) (hrec : ∀ (x3 : Int32), AtL l D cy z p e s m below meth c b ws0 wsf 18 [(0, .ref b), (1, .ref x1), (2, .ref x2), (3, .int x3)] [] (rec x3)) (hkk : AtL l D cy z p e s m below meth c b ws0 wsf 1420 [] [] (k)) (x3 : Int32) : AtL l D cy z p e s m below meth c b ws0 wsf 788 [(0, .ref b), (1, .ref x1), (2, .ref x2), (3, .int x3)] [] (j_L_law_788 xs L rec k x1 x2 x3) := by
  intro ws H locs cells slots ls hl hH hF
  obtain ⟨hx, hb, hr, hml, hown, hk, hz, hlocks, hX, hbl, hbA, hz2, hfr, hlo⟩ := id cx
  unfold j_L_law_788 at hF
  refine lv_aload_n hx hb dL_law_788 rfl (lv_at hl 1 rfl) ?_
  refine lv_aload_n hx hb dL_law_789 rfl (lv_at hl 0 rfl) ?_
  refine lv_iload_n hx hb dL_law_790 rfl (lv_at hl 3 rfl) ?_
  refine lv_iconst (v := (1)) hx hb dL_law_791 (by decide) ?_
  refine lv_iadd hx hb dL_law_792 ?_
  obtain ⟨hinv173, hF⟩ := sX_t hF
  refine va_sld hx hb hX hbl hbA hH.2.1 hinv173 dL_law_793 ?_
  refine lv_topi (fun v173 hv173 => ?_)
  have hF := rt_t hv173 hF
  refine lv_aload_n hx hb dL_law_794 rfl (lv_at hl 0 rfl) ?_
  refine lv_iload_n hx hb dL_law_795 rfl (lv_at hl 3 rfl) ?_
  refine lv_iconst (v := (2)) hx hb dL_law_796 (by decide) ?_
  refine lv_iadd hx hb dL_law_797 ?_
  obtain ⟨hinv174, hF⟩ := sX_t hF
  refine va_sld hx hb hX hbl hbA hH.2.1 hinv174 dL_law_798 ?_
  refine lv_topi (fun v174 hv174 => ?_)
  have hF := rt_t hv174 hF
  refine m_cVL hx hb hml hown hk hH hE hz (F := fun q176 => F_X10_squares q176.1 v173 v174) (C := RX10) (T := TX10) (N := 7) rfl (As := [.int v173, .int v174]) (rest := []) (fun o => t_X10_squares l D cy z o v173 v174) hF wd_558 wd_559 wd_33 wd_561 wd_560 yn_X10_squares ⟨Nat.le_trans (by decide) hfr, Nat.le_trans (by decide) hlo⟩ hl.1 (by first | exact Nat.le_of_ble_eq_true rfl | simp [m_cat, m_ci, m_cl, m_cf, m_cd, m_cr]) rfl dL_law_799 (fun c175 ws H locs cells slots hH hF => ?_)
  refine lv_aload_n hx hb dL_law_802 rfl (lv_at hl 2 rfl) ?_
  refine lv_aload_n hx hb dL_law_803 rfl (lv_at hl 0 rfl) ?_
  refine lv_iload_n hx hb dL_law_804 rfl (lv_at hl 3 rfl) ?_
  refine lv_iconst (v := (1)) hx hb dL_law_805 (by decide) ?_
  refine lv_iadd hx hb dL_law_806 ?_
  obtain ⟨hinv177, hF⟩ := sX_t hF
  refine va_sld hx hb hX hbl hbA hH.2.1 hinv177 dL_law_807 ?_
  refine lv_topi (fun v177 hv177 => ?_)
  have hF := rt_t hv177 hF
  refine lv_aload_n hx hb dL_law_808 rfl (lv_at hl 0 rfl) ?_
  refine lv_iload_n hx hb dL_law_809 rfl (lv_at hl 3 rfl) ?_
  refine lv_iconst (v := (2)) hx hb dL_law_810 (by decide) ?_
  refine lv_iadd hx hb dL_law_811 ?_
  obtain ⟨hinv178, hF⟩ := sX_t hF
  refine va_sld hx hb hX hbl hbA hH.2.1 hinv178 dL_law_812 ?_
  refine lv_topi (fun v178 hv178 => ?_)
  have hF := rt_t hv178 hF
  refine m_cVL hx hb hml hown hk hH hE hz (F := fun q180 => F_X11_squares q180.1 v177 v178) (C := RX11) (T := TX11) (N := 22) rfl (As := [.int v177, .int v178]) (rest := [.long c175]) (fun o => t_X11_squares l D cy z o v177 v178) hF wd_979 wd_980 wd_38 wd_982 wd_981 yn_X11_squares ⟨Nat.le_trans (by decide) hfr, Nat.le_trans (by decide) hlo⟩ hl.1 (by first | exact Nat.le_of_ble_eq_true rfl | simp [m_cat, m_ci, m_cl, m_cf, m_cd, m_cr]) rfl dL_law_813 (fun c179 ws H locs cells slots hH hF => ?_)
  refine W.lcmp hx hb dL_law_816 ?_
  refine lv_if_eq (tgt := 1414) hx hb dL_law_817 (by decide) (fun hc180 => ?_) (fun hc180 => ?_)
  · have hF := bq_t hc180 hF
    exact w_L_law_1414 cx hE _ _ x1 x2 hrec hkk x3 _ _ _ _ _ _ (lv_sub hl [0, 1, 2, 3] rfl) hH hF
  · have hF := bq_f hc180 hF
    refine lv_iconst (v := (0)) hx hb dL_law_820 (by decide) ?_
    exact law_ret hx hb hr hlocks hH hE hz2 hF dL_law_821
set_option maxHeartbeats 4000000 in
set_option maxRecDepth 100000 in
theorem w_L_law_822 {l : Launch} {D : va_G} {cy : Nat → ClassId} {z : Nat} {p : Program} {e : Env} {s : State} {m : MethodId} {below : List Frame} {meth : Method} {c : Code} {ws0 wsf : WS} {b L : Nat} {xs : Nat → Int32} (cx : LX D cy z p s m meth c b L xs) (hE : AL ws0 wsf room_1.cells room_1.slots) (rec : Int32 → St (Int32)) (k : St (Int32)) (x1 : Nat) (x2 : Nat) (hrec : ∀ (x3 : Int32), AtL l D cy z p e s m below meth c b ws0 wsf 18 [(0, .ref b), (1, .ref x1), (2, .ref x2), (3, .int x3)] [] (rec x3)) (hkk : AtL l D cy z p e s m below meth c b ws0 wsf 1420 [] [] (k)) (x3 : Int32) : AtL l D cy z p e s m below meth c b ws0 wsf 822 [(0, .ref b), (1, .ref x1), (2, .ref x2), (3, .int x3)] [] (j_L_law_822 xs L rec k x1 x2 x3) := by
  intro ws H locs cells slots ls hl hH hF
  obtain ⟨hx, hb, hr, hml, hown, hk, hz, hlocks, hX, hbl, hbA, hz2, hfr, hlo⟩ := id cx
  unfold j_L_law_822 at hF
  refine lv_aload_n hx hb dL_law_822 rfl (lv_at hl 1 rfl) ?_
  refine lv_aload_n hx hb dL_law_823 rfl (lv_at hl 0 rfl) ?_
  refine lv_iload_n hx hb dL_law_824 rfl (lv_at hl 3 rfl) ?_
  refine lv_iconst (v := (1)) hx hb dL_law_825 (by decide) ?_
  refine lv_iadd hx hb dL_law_826 ?_
  obtain ⟨hinv182, hF⟩ := sX_t hF
  refine va_sld hx hb hX hbl hbA hH.2.1 hinv182 dL_law_827 ?_
  refine lv_topi (fun v182 hv182 => ?_)
  have hF := rt_t hv182 hF
  refine lv_aload_n hx hb dL_law_828 rfl (lv_at hl 0 rfl) ?_
  refine lv_iload_n hx hb dL_law_829 rfl (lv_at hl 3 rfl) ?_
  refine lv_iconst (v := (2)) hx hb dL_law_830 (by decide) ?_
  refine lv_iadd hx hb dL_law_831 ?_
  obtain ⟨hinv183, hF⟩ := sX_t hF
  refine va_sld hx hb hX hbl hbA hH.2.1 hinv183 dL_law_832 ?_
  refine lv_topi (fun v183 hv183 => ?_)
  have hF := rt_t hv183 hF
  refine m_cVI hx hb hml hown hk hH hE hz (F := fun q185 => F_X10_drift q185.1 v182 v183) (C := RX10) (T := TX10) (N := 7) rfl (As := [.int v182, .int v183]) (rest := []) (fun o => t_X10_drift l D cy z o v182 v183) hF wd_567 wd_568 wd_33 wd_570 wd_569 yn_X10_drift ⟨Nat.le_trans (by decide) hfr, Nat.le_trans (by decide) hlo⟩ hl.1 (by first | exact Nat.le_of_ble_eq_true rfl | simp [m_cat, m_ci, m_cl, m_cf, m_cd, m_cr]) rfl dL_law_833 (fun c184 ws H locs cells slots hH hF => ?_)
  refine lv_aload_n hx hb dL_law_836 rfl (lv_at hl 2 rfl) ?_
  refine lv_aload_n hx hb dL_law_837 rfl (lv_at hl 0 rfl) ?_
  refine lv_iload_n hx hb dL_law_838 rfl (lv_at hl 3 rfl) ?_
  refine lv_iconst (v := (1)) hx hb dL_law_839 (by decide) ?_
  refine lv_iadd hx hb dL_law_840 ?_
  obtain ⟨hinv186, hF⟩ := sX_t hF
  refine va_sld hx hb hX hbl hbA hH.2.1 hinv186 dL_law_841 ?_
  refine lv_topi (fun v186 hv186 => ?_)
  have hF := rt_t hv186 hF
  refine lv_aload_n hx hb dL_law_842 rfl (lv_at hl 0 rfl) ?_
  refine lv_iload_n hx hb dL_law_843 rfl (lv_at hl 3 rfl) ?_
  refine lv_iconst (v := (2)) hx hb dL_law_844 (by decide) ?_
  refine lv_iadd hx hb dL_law_845 ?_
  obtain ⟨hinv187, hF⟩ := sX_t hF
  refine va_sld hx hb hX hbl hbA hH.2.1 hinv187 dL_law_846 ?_
  refine lv_topi (fun v187 hv187 => ?_)
  have hF := rt_t hv187 hF
  refine m_cVI hx hb hml hown hk hH hE hz (F := fun q189 => F_X11_drift q189.1 v186 v187) (C := RX11) (T := TX11) (N := 22) rfl (As := [.int v186, .int v187]) (rest := [.int c184]) (fun o => t_X11_drift l D cy z o v186 v187) hF wd_984 wd_985 wd_38 wd_987 wd_986 yn_X11_drift ⟨Nat.le_trans (by decide) hfr, Nat.le_trans (by decide) hlo⟩ hl.1 (by first | exact Nat.le_of_ble_eq_true rfl | simp [m_cat, m_ci, m_cl, m_cf, m_cd, m_cr]) rfl dL_law_847 (fun c188 ws H locs cells slots hH hF => ?_)
  refine lv_icmp_eq (tgt := 1414) hx hb dL_law_850 (by decide) (fun hc189 => ?_) (fun hc189 => ?_)
  · have hF := bq_t hc189 hF
    exact w_L_law_1414 cx hE _ _ x1 x2 hrec hkk x3 _ _ _ _ _ _ (lv_sub hl [0, 1, 2, 3] rfl) hH hF
  · have hF := bq_f hc189 hF
    refine lv_iconst (v := (0)) hx hb dL_law_853 (by decide) ?_
    exact law_ret hx hb hr hlocks hH hE hz2 hF dL_law_854
set_option maxHeartbeats 4000000 in
set_option maxRecDepth 100000 in
theorem w_L_law_855 {l : Launch} {D : va_G} {cy : Nat → ClassId} {z : Nat} {p : Program} {e : Env} {s : State} {m : MethodId} {below : List Frame} {meth : Method} {c : Code} {ws0 wsf : WS} {b L : Nat} {xs : Nat → Int32} (cx : LX D cy z p s m meth c b L xs) (hE : AL ws0 wsf room_1.cells room_1.slots) (rec : Int32 → St (Int32)) (k : St (Int32)) (x1 : Nat) (x2 : Nat) (hrec : ∀ (x3 : Int32), AtL l D cy z p e s m below meth c b ws0 wsf 18 [(0, .ref b), (1, .ref x1), (2, .ref x2), (3, .int x3)] [] (rec x3)) (hkk : AtL l D cy z p e s m below meth c b ws0 wsf 1420 [] [] (k)) (x3 : Int32) : AtL l D cy z p e s m below meth c b ws0 wsf 855 [(0, .ref b), (1, .ref x1), (2, .ref x2), (3, .int x3)] [] (j_L_law_855 xs L rec k x1 x2 x3) := by
  intro ws H locs cells slots ls hl hH hF
  obtain ⟨hx, hb, hr, hml, hown, hk, hz, hlocks, hX, hbl, hbA, hz2, hfr, hlo⟩ := id cx
  unfold j_L_law_855 at hF
  refine lv_aload_n hx hb dL_law_855 rfl (lv_at hl 1 rfl) ?_
  refine lv_aload_n hx hb dL_law_856 rfl (lv_at hl 0 rfl) ?_
  refine lv_iload_n hx hb dL_law_857 rfl (lv_at hl 3 rfl) ?_
  refine lv_iconst (v := (1)) hx hb dL_law_858 (by decide) ?_
  refine lv_iadd hx hb dL_law_859 ?_
  obtain ⟨hinv191, hF⟩ := sX_t hF
  refine va_sld hx hb hX hbl hbA hH.2.1 hinv191 dL_law_860 ?_
  refine lv_topi (fun v191 hv191 => ?_)
  have hF := rt_t hv191 hF
  refine lv_aload_n hx hb dL_law_861 rfl (lv_at hl 0 rfl) ?_
  refine lv_iload_n hx hb dL_law_862 rfl (lv_at hl 3 rfl) ?_
  refine lv_iconst (v := (2)) hx hb dL_law_863 (by decide) ?_
  refine lv_iadd hx hb dL_law_864 ?_
  obtain ⟨hinv192, hF⟩ := sX_t hF
  refine va_sld hx hb hX hbl hbA hH.2.1 hinv192 dL_law_865 ?_
  refine lv_topi (fun v192 hv192 => ?_)
  have hF := rt_t hv192 hF
  refine lv_aload_n hx hb dL_law_866 rfl (lv_at hl 0 rfl) ?_
  refine lv_iload_n hx hb dL_law_867 rfl (lv_at hl 3 rfl) ?_
  refine lv_iconst (v := (3)) hx hb dL_law_868 (by decide) ?_
  refine lv_iadd hx hb dL_law_869 ?_
  obtain ⟨hinv193, hF⟩ := sX_t hF
  refine va_sld hx hb hX hbl hbA hH.2.1 hinv193 dL_law_870 ?_
  refine lv_topi (fun v193 hv193 => ?_)
  have hF := rt_t hv193 hF
  refine lv_aload_n hx hb dL_law_871 rfl (lv_at hl 0 rfl) ?_
  refine lv_iload_n hx hb dL_law_872 rfl (lv_at hl 3 rfl) ?_
  refine lv_iconst (v := (4)) hx hb dL_law_873 (by decide) ?_
  refine lv_iadd hx hb dL_law_874 ?_
  obtain ⟨hinv194, hF⟩ := sX_t hF
  refine va_sld hx hb hX hbl hbA hH.2.1 hinv194 dL_law_875 ?_
  refine lv_topi (fun v194 hv194 => ?_)
  have hF := rt_t hv194 hF
  refine m_cVI hx hb hml hown hk hH hE hz (F := fun q196 => F_X10_probe q196.1 v191 v192 v193 v194) (C := RX10) (T := TX10) (N := 7) rfl (As := [.int v191, .int v192, .int v193, .int v194]) (rest := []) (fun o => t_X10_probe l D cy z o v191 v192 v193 v194) hF wd_575 wd_576 wd_33 wd_578 wd_577 yn_X10_probe ⟨Nat.le_trans (by decide) hfr, Nat.le_trans (by decide) hlo⟩ hl.1 (by first | exact Nat.le_of_ble_eq_true rfl | simp [m_cat, m_ci, m_cl, m_cf, m_cd, m_cr]) rfl dL_law_876 (fun c195 ws H locs cells slots hH hF => ?_)
  refine lv_aload_n hx hb dL_law_879 rfl (lv_at hl 2 rfl) ?_
  refine lv_aload_n hx hb dL_law_880 rfl (lv_at hl 0 rfl) ?_
  refine lv_iload_n hx hb dL_law_881 rfl (lv_at hl 3 rfl) ?_
  refine lv_iconst (v := (1)) hx hb dL_law_882 (by decide) ?_
  refine lv_iadd hx hb dL_law_883 ?_
  obtain ⟨hinv197, hF⟩ := sX_t hF
  refine va_sld hx hb hX hbl hbA hH.2.1 hinv197 dL_law_884 ?_
  refine lv_topi (fun v197 hv197 => ?_)
  have hF := rt_t hv197 hF
  refine lv_aload_n hx hb dL_law_885 rfl (lv_at hl 0 rfl) ?_
  refine lv_iload_n hx hb dL_law_886 rfl (lv_at hl 3 rfl) ?_
  refine lv_iconst (v := (2)) hx hb dL_law_887 (by decide) ?_
  refine lv_iadd hx hb dL_law_888 ?_
  obtain ⟨hinv198, hF⟩ := sX_t hF
  refine va_sld hx hb hX hbl hbA hH.2.1 hinv198 dL_law_889 ?_
  refine lv_topi (fun v198 hv198 => ?_)
  have hF := rt_t hv198 hF
  refine lv_aload_n hx hb dL_law_890 rfl (lv_at hl 0 rfl) ?_
  refine lv_iload_n hx hb dL_law_891 rfl (lv_at hl 3 rfl) ?_
  refine lv_iconst (v := (3)) hx hb dL_law_892 (by decide) ?_
  refine lv_iadd hx hb dL_law_893 ?_
  obtain ⟨hinv199, hF⟩ := sX_t hF
  refine va_sld hx hb hX hbl hbA hH.2.1 hinv199 dL_law_894 ?_
  refine lv_topi (fun v199 hv199 => ?_)
  have hF := rt_t hv199 hF
  refine lv_aload_n hx hb dL_law_895 rfl (lv_at hl 0 rfl) ?_
  refine lv_iload_n hx hb dL_law_896 rfl (lv_at hl 3 rfl) ?_
  refine lv_iconst (v := (4)) hx hb dL_law_897 (by decide) ?_
  refine lv_iadd hx hb dL_law_898 ?_
  obtain ⟨hinv200, hF⟩ := sX_t hF
  refine va_sld hx hb hX hbl hbA hH.2.1 hinv200 dL_law_899 ?_
  refine lv_topi (fun v200 hv200 => ?_)
  have hF := rt_t hv200 hF
  refine m_cVI hx hb hml hown hk hH hE hz (F := fun q202 => F_X11_probe q202.1 v197 v198 v199 v200) (C := RX11) (T := TX11) (N := 22) rfl (As := [.int v197, .int v198, .int v199, .int v200]) (rest := [.int c195]) (fun o => t_X11_probe l D cy z o v197 v198 v199 v200) hF wd_988 wd_989 wd_38 wd_991 wd_990 yn_X11_probe ⟨Nat.le_trans (by decide) hfr, Nat.le_trans (by decide) hlo⟩ hl.1 (by first | exact Nat.le_of_ble_eq_true rfl | simp [m_cat, m_ci, m_cl, m_cf, m_cd, m_cr]) rfl dL_law_900 (fun c201 ws H locs cells slots hH hF => ?_)
  refine lv_icmp_eq (tgt := 1414) hx hb dL_law_903 (by decide) (fun hc202 => ?_) (fun hc202 => ?_)
  · have hF := bq_t hc202 hF
    exact w_L_law_1414 cx hE _ _ x1 x2 hrec hkk x3 _ _ _ _ _ _ (lv_sub hl [0, 1, 2, 3] rfl) hH hF
  · have hF := bq_f hc202 hF
    refine lv_iconst (v := (0)) hx hb dL_law_906 (by decide) ?_
    exact law_ret hx hb hr hlocks hH hE hz2 hF dL_law_907
set_option maxHeartbeats 4000000 in
set_option maxRecDepth 100000 in
theorem w_L_law_908 {l : Launch} {D : va_G} {cy : Nat → ClassId} {z : Nat} {p : Program} {e : Env} {s : State} {m : MethodId} {below : List Frame} {meth : Method} {c : Code} {ws0 wsf : WS} {b L : Nat} {xs : Nat → Int32} (cx : LX D cy z p s m meth c b L xs) (hE : AL ws0 wsf room_1.cells room_1.slots) (rec : Int32 → St (Int32)) (k : St (Int32)) (x1 : Nat) (x2 : Nat) (hrec : ∀ (x3 : Int32), AtL l D cy z p e s m below meth c b ws0 wsf 18 [(0, .ref b), (1, .ref x1), (2, .ref x2), (3, .int x3)] [] (rec x3)) (hkk : AtL l D cy z p e s m below meth c b ws0 wsf 1420 [] [] (k)) (x3 : Int32) : AtL l D cy z p e s m below meth c b ws0 wsf 908 [(0, .ref b), (1, .ref x1), (2, .ref x2), (3, .int x3)] [] (j_L_law_908 xs L rec k x1 x2 x3) := by
  intro ws H locs cells slots ls hl hH hF
  obtain ⟨hx, hb, hr, hml, hown, hk, hz, hlocks, hX, hbl, hbA, hz2, hfr, hlo⟩ := id cx
  unfold j_L_law_908 at hF
  refine lv_aload_n hx hb dL_law_908 rfl (lv_at hl 1 rfl) ?_
  refine lv_aload_n hx hb dL_law_909 rfl (lv_at hl 0 rfl) ?_
  refine lv_iload_n hx hb dL_law_910 rfl (lv_at hl 3 rfl) ?_
  refine lv_iconst (v := (1)) hx hb dL_law_911 (by decide) ?_
  refine lv_iadd hx hb dL_law_912 ?_
  obtain ⟨hinv204, hF⟩ := sX_t hF
  refine va_sld hx hb hX hbl hbA hH.2.1 hinv204 dL_law_913 ?_
  refine lv_topi (fun v204 hv204 => ?_)
  have hF := rt_t hv204 hF
  refine lv_aload_n hx hb dL_law_914 rfl (lv_at hl 0 rfl) ?_
  refine lv_iload_n hx hb dL_law_915 rfl (lv_at hl 3 rfl) ?_
  refine lv_iconst (v := (2)) hx hb dL_law_916 (by decide) ?_
  refine lv_iadd hx hb dL_law_917 ?_
  obtain ⟨hinv205, hF⟩ := sX_t hF
  refine va_sld hx hb hX hbl hbA hH.2.1 hinv205 dL_law_918 ?_
  refine lv_topi (fun v205 hv205 => ?_)
  have hF := rt_t hv205 hF
  refine m_cVI hx hb hml hown hk hH hE hz (F := fun q207 => F_X10_feed q207.1 v204 v205) (C := RX10) (T := TX10) (N := 7) rfl (As := [.int v204, .int v205]) (rest := []) (fun o => t_X10_feed l D cy z o v204 v205) hF wd_587 wd_588 wd_33 wd_590 wd_589 yn_X10_feed ⟨Nat.le_trans (by decide) hfr, Nat.le_trans (by decide) hlo⟩ hl.1 (by first | exact Nat.le_of_ble_eq_true rfl | simp [m_cat, m_ci, m_cl, m_cf, m_cd, m_cr]) rfl dL_law_919 (fun c206 ws H locs cells slots hH hF => ?_)
  refine lv_aload_n hx hb dL_law_922 rfl (lv_at hl 2 rfl) ?_
  refine lv_aload_n hx hb dL_law_923 rfl (lv_at hl 0 rfl) ?_
  refine lv_iload_n hx hb dL_law_924 rfl (lv_at hl 3 rfl) ?_
  refine lv_iconst (v := (1)) hx hb dL_law_925 (by decide) ?_
  refine lv_iadd hx hb dL_law_926 ?_
  obtain ⟨hinv208, hF⟩ := sX_t hF
  refine va_sld hx hb hX hbl hbA hH.2.1 hinv208 dL_law_927 ?_
  refine lv_topi (fun v208 hv208 => ?_)
  have hF := rt_t hv208 hF
  refine lv_aload_n hx hb dL_law_928 rfl (lv_at hl 0 rfl) ?_
  refine lv_iload_n hx hb dL_law_929 rfl (lv_at hl 3 rfl) ?_
  refine lv_iconst (v := (2)) hx hb dL_law_930 (by decide) ?_
  refine lv_iadd hx hb dL_law_931 ?_
  obtain ⟨hinv209, hF⟩ := sX_t hF
  refine va_sld hx hb hX hbl hbA hH.2.1 hinv209 dL_law_932 ?_
  refine lv_topi (fun v209 hv209 => ?_)
  have hF := rt_t hv209 hF
  refine m_cVI hx hb hml hown hk hH hE hz (F := fun q211 => F_X11_feed q211.1 v208 v209) (C := RX11) (T := TX11) (N := 22) rfl (As := [.int v208, .int v209]) (rest := [.int c206]) (fun o => t_X11_feed l D cy z o v208 v209) hF wd_995 wd_996 wd_38 wd_998 wd_997 yn_X11_feed ⟨Nat.le_trans (by decide) hfr, Nat.le_trans (by decide) hlo⟩ hl.1 (by first | exact Nat.le_of_ble_eq_true rfl | simp [m_cat, m_ci, m_cl, m_cf, m_cd, m_cr]) rfl dL_law_933 (fun c210 ws H locs cells slots hH hF => ?_)
  refine lv_icmp_eq (tgt := 1414) hx hb dL_law_936 (by decide) (fun hc211 => ?_) (fun hc211 => ?_)
  · have hF := bq_t hc211 hF
    exact w_L_law_1414 cx hE _ _ x1 x2 hrec hkk x3 _ _ _ _ _ _ (lv_sub hl [0, 1, 2, 3] rfl) hH hF
  · have hF := bq_f hc211 hF
    refine lv_iconst (v := (0)) hx hb dL_law_939 (by decide) ?_
    exact law_ret hx hb hr hlocks hH hE hz2 hF dL_law_940
set_option maxHeartbeats 4000000 in
set_option maxRecDepth 100000 in
theorem w_L_law_941 {l : Launch} {D : va_G} {cy : Nat → ClassId} {z : Nat} {p : Program} {e : Env} {s : State} {m : MethodId} {below : List Frame} {meth : Method} {c : Code} {ws0 wsf : WS} {b L : Nat} {xs : Nat → Int32} (cx : LX D cy z p s m meth c b L xs) (hE : AL ws0 wsf room_1.cells room_1.slots) (rec : Int32 → St (Int32)) (k : St (Int32)) (x1 : Nat) (x2 : Nat) (hrec : ∀ (x3 : Int32), AtL l D cy z p e s m below meth c b ws0 wsf 18 [(0, .ref b), (1, .ref x1), (2, .ref x2), (3, .int x3)] [] (rec x3)) (hkk : AtL l D cy z p e s m below meth c b ws0 wsf 1420 [] [] (k)) (x3 : Int32) : AtL l D cy z p e s m below meth c b ws0 wsf 941 [(0, .ref b), (1, .ref x1), (2, .ref x2), (3, .int x3)] [] (j_L_law_941 xs L rec k x1 x2 x3) := by
  intro ws H locs cells slots ls hl hH hF
  obtain ⟨hx, hb, hr, hml, hown, hk, hz, hlocks, hX, hbl, hbA, hz2, hfr, hlo⟩ := id cx
  unfold j_L_law_941 at hF
  refine lv_aload_n hx hb dL_law_941 rfl (lv_at hl 1 rfl) ?_
  refine lv_aload_n hx hb dL_law_942 rfl (lv_at hl 0 rfl) ?_
  refine lv_iload_n hx hb dL_law_943 rfl (lv_at hl 3 rfl) ?_
  refine lv_iconst (v := (1)) hx hb dL_law_944 (by decide) ?_
  refine lv_iadd hx hb dL_law_945 ?_
  obtain ⟨hinv213, hF⟩ := sX_t hF
  refine va_sld hx hb hX hbl hbA hH.2.1 hinv213 dL_law_946 ?_
  refine lv_topi (fun v213 hv213 => ?_)
  have hF := rt_t hv213 hF
  refine m_cVI hx hb hml hown hk hH hE hz (F := fun q215 => F_X10_probed q215.1 v213) (C := RX10) (T := TX10) (N := 7) rfl (As := [.int v213]) (rest := []) (fun o => t_X10_probed l D cy z o v213) hF wd_608 wd_609 wd_33 wd_611 wd_610 yn_X10_probed ⟨Nat.le_trans (by decide) hfr, Nat.le_trans (by decide) hlo⟩ hl.1 (by first | exact Nat.le_of_ble_eq_true rfl | simp [m_cat, m_ci, m_cl, m_cf, m_cd, m_cr]) rfl dL_law_947 (fun c214 ws H locs cells slots hH hF => ?_)
  refine lv_aload_n hx hb dL_law_950 rfl (lv_at hl 2 rfl) ?_
  refine lv_aload_n hx hb dL_law_951 rfl (lv_at hl 0 rfl) ?_
  refine lv_iload_n hx hb dL_law_952 rfl (lv_at hl 3 rfl) ?_
  refine lv_iconst (v := (1)) hx hb dL_law_953 (by decide) ?_
  refine lv_iadd hx hb dL_law_954 ?_
  obtain ⟨hinv216, hF⟩ := sX_t hF
  refine va_sld hx hb hX hbl hbA hH.2.1 hinv216 dL_law_955 ?_
  refine lv_topi (fun v216 hv216 => ?_)
  have hF := rt_t hv216 hF
  refine m_cVI hx hb hml hown hk hH hE hz (F := fun q218 => F_X11_probed q218.1 v216) (C := RX11) (T := TX11) (N := 22) rfl (As := [.int v216]) (rest := [.int c214]) (fun o => t_X11_probed l D cy z o v216) hF wd_1003 wd_1004 wd_38 wd_1006 wd_1005 yn_X11_probed ⟨Nat.le_trans (by decide) hfr, Nat.le_trans (by decide) hlo⟩ hl.1 (by first | exact Nat.le_of_ble_eq_true rfl | simp [m_cat, m_ci, m_cl, m_cf, m_cd, m_cr]) rfl dL_law_956 (fun c217 ws H locs cells slots hH hF => ?_)
  refine lv_icmp_eq (tgt := 1414) hx hb dL_law_959 (by decide) (fun hc218 => ?_) (fun hc218 => ?_)
  · have hF := bq_t hc218 hF
    exact w_L_law_1414 cx hE _ _ x1 x2 hrec hkk x3 _ _ _ _ _ _ (lv_sub hl [0, 1, 2, 3] rfl) hH hF
  · have hF := bq_f hc218 hF
    refine lv_iconst (v := (0)) hx hb dL_law_962 (by decide) ?_
    exact law_ret hx hb hr hlocks hH hE hz2 hF dL_law_963
set_option maxHeartbeats 4000000 in
set_option maxRecDepth 100000 in
theorem w_L_law_964 {l : Launch} {D : va_G} {cy : Nat → ClassId} {z : Nat} {p : Program} {e : Env} {s : State} {m : MethodId} {below : List Frame} {meth : Method} {c : Code} {ws0 wsf : WS} {b L : Nat} {xs : Nat → Int32} (cx : LX D cy z p s m meth c b L xs) (hE : AL ws0 wsf room_1.cells room_1.slots) (rec : Int32 → St (Int32)) (k : St (Int32)) (x1 : Nat) (x2 : Nat) (hrec : ∀ (x3 : Int32), AtL l D cy z p e s m below meth c b ws0 wsf 18 [(0, .ref b), (1, .ref x1), (2, .ref x2), (3, .int x3)] [] (rec x3)) (hkk : AtL l D cy z p e s m below meth c b ws0 wsf 1420 [] [] (k)) (x3 : Int32) : AtL l D cy z p e s m below meth c b ws0 wsf 964 [(0, .ref b), (1, .ref x1), (2, .ref x2), (3, .int x3)] [] (j_L_law_964 xs L rec k x1 x2 x3) := by
  intro ws H locs cells slots ls hl hH hF
  obtain ⟨hx, hb, hr, hml, hown, hk, hz, hlocks, hX, hbl, hbA, hz2, hfr, hlo⟩ := id cx
  unfold j_L_law_964 at hF
  refine lv_aload_n hx hb dL_law_964 rfl (lv_at hl 1 rfl) ?_
  refine lv_aload_n hx hb dL_law_965 rfl (lv_at hl 0 rfl) ?_
  refine lv_iload_n hx hb dL_law_966 rfl (lv_at hl 3 rfl) ?_
  refine lv_iconst (v := (1)) hx hb dL_law_967 (by decide) ?_
  refine lv_iadd hx hb dL_law_968 ?_
  obtain ⟨hinv220, hF⟩ := sX_t hF
  refine va_sld hx hb hX hbl hbA hH.2.1 hinv220 dL_law_969 ?_
  refine lv_topi (fun v220 hv220 => ?_)
  have hF := rt_t hv220 hF
  refine lv_aload_n hx hb dL_law_970 rfl (lv_at hl 0 rfl) ?_
  refine lv_iload_n hx hb dL_law_971 rfl (lv_at hl 3 rfl) ?_
  refine lv_iconst (v := (2)) hx hb dL_law_972 (by decide) ?_
  refine lv_iadd hx hb dL_law_973 ?_
  obtain ⟨hinv221, hF⟩ := sX_t hF
  refine va_sld hx hb hX hbl hbA hH.2.1 hinv221 dL_law_974 ?_
  refine lv_topi (fun v221 hv221 => ?_)
  have hF := rt_t hv221 hF
  refine lv_aload_n hx hb dL_law_975 rfl (lv_at hl 0 rfl) ?_
  refine lv_iload_n hx hb dL_law_976 rfl (lv_at hl 3 rfl) ?_
  refine lv_iconst (v := (3)) hx hb dL_law_977 (by decide) ?_
  refine lv_iadd hx hb dL_law_978 ?_
  obtain ⟨hinv222, hF⟩ := sX_t hF
  refine va_sld hx hb hX hbl hbA hH.2.1 hinv222 dL_law_979 ?_
  refine lv_topi (fun v222 hv222 => ?_)
  have hF := rt_t hv222 hF
  refine m_cVI hx hb hml hown hk hH hE hz (F := fun q224 => F_X10_table q224.1 v220 v221 v222) (C := RX10) (T := TX10) (N := 7) rfl (As := [.int v220, .int v221, .int v222]) (rest := []) (fun o => t_X10_table l D cy z o v220 v221 v222) hF wd_618 wd_619 wd_33 wd_621 wd_620 yn_X10_table ⟨Nat.le_trans (by decide) hfr, Nat.le_trans (by decide) hlo⟩ hl.1 (by first | exact Nat.le_of_ble_eq_true rfl | simp [m_cat, m_ci, m_cl, m_cf, m_cd, m_cr]) rfl dL_law_980 (fun c223 ws H locs cells slots hH hF => ?_)
  refine lv_aload_n hx hb dL_law_983 rfl (lv_at hl 2 rfl) ?_
  refine lv_aload_n hx hb dL_law_984 rfl (lv_at hl 0 rfl) ?_
  refine lv_iload_n hx hb dL_law_985 rfl (lv_at hl 3 rfl) ?_
  refine lv_iconst (v := (1)) hx hb dL_law_986 (by decide) ?_
  refine lv_iadd hx hb dL_law_987 ?_
  obtain ⟨hinv225, hF⟩ := sX_t hF
  refine va_sld hx hb hX hbl hbA hH.2.1 hinv225 dL_law_988 ?_
  refine lv_topi (fun v225 hv225 => ?_)
  have hF := rt_t hv225 hF
  refine lv_aload_n hx hb dL_law_989 rfl (lv_at hl 0 rfl) ?_
  refine lv_iload_n hx hb dL_law_990 rfl (lv_at hl 3 rfl) ?_
  refine lv_iconst (v := (2)) hx hb dL_law_991 (by decide) ?_
  refine lv_iadd hx hb dL_law_992 ?_
  obtain ⟨hinv226, hF⟩ := sX_t hF
  refine va_sld hx hb hX hbl hbA hH.2.1 hinv226 dL_law_993 ?_
  refine lv_topi (fun v226 hv226 => ?_)
  have hF := rt_t hv226 hF
  refine lv_aload_n hx hb dL_law_994 rfl (lv_at hl 0 rfl) ?_
  refine lv_iload_n hx hb dL_law_995 rfl (lv_at hl 3 rfl) ?_
  refine lv_iconst (v := (3)) hx hb dL_law_996 (by decide) ?_
  refine lv_iadd hx hb dL_law_997 ?_
  obtain ⟨hinv227, hF⟩ := sX_t hF
  refine va_sld hx hb hX hbl hbA hH.2.1 hinv227 dL_law_998 ?_
  refine lv_topi (fun v227 hv227 => ?_)
  have hF := rt_t hv227 hF
  refine m_cVI hx hb hml hown hk hH hE hz (F := fun q229 => F_X11_table q229.1 v225 v226 v227) (C := RX11) (T := TX11) (N := 22) rfl (As := [.int v225, .int v226, .int v227]) (rest := [.int c223]) (fun o => t_X11_table l D cy z o v225 v226 v227) hF wd_1007 wd_1008 wd_38 wd_1010 wd_1009 yn_X11_table ⟨Nat.le_trans (by decide) hfr, Nat.le_trans (by decide) hlo⟩ hl.1 (by first | exact Nat.le_of_ble_eq_true rfl | simp [m_cat, m_ci, m_cl, m_cf, m_cd, m_cr]) rfl dL_law_999 (fun c228 ws H locs cells slots hH hF => ?_)
  refine lv_icmp_eq (tgt := 1414) hx hb dL_law_1002 (by decide) (fun hc229 => ?_) (fun hc229 => ?_)
  · have hF := bq_t hc229 hF
    exact w_L_law_1414 cx hE _ _ x1 x2 hrec hkk x3 _ _ _ _ _ _ (lv_sub hl [0, 1, 2, 3] rfl) hH hF
  · have hF := bq_f hc229 hF
    refine lv_iconst (v := (0)) hx hb dL_law_1005 (by decide) ?_
    exact law_ret hx hb hr hlocks hH hE hz2 hF dL_law_1006
set_option maxHeartbeats 4000000 in
set_option maxRecDepth 100000 in
theorem w_L_law_1065 {l : Launch} {D : va_G} {cy : Nat → ClassId} {z : Nat} {p : Program} {e : Env} {s : State} {m : MethodId} {below : List Frame} {meth : Method} {c : Code} {ws0 wsf : WS} {b L : Nat} {xs : Nat → Int32} (cx : LX D cy z p s m meth c b L xs) (hE : AL ws0 wsf room_1.cells room_1.slots) (rec : Int32 → St (Int32)) (k : St (Int32)) (x1 : Nat) (x2 : Nat) (hrec : ∀ (x3 : Int32), AtL l D cy z p e s m below meth c b ws0 wsf 18 [(0, .ref b), (1, .ref x1), (2, .ref x2), (3, .int x3)] [] (rec x3)) (hkk : AtL l D cy z p e s m below meth c b ws0 wsf 1420 [] [] (k)) (x3 : Int32) : AtL l D cy z p e s m below meth c b ws0 wsf 1065 [(0, .ref b), (1, .ref x1), (2, .ref x2), (3, .int x3)] [] (j_L_law_1065 xs L rec k x1 x2 x3) := by
  intro ws H locs cells slots ls hl hH hF
  obtain ⟨hx, hb, hr, hml, hown, hk, hz, hlocks, hX, hbl, hbA, hz2, hfr, hlo⟩ := id cx
  unfold j_L_law_1065 at hF
  refine lv_goto (tgt := 1414) hx hb dL_law_1065 (by decide) ?_
  exact w_L_law_1414 cx hE _ _ x1 x2 hrec hkk x3 _ _ _ _ _ _ (lv_sub hl [0, 1, 2, 3] rfl) hH hF
set_option maxHeartbeats 4000000 in
set_option maxRecDepth 100000 in
theorem w_L_law_1007 {l : Launch} {D : va_G} {cy : Nat → ClassId} {z : Nat} {p : Program} {e : Env} {s : State} {m : MethodId} {below : List Frame} {meth : Method} {c : Code} {ws0 wsf : WS} {b L : Nat} {xs : Nat → Int32} (cx : LX D cy z p s m meth c b L xs) (hE : AL ws0 wsf room_1.cells room_1.slots) (rec : Int32 → St (Int32)) (k : St (Int32)) (x1 : Nat) (x2 : Nat) (hrec : ∀ (x3 : Int32), AtL l D cy z p e s m below meth c b ws0 wsf 18 [(0, .ref b), (1, .ref x1), (2, .ref x2), (3, .int x3)] [] (rec x3)) (hkk : AtL l D cy z p e s m below meth c b ws0 wsf 1420 [] [] (k)) (x3 : Int32) : AtL l D cy z p e s m below meth c b ws0 wsf 1007 [(0, .ref b), (1, .ref x1), (2, .ref x2), (3, .int x3)] [] (j_L_law_1007 xs L rec k x1 x2 x3) := by
  intro ws H locs cells slots ls hl hH hF
  obtain ⟨hx, hb, hr, hml, hown, hk, hz, hlocks, hX, hbl, hbA, hz2, hfr, hlo⟩ := id cx
  unfold j_L_law_1007 at hF
  refine lv_aload_n hx hb dL_law_1007 rfl (lv_at hl 1 rfl) ?_
  refine lv_aload_n hx hb dL_law_1008 rfl (lv_at hl 0 rfl) ?_
  refine lv_iload_n hx hb dL_law_1009 rfl (lv_at hl 3 rfl) ?_
  refine lv_iconst (v := (1)) hx hb dL_law_1010 (by decide) ?_
  refine lv_iadd hx hb dL_law_1011 ?_
  obtain ⟨hinv231, hF⟩ := sX_t hF
  refine va_sld hx hb hX hbl hbA hH.2.1 hinv231 dL_law_1012 ?_
  refine lv_topi (fun v231 hv231 => ?_)
  have hF := rt_t hv231 hF
  refine lv_aload_n hx hb dL_law_1013 rfl (lv_at hl 0 rfl) ?_
  refine lv_iload_n hx hb dL_law_1014 rfl (lv_at hl 3 rfl) ?_
  refine lv_iconst (v := (2)) hx hb dL_law_1015 (by decide) ?_
  refine lv_iadd hx hb dL_law_1016 ?_
  obtain ⟨hinv232, hF⟩ := sX_t hF
  refine va_sld hx hb hX hbl hbA hH.2.1 hinv232 dL_law_1017 ?_
  refine lv_topi (fun v232 hv232 => ?_)
  have hF := rt_t hv232 hF
  refine m_cVD hx hb hml hown hk hH hE hz (F := fun q234 => F_X10_entry q234.1 v231 v232) (C := RX10) (T := TX10) (N := 7) rfl (As := [.int v231, .int v232]) (rest := []) (fun o => t_X10_entry l D cy z o v231 v232) hF wd_656 wd_657 wd_33 wd_659 wd_658 yn_X10_entry ⟨Nat.le_trans (by decide) hfr, Nat.le_trans (by decide) hlo⟩ hl.1 (by first | exact Nat.le_of_ble_eq_true rfl | simp [m_cat, m_ci, m_cl, m_cf, m_cd, m_cr]) rfl dL_law_1018 (fun c233 ws H locs cells slots hH hF => ?_)
  refine lv_dstore (lv' := [(4, .double c233), (0, .ref b), (1, .ref x1), (2, .ref x2), (3, .int x3)]) hx hb dL_law_1021 hl (by decide) (by first | rfl | simp [m_cat, m_ci, m_cl, m_cf, m_cd, m_cr]) (fun ls hl => ?_)
  refine lv_aload_n hx hb dL_law_1023 rfl (lv_at hl 3 rfl) ?_
  refine lv_aload_n hx hb dL_law_1024 rfl (lv_at hl 1 rfl) ?_
  refine lv_iload_n hx hb dL_law_1025 rfl (lv_at hl 4 rfl) ?_
  refine lv_iconst (v := (1)) hx hb dL_law_1026 (by decide) ?_
  refine lv_iadd hx hb dL_law_1027 ?_
  obtain ⟨hinv235, hF⟩ := sX_t hF
  refine va_sld hx hb hX hbl hbA hH.2.1 hinv235 dL_law_1028 ?_
  refine lv_topi (fun v235 hv235 => ?_)
  have hF := rt_t hv235 hF
  refine lv_aload_n hx hb dL_law_1029 rfl (lv_at hl 1 rfl) ?_
  refine lv_iload_n hx hb dL_law_1030 rfl (lv_at hl 4 rfl) ?_
  refine lv_iconst (v := (2)) hx hb dL_law_1031 (by decide) ?_
  refine lv_iadd hx hb dL_law_1032 ?_
  obtain ⟨hinv236, hF⟩ := sX_t hF
  refine va_sld hx hb hX hbl hbA hH.2.1 hinv236 dL_law_1033 ?_
  refine lv_topi (fun v236 hv236 => ?_)
  have hF := rt_t hv236 hF
  refine m_cVD hx hb hml hown hk hH hE hz (F := fun q238 => F_X11_entry q238.1 v235 v236) (C := RX11) (T := TX11) (N := 22) rfl (As := [.int v235, .int v236]) (rest := []) (fun o => t_X11_entry l D cy z o v235 v236) hF wd_1012 wd_1013 wd_38 wd_1015 wd_1014 yn_X11_entry ⟨Nat.le_trans (by decide) hfr, Nat.le_trans (by decide) hlo⟩ hl.1 (by first | exact Nat.le_of_ble_eq_true rfl | simp [m_cat, m_ci, m_cl, m_cf, m_cd, m_cr]) rfl dL_law_1034 (fun c237 ws H locs cells slots hH hF => ?_)
  refine lv_dstore (lv' := [(6, .double c237), (4, .double c233), (0, .ref b), (1, .ref x1), (2, .ref x2), (3, .int x3)]) hx hb dL_law_1037 hl (by decide) (by first | rfl | simp [m_cat, m_ci, m_cl, m_cf, m_cd, m_cr]) (fun ls hl => ?_)
  refine lv_dload hx hb dL_law_1039 (lv_at hl 1 rfl) ?_
  refine lv_dload hx hb dL_law_1041 (lv_at hl 0 rfl) ?_
  refine lv_dcmp hx hb dL_law_1043 ?_
  refine lv_if_eq (tgt := 1065) hx hb dL_law_1044 (by decide) (fun hc238 => ?_) (fun hc238 => ?_)
  · have hF := bq_t hc238 hF
    exact w_L_law_1065 cx hE _ _ x1 x2 hrec hkk x3 _ _ _ _ _ _ (lv_sub hl [2, 3, 4, 5] rfl) hH hF
  · have hF := bq_f hc238 hF
    refine lv_dload hx hb dL_law_1047 (lv_at hl 1 rfl) ?_
    refine lv_dload hx hb dL_law_1049 (lv_at hl 1 rfl) ?_
    refine lv_dcmp hx hb dL_law_1051 ?_
    refine lv_if_eq (tgt := 1063) hx hb dL_law_1052 (by decide) (fun hc239 => ?_) (fun hc239 => ?_)
    · have hF := bq_t hc239 hF
      refine lv_iconst (v := (0)) hx hb dL_law_1063 (by decide) ?_
      exact law_ret hx hb hr hlocks hH hE hz2 hF dL_law_1064
    · have hF := bq_f hc239 hF
      refine lv_dload hx hb dL_law_1055 (lv_at hl 0 rfl) ?_
      refine lv_dload hx hb dL_law_1057 (lv_at hl 0 rfl) ?_
      refine lv_dcmp hx hb dL_law_1059 ?_
      refine lv_if_ne (tgt := 1065) hx hb dL_law_1060 (by decide) (fun hc240 => ?_) (fun hc240 => ?_)
      · have hF := bq_f hc240 hF
        exact w_L_law_1065 cx hE _ _ x1 x2 hrec hkk x3 _ _ _ _ _ _ (lv_sub hl [2, 3, 4, 5] rfl) hH hF
      · have hF := bq_t hc240 hF
        refine lv_iconst (v := (0)) hx hb dL_law_1063 (by decide) ?_
        exact law_ret hx hb hr hlocks hH hE hz2 hF dL_law_1064
set_option maxHeartbeats 4000000 in
set_option maxRecDepth 100000 in
theorem w_L_law_1126 {l : Launch} {D : va_G} {cy : Nat → ClassId} {z : Nat} {p : Program} {e : Env} {s : State} {m : MethodId} {below : List Frame} {meth : Method} {c : Code} {ws0 wsf : WS} {b L : Nat} {xs : Nat → Int32} (cx : LX D cy z p s m meth c b L xs) (hE : AL ws0 wsf room_1.cells room_1.slots) (rec : Int32 → St (Int32)) (k : St (Int32)) (x1 : Nat) (x2 : Nat) (hrec : ∀ (x3 : Int32), AtL l D cy z p e s m below meth c b ws0 wsf 18 [(0, .ref b), (1, .ref x1), (2, .ref x2), (3, .int x3)] [] (rec x3)) (hkk : AtL l D cy z p e s m below meth c b ws0 wsf 1420 [] [] (k)) (x3 : Int32) : AtL l D cy z p e s m below meth c b ws0 wsf 1126 [(0, .ref b), (1, .ref x1), (2, .ref x2), (3, .int x3)] [] (j_L_law_1126 xs L rec k x1 x2 x3) := by
  intro ws H locs cells slots ls hl hH hF
  obtain ⟨hx, hb, hr, hml, hown, hk, hz, hlocks, hX, hbl, hbA, hz2, hfr, hlo⟩ := id cx
  unfold j_L_law_1126 at hF
  refine lv_goto (tgt := 1414) hx hb dL_law_1126 (by decide) ?_
  exact w_L_law_1414 cx hE _ _ x1 x2 hrec hkk x3 _ _ _ _ _ _ (lv_sub hl [0, 1, 2, 3] rfl) hH hF
set_option maxHeartbeats 4000000 in
set_option maxRecDepth 100000 in
theorem w_L_law_1068 {l : Launch} {D : va_G} {cy : Nat → ClassId} {z : Nat} {p : Program} {e : Env} {s : State} {m : MethodId} {below : List Frame} {meth : Method} {c : Code} {ws0 wsf : WS} {b L : Nat} {xs : Nat → Int32} (cx : LX D cy z p s m meth c b L xs) (hE : AL ws0 wsf room_1.cells room_1.slots) (rec : Int32 → St (Int32)) (k : St (Int32)) (x1 : Nat) (x2 : Nat) (hrec : ∀ (x3 : Int32), AtL l D cy z p e s m below meth c b ws0 wsf 18 [(0, .ref b), (1, .ref x1), (2, .ref x2), (3, .int x3)] [] (rec x3)) (hkk : AtL l D cy z p e s m below meth c b ws0 wsf 1420 [] [] (k)) (x3 : Int32) : AtL l D cy z p e s m below meth c b ws0 wsf 1068 [(0, .ref b), (1, .ref x1), (2, .ref x2), (3, .int x3)] [] (j_L_law_1068 xs L rec k x1 x2 x3) := by
  intro ws H locs cells slots ls hl hH hF
  obtain ⟨hx, hb, hr, hml, hown, hk, hz, hlocks, hX, hbl, hbA, hz2, hfr, hlo⟩ := id cx
  unfold j_L_law_1068 at hF
  refine lv_aload_n hx hb dL_law_1068 rfl (lv_at hl 1 rfl) ?_
  refine lv_aload_n hx hb dL_law_1069 rfl (lv_at hl 0 rfl) ?_
  refine lv_iload_n hx hb dL_law_1070 rfl (lv_at hl 3 rfl) ?_
  refine lv_iconst (v := (1)) hx hb dL_law_1071 (by decide) ?_
  refine lv_iadd hx hb dL_law_1072 ?_
  obtain ⟨hinv242, hF⟩ := sX_t hF
  refine va_sld hx hb hX hbl hbA hH.2.1 hinv242 dL_law_1073 ?_
  refine lv_topi (fun v242 hv242 => ?_)
  have hF := rt_t hv242 hF
  refine lv_aload_n hx hb dL_law_1074 rfl (lv_at hl 0 rfl) ?_
  refine lv_iload_n hx hb dL_law_1075 rfl (lv_at hl 3 rfl) ?_
  refine lv_iconst (v := (2)) hx hb dL_law_1076 (by decide) ?_
  refine lv_iadd hx hb dL_law_1077 ?_
  obtain ⟨hinv243, hF⟩ := sX_t hF
  refine va_sld hx hb hX hbl hbA hH.2.1 hinv243 dL_law_1078 ?_
  refine lv_topi (fun v243 hv243 => ?_)
  have hF := rt_t hv243 hF
  refine m_cVD hx hb hml hown hk hH hE hz (F := fun q245 => F_X10_lookup q245.1 v242 v243) (C := RX10) (T := TX10) (N := 7) rfl (As := [.int v242, .int v243]) (rest := []) (fun o => t_X10_lookup l D cy z o v242 v243) hF wd_669 wd_670 wd_33 wd_672 wd_671 yn_X10_lookup ⟨Nat.le_trans (by decide) hfr, Nat.le_trans (by decide) hlo⟩ hl.1 (by first | exact Nat.le_of_ble_eq_true rfl | simp [m_cat, m_ci, m_cl, m_cf, m_cd, m_cr]) rfl dL_law_1079 (fun c244 ws H locs cells slots hH hF => ?_)
  refine lv_dstore (lv' := [(4, .double c244), (0, .ref b), (1, .ref x1), (2, .ref x2), (3, .int x3)]) hx hb dL_law_1082 hl (by decide) (by first | rfl | simp [m_cat, m_ci, m_cl, m_cf, m_cd, m_cr]) (fun ls hl => ?_)
  refine lv_aload_n hx hb dL_law_1084 rfl (lv_at hl 3 rfl) ?_
  refine lv_aload_n hx hb dL_law_1085 rfl (lv_at hl 1 rfl) ?_
  refine lv_iload_n hx hb dL_law_1086 rfl (lv_at hl 4 rfl) ?_
  refine lv_iconst (v := (1)) hx hb dL_law_1087 (by decide) ?_
  refine lv_iadd hx hb dL_law_1088 ?_
  obtain ⟨hinv246, hF⟩ := sX_t hF
  refine va_sld hx hb hX hbl hbA hH.2.1 hinv246 dL_law_1089 ?_
  refine lv_topi (fun v246 hv246 => ?_)
  have hF := rt_t hv246 hF
  refine lv_aload_n hx hb dL_law_1090 rfl (lv_at hl 1 rfl) ?_
  refine lv_iload_n hx hb dL_law_1091 rfl (lv_at hl 4 rfl) ?_
  refine lv_iconst (v := (2)) hx hb dL_law_1092 (by decide) ?_
  refine lv_iadd hx hb dL_law_1093 ?_
  obtain ⟨hinv247, hF⟩ := sX_t hF
  refine va_sld hx hb hX hbl hbA hH.2.1 hinv247 dL_law_1094 ?_
  refine lv_topi (fun v247 hv247 => ?_)
  have hF := rt_t hv247 hF
  refine m_cVD hx hb hml hown hk hH hE hz (F := fun q249 => F_X11_lookup q249.1 v246 v247) (C := RX11) (T := TX11) (N := 22) rfl (As := [.int v246, .int v247]) (rest := []) (fun o => t_X11_lookup l D cy z o v246 v247) hF wd_1021 wd_1022 wd_38 wd_1024 wd_1023 yn_X11_lookup ⟨Nat.le_trans (by decide) hfr, Nat.le_trans (by decide) hlo⟩ hl.1 (by first | exact Nat.le_of_ble_eq_true rfl | simp [m_cat, m_ci, m_cl, m_cf, m_cd, m_cr]) rfl dL_law_1095 (fun c248 ws H locs cells slots hH hF => ?_)
  refine lv_dstore (lv' := [(6, .double c248), (4, .double c244), (0, .ref b), (1, .ref x1), (2, .ref x2), (3, .int x3)]) hx hb dL_law_1098 hl (by decide) (by first | rfl | simp [m_cat, m_ci, m_cl, m_cf, m_cd, m_cr]) (fun ls hl => ?_)
  refine lv_dload hx hb dL_law_1100 (lv_at hl 1 rfl) ?_
  refine lv_dload hx hb dL_law_1102 (lv_at hl 0 rfl) ?_
  refine lv_dcmp hx hb dL_law_1104 ?_
  refine lv_if_eq (tgt := 1126) hx hb dL_law_1105 (by decide) (fun hc249 => ?_) (fun hc249 => ?_)
  · have hF := bq_t hc249 hF
    exact w_L_law_1126 cx hE _ _ x1 x2 hrec hkk x3 _ _ _ _ _ _ (lv_sub hl [2, 3, 4, 5] rfl) hH hF
  · have hF := bq_f hc249 hF
    refine lv_dload hx hb dL_law_1108 (lv_at hl 1 rfl) ?_
    refine lv_dload hx hb dL_law_1110 (lv_at hl 1 rfl) ?_
    refine lv_dcmp hx hb dL_law_1112 ?_
    refine lv_if_eq (tgt := 1124) hx hb dL_law_1113 (by decide) (fun hc250 => ?_) (fun hc250 => ?_)
    · have hF := bq_t hc250 hF
      refine lv_iconst (v := (0)) hx hb dL_law_1124 (by decide) ?_
      exact law_ret hx hb hr hlocks hH hE hz2 hF dL_law_1125
    · have hF := bq_f hc250 hF
      refine lv_dload hx hb dL_law_1116 (lv_at hl 0 rfl) ?_
      refine lv_dload hx hb dL_law_1118 (lv_at hl 0 rfl) ?_
      refine lv_dcmp hx hb dL_law_1120 ?_
      refine lv_if_ne (tgt := 1126) hx hb dL_law_1121 (by decide) (fun hc251 => ?_) (fun hc251 => ?_)
      · have hF := bq_f hc251 hF
        exact w_L_law_1126 cx hE _ _ x1 x2 hrec hkk x3 _ _ _ _ _ _ (lv_sub hl [2, 3, 4, 5] rfl) hH hF
      · have hF := bq_t hc251 hF
        refine lv_iconst (v := (0)) hx hb dL_law_1124 (by decide) ?_
        exact law_ret hx hb hr hlocks hH hE hz2 hF dL_law_1125
set_option maxHeartbeats 4000000 in
set_option maxRecDepth 100000 in
theorem w_L_law_1177 {l : Launch} {D : va_G} {cy : Nat → ClassId} {z : Nat} {p : Program} {e : Env} {s : State} {m : MethodId} {below : List Frame} {meth : Method} {c : Code} {ws0 wsf : WS} {b L : Nat} {xs : Nat → Int32} (cx : LX D cy z p s m meth c b L xs) (hE : AL ws0 wsf room_1.cells room_1.slots) (rec : Int32 → St (Int32)) (k : St (Int32)) (x1 : Nat) (x2 : Nat) (hrec : ∀ (x3 : Int32), AtL l D cy z p e s m below meth c b ws0 wsf 18 [(0, .ref b), (1, .ref x1), (2, .ref x2), (3, .int x3)] [] (rec x3)) (hkk : AtL l D cy z p e s m below meth c b ws0 wsf 1420 [] [] (k)) (x3 : Int32) : AtL l D cy z p e s m below meth c b ws0 wsf 1177 [(0, .ref b), (1, .ref x1), (2, .ref x2), (3, .int x3)] [] (j_L_law_1177 xs L rec k x1 x2 x3) := by
  intro ws H locs cells slots ls hl hH hF
  obtain ⟨hx, hb, hr, hml, hown, hk, hz, hlocks, hX, hbl, hbA, hz2, hfr, hlo⟩ := id cx
  unfold j_L_law_1177 at hF
  refine lv_goto (tgt := 1414) hx hb dL_law_1177 (by decide) ?_
  exact w_L_law_1414 cx hE _ _ x1 x2 hrec hkk x3 _ _ _ _ _ _ (lv_sub hl [0, 1, 2, 3] rfl) hH hF
set_option maxHeartbeats 4000000 in
set_option maxRecDepth 100000 in
theorem w_L_law_1129 {l : Launch} {D : va_G} {cy : Nat → ClassId} {z : Nat} {p : Program} {e : Env} {s : State} {m : MethodId} {below : List Frame} {meth : Method} {c : Code} {ws0 wsf : WS} {b L : Nat} {xs : Nat → Int32} (cx : LX D cy z p s m meth c b L xs) (hE : AL ws0 wsf room_1.cells room_1.slots) (rec : Int32 → St (Int32)) (k : St (Int32)) (x1 : Nat) (x2 : Nat) (hrec : ∀ (x3 : Int32), AtL l D cy z p e s m below meth c b ws0 wsf 18 [(0, .ref b), (1, .ref x1), (2, .ref x2), (3, .int x3)] [] (rec x3)) (hkk : AtL l D cy z p e s m below meth c b ws0 wsf 1420 [] [] (k)) (x3 : Int32) : AtL l D cy z p e s m below meth c b ws0 wsf 1129 [(0, .ref b), (1, .ref x1), (2, .ref x2), (3, .int x3)] [] (j_L_law_1129 xs L rec k x1 x2 x3) := by
  intro ws H locs cells slots ls hl hH hF
  obtain ⟨hx, hb, hr, hml, hown, hk, hz, hlocks, hX, hbl, hbA, hz2, hfr, hlo⟩ := id cx
  unfold j_L_law_1129 at hF
  refine lv_aload_n hx hb dL_law_1129 rfl (lv_at hl 1 rfl) ?_
  refine lv_aload_n hx hb dL_law_1130 rfl (lv_at hl 0 rfl) ?_
  refine lv_iload_n hx hb dL_law_1131 rfl (lv_at hl 3 rfl) ?_
  refine lv_iconst (v := (1)) hx hb dL_law_1132 (by decide) ?_
  refine lv_iadd hx hb dL_law_1133 ?_
  obtain ⟨hinv253, hF⟩ := sX_t hF
  refine va_sld hx hb hX hbl hbA hH.2.1 hinv253 dL_law_1134 ?_
  refine lv_topi (fun v253 hv253 => ?_)
  have hF := rt_t hv253 hF
  refine m_cVD hx hb hml hown hk hH hE hz (F := fun q255 => F_X10_off q255.1 v253) (C := RX10) (T := TX10) (N := 7) rfl (As := [.int v253]) (rest := []) (fun o => t_X10_off l D cy z o v253) hF wd_677 wd_678 wd_33 wd_680 wd_679 yn_X10_off ⟨Nat.le_trans (by decide) hfr, Nat.le_trans (by decide) hlo⟩ hl.1 (by first | exact Nat.le_of_ble_eq_true rfl | simp [m_cat, m_ci, m_cl, m_cf, m_cd, m_cr]) rfl dL_law_1135 (fun c254 ws H locs cells slots hH hF => ?_)
  refine lv_dstore (lv' := [(4, .double c254), (0, .ref b), (1, .ref x1), (2, .ref x2), (3, .int x3)]) hx hb dL_law_1138 hl (by decide) (by first | rfl | simp [m_cat, m_ci, m_cl, m_cf, m_cd, m_cr]) (fun ls hl => ?_)
  refine lv_aload_n hx hb dL_law_1140 rfl (lv_at hl 3 rfl) ?_
  refine lv_aload_n hx hb dL_law_1141 rfl (lv_at hl 1 rfl) ?_
  refine lv_iload_n hx hb dL_law_1142 rfl (lv_at hl 4 rfl) ?_
  refine lv_iconst (v := (1)) hx hb dL_law_1143 (by decide) ?_
  refine lv_iadd hx hb dL_law_1144 ?_
  obtain ⟨hinv256, hF⟩ := sX_t hF
  refine va_sld hx hb hX hbl hbA hH.2.1 hinv256 dL_law_1145 ?_
  refine lv_topi (fun v256 hv256 => ?_)
  have hF := rt_t hv256 hF
  refine m_cVD hx hb hml hown hk hH hE hz (F := fun q258 => F_X11_off q258.1 v256) (C := RX11) (T := TX11) (N := 22) rfl (As := [.int v256]) (rest := []) (fun o => t_X11_off l D cy z o v256) hF wd_1029 wd_1030 wd_38 wd_1032 wd_1031 yn_X11_off ⟨Nat.le_trans (by decide) hfr, Nat.le_trans (by decide) hlo⟩ hl.1 (by first | exact Nat.le_of_ble_eq_true rfl | simp [m_cat, m_ci, m_cl, m_cf, m_cd, m_cr]) rfl dL_law_1146 (fun c257 ws H locs cells slots hH hF => ?_)
  refine lv_dstore (lv' := [(6, .double c257), (4, .double c254), (0, .ref b), (1, .ref x1), (2, .ref x2), (3, .int x3)]) hx hb dL_law_1149 hl (by decide) (by first | rfl | simp [m_cat, m_ci, m_cl, m_cf, m_cd, m_cr]) (fun ls hl => ?_)
  refine lv_dload hx hb dL_law_1151 (lv_at hl 1 rfl) ?_
  refine lv_dload hx hb dL_law_1153 (lv_at hl 0 rfl) ?_
  refine lv_dcmp hx hb dL_law_1155 ?_
  refine lv_if_eq (tgt := 1177) hx hb dL_law_1156 (by decide) (fun hc258 => ?_) (fun hc258 => ?_)
  · have hF := bq_t hc258 hF
    exact w_L_law_1177 cx hE _ _ x1 x2 hrec hkk x3 _ _ _ _ _ _ (lv_sub hl [2, 3, 4, 5] rfl) hH hF
  · have hF := bq_f hc258 hF
    refine lv_dload hx hb dL_law_1159 (lv_at hl 1 rfl) ?_
    refine lv_dload hx hb dL_law_1161 (lv_at hl 1 rfl) ?_
    refine lv_dcmp hx hb dL_law_1163 ?_
    refine lv_if_eq (tgt := 1175) hx hb dL_law_1164 (by decide) (fun hc259 => ?_) (fun hc259 => ?_)
    · have hF := bq_t hc259 hF
      refine lv_iconst (v := (0)) hx hb dL_law_1175 (by decide) ?_
      exact law_ret hx hb hr hlocks hH hE hz2 hF dL_law_1176
    · have hF := bq_f hc259 hF
      refine lv_dload hx hb dL_law_1167 (lv_at hl 0 rfl) ?_
      refine lv_dload hx hb dL_law_1169 (lv_at hl 0 rfl) ?_
      refine lv_dcmp hx hb dL_law_1171 ?_
      refine lv_if_ne (tgt := 1177) hx hb dL_law_1172 (by decide) (fun hc260 => ?_) (fun hc260 => ?_)
      · have hF := bq_f hc260 hF
        exact w_L_law_1177 cx hE _ _ x1 x2 hrec hkk x3 _ _ _ _ _ _ (lv_sub hl [2, 3, 4, 5] rfl) hH hF
      · have hF := bq_t hc260 hF
        refine lv_iconst (v := (0)) hx hb dL_law_1175 (by decide) ?_
        exact law_ret hx hb hr hlocks hH hE hz2 hF dL_law_1176
set_option maxHeartbeats 4000000 in
set_option maxRecDepth 100000 in
theorem w_L_law_1180 {l : Launch} {D : va_G} {cy : Nat → ClassId} {z : Nat} {p : Program} {e : Env} {s : State} {m : MethodId} {below : List Frame} {meth : Method} {c : Code} {ws0 wsf : WS} {b L : Nat} {xs : Nat → Int32} (cx : LX D cy z p s m meth c b L xs) (hE : AL ws0 wsf room_1.cells room_1.slots) (rec : Int32 → St (Int32)) (k : St (Int32)) (x1 : Nat) (x2 : Nat) (hrec : ∀ (x3 : Int32), AtL l D cy z p e s m below meth c b ws0 wsf 18 [(0, .ref b), (1, .ref x1), (2, .ref x2), (3, .int x3)] [] (rec x3)) (hkk : AtL l D cy z p e s m below meth c b ws0 wsf 1420 [] [] (k)) (x3 : Int32) : AtL l D cy z p e s m below meth c b ws0 wsf 1180 [(0, .ref b), (1, .ref x1), (2, .ref x2), (3, .int x3)] [] (j_L_law_1180 xs L rec k x1 x2 x3) := by
  intro ws H locs cells slots ls hl hH hF
  obtain ⟨hx, hb, hr, hml, hown, hk, hz, hlocks, hX, hbl, hbA, hz2, hfr, hlo⟩ := id cx
  unfold j_L_law_1180 at hF
  refine lv_aload_n hx hb dL_law_1180 rfl (lv_at hl 1 rfl) ?_
  refine lv_aload_n hx hb dL_law_1181 rfl (lv_at hl 0 rfl) ?_
  refine lv_iload_n hx hb dL_law_1182 rfl (lv_at hl 3 rfl) ?_
  refine lv_iconst (v := (1)) hx hb dL_law_1183 (by decide) ?_
  refine lv_iadd hx hb dL_law_1184 ?_
  obtain ⟨hinv262, hF⟩ := sX_t hF
  refine va_sld hx hb hX hbl hbA hH.2.1 hinv262 dL_law_1185 ?_
  refine lv_topi (fun v262 hv262 => ?_)
  have hF := rt_t hv262 hF
  refine m_cVI hx hb hml hown hk hH hE hz (F := fun q264 => F_X10_offAt q264.1 v262) (C := RX10) (T := TX10) (N := 7) rfl (As := [.int v262]) (rest := []) (fun o => t_X10_offAt l D cy z o v262) hF wd_689 wd_690 wd_33 wd_692 wd_691 yn_X10_offAt ⟨Nat.le_trans (by decide) hfr, Nat.le_trans (by decide) hlo⟩ hl.1 (by first | exact Nat.le_of_ble_eq_true rfl | simp [m_cat, m_ci, m_cl, m_cf, m_cd, m_cr]) rfl dL_law_1186 (fun c263 ws H locs cells slots hH hF => ?_)
  refine lv_aload_n hx hb dL_law_1189 rfl (lv_at hl 2 rfl) ?_
  refine lv_aload_n hx hb dL_law_1190 rfl (lv_at hl 0 rfl) ?_
  refine lv_iload_n hx hb dL_law_1191 rfl (lv_at hl 3 rfl) ?_
  refine lv_iconst (v := (1)) hx hb dL_law_1192 (by decide) ?_
  refine lv_iadd hx hb dL_law_1193 ?_
  obtain ⟨hinv265, hF⟩ := sX_t hF
  refine va_sld hx hb hX hbl hbA hH.2.1 hinv265 dL_law_1194 ?_
  refine lv_topi (fun v265 hv265 => ?_)
  have hF := rt_t hv265 hF
  refine m_cVI hx hb hml hown hk hH hE hz (F := fun q267 => F_X11_offAt q267.1 v265) (C := RX11) (T := TX11) (N := 22) rfl (As := [.int v265]) (rest := [.int c263]) (fun o => t_X11_offAt l D cy z o v265) hF wd_1042 wd_1043 wd_38 wd_1045 wd_1044 yn_X11_offAt ⟨Nat.le_trans (by decide) hfr, Nat.le_trans (by decide) hlo⟩ hl.1 (by first | exact Nat.le_of_ble_eq_true rfl | simp [m_cat, m_ci, m_cl, m_cf, m_cd, m_cr]) rfl dL_law_1195 (fun c266 ws H locs cells slots hH hF => ?_)
  refine lv_icmp_eq (tgt := 1414) hx hb dL_law_1198 (by decide) (fun hc267 => ?_) (fun hc267 => ?_)
  · have hF := bq_t hc267 hF
    exact w_L_law_1414 cx hE _ _ x1 x2 hrec hkk x3 _ _ _ _ _ _ (lv_sub hl [0, 1, 2, 3] rfl) hH hF
  · have hF := bq_f hc267 hF
    refine lv_iconst (v := (0)) hx hb dL_law_1201 (by decide) ?_
    exact law_ret hx hb hr hlocks hH hE hz2 hF dL_law_1202
set_option maxHeartbeats 4000000 in
set_option maxRecDepth 100000 in
theorem w_L_law_1203 {l : Launch} {D : va_G} {cy : Nat → ClassId} {z : Nat} {p : Program} {e : Env} {s : State} {m : MethodId} {below : List Frame} {meth : Method} {c : Code} {ws0 wsf : WS} {b L : Nat} {xs : Nat → Int32} (cx : LX D cy z p s m meth c b L xs) (hE : AL ws0 wsf room_1.cells room_1.slots) (rec : Int32 → St (Int32)) (k : St (Int32)) (x1 : Nat) (x2 : Nat) (hrec : ∀ (x3 : Int32), AtL l D cy z p e s m below meth c b ws0 wsf 18 [(0, .ref b), (1, .ref x1), (2, .ref x2), (3, .int x3)] [] (rec x3)) (hkk : AtL l D cy z p e s m below meth c b ws0 wsf 1420 [] [] (k)) (x3 : Int32) : AtL l D cy z p e s m below meth c b ws0 wsf 1203 [(0, .ref b), (1, .ref x1), (2, .ref x2), (3, .int x3)] [] (j_L_law_1203 xs L rec k x1 x2 x3) := by
  intro ws H locs cells slots ls hl hH hF
  obtain ⟨hx, hb, hr, hml, hown, hk, hz, hlocks, hX, hbl, hbA, hz2, hfr, hlo⟩ := id cx
  unfold j_L_law_1203 at hF
  refine lv_aload_n hx hb dL_law_1203 rfl (lv_at hl 1 rfl) ?_
  refine lv_aload_n hx hb dL_law_1204 rfl (lv_at hl 0 rfl) ?_
  refine lv_iload_n hx hb dL_law_1205 rfl (lv_at hl 3 rfl) ?_
  refine lv_iconst (v := (1)) hx hb dL_law_1206 (by decide) ?_
  refine lv_iadd hx hb dL_law_1207 ?_
  obtain ⟨hinv269, hF⟩ := sX_t hF
  refine va_sld hx hb hX hbl hbA hH.2.1 hinv269 dL_law_1208 ?_
  refine lv_topi (fun v269 hv269 => ?_)
  have hF := rt_t hv269 hF
  refine lv_aload_n hx hb dL_law_1209 rfl (lv_at hl 0 rfl) ?_
  refine lv_iload_n hx hb dL_law_1210 rfl (lv_at hl 3 rfl) ?_
  refine lv_iconst (v := (2)) hx hb dL_law_1211 (by decide) ?_
  refine lv_iadd hx hb dL_law_1212 ?_
  obtain ⟨hinv270, hF⟩ := sX_t hF
  refine va_sld hx hb hX hbl hbA hH.2.1 hinv270 dL_law_1213 ?_
  refine lv_topi (fun v270 hv270 => ?_)
  have hF := rt_t hv270 hF
  refine m_cVL hx hb hml hown hk hH hE hz (F := fun q272 => F_X10_bank q272.1 v269 v270) (C := RX10) (T := TX10) (N := 7) rfl (As := [.int v269, .int v270]) (rest := []) (fun o => t_X10_bank l D cy z o v269 v270) hF wd_693 wd_694 wd_33 wd_696 wd_695 yn_X10_bank ⟨Nat.le_trans (by decide) hfr, Nat.le_trans (by decide) hlo⟩ hl.1 (by first | exact Nat.le_of_ble_eq_true rfl | simp [m_cat, m_ci, m_cl, m_cf, m_cd, m_cr]) rfl dL_law_1214 (fun c271 ws H locs cells slots hH hF => ?_)
  refine lv_aload_n hx hb dL_law_1217 rfl (lv_at hl 2 rfl) ?_
  refine lv_aload_n hx hb dL_law_1218 rfl (lv_at hl 0 rfl) ?_
  refine lv_iload_n hx hb dL_law_1219 rfl (lv_at hl 3 rfl) ?_
  refine lv_iconst (v := (1)) hx hb dL_law_1220 (by decide) ?_
  refine lv_iadd hx hb dL_law_1221 ?_
  obtain ⟨hinv273, hF⟩ := sX_t hF
  refine va_sld hx hb hX hbl hbA hH.2.1 hinv273 dL_law_1222 ?_
  refine lv_topi (fun v273 hv273 => ?_)
  have hF := rt_t hv273 hF
  refine lv_aload_n hx hb dL_law_1223 rfl (lv_at hl 0 rfl) ?_
  refine lv_iload_n hx hb dL_law_1224 rfl (lv_at hl 3 rfl) ?_
  refine lv_iconst (v := (2)) hx hb dL_law_1225 (by decide) ?_
  refine lv_iadd hx hb dL_law_1226 ?_
  obtain ⟨hinv274, hF⟩ := sX_t hF
  refine va_sld hx hb hX hbl hbA hH.2.1 hinv274 dL_law_1227 ?_
  refine lv_topi (fun v274 hv274 => ?_)
  have hF := rt_t hv274 hF
  refine m_cVL hx hb hml hown hk hH hE hz (F := fun q276 => F_X11_bank q276.1 v273 v274) (C := RX11) (T := TX11) (N := 22) rfl (As := [.int v273, .int v274]) (rest := [.long c271]) (fun o => t_X11_bank l D cy z o v273 v274) hF wd_1046 wd_1047 wd_38 wd_1049 wd_1048 yn_X11_bank ⟨Nat.le_trans (by decide) hfr, Nat.le_trans (by decide) hlo⟩ hl.1 (by first | exact Nat.le_of_ble_eq_true rfl | simp [m_cat, m_ci, m_cl, m_cf, m_cd, m_cr]) rfl dL_law_1228 (fun c275 ws H locs cells slots hH hF => ?_)
  refine W.lcmp hx hb dL_law_1231 ?_
  refine lv_if_eq (tgt := 1414) hx hb dL_law_1232 (by decide) (fun hc276 => ?_) (fun hc276 => ?_)
  · have hF := bq_t hc276 hF
    exact w_L_law_1414 cx hE _ _ x1 x2 hrec hkk x3 _ _ _ _ _ _ (lv_sub hl [0, 1, 2, 3] rfl) hH hF
  · have hF := bq_f hc276 hF
    refine lv_iconst (v := (0)) hx hb dL_law_1235 (by decide) ?_
    exact law_ret hx hb hr hlocks hH hE hz2 hF dL_law_1236
set_option maxHeartbeats 4000000 in
set_option maxRecDepth 100000 in
theorem w_L_law_1237 {l : Launch} {D : va_G} {cy : Nat → ClassId} {z : Nat} {p : Program} {e : Env} {s : State} {m : MethodId} {below : List Frame} {meth : Method} {c : Code} {ws0 wsf : WS} {b L : Nat} {xs : Nat → Int32} (cx : LX D cy z p s m meth c b L xs) (hE : AL ws0 wsf room_1.cells room_1.slots) (rec : Int32 → St (Int32)) (k : St (Int32)) (x1 : Nat) (x2 : Nat) (hrec : ∀ (x3 : Int32), AtL l D cy z p e s m below meth c b ws0 wsf 18 [(0, .ref b), (1, .ref x1), (2, .ref x2), (3, .int x3)] [] (rec x3)) (hkk : AtL l D cy z p e s m below meth c b ws0 wsf 1420 [] [] (k)) (x3 : Int32) : AtL l D cy z p e s m below meth c b ws0 wsf 1237 [(0, .ref b), (1, .ref x1), (2, .ref x2), (3, .int x3)] [] (j_L_law_1237 xs L rec k x1 x2 x3) := by
  intro ws H locs cells slots ls hl hH hF
  obtain ⟨hx, hb, hr, hml, hown, hk, hz, hlocks, hX, hbl, hbA, hz2, hfr, hlo⟩ := id cx
  unfold j_L_law_1237 at hF
  refine lv_aload_n hx hb dL_law_1237 rfl (lv_at hl 1 rfl) ?_
  refine lv_aload_n hx hb dL_law_1238 rfl (lv_at hl 0 rfl) ?_
  refine lv_iload_n hx hb dL_law_1239 rfl (lv_at hl 3 rfl) ?_
  refine lv_iconst (v := (1)) hx hb dL_law_1240 (by decide) ?_
  refine lv_iadd hx hb dL_law_1241 ?_
  obtain ⟨hinv278, hF⟩ := sX_t hF
  refine va_sld hx hb hX hbl hbA hH.2.1 hinv278 dL_law_1242 ?_
  refine lv_topi (fun v278 hv278 => ?_)
  have hF := rt_t hv278 hF
  refine m_cVI hx hb hml hown hk hH hE hz (F := fun q280 => F_X10_free q280.1 v278) (C := RX10) (T := TX10) (N := 7) rfl (As := [.int v278]) (rest := []) (fun o => t_X10_free l D cy z o v278) hF wd_711 wd_712 wd_33 wd_714 wd_713 yn_X10_free ⟨Nat.le_trans (by decide) hfr, Nat.le_trans (by decide) hlo⟩ hl.1 (by first | exact Nat.le_of_ble_eq_true rfl | simp [m_cat, m_ci, m_cl, m_cf, m_cd, m_cr]) rfl dL_law_1243 (fun c279 ws H locs cells slots hH hF => ?_)
  refine lv_aload_n hx hb dL_law_1246 rfl (lv_at hl 2 rfl) ?_
  refine lv_aload_n hx hb dL_law_1247 rfl (lv_at hl 0 rfl) ?_
  refine lv_iload_n hx hb dL_law_1248 rfl (lv_at hl 3 rfl) ?_
  refine lv_iconst (v := (1)) hx hb dL_law_1249 (by decide) ?_
  refine lv_iadd hx hb dL_law_1250 ?_
  obtain ⟨hinv281, hF⟩ := sX_t hF
  refine va_sld hx hb hX hbl hbA hH.2.1 hinv281 dL_law_1251 ?_
  refine lv_topi (fun v281 hv281 => ?_)
  have hF := rt_t hv281 hF
  refine m_cVI hx hb hml hown hk hH hE hz (F := fun q283 => F_X11_free q283.1 v281) (C := RX11) (T := TX11) (N := 22) rfl (As := [.int v281]) (rest := [.int c279]) (fun o => t_X11_free l D cy z o v281) hF wd_1054 wd_1055 wd_38 wd_1057 wd_1056 yn_X11_free ⟨Nat.le_trans (by decide) hfr, Nat.le_trans (by decide) hlo⟩ hl.1 (by first | exact Nat.le_of_ble_eq_true rfl | simp [m_cat, m_ci, m_cl, m_cf, m_cd, m_cr]) rfl dL_law_1252 (fun c282 ws H locs cells slots hH hF => ?_)
  refine lv_icmp_eq (tgt := 1414) hx hb dL_law_1255 (by decide) (fun hc283 => ?_) (fun hc283 => ?_)
  · have hF := bq_t hc283 hF
    exact w_L_law_1414 cx hE _ _ x1 x2 hrec hkk x3 _ _ _ _ _ _ (lv_sub hl [0, 1, 2, 3] rfl) hH hF
  · have hF := bq_f hc283 hF
    refine lv_iconst (v := (0)) hx hb dL_law_1258 (by decide) ?_
    exact law_ret hx hb hr hlocks hH hE hz2 hF dL_law_1259
set_option maxHeartbeats 4000000 in
set_option maxRecDepth 100000 in
theorem w_L_law_1260 {l : Launch} {D : va_G} {cy : Nat → ClassId} {z : Nat} {p : Program} {e : Env} {s : State} {m : MethodId} {below : List Frame} {meth : Method} {c : Code} {ws0 wsf : WS} {b L : Nat} {xs : Nat → Int32} (cx : LX D cy z p s m meth c b L xs) (hE : AL ws0 wsf room_1.cells room_1.slots) (rec : Int32 → St (Int32)) (k : St (Int32)) (x1 : Nat) (x2 : Nat) (hrec : ∀ (x3 : Int32), AtL l D cy z p e s m below meth c b ws0 wsf 18 [(0, .ref b), (1, .ref x1), (2, .ref x2), (3, .int x3)] [] (rec x3)) (hkk : AtL l D cy z p e s m below meth c b ws0 wsf 1420 [] [] (k)) (x3 : Int32) : AtL l D cy z p e s m below meth c b ws0 wsf 1260 [(0, .ref b), (1, .ref x1), (2, .ref x2), (3, .int x3)] [] (j_L_law_1260 xs L rec k x1 x2 x3) := by
  intro ws H locs cells slots ls hl hH hF
  obtain ⟨hx, hb, hr, hml, hown, hk, hz, hlocks, hX, hbl, hbA, hz2, hfr, hlo⟩ := id cx
  unfold j_L_law_1260 at hF
  refine lv_aload_n hx hb dL_law_1260 rfl (lv_at hl 1 rfl) ?_
  refine lv_aload_n hx hb dL_law_1261 rfl (lv_at hl 0 rfl) ?_
  refine lv_iload_n hx hb dL_law_1262 rfl (lv_at hl 3 rfl) ?_
  refine lv_iconst (v := (1)) hx hb dL_law_1263 (by decide) ?_
  refine lv_iadd hx hb dL_law_1264 ?_
  obtain ⟨hinv285, hF⟩ := sX_t hF
  refine va_sld hx hb hX hbl hbA hH.2.1 hinv285 dL_law_1265 ?_
  refine lv_topi (fun v285 hv285 => ?_)
  have hF := rt_t hv285 hF
  refine lv_aload_n hx hb dL_law_1266 rfl (lv_at hl 0 rfl) ?_
  refine lv_iload_n hx hb dL_law_1267 rfl (lv_at hl 3 rfl) ?_
  refine lv_iconst (v := (2)) hx hb dL_law_1268 (by decide) ?_
  refine lv_iadd hx hb dL_law_1269 ?_
  obtain ⟨hinv286, hF⟩ := sX_t hF
  refine va_sld hx hb hX hbl hbA hH.2.1 hinv286 dL_law_1270 ?_
  refine lv_topi (fun v286 hv286 => ?_)
  have hF := rt_t hv286 hF
  refine lv_aload_n hx hb dL_law_1271 rfl (lv_at hl 0 rfl) ?_
  refine lv_iload_n hx hb dL_law_1272 rfl (lv_at hl 3 rfl) ?_
  refine lv_iconst (v := (3)) hx hb dL_law_1273 (by decide) ?_
  refine lv_iadd hx hb dL_law_1274 ?_
  obtain ⟨hinv287, hF⟩ := sX_t hF
  refine va_sld hx hb hX hbl hbA hH.2.1 hinv287 dL_law_1275 ?_
  refine lv_topi (fun v287 hv287 => ?_)
  have hF := rt_t hv287 hF
  refine lv_i2l hx hb dL_law_1276 rfl ?_
  refine lv_bipush (v := (32)) hx hb dL_law_1277 (by decide) ?_
  refine lv_lshl hx hb dL_law_1279 rfl ?_
  refine lv_aload_n hx hb dL_law_1280 rfl (lv_at hl 0 rfl) ?_
  refine lv_iload_n hx hb dL_law_1281 rfl (lv_at hl 3 rfl) ?_
  refine lv_iconst (v := (4)) hx hb dL_law_1282 (by decide) ?_
  refine lv_iadd hx hb dL_law_1283 ?_
  obtain ⟨hinv288, hF⟩ := sX_t hF
  refine va_sld hx hb hX hbl hbA hH.2.1 hinv288 dL_law_1284 ?_
  refine lv_topi (fun v288 hv288 => ?_)
  have hF := rt_t hv288 hF
  refine lv_i2l hx hb dL_law_1285 rfl ?_
  refine lv_ldc2 hx hb hown (hk.wd wd_1079 _) dL_law_1286 ?_
  refine lv_land hx hb dL_law_1289 ?_
  refine lv_lor hx hb dL_law_1290 ?_
  refine m_cVL hx hb hml hown hk hH hE hz (F := fun q290 => F_X10_hold q290.1 v285 v286 ((v287.toInt64 <<< ((32 : Int32).toInt64 &&& 63)) ||| (v288.toInt64 &&& (4294967295 : Int64)))) (C := RX10) (T := TX10) (N := 7) rfl (As := [.int v285, .int v286, .long ((v287.toInt64 <<< ((32 : Int32).toInt64 &&& 63)) ||| (v288.toInt64 &&& (4294967295 : Int64)))]) (rest := []) (fun o => t_X10_hold l D cy z o v285 v286 ((v287.toInt64 <<< ((32 : Int32).toInt64 &&& 63)) ||| (v288.toInt64 &&& (4294967295 : Int64)))) hF wd_723 wd_724 wd_33 wd_726 wd_725 yn_X10_hold ⟨Nat.le_trans (by decide) hfr, Nat.le_trans (by decide) hlo⟩ hl.1 (by first | exact Nat.le_of_ble_eq_true rfl | simp [m_cat, m_ci, m_cl, m_cf, m_cd, m_cr]) rfl dL_law_1291 (fun c289 ws H locs cells slots hH hF => ?_)
  refine lv_aload_n hx hb dL_law_1294 rfl (lv_at hl 2 rfl) ?_
  refine lv_aload_n hx hb dL_law_1295 rfl (lv_at hl 0 rfl) ?_
  refine lv_iload_n hx hb dL_law_1296 rfl (lv_at hl 3 rfl) ?_
  refine lv_iconst (v := (1)) hx hb dL_law_1297 (by decide) ?_
  refine lv_iadd hx hb dL_law_1298 ?_
  obtain ⟨hinv291, hF⟩ := sX_t hF
  refine va_sld hx hb hX hbl hbA hH.2.1 hinv291 dL_law_1299 ?_
  refine lv_topi (fun v291 hv291 => ?_)
  have hF := rt_t hv291 hF
  refine lv_aload_n hx hb dL_law_1300 rfl (lv_at hl 0 rfl) ?_
  refine lv_iload_n hx hb dL_law_1301 rfl (lv_at hl 3 rfl) ?_
  refine lv_iconst (v := (2)) hx hb dL_law_1302 (by decide) ?_
  refine lv_iadd hx hb dL_law_1303 ?_
  obtain ⟨hinv292, hF⟩ := sX_t hF
  refine va_sld hx hb hX hbl hbA hH.2.1 hinv292 dL_law_1304 ?_
  refine lv_topi (fun v292 hv292 => ?_)
  have hF := rt_t hv292 hF
  refine lv_aload_n hx hb dL_law_1305 rfl (lv_at hl 0 rfl) ?_
  refine lv_iload_n hx hb dL_law_1306 rfl (lv_at hl 3 rfl) ?_
  refine lv_iconst (v := (3)) hx hb dL_law_1307 (by decide) ?_
  refine lv_iadd hx hb dL_law_1308 ?_
  obtain ⟨hinv293, hF⟩ := sX_t hF
  refine va_sld hx hb hX hbl hbA hH.2.1 hinv293 dL_law_1309 ?_
  refine lv_topi (fun v293 hv293 => ?_)
  have hF := rt_t hv293 hF
  refine lv_i2l hx hb dL_law_1310 rfl ?_
  refine lv_bipush (v := (32)) hx hb dL_law_1311 (by decide) ?_
  refine lv_lshl hx hb dL_law_1313 rfl ?_
  refine lv_aload_n hx hb dL_law_1314 rfl (lv_at hl 0 rfl) ?_
  refine lv_iload_n hx hb dL_law_1315 rfl (lv_at hl 3 rfl) ?_
  refine lv_iconst (v := (4)) hx hb dL_law_1316 (by decide) ?_
  refine lv_iadd hx hb dL_law_1317 ?_
  obtain ⟨hinv294, hF⟩ := sX_t hF
  refine va_sld hx hb hX hbl hbA hH.2.1 hinv294 dL_law_1318 ?_
  refine lv_topi (fun v294 hv294 => ?_)
  have hF := rt_t hv294 hF
  refine lv_i2l hx hb dL_law_1319 rfl ?_
  refine lv_ldc2 hx hb hown (hk.wd wd_1079 _) dL_law_1320 ?_
  refine lv_land hx hb dL_law_1323 ?_
  refine lv_lor hx hb dL_law_1324 ?_
  refine m_cVL hx hb hml hown hk hH hE hz (F := fun q296 => F_X11_hold q296.1 v291 v292 ((v293.toInt64 <<< ((32 : Int32).toInt64 &&& 63)) ||| (v294.toInt64 &&& (4294967295 : Int64)))) (C := RX11) (T := TX11) (N := 22) rfl (As := [.int v291, .int v292, .long ((v293.toInt64 <<< ((32 : Int32).toInt64 &&& 63)) ||| (v294.toInt64 &&& (4294967295 : Int64)))]) (rest := [.long c289]) (fun o => t_X11_hold l D cy z o v291 v292 ((v293.toInt64 <<< ((32 : Int32).toInt64 &&& 63)) ||| (v294.toInt64 &&& (4294967295 : Int64)))) hF wd_1058 wd_1059 wd_38 wd_1061 wd_1060 yn_X11_hold ⟨Nat.le_trans (by decide) hfr, Nat.le_trans (by decide) hlo⟩ hl.1 (by first | exact Nat.le_of_ble_eq_true rfl | simp [m_cat, m_ci, m_cl, m_cf, m_cd, m_cr]) rfl dL_law_1325 (fun c295 ws H locs cells slots hH hF => ?_)
  refine W.lcmp hx hb dL_law_1328 ?_
  refine lv_if_eq (tgt := 1414) hx hb dL_law_1329 (by decide) (fun hc296 => ?_) (fun hc296 => ?_)
  · have hF := bq_t hc296 hF
    exact w_L_law_1414 cx hE _ _ x1 x2 hrec hkk x3 _ _ _ _ _ _ (lv_sub hl [0, 1, 2, 3] rfl) hH hF
  · have hF := bq_f hc296 hF
    refine lv_iconst (v := (0)) hx hb dL_law_1332 (by decide) ?_
    exact law_ret hx hb hr hlocks hH hE hz2 hF dL_law_1333
set_option maxHeartbeats 4000000 in
set_option maxRecDepth 100000 in
theorem w_L_law_1334 {l : Launch} {D : va_G} {cy : Nat → ClassId} {z : Nat} {p : Program} {e : Env} {s : State} {m : MethodId} {below : List Frame} {meth : Method} {c : Code} {ws0 wsf : WS} {b L : Nat} {xs : Nat → Int32} (cx : LX D cy z p s m meth c b L xs) (hE : AL ws0 wsf room_1.cells room_1.slots) (rec : Int32 → St (Int32)) (k : St (Int32)) (x1 : Nat) (x2 : Nat) (hrec : ∀ (x3 : Int32), AtL l D cy z p e s m below meth c b ws0 wsf 18 [(0, .ref b), (1, .ref x1), (2, .ref x2), (3, .int x3)] [] (rec x3)) (hkk : AtL l D cy z p e s m below meth c b ws0 wsf 1420 [] [] (k)) (x3 : Int32) : AtL l D cy z p e s m below meth c b ws0 wsf 1334 [(0, .ref b), (1, .ref x1), (2, .ref x2), (3, .int x3)] [] (j_L_law_1334 xs L rec k x1 x2 x3) := by
  intro ws H locs cells slots ls hl hH hF
  obtain ⟨hx, hb, hr, hml, hown, hk, hz, hlocks, hX, hbl, hbA, hz2, hfr, hlo⟩ := id cx
  unfold j_L_law_1334 at hF
  refine lv_aload_n hx hb dL_law_1334 rfl (lv_at hl 1 rfl) ?_
  refine lv_aload_n hx hb dL_law_1335 rfl (lv_at hl 0 rfl) ?_
  refine lv_iload_n hx hb dL_law_1336 rfl (lv_at hl 3 rfl) ?_
  refine lv_iconst (v := (1)) hx hb dL_law_1337 (by decide) ?_
  refine lv_iadd hx hb dL_law_1338 ?_
  obtain ⟨hinv298, hF⟩ := sX_t hF
  refine va_sld hx hb hX hbl hbA hH.2.1 hinv298 dL_law_1339 ?_
  refine lv_topi (fun v298 hv298 => ?_)
  have hF := rt_t hv298 hF
  refine lv_aload_n hx hb dL_law_1340 rfl (lv_at hl 0 rfl) ?_
  refine lv_iload_n hx hb dL_law_1341 rfl (lv_at hl 3 rfl) ?_
  refine lv_iconst (v := (2)) hx hb dL_law_1342 (by decide) ?_
  refine lv_iadd hx hb dL_law_1343 ?_
  obtain ⟨hinv299, hF⟩ := sX_t hF
  refine va_sld hx hb hX hbl hbA hH.2.1 hinv299 dL_law_1344 ?_
  refine lv_topi (fun v299 hv299 => ?_)
  have hF := rt_t hv299 hF
  refine m_cVL hx hb hml hown hk hH hE hz (F := fun q301 => F_X10_held q301.1 v298 v299) (C := RX10) (T := TX10) (N := 7) rfl (As := [.int v298, .int v299]) (rest := []) (fun o => t_X10_held l D cy z o v298 v299) hF wd_745 wd_746 wd_33 wd_748 wd_747 yn_X10_held ⟨Nat.le_trans (by decide) hfr, Nat.le_trans (by decide) hlo⟩ hl.1 (by first | exact Nat.le_of_ble_eq_true rfl | simp [m_cat, m_ci, m_cl, m_cf, m_cd, m_cr]) rfl dL_law_1345 (fun c300 ws H locs cells slots hH hF => ?_)
  refine lv_aload_n hx hb dL_law_1348 rfl (lv_at hl 2 rfl) ?_
  refine lv_aload_n hx hb dL_law_1349 rfl (lv_at hl 0 rfl) ?_
  refine lv_iload_n hx hb dL_law_1350 rfl (lv_at hl 3 rfl) ?_
  refine lv_iconst (v := (1)) hx hb dL_law_1351 (by decide) ?_
  refine lv_iadd hx hb dL_law_1352 ?_
  obtain ⟨hinv302, hF⟩ := sX_t hF
  refine va_sld hx hb hX hbl hbA hH.2.1 hinv302 dL_law_1353 ?_
  refine lv_topi (fun v302 hv302 => ?_)
  have hF := rt_t hv302 hF
  refine lv_aload_n hx hb dL_law_1354 rfl (lv_at hl 0 rfl) ?_
  refine lv_iload_n hx hb dL_law_1355 rfl (lv_at hl 3 rfl) ?_
  refine lv_iconst (v := (2)) hx hb dL_law_1356 (by decide) ?_
  refine lv_iadd hx hb dL_law_1357 ?_
  obtain ⟨hinv303, hF⟩ := sX_t hF
  refine va_sld hx hb hX hbl hbA hH.2.1 hinv303 dL_law_1358 ?_
  refine lv_topi (fun v303 hv303 => ?_)
  have hF := rt_t hv303 hF
  refine m_cVL hx hb hml hown hk hH hE hz (F := fun q305 => F_X11_held q305.1 v302 v303) (C := RX11) (T := TX11) (N := 22) rfl (As := [.int v302, .int v303]) (rest := [.long c300]) (fun o => t_X11_held l D cy z o v302 v303) hF wd_1067 wd_1068 wd_38 wd_1070 wd_1069 yn_X11_held ⟨Nat.le_trans (by decide) hfr, Nat.le_trans (by decide) hlo⟩ hl.1 (by first | exact Nat.le_of_ble_eq_true rfl | simp [m_cat, m_ci, m_cl, m_cf, m_cd, m_cr]) rfl dL_law_1359 (fun c304 ws H locs cells slots hH hF => ?_)
  refine W.lcmp hx hb dL_law_1362 ?_
  refine lv_if_eq (tgt := 1414) hx hb dL_law_1363 (by decide) (fun hc305 => ?_) (fun hc305 => ?_)
  · have hF := bq_t hc305 hF
    exact w_L_law_1414 cx hE _ _ x1 x2 hrec hkk x3 _ _ _ _ _ _ (lv_sub hl [0, 1, 2, 3] rfl) hH hF
  · have hF := bq_f hc305 hF
    refine lv_iconst (v := (0)) hx hb dL_law_1366 (by decide) ?_
    exact law_ret hx hb hr hlocks hH hE hz2 hF dL_law_1367
set_option maxHeartbeats 4000000 in
set_option maxRecDepth 100000 in
theorem w_L_law_1368 {l : Launch} {D : va_G} {cy : Nat → ClassId} {z : Nat} {p : Program} {e : Env} {s : State} {m : MethodId} {below : List Frame} {meth : Method} {c : Code} {ws0 wsf : WS} {b L : Nat} {xs : Nat → Int32} (cx : LX D cy z p s m meth c b L xs) (hE : AL ws0 wsf room_1.cells room_1.slots) (rec : Int32 → St (Int32)) (k : St (Int32)) (x1 : Nat) (x2 : Nat) (hrec : ∀ (x3 : Int32), AtL l D cy z p e s m below meth c b ws0 wsf 18 [(0, .ref b), (1, .ref x1), (2, .ref x2), (3, .int x3)] [] (rec x3)) (hkk : AtL l D cy z p e s m below meth c b ws0 wsf 1420 [] [] (k)) (x3 : Int32) : AtL l D cy z p e s m below meth c b ws0 wsf 1368 [(0, .ref b), (1, .ref x1), (2, .ref x2), (3, .int x3)] [] (j_L_law_1368 xs L rec k x1 x2 x3) := by
  intro ws H locs cells slots ls hl hH hF
  obtain ⟨hx, hb, hr, hml, hown, hk, hz, hlocks, hX, hbl, hbA, hz2, hfr, hlo⟩ := id cx
  unfold j_L_law_1368 at hF
  refine lv_aload_n hx hb dL_law_1368 rfl (lv_at hl 1 rfl) ?_
  refine lv_aload_n hx hb dL_law_1369 rfl (lv_at hl 0 rfl) ?_
  refine lv_iload_n hx hb dL_law_1370 rfl (lv_at hl 3 rfl) ?_
  refine lv_iconst (v := (1)) hx hb dL_law_1371 (by decide) ?_
  refine lv_iadd hx hb dL_law_1372 ?_
  obtain ⟨hinv307, hF⟩ := sX_t hF
  refine va_sld hx hb hX hbl hbA hH.2.1 hinv307 dL_law_1373 ?_
  refine lv_topi (fun v307 hv307 => ?_)
  have hF := rt_t hv307 hF
  refine m_cVI hx hb hml hown hk hH hE hz (F := fun q309 => F_X10_readings q309.1 v307) (C := RX10) (T := TX10) (N := 7) rfl (As := [.int v307]) (rest := []) (fun o => t_X10_readings l D cy z o v307) hF wd_219 wd_220 wd_33 wd_222 wd_221 yn_X10_readings ⟨Nat.le_trans (by decide) hfr, Nat.le_trans (by decide) hlo⟩ hl.1 (by first | exact Nat.le_of_ble_eq_true rfl | simp [m_cat, m_ci, m_cl, m_cf, m_cd, m_cr]) rfl dL_law_1374 (fun c308 ws H locs cells slots hH hF => ?_)
  refine lv_aload_n hx hb dL_law_1377 rfl (lv_at hl 2 rfl) ?_
  refine lv_aload_n hx hb dL_law_1378 rfl (lv_at hl 0 rfl) ?_
  refine lv_iload_n hx hb dL_law_1379 rfl (lv_at hl 3 rfl) ?_
  refine lv_iconst (v := (1)) hx hb dL_law_1380 (by decide) ?_
  refine lv_iadd hx hb dL_law_1381 ?_
  obtain ⟨hinv310, hF⟩ := sX_t hF
  refine va_sld hx hb hX hbl hbA hH.2.1 hinv310 dL_law_1382 ?_
  refine lv_topi (fun v310 hv310 => ?_)
  have hF := rt_t hv310 hF
  refine m_cVI hx hb hml hown hk hH hE hz (F := fun q312 => F_X11_readings q312.1 v310) (C := RX11) (T := TX11) (N := 22) rfl (As := [.int v310]) (rest := [.int c308]) (fun o => t_X11_readings l D cy z o v310) hF wd_1071 wd_1072 wd_38 wd_1074 wd_1073 yn_X11_readings ⟨Nat.le_trans (by decide) hfr, Nat.le_trans (by decide) hlo⟩ hl.1 (by first | exact Nat.le_of_ble_eq_true rfl | simp [m_cat, m_ci, m_cl, m_cf, m_cd, m_cr]) rfl dL_law_1383 (fun c311 ws H locs cells slots hH hF => ?_)
  refine lv_icmp_eq (tgt := 1414) hx hb dL_law_1386 (by decide) (fun hc312 => ?_) (fun hc312 => ?_)
  · have hF := bq_t hc312 hF
    exact w_L_law_1414 cx hE _ _ x1 x2 hrec hkk x3 _ _ _ _ _ _ (lv_sub hl [0, 1, 2, 3] rfl) hH hF
  · have hF := bq_f hc312 hF
    refine lv_iconst (v := (0)) hx hb dL_law_1389 (by decide) ?_
    exact law_ret hx hb hr hlocks hH hE hz2 hF dL_law_1390
set_option maxHeartbeats 4000000 in
set_option maxRecDepth 100000 in
theorem w_L_law_1391 {l : Launch} {D : va_G} {cy : Nat → ClassId} {z : Nat} {p : Program} {e : Env} {s : State} {m : MethodId} {below : List Frame} {meth : Method} {c : Code} {ws0 wsf : WS} {b L : Nat} {xs : Nat → Int32} (cx : LX D cy z p s m meth c b L xs) (hE : AL ws0 wsf room_1.cells room_1.slots) (rec : Int32 → St (Int32)) (k : St (Int32)) (x1 : Nat) (x2 : Nat) (hrec : ∀ (x3 : Int32), AtL l D cy z p e s m below meth c b ws0 wsf 18 [(0, .ref b), (1, .ref x1), (2, .ref x2), (3, .int x3)] [] (rec x3)) (hkk : AtL l D cy z p e s m below meth c b ws0 wsf 1420 [] [] (k)) (x3 : Int32) : AtL l D cy z p e s m below meth c b ws0 wsf 1391 [(0, .ref b), (1, .ref x1), (2, .ref x2), (3, .int x3)] [] (j_L_law_1391 xs L rec k x1 x2 x3) := by
  intro ws H locs cells slots ls hl hH hF
  obtain ⟨hx, hb, hr, hml, hown, hk, hz, hlocks, hX, hbl, hbA, hz2, hfr, hlo⟩ := id cx
  unfold j_L_law_1391 at hF
  refine lv_aload_n hx hb dL_law_1391 rfl (lv_at hl 1 rfl) ?_
  refine lv_aload_n hx hb dL_law_1392 rfl (lv_at hl 0 rfl) ?_
  refine lv_iload_n hx hb dL_law_1393 rfl (lv_at hl 3 rfl) ?_
  refine lv_iconst (v := (1)) hx hb dL_law_1394 (by decide) ?_
  refine lv_iadd hx hb dL_law_1395 ?_
  obtain ⟨hinv314, hF⟩ := sX_t hF
  refine va_sld hx hb hX hbl hbA hH.2.1 hinv314 dL_law_1396 ?_
  refine lv_topi (fun v314 hv314 => ?_)
  have hF := rt_t hv314 hF
  refine m_cVI hx hb hml hown hk hH hE hz (F := fun q316 => F_X10_count q316.1 v314) (C := RX10) (T := TX10) (N := 7) rfl (As := [.int v314]) (rest := []) (fun o => t_X10_count l D cy z o v314) hF wd_749 wd_750 wd_33 wd_752 wd_751 yn_X10_count ⟨Nat.le_trans (by decide) hfr, Nat.le_trans (by decide) hlo⟩ hl.1 (by first | exact Nat.le_of_ble_eq_true rfl | simp [m_cat, m_ci, m_cl, m_cf, m_cd, m_cr]) rfl dL_law_1397 (fun c315 ws H locs cells slots hH hF => ?_)
  refine lv_aload_n hx hb dL_law_1400 rfl (lv_at hl 2 rfl) ?_
  refine lv_aload_n hx hb dL_law_1401 rfl (lv_at hl 0 rfl) ?_
  refine lv_iload_n hx hb dL_law_1402 rfl (lv_at hl 3 rfl) ?_
  refine lv_iconst (v := (1)) hx hb dL_law_1403 (by decide) ?_
  refine lv_iadd hx hb dL_law_1404 ?_
  obtain ⟨hinv317, hF⟩ := sX_t hF
  refine va_sld hx hb hX hbl hbA hH.2.1 hinv317 dL_law_1405 ?_
  refine lv_topi (fun v317 hv317 => ?_)
  have hF := rt_t hv317 hF
  refine m_cVI hx hb hml hown hk hH hE hz (F := fun q319 => F_X11_count q319.1 v317) (C := RX11) (T := TX11) (N := 22) rfl (As := [.int v317]) (rest := [.int c315]) (fun o => t_X11_count l D cy z o v317) hF wd_1075 wd_1076 wd_38 wd_1078 wd_1077 yn_X11_count ⟨Nat.le_trans (by decide) hfr, Nat.le_trans (by decide) hlo⟩ hl.1 (by first | exact Nat.le_of_ble_eq_true rfl | simp [m_cat, m_ci, m_cl, m_cf, m_cd, m_cr]) rfl dL_law_1406 (fun c318 ws H locs cells slots hH hF => ?_)
  refine lv_icmp_eq (tgt := 1414) hx hb dL_law_1409 (by decide) (fun hc319 => ?_) (fun hc319 => ?_)
  · have hF := bq_t hc319 hF
    exact w_L_law_1414 cx hE _ _ x1 x2 hrec hkk x3 _ _ _ _ _ _ (lv_sub hl [0, 1, 2, 3] rfl) hH hF
  · have hF := bq_f hc319 hF
    refine lv_iconst (v := (0)) hx hb dL_law_1412 (by decide) ?_
    exact law_ret hx hb hr hlocks hH hE hz2 hF dL_law_1413
set_option maxHeartbeats 4000000 in
set_option maxRecDepth 100000 in
theorem wb_L_law_18 {l : Launch} {D : va_G} {cy : Nat → ClassId} {z : Nat} {p : Program} {e : Env} {s : State} {m : MethodId} {below : List Frame} {meth : Method} {c : Code} {ws0 wsf : WS} {b L : Nat} {xs : Nat → Int32} (cx : LX D cy z p s m meth c b L xs) (hE : AL ws0 wsf room_1.cells room_1.slots) (x1 : Nat) (x2 : Nat) (rec : Int32 → St (Int32)) (k : St (Int32)) (hrec : ∀ (x3 : Int32), AtL l D cy z p e s m below meth c b ws0 wsf 18 [(0, .ref b), (1, .ref x1), (2, .ref x2), (3, .int x3)] [] (rec x3)) (hkk : AtL l D cy z p e s m below meth c b ws0 wsf 1420 [] [] (k)) (x3 : Int32) : AtL l D cy z p e s m below meth c b ws0 wsf 18 [(0, .ref b), (1, .ref x1), (2, .ref x2), (3, .int x3)] [] (b_L_law_18 xs L x1 x2 rec k x3) := by
  intro ws H locs cells slots ls hl hH hF
  obtain ⟨hx, hb, hr, hml, hown, hk, hz, hlocks, hX, hbl, hbA, hz2, hfr, hlo⟩ := id cx
  unfold b_L_law_18 at hF
  refine lv_iload_n hx hb dL_law_18 rfl (lv_at hl 3 rfl) ?_
  refine lv_aload_n hx hb dL_law_19 rfl (lv_at hl 0 rfl) ?_
  refine va_slen hx hb hX hbl hbA hH.2.1 dL_law_20 ?_
  refine lv_iconst (v := (5)) hx hb dL_law_21 (by decide) ?_
  refine lv_isub hx hb dL_law_22 ?_
  refine lv_icmp_gt (tgt := 1420) hx hb dL_law_23 (by decide) (fun hc5 => ?_) (fun hc5 => ?_)
  · have hF := bq_t hc5 hF
    exact hkk _ _ _ _ _ _ (lv_sub hl [] rfl) hH hF
  · have hF := bq_f hc5 hF
    refine lv_aload_n hx hb dL_law_26 rfl (lv_at hl 0 rfl) ?_
    refine lv_iload_n hx hb dL_law_27 rfl (lv_at hl 3 rfl) ?_
    obtain ⟨hinv7, hF⟩ := sX_t hF
    refine va_sld hx hb hX hbl hbA hH.2.1 hinv7 dL_law_28 ?_
    refine lv_topi (fun v7 hv7 => ?_)
    have hF := rt_t hv7 hF
    refine lv_bipush (v := (63)) hx hb dL_law_29 (by decide) ?_
    refine lv_iand hx hb dL_law_31 ?_
    refine lv_topi (fun w8 hw8 => ?_)
    have hF := rt_t hw8 hF
    by_cases hkw8_0 : w8 = (0)
    · have hF := bq_t hkw8_0 hF
      refine lv_tableIn (off := 152) (tgt := 184) hx hb dL_law_32 (by rw [hkw8_0]; decide) (by rw [hkw8_0]; decide) (by rw [hkw8_0]; decide) (by decide) ?_
      exact w_L_law_184 cx hE _ _ x1 x2 hrec hkk x3 _ _ _ _ _ _ (lv_sub hl [0, 1, 2, 3] rfl) hH hF
    · have hF := bq_f hkw8_0 hF
      by_cases hkw8_1 : w8 = (1)
      · have hF := bq_t hkw8_1 hF
        refine lv_tableIn (off := 205) (tgt := 237) hx hb dL_law_32 (by rw [hkw8_1]; decide) (by rw [hkw8_1]; decide) (by rw [hkw8_1]; decide) (by decide) ?_
        exact w_L_law_237 cx hE _ _ x1 x2 hrec hkk x3 _ _ _ _ _ _ (lv_sub hl [0, 1, 2, 3] rfl) hH hF
      · have hF := bq_f hkw8_1 hF
        by_cases hkw8_2 : w8 = (2)
        · have hF := bq_t hkw8_2 hF
          refine lv_tableIn (off := 238) (tgt := 270) hx hb dL_law_32 (by rw [hkw8_2]; decide) (by rw [hkw8_2]; decide) (by rw [hkw8_2]; decide) (by decide) ?_
          exact w_L_law_270 cx hE _ _ x1 x2 hrec hkk x3 _ _ _ _ _ _ (lv_sub hl [0, 1, 2, 3] rfl) hH hF
        · have hF := bq_f hkw8_2 hF
          by_cases hkw8_3 : w8 = (3)
          · have hF := bq_t hkw8_3 hF
            refine lv_tableIn (off := 261) (tgt := 293) hx hb dL_law_32 (by rw [hkw8_3]; decide) (by rw [hkw8_3]; decide) (by rw [hkw8_3]; decide) (by decide) ?_
            exact w_L_law_293 cx hE _ _ x1 x2 hrec hkk x3 _ _ _ _ _ _ (lv_sub hl [0, 1, 2, 3] rfl) hH hF
          · have hF := bq_f hkw8_3 hF
            by_cases hkw8_4 : w8 = (4)
            · have hF := bq_t hkw8_4 hF
              refine lv_tableIn (off := 294) (tgt := 326) hx hb dL_law_32 (by rw [hkw8_4]; decide) (by rw [hkw8_4]; decide) (by rw [hkw8_4]; decide) (by decide) ?_
              exact w_L_law_326 cx hE _ _ x1 x2 hrec hkk x3 _ _ _ _ _ _ (lv_sub hl [0, 1, 2, 3] rfl) hH hF
            · have hF := bq_f hkw8_4 hF
              by_cases hkw8_5 : w8 = (5)
              · have hF := bq_t hkw8_5 hF
                refine lv_tableIn (off := 307) (tgt := 339) hx hb dL_law_32 (by rw [hkw8_5]; decide) (by rw [hkw8_5]; decide) (by rw [hkw8_5]; decide) (by decide) ?_
                exact w_L_law_339 cx hE _ _ x1 x2 hrec hkk x3 _ _ _ _ _ _ (lv_sub hl [0, 1, 2, 3] rfl) hH hF
              · have hF := bq_f hkw8_5 hF
                by_cases hkw8_6 : w8 = (6)
                · have hF := bq_t hkw8_6 hF
                  refine lv_tableIn (off := 320) (tgt := 352) hx hb dL_law_32 (by rw [hkw8_6]; decide) (by rw [hkw8_6]; decide) (by rw [hkw8_6]; decide) (by decide) ?_
                  exact w_L_law_352 cx hE _ _ x1 x2 hrec hkk x3 _ _ _ _ _ _ (lv_sub hl [0, 1, 2, 3] rfl) hH hF
                · have hF := bq_f hkw8_6 hF
                  by_cases hkw8_7 : w8 = (7)
                  · have hF := bq_t hkw8_7 hF
                    refine lv_tableIn (off := 343) (tgt := 375) hx hb dL_law_32 (by rw [hkw8_7]; decide) (by rw [hkw8_7]; decide) (by rw [hkw8_7]; decide) (by decide) ?_
                    exact w_L_law_375 cx hE _ _ x1 x2 hrec hkk x3 _ _ _ _ _ _ (lv_sub hl [0, 1, 2, 3] rfl) hH hF
                  · have hF := bq_f hkw8_7 hF
                    by_cases hkw8_8 : w8 = (8)
                    · have hF := bq_t hkw8_8 hF
                      refine lv_tableIn (off := 386) (tgt := 418) hx hb dL_law_32 (by rw [hkw8_8]; decide) (by rw [hkw8_8]; decide) (by rw [hkw8_8]; decide) (by decide) ?_
                      exact w_L_law_418 cx hE _ _ x1 x2 hrec hkk x3 _ _ _ _ _ _ (lv_sub hl [0, 1, 2, 3] rfl) hH hF
                    · have hF := bq_f hkw8_8 hF
                      by_cases hkw8_9 : w8 = (9)
                      · have hF := bq_t hkw8_9 hF
                        refine lv_tableIn (off := 439) (tgt := 471) hx hb dL_law_32 (by rw [hkw8_9]; decide) (by rw [hkw8_9]; decide) (by rw [hkw8_9]; decide) (by decide) ?_
                        exact w_L_law_471 cx hE _ _ x1 x2 hrec hkk x3 _ _ _ _ _ _ (lv_sub hl [0, 1, 2, 3] rfl) hH hF
                      · have hF := bq_f hkw8_9 hF
                        by_cases hkw8_10 : w8 = (10)
                        · have hF := bq_t hkw8_10 hF
                          refine lv_tableIn (off := 472) (tgt := 504) hx hb dL_law_32 (by rw [hkw8_10]; decide) (by rw [hkw8_10]; decide) (by rw [hkw8_10]; decide) (by decide) ?_
                          exact w_L_law_504 cx hE _ _ x1 x2 hrec hkk x3 _ _ _ _ _ _ (lv_sub hl [0, 1, 2, 3] rfl) hH hF
                        · have hF := bq_f hkw8_10 hF
                          by_cases hkw8_11 : w8 = (11)
                          · have hF := bq_t hkw8_11 hF
                            refine lv_tableIn (off := 525) (tgt := 557) hx hb dL_law_32 (by rw [hkw8_11]; decide) (by rw [hkw8_11]; decide) (by rw [hkw8_11]; decide) (by decide) ?_
                            exact w_L_law_557 cx hE _ _ x1 x2 hrec hkk x3 _ _ _ _ _ _ (lv_sub hl [0, 1, 2, 3] rfl) hH hF
                          · have hF := bq_f hkw8_11 hF
                            by_cases hkw8_12 : w8 = (12)
                            · have hF := bq_t hkw8_12 hF
                              refine lv_tableIn (off := 548) (tgt := 580) hx hb dL_law_32 (by rw [hkw8_12]; decide) (by rw [hkw8_12]; decide) (by rw [hkw8_12]; decide) (by decide) ?_
                              exact w_L_law_580 cx hE _ _ x1 x2 hrec hkk x3 _ _ _ _ _ _ (lv_sub hl [0, 1, 2, 3] rfl) hH hF
                            · have hF := bq_f hkw8_12 hF
                              by_cases hkw8_13 : w8 = (13)
                              · have hF := bq_t hkw8_13 hF
                                refine lv_tableIn (off := 581) (tgt := 613) hx hb dL_law_32 (by rw [hkw8_13]; decide) (by rw [hkw8_13]; decide) (by rw [hkw8_13]; decide) (by decide) ?_
                                exact w_L_law_613 cx hE _ _ x1 x2 hrec hkk x3 _ _ _ _ _ _ (lv_sub hl [0, 1, 2, 3] rfl) hH hF
                              · have hF := bq_f hkw8_13 hF
                                by_cases hkw8_14 : w8 = (14)
                                · have hF := bq_t hkw8_14 hF
                                  refine lv_tableIn (off := 614) (tgt := 646) hx hb dL_law_32 (by rw [hkw8_14]; decide) (by rw [hkw8_14]; decide) (by rw [hkw8_14]; decide) (by decide) ?_
                                  exact w_L_law_646 cx hE _ _ x1 x2 hrec hkk x3 _ _ _ _ _ _ (lv_sub hl [0, 1, 2, 3] rfl) hH hF
                                · have hF := bq_f hkw8_14 hF
                                  by_cases hkw8_15 : w8 = (15)
                                  · have hF := bq_t hkw8_15 hF
                                    refine lv_tableIn (off := 647) (tgt := 679) hx hb dL_law_32 (by rw [hkw8_15]; decide) (by rw [hkw8_15]; decide) (by rw [hkw8_15]; decide) (by decide) ?_
                                    exact w_L_law_679 cx hE _ _ x1 x2 hrec hkk x3 _ _ _ _ _ _ (lv_sub hl [0, 1, 2, 3] rfl) hH hF
                                  · have hF := bq_f hkw8_15 hF
                                    by_cases hkw8_16 : w8 = (16)
                                    · have hF := bq_t hkw8_16 hF
                                      refine lv_tableIn (off := 680) (tgt := 712) hx hb dL_law_32 (by rw [hkw8_16]; decide) (by rw [hkw8_16]; decide) (by rw [hkw8_16]; decide) (by decide) ?_
                                      exact w_L_law_712 cx hE _ _ x1 x2 hrec hkk x3 _ _ _ _ _ _ (lv_sub hl [0, 1, 2, 3] rfl) hH hF
                                    · have hF := bq_f hkw8_16 hF
                                      by_cases hkw8_17 : w8 = (17)
                                      · have hF := bq_t hkw8_17 hF
                                        refine lv_tableIn (off := 723) (tgt := 755) hx hb dL_law_32 (by rw [hkw8_17]; decide) (by rw [hkw8_17]; decide) (by rw [hkw8_17]; decide) (by decide) ?_
                                        exact w_L_law_755 cx hE _ _ x1 x2 hrec hkk x3 _ _ _ _ _ _ (lv_sub hl [0, 1, 2, 3] rfl) hH hF
                                      · have hF := bq_f hkw8_17 hF
                                        by_cases hkw8_18 : w8 = (18)
                                        · have hF := bq_t hkw8_18 hF
                                          refine lv_tableIn (off := 756) (tgt := 788) hx hb dL_law_32 (by rw [hkw8_18]; decide) (by rw [hkw8_18]; decide) (by rw [hkw8_18]; decide) (by decide) ?_
                                          exact w_L_law_788 cx hE _ _ x1 x2 hrec hkk x3 _ _ _ _ _ _ (lv_sub hl [0, 1, 2, 3] rfl) hH hF
                                        · have hF := bq_f hkw8_18 hF
                                          by_cases hkw8_19 : w8 = (19)
                                          · have hF := bq_t hkw8_19 hF
                                            refine lv_tableIn (off := 790) (tgt := 822) hx hb dL_law_32 (by rw [hkw8_19]; decide) (by rw [hkw8_19]; decide) (by rw [hkw8_19]; decide) (by decide) ?_
                                            exact w_L_law_822 cx hE _ _ x1 x2 hrec hkk x3 _ _ _ _ _ _ (lv_sub hl [0, 1, 2, 3] rfl) hH hF
                                          · have hF := bq_f hkw8_19 hF
                                            by_cases hkw8_20 : w8 = (20)
                                            · have hF := bq_t hkw8_20 hF
                                              refine lv_tableIn (off := 823) (tgt := 855) hx hb dL_law_32 (by rw [hkw8_20]; decide) (by rw [hkw8_20]; decide) (by rw [hkw8_20]; decide) (by decide) ?_
                                              exact w_L_law_855 cx hE _ _ x1 x2 hrec hkk x3 _ _ _ _ _ _ (lv_sub hl [0, 1, 2, 3] rfl) hH hF
                                            · have hF := bq_f hkw8_20 hF
                                              by_cases hkw8_21 : w8 = (21)
                                              · have hF := bq_t hkw8_21 hF
                                                refine lv_tableIn (off := 876) (tgt := 908) hx hb dL_law_32 (by rw [hkw8_21]; decide) (by rw [hkw8_21]; decide) (by rw [hkw8_21]; decide) (by decide) ?_
                                                exact w_L_law_908 cx hE _ _ x1 x2 hrec hkk x3 _ _ _ _ _ _ (lv_sub hl [0, 1, 2, 3] rfl) hH hF
                                              · have hF := bq_f hkw8_21 hF
                                                by_cases hkw8_22 : w8 = (22)
                                                · have hF := bq_t hkw8_22 hF
                                                  refine lv_tableIn (off := 909) (tgt := 941) hx hb dL_law_32 (by rw [hkw8_22]; decide) (by rw [hkw8_22]; decide) (by rw [hkw8_22]; decide) (by decide) ?_
                                                  exact w_L_law_941 cx hE _ _ x1 x2 hrec hkk x3 _ _ _ _ _ _ (lv_sub hl [0, 1, 2, 3] rfl) hH hF
                                                · have hF := bq_f hkw8_22 hF
                                                  by_cases hkw8_23 : w8 = (23)
                                                  · have hF := bq_t hkw8_23 hF
                                                    refine lv_tableIn (off := 932) (tgt := 964) hx hb dL_law_32 (by rw [hkw8_23]; decide) (by rw [hkw8_23]; decide) (by rw [hkw8_23]; decide) (by decide) ?_
                                                    exact w_L_law_964 cx hE _ _ x1 x2 hrec hkk x3 _ _ _ _ _ _ (lv_sub hl [0, 1, 2, 3] rfl) hH hF
                                                  · have hF := bq_f hkw8_23 hF
                                                    by_cases hkw8_24 : w8 = (24)
                                                    · have hF := bq_t hkw8_24 hF
                                                      refine lv_tableIn (off := 975) (tgt := 1007) hx hb dL_law_32 (by rw [hkw8_24]; decide) (by rw [hkw8_24]; decide) (by rw [hkw8_24]; decide) (by decide) ?_
                                                      exact w_L_law_1007 cx hE _ _ x1 x2 hrec hkk x3 _ _ _ _ _ _ (lv_sub hl [0, 1, 2, 3] rfl) hH hF
                                                    · have hF := bq_f hkw8_24 hF
                                                      by_cases hkw8_25 : w8 = (25)
                                                      · have hF := bq_t hkw8_25 hF
                                                        refine lv_tableIn (off := 1036) (tgt := 1068) hx hb dL_law_32 (by rw [hkw8_25]; decide) (by rw [hkw8_25]; decide) (by rw [hkw8_25]; decide) (by decide) ?_
                                                        exact w_L_law_1068 cx hE _ _ x1 x2 hrec hkk x3 _ _ _ _ _ _ (lv_sub hl [0, 1, 2, 3] rfl) hH hF
                                                      · have hF := bq_f hkw8_25 hF
                                                        by_cases hkw8_26 : w8 = (26)
                                                        · have hF := bq_t hkw8_26 hF
                                                          refine lv_tableIn (off := 1097) (tgt := 1129) hx hb dL_law_32 (by rw [hkw8_26]; decide) (by rw [hkw8_26]; decide) (by rw [hkw8_26]; decide) (by decide) ?_
                                                          exact w_L_law_1129 cx hE _ _ x1 x2 hrec hkk x3 _ _ _ _ _ _ (lv_sub hl [0, 1, 2, 3] rfl) hH hF
                                                        · have hF := bq_f hkw8_26 hF
                                                          by_cases hkw8_27 : w8 = (27)
                                                          · have hF := bq_t hkw8_27 hF
                                                            refine lv_tableIn (off := 1148) (tgt := 1180) hx hb dL_law_32 (by rw [hkw8_27]; decide) (by rw [hkw8_27]; decide) (by rw [hkw8_27]; decide) (by decide) ?_
                                                            exact w_L_law_1180 cx hE _ _ x1 x2 hrec hkk x3 _ _ _ _ _ _ (lv_sub hl [0, 1, 2, 3] rfl) hH hF
                                                          · have hF := bq_f hkw8_27 hF
                                                            by_cases hkw8_28 : w8 = (28)
                                                            · have hF := bq_t hkw8_28 hF
                                                              refine lv_tableIn (off := 1171) (tgt := 1203) hx hb dL_law_32 (by rw [hkw8_28]; decide) (by rw [hkw8_28]; decide) (by rw [hkw8_28]; decide) (by decide) ?_
                                                              exact w_L_law_1203 cx hE _ _ x1 x2 hrec hkk x3 _ _ _ _ _ _ (lv_sub hl [0, 1, 2, 3] rfl) hH hF
                                                            · have hF := bq_f hkw8_28 hF
                                                              by_cases hkw8_29 : w8 = (29)
                                                              · have hF := bq_t hkw8_29 hF
                                                                refine lv_tableIn (off := 1205) (tgt := 1237) hx hb dL_law_32 (by rw [hkw8_29]; decide) (by rw [hkw8_29]; decide) (by rw [hkw8_29]; decide) (by decide) ?_
                                                                exact w_L_law_1237 cx hE _ _ x1 x2 hrec hkk x3 _ _ _ _ _ _ (lv_sub hl [0, 1, 2, 3] rfl) hH hF
                                                              · have hF := bq_f hkw8_29 hF
                                                                by_cases hkw8_30 : w8 = (30)
                                                                · have hF := bq_t hkw8_30 hF
                                                                  refine lv_tableIn (off := 1228) (tgt := 1260) hx hb dL_law_32 (by rw [hkw8_30]; decide) (by rw [hkw8_30]; decide) (by rw [hkw8_30]; decide) (by decide) ?_
                                                                  exact w_L_law_1260 cx hE _ _ x1 x2 hrec hkk x3 _ _ _ _ _ _ (lv_sub hl [0, 1, 2, 3] rfl) hH hF
                                                                · have hF := bq_f hkw8_30 hF
                                                                  by_cases hkw8_31 : w8 = (31)
                                                                  · have hF := bq_t hkw8_31 hF
                                                                    refine lv_tableIn (off := 1302) (tgt := 1334) hx hb dL_law_32 (by rw [hkw8_31]; decide) (by rw [hkw8_31]; decide) (by rw [hkw8_31]; decide) (by decide) ?_
                                                                    exact w_L_law_1334 cx hE _ _ x1 x2 hrec hkk x3 _ _ _ _ _ _ (lv_sub hl [0, 1, 2, 3] rfl) hH hF
                                                                  · have hF := bq_f hkw8_31 hF
                                                                    by_cases hkw8_32 : w8 = (32)
                                                                    · have hF := bq_t hkw8_32 hF
                                                                      refine lv_tableIn (off := 1336) (tgt := 1368) hx hb dL_law_32 (by rw [hkw8_32]; decide) (by rw [hkw8_32]; decide) (by rw [hkw8_32]; decide) (by decide) ?_
                                                                      exact w_L_law_1368 cx hE _ _ x1 x2 hrec hkk x3 _ _ _ _ _ _ (lv_sub hl [0, 1, 2, 3] rfl) hH hF
                                                                    · have hF := bq_f hkw8_32 hF
                                                                      by_cases hkw8_33 : w8 = (33)
                                                                      · have hF := bq_t hkw8_33 hF
                                                                        refine lv_tableIn (off := 1359) (tgt := 1391) hx hb dL_law_32 (by rw [hkw8_33]; decide) (by rw [hkw8_33]; decide) (by rw [hkw8_33]; decide) (by decide) ?_
                                                                        exact w_L_law_1391 cx hE _ _ x1 x2 hrec hkk x3 _ _ _ _ _ _ (lv_sub hl [0, 1, 2, 3] rfl) hH hF
                                                                      · have hF := bq_f hkw8_33 hF
                                                                        refine lv_tableOut (tgt := 1414) hx hb dL_law_32 (by have g0 := lv_neT hkw8_0 (a := 0) (by decide); have g1 := lv_neT hkw8_1 (a := 1) (by decide); have g2 := lv_neT hkw8_2 (a := 2) (by decide); have g3 := lv_neT hkw8_3 (a := 3) (by decide); have g4 := lv_neT hkw8_4 (a := 4) (by decide); have g5 := lv_neT hkw8_5 (a := 5) (by decide); have g6 := lv_neT hkw8_6 (a := 6) (by decide); have g7 := lv_neT hkw8_7 (a := 7) (by decide); have g8 := lv_neT hkw8_8 (a := 8) (by decide); have g9 := lv_neT hkw8_9 (a := 9) (by decide); have g10 := lv_neT hkw8_10 (a := 10) (by decide); have g11 := lv_neT hkw8_11 (a := 11) (by decide); have g12 := lv_neT hkw8_12 (a := 12) (by decide); have g13 := lv_neT hkw8_13 (a := 13) (by decide); have g14 := lv_neT hkw8_14 (a := 14) (by decide); have g15 := lv_neT hkw8_15 (a := 15) (by decide); have g16 := lv_neT hkw8_16 (a := 16) (by decide); have g17 := lv_neT hkw8_17 (a := 17) (by decide); have g18 := lv_neT hkw8_18 (a := 18) (by decide); have g19 := lv_neT hkw8_19 (a := 19) (by decide); have g20 := lv_neT hkw8_20 (a := 20) (by decide); have g21 := lv_neT hkw8_21 (a := 21) (by decide); have g22 := lv_neT hkw8_22 (a := 22) (by decide); have g23 := lv_neT hkw8_23 (a := 23) (by decide); have g24 := lv_neT hkw8_24 (a := 24) (by decide); have g25 := lv_neT hkw8_25 (a := 25) (by decide); have g26 := lv_neT hkw8_26 (a := 26) (by decide); have g27 := lv_neT hkw8_27 (a := 27) (by decide); have g28 := lv_neT hkw8_28 (a := 28) (by decide); have g29 := lv_neT hkw8_29 (a := 29) (by decide); have g30 := lv_neT hkw8_30 (a := 30) (by decide); have g31 := lv_neT hkw8_31 (a := 31) (by decide); have g32 := lv_neT hkw8_32 (a := 32) (by decide); have g33 := lv_neT hkw8_33 (a := 33) (by decide); omega) (by decide) ?_
                                                                        exact w_L_law_1414 cx hE _ _ x1 x2 hrec hkk x3 _ _ _ _ _ _ (lv_sub hl [0, 1, 2, 3] rfl) hH hF
theorem w_L_law_18 {l : Launch} {D : va_G} {cy : Nat → ClassId} {z : Nat} {p : Program} {e : Env} {s : State} {m : MethodId} {below : List Frame} {meth : Method} {c : Code} {ws0 wsf : WS} {b L : Nat} {xs : Nat → Int32} (cx : LX D cy z p s m meth c b L xs) (hE : AL ws0 wsf room_1.cells room_1.slots) (x1 : Nat) (x2 : Nat) (k : St (Int32)) (hkk : AtL l D cy z p e s m below meth c b ws0 wsf 1420 [] [] (k)) : ∀ (n : Nat) (x3 : Int32), AtL l D cy z p e s m below meth c b ws0 wsf 18 [(0, .ref b), (1, .ref x1), (2, .ref x2), (3, .int x3)] [] (l_L_law_18 xs L x1 x2 k n x3) := by
  intro n
  induction n with
  | zero =>
    intro x3 ws H locs cells slots ls hl hH hF
    exact fl_t hF
  | succ n ih =>
    intro x3
    exact wb_L_law_18 cx hE x1 x2 (l_L_law_18 xs L x1 x2 k n) k ih hkk x3
set_option maxHeartbeats 4000000 in
set_option maxRecDepth 100000 in
theorem t_L_law {l : Launch} {D : va_G} {cy : Nat → ClassId} {z : Nat} {p : Program} {e : Env} {s : State} {m : MethodId} {below : List Frame} {meth : Method} {c : Code} {ws0 wsf : WS} {b L : Nat} {xs : Nat → Int32} (cx : LX D cy z p s m meth c b L xs) (hE : AL ws0 wsf room_1.cells room_1.slots) : AtL l D cy z p e s m below meth c b ws0 wsf 0 [(0, .ref b)] [] (F_L_law xs L) := by
  intro ws H locs cells slots ls hl hH hF
  obtain ⟨hx, hb, hr, hml, hown, hk, hz, hlocks, hX, hbl, hbA, hz2, hfr, hlo⟩ := id cx
  unfold F_L_law at hF
  refine m_new hx hb hown hk hH hE hz hF rfl nf_RX10 wd_46 wd_47 wd_33 dL_law_0 (fun a1 ws H hH hF => ?_)
  refine lv_dup hx hb dL_law_3 rfl ?_
  refine m_cI hx hb hml hown hk hH hE hz (b := a1) (As := []) (rest := [.ref a1]) (t_X10_init l D cy z a1) hF wd_48 wd_49 wd_33 wd_50 yn_X10_init rfl ⟨Nat.le_trans (by decide) hfr, Nat.le_trans (by decide) hlo⟩ hl.1 (by first | exact Nat.le_of_ble_eq_true rfl | simp [m_cat, m_ci, m_cl, m_cf, m_cd, m_cr]) rfl dL_law_4 (fun c2 ws H locs cells slots hH hF => ?_)
  refine lv_astore_n (lv' := [(1, .ref a1), (0, .ref b)]) hx hb dL_law_7 rfl hl (by decide) (by first | rfl | simp [m_cat, m_ci, m_cl, m_cf, m_cd, m_cr]) (fun ls hl => ?_)
  refine m_new hx hb hown hk hH hE hz hF rfl nf_RX11 wd_765 wd_766 wd_38 dL_law_8 (fun a3 ws H hH hF => ?_)
  refine lv_dup hx hb dL_law_11 rfl ?_
  refine m_cI hx hb hml hown hk hH hE hz (b := a3) (As := []) (rest := [.ref a3]) (t_X11_init l D cy z a3) hF wd_767 wd_768 wd_38 wd_769 yn_X11_init rfl ⟨Nat.le_trans (by decide) hfr, Nat.le_trans (by decide) hlo⟩ hl.1 (by first | exact Nat.le_of_ble_eq_true rfl | simp [m_cat, m_ci, m_cl, m_cf, m_cd, m_cr]) rfl dL_law_12 (fun c4 ws H locs cells slots hH hF => ?_)
  refine lv_astore_n (lv' := [(2, .ref a3), (1, .ref a1), (0, .ref b)]) hx hb dL_law_15 rfl hl (by decide) (by first | rfl | simp [m_cat, m_ci, m_cl, m_cf, m_cd, m_cr]) (fun ls hl => ?_)
  refine lv_iconst (v := (0)) hx hb dL_law_16 (by decide) ?_
  refine lv_istore_n (lv' := [(3, .int (0 : Int32)), (2, .ref a3), (1, .ref a1), (0, .ref b)]) hx hb dL_law_17 rfl hl (by decide) (by first | rfl | simp [m_cat, m_ci, m_cl, m_cf, m_cd, m_cr]) (fun ls hl => ?_)
  refine w_L_law_18 cx hE a1 a3 _ (fun ws H locs cells slots ls hl hH hF => ?_) _ _ _ _ _ _ _ _ (lv_sub hl [3, 2, 1, 0] rfl) hH hF
  refine lv_iconst (v := (1)) hx hb dL_law_1420 (by decide) ?_
  exact law_ret hx hb hr hlocks hH hE hz2 hF dL_law_1421
