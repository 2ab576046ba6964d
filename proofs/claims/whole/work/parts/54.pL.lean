/-! the law's own program -/
section GP
variable {l : Launch} {Θ : mW} {d N : Nat}
noncomputable def B_W_law_28 (Θ : mW) (N : Nat) (K2817 : mH → Option (Int32 × mH)) (f1_ : Nat) (f2_ : Nat) (f3_ : Nat) (f4_ : Nat) (rc : mH → Int32 → Option (Int32 × mH)) (h : mH) (v5_ : Int32) : Option (Int32 × mH) :=
  (bo (oXl Θ) (fun v13 => (if (v13 - (J 4)) < v5_ then (K2817 h) else (bo (oX Θ v5_) (fun v14 => (jn (fun (h16 : mH) => (rc h16 (v5_ + (J 4)))) (fun j15 => (if ((v14 &&& (J 63))).toInt < 0 ∨ 54 < ((v14 &&& (J 63))).toInt then (j15 h) else if (v14 &&& (J 63)) = J 0 then (bo (oX Θ (v5_ + (J 1))) (fun v17 => (bo (oX Θ (v5_ + (J 2))) (fun v18 => (bo (oX Θ (v5_ + (J 3))) (fun v19 => (bc (P_W_addShip Θ N h f1_ v17 v18 v19 f3_) (fun v21 h20 => (bo (oX Θ (v5_ + (J 1))) (fun v22 => (bo (oX Θ (v5_ + (J 2))) (fun v23 => (bo (oX Θ (v5_ + (J 3))) (fun v24 => (gO Θ h20 9 f2_ (bc (P_R_addShip Θ N h20 f2_ v22 v23 v24) (fun v26 h25 => (gO Θ h25 9 f2_ (bc (P_R_thrown Θ N h25 f2_) (fun v28 h27 => (if v28 = v21 then (jn (fun (h30 : mH) => (j15 h30)) (fun j29 => (if v21 = 0 then (bo (aRL Θ h27 f3_ (J 0)) (fun v31 => (if (lg_cmp v31 ((v26).toInt64)) = 0 then (j29 h27) else (some ((J 0), h27))))) else (j29 h27)))) else (some ((J 0), h27))))))))))))))))))))))) else if (v14 &&& (J 63)) = J 1 then (bo (oX Θ (v5_ + (J 1))) (fun v32 => (bc (P_W_removeShip Θ N h f1_ v32 f3_) (fun v34 h33 => (bo (oX Θ (v5_ + (J 1))) (fun v35 => (gO Θ h33 9 f2_ (bc (P_R_removeShip Θ N h33 f2_ v35) (fun v37 h36 => (gO Θ h36 9 f2_ (bc (P_R_thrown Θ N h36 f2_) (fun v39 h38 => (if v39 = v34 then (jn (fun (h41 : mH) => (j15 h41)) (fun j40 => (if v34 = 0 then (bo (aRL Θ h38 f3_ (J 0)) (fun v42 => (if (lg_cmp v42 ((v37).toInt64)) = 0 then (j40 h38) else (some ((J 0), h38))))) else (j40 h38)))) else (some ((J 0), h38))))))))))))))) else if (v14 &&& (J 63)) = J 2 then (bo (oX Θ (v5_ + (J 1))) (fun v43 => (bo (oX Θ (v5_ + (J 2))) (fun v44 => (bc (P_W_enter Θ N h f1_ v43 v44 f3_) (fun v46 h45 => (bo (oX Θ (v5_ + (J 1))) (fun v47 => (bo (oX Θ (v5_ + (J 2))) (fun v48 => (gO Θ h45 9 f2_ (bc (P_R_enter Θ N h45 f2_ v47 v48) (fun v50 h49 => (gO Θ h49 9 f2_ (bc (P_R_thrown Θ N h49 f2_) (fun v52 h51 => (if v52 = v46 then (jn (fun (h54 : mH) => (j15 h54)) (fun j53 => (if v46 = 0 then (bo (aRL Θ h51 f3_ (J 0)) (fun v55 => (if (lg_cmp v55 ((v50).toInt64)) = 0 then (j53 h51) else (some ((J 0), h51))))) else (j53 h51)))) else (some ((J 0), h51))))))))))))))))))) else if (v14 &&& (J 63)) = J 3 then (bo (oX Θ (v5_ + (J 1))) (fun v56 => (bc (P_W_leave Θ N h f1_ v56 f3_) (fun v58 h57 => (bo (oX Θ (v5_ + (J 1))) (fun v59 => (gO Θ h57 9 f2_ (bc (P_R_leave Θ N h57 f2_ v59) (fun v61 h60 => (gO Θ h60 9 f2_ (bc (P_R_thrown Θ N h60 f2_) (fun v63 h62 => (if v63 = v58 then (jn (fun (h65 : mH) => (j15 h65)) (fun j64 => (if v58 = 0 then (bo (aRL Θ h62 f3_ (J 0)) (fun v66 => (if (lg_cmp v66 ((v61).toInt64)) = 0 then (j64 h62) else (some ((J 0), h62))))) else (j64 h62)))) else (some ((J 0), h62))))))))))))))) else if (v14 &&& (J 63)) = J 4 then (bo (oX Θ (v5_ + (J 1))) (fun v67 => (bo (oX Θ (v5_ + (J 2))) (fun v68 => (jn (fun (h70 : mH) (s71 : Int32) => (bc (P_W_setCleaning Θ N h70 f1_ v67 s71 f3_) (fun v73 h72 => (bo (oX Θ (v5_ + (J 1))) (fun v74 => (bo (oX Θ (v5_ + (J 2))) (fun v75 => (jn (fun (h77 : mH) (s78 : Int32) => (gO Θ h77 9 f2_ (bc (P_R_setCleaning Θ N h77 f2_ v74 s78) (fun v80 h79 => (gO Θ h79 9 f2_ (bc (P_R_thrown Θ N h79 f2_) (fun v82 h81 => (if v82 = v73 then (jn (fun (h84 : mH) => (j15 h84)) (fun j83 => (if v73 = 0 then (bo (aRL Θ h81 f3_ (J 0)) (fun v85 => (jn (fun (h87 : mH) (s88 : Int64) => (if (lg_cmp v85 s88) = 0 then (j83 h87) else (some ((J 0), h87)))) (fun j86 => (if v80 = 0 then (j86 h81 (0 : Int64)) else (j86 h81 (1 : Int64))))))) else (j83 h81)))) else (some ((J 0), h81)))))))))) (fun j76 => (if v75 = 0 then (j76 h72 (J 0)) else (j76 h72 (J 1)))))))))))) (fun j69 => (if v68 = 0 then (j69 h (J 0)) else (j69 h (J 1))))))))) else if (v14 &&& (J 63)) = J 5 then (gO Θ h 0 f1_ (bc (P_F_shipCount Θ N h f1_) (fun v90 h89 => (gO Θ h89 9 f2_ (bc (P_R_shipCount Θ N h89 f2_) (fun v92 h91 => (if v90 = v92 then (j15 h91) else (some ((J 0), h91))))))))) else if (v14 &&& (J 63)) = J 6 then (bo (oX Θ (v5_ + (J 1))) (fun v93 => (bc (P_W_shipAt Θ N h f1_ v93 f3_) (fun v95 h94 => (bo (oX Θ (v5_ + (J 1))) (fun v96 => (gO Θ h94 9 f2_ (bc (P_R_shipAt Θ N h94 f2_ v96) (fun v98 h97 => (gO Θ h97 9 f2_ (bc (P_R_thrown Θ N h97 f2_) (fun v100 h99 => (if v100 = v95 then (jn (fun (h102 : mH) => (j15 h102)) (fun j101 => (if v95 = 0 then (bo (aRL Θ h99 f3_ (J 0)) (fun v103 => (if (lg_cmp v103 ((v98).toInt64)) = 0 then (j101 h99) else (some ((J 0), h99))))) else (j101 h99)))) else (some ((J 0), h99))))))))))))))) else if (v14 &&& (J 63)) = J 7 then (bo (oX Θ (v5_ + (J 1))) (fun v104 => (bc (P_W_isInDock Θ N h f1_ v104 f3_) (fun v106 h105 => (bo (oX Θ (v5_ + (J 1))) (fun v107 => (gO Θ h105 9 f2_ (bc (P_R_isInDock Θ N h105 f2_ v107) (fun v109 h108 => (gO Θ h108 9 f2_ (bc (P_R_thrown Θ N h108 f2_) (fun v111 h110 => (if v111 = v106 then (jn (fun (h113 : mH) => (j15 h113)) (fun j112 => (if v106 = 0 then (bo (aRL Θ h110 f3_ (J 0)) (fun v114 => (jn (fun (h116 : mH) (s117 : Int64) => (if (lg_cmp v114 s117) = 0 then (j112 h116) else (some ((J 0), h116)))) (fun j115 => (if v109 = 0 then (j115 h110 (0 : Int64)) else (j115 h110 (1 : Int64))))))) else (j112 h110)))) else (some ((J 0), h110))))))))))))))) else if (v14 &&& (J 63)) = J 8 then (bo (oX Θ (v5_ + (J 1))) (fun v118 => (bc (P_W_positionOf Θ N h f1_ v118 f3_) (fun v120 h119 => (bo (oX Θ (v5_ + (J 1))) (fun v121 => (gO Θ h119 9 f2_ (bc (P_R_positionOf Θ N h119 f2_ v121) (fun v123 h122 => (gO Θ h122 9 f2_ (bc (P_R_thrown Θ N h122 f2_) (fun v125 h124 => (if v125 = v120 then (jn (fun (h127 : mH) => (j15 h127)) (fun j126 => (if v120 = 0 then (bo (aRL Θ h124 f3_ (J 0)) (fun v128 => (if (lg_cmp v128 ((v123).toInt64)) = 0 then (j126 h124) else (some ((J 0), h124))))) else (j126 h124)))) else (some ((J 0), h124))))))))))))))) else if (v14 &&& (J 63)) = J 9 then (bo (oX Θ (v5_ + (J 1))) (fun v129 => (bc (P_W_dirtOf Θ N h f1_ v129 f3_) (fun v131 h130 => (bo (oX Θ (v5_ + (J 1))) (fun v132 => (gO Θ h130 9 f2_ (bc (P_R_dirtOf Θ N h130 f2_ v132) (fun v134 h133 => (gO Θ h133 9 f2_ (bc (P_R_thrown Θ N h133 f2_) (fun v136 h135 => (if v136 = v131 then (jn (fun (h138 : mH) => (j15 h138)) (fun j137 => (if v131 = 0 then (bo (aRL Θ h135 f3_ (J 0)) (fun v139 => (if (lg_cmp v139 ((v134).toInt64)) = 0 then (j137 h135) else (some ((J 0), h135))))) else (j137 h135)))) else (some ((J 0), h135))))))))))))))) else if (v14 &&& (J 63)) = J 10 then (bo (oX Θ (v5_ + (J 1))) (fun v140 => (bc (P_W_damageOf Θ N h f1_ v140 f3_) (fun v142 h141 => (bo (oX Θ (v5_ + (J 1))) (fun v143 => (gO Θ h141 9 f2_ (bc (P_R_damageOf Θ N h141 f2_ v143) (fun v145 h144 => (gO Θ h144 9 f2_ (bc (P_R_thrown Θ N h144 f2_) (fun v147 h146 => (if v147 = v142 then (jn (fun (h149 : mH) => (j15 h149)) (fun j148 => (if v142 = 0 then (bo (aRL Θ h146 f3_ (J 0)) (fun v150 => (if (lg_cmp v150 ((v145).toInt64)) = 0 then (j148 h146) else (some ((J 0), h146))))) else (j148 h146)))) else (some ((J 0), h146))))))))))))))) else if (v14 &&& (J 63)) = J 11 then (bo (oX Θ (v5_ + (J 1))) (fun v151 => (bc (P_W_hoursAfloat Θ N h f1_ v151 f3_) (fun v153 h152 => (bo (oX Θ (v5_ + (J 1))) (fun v154 => (gO Θ h152 9 f2_ (bc (P_R_hoursAfloat Θ N h152 f2_ v154) (fun v156 h155 => (gO Θ h155 9 f2_ (bc (P_R_thrown Θ N h155 f2_) (fun v158 h157 => (if v158 = v153 then (jn (fun (h160 : mH) => (j15 h160)) (fun j159 => (if v153 = 0 then (bo (aRL Θ h157 f3_ (J 0)) (fun v161 => (if (lg_cmp v161 ((v156).toInt64)) = 0 then (j159 h157) else (some ((J 0), h157))))) else (j159 h157)))) else (some ((J 0), h157))))))))))))))) else if (v14 &&& (J 63)) = J 12 then (bo (oX Θ (v5_ + (J 1))) (fun v162 => (bc (P_W_isAfloat Θ N h f1_ v162 f3_) (fun v164 h163 => (bo (oX Θ (v5_ + (J 1))) (fun v165 => (gO Θ h163 9 f2_ (bc (P_R_isAfloat Θ N h163 f2_ v165) (fun v167 h166 => (gO Θ h166 9 f2_ (bc (P_R_thrown Θ N h166 f2_) (fun v169 h168 => (if v169 = v164 then (jn (fun (h171 : mH) => (j15 h171)) (fun j170 => (if v164 = 0 then (bo (aRL Θ h168 f3_ (J 0)) (fun v172 => (jn (fun (h174 : mH) (s175 : Int64) => (if (lg_cmp v172 s175) = 0 then (j170 h174) else (some ((J 0), h174)))) (fun j173 => (if v167 = 0 then (j173 h168 (0 : Int64)) else (j173 h168 (1 : Int64))))))) else (j170 h168)))) else (some ((J 0), h168))))))))))))))) else if (v14 &&& (J 63)) = J 13 then (bc (P_W_refusalReason Θ N h f1_ f3_) (fun v177 h176 => (gO Θ h176 9 f2_ (bc (P_R_refusalReason Θ N h176 f2_) (fun v179 h178 => (gO Θ h178 9 f2_ (bc (P_R_thrown Θ N h178 f2_) (fun v181 h180 => (if v181 = v177 then (jn (fun (h183 : mH) => (j15 h183)) (fun j182 => (if v177 = 0 then (bo (aRL Θ h180 f3_ (J 0)) (fun v184 => (if (lg_cmp v184 ((v179).toInt64)) = 0 then (j182 h180) else (some ((J 0), h180))))) else (j182 h180)))) else (some ((J 0), h180))))))))))) else if (v14 &&& (J 63)) = J 14 then (bo (oX Θ (v5_ + (J 1))) (fun v185 => (jn (fun (h187 : mH) (s188 : Int32) => (bc (P_W_setGate Θ N h187 f1_ s188 f3_) (fun v190 h189 => (bo (oX Θ (v5_ + (J 1))) (fun v191 => (jn (fun (h193 : mH) (s194 : Int32) => (gO Θ h193 9 f2_ (bc (P_R_setGate Θ N h193 f2_ s194) (fun v196 h195 => (gO Θ h195 9 f2_ (bc (P_R_thrown Θ N h195 f2_) (fun v198 h197 => (if v198 = v190 then (jn (fun (h200 : mH) => (j15 h200)) (fun j199 => (if v190 = 0 then (bo (aRL Θ h197 f3_ (J 0)) (fun v201 => (jn (fun (h203 : mH) (s204 : Int64) => (if (lg_cmp v201 s204) = 0 then (j199 h203) else (some ((J 0), h203)))) (fun j202 => (if v196 = 0 then (j202 h197 (0 : Int64)) else (j202 h197 (1 : Int64))))))) else (j199 h197)))) else (some ((J 0), h197)))))))))) (fun j192 => (if v191 = 0 then (j192 h189 (J 0)) else (j192 h189 (J 1)))))))))) (fun j186 => (if v185 = 0 then (j186 h (J 0)) else (j186 h (J 1))))))) else if (v14 &&& (J 63)) = J 15 then (gO Θ h 0 f1_ (bc (P_F_isGateOpen Θ N h f1_) (fun v206 h205 => (gO Θ h205 9 f2_ (bc (P_R_isGateOpen Θ N h205 f2_) (fun v208 h207 => (if v206 = v208 then (j15 h207) else (some ((J 0), h207))))))))) else if (v14 &&& (J 63)) = J 16 then (bo (oX Θ (v5_ + (J 1))) (fun v209 => (bc (P_W_setPump Θ N h f1_ v209 f3_) (fun v211 h210 => (bo (oX Θ (v5_ + (J 1))) (fun v212 => (gO Θ h210 9 f2_ (bc (P_R_setPump Θ N h210 f2_ v212) (fun v214 h213 => (gO Θ h213 9 f2_ (bc (P_R_thrown Θ N h213 f2_) (fun v216 h215 => (if v216 = v211 then (jn (fun (h218 : mH) => (j15 h218)) (fun j217 => (if v211 = 0 then (bo (aRL Θ h215 f3_ (J 0)) (fun v219 => (if (lg_cmp v219 ((v214).toInt64)) = 0 then (j217 h215) else (some ((J 0), h215))))) else (j217 h215)))) else (some ((J 0), h215))))))))))))))) else if (v14 &&& (J 63)) = J 17 then (gO Θ h 0 f1_ (bc (P_F_level Θ N h f1_) (fun v221 h220 => (gO Θ h220 9 f2_ (bc (P_R_level Θ N h220 f2_) (fun v223 h222 => (if v221 = v223 then (j15 h222) else (some ((J 0), h222))))))))) else if (v14 &&& (J 63)) = J 18 then (bo (oX Θ (v5_ + (J 1))) (fun v224 => (bc (P_W_seaLevel Θ N h f1_ v224 f3_) (fun v226 h225 => (bo (oX Θ (v5_ + (J 1))) (fun v227 => (gO Θ h225 9 f2_ (bc (P_R_seaLevel Θ N h225 f2_ v227) (fun v229 h228 => (gO Θ h228 9 f2_ (bc (P_R_thrown Θ N h228 f2_) (fun v231 h230 => (if v231 = v226 then (jn (fun (h233 : mH) => (j15 h233)) (fun j232 => (if v226 = 0 then (bo (aRL Θ h230 f3_ (J 0)) (fun v234 => (if (lg_cmp v234 ((v229).toInt64)) = 0 then (j232 h230) else (some ((J 0), h230))))) else (j232 h230)))) else (some ((J 0), h230))))))))))))))) else if (v14 &&& (J 63)) = J 19 then (bo (oX Θ (v5_ + (J 1))) (fun v235 => (bc (P_W_seaLevelByHours Θ N h f1_ v235 f3_) (fun v237 h236 => (bo (oX Θ (v5_ + (J 1))) (fun v238 => (gO Θ h236 9 f2_ (bc (P_R_seaLevelByHours Θ N h236 f2_ v238) (fun v240 h239 => (gO Θ h239 9 f2_ (bc (P_R_thrown Θ N h239 f2_) (fun v242 h241 => (if v242 = v237 then (jn (fun (h244 : mH) => (j15 h244)) (fun j243 => (if v237 = 0 then (bo (aRL Θ h241 f3_ (J 0)) (fun v245 => (if (lg_cmp v245 ((v240).toInt64)) = 0 then (j243 h241) else (some ((J 0), h241))))) else (j243 h241)))) else (some ((J 0), h241))))))))))))))) else if (v14 &&& (J 63)) = J 20 then (bo (oX Θ (v5_ + (J 1))) (fun v246 => (bc (P_W_pass Θ N h f1_ v246 f3_) (fun v248 h247 => (bo (oX Θ (v5_ + (J 1))) (fun v249 => (gO Θ h247 9 f2_ (bc (P_R_pass Θ N h247 f2_ v249) (fun v251 h250 => (gO Θ h250 9 f2_ (bc (P_R_thrown Θ N h250 f2_) (fun v253 h252 => (if v253 = v248 then (jn (fun (h255 : mH) => (j15 h255)) (fun j254 => (if v248 = 0 then (bo (aRL Θ h252 f3_ (J 0)) (fun v256 => (if (lg_cmp v256 ((v251).toInt64)) = 0 then (j254 h252) else (some ((J 0), h252))))) else (j254 h252)))) else (some ((J 0), h252))))))))))))))) else if (v14 &&& (J 63)) = J 21 then (gO Θ h 0 f1_ (bc (P_F_hour Θ N h f1_) (fun v258 h257 => (gO Θ h257 9 f2_ (bc (P_R_hour Θ N h257 f2_) (fun v260 h259 => (if v258 = v260 then (j15 h259) else (some ((J 0), h259))))))))) else if (v14 &&& (J 63)) = J 22 then (bo (oX Θ (v5_ + (J 1))) (fun v261 => (bc (P_W_levelAfter Θ N h f1_ v261 f3_) (fun v263 h262 => (bo (oX Θ (v5_ + (J 1))) (fun v264 => (gO Θ h262 9 f2_ (bc (P_R_levelAfter Θ N h262 f2_ v264) (fun v266 h265 => (gO Θ h265 9 f2_ (bc (P_R_thrown Θ N h265 f2_) (fun v268 h267 => (if v268 = v263 then (jn (fun (h270 : mH) => (j15 h270)) (fun j269 => (if v263 = 0 then (bo (aRL Θ h267 f3_ (J 0)) (fun v271 => (if (lg_cmp v271 ((v266).toInt64)) = 0 then (j269 h267) else (some ((J 0), h267))))) else (j269 h267)))) else (some ((J 0), h267))))))))))))))) else if (v14 &&& (J 63)) = J 23 then (bo (oX Θ (v5_ + (J 1))) (fun v272 => (bc (P_W_hoursUntilAfloat Θ N h f1_ v272 f3_) (fun v274 h273 => (bo (oX Θ (v5_ + (J 1))) (fun v275 => (gO Θ h273 9 f2_ (bc (P_R_hoursUntilAfloat Θ N h273 f2_ v275) (fun v277 h276 => (gO Θ h276 9 f2_ (bc (P_R_thrown Θ N h276 f2_) (fun v279 h278 => (if v279 = v274 then (jn (fun (h281 : mH) => (j15 h281)) (fun j280 => (if v274 = 0 then (bo (aRL Θ h278 f3_ (J 0)) (fun v282 => (if (lg_cmp v282 ((v277).toInt64)) = 0 then (j280 h278) else (some ((J 0), h278))))) else (j280 h278)))) else (some ((J 0), h278))))))))))))))) else if (v14 &&& (J 63)) = J 24 then (bo (oX Θ (v5_ + (J 1))) (fun v283 => (bc (P_W_placeBlock Θ N h f1_ v283 f3_) (fun v285 h284 => (bo (oX Θ (v5_ + (J 1))) (fun v286 => (gO Θ h284 9 f2_ (bc (P_R_placeBlock Θ N h284 f2_ v286) (fun v288 h287 => (gO Θ h287 9 f2_ (bc (P_R_thrown Θ N h287 f2_) (fun v290 h289 => (if v290 = v285 then (jn (fun (h292 : mH) => (j15 h292)) (fun j291 => (if v285 = 0 then (bo (aRL Θ h289 f3_ (J 0)) (fun v293 => (if (lg_cmp v293 ((v288).toInt64)) = 0 then (j291 h289) else (some ((J 0), h289))))) else (j291 h289)))) else (some ((J 0), h289))))))))))))))) else if (v14 &&& (J 63)) = J 25 then (bo (oX Θ (v5_ + (J 1))) (fun v294 => (bc (P_W_removeBlock Θ N h f1_ v294 f3_) (fun v296 h295 => (bo (oX Θ (v5_ + (J 1))) (fun v297 => (gO Θ h295 9 f2_ (bc (P_R_removeBlock Θ N h295 f2_ v297) (fun v299 h298 => (gO Θ h298 9 f2_ (bc (P_R_thrown Θ N h298 f2_) (fun v301 h300 => (if v301 = v296 then (jn (fun (h303 : mH) => (j15 h303)) (fun j302 => (if v296 = 0 then (bo (aRL Θ h300 f3_ (J 0)) (fun v304 => (if (lg_cmp v304 ((v299).toInt64)) = 0 then (j302 h300) else (some ((J 0), h300))))) else (j302 h300)))) else (some ((J 0), h300))))))))))))))) else if (v14 &&& (J 63)) = J 26 then (bo (oX Θ (v5_ + (J 1))) (fun v305 => (bc (P_W_hasBlock Θ N h f1_ v305 f3_) (fun v307 h306 => (bo (oX Θ (v5_ + (J 1))) (fun v308 => (gO Θ h306 9 f2_ (bc (P_R_hasBlock Θ N h306 f2_ v308) (fun v310 h309 => (gO Θ h309 9 f2_ (bc (P_R_thrown Θ N h309 f2_) (fun v312 h311 => (if v312 = v307 then (jn (fun (h314 : mH) => (j15 h314)) (fun j313 => (if v307 = 0 then (bo (aRL Θ h311 f3_ (J 0)) (fun v315 => (jn (fun (h317 : mH) (s318 : Int64) => (if (lg_cmp v315 s318) = 0 then (j313 h317) else (some ((J 0), h317)))) (fun j316 => (if v310 = 0 then (j316 h311 (0 : Int64)) else (j316 h311 (1 : Int64))))))) else (j313 h311)))) else (some ((J 0), h311))))))))))))))) else if (v14 &&& (J 63)) = J 27 then (bo (oX Θ (v5_ + (J 1))) (fun v319 => (bc (P_W_blocksBeneath Θ N h f1_ v319 f3_) (fun v321 h320 => (bo (oX Θ (v5_ + (J 1))) (fun v322 => (gO Θ h320 9 f2_ (bc (P_R_blocksBeneath Θ N h320 f2_ v322) (fun v324 h323 => (gO Θ h323 9 f2_ (bc (P_R_thrown Θ N h323 f2_) (fun v326 h325 => (if v326 = v321 then (jn (fun (h328 : mH) => (j15 h328)) (fun j327 => (if v321 = 0 then (bo (aRL Θ h325 f3_ (J 0)) (fun v329 => (if (lg_cmp v329 ((v324).toInt64)) = 0 then (j327 h325) else (some ((J 0), h325))))) else (j327 h325)))) else (some ((J 0), h325))))))))))))))) else if (v14 &&& (J 63)) = J 28 then (bo (oX Θ (v5_ + (J 1))) (fun v330 => (bc (P_W_blocksBeneathByBlocks Θ N h f1_ v330 f3_) (fun v332 h331 => (bo (oX Θ (v5_ + (J 1))) (fun v333 => (gO Θ h331 9 f2_ (bc (P_R_blocksBeneathByBlocks Θ N h331 f2_ v333) (fun v335 h334 => (gO Θ h334 9 f2_ (bc (P_R_thrown Θ N h334 f2_) (fun v337 h336 => (if v337 = v332 then (jn (fun (h339 : mH) => (j15 h339)) (fun j338 => (if v332 = 0 then (bo (aRL Θ h336 f3_ (J 0)) (fun v340 => (if (lg_cmp v340 ((v335).toInt64)) = 0 then (j338 h336) else (some ((J 0), h336))))) else (j338 h336)))) else (some ((J 0), h336))))))))))))))) else if (v14 &&& (J 63)) = J 29 then (bo (oX Θ (v5_ + (J 1))) (fun v341 => (bc (P_W_shipAtPosition Θ N h f1_ v341 f3_) (fun v343 h342 => (bo (oX Θ (v5_ + (J 1))) (fun v344 => (gO Θ h342 9 f2_ (bc (P_R_shipAtPosition Θ N h342 f2_ v344) (fun v346 h345 => (gO Θ h345 9 f2_ (bc (P_R_thrown Θ N h345 f2_) (fun v348 h347 => (if v348 = v343 then (jn (fun (h350 : mH) => (j15 h350)) (fun j349 => (if v343 = 0 then (bo (aRL Θ h347 f3_ (J 0)) (fun v351 => (if (lg_cmp v351 ((v346).toInt64)) = 0 then (j349 h347) else (some ((J 0), h347))))) else (j349 h347)))) else (some ((J 0), h347))))))))))))))) else if (v14 &&& (J 63)) = J 30 then (bo (oX Θ (v5_ + (J 1))) (fun v352 => (bc (P_W_firstGap Θ N h f1_ v352 f3_) (fun v354 h353 => (bo (oX Θ (v5_ + (J 1))) (fun v355 => (gO Θ h353 9 f2_ (bc (P_R_firstGap Θ N h353 f2_ v355) (fun v357 h356 => (gO Θ h356 9 f2_ (bc (P_R_thrown Θ N h356 f2_) (fun v359 h358 => (if v359 = v354 then (jn (fun (h361 : mH) => (j15 h361)) (fun j360 => (if v354 = 0 then (bo (aRL Θ h358 f3_ (J 0)) (fun v362 => (if (lg_cmp v362 ((v357).toInt64)) = 0 then (j360 h358) else (some ((J 0), h358))))) else (j360 h358)))) else (some ((J 0), h358))))))))))))))) else if (v14 &&& (J 63)) = J 31 then (bo (oX Θ (v5_ + (J 1))) (fun v363 => (bc (P_W_firstGapByShips Θ N h f1_ v363 f3_) (fun v365 h364 => (bo (oX Θ (v5_ + (J 1))) (fun v366 => (gO Θ h364 9 f2_ (bc (P_R_firstGapByShips Θ N h364 f2_ v366) (fun v368 h367 => (gO Θ h367 9 f2_ (bc (P_R_thrown Θ N h367 f2_) (fun v370 h369 => (if v370 = v365 then (jn (fun (h372 : mH) => (j15 h372)) (fun j371 => (if v365 = 0 then (bo (aRL Θ h369 f3_ (J 0)) (fun v373 => (if (lg_cmp v373 ((v368).toInt64)) = 0 then (j371 h369) else (some ((J 0), h369))))) else (j371 h369)))) else (some ((J 0), h369))))))))))))))) else if (v14 &&& (J 63)) = J 32 then (gO Θ h 0 f1_ (bc (P_F_freeMetres Θ N h f1_) (fun v375 h374 => (gO Θ h374 9 f2_ (bc (P_R_freeMetres Θ N h374 f2_) (fun v377 h376 => (if v375 = v377 then (j15 h376) else (some ((J 0), h376))))))))) else if (v14 &&& (J 63)) = J 33 then (gO Θ h 0 f1_ (bc (P_F_mostFitting Θ N h f1_) (fun v379 h378 => (gO Θ h378 9 f2_ (bc (P_R_mostFitting Θ N h378 f2_) (fun v381 h380 => (if v379 = v381 then (j15 h380) else (some ((J 0), h380))))))))) else if (v14 &&& (J 63)) = J 34 then (gO Θ h 0 f1_ (bc (P_F_mostFittingByTable Θ N h f1_) (fun v383 h382 => (gO Θ h382 9 f2_ (bc (P_R_mostFittingByTable Θ N h382 f2_) (fun v385 h384 => (if v383 = v385 then (j15 h384) else (some ((J 0), h384))))))))) else if (v14 &&& (J 63)) = J 35 then (gO Θ h 0 f1_ (bc (P_F_mostFittingMetres Θ N h f1_) (fun v387 h386 => (gO Θ h386 9 f2_ (bc (P_R_mostFittingMetres Θ N h386 f2_) (fun v389 h388 => (if v387 = v389 then (j15 h388) else (some ((J 0), h388))))))))) else if (v14 &&& (J 63)) = J 36 then (bo (oX Θ (v5_ + (J 1))) (fun v390 => (bc (P_W_billOf Θ N h f1_ v390 f3_) (fun v392 h391 => (bo (oX Θ (v5_ + (J 1))) (fun v393 => (gO Θ h391 9 f2_ (bc (P_R_billOf Θ N h391 f2_ v393) (fun v395 h394 => (gO Θ h394 9 f2_ (bc (P_R_thrown Θ N h394 f2_) (fun v397 h396 => (if v397 = v392 then (jn (fun (h399 : mH) => (j15 h399)) (fun j398 => (if v392 = 0 then (bo (aRL Θ h396 f3_ (J 0)) (fun v400 => (if (lg_cmp v400 ((v395).toInt64)) = 0 then (j398 h396) else (some ((J 0), h396))))) else (j398 h396)))) else (some ((J 0), h396))))))))))))))) else if (v14 &&& (J 63)) = J 37 then (bo (oX Θ (v5_ + (J 1))) (fun v401 => (bo (oX Θ (v5_ + (J 2))) (fun v402 => (bc (P_W_pay Θ N h f1_ v401 v402 f3_) (fun v404 h403 => (bo (oX Θ (v5_ + (J 1))) (fun v405 => (bo (oX Θ (v5_ + (J 2))) (fun v406 => (gO Θ h403 9 f2_ (bc (P_R_pay Θ N h403 f2_ v405 v406) (fun v408 h407 => (gO Θ h407 9 f2_ (bc (P_R_thrown Θ N h407 f2_) (fun v410 h409 => (if v410 = v404 then (jn (fun (h412 : mH) => (j15 h412)) (fun j411 => (if v404 = 0 then (bo (aRL Θ h409 f3_ (J 0)) (fun v413 => (if (lg_cmp v413 ((v408).toInt64)) = 0 then (j411 h409) else (some ((J 0), h409))))) else (j411 h409)))) else (some ((J 0), h409))))))))))))))))))) else if (v14 &&& (J 63)) = J 38 then (gO Θ h 0 f1_ (bc (P_F_billTotal Θ N h f1_) (fun v415 h414 => (gO Θ h414 9 f2_ (bc (P_R_billTotal Θ N h414 f2_) (fun v417 h416 => (if v415 = v417 then (j15 h416) else (some ((J 0), h416))))))))) else if (v14 &&& (J 63)) = J 39 then (gO Θ h 0 f1_ (bc (P_F_billTotalByAccount Θ N h f1_) (fun v419 h418 => (gO Θ h418 9 f2_ (bc (P_R_billTotalByAccount Θ N h418 f2_) (fun v421 h420 => (if v419 = v421 then (j15 h420) else (some ((J 0), h420))))))))) else if (v14 &&& (J 63)) = J 40 then (gO Θ h 0 f1_ (bc (P_F_paidTotal Θ N h f1_) (fun v423 h422 => (gO Θ h422 9 f2_ (bc (P_R_paidTotal Θ N h422 f2_) (fun v425 h424 => (if v423 = v425 then (j15 h424) else (some ((J 0), h424))))))))) else if (v14 &&& (J 63)) = J 41 then (bo (oX Θ (v5_ + (J 1))) (fun v426 => (bc (P_W_shipAtRank Θ N h f1_ v426 f3_) (fun v428 h427 => (bo (oX Θ (v5_ + (J 1))) (fun v429 => (gO Θ h427 9 f2_ (bc (P_R_shipAtRank Θ N h427 f2_ v429) (fun v431 h430 => (gO Θ h430 9 f2_ (bc (P_R_thrown Θ N h430 f2_) (fun v433 h432 => (if v433 = v428 then (jn (fun (h435 : mH) => (j15 h435)) (fun j434 => (if v428 = 0 then (bo (aRL Θ h432 f3_ (J 0)) (fun v436 => (if (lg_cmp v436 ((v431).toInt64)) = 0 then (j434 h432) else (some ((J 0), h432))))) else (j434 h432)))) else (some ((J 0), h432))))))))))))))) else if (v14 &&& (J 63)) = J 42 then (bo (oX Θ (v5_ + (J 1))) (fun v437 => (bc (P_W_append Θ N h f1_ (((v437).toUInt32 % 65536).toInt32) f3_) (fun v439 h438 => (bo (oX Θ (v5_ + (J 1))) (fun v440 => (gO Θ h438 9 f2_ (bc (P_R_append Θ N h438 f2_ (((v440).toUInt32 % 65536).toInt32)) (fun v442 h441 => (gO Θ h441 9 f2_ (bc (P_R_thrown Θ N h441 f2_) (fun v444 h443 => (if v444 = v439 then (jn (fun (h446 : mH) => (j15 h446)) (fun j445 => (if v439 = 0 then (bo (aRL Θ h443 f3_ (J 0)) (fun v447 => (if (lg_cmp v447 ((v442).toInt64)) = 0 then (j445 h443) else (some ((J 0), h443))))) else (j445 h443)))) else (some ((J 0), h443))))))))))))))) else if (v14 &&& (J 63)) = J 43 then (bc (P_W_run Θ N h f1_ f3_) (fun v449 h448 => (gO Θ h448 9 f2_ (bc (P_R_run Θ N h448 f2_) (fun v451 h450 => (gO Θ h450 9 f2_ (bc (P_R_thrown Θ N h450 f2_) (fun v453 h452 => (if v453 = v449 then (jn (fun (h455 : mH) => (j15 h455)) (fun j454 => (if v449 = 0 then (bo (aRL Θ h452 f3_ (J 0)) (fun v456 => (if (lg_cmp v456 ((v451).toInt64)) = 0 then (j454 h452) else (some ((J 0), h452))))) else (j454 h452)))) else (some ((J 0), h452))))))))))) else if (v14 &&& (J 63)) = J 44 then (bc (P_W_errorPosition Θ N h f1_ f3_) (fun v458 h457 => (gO Θ h457 9 f2_ (bc (P_R_errorPosition Θ N h457 f2_) (fun v460 h459 => (gO Θ h459 9 f2_ (bc (P_R_thrown Θ N h459 f2_) (fun v462 h461 => (if v462 = v458 then (jn (fun (h464 : mH) => (j15 h464)) (fun j463 => (if v458 = 0 then (bo (aRL Θ h461 f3_ (J 0)) (fun v465 => (if (lg_cmp v465 ((v460).toInt64)) = 0 then (j463 h461) else (some ((J 0), h461))))) else (j463 h461)))) else (some ((J 0), h461))))))))))) else if (v14 &&& (J 63)) = J 45 then (bc (P_W_failedCommand Θ N h f1_ f3_) (fun v467 h466 => (gO Θ h466 9 f2_ (bc (P_R_failedCommand Θ N h466 f2_) (fun v469 h468 => (gO Θ h468 9 f2_ (bc (P_R_thrown Θ N h468 f2_) (fun v471 h470 => (if v471 = v467 then (jn (fun (h473 : mH) => (j15 h473)) (fun j472 => (if v467 = 0 then (bo (aRL Θ h470 f3_ (J 0)) (fun v474 => (if (lg_cmp v474 ((v469).toInt64)) = 0 then (j472 h470) else (some ((J 0), h470))))) else (j472 h470)))) else (some ((J 0), h470))))))))))) else if (v14 &&& (J 63)) = J 46 then (gO Θ h 0 f1_ (bc (P_F_describeDock Θ N h f1_) (fun v476 h475 => (gO Θ h475 9 f2_ (bc (P_R_describeDock Θ N h475 f2_) (fun v478 h477 => (if v476 = v478 then (j15 h477) else (some ((J 0), h477))))))))) else if (v14 &&& (J 63)) = J 47 then (bo (oX Θ (v5_ + (J 1))) (fun v479 => (bc (P_W_describeBill Θ N h f1_ v479 f3_) (fun v481 h480 => (bo (oX Θ (v5_ + (J 1))) (fun v482 => (gO Θ h480 9 f2_ (bc (P_R_describeBill Θ N h480 f2_ v482) (fun v484 h483 => (gO Θ h483 9 f2_ (bc (P_R_thrown Θ N h483 f2_) (fun v486 h485 => (if v486 = v481 then (jn (fun (h488 : mH) => (j15 h488)) (fun j487 => (if v481 = 0 then (bo (aRL Θ h485 f3_ (J 0)) (fun v489 => (if (lg_cmp v489 ((v484).toInt64)) = 0 then (j487 h485) else (some ((J 0), h485))))) else (j487 h485)))) else (some ((J 0), h485))))))))))))))) else if (v14 &&& (J 63)) = J 48 then (bo (oX Θ (v5_ + (J 1))) (fun v490 => (bc (P_W_lineAt Θ N h f1_ v490 f3_) (fun v492 h491 => (bo (oX Θ (v5_ + (J 1))) (fun v493 => (gO Θ h491 9 f2_ (bc (P_R_lineAt Θ N h491 f2_ v493) (fun v495 h494 => (gO Θ h494 9 f2_ (bc (P_R_thrown Θ N h494 f2_) (fun v497 h496 => (if v497 = v492 then (jn (fun (h499 : mH) => (j15 h499)) (fun j498 => (if v492 = 0 then (bo (aRL Θ h496 f3_ (J 0)) (fun v500 => (if (lg_cmp v500 ((v495).toInt64)) = 0 then (j498 h496) else (some ((J 0), h496))))) else (j498 h496)))) else (some ((J 0), h496))))))))))))))) else if (v14 &&& (J 63)) = J 49 then (bc (P_W_meanDirt Θ N h f1_ f4_) (fun v502 h501 => (gO Θ h501 9 f2_ (bc (P_R_meanDirt Θ N h501 f2_) (fun v504 h503 => (gO Θ h503 9 f2_ (bc (P_R_thrown Θ N h503 f2_) (fun v506 h505 => (if v506 = v502 then (jn (fun (h508 : mH) => (j15 h508)) (fun j507 => (if v502 = 0 then (bo (aRD Θ h505 f4_ (J 0)) (fun v509 => (if (Op.cmpValue (FP.dcmp v509 v504) .l) = 0 then (j507 h505) else (bo (aRD Θ h505 f4_ (J 0)) (fun v510 => (bo (aRD Θ h505 f4_ (J 0)) (fun v511 => (if (Op.cmpValue (FP.dcmp v510 v511) .l) = 0 then (some ((J 0), h505)) else (if (Op.cmpValue (FP.dcmp v504 v504) .l) = 0 then (some ((J 0), h505)) else (j507 h505)))))))))) else (j507 h505)))) else (some ((J 0), h505))))))))))) else if (v14 &&& (J 63)) = J 50 then (gO Θ h 0 f1_ (bc (P_F_takenShare Θ N h f1_) (fun v513 h512 => (if (FP.f2d v513) &&& 0x7fffffffffffffff ≤ 0x7ff0000000000000 then (gO Θ h512 9 f2_ (bc (P_R_takenShare Θ N h512 f2_) (fun v515 h514 => (if (FP.f2d v515) &&& 0x7fffffffffffffff ≤ 0x7ff0000000000000 then (jn (fun (h517 : mH) => (j15 h517)) (fun j516 => (if (Op.cmpValue (FP.dcmp (FP.f2d v513) (FP.f2d v515)) .l) = 0 then (j516 h514) else (if (Op.cmpValue (FP.dcmp (FP.f2d v513) (FP.f2d v513)) .l) = 0 then (some ((J 0), h514)) else (if (Op.cmpValue (FP.dcmp (FP.f2d v515) (FP.f2d v515)) .l) = 0 then (some ((J 0), h514)) else (j516 h514)))))) else none)))) else none)))) else if (v14 &&& (J 63)) = J 51 then (gO Θ h 0 f1_ (bc (P_F_isConsistent Θ N h f1_) (fun v519 h518 => (gO Θ h518 9 f2_ (bc (P_R_isConsistent Θ N h518 f2_) (fun v521 h520 => (if v519 = v521 then (j15 h520) else (some ((J 0), h520))))))))) else if (v14 &&& (J 63)) = J 52 then (bc (P_W_undo Θ N h f1_ f3_) (fun v523 h522 => (gO Θ h522 9 f2_ (bc (P_R_undo Θ N h522 f2_) (fun v525 h524 => (gO Θ h524 9 f2_ (bc (P_R_thrown Θ N h524 f2_) (fun v527 h526 => (if v527 = v523 then (jn (fun (h529 : mH) => (j15 h529)) (fun j528 => (if v523 = 0 then (bo (aRL Θ h526 f3_ (J 0)) (fun v530 => (if (lg_cmp v530 ((v525).toInt64)) = 0 then (j528 h526) else (some ((J 0), h526))))) else (j528 h526)))) else (some ((J 0), h526))))))))))) else if (v14 &&& (J 63)) = J 53 then (gO Θ h 0 f1_ (bc (P_F_save Θ N h f1_) (fun v532 h531 => (gO Θ h531 9 f2_ (bc (P_R_save Θ N h531 f2_) (fun v534 h533 => (if v532 = v534 then (j15 h533) else (some ((J 0), h533))))))))) else if (v14 &&& (J 63)) = J 54 then (bc (P_W_restore Θ N h f1_ f3_) (fun v536 h535 => (gO Θ h535 9 f2_ (bc (P_R_restore Θ N h535 f2_) (fun v538 h537 => (gO Θ h537 9 f2_ (bc (P_R_thrown Θ N h537 f2_) (fun v540 h539 => (if v540 = v536 then (jn (fun (h542 : mH) => (j15 h542)) (fun j541 => (if v536 = 0 then (bo (aRL Θ h539 f3_ (J 0)) (fun v543 => (if (lg_cmp v543 ((v538).toInt64)) = 0 then (j541 h539) else (some ((J 0), h539))))) else (j541 h539)))) else (some ((J 0), h539))))))))))) else none))))))))
noncomputable def P_W_law_28 (Θ : mW) (N : Nat) (K2817 : mH → Option (Int32 × mH)) (f1_ : Nat) (f2_ : Nat) (f3_ : Nat) (f4_ : Nat) : Nat → mH → Int32 → Option (Int32 × mH) :=
  lp (fun _ _ => none) (B_W_law_28 Θ N K2817 f1_ f2_ f3_ f4_)
noncomputable def P_W_law (Θ : mW) (N : Nat) (h : mH) : Option (Int32 × mH) :=
  (al Θ h (oB 0 [.null, .null, .null, .null, .int 0, .null, .null, .null, .int 0, .int 0, .int 0]) (fun q1 h2 => (bc (P_F_init Θ N h2 q1) (fun v4 h3 => (al Θ h3 (oB 9 [.null, .null, .null, .null, .int 0, .int 0, .int 0, .int 0, .int 0, .null, .int 0, .null, .int 0, .int 0, .null, .int 0, .int 0, .int 0, .int 0, .null]) (fun q5 h6 => (bc (P_R_init Θ N h6 q5) (fun v8 h7 => (ala Θ h7 8 (J 1) (fun n => .inl (2, n, .inr (.inl (fun _ => 0)))) (fun q9 h10 => (ala Θ h10 8 (J 1) (fun n => .inl (3, n, .inr (.inr (.inr (.inl (fun _ => 0)))))) (fun q11 h12 => (P_W_law_28 Θ N (fun h544 => (some ((J 1), h544))) q1 q5 q9 q11 N h12 (J 0))))))))))))))
theorem SB_W_law_28 (hfl : HF l Θ) (hD : 14 ≤ d) {K2817 : mH → Option (Int32 × mH)} {f1_ : Nat} {f2_ : Nat} {f3_ : Nat} {f4_ : Nat}  (hK2817 : ∀ (h : mH), mY l Θ d M_W_law 2817 [none, none, none, none, none, none, none, none, none, none] [] h (tR vI) (K2817 h)) (rc : mH → Int32 → Option (Int32 × mH)) (ih : ∀ (h : mH) (v5_ : Int32), mY l Θ d M_W_law 28 [some (.ref (mwad Θ 40)), some (.ref f1_), some (.ref f2_), some (.ref f3_), some (.ref f4_), some (.int v5_), none, none, none, none] [] h (tR vI) (rc h v5_)) : ∀ (h : mH) (v5_ : Int32), mY l Θ d M_W_law 28 [some (.ref (mwad Θ 40)), some (.ref f1_), some (.ref f2_), some (.ref f3_), some (.ref f4_), some (.int v5_), none, none, none, none] [] h (tR vI) (B_W_law_28 Θ N K2817 f1_ f2_ f3_ f4_ rc h v5_) := by
  intro h v5_
  unfold B_W_law_28
  refine y_iload d_W_law_28 rfl ?_
  refine y_aload_n d_W_law_30 rfl ?_
  refine y_oldXl d_W_law_31 (fun v13 => ?_)
  refine y_iconst (v := (J 4)) d_W_law_32 rfl ?_
  refine y_isub (v := (v13 - (J 4))) d_W_law_33 rfl ?_
  refine y_icmp_gt (tgt := 2817) d_W_law_34 (by decide) ?_ ?_
  · exact y_wk (loc2 := [none, none, none, none, none, none, none, none, none, none]) trivial (hK2817 h)
  · refine y_aload_n d_W_law_37 rfl ?_
    refine y_iload d_W_law_38 rfl ?_
    refine y_oldX d_W_law_40 (fun v14 => ?_)
    refine y_bipush (v := (J 63)) d_W_law_41 (by decide +kernel) ?_
    refine y_iand (v := (v14 &&& (J 63))) d_W_law_43 rfl ?_
    refine y_jn (C := fun (j9 : mH → Option (Int32 × mH)) => ∀ (h16 : mH), mY l Θ d M_W_law 2811 [some (.ref (mwad Θ 40)), some (.ref f1_), some (.ref f2_), some (.ref f3_), some (.ref f4_), some (.int v5_), none, none, none, none] [] h16 (tR vI) (j9 h16)) (fun h16 => ?_) (fun j15 Hj15 => ?_)
    · refine y_iinc (v := (v5_ + (J 4))) (loc2 := [some (.ref (mwad Θ 40)), some (.ref f1_), some (.ref f2_), some (.ref f3_), some (.ref f4_), some (.int (v5_ + (J 4))), none, none, none, none]) d_W_law_2811 rfl rfl (Nat.le_of_ble_eq_true rfl) rfl rfl ?_
      refine y_goto (tgt := 28) d_W_law_2814 (by decide) ?_
      exact ih h16 (v5_ + (J 4))
    · refine y_tabOut (tgt := 2811) d_W_law_44 (by decide) ?_ (fun hn => ?_)
      · exact Hj15 h
      refine y_tabIn (tgt := 280) d_W_law_44 hn (by decide +kernel) rfl (by decide) ?_ ?_
      · refine y_aload_n d_W_law_280 rfl ?_
        refine y_aload_n d_W_law_281 rfl ?_
        refine y_iload d_W_law_282 rfl ?_
        refine y_iconst (v := (J 1)) d_W_law_284 rfl ?_
        refine y_iadd (v := (v5_ + (J 1))) d_W_law_285 rfl ?_
        refine y_oldX d_W_law_286 (fun v17 => ?_)
        refine y_aload_n d_W_law_287 rfl ?_
        refine y_iload d_W_law_288 rfl ?_
        refine y_iconst (v := (J 2)) d_W_law_290 rfl ?_
        refine y_iadd (v := (v5_ + (J 2))) d_W_law_291 rfl ?_
        refine y_oldX d_W_law_292 (fun v18 => ?_)
        refine y_aload_n d_W_law_293 rfl ?_
        refine y_iload d_W_law_294 rfl ?_
        refine y_iconst (v := (J 3)) d_W_law_296 rfl ?_
        refine y_iadd (v := (v5_ + (J 3))) d_W_law_297 rfl ?_
        refine y_oldX d_W_law_298 (fun v19 => ?_)
        refine y_aload_n d_W_law_299 rfl ?_
        refine y_cI (c_st (rest := []) d_W_law_300 k_W_addShip s_W_155 rfl rfl (Nat.le_of_ble_eq_true rfl) (Nat.le_trans (Nat.le_of_ble_eq_true rfl : 8 + 1 ≤ 14) hD) (S_W_addShip hfl (Nat.le_refl _) h f1_ v17 v18 v19 f3_)) (fun v21 h20 => ?_)
        refine y_istore (loc2 := [some (.ref (mwad Θ 40)), some (.ref f1_), some (.ref f2_), some (.ref f3_), some (.ref f4_), some (.int v5_), some (.int v21), none, none, none]) d_W_law_303 (Nat.le_of_ble_eq_true rfl) rfl rfl ?_
        refine y_aload_n d_W_law_305 rfl ?_
        refine y_aload_n d_W_law_306 rfl ?_
        refine y_iload d_W_law_307 rfl ?_
        refine y_iconst (v := (J 1)) d_W_law_309 rfl ?_
        refine y_iadd (v := (v5_ + (J 1))) d_W_law_310 rfl ?_
        refine y_oldX d_W_law_311 (fun v22 => ?_)
        refine y_aload_n d_W_law_312 rfl ?_
        refine y_iload d_W_law_313 rfl ?_
        refine y_iconst (v := (J 2)) d_W_law_315 rfl ?_
        refine y_iadd (v := (v5_ + (J 2))) d_W_law_316 rfl ?_
        refine y_oldX d_W_law_317 (fun v23 => ?_)
        refine y_aload_n d_W_law_318 rfl ?_
        refine y_iload d_W_law_319 rfl ?_
        refine y_iconst (v := (J 3)) d_W_law_321 rfl ?_
        refine y_iadd (v := (v5_ + (J 3))) d_W_law_322 rfl ?_
        refine y_oldX d_W_law_323 (fun v24 => ?_)
        refine y_gO (fun fs1 g1 => y_cI (c_vi (rest := []) d_W_law_324 k_R_addShip s_W_160 (Or.inl ⟨_, _, _, g1, rfl, rfl⟩) rfl rfl (Nat.le_of_ble_eq_true rfl) (Nat.le_trans (Nat.le_of_ble_eq_true rfl : 4 + 1 ≤ 14) hD) (S_R_addShip hfl (Nat.le_refl _) h20 f2_ v22 v23 v24)) (fun v26 h25 => ?_))
        refine y_istore (loc2 := [some (.ref (mwad Θ 40)), some (.ref f1_), some (.ref f2_), some (.ref f3_), some (.ref f4_), some (.int v5_), some (.int v21), some (.int v26), none, none]) d_W_law_327 (Nat.le_of_ble_eq_true rfl) rfl rfl ?_
        refine y_aload_n d_W_law_329 rfl ?_
        refine y_gO (fun fs1 g1 => y_cI (c_vi (rest := []) d_W_law_330 k_R_thrown s_W_161 (Or.inl ⟨_, _, _, g1, rfl, rfl⟩) rfl rfl (Nat.le_of_ble_eq_true rfl) (Nat.le_trans (Nat.le_of_ble_eq_true rfl : 1 + 1 ≤ 14) hD) (S_R_thrown hfl (Nat.le_refl _) h25 f2_)) (fun v28 h27 => ?_))
        refine y_iload d_W_law_333 rfl ?_
        refine y_icmp_eq (tgt := 340) d_W_law_335 (by decide) ?_ ?_
        · refine y_iload d_W_law_340 rfl ?_
          refine y_jn (C := fun (j9 : mH → Option (Int32 × mH)) => ∀ (h30 : mH), mY l Θ d M_W_law 357 [some (.ref (mwad Θ 40)), some (.ref f1_), some (.ref f2_), some (.ref f3_), some (.ref f4_), some (.int v5_), none, none, none, none] [] h30 (tR vI) (j9 h30)) (fun h30 => ?_) (fun j29 Hj29 => ?_)
          · refine y_goto (tgt := 2811) d_W_law_357 (by decide) ?_
            exact Hj15 h30
          · refine y_if_ne (tgt := 357) d_W_law_342 (by decide) ?_ ?_
            · exact y_wk (loc2 := [some (.ref (mwad Θ 40)), some (.ref f1_), some (.ref f2_), some (.ref f3_), some (.ref f4_), some (.int v5_), none, none, none, none]) ⟨rfl, ⟨rfl, ⟨rfl, ⟨rfl, ⟨rfl, ⟨rfl, trivial⟩⟩⟩⟩⟩⟩ (Hj29 h27)
            · refine y_aload_n d_W_law_345 rfl ?_
              refine y_iconst (v := (J 0)) d_W_law_346 rfl ?_
              refine y_lald d_W_law_347 (fun v31 => ?_)
              refine y_iload d_W_law_348 rfl ?_
              refine y_i2l (v := ((v26).toInt64)) d_W_law_350 rfl ?_
              refine y_lcmp (v := (lg_cmp v31 ((v26).toInt64))) d_W_law_351 rfl ?_
              refine y_if_eq (tgt := 357) d_W_law_352 (by decide) ?_ ?_
              · exact y_wk (loc2 := [some (.ref (mwad Θ 40)), some (.ref f1_), some (.ref f2_), some (.ref f3_), some (.ref f4_), some (.int v5_), none, none, none, none]) ⟨rfl, ⟨rfl, ⟨rfl, ⟨rfl, ⟨rfl, ⟨rfl, trivial⟩⟩⟩⟩⟩⟩ (Hj29 h27)
              · refine y_iconst (v := (J 0)) d_W_law_355 rfl ?_
                exact y_retI d_W_law_356 rfl (by decide +kernel)
        · refine y_iconst (v := (J 0)) d_W_law_338 rfl ?_
          exact y_retI d_W_law_339 rfl (by decide +kernel)
      refine y_tabIn (tgt := 360) d_W_law_44 hn (by decide +kernel) rfl (by decide) ?_ ?_
      · refine y_aload_n d_W_law_360 rfl ?_
        refine y_aload_n d_W_law_361 rfl ?_
        refine y_iload d_W_law_362 rfl ?_
        refine y_iconst (v := (J 1)) d_W_law_364 rfl ?_
        refine y_iadd (v := (v5_ + (J 1))) d_W_law_365 rfl ?_
        refine y_oldX d_W_law_366 (fun v32 => ?_)
        refine y_aload_n d_W_law_367 rfl ?_
        refine y_cI (c_st (rest := []) d_W_law_368 k_W_removeShip s_W_164 rfl rfl (Nat.le_of_ble_eq_true rfl) (Nat.le_trans (Nat.le_of_ble_eq_true rfl : 9 + 1 ≤ 14) hD) (S_W_removeShip hfl (Nat.le_refl _) h f1_ v32 f3_)) (fun v34 h33 => ?_)
        refine y_istore (loc2 := [some (.ref (mwad Θ 40)), some (.ref f1_), some (.ref f2_), some (.ref f3_), some (.ref f4_), some (.int v5_), some (.int v34), none, none, none]) d_W_law_371 (Nat.le_of_ble_eq_true rfl) rfl rfl ?_
        refine y_aload_n d_W_law_373 rfl ?_
        refine y_aload_n d_W_law_374 rfl ?_
        refine y_iload d_W_law_375 rfl ?_
        refine y_iconst (v := (J 1)) d_W_law_377 rfl ?_
        refine y_iadd (v := (v5_ + (J 1))) d_W_law_378 rfl ?_
        refine y_oldX d_W_law_379 (fun v35 => ?_)
        refine y_gO (fun fs1 g1 => y_cI (c_vi (rest := []) d_W_law_380 k_R_removeShip s_W_167 (Or.inl ⟨_, _, _, g1, rfl, rfl⟩) rfl rfl (Nat.le_of_ble_eq_true rfl) (Nat.le_trans (Nat.le_of_ble_eq_true rfl : 5 + 1 ≤ 14) hD) (S_R_removeShip hfl (Nat.le_refl _) h33 f2_ v35)) (fun v37 h36 => ?_))
        refine y_istore (loc2 := [some (.ref (mwad Θ 40)), some (.ref f1_), some (.ref f2_), some (.ref f3_), some (.ref f4_), some (.int v5_), some (.int v34), some (.int v37), none, none]) d_W_law_383 (Nat.le_of_ble_eq_true rfl) rfl rfl ?_
        refine y_aload_n d_W_law_385 rfl ?_
        refine y_gO (fun fs1 g1 => y_cI (c_vi (rest := []) d_W_law_386 k_R_thrown s_W_161 (Or.inl ⟨_, _, _, g1, rfl, rfl⟩) rfl rfl (Nat.le_of_ble_eq_true rfl) (Nat.le_trans (Nat.le_of_ble_eq_true rfl : 1 + 1 ≤ 14) hD) (S_R_thrown hfl (Nat.le_refl _) h36 f2_)) (fun v39 h38 => ?_))
        refine y_iload d_W_law_389 rfl ?_
        refine y_icmp_eq (tgt := 396) d_W_law_391 (by decide) ?_ ?_
        · refine y_iload d_W_law_396 rfl ?_
          refine y_jn (C := fun (j9 : mH → Option (Int32 × mH)) => ∀ (h41 : mH), mY l Θ d M_W_law 413 [some (.ref (mwad Θ 40)), some (.ref f1_), some (.ref f2_), some (.ref f3_), some (.ref f4_), some (.int v5_), none, none, none, none] [] h41 (tR vI) (j9 h41)) (fun h41 => ?_) (fun j40 Hj40 => ?_)
          · refine y_goto (tgt := 2811) d_W_law_413 (by decide) ?_
            exact Hj15 h41
          · refine y_if_ne (tgt := 413) d_W_law_398 (by decide) ?_ ?_
            · exact y_wk (loc2 := [some (.ref (mwad Θ 40)), some (.ref f1_), some (.ref f2_), some (.ref f3_), some (.ref f4_), some (.int v5_), none, none, none, none]) ⟨rfl, ⟨rfl, ⟨rfl, ⟨rfl, ⟨rfl, ⟨rfl, trivial⟩⟩⟩⟩⟩⟩ (Hj40 h38)
            · refine y_aload_n d_W_law_401 rfl ?_
              refine y_iconst (v := (J 0)) d_W_law_402 rfl ?_
              refine y_lald d_W_law_403 (fun v42 => ?_)
              refine y_iload d_W_law_404 rfl ?_
              refine y_i2l (v := ((v37).toInt64)) d_W_law_406 rfl ?_
              refine y_lcmp (v := (lg_cmp v42 ((v37).toInt64))) d_W_law_407 rfl ?_
              refine y_if_eq (tgt := 413) d_W_law_408 (by decide) ?_ ?_
              · exact y_wk (loc2 := [some (.ref (mwad Θ 40)), some (.ref f1_), some (.ref f2_), some (.ref f3_), some (.ref f4_), some (.int v5_), none, none, none, none]) ⟨rfl, ⟨rfl, ⟨rfl, ⟨rfl, ⟨rfl, ⟨rfl, trivial⟩⟩⟩⟩⟩⟩ (Hj40 h38)
              · refine y_iconst (v := (J 0)) d_W_law_411 rfl ?_
                exact y_retI d_W_law_412 rfl (by decide +kernel)
        · refine y_iconst (v := (J 0)) d_W_law_394 rfl ?_
          exact y_retI d_W_law_395 rfl (by decide +kernel)
      refine y_tabIn (tgt := 416) d_W_law_44 hn (by decide +kernel) rfl (by decide) ?_ ?_
      · refine y_aload_n d_W_law_416 rfl ?_
        refine y_aload_n d_W_law_417 rfl ?_
        refine y_iload d_W_law_418 rfl ?_
        refine y_iconst (v := (J 1)) d_W_law_420 rfl ?_
        refine y_iadd (v := (v5_ + (J 1))) d_W_law_421 rfl ?_
        refine y_oldX d_W_law_422 (fun v43 => ?_)
        refine y_aload_n d_W_law_423 rfl ?_
        refine y_iload d_W_law_424 rfl ?_
        refine y_iconst (v := (J 2)) d_W_law_426 rfl ?_
        refine y_iadd (v := (v5_ + (J 2))) d_W_law_427 rfl ?_
        refine y_oldX d_W_law_428 (fun v44 => ?_)
        refine y_aload_n d_W_law_429 rfl ?_
        refine y_cI (c_st (rest := []) d_W_law_430 k_W_enter s_W_168 rfl rfl (Nat.le_of_ble_eq_true rfl) (Nat.le_trans (Nat.le_of_ble_eq_true rfl : 10 + 1 ≤ 14) hD) (S_W_enter hfl (Nat.le_refl _) h f1_ v43 v44 f3_)) (fun v46 h45 => ?_)
        refine y_istore (loc2 := [some (.ref (mwad Θ 40)), some (.ref f1_), some (.ref f2_), some (.ref f3_), some (.ref f4_), some (.int v5_), some (.int v46), none, none, none]) d_W_law_433 (Nat.le_of_ble_eq_true rfl) rfl rfl ?_
        refine y_aload_n d_W_law_435 rfl ?_
        refine y_aload_n d_W_law_436 rfl ?_
        refine y_iload d_W_law_437 rfl ?_
        refine y_iconst (v := (J 1)) d_W_law_439 rfl ?_
        refine y_iadd (v := (v5_ + (J 1))) d_W_law_440 rfl ?_
        refine y_oldX d_W_law_441 (fun v47 => ?_)
        refine y_aload_n d_W_law_442 rfl ?_
        refine y_iload d_W_law_443 rfl ?_
        refine y_iconst (v := (J 2)) d_W_law_445 rfl ?_
        refine y_iadd (v := (v5_ + (J 2))) d_W_law_446 rfl ?_
        refine y_oldX d_W_law_447 (fun v48 => ?_)
        refine y_gO (fun fs1 g1 => y_cI (c_vi (rest := []) d_W_law_448 k_R_enter s_W_171 (Or.inl ⟨_, _, _, g1, rfl, rfl⟩) rfl rfl (Nat.le_of_ble_eq_true rfl) (Nat.le_trans (Nat.le_of_ble_eq_true rfl : 7 + 1 ≤ 14) hD) (S_R_enter hfl (Nat.le_refl _) h45 f2_ v47 v48)) (fun v50 h49 => ?_))
        refine y_istore (loc2 := [some (.ref (mwad Θ 40)), some (.ref f1_), some (.ref f2_), some (.ref f3_), some (.ref f4_), some (.int v5_), some (.int v46), some (.int v50), none, none]) d_W_law_451 (Nat.le_of_ble_eq_true rfl) rfl rfl ?_
        refine y_aload_n d_W_law_453 rfl ?_
        refine y_gO (fun fs1 g1 => y_cI (c_vi (rest := []) d_W_law_454 k_R_thrown s_W_161 (Or.inl ⟨_, _, _, g1, rfl, rfl⟩) rfl rfl (Nat.le_of_ble_eq_true rfl) (Nat.le_trans (Nat.le_of_ble_eq_true rfl : 1 + 1 ≤ 14) hD) (S_R_thrown hfl (Nat.le_refl _) h49 f2_)) (fun v52 h51 => ?_))
        refine y_iload d_W_law_457 rfl ?_
        refine y_icmp_eq (tgt := 464) d_W_law_459 (by decide) ?_ ?_
        · refine y_iload d_W_law_464 rfl ?_
          refine y_jn (C := fun (j9 : mH → Option (Int32 × mH)) => ∀ (h54 : mH), mY l Θ d M_W_law 481 [some (.ref (mwad Θ 40)), some (.ref f1_), some (.ref f2_), some (.ref f3_), some (.ref f4_), some (.int v5_), none, none, none, none] [] h54 (tR vI) (j9 h54)) (fun h54 => ?_) (fun j53 Hj53 => ?_)
          · refine y_goto (tgt := 2811) d_W_law_481 (by decide) ?_
            exact Hj15 h54
          · refine y_if_ne (tgt := 481) d_W_law_466 (by decide) ?_ ?_
            · exact y_wk (loc2 := [some (.ref (mwad Θ 40)), some (.ref f1_), some (.ref f2_), some (.ref f3_), some (.ref f4_), some (.int v5_), none, none, none, none]) ⟨rfl, ⟨rfl, ⟨rfl, ⟨rfl, ⟨rfl, ⟨rfl, trivial⟩⟩⟩⟩⟩⟩ (Hj53 h51)
            · refine y_aload_n d_W_law_469 rfl ?_
              refine y_iconst (v := (J 0)) d_W_law_470 rfl ?_
              refine y_lald d_W_law_471 (fun v55 => ?_)
              refine y_iload d_W_law_472 rfl ?_
              refine y_i2l (v := ((v50).toInt64)) d_W_law_474 rfl ?_
              refine y_lcmp (v := (lg_cmp v55 ((v50).toInt64))) d_W_law_475 rfl ?_
              refine y_if_eq (tgt := 481) d_W_law_476 (by decide) ?_ ?_
              · exact y_wk (loc2 := [some (.ref (mwad Θ 40)), some (.ref f1_), some (.ref f2_), some (.ref f3_), some (.ref f4_), some (.int v5_), none, none, none, none]) ⟨rfl, ⟨rfl, ⟨rfl, ⟨rfl, ⟨rfl, ⟨rfl, trivial⟩⟩⟩⟩⟩⟩ (Hj53 h51)
              · refine y_iconst (v := (J 0)) d_W_law_479 rfl ?_
                exact y_retI d_W_law_480 rfl (by decide +kernel)
        · refine y_iconst (v := (J 0)) d_W_law_462 rfl ?_
          exact y_retI d_W_law_463 rfl (by decide +kernel)
      refine y_tabIn (tgt := 484) d_W_law_44 hn (by decide +kernel) rfl (by decide) ?_ ?_
      · refine y_aload_n d_W_law_484 rfl ?_
        refine y_aload_n d_W_law_485 rfl ?_
        refine y_iload d_W_law_486 rfl ?_
        refine y_iconst (v := (J 1)) d_W_law_488 rfl ?_
        refine y_iadd (v := (v5_ + (J 1))) d_W_law_489 rfl ?_
        refine y_oldX d_W_law_490 (fun v56 => ?_)
        refine y_aload_n d_W_law_491 rfl ?_
        refine y_cI (c_st (rest := []) d_W_law_492 k_W_leave s_W_172 rfl rfl (Nat.le_of_ble_eq_true rfl) (Nat.le_trans (Nat.le_of_ble_eq_true rfl : 11 + 1 ≤ 14) hD) (S_W_leave hfl (Nat.le_refl _) h f1_ v56 f3_)) (fun v58 h57 => ?_)
        refine y_istore (loc2 := [some (.ref (mwad Θ 40)), some (.ref f1_), some (.ref f2_), some (.ref f3_), some (.ref f4_), some (.int v5_), some (.int v58), none, none, none]) d_W_law_495 (Nat.le_of_ble_eq_true rfl) rfl rfl ?_
        refine y_aload_n d_W_law_497 rfl ?_
        refine y_aload_n d_W_law_498 rfl ?_
        refine y_iload d_W_law_499 rfl ?_
        refine y_iconst (v := (J 1)) d_W_law_501 rfl ?_
        refine y_iadd (v := (v5_ + (J 1))) d_W_law_502 rfl ?_
        refine y_oldX d_W_law_503 (fun v59 => ?_)
        refine y_gO (fun fs1 g1 => y_cI (c_vi (rest := []) d_W_law_504 k_R_leave s_W_174 (Or.inl ⟨_, _, _, g1, rfl, rfl⟩) rfl rfl (Nat.le_of_ble_eq_true rfl) (Nat.le_trans (Nat.le_of_ble_eq_true rfl : 6 + 1 ≤ 14) hD) (S_R_leave hfl (Nat.le_refl _) h57 f2_ v59)) (fun v61 h60 => ?_))
        refine y_istore (loc2 := [some (.ref (mwad Θ 40)), some (.ref f1_), some (.ref f2_), some (.ref f3_), some (.ref f4_), some (.int v5_), some (.int v58), some (.int v61), none, none]) d_W_law_507 (Nat.le_of_ble_eq_true rfl) rfl rfl ?_
        refine y_aload_n d_W_law_509 rfl ?_
        refine y_gO (fun fs1 g1 => y_cI (c_vi (rest := []) d_W_law_510 k_R_thrown s_W_161 (Or.inl ⟨_, _, _, g1, rfl, rfl⟩) rfl rfl (Nat.le_of_ble_eq_true rfl) (Nat.le_trans (Nat.le_of_ble_eq_true rfl : 1 + 1 ≤ 14) hD) (S_R_thrown hfl (Nat.le_refl _) h60 f2_)) (fun v63 h62 => ?_))
        refine y_iload d_W_law_513 rfl ?_
        refine y_icmp_eq (tgt := 520) d_W_law_515 (by decide) ?_ ?_
        · refine y_iload d_W_law_520 rfl ?_
          refine y_jn (C := fun (j9 : mH → Option (Int32 × mH)) => ∀ (h65 : mH), mY l Θ d M_W_law 537 [some (.ref (mwad Θ 40)), some (.ref f1_), some (.ref f2_), some (.ref f3_), some (.ref f4_), some (.int v5_), none, none, none, none] [] h65 (tR vI) (j9 h65)) (fun h65 => ?_) (fun j64 Hj64 => ?_)
          · refine y_goto (tgt := 2811) d_W_law_537 (by decide) ?_
            exact Hj15 h65
          · refine y_if_ne (tgt := 537) d_W_law_522 (by decide) ?_ ?_
            · exact y_wk (loc2 := [some (.ref (mwad Θ 40)), some (.ref f1_), some (.ref f2_), some (.ref f3_), some (.ref f4_), some (.int v5_), none, none, none, none]) ⟨rfl, ⟨rfl, ⟨rfl, ⟨rfl, ⟨rfl, ⟨rfl, trivial⟩⟩⟩⟩⟩⟩ (Hj64 h62)
            · refine y_aload_n d_W_law_525 rfl ?_
              refine y_iconst (v := (J 0)) d_W_law_526 rfl ?_
              refine y_lald d_W_law_527 (fun v66 => ?_)
              refine y_iload d_W_law_528 rfl ?_
              refine y_i2l (v := ((v61).toInt64)) d_W_law_530 rfl ?_
              refine y_lcmp (v := (lg_cmp v66 ((v61).toInt64))) d_W_law_531 rfl ?_
              refine y_if_eq (tgt := 537) d_W_law_532 (by decide) ?_ ?_
              · exact y_wk (loc2 := [some (.ref (mwad Θ 40)), some (.ref f1_), some (.ref f2_), some (.ref f3_), some (.ref f4_), some (.int v5_), none, none, none, none]) ⟨rfl, ⟨rfl, ⟨rfl, ⟨rfl, ⟨rfl, ⟨rfl, trivial⟩⟩⟩⟩⟩⟩ (Hj64 h62)
              · refine y_iconst (v := (J 0)) d_W_law_535 rfl ?_
                exact y_retI d_W_law_536 rfl (by decide +kernel)
        · refine y_iconst (v := (J 0)) d_W_law_518 rfl ?_
          exact y_retI d_W_law_519 rfl (by decide +kernel)
      refine y_tabIn (tgt := 540) d_W_law_44 hn (by decide +kernel) rfl (by decide) ?_ ?_
      · refine y_aload_n d_W_law_540 rfl ?_
        refine y_aload_n d_W_law_541 rfl ?_
        refine y_iload d_W_law_542 rfl ?_
        refine y_iconst (v := (J 1)) d_W_law_544 rfl ?_
        refine y_iadd (v := (v5_ + (J 1))) d_W_law_545 rfl ?_
        refine y_oldX d_W_law_546 (fun v67 => ?_)
        refine y_aload_n d_W_law_547 rfl ?_
        refine y_iload d_W_law_548 rfl ?_
        refine y_iconst (v := (J 2)) d_W_law_550 rfl ?_
        refine y_iadd (v := (v5_ + (J 2))) d_W_law_551 rfl ?_
        refine y_oldX d_W_law_552 (fun v68 => ?_)
        refine y_jn (C := fun (j9 : mH → Int32 → Option (Int32 × mH)) => ∀ (h70 : mH) (s71 : Int32), mY l Θ d M_W_law 561 [some (.ref (mwad Θ 40)), some (.ref f1_), some (.ref f2_), some (.ref f3_), some (.ref f4_), some (.int v5_), none, none, none, none] [.int s71, .int v67, .ref f1_] h70 (tR vI) (j9 h70 s71)) (fun h70 s71 => ?_) (fun j69 Hj69 => ?_)
        · refine y_aload_n d_W_law_561 rfl ?_
          refine y_cI (c_st (rest := []) d_W_law_562 k_W_setCleaning s_W_175 rfl rfl (Nat.le_of_ble_eq_true rfl) (Nat.le_trans (Nat.le_of_ble_eq_true rfl : 10 + 1 ≤ 14) hD) (S_W_setCleaning hfl (Nat.le_refl _) h70 f1_ v67 s71 f3_)) (fun v73 h72 => ?_)
          refine y_istore (loc2 := [some (.ref (mwad Θ 40)), some (.ref f1_), some (.ref f2_), some (.ref f3_), some (.ref f4_), some (.int v5_), some (.int v73), none, none, none]) d_W_law_565 (Nat.le_of_ble_eq_true rfl) rfl rfl ?_
          refine y_aload_n d_W_law_567 rfl ?_
          refine y_aload_n d_W_law_568 rfl ?_
          refine y_iload d_W_law_569 rfl ?_
          refine y_iconst (v := (J 1)) d_W_law_571 rfl ?_
          refine y_iadd (v := (v5_ + (J 1))) d_W_law_572 rfl ?_
          refine y_oldX d_W_law_573 (fun v74 => ?_)
          refine y_aload_n d_W_law_574 rfl ?_
          refine y_iload d_W_law_575 rfl ?_
          refine y_iconst (v := (J 2)) d_W_law_577 rfl ?_
          refine y_iadd (v := (v5_ + (J 2))) d_W_law_578 rfl ?_
          refine y_oldX d_W_law_579 (fun v75 => ?_)
          refine y_jn (C := fun (j9 : mH → Int32 → Option (Int32 × mH)) => ∀ (h77 : mH) (s78 : Int32), mY l Θ d M_W_law 588 [some (.ref (mwad Θ 40)), some (.ref f1_), some (.ref f2_), some (.ref f3_), some (.ref f4_), some (.int v5_), some (.int v73), none, none, none] [.int s78, .int v74, .ref f2_] h77 (tR vI) (j9 h77 s78)) (fun h77 s78 => ?_) (fun j76 Hj76 => ?_)
          · refine y_gO (fun fs1 g1 => y_cI (c_vi (rest := []) d_W_law_588 k_R_setCleaning s_W_178 (Or.inl ⟨_, _, _, g1, rfl, rfl⟩) rfl rfl (Nat.le_of_ble_eq_true rfl) (Nat.le_trans (Nat.le_of_ble_eq_true rfl : 5 + 1 ≤ 14) hD) (S_R_setCleaning hfl (Nat.le_refl _) h77 f2_ v74 s78)) (fun v80 h79 => ?_))
            refine y_istore (loc2 := [some (.ref (mwad Θ 40)), some (.ref f1_), some (.ref f2_), some (.ref f3_), some (.ref f4_), some (.int v5_), some (.int v73), some (.int v80), none, none]) d_W_law_591 (Nat.le_of_ble_eq_true rfl) rfl rfl ?_
            refine y_aload_n d_W_law_593 rfl ?_
            refine y_gO (fun fs1 g1 => y_cI (c_vi (rest := []) d_W_law_594 k_R_thrown s_W_161 (Or.inl ⟨_, _, _, g1, rfl, rfl⟩) rfl rfl (Nat.le_of_ble_eq_true rfl) (Nat.le_trans (Nat.le_of_ble_eq_true rfl : 1 + 1 ≤ 14) hD) (S_R_thrown hfl (Nat.le_refl _) h79 f2_)) (fun v82 h81 => ?_))
            refine y_iload d_W_law_597 rfl ?_
            refine y_icmp_eq (tgt := 604) d_W_law_599 (by decide) ?_ ?_
            · refine y_iload d_W_law_604 rfl ?_
              refine y_jn (C := fun (j9 : mH → Option (Int32 × mH)) => ∀ (h84 : mH), mY l Θ d M_W_law 628 [some (.ref (mwad Θ 40)), some (.ref f1_), some (.ref f2_), some (.ref f3_), some (.ref f4_), some (.int v5_), none, none, none, none] [] h84 (tR vI) (j9 h84)) (fun h84 => ?_) (fun j83 Hj83 => ?_)
              · refine y_goto (tgt := 2811) d_W_law_628 (by decide) ?_
                exact Hj15 h84
              · refine y_if_ne (tgt := 628) d_W_law_606 (by decide) ?_ ?_
                · exact y_wk (loc2 := [some (.ref (mwad Θ 40)), some (.ref f1_), some (.ref f2_), some (.ref f3_), some (.ref f4_), some (.int v5_), none, none, none, none]) ⟨rfl, ⟨rfl, ⟨rfl, ⟨rfl, ⟨rfl, ⟨rfl, trivial⟩⟩⟩⟩⟩⟩ (Hj83 h81)
                · refine y_aload_n d_W_law_609 rfl ?_
                  refine y_iconst (v := (J 0)) d_W_law_610 rfl ?_
                  refine y_lald d_W_law_611 (fun v85 => ?_)
                  refine y_iload d_W_law_612 rfl ?_
                  refine y_jn (C := fun (j9 : mH → Int64 → Option (Int32 × mH)) => ∀ (h87 : mH) (s88 : Int64), mY l Θ d M_W_law 622 [some (.ref (mwad Θ 40)), some (.ref f1_), some (.ref f2_), some (.ref f3_), some (.ref f4_), some (.int v5_), none, none, none, none] [.long s88, .long v85] h87 (tR vI) (j9 h87 s88)) (fun h87 s88 => ?_) (fun j86 Hj86 => ?_)
                  · refine y_lcmp (v := (lg_cmp v85 s88)) d_W_law_622 rfl ?_
                    refine y_if_eq (tgt := 628) d_W_law_623 (by decide) ?_ ?_
                    · exact Hj83 h87
                    · refine y_iconst (v := (J 0)) d_W_law_626 rfl ?_
                      exact y_retI d_W_law_627 rfl (by decide +kernel)
                  · refine y_if_eq (tgt := 621) d_W_law_614 (by decide) ?_ ?_
                    · refine y_lconst (v := (0 : Int64)) d_W_law_621 (by decide) ?_
                      exact y_wk (loc2 := [some (.ref (mwad Θ 40)), some (.ref f1_), some (.ref f2_), some (.ref f3_), some (.ref f4_), some (.int v5_), none, none, none, none]) ⟨rfl, ⟨rfl, ⟨rfl, ⟨rfl, ⟨rfl, ⟨rfl, trivial⟩⟩⟩⟩⟩⟩ (Hj86 h81 (0 : Int64))
                    · refine y_lconst (v := (1 : Int64)) d_W_law_617 (by decide) ?_
                      refine y_goto (tgt := 622) d_W_law_618 (by decide) ?_
                      exact y_wk (loc2 := [some (.ref (mwad Θ 40)), some (.ref f1_), some (.ref f2_), some (.ref f3_), some (.ref f4_), some (.int v5_), none, none, none, none]) ⟨rfl, ⟨rfl, ⟨rfl, ⟨rfl, ⟨rfl, ⟨rfl, trivial⟩⟩⟩⟩⟩⟩ (Hj86 h81 (1 : Int64))
            · refine y_iconst (v := (J 0)) d_W_law_602 rfl ?_
              exact y_retI d_W_law_603 rfl (by decide +kernel)
          · refine y_if_eq (tgt := 587) d_W_law_580 (by decide) ?_ ?_
            · refine y_iconst (v := (J 0)) d_W_law_587 rfl ?_
              exact Hj76 h72 (J 0)
            · refine y_iconst (v := (J 1)) d_W_law_583 rfl ?_
              refine y_goto (tgt := 588) d_W_law_584 (by decide) ?_
              exact Hj76 h72 (J 1)
        · refine y_if_eq (tgt := 560) d_W_law_553 (by decide) ?_ ?_
          · refine y_iconst (v := (J 0)) d_W_law_560 rfl ?_
            exact Hj69 h (J 0)
          · refine y_iconst (v := (J 1)) d_W_law_556 rfl ?_
            refine y_goto (tgt := 561) d_W_law_557 (by decide) ?_
            exact Hj69 h (J 1)
      refine y_tabIn (tgt := 631) d_W_law_44 hn (by decide +kernel) rfl (by decide) ?_ ?_
      · refine y_aload_n d_W_law_631 rfl ?_
        refine y_gO (fun fs1 g1 => y_cI (c_vi (rest := []) d_W_law_632 k_F_shipCount s_W_179 (Or.inl ⟨_, _, _, g1, rfl, rfl⟩) rfl rfl (Nat.le_of_ble_eq_true rfl) (Nat.le_trans (Nat.le_of_ble_eq_true rfl : 1 + 1 ≤ 14) hD) (S_F_shipCount hfl (Nat.le_refl _) h f1_)) (fun v90 h89 => ?_))
        refine y_aload_n d_W_law_635 rfl ?_
        refine y_gO (fun fs1 g1 => y_cI (c_vi (rest := [.int v90]) d_W_law_636 k_R_shipCount s_W_182 (Or.inl ⟨_, _, _, g1, rfl, rfl⟩) rfl rfl (Nat.le_of_ble_eq_true rfl) (Nat.le_trans (Nat.le_of_ble_eq_true rfl : 1 + 1 ≤ 14) hD) (S_R_shipCount hfl (Nat.le_refl _) h89 f2_)) (fun v92 h91 => ?_))
        refine y_icmp_eq (tgt := 2811) d_W_law_639 (by decide) ?_ ?_
        · exact Hj15 h91
        · refine y_iconst (v := (J 0)) d_W_law_642 rfl ?_
          exact y_retI d_W_law_643 rfl (by decide +kernel)
      refine y_tabIn (tgt := 644) d_W_law_44 hn (by decide +kernel) rfl (by decide) ?_ ?_
      · refine y_aload_n d_W_law_644 rfl ?_
        refine y_aload_n d_W_law_645 rfl ?_
        refine y_iload d_W_law_646 rfl ?_
        refine y_iconst (v := (J 1)) d_W_law_648 rfl ?_
        refine y_iadd (v := (v5_ + (J 1))) d_W_law_649 rfl ?_
        refine y_oldX d_W_law_650 (fun v93 => ?_)
        refine y_aload_n d_W_law_651 rfl ?_
        refine y_cI (c_st (rest := []) d_W_law_652 k_W_shipAt s_W_183 rfl rfl (Nat.le_of_ble_eq_true rfl) (Nat.le_trans (Nat.le_of_ble_eq_true rfl : 7 + 1 ≤ 14) hD) (S_W_shipAt hfl (Nat.le_refl _) h f1_ v93 f3_)) (fun v95 h94 => ?_)
        refine y_istore (loc2 := [some (.ref (mwad Θ 40)), some (.ref f1_), some (.ref f2_), some (.ref f3_), some (.ref f4_), some (.int v5_), some (.int v95), none, none, none]) d_W_law_655 (Nat.le_of_ble_eq_true rfl) rfl rfl ?_
        refine y_aload_n d_W_law_657 rfl ?_
        refine y_aload_n d_W_law_658 rfl ?_
        refine y_iload d_W_law_659 rfl ?_
        refine y_iconst (v := (J 1)) d_W_law_661 rfl ?_
        refine y_iadd (v := (v5_ + (J 1))) d_W_law_662 rfl ?_
        refine y_oldX d_W_law_663 (fun v96 => ?_)
        refine y_gO (fun fs1 g1 => y_cI (c_vi (rest := []) d_W_law_664 k_R_shipAt s_W_185 (Or.inl ⟨_, _, _, g1, rfl, rfl⟩) rfl rfl (Nat.le_of_ble_eq_true rfl) (Nat.le_trans (Nat.le_of_ble_eq_true rfl : 3 + 1 ≤ 14) hD) (S_R_shipAt hfl (Nat.le_refl _) h94 f2_ v96)) (fun v98 h97 => ?_))
        refine y_istore (loc2 := [some (.ref (mwad Θ 40)), some (.ref f1_), some (.ref f2_), some (.ref f3_), some (.ref f4_), some (.int v5_), some (.int v95), some (.int v98), none, none]) d_W_law_667 (Nat.le_of_ble_eq_true rfl) rfl rfl ?_
        refine y_aload_n d_W_law_669 rfl ?_
        refine y_gO (fun fs1 g1 => y_cI (c_vi (rest := []) d_W_law_670 k_R_thrown s_W_161 (Or.inl ⟨_, _, _, g1, rfl, rfl⟩) rfl rfl (Nat.le_of_ble_eq_true rfl) (Nat.le_trans (Nat.le_of_ble_eq_true rfl : 1 + 1 ≤ 14) hD) (S_R_thrown hfl (Nat.le_refl _) h97 f2_)) (fun v100 h99 => ?_))
        refine y_iload d_W_law_673 rfl ?_
        refine y_icmp_eq (tgt := 680) d_W_law_675 (by decide) ?_ ?_
        · refine y_iload d_W_law_680 rfl ?_
          refine y_jn (C := fun (j9 : mH → Option (Int32 × mH)) => ∀ (h102 : mH), mY l Θ d M_W_law 697 [some (.ref (mwad Θ 40)), some (.ref f1_), some (.ref f2_), some (.ref f3_), some (.ref f4_), some (.int v5_), none, none, none, none] [] h102 (tR vI) (j9 h102)) (fun h102 => ?_) (fun j101 Hj101 => ?_)
          · refine y_goto (tgt := 2811) d_W_law_697 (by decide) ?_
            exact Hj15 h102
          · refine y_if_ne (tgt := 697) d_W_law_682 (by decide) ?_ ?_
            · exact y_wk (loc2 := [some (.ref (mwad Θ 40)), some (.ref f1_), some (.ref f2_), some (.ref f3_), some (.ref f4_), some (.int v5_), none, none, none, none]) ⟨rfl, ⟨rfl, ⟨rfl, ⟨rfl, ⟨rfl, ⟨rfl, trivial⟩⟩⟩⟩⟩⟩ (Hj101 h99)
            · refine y_aload_n d_W_law_685 rfl ?_
              refine y_iconst (v := (J 0)) d_W_law_686 rfl ?_
              refine y_lald d_W_law_687 (fun v103 => ?_)
              refine y_iload d_W_law_688 rfl ?_
              refine y_i2l (v := ((v98).toInt64)) d_W_law_690 rfl ?_
              refine y_lcmp (v := (lg_cmp v103 ((v98).toInt64))) d_W_law_691 rfl ?_
              refine y_if_eq (tgt := 697) d_W_law_692 (by decide) ?_ ?_
              · exact y_wk (loc2 := [some (.ref (mwad Θ 40)), some (.ref f1_), some (.ref f2_), some (.ref f3_), some (.ref f4_), some (.int v5_), none, none, none, none]) ⟨rfl, ⟨rfl, ⟨rfl, ⟨rfl, ⟨rfl, ⟨rfl, trivial⟩⟩⟩⟩⟩⟩ (Hj101 h99)
              · refine y_iconst (v := (J 0)) d_W_law_695 rfl ?_
                exact y_retI d_W_law_696 rfl (by decide +kernel)
        · refine y_iconst (v := (J 0)) d_W_law_678 rfl ?_
          exact y_retI d_W_law_679 rfl (by decide +kernel)
      refine y_tabIn (tgt := 700) d_W_law_44 hn (by decide +kernel) rfl (by decide) ?_ ?_
      · refine y_aload_n d_W_law_700 rfl ?_
        refine y_aload_n d_W_law_701 rfl ?_
        refine y_iload d_W_law_702 rfl ?_
        refine y_iconst (v := (J 1)) d_W_law_704 rfl ?_
        refine y_iadd (v := (v5_ + (J 1))) d_W_law_705 rfl ?_
        refine y_oldX d_W_law_706 (fun v104 => ?_)
        refine y_aload_n d_W_law_707 rfl ?_
        refine y_cI (c_st (rest := []) d_W_law_708 k_W_isInDock s_W_186 rfl rfl (Nat.le_of_ble_eq_true rfl) (Nat.le_trans (Nat.le_of_ble_eq_true rfl : 8 + 1 ≤ 14) hD) (S_W_isInDock hfl (Nat.le_refl _) h f1_ v104 f3_)) (fun v106 h105 => ?_)
        refine y_istore (loc2 := [some (.ref (mwad Θ 40)), some (.ref f1_), some (.ref f2_), some (.ref f3_), some (.ref f4_), some (.int v5_), some (.int v106), none, none, none]) d_W_law_711 (Nat.le_of_ble_eq_true rfl) rfl rfl ?_
        refine y_aload_n d_W_law_713 rfl ?_
        refine y_aload_n d_W_law_714 rfl ?_
        refine y_iload d_W_law_715 rfl ?_
        refine y_iconst (v := (J 1)) d_W_law_717 rfl ?_
        refine y_iadd (v := (v5_ + (J 1))) d_W_law_718 rfl ?_
        refine y_oldX d_W_law_719 (fun v107 => ?_)
        refine y_gO (fun fs1 g1 => y_cI (c_vi (rest := []) d_W_law_720 k_R_isInDock s_W_188 (Or.inl ⟨_, _, _, g1, rfl, rfl⟩) rfl rfl (Nat.le_of_ble_eq_true rfl) (Nat.le_trans (Nat.le_of_ble_eq_true rfl : 5 + 1 ≤ 14) hD) (S_R_isInDock hfl (Nat.le_refl _) h105 f2_ v107)) (fun v109 h108 => ?_))
        refine y_istore (loc2 := [some (.ref (mwad Θ 40)), some (.ref f1_), some (.ref f2_), some (.ref f3_), some (.ref f4_), some (.int v5_), some (.int v106), some (.int v109), none, none]) d_W_law_723 (Nat.le_of_ble_eq_true rfl) rfl rfl ?_
        refine y_aload_n d_W_law_725 rfl ?_
        refine y_gO (fun fs1 g1 => y_cI (c_vi (rest := []) d_W_law_726 k_R_thrown s_W_161 (Or.inl ⟨_, _, _, g1, rfl, rfl⟩) rfl rfl (Nat.le_of_ble_eq_true rfl) (Nat.le_trans (Nat.le_of_ble_eq_true rfl : 1 + 1 ≤ 14) hD) (S_R_thrown hfl (Nat.le_refl _) h108 f2_)) (fun v111 h110 => ?_))
        refine y_iload d_W_law_729 rfl ?_
        refine y_icmp_eq (tgt := 736) d_W_law_731 (by decide) ?_ ?_
        · refine y_iload d_W_law_736 rfl ?_
          refine y_jn (C := fun (j9 : mH → Option (Int32 × mH)) => ∀ (h113 : mH), mY l Θ d M_W_law 760 [some (.ref (mwad Θ 40)), some (.ref f1_), some (.ref f2_), some (.ref f3_), some (.ref f4_), some (.int v5_), none, none, none, none] [] h113 (tR vI) (j9 h113)) (fun h113 => ?_) (fun j112 Hj112 => ?_)
          · refine y_goto (tgt := 2811) d_W_law_760 (by decide) ?_
            exact Hj15 h113
          · refine y_if_ne (tgt := 760) d_W_law_738 (by decide) ?_ ?_
            · exact y_wk (loc2 := [some (.ref (mwad Θ 40)), some (.ref f1_), some (.ref f2_), some (.ref f3_), some (.ref f4_), some (.int v5_), none, none, none, none]) ⟨rfl, ⟨rfl, ⟨rfl, ⟨rfl, ⟨rfl, ⟨rfl, trivial⟩⟩⟩⟩⟩⟩ (Hj112 h110)
            · refine y_aload_n d_W_law_741 rfl ?_
              refine y_iconst (v := (J 0)) d_W_law_742 rfl ?_
              refine y_lald d_W_law_743 (fun v114 => ?_)
              refine y_iload d_W_law_744 rfl ?_
              refine y_jn (C := fun (j9 : mH → Int64 → Option (Int32 × mH)) => ∀ (h116 : mH) (s117 : Int64), mY l Θ d M_W_law 754 [some (.ref (mwad Θ 40)), some (.ref f1_), some (.ref f2_), some (.ref f3_), some (.ref f4_), some (.int v5_), none, none, none, none] [.long s117, .long v114] h116 (tR vI) (j9 h116 s117)) (fun h116 s117 => ?_) (fun j115 Hj115 => ?_)
              · refine y_lcmp (v := (lg_cmp v114 s117)) d_W_law_754 rfl ?_
                refine y_if_eq (tgt := 760) d_W_law_755 (by decide) ?_ ?_
                · exact Hj112 h116
                · refine y_iconst (v := (J 0)) d_W_law_758 rfl ?_
                  exact y_retI d_W_law_759 rfl (by decide +kernel)
              · refine y_if_eq (tgt := 753) d_W_law_746 (by decide) ?_ ?_
                · refine y_lconst (v := (0 : Int64)) d_W_law_753 (by decide) ?_
                  exact y_wk (loc2 := [some (.ref (mwad Θ 40)), some (.ref f1_), some (.ref f2_), some (.ref f3_), some (.ref f4_), some (.int v5_), none, none, none, none]) ⟨rfl, ⟨rfl, ⟨rfl, ⟨rfl, ⟨rfl, ⟨rfl, trivial⟩⟩⟩⟩⟩⟩ (Hj115 h110 (0 : Int64))
                · refine y_lconst (v := (1 : Int64)) d_W_law_749 (by decide) ?_
                  refine y_goto (tgt := 754) d_W_law_750 (by decide) ?_
                  exact y_wk (loc2 := [some (.ref (mwad Θ 40)), some (.ref f1_), some (.ref f2_), some (.ref f3_), some (.ref f4_), some (.int v5_), none, none, none, none]) ⟨rfl, ⟨rfl, ⟨rfl, ⟨rfl, ⟨rfl, ⟨rfl, trivial⟩⟩⟩⟩⟩⟩ (Hj115 h110 (1 : Int64))
        · refine y_iconst (v := (J 0)) d_W_law_734 rfl ?_
          exact y_retI d_W_law_735 rfl (by decide +kernel)
      refine y_tabIn (tgt := 763) d_W_law_44 hn (by decide +kernel) rfl (by decide) ?_ ?_
      · refine y_aload_n d_W_law_763 rfl ?_
        refine y_aload_n d_W_law_764 rfl ?_
        refine y_iload d_W_law_765 rfl ?_
        refine y_iconst (v := (J 1)) d_W_law_767 rfl ?_
        refine y_iadd (v := (v5_ + (J 1))) d_W_law_768 rfl ?_
        refine y_oldX d_W_law_769 (fun v118 => ?_)
        refine y_aload_n d_W_law_770 rfl ?_
        refine y_cI (c_st (rest := []) d_W_law_771 k_W_positionOf s_W_189 rfl rfl (Nat.le_of_ble_eq_true rfl) (Nat.le_trans (Nat.le_of_ble_eq_true rfl : 9 + 1 ≤ 14) hD) (S_W_positionOf hfl (Nat.le_refl _) h f1_ v118 f3_)) (fun v120 h119 => ?_)
        refine y_istore (loc2 := [some (.ref (mwad Θ 40)), some (.ref f1_), some (.ref f2_), some (.ref f3_), some (.ref f4_), some (.int v5_), some (.int v120), none, none, none]) d_W_law_774 (Nat.le_of_ble_eq_true rfl) rfl rfl ?_
        refine y_aload_n d_W_law_776 rfl ?_
        refine y_aload_n d_W_law_777 rfl ?_
        refine y_iload d_W_law_778 rfl ?_
        refine y_iconst (v := (J 1)) d_W_law_780 rfl ?_
        refine y_iadd (v := (v5_ + (J 1))) d_W_law_781 rfl ?_
        refine y_oldX d_W_law_782 (fun v121 => ?_)
        refine y_gO (fun fs1 g1 => y_cI (c_vi (rest := []) d_W_law_783 k_R_positionOf s_W_191 (Or.inl ⟨_, _, _, g1, rfl, rfl⟩) rfl rfl (Nat.le_of_ble_eq_true rfl) (Nat.le_trans (Nat.le_of_ble_eq_true rfl : 4 + 1 ≤ 14) hD) (S_R_positionOf hfl (Nat.le_refl _) h119 f2_ v121)) (fun v123 h122 => ?_))
        refine y_istore (loc2 := [some (.ref (mwad Θ 40)), some (.ref f1_), some (.ref f2_), some (.ref f3_), some (.ref f4_), some (.int v5_), some (.int v120), some (.int v123), none, none]) d_W_law_786 (Nat.le_of_ble_eq_true rfl) rfl rfl ?_
        refine y_aload_n d_W_law_788 rfl ?_
        refine y_gO (fun fs1 g1 => y_cI (c_vi (rest := []) d_W_law_789 k_R_thrown s_W_161 (Or.inl ⟨_, _, _, g1, rfl, rfl⟩) rfl rfl (Nat.le_of_ble_eq_true rfl) (Nat.le_trans (Nat.le_of_ble_eq_true rfl : 1 + 1 ≤ 14) hD) (S_R_thrown hfl (Nat.le_refl _) h122 f2_)) (fun v125 h124 => ?_))
        refine y_iload d_W_law_792 rfl ?_
        refine y_icmp_eq (tgt := 799) d_W_law_794 (by decide) ?_ ?_
        · refine y_iload d_W_law_799 rfl ?_
          refine y_jn (C := fun (j9 : mH → Option (Int32 × mH)) => ∀ (h127 : mH), mY l Θ d M_W_law 816 [some (.ref (mwad Θ 40)), some (.ref f1_), some (.ref f2_), some (.ref f3_), some (.ref f4_), some (.int v5_), none, none, none, none] [] h127 (tR vI) (j9 h127)) (fun h127 => ?_) (fun j126 Hj126 => ?_)
          · refine y_goto (tgt := 2811) d_W_law_816 (by decide) ?_
            exact Hj15 h127
          · refine y_if_ne (tgt := 816) d_W_law_801 (by decide) ?_ ?_
            · exact y_wk (loc2 := [some (.ref (mwad Θ 40)), some (.ref f1_), some (.ref f2_), some (.ref f3_), some (.ref f4_), some (.int v5_), none, none, none, none]) ⟨rfl, ⟨rfl, ⟨rfl, ⟨rfl, ⟨rfl, ⟨rfl, trivial⟩⟩⟩⟩⟩⟩ (Hj126 h124)
            · refine y_aload_n d_W_law_804 rfl ?_
              refine y_iconst (v := (J 0)) d_W_law_805 rfl ?_
              refine y_lald d_W_law_806 (fun v128 => ?_)
              refine y_iload d_W_law_807 rfl ?_
              refine y_i2l (v := ((v123).toInt64)) d_W_law_809 rfl ?_
              refine y_lcmp (v := (lg_cmp v128 ((v123).toInt64))) d_W_law_810 rfl ?_
              refine y_if_eq (tgt := 816) d_W_law_811 (by decide) ?_ ?_
              · exact y_wk (loc2 := [some (.ref (mwad Θ 40)), some (.ref f1_), some (.ref f2_), some (.ref f3_), some (.ref f4_), some (.int v5_), none, none, none, none]) ⟨rfl, ⟨rfl, ⟨rfl, ⟨rfl, ⟨rfl, ⟨rfl, trivial⟩⟩⟩⟩⟩⟩ (Hj126 h124)
              · refine y_iconst (v := (J 0)) d_W_law_814 rfl ?_
                exact y_retI d_W_law_815 rfl (by decide +kernel)
        · refine y_iconst (v := (J 0)) d_W_law_797 rfl ?_
          exact y_retI d_W_law_798 rfl (by decide +kernel)
      refine y_tabIn (tgt := 819) d_W_law_44 hn (by decide +kernel) rfl (by decide) ?_ ?_
      · refine y_aload_n d_W_law_819 rfl ?_
        refine y_aload_n d_W_law_820 rfl ?_
        refine y_iload d_W_law_821 rfl ?_
        refine y_iconst (v := (J 1)) d_W_law_823 rfl ?_
        refine y_iadd (v := (v5_ + (J 1))) d_W_law_824 rfl ?_
        refine y_oldX d_W_law_825 (fun v129 => ?_)
        refine y_aload_n d_W_law_826 rfl ?_
        refine y_cI (c_st (rest := []) d_W_law_827 k_W_dirtOf s_W_192 rfl rfl (Nat.le_of_ble_eq_true rfl) (Nat.le_trans (Nat.le_of_ble_eq_true rfl : 8 + 1 ≤ 14) hD) (S_W_dirtOf hfl (Nat.le_refl _) h f1_ v129 f3_)) (fun v131 h130 => ?_)
        refine y_istore (loc2 := [some (.ref (mwad Θ 40)), some (.ref f1_), some (.ref f2_), some (.ref f3_), some (.ref f4_), some (.int v5_), some (.int v131), none, none, none]) d_W_law_830 (Nat.le_of_ble_eq_true rfl) rfl rfl ?_
        refine y_aload_n d_W_law_832 rfl ?_
        refine y_aload_n d_W_law_833 rfl ?_
        refine y_iload d_W_law_834 rfl ?_
        refine y_iconst (v := (J 1)) d_W_law_836 rfl ?_
        refine y_iadd (v := (v5_ + (J 1))) d_W_law_837 rfl ?_
        refine y_oldX d_W_law_838 (fun v132 => ?_)
        refine y_gO (fun fs1 g1 => y_cI (c_vi (rest := []) d_W_law_839 k_R_dirtOf s_W_194 (Or.inl ⟨_, _, _, g1, rfl, rfl⟩) rfl rfl (Nat.le_of_ble_eq_true rfl) (Nat.le_trans (Nat.le_of_ble_eq_true rfl : 5 + 1 ≤ 14) hD) (S_R_dirtOf hfl (Nat.le_refl _) h130 f2_ v132)) (fun v134 h133 => ?_))
        refine y_istore (loc2 := [some (.ref (mwad Θ 40)), some (.ref f1_), some (.ref f2_), some (.ref f3_), some (.ref f4_), some (.int v5_), some (.int v131), some (.int v134), none, none]) d_W_law_842 (Nat.le_of_ble_eq_true rfl) rfl rfl ?_
        refine y_aload_n d_W_law_844 rfl ?_
        refine y_gO (fun fs1 g1 => y_cI (c_vi (rest := []) d_W_law_845 k_R_thrown s_W_161 (Or.inl ⟨_, _, _, g1, rfl, rfl⟩) rfl rfl (Nat.le_of_ble_eq_true rfl) (Nat.le_trans (Nat.le_of_ble_eq_true rfl : 1 + 1 ≤ 14) hD) (S_R_thrown hfl (Nat.le_refl _) h133 f2_)) (fun v136 h135 => ?_))
        refine y_iload d_W_law_848 rfl ?_
        refine y_icmp_eq (tgt := 855) d_W_law_850 (by decide) ?_ ?_
        · refine y_iload d_W_law_855 rfl ?_
          refine y_jn (C := fun (j9 : mH → Option (Int32 × mH)) => ∀ (h138 : mH), mY l Θ d M_W_law 872 [some (.ref (mwad Θ 40)), some (.ref f1_), some (.ref f2_), some (.ref f3_), some (.ref f4_), some (.int v5_), none, none, none, none] [] h138 (tR vI) (j9 h138)) (fun h138 => ?_) (fun j137 Hj137 => ?_)
          · refine y_goto (tgt := 2811) d_W_law_872 (by decide) ?_
            exact Hj15 h138
          · refine y_if_ne (tgt := 872) d_W_law_857 (by decide) ?_ ?_
            · exact y_wk (loc2 := [some (.ref (mwad Θ 40)), some (.ref f1_), some (.ref f2_), some (.ref f3_), some (.ref f4_), some (.int v5_), none, none, none, none]) ⟨rfl, ⟨rfl, ⟨rfl, ⟨rfl, ⟨rfl, ⟨rfl, trivial⟩⟩⟩⟩⟩⟩ (Hj137 h135)
            · refine y_aload_n d_W_law_860 rfl ?_
              refine y_iconst (v := (J 0)) d_W_law_861 rfl ?_
              refine y_lald d_W_law_862 (fun v139 => ?_)
              refine y_iload d_W_law_863 rfl ?_
              refine y_i2l (v := ((v134).toInt64)) d_W_law_865 rfl ?_
              refine y_lcmp (v := (lg_cmp v139 ((v134).toInt64))) d_W_law_866 rfl ?_
              refine y_if_eq (tgt := 872) d_W_law_867 (by decide) ?_ ?_
              · exact y_wk (loc2 := [some (.ref (mwad Θ 40)), some (.ref f1_), some (.ref f2_), some (.ref f3_), some (.ref f4_), some (.int v5_), none, none, none, none]) ⟨rfl, ⟨rfl, ⟨rfl, ⟨rfl, ⟨rfl, ⟨rfl, trivial⟩⟩⟩⟩⟩⟩ (Hj137 h135)
              · refine y_iconst (v := (J 0)) d_W_law_870 rfl ?_
                exact y_retI d_W_law_871 rfl (by decide +kernel)
        · refine y_iconst (v := (J 0)) d_W_law_853 rfl ?_
          exact y_retI d_W_law_854 rfl (by decide +kernel)
      refine y_tabIn (tgt := 875) d_W_law_44 hn (by decide +kernel) rfl (by decide) ?_ ?_
      · refine y_aload_n d_W_law_875 rfl ?_
        refine y_aload_n d_W_law_876 rfl ?_
        refine y_iload d_W_law_877 rfl ?_
        refine y_iconst (v := (J 1)) d_W_law_879 rfl ?_
        refine y_iadd (v := (v5_ + (J 1))) d_W_law_880 rfl ?_
        refine y_oldX d_W_law_881 (fun v140 => ?_)
        refine y_aload_n d_W_law_882 rfl ?_
        refine y_cI (c_st (rest := []) d_W_law_883 k_W_damageOf s_W_195 rfl rfl (Nat.le_of_ble_eq_true rfl) (Nat.le_trans (Nat.le_of_ble_eq_true rfl : 8 + 1 ≤ 14) hD) (S_W_damageOf hfl (Nat.le_refl _) h f1_ v140 f3_)) (fun v142 h141 => ?_)
        refine y_istore (loc2 := [some (.ref (mwad Θ 40)), some (.ref f1_), some (.ref f2_), some (.ref f3_), some (.ref f4_), some (.int v5_), some (.int v142), none, none, none]) d_W_law_886 (Nat.le_of_ble_eq_true rfl) rfl rfl ?_
        refine y_aload_n d_W_law_888 rfl ?_
        refine y_aload_n d_W_law_889 rfl ?_
        refine y_iload d_W_law_890 rfl ?_
        refine y_iconst (v := (J 1)) d_W_law_892 rfl ?_
        refine y_iadd (v := (v5_ + (J 1))) d_W_law_893 rfl ?_
        refine y_oldX d_W_law_894 (fun v143 => ?_)
        refine y_gO (fun fs1 g1 => y_cI (c_vi (rest := []) d_W_law_895 k_R_damageOf s_W_197 (Or.inl ⟨_, _, _, g1, rfl, rfl⟩) rfl rfl (Nat.le_of_ble_eq_true rfl) (Nat.le_trans (Nat.le_of_ble_eq_true rfl : 5 + 1 ≤ 14) hD) (S_R_damageOf hfl (Nat.le_refl _) h141 f2_ v143)) (fun v145 h144 => ?_))
        refine y_istore (loc2 := [some (.ref (mwad Θ 40)), some (.ref f1_), some (.ref f2_), some (.ref f3_), some (.ref f4_), some (.int v5_), some (.int v142), some (.int v145), none, none]) d_W_law_898 (Nat.le_of_ble_eq_true rfl) rfl rfl ?_
        refine y_aload_n d_W_law_900 rfl ?_
        refine y_gO (fun fs1 g1 => y_cI (c_vi (rest := []) d_W_law_901 k_R_thrown s_W_161 (Or.inl ⟨_, _, _, g1, rfl, rfl⟩) rfl rfl (Nat.le_of_ble_eq_true rfl) (Nat.le_trans (Nat.le_of_ble_eq_true rfl : 1 + 1 ≤ 14) hD) (S_R_thrown hfl (Nat.le_refl _) h144 f2_)) (fun v147 h146 => ?_))
        refine y_iload d_W_law_904 rfl ?_
        refine y_icmp_eq (tgt := 911) d_W_law_906 (by decide) ?_ ?_
        · refine y_iload d_W_law_911 rfl ?_
          refine y_jn (C := fun (j9 : mH → Option (Int32 × mH)) => ∀ (h149 : mH), mY l Θ d M_W_law 928 [some (.ref (mwad Θ 40)), some (.ref f1_), some (.ref f2_), some (.ref f3_), some (.ref f4_), some (.int v5_), none, none, none, none] [] h149 (tR vI) (j9 h149)) (fun h149 => ?_) (fun j148 Hj148 => ?_)
          · refine y_goto (tgt := 2811) d_W_law_928 (by decide) ?_
            exact Hj15 h149
          · refine y_if_ne (tgt := 928) d_W_law_913 (by decide) ?_ ?_
            · exact y_wk (loc2 := [some (.ref (mwad Θ 40)), some (.ref f1_), some (.ref f2_), some (.ref f3_), some (.ref f4_), some (.int v5_), none, none, none, none]) ⟨rfl, ⟨rfl, ⟨rfl, ⟨rfl, ⟨rfl, ⟨rfl, trivial⟩⟩⟩⟩⟩⟩ (Hj148 h146)
            · refine y_aload_n d_W_law_916 rfl ?_
              refine y_iconst (v := (J 0)) d_W_law_917 rfl ?_
              refine y_lald d_W_law_918 (fun v150 => ?_)
              refine y_iload d_W_law_919 rfl ?_
              refine y_i2l (v := ((v145).toInt64)) d_W_law_921 rfl ?_
              refine y_lcmp (v := (lg_cmp v150 ((v145).toInt64))) d_W_law_922 rfl ?_
              refine y_if_eq (tgt := 928) d_W_law_923 (by decide) ?_ ?_
              · exact y_wk (loc2 := [some (.ref (mwad Θ 40)), some (.ref f1_), some (.ref f2_), some (.ref f3_), some (.ref f4_), some (.int v5_), none, none, none, none]) ⟨rfl, ⟨rfl, ⟨rfl, ⟨rfl, ⟨rfl, ⟨rfl, trivial⟩⟩⟩⟩⟩⟩ (Hj148 h146)
              · refine y_iconst (v := (J 0)) d_W_law_926 rfl ?_
                exact y_retI d_W_law_927 rfl (by decide +kernel)
        · refine y_iconst (v := (J 0)) d_W_law_909 rfl ?_
          exact y_retI d_W_law_910 rfl (by decide +kernel)
      refine y_tabIn (tgt := 931) d_W_law_44 hn (by decide +kernel) rfl (by decide) ?_ ?_
      · refine y_aload_n d_W_law_931 rfl ?_
        refine y_aload_n d_W_law_932 rfl ?_
        refine y_iload d_W_law_933 rfl ?_
        refine y_iconst (v := (J 1)) d_W_law_935 rfl ?_
        refine y_iadd (v := (v5_ + (J 1))) d_W_law_936 rfl ?_
        refine y_oldX d_W_law_937 (fun v151 => ?_)
        refine y_aload_n d_W_law_938 rfl ?_
        refine y_cI (c_st (rest := []) d_W_law_939 k_W_hoursAfloat s_W_198 rfl rfl (Nat.le_of_ble_eq_true rfl) (Nat.le_trans (Nat.le_of_ble_eq_true rfl : 8 + 1 ≤ 14) hD) (S_W_hoursAfloat hfl (Nat.le_refl _) h f1_ v151 f3_)) (fun v153 h152 => ?_)
        refine y_istore (loc2 := [some (.ref (mwad Θ 40)), some (.ref f1_), some (.ref f2_), some (.ref f3_), some (.ref f4_), some (.int v5_), some (.int v153), none, none, none]) d_W_law_942 (Nat.le_of_ble_eq_true rfl) rfl rfl ?_
        refine y_aload_n d_W_law_944 rfl ?_
        refine y_aload_n d_W_law_945 rfl ?_
        refine y_iload d_W_law_946 rfl ?_
        refine y_iconst (v := (J 1)) d_W_law_948 rfl ?_
        refine y_iadd (v := (v5_ + (J 1))) d_W_law_949 rfl ?_
        refine y_oldX d_W_law_950 (fun v154 => ?_)
        refine y_gO (fun fs1 g1 => y_cI (c_vi (rest := []) d_W_law_951 k_R_hoursAfloat s_W_200 (Or.inl ⟨_, _, _, g1, rfl, rfl⟩) rfl rfl (Nat.le_of_ble_eq_true rfl) (Nat.le_trans (Nat.le_of_ble_eq_true rfl : 5 + 1 ≤ 14) hD) (S_R_hoursAfloat hfl (Nat.le_refl _) h152 f2_ v154)) (fun v156 h155 => ?_))
        refine y_istore (loc2 := [some (.ref (mwad Θ 40)), some (.ref f1_), some (.ref f2_), some (.ref f3_), some (.ref f4_), some (.int v5_), some (.int v153), some (.int v156), none, none]) d_W_law_954 (Nat.le_of_ble_eq_true rfl) rfl rfl ?_
        refine y_aload_n d_W_law_956 rfl ?_
        refine y_gO (fun fs1 g1 => y_cI (c_vi (rest := []) d_W_law_957 k_R_thrown s_W_161 (Or.inl ⟨_, _, _, g1, rfl, rfl⟩) rfl rfl (Nat.le_of_ble_eq_true rfl) (Nat.le_trans (Nat.le_of_ble_eq_true rfl : 1 + 1 ≤ 14) hD) (S_R_thrown hfl (Nat.le_refl _) h155 f2_)) (fun v158 h157 => ?_))
        refine y_iload d_W_law_960 rfl ?_
        refine y_icmp_eq (tgt := 967) d_W_law_962 (by decide) ?_ ?_
        · refine y_iload d_W_law_967 rfl ?_
          refine y_jn (C := fun (j9 : mH → Option (Int32 × mH)) => ∀ (h160 : mH), mY l Θ d M_W_law 984 [some (.ref (mwad Θ 40)), some (.ref f1_), some (.ref f2_), some (.ref f3_), some (.ref f4_), some (.int v5_), none, none, none, none] [] h160 (tR vI) (j9 h160)) (fun h160 => ?_) (fun j159 Hj159 => ?_)
          · refine y_goto (tgt := 2811) d_W_law_984 (by decide) ?_
            exact Hj15 h160
          · refine y_if_ne (tgt := 984) d_W_law_969 (by decide) ?_ ?_
            · exact y_wk (loc2 := [some (.ref (mwad Θ 40)), some (.ref f1_), some (.ref f2_), some (.ref f3_), some (.ref f4_), some (.int v5_), none, none, none, none]) ⟨rfl, ⟨rfl, ⟨rfl, ⟨rfl, ⟨rfl, ⟨rfl, trivial⟩⟩⟩⟩⟩⟩ (Hj159 h157)
            · refine y_aload_n d_W_law_972 rfl ?_
              refine y_iconst (v := (J 0)) d_W_law_973 rfl ?_
              refine y_lald d_W_law_974 (fun v161 => ?_)
              refine y_iload d_W_law_975 rfl ?_
              refine y_i2l (v := ((v156).toInt64)) d_W_law_977 rfl ?_
              refine y_lcmp (v := (lg_cmp v161 ((v156).toInt64))) d_W_law_978 rfl ?_
              refine y_if_eq (tgt := 984) d_W_law_979 (by decide) ?_ ?_
              · exact y_wk (loc2 := [some (.ref (mwad Θ 40)), some (.ref f1_), some (.ref f2_), some (.ref f3_), some (.ref f4_), some (.int v5_), none, none, none, none]) ⟨rfl, ⟨rfl, ⟨rfl, ⟨rfl, ⟨rfl, ⟨rfl, trivial⟩⟩⟩⟩⟩⟩ (Hj159 h157)
              · refine y_iconst (v := (J 0)) d_W_law_982 rfl ?_
                exact y_retI d_W_law_983 rfl (by decide +kernel)
        · refine y_iconst (v := (J 0)) d_W_law_965 rfl ?_
          exact y_retI d_W_law_966 rfl (by decide +kernel)
      refine y_tabIn (tgt := 987) d_W_law_44 hn (by decide +kernel) rfl (by decide) ?_ ?_
      · refine y_aload_n d_W_law_987 rfl ?_
        refine y_aload_n d_W_law_988 rfl ?_
        refine y_iload d_W_law_989 rfl ?_
        refine y_iconst (v := (J 1)) d_W_law_991 rfl ?_
        refine y_iadd (v := (v5_ + (J 1))) d_W_law_992 rfl ?_
        refine y_oldX d_W_law_993 (fun v162 => ?_)
        refine y_aload_n d_W_law_994 rfl ?_
        refine y_cI (c_st (rest := []) d_W_law_995 k_W_isAfloat s_W_201 rfl rfl (Nat.le_of_ble_eq_true rfl) (Nat.le_trans (Nat.le_of_ble_eq_true rfl : 8 + 1 ≤ 14) hD) (S_W_isAfloat hfl (Nat.le_refl _) h f1_ v162 f3_)) (fun v164 h163 => ?_)
        refine y_istore (loc2 := [some (.ref (mwad Θ 40)), some (.ref f1_), some (.ref f2_), some (.ref f3_), some (.ref f4_), some (.int v5_), some (.int v164), none, none, none]) d_W_law_998 (Nat.le_of_ble_eq_true rfl) rfl rfl ?_
        refine y_aload_n d_W_law_1000 rfl ?_
        refine y_aload_n d_W_law_1001 rfl ?_
        refine y_iload d_W_law_1002 rfl ?_
        refine y_iconst (v := (J 1)) d_W_law_1004 rfl ?_
        refine y_iadd (v := (v5_ + (J 1))) d_W_law_1005 rfl ?_
        refine y_oldX d_W_law_1006 (fun v165 => ?_)
        refine y_gO (fun fs1 g1 => y_cI (c_vi (rest := []) d_W_law_1007 k_R_isAfloat s_W_203 (Or.inl ⟨_, _, _, g1, rfl, rfl⟩) rfl rfl (Nat.le_of_ble_eq_true rfl) (Nat.le_trans (Nat.le_of_ble_eq_true rfl : 5 + 1 ≤ 14) hD) (S_R_isAfloat hfl (Nat.le_refl _) h163 f2_ v165)) (fun v167 h166 => ?_))
        refine y_istore (loc2 := [some (.ref (mwad Θ 40)), some (.ref f1_), some (.ref f2_), some (.ref f3_), some (.ref f4_), some (.int v5_), some (.int v164), some (.int v167), none, none]) d_W_law_1010 (Nat.le_of_ble_eq_true rfl) rfl rfl ?_
        refine y_aload_n d_W_law_1012 rfl ?_
        refine y_gO (fun fs1 g1 => y_cI (c_vi (rest := []) d_W_law_1013 k_R_thrown s_W_161 (Or.inl ⟨_, _, _, g1, rfl, rfl⟩) rfl rfl (Nat.le_of_ble_eq_true rfl) (Nat.le_trans (Nat.le_of_ble_eq_true rfl : 1 + 1 ≤ 14) hD) (S_R_thrown hfl (Nat.le_refl _) h166 f2_)) (fun v169 h168 => ?_))
        refine y_iload d_W_law_1016 rfl ?_
        refine y_icmp_eq (tgt := 1023) d_W_law_1018 (by decide) ?_ ?_
        · refine y_iload d_W_law_1023 rfl ?_
          refine y_jn (C := fun (j9 : mH → Option (Int32 × mH)) => ∀ (h171 : mH), mY l Θ d M_W_law 1047 [some (.ref (mwad Θ 40)), some (.ref f1_), some (.ref f2_), some (.ref f3_), some (.ref f4_), some (.int v5_), none, none, none, none] [] h171 (tR vI) (j9 h171)) (fun h171 => ?_) (fun j170 Hj170 => ?_)
          · refine y_goto (tgt := 2811) d_W_law_1047 (by decide) ?_
            exact Hj15 h171
          · refine y_if_ne (tgt := 1047) d_W_law_1025 (by decide) ?_ ?_
            · exact y_wk (loc2 := [some (.ref (mwad Θ 40)), some (.ref f1_), some (.ref f2_), some (.ref f3_), some (.ref f4_), some (.int v5_), none, none, none, none]) ⟨rfl, ⟨rfl, ⟨rfl, ⟨rfl, ⟨rfl, ⟨rfl, trivial⟩⟩⟩⟩⟩⟩ (Hj170 h168)
            · refine y_aload_n d_W_law_1028 rfl ?_
              refine y_iconst (v := (J 0)) d_W_law_1029 rfl ?_
              refine y_lald d_W_law_1030 (fun v172 => ?_)
              refine y_iload d_W_law_1031 rfl ?_
              refine y_jn (C := fun (j9 : mH → Int64 → Option (Int32 × mH)) => ∀ (h174 : mH) (s175 : Int64), mY l Θ d M_W_law 1041 [some (.ref (mwad Θ 40)), some (.ref f1_), some (.ref f2_), some (.ref f3_), some (.ref f4_), some (.int v5_), none, none, none, none] [.long s175, .long v172] h174 (tR vI) (j9 h174 s175)) (fun h174 s175 => ?_) (fun j173 Hj173 => ?_)
              · refine y_lcmp (v := (lg_cmp v172 s175)) d_W_law_1041 rfl ?_
                refine y_if_eq (tgt := 1047) d_W_law_1042 (by decide) ?_ ?_
                · exact Hj170 h174
                · refine y_iconst (v := (J 0)) d_W_law_1045 rfl ?_
                  exact y_retI d_W_law_1046 rfl (by decide +kernel)
              · refine y_if_eq (tgt := 1040) d_W_law_1033 (by decide) ?_ ?_
                · refine y_lconst (v := (0 : Int64)) d_W_law_1040 (by decide) ?_
                  exact y_wk (loc2 := [some (.ref (mwad Θ 40)), some (.ref f1_), some (.ref f2_), some (.ref f3_), some (.ref f4_), some (.int v5_), none, none, none, none]) ⟨rfl, ⟨rfl, ⟨rfl, ⟨rfl, ⟨rfl, ⟨rfl, trivial⟩⟩⟩⟩⟩⟩ (Hj173 h168 (0 : Int64))
                · refine y_lconst (v := (1 : Int64)) d_W_law_1036 (by decide) ?_
                  refine y_goto (tgt := 1041) d_W_law_1037 (by decide) ?_
                  exact y_wk (loc2 := [some (.ref (mwad Θ 40)), some (.ref f1_), some (.ref f2_), some (.ref f3_), some (.ref f4_), some (.int v5_), none, none, none, none]) ⟨rfl, ⟨rfl, ⟨rfl, ⟨rfl, ⟨rfl, ⟨rfl, trivial⟩⟩⟩⟩⟩⟩ (Hj173 h168 (1 : Int64))
        · refine y_iconst (v := (J 0)) d_W_law_1021 rfl ?_
          exact y_retI d_W_law_1022 rfl (by decide +kernel)
      refine y_tabIn (tgt := 1050) d_W_law_44 hn (by decide +kernel) rfl (by decide) ?_ ?_
      · refine y_aload_n d_W_law_1050 rfl ?_
        refine y_aload_n d_W_law_1051 rfl ?_
        refine y_cI (c_st (rest := []) d_W_law_1052 k_W_refusalReason s_W_204 rfl rfl (Nat.le_of_ble_eq_true rfl) (Nat.le_trans (Nat.le_of_ble_eq_true rfl : 7 + 1 ≤ 14) hD) (S_W_refusalReason hfl (Nat.le_refl _) h f1_ f3_)) (fun v177 h176 => ?_)
        refine y_istore (loc2 := [some (.ref (mwad Θ 40)), some (.ref f1_), some (.ref f2_), some (.ref f3_), some (.ref f4_), some (.int v5_), some (.int v177), none, none, none]) d_W_law_1055 (Nat.le_of_ble_eq_true rfl) rfl rfl ?_
        refine y_aload_n d_W_law_1057 rfl ?_
        refine y_gO (fun fs1 g1 => y_cI (c_vi (rest := []) d_W_law_1058 k_R_refusalReason s_W_207 (Or.inl ⟨_, _, _, g1, rfl, rfl⟩) rfl rfl (Nat.le_of_ble_eq_true rfl) (Nat.le_trans (Nat.le_of_ble_eq_true rfl : 3 + 1 ≤ 14) hD) (S_R_refusalReason hfl (Nat.le_refl _) h176 f2_)) (fun v179 h178 => ?_))
        refine y_istore (loc2 := [some (.ref (mwad Θ 40)), some (.ref f1_), some (.ref f2_), some (.ref f3_), some (.ref f4_), some (.int v5_), some (.int v177), some (.int v179), none, none]) d_W_law_1061 (Nat.le_of_ble_eq_true rfl) rfl rfl ?_
        refine y_aload_n d_W_law_1063 rfl ?_
        refine y_gO (fun fs1 g1 => y_cI (c_vi (rest := []) d_W_law_1064 k_R_thrown s_W_161 (Or.inl ⟨_, _, _, g1, rfl, rfl⟩) rfl rfl (Nat.le_of_ble_eq_true rfl) (Nat.le_trans (Nat.le_of_ble_eq_true rfl : 1 + 1 ≤ 14) hD) (S_R_thrown hfl (Nat.le_refl _) h178 f2_)) (fun v181 h180 => ?_))
        refine y_iload d_W_law_1067 rfl ?_
        refine y_icmp_eq (tgt := 1074) d_W_law_1069 (by decide) ?_ ?_
        · refine y_iload d_W_law_1074 rfl ?_
          refine y_jn (C := fun (j9 : mH → Option (Int32 × mH)) => ∀ (h183 : mH), mY l Θ d M_W_law 1091 [some (.ref (mwad Θ 40)), some (.ref f1_), some (.ref f2_), some (.ref f3_), some (.ref f4_), some (.int v5_), none, none, none, none] [] h183 (tR vI) (j9 h183)) (fun h183 => ?_) (fun j182 Hj182 => ?_)
          · refine y_goto (tgt := 2811) d_W_law_1091 (by decide) ?_
            exact Hj15 h183
          · refine y_if_ne (tgt := 1091) d_W_law_1076 (by decide) ?_ ?_
            · exact y_wk (loc2 := [some (.ref (mwad Θ 40)), some (.ref f1_), some (.ref f2_), some (.ref f3_), some (.ref f4_), some (.int v5_), none, none, none, none]) ⟨rfl, ⟨rfl, ⟨rfl, ⟨rfl, ⟨rfl, ⟨rfl, trivial⟩⟩⟩⟩⟩⟩ (Hj182 h180)
            · refine y_aload_n d_W_law_1079 rfl ?_
              refine y_iconst (v := (J 0)) d_W_law_1080 rfl ?_
              refine y_lald d_W_law_1081 (fun v184 => ?_)
              refine y_iload d_W_law_1082 rfl ?_
              refine y_i2l (v := ((v179).toInt64)) d_W_law_1084 rfl ?_
              refine y_lcmp (v := (lg_cmp v184 ((v179).toInt64))) d_W_law_1085 rfl ?_
              refine y_if_eq (tgt := 1091) d_W_law_1086 (by decide) ?_ ?_
              · exact y_wk (loc2 := [some (.ref (mwad Θ 40)), some (.ref f1_), some (.ref f2_), some (.ref f3_), some (.ref f4_), some (.int v5_), none, none, none, none]) ⟨rfl, ⟨rfl, ⟨rfl, ⟨rfl, ⟨rfl, ⟨rfl, trivial⟩⟩⟩⟩⟩⟩ (Hj182 h180)
              · refine y_iconst (v := (J 0)) d_W_law_1089 rfl ?_
                exact y_retI d_W_law_1090 rfl (by decide +kernel)
        · refine y_iconst (v := (J 0)) d_W_law_1072 rfl ?_
          exact y_retI d_W_law_1073 rfl (by decide +kernel)
      refine y_tabIn (tgt := 1094) d_W_law_44 hn (by decide +kernel) rfl (by decide) ?_ ?_
      · refine y_aload_n d_W_law_1094 rfl ?_
        refine y_aload_n d_W_law_1095 rfl ?_
        refine y_iload d_W_law_1096 rfl ?_
        refine y_iconst (v := (J 1)) d_W_law_1098 rfl ?_
        refine y_iadd (v := (v5_ + (J 1))) d_W_law_1099 rfl ?_
        refine y_oldX d_W_law_1100 (fun v185 => ?_)
        refine y_jn (C := fun (j9 : mH → Int32 → Option (Int32 × mH)) => ∀ (h187 : mH) (s188 : Int32), mY l Θ d M_W_law 1109 [some (.ref (mwad Θ 40)), some (.ref f1_), some (.ref f2_), some (.ref f3_), some (.ref f4_), some (.int v5_), none, none, none, none] [.int s188, .ref f1_] h187 (tR vI) (j9 h187 s188)) (fun h187 s188 => ?_) (fun j186 Hj186 => ?_)
        · refine y_aload_n d_W_law_1109 rfl ?_
          refine y_cI (c_st (rest := []) d_W_law_1110 k_W_setGate s_W_208 rfl rfl (Nat.le_of_ble_eq_true rfl) (Nat.le_trans (Nat.le_of_ble_eq_true rfl : 8 + 1 ≤ 14) hD) (S_W_setGate hfl (Nat.le_refl _) h187 f1_ s188 f3_)) (fun v190 h189 => ?_)
          refine y_istore (loc2 := [some (.ref (mwad Θ 40)), some (.ref f1_), some (.ref f2_), some (.ref f3_), some (.ref f4_), some (.int v5_), some (.int v190), none, none, none]) d_W_law_1113 (Nat.le_of_ble_eq_true rfl) rfl rfl ?_
          refine y_aload_n d_W_law_1115 rfl ?_
          refine y_aload_n d_W_law_1116 rfl ?_
          refine y_iload d_W_law_1117 rfl ?_
          refine y_iconst (v := (J 1)) d_W_law_1119 rfl ?_
          refine y_iadd (v := (v5_ + (J 1))) d_W_law_1120 rfl ?_
          refine y_oldX d_W_law_1121 (fun v191 => ?_)
          refine y_jn (C := fun (j9 : mH → Int32 → Option (Int32 × mH)) => ∀ (h193 : mH) (s194 : Int32), mY l Θ d M_W_law 1130 [some (.ref (mwad Θ 40)), some (.ref f1_), some (.ref f2_), some (.ref f3_), some (.ref f4_), some (.int v5_), some (.int v190), none, none, none] [.int s194, .ref f2_] h193 (tR vI) (j9 h193 s194)) (fun h193 s194 => ?_) (fun j192 Hj192 => ?_)
          · refine y_gO (fun fs1 g1 => y_cI (c_vi (rest := []) d_W_law_1130 k_R_setGate s_W_211 (Or.inl ⟨_, _, _, g1, rfl, rfl⟩) rfl rfl (Nat.le_of_ble_eq_true rfl) (Nat.le_trans (Nat.le_of_ble_eq_true rfl : 4 + 1 ≤ 14) hD) (S_R_setGate hfl (Nat.le_refl _) h193 f2_ s194)) (fun v196 h195 => ?_))
            refine y_istore (loc2 := [some (.ref (mwad Θ 40)), some (.ref f1_), some (.ref f2_), some (.ref f3_), some (.ref f4_), some (.int v5_), some (.int v190), some (.int v196), none, none]) d_W_law_1133 (Nat.le_of_ble_eq_true rfl) rfl rfl ?_
            refine y_aload_n d_W_law_1135 rfl ?_
            refine y_gO (fun fs1 g1 => y_cI (c_vi (rest := []) d_W_law_1136 k_R_thrown s_W_161 (Or.inl ⟨_, _, _, g1, rfl, rfl⟩) rfl rfl (Nat.le_of_ble_eq_true rfl) (Nat.le_trans (Nat.le_of_ble_eq_true rfl : 1 + 1 ≤ 14) hD) (S_R_thrown hfl (Nat.le_refl _) h195 f2_)) (fun v198 h197 => ?_))
            refine y_iload d_W_law_1139 rfl ?_
            refine y_icmp_eq (tgt := 1146) d_W_law_1141 (by decide) ?_ ?_
            · refine y_iload d_W_law_1146 rfl ?_
              refine y_jn (C := fun (j9 : mH → Option (Int32 × mH)) => ∀ (h200 : mH), mY l Θ d M_W_law 1170 [some (.ref (mwad Θ 40)), some (.ref f1_), some (.ref f2_), some (.ref f3_), some (.ref f4_), some (.int v5_), none, none, none, none] [] h200 (tR vI) (j9 h200)) (fun h200 => ?_) (fun j199 Hj199 => ?_)
              · refine y_goto (tgt := 2811) d_W_law_1170 (by decide) ?_
                exact Hj15 h200
              · refine y_if_ne (tgt := 1170) d_W_law_1148 (by decide) ?_ ?_
                · exact y_wk (loc2 := [some (.ref (mwad Θ 40)), some (.ref f1_), some (.ref f2_), some (.ref f3_), some (.ref f4_), some (.int v5_), none, none, none, none]) ⟨rfl, ⟨rfl, ⟨rfl, ⟨rfl, ⟨rfl, ⟨rfl, trivial⟩⟩⟩⟩⟩⟩ (Hj199 h197)
                · refine y_aload_n d_W_law_1151 rfl ?_
                  refine y_iconst (v := (J 0)) d_W_law_1152 rfl ?_
                  refine y_lald d_W_law_1153 (fun v201 => ?_)
                  refine y_iload d_W_law_1154 rfl ?_
                  refine y_jn (C := fun (j9 : mH → Int64 → Option (Int32 × mH)) => ∀ (h203 : mH) (s204 : Int64), mY l Θ d M_W_law 1164 [some (.ref (mwad Θ 40)), some (.ref f1_), some (.ref f2_), some (.ref f3_), some (.ref f4_), some (.int v5_), none, none, none, none] [.long s204, .long v201] h203 (tR vI) (j9 h203 s204)) (fun h203 s204 => ?_) (fun j202 Hj202 => ?_)
                  · refine y_lcmp (v := (lg_cmp v201 s204)) d_W_law_1164 rfl ?_
                    refine y_if_eq (tgt := 1170) d_W_law_1165 (by decide) ?_ ?_
                    · exact Hj199 h203
                    · refine y_iconst (v := (J 0)) d_W_law_1168 rfl ?_
                      exact y_retI d_W_law_1169 rfl (by decide +kernel)
                  · refine y_if_eq (tgt := 1163) d_W_law_1156 (by decide) ?_ ?_
                    · refine y_lconst (v := (0 : Int64)) d_W_law_1163 (by decide) ?_
                      exact y_wk (loc2 := [some (.ref (mwad Θ 40)), some (.ref f1_), some (.ref f2_), some (.ref f3_), some (.ref f4_), some (.int v5_), none, none, none, none]) ⟨rfl, ⟨rfl, ⟨rfl, ⟨rfl, ⟨rfl, ⟨rfl, trivial⟩⟩⟩⟩⟩⟩ (Hj202 h197 (0 : Int64))
                    · refine y_lconst (v := (1 : Int64)) d_W_law_1159 (by decide) ?_
                      refine y_goto (tgt := 1164) d_W_law_1160 (by decide) ?_
                      exact y_wk (loc2 := [some (.ref (mwad Θ 40)), some (.ref f1_), some (.ref f2_), some (.ref f3_), some (.ref f4_), some (.int v5_), none, none, none, none]) ⟨rfl, ⟨rfl, ⟨rfl, ⟨rfl, ⟨rfl, ⟨rfl, trivial⟩⟩⟩⟩⟩⟩ (Hj202 h197 (1 : Int64))
            · refine y_iconst (v := (J 0)) d_W_law_1144 rfl ?_
              exact y_retI d_W_law_1145 rfl (by decide +kernel)
          · refine y_if_eq (tgt := 1129) d_W_law_1122 (by decide) ?_ ?_
            · refine y_iconst (v := (J 0)) d_W_law_1129 rfl ?_
              exact Hj192 h189 (J 0)
            · refine y_iconst (v := (J 1)) d_W_law_1125 rfl ?_
              refine y_goto (tgt := 1130) d_W_law_1126 (by decide) ?_
              exact Hj192 h189 (J 1)
        · refine y_if_eq (tgt := 1108) d_W_law_1101 (by decide) ?_ ?_
          · refine y_iconst (v := (J 0)) d_W_law_1108 rfl ?_
            exact Hj186 h (J 0)
          · refine y_iconst (v := (J 1)) d_W_law_1104 rfl ?_
            refine y_goto (tgt := 1109) d_W_law_1105 (by decide) ?_
            exact Hj186 h (J 1)
      refine y_tabIn (tgt := 1173) d_W_law_44 hn (by decide +kernel) rfl (by decide) ?_ ?_
      · refine y_aload_n d_W_law_1173 rfl ?_
        refine y_gO (fun fs1 g1 => y_cI (c_vi (rest := []) d_W_law_1174 k_F_isGateOpen s_W_212 (Or.inl ⟨_, _, _, g1, rfl, rfl⟩) rfl rfl (Nat.le_of_ble_eq_true rfl) (Nat.le_trans (Nat.le_of_ble_eq_true rfl : 1 + 1 ≤ 14) hD) (S_F_isGateOpen hfl (Nat.le_refl _) h f1_)) (fun v206 h205 => ?_))
        refine y_aload_n d_W_law_1177 rfl ?_
        refine y_gO (fun fs1 g1 => y_cI (c_vi (rest := [.int v206]) d_W_law_1178 k_R_isGateOpen s_W_216 (Or.inl ⟨_, _, _, g1, rfl, rfl⟩) rfl rfl (Nat.le_of_ble_eq_true rfl) (Nat.le_trans (Nat.le_of_ble_eq_true rfl : 1 + 1 ≤ 14) hD) (S_R_isGateOpen hfl (Nat.le_refl _) h205 f2_)) (fun v208 h207 => ?_))
        refine y_icmp_eq (tgt := 2811) d_W_law_1181 (by decide) ?_ ?_
        · exact Hj15 h207
        · refine y_iconst (v := (J 0)) d_W_law_1184 rfl ?_
          exact y_retI d_W_law_1185 rfl (by decide +kernel)
      refine y_tabIn (tgt := 1186) d_W_law_44 hn (by decide +kernel) rfl (by decide) ?_ ?_
      · refine y_aload_n d_W_law_1186 rfl ?_
        refine y_aload_n d_W_law_1187 rfl ?_
        refine y_iload d_W_law_1188 rfl ?_
        refine y_iconst (v := (J 1)) d_W_law_1190 rfl ?_
        refine y_iadd (v := (v5_ + (J 1))) d_W_law_1191 rfl ?_
        refine y_oldX d_W_law_1192 (fun v209 => ?_)
        refine y_aload_n d_W_law_1193 rfl ?_
        refine y_cI (c_st (rest := []) d_W_law_1194 k_W_setPump s_W_217 rfl rfl (Nat.le_of_ble_eq_true rfl) (Nat.le_trans (Nat.le_of_ble_eq_true rfl : 8 + 1 ≤ 14) hD) (S_W_setPump hfl (Nat.le_refl _) h f1_ v209 f3_)) (fun v211 h210 => ?_)
        refine y_istore (loc2 := [some (.ref (mwad Θ 40)), some (.ref f1_), some (.ref f2_), some (.ref f3_), some (.ref f4_), some (.int v5_), some (.int v211), none, none, none]) d_W_law_1197 (Nat.le_of_ble_eq_true rfl) rfl rfl ?_
        refine y_aload_n d_W_law_1199 rfl ?_
        refine y_aload_n d_W_law_1200 rfl ?_
        refine y_iload d_W_law_1201 rfl ?_
        refine y_iconst (v := (J 1)) d_W_law_1203 rfl ?_
        refine y_iadd (v := (v5_ + (J 1))) d_W_law_1204 rfl ?_
        refine y_oldX d_W_law_1205 (fun v212 => ?_)
        refine y_gO (fun fs1 g1 => y_cI (c_vi (rest := []) d_W_law_1206 k_R_setPump s_W_219 (Or.inl ⟨_, _, _, g1, rfl, rfl⟩) rfl rfl (Nat.le_of_ble_eq_true rfl) (Nat.le_trans (Nat.le_of_ble_eq_true rfl : 4 + 1 ≤ 14) hD) (S_R_setPump hfl (Nat.le_refl _) h210 f2_ v212)) (fun v214 h213 => ?_))
        refine y_istore (loc2 := [some (.ref (mwad Θ 40)), some (.ref f1_), some (.ref f2_), some (.ref f3_), some (.ref f4_), some (.int v5_), some (.int v211), some (.int v214), none, none]) d_W_law_1209 (Nat.le_of_ble_eq_true rfl) rfl rfl ?_
        refine y_aload_n d_W_law_1211 rfl ?_
        refine y_gO (fun fs1 g1 => y_cI (c_vi (rest := []) d_W_law_1212 k_R_thrown s_W_161 (Or.inl ⟨_, _, _, g1, rfl, rfl⟩) rfl rfl (Nat.le_of_ble_eq_true rfl) (Nat.le_trans (Nat.le_of_ble_eq_true rfl : 1 + 1 ≤ 14) hD) (S_R_thrown hfl (Nat.le_refl _) h213 f2_)) (fun v216 h215 => ?_))
        refine y_iload d_W_law_1215 rfl ?_
        refine y_icmp_eq (tgt := 1222) d_W_law_1217 (by decide) ?_ ?_
        · refine y_iload d_W_law_1222 rfl ?_
          refine y_jn (C := fun (j9 : mH → Option (Int32 × mH)) => ∀ (h218 : mH), mY l Θ d M_W_law 1239 [some (.ref (mwad Θ 40)), some (.ref f1_), some (.ref f2_), some (.ref f3_), some (.ref f4_), some (.int v5_), none, none, none, none] [] h218 (tR vI) (j9 h218)) (fun h218 => ?_) (fun j217 Hj217 => ?_)
          · refine y_goto (tgt := 2811) d_W_law_1239 (by decide) ?_
            exact Hj15 h218
          · refine y_if_ne (tgt := 1239) d_W_law_1224 (by decide) ?_ ?_
            · exact y_wk (loc2 := [some (.ref (mwad Θ 40)), some (.ref f1_), some (.ref f2_), some (.ref f3_), some (.ref f4_), some (.int v5_), none, none, none, none]) ⟨rfl, ⟨rfl, ⟨rfl, ⟨rfl, ⟨rfl, ⟨rfl, trivial⟩⟩⟩⟩⟩⟩ (Hj217 h215)
            · refine y_aload_n d_W_law_1227 rfl ?_
              refine y_iconst (v := (J 0)) d_W_law_1228 rfl ?_
              refine y_lald d_W_law_1229 (fun v219 => ?_)
              refine y_iload d_W_law_1230 rfl ?_
              refine y_i2l (v := ((v214).toInt64)) d_W_law_1232 rfl ?_
              refine y_lcmp (v := (lg_cmp v219 ((v214).toInt64))) d_W_law_1233 rfl ?_
              refine y_if_eq (tgt := 1239) d_W_law_1234 (by decide) ?_ ?_
              · exact y_wk (loc2 := [some (.ref (mwad Θ 40)), some (.ref f1_), some (.ref f2_), some (.ref f3_), some (.ref f4_), some (.int v5_), none, none, none, none]) ⟨rfl, ⟨rfl, ⟨rfl, ⟨rfl, ⟨rfl, ⟨rfl, trivial⟩⟩⟩⟩⟩⟩ (Hj217 h215)
              · refine y_iconst (v := (J 0)) d_W_law_1237 rfl ?_
                exact y_retI d_W_law_1238 rfl (by decide +kernel)
        · refine y_iconst (v := (J 0)) d_W_law_1220 rfl ?_
          exact y_retI d_W_law_1221 rfl (by decide +kernel)
      refine y_tabIn (tgt := 1242) d_W_law_44 hn (by decide +kernel) rfl (by decide) ?_ ?_
      · refine y_aload_n d_W_law_1242 rfl ?_
        refine y_gO (fun fs1 g1 => y_cI (c_vi (rest := []) d_W_law_1243 k_F_level s_W_220 (Or.inl ⟨_, _, _, g1, rfl, rfl⟩) rfl rfl (Nat.le_of_ble_eq_true rfl) (Nat.le_trans (Nat.le_of_ble_eq_true rfl : 1 + 1 ≤ 14) hD) (S_F_level hfl (Nat.le_refl _) h f1_)) (fun v221 h220 => ?_))
        refine y_aload_n d_W_law_1246 rfl ?_
        refine y_gO (fun fs1 g1 => y_cI (c_vi (rest := [.int v221]) d_W_law_1247 k_R_level s_W_223 (Or.inl ⟨_, _, _, g1, rfl, rfl⟩) rfl rfl (Nat.le_of_ble_eq_true rfl) (Nat.le_trans (Nat.le_of_ble_eq_true rfl : 1 + 1 ≤ 14) hD) (S_R_level hfl (Nat.le_refl _) h220 f2_)) (fun v223 h222 => ?_))
        refine y_icmp_eq (tgt := 2811) d_W_law_1250 (by decide) ?_ ?_
        · exact Hj15 h222
        · refine y_iconst (v := (J 0)) d_W_law_1253 rfl ?_
          exact y_retI d_W_law_1254 rfl (by decide +kernel)
      refine y_tabIn (tgt := 1255) d_W_law_44 hn (by decide +kernel) rfl (by decide) ?_ ?_
      · refine y_aload_n d_W_law_1255 rfl ?_
        refine y_aload_n d_W_law_1256 rfl ?_
        refine y_iload d_W_law_1257 rfl ?_
        refine y_iconst (v := (J 1)) d_W_law_1259 rfl ?_
        refine y_iadd (v := (v5_ + (J 1))) d_W_law_1260 rfl ?_
        refine y_oldX d_W_law_1261 (fun v224 => ?_)
        refine y_aload_n d_W_law_1262 rfl ?_
        refine y_cI (c_st (rest := []) d_W_law_1263 k_W_seaLevel s_W_224 rfl rfl (Nat.le_of_ble_eq_true rfl) (Nat.le_trans (Nat.le_of_ble_eq_true rfl : 8 + 1 ≤ 14) hD) (S_W_seaLevel hfl (Nat.le_refl _) h f1_ v224 f3_)) (fun v226 h225 => ?_)
        refine y_istore (loc2 := [some (.ref (mwad Θ 40)), some (.ref f1_), some (.ref f2_), some (.ref f3_), some (.ref f4_), some (.int v5_), some (.int v226), none, none, none]) d_W_law_1266 (Nat.le_of_ble_eq_true rfl) rfl rfl ?_
        refine y_aload_n d_W_law_1268 rfl ?_
        refine y_aload_n d_W_law_1269 rfl ?_
        refine y_iload d_W_law_1270 rfl ?_
        refine y_iconst (v := (J 1)) d_W_law_1272 rfl ?_
        refine y_iadd (v := (v5_ + (J 1))) d_W_law_1273 rfl ?_
        refine y_oldX d_W_law_1274 (fun v227 => ?_)
        refine y_gO (fun fs1 g1 => y_cI (c_vi (rest := []) d_W_law_1275 k_R_seaLevel s_W_226 (Or.inl ⟨_, _, _, g1, rfl, rfl⟩) rfl rfl (Nat.le_of_ble_eq_true rfl) (Nat.le_trans (Nat.le_of_ble_eq_true rfl : 4 + 1 ≤ 14) hD) (S_R_seaLevel hfl (Nat.le_refl _) h225 f2_ v227)) (fun v229 h228 => ?_))
        refine y_istore (loc2 := [some (.ref (mwad Θ 40)), some (.ref f1_), some (.ref f2_), some (.ref f3_), some (.ref f4_), some (.int v5_), some (.int v226), some (.int v229), none, none]) d_W_law_1278 (Nat.le_of_ble_eq_true rfl) rfl rfl ?_
        refine y_aload_n d_W_law_1280 rfl ?_
        refine y_gO (fun fs1 g1 => y_cI (c_vi (rest := []) d_W_law_1281 k_R_thrown s_W_161 (Or.inl ⟨_, _, _, g1, rfl, rfl⟩) rfl rfl (Nat.le_of_ble_eq_true rfl) (Nat.le_trans (Nat.le_of_ble_eq_true rfl : 1 + 1 ≤ 14) hD) (S_R_thrown hfl (Nat.le_refl _) h228 f2_)) (fun v231 h230 => ?_))
        refine y_iload d_W_law_1284 rfl ?_
        refine y_icmp_eq (tgt := 1291) d_W_law_1286 (by decide) ?_ ?_
        · refine y_iload d_W_law_1291 rfl ?_
          refine y_jn (C := fun (j9 : mH → Option (Int32 × mH)) => ∀ (h233 : mH), mY l Θ d M_W_law 1308 [some (.ref (mwad Θ 40)), some (.ref f1_), some (.ref f2_), some (.ref f3_), some (.ref f4_), some (.int v5_), none, none, none, none] [] h233 (tR vI) (j9 h233)) (fun h233 => ?_) (fun j232 Hj232 => ?_)
          · refine y_goto (tgt := 2811) d_W_law_1308 (by decide) ?_
            exact Hj15 h233
          · refine y_if_ne (tgt := 1308) d_W_law_1293 (by decide) ?_ ?_
            · exact y_wk (loc2 := [some (.ref (mwad Θ 40)), some (.ref f1_), some (.ref f2_), some (.ref f3_), some (.ref f4_), some (.int v5_), none, none, none, none]) ⟨rfl, ⟨rfl, ⟨rfl, ⟨rfl, ⟨rfl, ⟨rfl, trivial⟩⟩⟩⟩⟩⟩ (Hj232 h230)
            · refine y_aload_n d_W_law_1296 rfl ?_
              refine y_iconst (v := (J 0)) d_W_law_1297 rfl ?_
              refine y_lald d_W_law_1298 (fun v234 => ?_)
              refine y_iload d_W_law_1299 rfl ?_
              refine y_i2l (v := ((v229).toInt64)) d_W_law_1301 rfl ?_
              refine y_lcmp (v := (lg_cmp v234 ((v229).toInt64))) d_W_law_1302 rfl ?_
              refine y_if_eq (tgt := 1308) d_W_law_1303 (by decide) ?_ ?_
              · exact y_wk (loc2 := [some (.ref (mwad Θ 40)), some (.ref f1_), some (.ref f2_), some (.ref f3_), some (.ref f4_), some (.int v5_), none, none, none, none]) ⟨rfl, ⟨rfl, ⟨rfl, ⟨rfl, ⟨rfl, ⟨rfl, trivial⟩⟩⟩⟩⟩⟩ (Hj232 h230)
              · refine y_iconst (v := (J 0)) d_W_law_1306 rfl ?_
                exact y_retI d_W_law_1307 rfl (by decide +kernel)
        · refine y_iconst (v := (J 0)) d_W_law_1289 rfl ?_
          exact y_retI d_W_law_1290 rfl (by decide +kernel)
      refine y_tabIn (tgt := 1311) d_W_law_44 hn (by decide +kernel) rfl (by decide) ?_ ?_
      · refine y_aload_n d_W_law_1311 rfl ?_
        refine y_aload_n d_W_law_1312 rfl ?_
        refine y_iload d_W_law_1313 rfl ?_
        refine y_iconst (v := (J 1)) d_W_law_1315 rfl ?_
        refine y_iadd (v := (v5_ + (J 1))) d_W_law_1316 rfl ?_
        refine y_oldX d_W_law_1317 (fun v235 => ?_)
        refine y_aload_n d_W_law_1318 rfl ?_
        refine y_cI (c_st (rest := []) d_W_law_1319 k_W_seaLevelByHours s_W_227 rfl rfl (Nat.le_of_ble_eq_true rfl) (Nat.le_trans (Nat.le_of_ble_eq_true rfl : 8 + 1 ≤ 14) hD) (S_W_seaLevelByHours hfl (Nat.le_refl _) h f1_ v235 f3_)) (fun v237 h236 => ?_)
        refine y_istore (loc2 := [some (.ref (mwad Θ 40)), some (.ref f1_), some (.ref f2_), some (.ref f3_), some (.ref f4_), some (.int v5_), some (.int v237), none, none, none]) d_W_law_1322 (Nat.le_of_ble_eq_true rfl) rfl rfl ?_
        refine y_aload_n d_W_law_1324 rfl ?_
        refine y_aload_n d_W_law_1325 rfl ?_
        refine y_iload d_W_law_1326 rfl ?_
        refine y_iconst (v := (J 1)) d_W_law_1328 rfl ?_
        refine y_iadd (v := (v5_ + (J 1))) d_W_law_1329 rfl ?_
        refine y_oldX d_W_law_1330 (fun v238 => ?_)
        refine y_gO (fun fs1 g1 => y_cI (c_vi (rest := []) d_W_law_1331 k_R_seaLevelByHours s_W_229 (Or.inl ⟨_, _, _, g1, rfl, rfl⟩) rfl rfl (Nat.le_of_ble_eq_true rfl) (Nat.le_trans (Nat.le_of_ble_eq_true rfl : 4 + 1 ≤ 14) hD) (S_R_seaLevelByHours hfl (Nat.le_refl _) h236 f2_ v238)) (fun v240 h239 => ?_))
        refine y_istore (loc2 := [some (.ref (mwad Θ 40)), some (.ref f1_), some (.ref f2_), some (.ref f3_), some (.ref f4_), some (.int v5_), some (.int v237), some (.int v240), none, none]) d_W_law_1334 (Nat.le_of_ble_eq_true rfl) rfl rfl ?_
        refine y_aload_n d_W_law_1336 rfl ?_
        refine y_gO (fun fs1 g1 => y_cI (c_vi (rest := []) d_W_law_1337 k_R_thrown s_W_161 (Or.inl ⟨_, _, _, g1, rfl, rfl⟩) rfl rfl (Nat.le_of_ble_eq_true rfl) (Nat.le_trans (Nat.le_of_ble_eq_true rfl : 1 + 1 ≤ 14) hD) (S_R_thrown hfl (Nat.le_refl _) h239 f2_)) (fun v242 h241 => ?_))
        refine y_iload d_W_law_1340 rfl ?_
        refine y_icmp_eq (tgt := 1347) d_W_law_1342 (by decide) ?_ ?_
        · refine y_iload d_W_law_1347 rfl ?_
          refine y_jn (C := fun (j9 : mH → Option (Int32 × mH)) => ∀ (h244 : mH), mY l Θ d M_W_law 1364 [some (.ref (mwad Θ 40)), some (.ref f1_), some (.ref f2_), some (.ref f3_), some (.ref f4_), some (.int v5_), none, none, none, none] [] h244 (tR vI) (j9 h244)) (fun h244 => ?_) (fun j243 Hj243 => ?_)
          · refine y_goto (tgt := 2811) d_W_law_1364 (by decide) ?_
            exact Hj15 h244
          · refine y_if_ne (tgt := 1364) d_W_law_1349 (by decide) ?_ ?_
            · exact y_wk (loc2 := [some (.ref (mwad Θ 40)), some (.ref f1_), some (.ref f2_), some (.ref f3_), some (.ref f4_), some (.int v5_), none, none, none, none]) ⟨rfl, ⟨rfl, ⟨rfl, ⟨rfl, ⟨rfl, ⟨rfl, trivial⟩⟩⟩⟩⟩⟩ (Hj243 h241)
            · refine y_aload_n d_W_law_1352 rfl ?_
              refine y_iconst (v := (J 0)) d_W_law_1353 rfl ?_
              refine y_lald d_W_law_1354 (fun v245 => ?_)
              refine y_iload d_W_law_1355 rfl ?_
              refine y_i2l (v := ((v240).toInt64)) d_W_law_1357 rfl ?_
              refine y_lcmp (v := (lg_cmp v245 ((v240).toInt64))) d_W_law_1358 rfl ?_
              refine y_if_eq (tgt := 1364) d_W_law_1359 (by decide) ?_ ?_
              · exact y_wk (loc2 := [some (.ref (mwad Θ 40)), some (.ref f1_), some (.ref f2_), some (.ref f3_), some (.ref f4_), some (.int v5_), none, none, none, none]) ⟨rfl, ⟨rfl, ⟨rfl, ⟨rfl, ⟨rfl, ⟨rfl, trivial⟩⟩⟩⟩⟩⟩ (Hj243 h241)
              · refine y_iconst (v := (J 0)) d_W_law_1362 rfl ?_
                exact y_retI d_W_law_1363 rfl (by decide +kernel)
        · refine y_iconst (v := (J 0)) d_W_law_1345 rfl ?_
          exact y_retI d_W_law_1346 rfl (by decide +kernel)
      refine y_tabIn (tgt := 1367) d_W_law_44 hn (by decide +kernel) rfl (by decide) ?_ ?_
      · refine y_aload_n d_W_law_1367 rfl ?_
        refine y_aload_n d_W_law_1368 rfl ?_
        refine y_iload d_W_law_1369 rfl ?_
        refine y_iconst (v := (J 1)) d_W_law_1371 rfl ?_
        refine y_iadd (v := (v5_ + (J 1))) d_W_law_1372 rfl ?_
        refine y_oldX d_W_law_1373 (fun v246 => ?_)
        refine y_aload_n d_W_law_1374 rfl ?_
        refine y_cI (c_st (rest := []) d_W_law_1375 k_W_pass s_W_230 rfl rfl (Nat.le_of_ble_eq_true rfl) (Nat.le_trans (Nat.le_of_ble_eq_true rfl : 8 + 1 ≤ 14) hD) (S_W_pass hfl (Nat.le_refl _) h f1_ v246 f3_)) (fun v248 h247 => ?_)
        refine y_istore (loc2 := [some (.ref (mwad Θ 40)), some (.ref f1_), some (.ref f2_), some (.ref f3_), some (.ref f4_), some (.int v5_), some (.int v248), none, none, none]) d_W_law_1378 (Nat.le_of_ble_eq_true rfl) rfl rfl ?_
        refine y_aload_n d_W_law_1380 rfl ?_
        refine y_aload_n d_W_law_1381 rfl ?_
        refine y_iload d_W_law_1382 rfl ?_
        refine y_iconst (v := (J 1)) d_W_law_1384 rfl ?_
        refine y_iadd (v := (v5_ + (J 1))) d_W_law_1385 rfl ?_
        refine y_oldX d_W_law_1386 (fun v249 => ?_)
        refine y_gO (fun fs1 g1 => y_cI (c_vi (rest := []) d_W_law_1387 k_R_pass s_W_232 (Or.inl ⟨_, _, _, g1, rfl, rfl⟩) rfl rfl (Nat.le_of_ble_eq_true rfl) (Nat.le_trans (Nat.le_of_ble_eq_true rfl : 8 + 1 ≤ 14) hD) (S_R_pass hfl (Nat.le_refl _) h247 f2_ v249)) (fun v251 h250 => ?_))
        refine y_istore (loc2 := [some (.ref (mwad Θ 40)), some (.ref f1_), some (.ref f2_), some (.ref f3_), some (.ref f4_), some (.int v5_), some (.int v248), some (.int v251), none, none]) d_W_law_1390 (Nat.le_of_ble_eq_true rfl) rfl rfl ?_
        refine y_aload_n d_W_law_1392 rfl ?_
        refine y_gO (fun fs1 g1 => y_cI (c_vi (rest := []) d_W_law_1393 k_R_thrown s_W_161 (Or.inl ⟨_, _, _, g1, rfl, rfl⟩) rfl rfl (Nat.le_of_ble_eq_true rfl) (Nat.le_trans (Nat.le_of_ble_eq_true rfl : 1 + 1 ≤ 14) hD) (S_R_thrown hfl (Nat.le_refl _) h250 f2_)) (fun v253 h252 => ?_))
        refine y_iload d_W_law_1396 rfl ?_
        refine y_icmp_eq (tgt := 1403) d_W_law_1398 (by decide) ?_ ?_
        · refine y_iload d_W_law_1403 rfl ?_
          refine y_jn (C := fun (j9 : mH → Option (Int32 × mH)) => ∀ (h255 : mH), mY l Θ d M_W_law 1420 [some (.ref (mwad Θ 40)), some (.ref f1_), some (.ref f2_), some (.ref f3_), some (.ref f4_), some (.int v5_), none, none, none, none] [] h255 (tR vI) (j9 h255)) (fun h255 => ?_) (fun j254 Hj254 => ?_)
          · refine y_goto (tgt := 2811) d_W_law_1420 (by decide) ?_
            exact Hj15 h255
          · refine y_if_ne (tgt := 1420) d_W_law_1405 (by decide) ?_ ?_
            · exact y_wk (loc2 := [some (.ref (mwad Θ 40)), some (.ref f1_), some (.ref f2_), some (.ref f3_), some (.ref f4_), some (.int v5_), none, none, none, none]) ⟨rfl, ⟨rfl, ⟨rfl, ⟨rfl, ⟨rfl, ⟨rfl, trivial⟩⟩⟩⟩⟩⟩ (Hj254 h252)
            · refine y_aload_n d_W_law_1408 rfl ?_
              refine y_iconst (v := (J 0)) d_W_law_1409 rfl ?_
              refine y_lald d_W_law_1410 (fun v256 => ?_)
              refine y_iload d_W_law_1411 rfl ?_
              refine y_i2l (v := ((v251).toInt64)) d_W_law_1413 rfl ?_
              refine y_lcmp (v := (lg_cmp v256 ((v251).toInt64))) d_W_law_1414 rfl ?_
              refine y_if_eq (tgt := 1420) d_W_law_1415 (by decide) ?_ ?_
              · exact y_wk (loc2 := [some (.ref (mwad Θ 40)), some (.ref f1_), some (.ref f2_), some (.ref f3_), some (.ref f4_), some (.int v5_), none, none, none, none]) ⟨rfl, ⟨rfl, ⟨rfl, ⟨rfl, ⟨rfl, ⟨rfl, trivial⟩⟩⟩⟩⟩⟩ (Hj254 h252)
              · refine y_iconst (v := (J 0)) d_W_law_1418 rfl ?_
                exact y_retI d_W_law_1419 rfl (by decide +kernel)
        · refine y_iconst (v := (J 0)) d_W_law_1401 rfl ?_
          exact y_retI d_W_law_1402 rfl (by decide +kernel)
      refine y_tabIn (tgt := 1423) d_W_law_44 hn (by decide +kernel) rfl (by decide) ?_ ?_
      · refine y_aload_n d_W_law_1423 rfl ?_
        refine y_gO (fun fs1 g1 => y_cI (c_vi (rest := []) d_W_law_1424 k_F_hour s_W_233 (Or.inl ⟨_, _, _, g1, rfl, rfl⟩) rfl rfl (Nat.le_of_ble_eq_true rfl) (Nat.le_trans (Nat.le_of_ble_eq_true rfl : 1 + 1 ≤ 14) hD) (S_F_hour hfl (Nat.le_refl _) h f1_)) (fun v258 h257 => ?_))
        refine y_aload_n d_W_law_1427 rfl ?_
        refine y_gO (fun fs1 g1 => y_cI (c_vi (rest := [.int v258]) d_W_law_1428 k_R_hour s_W_236 (Or.inl ⟨_, _, _, g1, rfl, rfl⟩) rfl rfl (Nat.le_of_ble_eq_true rfl) (Nat.le_trans (Nat.le_of_ble_eq_true rfl : 1 + 1 ≤ 14) hD) (S_R_hour hfl (Nat.le_refl _) h257 f2_)) (fun v260 h259 => ?_))
        refine y_icmp_eq (tgt := 2811) d_W_law_1431 (by decide) ?_ ?_
        · exact Hj15 h259
        · refine y_iconst (v := (J 0)) d_W_law_1434 rfl ?_
          exact y_retI d_W_law_1435 rfl (by decide +kernel)
      refine y_tabIn (tgt := 1436) d_W_law_44 hn (by decide +kernel) rfl (by decide) ?_ ?_
      · refine y_aload_n d_W_law_1436 rfl ?_
        refine y_aload_n d_W_law_1437 rfl ?_
        refine y_iload d_W_law_1438 rfl ?_
        refine y_iconst (v := (J 1)) d_W_law_1440 rfl ?_
        refine y_iadd (v := (v5_ + (J 1))) d_W_law_1441 rfl ?_
        refine y_oldX d_W_law_1442 (fun v261 => ?_)
        refine y_aload_n d_W_law_1443 rfl ?_
        refine y_cI (c_st (rest := []) d_W_law_1444 k_W_levelAfter s_W_237 rfl rfl (Nat.le_of_ble_eq_true rfl) (Nat.le_trans (Nat.le_of_ble_eq_true rfl : 8 + 1 ≤ 14) hD) (S_W_levelAfter hfl (Nat.le_refl _) h f1_ v261 f3_)) (fun v263 h262 => ?_)
        refine y_istore (loc2 := [some (.ref (mwad Θ 40)), some (.ref f1_), some (.ref f2_), some (.ref f3_), some (.ref f4_), some (.int v5_), some (.int v263), none, none, none]) d_W_law_1447 (Nat.le_of_ble_eq_true rfl) rfl rfl ?_
        refine y_aload_n d_W_law_1449 rfl ?_
        refine y_aload_n d_W_law_1450 rfl ?_
        refine y_iload d_W_law_1451 rfl ?_
        refine y_iconst (v := (J 1)) d_W_law_1453 rfl ?_
        refine y_iadd (v := (v5_ + (J 1))) d_W_law_1454 rfl ?_
        refine y_oldX d_W_law_1455 (fun v264 => ?_)
        refine y_gO (fun fs1 g1 => y_cI (c_vi (rest := []) d_W_law_1456 k_R_levelAfter s_W_239 (Or.inl ⟨_, _, _, g1, rfl, rfl⟩) rfl rfl (Nat.le_of_ble_eq_true rfl) (Nat.le_trans (Nat.le_of_ble_eq_true rfl : 3 + 1 ≤ 14) hD) (S_R_levelAfter hfl (Nat.le_refl _) h262 f2_ v264)) (fun v266 h265 => ?_))
        refine y_istore (loc2 := [some (.ref (mwad Θ 40)), some (.ref f1_), some (.ref f2_), some (.ref f3_), some (.ref f4_), some (.int v5_), some (.int v263), some (.int v266), none, none]) d_W_law_1459 (Nat.le_of_ble_eq_true rfl) rfl rfl ?_
        refine y_aload_n d_W_law_1461 rfl ?_
        refine y_gO (fun fs1 g1 => y_cI (c_vi (rest := []) d_W_law_1462 k_R_thrown s_W_161 (Or.inl ⟨_, _, _, g1, rfl, rfl⟩) rfl rfl (Nat.le_of_ble_eq_true rfl) (Nat.le_trans (Nat.le_of_ble_eq_true rfl : 1 + 1 ≤ 14) hD) (S_R_thrown hfl (Nat.le_refl _) h265 f2_)) (fun v268 h267 => ?_))
        refine y_iload d_W_law_1465 rfl ?_
        refine y_icmp_eq (tgt := 1472) d_W_law_1467 (by decide) ?_ ?_
        · refine y_iload d_W_law_1472 rfl ?_
          refine y_jn (C := fun (j9 : mH → Option (Int32 × mH)) => ∀ (h270 : mH), mY l Θ d M_W_law 1489 [some (.ref (mwad Θ 40)), some (.ref f1_), some (.ref f2_), some (.ref f3_), some (.ref f4_), some (.int v5_), none, none, none, none] [] h270 (tR vI) (j9 h270)) (fun h270 => ?_) (fun j269 Hj269 => ?_)
          · refine y_goto (tgt := 2811) d_W_law_1489 (by decide) ?_
            exact Hj15 h270
          · refine y_if_ne (tgt := 1489) d_W_law_1474 (by decide) ?_ ?_
            · exact y_wk (loc2 := [some (.ref (mwad Θ 40)), some (.ref f1_), some (.ref f2_), some (.ref f3_), some (.ref f4_), some (.int v5_), none, none, none, none]) ⟨rfl, ⟨rfl, ⟨rfl, ⟨rfl, ⟨rfl, ⟨rfl, trivial⟩⟩⟩⟩⟩⟩ (Hj269 h267)
            · refine y_aload_n d_W_law_1477 rfl ?_
              refine y_iconst (v := (J 0)) d_W_law_1478 rfl ?_
              refine y_lald d_W_law_1479 (fun v271 => ?_)
              refine y_iload d_W_law_1480 rfl ?_
              refine y_i2l (v := ((v266).toInt64)) d_W_law_1482 rfl ?_
              refine y_lcmp (v := (lg_cmp v271 ((v266).toInt64))) d_W_law_1483 rfl ?_
              refine y_if_eq (tgt := 1489) d_W_law_1484 (by decide) ?_ ?_
              · exact y_wk (loc2 := [some (.ref (mwad Θ 40)), some (.ref f1_), some (.ref f2_), some (.ref f3_), some (.ref f4_), some (.int v5_), none, none, none, none]) ⟨rfl, ⟨rfl, ⟨rfl, ⟨rfl, ⟨rfl, ⟨rfl, trivial⟩⟩⟩⟩⟩⟩ (Hj269 h267)
              · refine y_iconst (v := (J 0)) d_W_law_1487 rfl ?_
                exact y_retI d_W_law_1488 rfl (by decide +kernel)
        · refine y_iconst (v := (J 0)) d_W_law_1470 rfl ?_
          exact y_retI d_W_law_1471 rfl (by decide +kernel)
      refine y_tabIn (tgt := 1492) d_W_law_44 hn (by decide +kernel) rfl (by decide) ?_ ?_
      · refine y_aload_n d_W_law_1492 rfl ?_
        refine y_aload_n d_W_law_1493 rfl ?_
        refine y_iload d_W_law_1494 rfl ?_
        refine y_iconst (v := (J 1)) d_W_law_1496 rfl ?_
        refine y_iadd (v := (v5_ + (J 1))) d_W_law_1497 rfl ?_
        refine y_oldX d_W_law_1498 (fun v272 => ?_)
        refine y_aload_n d_W_law_1499 rfl ?_
        refine y_cI (c_st (rest := []) d_W_law_1500 k_W_hoursUntilAfloat s_W_240 rfl rfl (Nat.le_of_ble_eq_true rfl) (Nat.le_trans (Nat.le_of_ble_eq_true rfl : 9 + 1 ≤ 14) hD) (S_W_hoursUntilAfloat hfl (Nat.le_refl _) h f1_ v272 f3_)) (fun v274 h273 => ?_)
        refine y_istore (loc2 := [some (.ref (mwad Θ 40)), some (.ref f1_), some (.ref f2_), some (.ref f3_), some (.ref f4_), some (.int v5_), some (.int v274), none, none, none]) d_W_law_1503 (Nat.le_of_ble_eq_true rfl) rfl rfl ?_
        refine y_aload_n d_W_law_1505 rfl ?_
        refine y_aload_n d_W_law_1506 rfl ?_
        refine y_iload d_W_law_1507 rfl ?_
        refine y_iconst (v := (J 1)) d_W_law_1509 rfl ?_
        refine y_iadd (v := (v5_ + (J 1))) d_W_law_1510 rfl ?_
        refine y_oldX d_W_law_1511 (fun v275 => ?_)
        refine y_gO (fun fs1 g1 => y_cI (c_vi (rest := []) d_W_law_1512 k_R_hoursUntilAfloat s_W_242 (Or.inl ⟨_, _, _, g1, rfl, rfl⟩) rfl rfl (Nat.le_of_ble_eq_true rfl) (Nat.le_trans (Nat.le_of_ble_eq_true rfl : 5 + 1 ≤ 14) hD) (S_R_hoursUntilAfloat hfl (Nat.le_refl _) h273 f2_ v275)) (fun v277 h276 => ?_))
        refine y_istore (loc2 := [some (.ref (mwad Θ 40)), some (.ref f1_), some (.ref f2_), some (.ref f3_), some (.ref f4_), some (.int v5_), some (.int v274), some (.int v277), none, none]) d_W_law_1515 (Nat.le_of_ble_eq_true rfl) rfl rfl ?_
        refine y_aload_n d_W_law_1517 rfl ?_
        refine y_gO (fun fs1 g1 => y_cI (c_vi (rest := []) d_W_law_1518 k_R_thrown s_W_161 (Or.inl ⟨_, _, _, g1, rfl, rfl⟩) rfl rfl (Nat.le_of_ble_eq_true rfl) (Nat.le_trans (Nat.le_of_ble_eq_true rfl : 1 + 1 ≤ 14) hD) (S_R_thrown hfl (Nat.le_refl _) h276 f2_)) (fun v279 h278 => ?_))
        refine y_iload d_W_law_1521 rfl ?_
        refine y_icmp_eq (tgt := 1528) d_W_law_1523 (by decide) ?_ ?_
        · refine y_iload d_W_law_1528 rfl ?_
          refine y_jn (C := fun (j9 : mH → Option (Int32 × mH)) => ∀ (h281 : mH), mY l Θ d M_W_law 1545 [some (.ref (mwad Θ 40)), some (.ref f1_), some (.ref f2_), some (.ref f3_), some (.ref f4_), some (.int v5_), none, none, none, none] [] h281 (tR vI) (j9 h281)) (fun h281 => ?_) (fun j280 Hj280 => ?_)
          · refine y_goto (tgt := 2811) d_W_law_1545 (by decide) ?_
            exact Hj15 h281
          · refine y_if_ne (tgt := 1545) d_W_law_1530 (by decide) ?_ ?_
            · exact y_wk (loc2 := [some (.ref (mwad Θ 40)), some (.ref f1_), some (.ref f2_), some (.ref f3_), some (.ref f4_), some (.int v5_), none, none, none, none]) ⟨rfl, ⟨rfl, ⟨rfl, ⟨rfl, ⟨rfl, ⟨rfl, trivial⟩⟩⟩⟩⟩⟩ (Hj280 h278)
            · refine y_aload_n d_W_law_1533 rfl ?_
              refine y_iconst (v := (J 0)) d_W_law_1534 rfl ?_
              refine y_lald d_W_law_1535 (fun v282 => ?_)
              refine y_iload d_W_law_1536 rfl ?_
              refine y_i2l (v := ((v277).toInt64)) d_W_law_1538 rfl ?_
              refine y_lcmp (v := (lg_cmp v282 ((v277).toInt64))) d_W_law_1539 rfl ?_
              refine y_if_eq (tgt := 1545) d_W_law_1540 (by decide) ?_ ?_
              · exact y_wk (loc2 := [some (.ref (mwad Θ 40)), some (.ref f1_), some (.ref f2_), some (.ref f3_), some (.ref f4_), some (.int v5_), none, none, none, none]) ⟨rfl, ⟨rfl, ⟨rfl, ⟨rfl, ⟨rfl, ⟨rfl, trivial⟩⟩⟩⟩⟩⟩ (Hj280 h278)
              · refine y_iconst (v := (J 0)) d_W_law_1543 rfl ?_
                exact y_retI d_W_law_1544 rfl (by decide +kernel)
        · refine y_iconst (v := (J 0)) d_W_law_1526 rfl ?_
          exact y_retI d_W_law_1527 rfl (by decide +kernel)
      refine y_tabIn (tgt := 1548) d_W_law_44 hn (by decide +kernel) rfl (by decide) ?_ ?_
      · refine y_aload_n d_W_law_1548 rfl ?_
        refine y_aload_n d_W_law_1549 rfl ?_
        refine y_iload d_W_law_1550 rfl ?_
        refine y_iconst (v := (J 1)) d_W_law_1552 rfl ?_
        refine y_iadd (v := (v5_ + (J 1))) d_W_law_1553 rfl ?_
        refine y_oldX d_W_law_1554 (fun v283 => ?_)
        refine y_aload_n d_W_law_1555 rfl ?_
        refine y_cI (c_st (rest := []) d_W_law_1556 k_W_placeBlock s_W_243 rfl rfl (Nat.le_of_ble_eq_true rfl) (Nat.le_trans (Nat.le_of_ble_eq_true rfl : 9 + 1 ≤ 14) hD) (S_W_placeBlock hfl (Nat.le_refl _) h f1_ v283 f3_)) (fun v285 h284 => ?_)
        refine y_istore (loc2 := [some (.ref (mwad Θ 40)), some (.ref f1_), some (.ref f2_), some (.ref f3_), some (.ref f4_), some (.int v5_), some (.int v285), none, none, none]) d_W_law_1559 (Nat.le_of_ble_eq_true rfl) rfl rfl ?_
        refine y_aload_n d_W_law_1561 rfl ?_
        refine y_aload_n d_W_law_1562 rfl ?_
        refine y_iload d_W_law_1563 rfl ?_
        refine y_iconst (v := (J 1)) d_W_law_1565 rfl ?_
        refine y_iadd (v := (v5_ + (J 1))) d_W_law_1566 rfl ?_
        refine y_oldX d_W_law_1567 (fun v286 => ?_)
        refine y_gO (fun fs1 g1 => y_cI (c_vi (rest := []) d_W_law_1568 k_R_placeBlock s_W_245 (Or.inl ⟨_, _, _, g1, rfl, rfl⟩) rfl rfl (Nat.le_of_ble_eq_true rfl) (Nat.le_trans (Nat.le_of_ble_eq_true rfl : 6 + 1 ≤ 14) hD) (S_R_placeBlock hfl (Nat.le_refl _) h284 f2_ v286)) (fun v288 h287 => ?_))
        refine y_istore (loc2 := [some (.ref (mwad Θ 40)), some (.ref f1_), some (.ref f2_), some (.ref f3_), some (.ref f4_), some (.int v5_), some (.int v285), some (.int v288), none, none]) d_W_law_1571 (Nat.le_of_ble_eq_true rfl) rfl rfl ?_
        refine y_aload_n d_W_law_1573 rfl ?_
        refine y_gO (fun fs1 g1 => y_cI (c_vi (rest := []) d_W_law_1574 k_R_thrown s_W_161 (Or.inl ⟨_, _, _, g1, rfl, rfl⟩) rfl rfl (Nat.le_of_ble_eq_true rfl) (Nat.le_trans (Nat.le_of_ble_eq_true rfl : 1 + 1 ≤ 14) hD) (S_R_thrown hfl (Nat.le_refl _) h287 f2_)) (fun v290 h289 => ?_))
        refine y_iload d_W_law_1577 rfl ?_
        refine y_icmp_eq (tgt := 1584) d_W_law_1579 (by decide) ?_ ?_
        · refine y_iload d_W_law_1584 rfl ?_
          refine y_jn (C := fun (j9 : mH → Option (Int32 × mH)) => ∀ (h292 : mH), mY l Θ d M_W_law 1601 [some (.ref (mwad Θ 40)), some (.ref f1_), some (.ref f2_), some (.ref f3_), some (.ref f4_), some (.int v5_), none, none, none, none] [] h292 (tR vI) (j9 h292)) (fun h292 => ?_) (fun j291 Hj291 => ?_)
          · refine y_goto (tgt := 2811) d_W_law_1601 (by decide) ?_
            exact Hj15 h292
          · refine y_if_ne (tgt := 1601) d_W_law_1586 (by decide) ?_ ?_
            · exact y_wk (loc2 := [some (.ref (mwad Θ 40)), some (.ref f1_), some (.ref f2_), some (.ref f3_), some (.ref f4_), some (.int v5_), none, none, none, none]) ⟨rfl, ⟨rfl, ⟨rfl, ⟨rfl, ⟨rfl, ⟨rfl, trivial⟩⟩⟩⟩⟩⟩ (Hj291 h289)
            · refine y_aload_n d_W_law_1589 rfl ?_
              refine y_iconst (v := (J 0)) d_W_law_1590 rfl ?_
              refine y_lald d_W_law_1591 (fun v293 => ?_)
              refine y_iload d_W_law_1592 rfl ?_
              refine y_i2l (v := ((v288).toInt64)) d_W_law_1594 rfl ?_
              refine y_lcmp (v := (lg_cmp v293 ((v288).toInt64))) d_W_law_1595 rfl ?_
              refine y_if_eq (tgt := 1601) d_W_law_1596 (by decide) ?_ ?_
              · exact y_wk (loc2 := [some (.ref (mwad Θ 40)), some (.ref f1_), some (.ref f2_), some (.ref f3_), some (.ref f4_), some (.int v5_), none, none, none, none]) ⟨rfl, ⟨rfl, ⟨rfl, ⟨rfl, ⟨rfl, ⟨rfl, trivial⟩⟩⟩⟩⟩⟩ (Hj291 h289)
              · refine y_iconst (v := (J 0)) d_W_law_1599 rfl ?_
                exact y_retI d_W_law_1600 rfl (by decide +kernel)
        · refine y_iconst (v := (J 0)) d_W_law_1582 rfl ?_
          exact y_retI d_W_law_1583 rfl (by decide +kernel)
      refine y_tabIn (tgt := 1604) d_W_law_44 hn (by decide +kernel) rfl (by decide) ?_ ?_
      · refine y_aload_n d_W_law_1604 rfl ?_
        refine y_aload_n d_W_law_1605 rfl ?_
        refine y_iload d_W_law_1606 rfl ?_
        refine y_iconst (v := (J 1)) d_W_law_1608 rfl ?_
        refine y_iadd (v := (v5_ + (J 1))) d_W_law_1609 rfl ?_
        refine y_oldX d_W_law_1610 (fun v294 => ?_)
        refine y_aload_n d_W_law_1611 rfl ?_
        refine y_cI (c_st (rest := []) d_W_law_1612 k_W_removeBlock s_W_246 rfl rfl (Nat.le_of_ble_eq_true rfl) (Nat.le_trans (Nat.le_of_ble_eq_true rfl : 9 + 1 ≤ 14) hD) (S_W_removeBlock hfl (Nat.le_refl _) h f1_ v294 f3_)) (fun v296 h295 => ?_)
        refine y_istore (loc2 := [some (.ref (mwad Θ 40)), some (.ref f1_), some (.ref f2_), some (.ref f3_), some (.ref f4_), some (.int v5_), some (.int v296), none, none, none]) d_W_law_1615 (Nat.le_of_ble_eq_true rfl) rfl rfl ?_
        refine y_aload_n d_W_law_1617 rfl ?_
        refine y_aload_n d_W_law_1618 rfl ?_
        refine y_iload d_W_law_1619 rfl ?_
        refine y_iconst (v := (J 1)) d_W_law_1621 rfl ?_
        refine y_iadd (v := (v5_ + (J 1))) d_W_law_1622 rfl ?_
        refine y_oldX d_W_law_1623 (fun v297 => ?_)
        refine y_gO (fun fs1 g1 => y_cI (c_vi (rest := []) d_W_law_1624 k_R_removeBlock s_W_248 (Or.inl ⟨_, _, _, g1, rfl, rfl⟩) rfl rfl (Nat.le_of_ble_eq_true rfl) (Nat.le_trans (Nat.le_of_ble_eq_true rfl : 6 + 1 ≤ 14) hD) (S_R_removeBlock hfl (Nat.le_refl _) h295 f2_ v297)) (fun v299 h298 => ?_))
        refine y_istore (loc2 := [some (.ref (mwad Θ 40)), some (.ref f1_), some (.ref f2_), some (.ref f3_), some (.ref f4_), some (.int v5_), some (.int v296), some (.int v299), none, none]) d_W_law_1627 (Nat.le_of_ble_eq_true rfl) rfl rfl ?_
        refine y_aload_n d_W_law_1629 rfl ?_
        refine y_gO (fun fs1 g1 => y_cI (c_vi (rest := []) d_W_law_1630 k_R_thrown s_W_161 (Or.inl ⟨_, _, _, g1, rfl, rfl⟩) rfl rfl (Nat.le_of_ble_eq_true rfl) (Nat.le_trans (Nat.le_of_ble_eq_true rfl : 1 + 1 ≤ 14) hD) (S_R_thrown hfl (Nat.le_refl _) h298 f2_)) (fun v301 h300 => ?_))
        refine y_iload d_W_law_1633 rfl ?_
        refine y_icmp_eq (tgt := 1640) d_W_law_1635 (by decide) ?_ ?_
        · refine y_iload d_W_law_1640 rfl ?_
          refine y_jn (C := fun (j9 : mH → Option (Int32 × mH)) => ∀ (h303 : mH), mY l Θ d M_W_law 1657 [some (.ref (mwad Θ 40)), some (.ref f1_), some (.ref f2_), some (.ref f3_), some (.ref f4_), some (.int v5_), none, none, none, none] [] h303 (tR vI) (j9 h303)) (fun h303 => ?_) (fun j302 Hj302 => ?_)
          · refine y_goto (tgt := 2811) d_W_law_1657 (by decide) ?_
            exact Hj15 h303
          · refine y_if_ne (tgt := 1657) d_W_law_1642 (by decide) ?_ ?_
            · exact y_wk (loc2 := [some (.ref (mwad Θ 40)), some (.ref f1_), some (.ref f2_), some (.ref f3_), some (.ref f4_), some (.int v5_), none, none, none, none]) ⟨rfl, ⟨rfl, ⟨rfl, ⟨rfl, ⟨rfl, ⟨rfl, trivial⟩⟩⟩⟩⟩⟩ (Hj302 h300)
            · refine y_aload_n d_W_law_1645 rfl ?_
              refine y_iconst (v := (J 0)) d_W_law_1646 rfl ?_
              refine y_lald d_W_law_1647 (fun v304 => ?_)
              refine y_iload d_W_law_1648 rfl ?_
              refine y_i2l (v := ((v299).toInt64)) d_W_law_1650 rfl ?_
              refine y_lcmp (v := (lg_cmp v304 ((v299).toInt64))) d_W_law_1651 rfl ?_
              refine y_if_eq (tgt := 1657) d_W_law_1652 (by decide) ?_ ?_
              · exact y_wk (loc2 := [some (.ref (mwad Θ 40)), some (.ref f1_), some (.ref f2_), some (.ref f3_), some (.ref f4_), some (.int v5_), none, none, none, none]) ⟨rfl, ⟨rfl, ⟨rfl, ⟨rfl, ⟨rfl, ⟨rfl, trivial⟩⟩⟩⟩⟩⟩ (Hj302 h300)
              · refine y_iconst (v := (J 0)) d_W_law_1655 rfl ?_
                exact y_retI d_W_law_1656 rfl (by decide +kernel)
        · refine y_iconst (v := (J 0)) d_W_law_1638 rfl ?_
          exact y_retI d_W_law_1639 rfl (by decide +kernel)
      refine y_tabIn (tgt := 1660) d_W_law_44 hn (by decide +kernel) rfl (by decide) ?_ ?_
      · refine y_aload_n d_W_law_1660 rfl ?_
        refine y_aload_n d_W_law_1661 rfl ?_
        refine y_iload d_W_law_1662 rfl ?_
        refine y_iconst (v := (J 1)) d_W_law_1664 rfl ?_
        refine y_iadd (v := (v5_ + (J 1))) d_W_law_1665 rfl ?_
        refine y_oldX d_W_law_1666 (fun v305 => ?_)
        refine y_aload_n d_W_law_1667 rfl ?_
        refine y_cI (c_st (rest := []) d_W_law_1668 k_W_hasBlock s_W_249 rfl rfl (Nat.le_of_ble_eq_true rfl) (Nat.le_trans (Nat.le_of_ble_eq_true rfl : 8 + 1 ≤ 14) hD) (S_W_hasBlock hfl (Nat.le_refl _) h f1_ v305 f3_)) (fun v307 h306 => ?_)
        refine y_istore (loc2 := [some (.ref (mwad Θ 40)), some (.ref f1_), some (.ref f2_), some (.ref f3_), some (.ref f4_), some (.int v5_), some (.int v307), none, none, none]) d_W_law_1671 (Nat.le_of_ble_eq_true rfl) rfl rfl ?_
        refine y_aload_n d_W_law_1673 rfl ?_
        refine y_aload_n d_W_law_1674 rfl ?_
        refine y_iload d_W_law_1675 rfl ?_
        refine y_iconst (v := (J 1)) d_W_law_1677 rfl ?_
        refine y_iadd (v := (v5_ + (J 1))) d_W_law_1678 rfl ?_
        refine y_oldX d_W_law_1679 (fun v308 => ?_)
        refine y_gO (fun fs1 g1 => y_cI (c_vi (rest := []) d_W_law_1680 k_R_hasBlock s_W_251 (Or.inl ⟨_, _, _, g1, rfl, rfl⟩) rfl rfl (Nat.le_of_ble_eq_true rfl) (Nat.le_trans (Nat.le_of_ble_eq_true rfl : 4 + 1 ≤ 14) hD) (S_R_hasBlock hfl (Nat.le_refl _) h306 f2_ v308)) (fun v310 h309 => ?_))
        refine y_istore (loc2 := [some (.ref (mwad Θ 40)), some (.ref f1_), some (.ref f2_), some (.ref f3_), some (.ref f4_), some (.int v5_), some (.int v307), some (.int v310), none, none]) d_W_law_1683 (Nat.le_of_ble_eq_true rfl) rfl rfl ?_
        refine y_aload_n d_W_law_1685 rfl ?_
        refine y_gO (fun fs1 g1 => y_cI (c_vi (rest := []) d_W_law_1686 k_R_thrown s_W_161 (Or.inl ⟨_, _, _, g1, rfl, rfl⟩) rfl rfl (Nat.le_of_ble_eq_true rfl) (Nat.le_trans (Nat.le_of_ble_eq_true rfl : 1 + 1 ≤ 14) hD) (S_R_thrown hfl (Nat.le_refl _) h309 f2_)) (fun v312 h311 => ?_))
        refine y_iload d_W_law_1689 rfl ?_
        refine y_icmp_eq (tgt := 1696) d_W_law_1691 (by decide) ?_ ?_
        · refine y_iload d_W_law_1696 rfl ?_
          refine y_jn (C := fun (j9 : mH → Option (Int32 × mH)) => ∀ (h314 : mH), mY l Θ d M_W_law 1720 [some (.ref (mwad Θ 40)), some (.ref f1_), some (.ref f2_), some (.ref f3_), some (.ref f4_), some (.int v5_), none, none, none, none] [] h314 (tR vI) (j9 h314)) (fun h314 => ?_) (fun j313 Hj313 => ?_)
          · refine y_goto (tgt := 2811) d_W_law_1720 (by decide) ?_
            exact Hj15 h314
          · refine y_if_ne (tgt := 1720) d_W_law_1698 (by decide) ?_ ?_
            · exact y_wk (loc2 := [some (.ref (mwad Θ 40)), some (.ref f1_), some (.ref f2_), some (.ref f3_), some (.ref f4_), some (.int v5_), none, none, none, none]) ⟨rfl, ⟨rfl, ⟨rfl, ⟨rfl, ⟨rfl, ⟨rfl, trivial⟩⟩⟩⟩⟩⟩ (Hj313 h311)
            · refine y_aload_n d_W_law_1701 rfl ?_
              refine y_iconst (v := (J 0)) d_W_law_1702 rfl ?_
              refine y_lald d_W_law_1703 (fun v315 => ?_)
              refine y_iload d_W_law_1704 rfl ?_
              refine y_jn (C := fun (j9 : mH → Int64 → Option (Int32 × mH)) => ∀ (h317 : mH) (s318 : Int64), mY l Θ d M_W_law 1714 [some (.ref (mwad Θ 40)), some (.ref f1_), some (.ref f2_), some (.ref f3_), some (.ref f4_), some (.int v5_), none, none, none, none] [.long s318, .long v315] h317 (tR vI) (j9 h317 s318)) (fun h317 s318 => ?_) (fun j316 Hj316 => ?_)
              · refine y_lcmp (v := (lg_cmp v315 s318)) d_W_law_1714 rfl ?_
                refine y_if_eq (tgt := 1720) d_W_law_1715 (by decide) ?_ ?_
                · exact Hj313 h317
                · refine y_iconst (v := (J 0)) d_W_law_1718 rfl ?_
                  exact y_retI d_W_law_1719 rfl (by decide +kernel)
              · refine y_if_eq (tgt := 1713) d_W_law_1706 (by decide) ?_ ?_
                · refine y_lconst (v := (0 : Int64)) d_W_law_1713 (by decide) ?_
                  exact y_wk (loc2 := [some (.ref (mwad Θ 40)), some (.ref f1_), some (.ref f2_), some (.ref f3_), some (.ref f4_), some (.int v5_), none, none, none, none]) ⟨rfl, ⟨rfl, ⟨rfl, ⟨rfl, ⟨rfl, ⟨rfl, trivial⟩⟩⟩⟩⟩⟩ (Hj316 h311 (0 : Int64))
                · refine y_lconst (v := (1 : Int64)) d_W_law_1709 (by decide) ?_
                  refine y_goto (tgt := 1714) d_W_law_1710 (by decide) ?_
                  exact y_wk (loc2 := [some (.ref (mwad Θ 40)), some (.ref f1_), some (.ref f2_), some (.ref f3_), some (.ref f4_), some (.int v5_), none, none, none, none]) ⟨rfl, ⟨rfl, ⟨rfl, ⟨rfl, ⟨rfl, ⟨rfl, trivial⟩⟩⟩⟩⟩⟩ (Hj316 h311 (1 : Int64))
        · refine y_iconst (v := (J 0)) d_W_law_1694 rfl ?_
          exact y_retI d_W_law_1695 rfl (by decide +kernel)
      refine y_tabIn (tgt := 1723) d_W_law_44 hn (by decide +kernel) rfl (by decide) ?_ ?_
      · refine y_aload_n d_W_law_1723 rfl ?_
        refine y_aload_n d_W_law_1724 rfl ?_
        refine y_iload d_W_law_1725 rfl ?_
        refine y_iconst (v := (J 1)) d_W_law_1727 rfl ?_
        refine y_iadd (v := (v5_ + (J 1))) d_W_law_1728 rfl ?_
        refine y_oldX d_W_law_1729 (fun v319 => ?_)
        refine y_aload_n d_W_law_1730 rfl ?_
        refine y_cI (c_st (rest := []) d_W_law_1731 k_W_blocksBeneath s_W_252 rfl rfl (Nat.le_of_ble_eq_true rfl) (Nat.le_trans (Nat.le_of_ble_eq_true rfl : 8 + 1 ≤ 14) hD) (S_W_blocksBeneath hfl (Nat.le_refl _) h f1_ v319 f3_)) (fun v321 h320 => ?_)
        refine y_istore (loc2 := [some (.ref (mwad Θ 40)), some (.ref f1_), some (.ref f2_), some (.ref f3_), some (.ref f4_), some (.int v5_), some (.int v321), none, none, none]) d_W_law_1734 (Nat.le_of_ble_eq_true rfl) rfl rfl ?_
        refine y_aload_n d_W_law_1736 rfl ?_
        refine y_aload_n d_W_law_1737 rfl ?_
        refine y_iload d_W_law_1738 rfl ?_
        refine y_iconst (v := (J 1)) d_W_law_1740 rfl ?_
        refine y_iadd (v := (v5_ + (J 1))) d_W_law_1741 rfl ?_
        refine y_oldX d_W_law_1742 (fun v322 => ?_)
        refine y_gO (fun fs1 g1 => y_cI (c_vi (rest := []) d_W_law_1743 k_R_blocksBeneath s_W_254 (Or.inl ⟨_, _, _, g1, rfl, rfl⟩) rfl rfl (Nat.le_of_ble_eq_true rfl) (Nat.le_trans (Nat.le_of_ble_eq_true rfl : 7 + 1 ≤ 14) hD) (S_R_blocksBeneath hfl (Nat.le_refl _) h320 f2_ v322)) (fun v324 h323 => ?_))
        refine y_istore (loc2 := [some (.ref (mwad Θ 40)), some (.ref f1_), some (.ref f2_), some (.ref f3_), some (.ref f4_), some (.int v5_), some (.int v321), some (.int v324), none, none]) d_W_law_1746 (Nat.le_of_ble_eq_true rfl) rfl rfl ?_
        refine y_aload_n d_W_law_1748 rfl ?_
        refine y_gO (fun fs1 g1 => y_cI (c_vi (rest := []) d_W_law_1749 k_R_thrown s_W_161 (Or.inl ⟨_, _, _, g1, rfl, rfl⟩) rfl rfl (Nat.le_of_ble_eq_true rfl) (Nat.le_trans (Nat.le_of_ble_eq_true rfl : 1 + 1 ≤ 14) hD) (S_R_thrown hfl (Nat.le_refl _) h323 f2_)) (fun v326 h325 => ?_))
        refine y_iload d_W_law_1752 rfl ?_
        refine y_icmp_eq (tgt := 1759) d_W_law_1754 (by decide) ?_ ?_
        · refine y_iload d_W_law_1759 rfl ?_
          refine y_jn (C := fun (j9 : mH → Option (Int32 × mH)) => ∀ (h328 : mH), mY l Θ d M_W_law 1776 [some (.ref (mwad Θ 40)), some (.ref f1_), some (.ref f2_), some (.ref f3_), some (.ref f4_), some (.int v5_), none, none, none, none] [] h328 (tR vI) (j9 h328)) (fun h328 => ?_) (fun j327 Hj327 => ?_)
          · refine y_goto (tgt := 2811) d_W_law_1776 (by decide) ?_
            exact Hj15 h328
          · refine y_if_ne (tgt := 1776) d_W_law_1761 (by decide) ?_ ?_
            · exact y_wk (loc2 := [some (.ref (mwad Θ 40)), some (.ref f1_), some (.ref f2_), some (.ref f3_), some (.ref f4_), some (.int v5_), none, none, none, none]) ⟨rfl, ⟨rfl, ⟨rfl, ⟨rfl, ⟨rfl, ⟨rfl, trivial⟩⟩⟩⟩⟩⟩ (Hj327 h325)
            · refine y_aload_n d_W_law_1764 rfl ?_
              refine y_iconst (v := (J 0)) d_W_law_1765 rfl ?_
              refine y_lald d_W_law_1766 (fun v329 => ?_)
              refine y_iload d_W_law_1767 rfl ?_
              refine y_i2l (v := ((v324).toInt64)) d_W_law_1769 rfl ?_
              refine y_lcmp (v := (lg_cmp v329 ((v324).toInt64))) d_W_law_1770 rfl ?_
              refine y_if_eq (tgt := 1776) d_W_law_1771 (by decide) ?_ ?_
              · exact y_wk (loc2 := [some (.ref (mwad Θ 40)), some (.ref f1_), some (.ref f2_), some (.ref f3_), some (.ref f4_), some (.int v5_), none, none, none, none]) ⟨rfl, ⟨rfl, ⟨rfl, ⟨rfl, ⟨rfl, ⟨rfl, trivial⟩⟩⟩⟩⟩⟩ (Hj327 h325)
              · refine y_iconst (v := (J 0)) d_W_law_1774 rfl ?_
                exact y_retI d_W_law_1775 rfl (by decide +kernel)
        · refine y_iconst (v := (J 0)) d_W_law_1757 rfl ?_
          exact y_retI d_W_law_1758 rfl (by decide +kernel)
      refine y_tabIn (tgt := 1779) d_W_law_44 hn (by decide +kernel) rfl (by decide) ?_ ?_
      · refine y_aload_n d_W_law_1779 rfl ?_
        refine y_aload_n d_W_law_1780 rfl ?_
        refine y_iload d_W_law_1781 rfl ?_
        refine y_iconst (v := (J 1)) d_W_law_1783 rfl ?_
        refine y_iadd (v := (v5_ + (J 1))) d_W_law_1784 rfl ?_
        refine y_oldX d_W_law_1785 (fun v330 => ?_)
        refine y_aload_n d_W_law_1786 rfl ?_
        refine y_cI (c_st (rest := []) d_W_law_1787 k_W_blocksBeneathByBlocks s_W_255 rfl rfl (Nat.le_of_ble_eq_true rfl) (Nat.le_trans (Nat.le_of_ble_eq_true rfl : 8 + 1 ≤ 14) hD) (S_W_blocksBeneathByBlocks hfl (Nat.le_refl _) h f1_ v330 f3_)) (fun v332 h331 => ?_)
        refine y_istore (loc2 := [some (.ref (mwad Θ 40)), some (.ref f1_), some (.ref f2_), some (.ref f3_), some (.ref f4_), some (.int v5_), some (.int v332), none, none, none]) d_W_law_1790 (Nat.le_of_ble_eq_true rfl) rfl rfl ?_
        refine y_aload_n d_W_law_1792 rfl ?_
        refine y_aload_n d_W_law_1793 rfl ?_
        refine y_iload d_W_law_1794 rfl ?_
        refine y_iconst (v := (J 1)) d_W_law_1796 rfl ?_
        refine y_iadd (v := (v5_ + (J 1))) d_W_law_1797 rfl ?_
        refine y_oldX d_W_law_1798 (fun v333 => ?_)
        refine y_gO (fun fs1 g1 => y_cI (c_vi (rest := []) d_W_law_1799 k_R_blocksBeneathByBlocks s_W_257 (Or.inl ⟨_, _, _, g1, rfl, rfl⟩) rfl rfl (Nat.le_of_ble_eq_true rfl) (Nat.le_trans (Nat.le_of_ble_eq_true rfl : 7 + 1 ≤ 14) hD) (S_R_blocksBeneathByBlocks hfl (Nat.le_refl _) h331 f2_ v333)) (fun v335 h334 => ?_))
        refine y_istore (loc2 := [some (.ref (mwad Θ 40)), some (.ref f1_), some (.ref f2_), some (.ref f3_), some (.ref f4_), some (.int v5_), some (.int v332), some (.int v335), none, none]) d_W_law_1802 (Nat.le_of_ble_eq_true rfl) rfl rfl ?_
        refine y_aload_n d_W_law_1804 rfl ?_
        refine y_gO (fun fs1 g1 => y_cI (c_vi (rest := []) d_W_law_1805 k_R_thrown s_W_161 (Or.inl ⟨_, _, _, g1, rfl, rfl⟩) rfl rfl (Nat.le_of_ble_eq_true rfl) (Nat.le_trans (Nat.le_of_ble_eq_true rfl : 1 + 1 ≤ 14) hD) (S_R_thrown hfl (Nat.le_refl _) h334 f2_)) (fun v337 h336 => ?_))
        refine y_iload d_W_law_1808 rfl ?_
        refine y_icmp_eq (tgt := 1815) d_W_law_1810 (by decide) ?_ ?_
        · refine y_iload d_W_law_1815 rfl ?_
          refine y_jn (C := fun (j9 : mH → Option (Int32 × mH)) => ∀ (h339 : mH), mY l Θ d M_W_law 1832 [some (.ref (mwad Θ 40)), some (.ref f1_), some (.ref f2_), some (.ref f3_), some (.ref f4_), some (.int v5_), none, none, none, none] [] h339 (tR vI) (j9 h339)) (fun h339 => ?_) (fun j338 Hj338 => ?_)
          · refine y_goto (tgt := 2811) d_W_law_1832 (by decide) ?_
            exact Hj15 h339
          · refine y_if_ne (tgt := 1832) d_W_law_1817 (by decide) ?_ ?_
            · exact y_wk (loc2 := [some (.ref (mwad Θ 40)), some (.ref f1_), some (.ref f2_), some (.ref f3_), some (.ref f4_), some (.int v5_), none, none, none, none]) ⟨rfl, ⟨rfl, ⟨rfl, ⟨rfl, ⟨rfl, ⟨rfl, trivial⟩⟩⟩⟩⟩⟩ (Hj338 h336)
            · refine y_aload_n d_W_law_1820 rfl ?_
              refine y_iconst (v := (J 0)) d_W_law_1821 rfl ?_
              refine y_lald d_W_law_1822 (fun v340 => ?_)
              refine y_iload d_W_law_1823 rfl ?_
              refine y_i2l (v := ((v335).toInt64)) d_W_law_1825 rfl ?_
              refine y_lcmp (v := (lg_cmp v340 ((v335).toInt64))) d_W_law_1826 rfl ?_
              refine y_if_eq (tgt := 1832) d_W_law_1827 (by decide) ?_ ?_
              · exact y_wk (loc2 := [some (.ref (mwad Θ 40)), some (.ref f1_), some (.ref f2_), some (.ref f3_), some (.ref f4_), some (.int v5_), none, none, none, none]) ⟨rfl, ⟨rfl, ⟨rfl, ⟨rfl, ⟨rfl, ⟨rfl, trivial⟩⟩⟩⟩⟩⟩ (Hj338 h336)
              · refine y_iconst (v := (J 0)) d_W_law_1830 rfl ?_
                exact y_retI d_W_law_1831 rfl (by decide +kernel)
        · refine y_iconst (v := (J 0)) d_W_law_1813 rfl ?_
          exact y_retI d_W_law_1814 rfl (by decide +kernel)
      refine y_tabIn (tgt := 1835) d_W_law_44 hn (by decide +kernel) rfl (by decide) ?_ ?_
      · refine y_aload_n d_W_law_1835 rfl ?_
        refine y_aload_n d_W_law_1836 rfl ?_
        refine y_iload d_W_law_1837 rfl ?_
        refine y_iconst (v := (J 1)) d_W_law_1839 rfl ?_
        refine y_iadd (v := (v5_ + (J 1))) d_W_law_1840 rfl ?_
        refine y_oldX d_W_law_1841 (fun v341 => ?_)
        refine y_aload_n d_W_law_1842 rfl ?_
        refine y_cI (c_st (rest := []) d_W_law_1843 k_W_shipAtPosition s_W_258 rfl rfl (Nat.le_of_ble_eq_true rfl) (Nat.le_trans (Nat.le_of_ble_eq_true rfl : 8 + 1 ≤ 14) hD) (S_W_shipAtPosition hfl (Nat.le_refl _) h f1_ v341 f3_)) (fun v343 h342 => ?_)
        refine y_istore (loc2 := [some (.ref (mwad Θ 40)), some (.ref f1_), some (.ref f2_), some (.ref f3_), some (.ref f4_), some (.int v5_), some (.int v343), none, none, none]) d_W_law_1846 (Nat.le_of_ble_eq_true rfl) rfl rfl ?_
        refine y_aload_n d_W_law_1848 rfl ?_
        refine y_aload_n d_W_law_1849 rfl ?_
        refine y_iload d_W_law_1850 rfl ?_
        refine y_iconst (v := (J 1)) d_W_law_1852 rfl ?_
        refine y_iadd (v := (v5_ + (J 1))) d_W_law_1853 rfl ?_
        refine y_oldX d_W_law_1854 (fun v344 => ?_)
        refine y_gO (fun fs1 g1 => y_cI (c_vi (rest := []) d_W_law_1855 k_R_shipAtPosition s_W_260 (Or.inl ⟨_, _, _, g1, rfl, rfl⟩) rfl rfl (Nat.le_of_ble_eq_true rfl) (Nat.le_trans (Nat.le_of_ble_eq_true rfl : 5 + 1 ≤ 14) hD) (S_R_shipAtPosition hfl (Nat.le_refl _) h342 f2_ v344)) (fun v346 h345 => ?_))
        refine y_istore (loc2 := [some (.ref (mwad Θ 40)), some (.ref f1_), some (.ref f2_), some (.ref f3_), some (.ref f4_), some (.int v5_), some (.int v343), some (.int v346), none, none]) d_W_law_1858 (Nat.le_of_ble_eq_true rfl) rfl rfl ?_
        refine y_aload_n d_W_law_1860 rfl ?_
        refine y_gO (fun fs1 g1 => y_cI (c_vi (rest := []) d_W_law_1861 k_R_thrown s_W_161 (Or.inl ⟨_, _, _, g1, rfl, rfl⟩) rfl rfl (Nat.le_of_ble_eq_true rfl) (Nat.le_trans (Nat.le_of_ble_eq_true rfl : 1 + 1 ≤ 14) hD) (S_R_thrown hfl (Nat.le_refl _) h345 f2_)) (fun v348 h347 => ?_))
        refine y_iload d_W_law_1864 rfl ?_
        refine y_icmp_eq (tgt := 1871) d_W_law_1866 (by decide) ?_ ?_
        · refine y_iload d_W_law_1871 rfl ?_
          refine y_jn (C := fun (j9 : mH → Option (Int32 × mH)) => ∀ (h350 : mH), mY l Θ d M_W_law 1888 [some (.ref (mwad Θ 40)), some (.ref f1_), some (.ref f2_), some (.ref f3_), some (.ref f4_), some (.int v5_), none, none, none, none] [] h350 (tR vI) (j9 h350)) (fun h350 => ?_) (fun j349 Hj349 => ?_)
          · refine y_goto (tgt := 2811) d_W_law_1888 (by decide) ?_
            exact Hj15 h350
          · refine y_if_ne (tgt := 1888) d_W_law_1873 (by decide) ?_ ?_
            · exact y_wk (loc2 := [some (.ref (mwad Θ 40)), some (.ref f1_), some (.ref f2_), some (.ref f3_), some (.ref f4_), some (.int v5_), none, none, none, none]) ⟨rfl, ⟨rfl, ⟨rfl, ⟨rfl, ⟨rfl, ⟨rfl, trivial⟩⟩⟩⟩⟩⟩ (Hj349 h347)
            · refine y_aload_n d_W_law_1876 rfl ?_
              refine y_iconst (v := (J 0)) d_W_law_1877 rfl ?_
              refine y_lald d_W_law_1878 (fun v351 => ?_)
              refine y_iload d_W_law_1879 rfl ?_
              refine y_i2l (v := ((v346).toInt64)) d_W_law_1881 rfl ?_
              refine y_lcmp (v := (lg_cmp v351 ((v346).toInt64))) d_W_law_1882 rfl ?_
              refine y_if_eq (tgt := 1888) d_W_law_1883 (by decide) ?_ ?_
              · exact y_wk (loc2 := [some (.ref (mwad Θ 40)), some (.ref f1_), some (.ref f2_), some (.ref f3_), some (.ref f4_), some (.int v5_), none, none, none, none]) ⟨rfl, ⟨rfl, ⟨rfl, ⟨rfl, ⟨rfl, ⟨rfl, trivial⟩⟩⟩⟩⟩⟩ (Hj349 h347)
              · refine y_iconst (v := (J 0)) d_W_law_1886 rfl ?_
                exact y_retI d_W_law_1887 rfl (by decide +kernel)
        · refine y_iconst (v := (J 0)) d_W_law_1869 rfl ?_
          exact y_retI d_W_law_1870 rfl (by decide +kernel)
      refine y_tabIn (tgt := 1891) d_W_law_44 hn (by decide +kernel) rfl (by decide) ?_ ?_
      · refine y_aload_n d_W_law_1891 rfl ?_
        refine y_aload_n d_W_law_1892 rfl ?_
        refine y_iload d_W_law_1893 rfl ?_
        refine y_iconst (v := (J 1)) d_W_law_1895 rfl ?_
        refine y_iadd (v := (v5_ + (J 1))) d_W_law_1896 rfl ?_
        refine y_oldX d_W_law_1897 (fun v352 => ?_)
        refine y_aload_n d_W_law_1898 rfl ?_
        refine y_cI (c_st (rest := []) d_W_law_1899 k_W_firstGap s_W_261 rfl rfl (Nat.le_of_ble_eq_true rfl) (Nat.le_trans (Nat.le_of_ble_eq_true rfl : 8 + 1 ≤ 14) hD) (S_W_firstGap hfl (Nat.le_refl _) h f1_ v352 f3_)) (fun v354 h353 => ?_)
        refine y_istore (loc2 := [some (.ref (mwad Θ 40)), some (.ref f1_), some (.ref f2_), some (.ref f3_), some (.ref f4_), some (.int v5_), some (.int v354), none, none, none]) d_W_law_1902 (Nat.le_of_ble_eq_true rfl) rfl rfl ?_
        refine y_aload_n d_W_law_1904 rfl ?_
        refine y_aload_n d_W_law_1905 rfl ?_
        refine y_iload d_W_law_1906 rfl ?_
        refine y_iconst (v := (J 1)) d_W_law_1908 rfl ?_
        refine y_iadd (v := (v5_ + (J 1))) d_W_law_1909 rfl ?_
        refine y_oldX d_W_law_1910 (fun v355 => ?_)
        refine y_gO (fun fs1 g1 => y_cI (c_vi (rest := []) d_W_law_1911 k_R_firstGap s_W_263 (Or.inl ⟨_, _, _, g1, rfl, rfl⟩) rfl rfl (Nat.le_of_ble_eq_true rfl) (Nat.le_trans (Nat.le_of_ble_eq_true rfl : 7 + 1 ≤ 14) hD) (S_R_firstGap hfl (Nat.le_refl _) h353 f2_ v355)) (fun v357 h356 => ?_))
        refine y_istore (loc2 := [some (.ref (mwad Θ 40)), some (.ref f1_), some (.ref f2_), some (.ref f3_), some (.ref f4_), some (.int v5_), some (.int v354), some (.int v357), none, none]) d_W_law_1914 (Nat.le_of_ble_eq_true rfl) rfl rfl ?_
        refine y_aload_n d_W_law_1916 rfl ?_
        refine y_gO (fun fs1 g1 => y_cI (c_vi (rest := []) d_W_law_1917 k_R_thrown s_W_161 (Or.inl ⟨_, _, _, g1, rfl, rfl⟩) rfl rfl (Nat.le_of_ble_eq_true rfl) (Nat.le_trans (Nat.le_of_ble_eq_true rfl : 1 + 1 ≤ 14) hD) (S_R_thrown hfl (Nat.le_refl _) h356 f2_)) (fun v359 h358 => ?_))
        refine y_iload d_W_law_1920 rfl ?_
        refine y_icmp_eq (tgt := 1927) d_W_law_1922 (by decide) ?_ ?_
        · refine y_iload d_W_law_1927 rfl ?_
          refine y_jn (C := fun (j9 : mH → Option (Int32 × mH)) => ∀ (h361 : mH), mY l Θ d M_W_law 1944 [some (.ref (mwad Θ 40)), some (.ref f1_), some (.ref f2_), some (.ref f3_), some (.ref f4_), some (.int v5_), none, none, none, none] [] h361 (tR vI) (j9 h361)) (fun h361 => ?_) (fun j360 Hj360 => ?_)
          · refine y_goto (tgt := 2811) d_W_law_1944 (by decide) ?_
            exact Hj15 h361
          · refine y_if_ne (tgt := 1944) d_W_law_1929 (by decide) ?_ ?_
            · exact y_wk (loc2 := [some (.ref (mwad Θ 40)), some (.ref f1_), some (.ref f2_), some (.ref f3_), some (.ref f4_), some (.int v5_), none, none, none, none]) ⟨rfl, ⟨rfl, ⟨rfl, ⟨rfl, ⟨rfl, ⟨rfl, trivial⟩⟩⟩⟩⟩⟩ (Hj360 h358)
            · refine y_aload_n d_W_law_1932 rfl ?_
              refine y_iconst (v := (J 0)) d_W_law_1933 rfl ?_
              refine y_lald d_W_law_1934 (fun v362 => ?_)
              refine y_iload d_W_law_1935 rfl ?_
              refine y_i2l (v := ((v357).toInt64)) d_W_law_1937 rfl ?_
              refine y_lcmp (v := (lg_cmp v362 ((v357).toInt64))) d_W_law_1938 rfl ?_
              refine y_if_eq (tgt := 1944) d_W_law_1939 (by decide) ?_ ?_
              · exact y_wk (loc2 := [some (.ref (mwad Θ 40)), some (.ref f1_), some (.ref f2_), some (.ref f3_), some (.ref f4_), some (.int v5_), none, none, none, none]) ⟨rfl, ⟨rfl, ⟨rfl, ⟨rfl, ⟨rfl, ⟨rfl, trivial⟩⟩⟩⟩⟩⟩ (Hj360 h358)
              · refine y_iconst (v := (J 0)) d_W_law_1942 rfl ?_
                exact y_retI d_W_law_1943 rfl (by decide +kernel)
        · refine y_iconst (v := (J 0)) d_W_law_1925 rfl ?_
          exact y_retI d_W_law_1926 rfl (by decide +kernel)
      refine y_tabIn (tgt := 1947) d_W_law_44 hn (by decide +kernel) rfl (by decide) ?_ ?_
      · refine y_aload_n d_W_law_1947 rfl ?_
        refine y_aload_n d_W_law_1948 rfl ?_
        refine y_iload d_W_law_1949 rfl ?_
        refine y_iconst (v := (J 1)) d_W_law_1951 rfl ?_
        refine y_iadd (v := (v5_ + (J 1))) d_W_law_1952 rfl ?_
        refine y_oldX d_W_law_1953 (fun v363 => ?_)
        refine y_aload_n d_W_law_1954 rfl ?_
        refine y_cI (c_st (rest := []) d_W_law_1955 k_W_firstGapByShips s_W_264 rfl rfl (Nat.le_of_ble_eq_true rfl) (Nat.le_trans (Nat.le_of_ble_eq_true rfl : 8 + 1 ≤ 14) hD) (S_W_firstGapByShips hfl (Nat.le_refl _) h f1_ v363 f3_)) (fun v365 h364 => ?_)
        refine y_istore (loc2 := [some (.ref (mwad Θ 40)), some (.ref f1_), some (.ref f2_), some (.ref f3_), some (.ref f4_), some (.int v5_), some (.int v365), none, none, none]) d_W_law_1958 (Nat.le_of_ble_eq_true rfl) rfl rfl ?_
        refine y_aload_n d_W_law_1960 rfl ?_
        refine y_aload_n d_W_law_1961 rfl ?_
        refine y_iload d_W_law_1962 rfl ?_
        refine y_iconst (v := (J 1)) d_W_law_1964 rfl ?_
        refine y_iadd (v := (v5_ + (J 1))) d_W_law_1965 rfl ?_
        refine y_oldX d_W_law_1966 (fun v366 => ?_)
        refine y_gO (fun fs1 g1 => y_cI (c_vi (rest := []) d_W_law_1967 k_R_firstGapByShips s_W_266 (Or.inl ⟨_, _, _, g1, rfl, rfl⟩) rfl rfl (Nat.le_of_ble_eq_true rfl) (Nat.le_trans (Nat.le_of_ble_eq_true rfl : 7 + 1 ≤ 14) hD) (S_R_firstGapByShips hfl (Nat.le_refl _) h364 f2_ v366)) (fun v368 h367 => ?_))
        refine y_istore (loc2 := [some (.ref (mwad Θ 40)), some (.ref f1_), some (.ref f2_), some (.ref f3_), some (.ref f4_), some (.int v5_), some (.int v365), some (.int v368), none, none]) d_W_law_1970 (Nat.le_of_ble_eq_true rfl) rfl rfl ?_
        refine y_aload_n d_W_law_1972 rfl ?_
        refine y_gO (fun fs1 g1 => y_cI (c_vi (rest := []) d_W_law_1973 k_R_thrown s_W_161 (Or.inl ⟨_, _, _, g1, rfl, rfl⟩) rfl rfl (Nat.le_of_ble_eq_true rfl) (Nat.le_trans (Nat.le_of_ble_eq_true rfl : 1 + 1 ≤ 14) hD) (S_R_thrown hfl (Nat.le_refl _) h367 f2_)) (fun v370 h369 => ?_))
        refine y_iload d_W_law_1976 rfl ?_
        refine y_icmp_eq (tgt := 1983) d_W_law_1978 (by decide) ?_ ?_
        · refine y_iload d_W_law_1983 rfl ?_
          refine y_jn (C := fun (j9 : mH → Option (Int32 × mH)) => ∀ (h372 : mH), mY l Θ d M_W_law 2000 [some (.ref (mwad Θ 40)), some (.ref f1_), some (.ref f2_), some (.ref f3_), some (.ref f4_), some (.int v5_), none, none, none, none] [] h372 (tR vI) (j9 h372)) (fun h372 => ?_) (fun j371 Hj371 => ?_)
          · refine y_goto (tgt := 2811) d_W_law_2000 (by decide) ?_
            exact Hj15 h372
          · refine y_if_ne (tgt := 2000) d_W_law_1985 (by decide) ?_ ?_
            · exact y_wk (loc2 := [some (.ref (mwad Θ 40)), some (.ref f1_), some (.ref f2_), some (.ref f3_), some (.ref f4_), some (.int v5_), none, none, none, none]) ⟨rfl, ⟨rfl, ⟨rfl, ⟨rfl, ⟨rfl, ⟨rfl, trivial⟩⟩⟩⟩⟩⟩ (Hj371 h369)
            · refine y_aload_n d_W_law_1988 rfl ?_
              refine y_iconst (v := (J 0)) d_W_law_1989 rfl ?_
              refine y_lald d_W_law_1990 (fun v373 => ?_)
              refine y_iload d_W_law_1991 rfl ?_
              refine y_i2l (v := ((v368).toInt64)) d_W_law_1993 rfl ?_
              refine y_lcmp (v := (lg_cmp v373 ((v368).toInt64))) d_W_law_1994 rfl ?_
              refine y_if_eq (tgt := 2000) d_W_law_1995 (by decide) ?_ ?_
              · exact y_wk (loc2 := [some (.ref (mwad Θ 40)), some (.ref f1_), some (.ref f2_), some (.ref f3_), some (.ref f4_), some (.int v5_), none, none, none, none]) ⟨rfl, ⟨rfl, ⟨rfl, ⟨rfl, ⟨rfl, ⟨rfl, trivial⟩⟩⟩⟩⟩⟩ (Hj371 h369)
              · refine y_iconst (v := (J 0)) d_W_law_1998 rfl ?_
                exact y_retI d_W_law_1999 rfl (by decide +kernel)
        · refine y_iconst (v := (J 0)) d_W_law_1981 rfl ?_
          exact y_retI d_W_law_1982 rfl (by decide +kernel)
      refine y_tabIn (tgt := 2003) d_W_law_44 hn (by decide +kernel) rfl (by decide) ?_ ?_
      · refine y_aload_n d_W_law_2003 rfl ?_
        refine y_gO (fun fs1 g1 => y_cI (c_vi (rest := []) d_W_law_2004 k_F_freeMetres s_W_267 (Or.inl ⟨_, _, _, g1, rfl, rfl⟩) rfl rfl (Nat.le_of_ble_eq_true rfl) (Nat.le_trans (Nat.le_of_ble_eq_true rfl : 3 + 1 ≤ 14) hD) (S_F_freeMetres hfl (Nat.le_refl _) h f1_)) (fun v375 h374 => ?_))
        refine y_aload_n d_W_law_2007 rfl ?_
        refine y_gO (fun fs1 g1 => y_cI (c_vi (rest := [.int v375]) d_W_law_2008 k_R_freeMetres s_W_270 (Or.inl ⟨_, _, _, g1, rfl, rfl⟩) rfl rfl (Nat.le_of_ble_eq_true rfl) (Nat.le_trans (Nat.le_of_ble_eq_true rfl : 6 + 1 ≤ 14) hD) (S_R_freeMetres hfl (Nat.le_refl _) h374 f2_)) (fun v377 h376 => ?_))
        refine y_icmp_eq (tgt := 2811) d_W_law_2011 (by decide) ?_ ?_
        · exact Hj15 h376
        · refine y_iconst (v := (J 0)) d_W_law_2014 rfl ?_
          exact y_retI d_W_law_2015 rfl (by decide +kernel)
      refine y_tabIn (tgt := 2016) d_W_law_44 hn (by decide +kernel) rfl (by decide) ?_ ?_
      · refine y_aload_n d_W_law_2016 rfl ?_
        refine y_gO (fun fs1 g1 => y_cI (c_vi (rest := []) d_W_law_2017 k_F_mostFitting s_W_271 (Or.inl ⟨_, _, _, g1, rfl, rfl⟩) rfl rfl (Nat.le_of_ble_eq_true rfl) (Nat.le_trans (Nat.le_of_ble_eq_true rfl : 12 + 1 ≤ 14) hD) (S_F_mostFitting hfl (Nat.le_refl _) h f1_)) (fun v379 h378 => ?_))
        refine y_aload_n d_W_law_2020 rfl ?_
        refine y_gO (fun fs1 g1 => y_cI (c_vi (rest := [.int v379]) d_W_law_2021 k_R_mostFitting s_W_274 (Or.inl ⟨_, _, _, g1, rfl, rfl⟩) rfl rfl (Nat.le_of_ble_eq_true rfl) (Nat.le_trans (Nat.le_of_ble_eq_true rfl : 8 + 1 ≤ 14) hD) (S_R_mostFitting hfl (Nat.le_refl _) h378 f2_)) (fun v381 h380 => ?_))
        refine y_icmp_eq (tgt := 2811) d_W_law_2024 (by decide) ?_ ?_
        · exact Hj15 h380
        · refine y_iconst (v := (J 0)) d_W_law_2027 rfl ?_
          exact y_retI d_W_law_2028 rfl (by decide +kernel)
      refine y_tabIn (tgt := 2029) d_W_law_44 hn (by decide +kernel) rfl (by decide) ?_ ?_
      · refine y_aload_n d_W_law_2029 rfl ?_
        refine y_gO (fun fs1 g1 => y_cI (c_vi (rest := []) d_W_law_2030 k_F_mostFittingByTable s_W_275 (Or.inl ⟨_, _, _, g1, rfl, rfl⟩) rfl rfl (Nat.le_of_ble_eq_true rfl) (Nat.le_trans (Nat.le_of_ble_eq_true rfl : 5 + 1 ≤ 14) hD) (S_F_mostFittingByTable hfl (Nat.le_refl _) h f1_)) (fun v383 h382 => ?_))
        refine y_aload_n d_W_law_2033 rfl ?_
        refine y_gO (fun fs1 g1 => y_cI (c_vi (rest := [.int v383]) d_W_law_2034 k_R_mostFittingByTable s_W_278 (Or.inl ⟨_, _, _, g1, rfl, rfl⟩) rfl rfl (Nat.le_of_ble_eq_true rfl) (Nat.le_trans (Nat.le_of_ble_eq_true rfl : 8 + 1 ≤ 14) hD) (S_R_mostFittingByTable hfl (Nat.le_refl _) h382 f2_)) (fun v385 h384 => ?_))
        refine y_icmp_eq (tgt := 2811) d_W_law_2037 (by decide) ?_ ?_
        · exact Hj15 h384
        · refine y_iconst (v := (J 0)) d_W_law_2040 rfl ?_
          exact y_retI d_W_law_2041 rfl (by decide +kernel)
      refine y_tabIn (tgt := 2042) d_W_law_44 hn (by decide +kernel) rfl (by decide) ?_ ?_
      · refine y_aload_n d_W_law_2042 rfl ?_
        refine y_gO (fun fs1 g1 => y_cI (c_vi (rest := []) d_W_law_2043 k_F_mostFittingMetres s_W_279 (Or.inl ⟨_, _, _, g1, rfl, rfl⟩) rfl rfl (Nat.le_of_ble_eq_true rfl) (Nat.le_trans (Nat.le_of_ble_eq_true rfl : 5 + 1 ≤ 14) hD) (S_F_mostFittingMetres hfl (Nat.le_refl _) h f1_)) (fun v387 h386 => ?_))
        refine y_aload_n d_W_law_2046 rfl ?_
        refine y_gO (fun fs1 g1 => y_cI (c_vi (rest := [.int v387]) d_W_law_2047 k_R_mostFittingMetres s_W_282 (Or.inl ⟨_, _, _, g1, rfl, rfl⟩) rfl rfl (Nat.le_of_ble_eq_true rfl) (Nat.le_trans (Nat.le_of_ble_eq_true rfl : 8 + 1 ≤ 14) hD) (S_R_mostFittingMetres hfl (Nat.le_refl _) h386 f2_)) (fun v389 h388 => ?_))
        refine y_icmp_eq (tgt := 2811) d_W_law_2050 (by decide) ?_ ?_
        · exact Hj15 h388
        · refine y_iconst (v := (J 0)) d_W_law_2053 rfl ?_
          exact y_retI d_W_law_2054 rfl (by decide +kernel)
      refine y_tabIn (tgt := 2055) d_W_law_44 hn (by decide +kernel) rfl (by decide) ?_ ?_
      · refine y_aload_n d_W_law_2055 rfl ?_
        refine y_aload_n d_W_law_2056 rfl ?_
        refine y_iload d_W_law_2057 rfl ?_
        refine y_iconst (v := (J 1)) d_W_law_2059 rfl ?_
        refine y_iadd (v := (v5_ + (J 1))) d_W_law_2060 rfl ?_
        refine y_oldX d_W_law_2061 (fun v390 => ?_)
        refine y_aload_n d_W_law_2062 rfl ?_
        refine y_cI (c_st (rest := []) d_W_law_2063 k_W_billOf s_W_283 rfl rfl (Nat.le_of_ble_eq_true rfl) (Nat.le_trans (Nat.le_of_ble_eq_true rfl : 8 + 1 ≤ 14) hD) (S_W_billOf hfl (Nat.le_refl _) h f1_ v390 f3_)) (fun v392 h391 => ?_)
        refine y_istore (loc2 := [some (.ref (mwad Θ 40)), some (.ref f1_), some (.ref f2_), some (.ref f3_), some (.ref f4_), some (.int v5_), some (.int v392), none, none, none]) d_W_law_2066 (Nat.le_of_ble_eq_true rfl) rfl rfl ?_
        refine y_aload_n d_W_law_2068 rfl ?_
        refine y_aload_n d_W_law_2069 rfl ?_
        refine y_iload d_W_law_2070 rfl ?_
        refine y_iconst (v := (J 1)) d_W_law_2072 rfl ?_
        refine y_iadd (v := (v5_ + (J 1))) d_W_law_2073 rfl ?_
        refine y_oldX d_W_law_2074 (fun v393 => ?_)
        refine y_gO (fun fs1 g1 => y_cI (c_vi (rest := []) d_W_law_2075 k_R_billOf s_W_285 (Or.inl ⟨_, _, _, g1, rfl, rfl⟩) rfl rfl (Nat.le_of_ble_eq_true rfl) (Nat.le_trans (Nat.le_of_ble_eq_true rfl : 5 + 1 ≤ 14) hD) (S_R_billOf hfl (Nat.le_refl _) h391 f2_ v393)) (fun v395 h394 => ?_))
        refine y_istore (loc2 := [some (.ref (mwad Θ 40)), some (.ref f1_), some (.ref f2_), some (.ref f3_), some (.ref f4_), some (.int v5_), some (.int v392), some (.int v395), none, none]) d_W_law_2078 (Nat.le_of_ble_eq_true rfl) rfl rfl ?_
        refine y_aload_n d_W_law_2080 rfl ?_
        refine y_gO (fun fs1 g1 => y_cI (c_vi (rest := []) d_W_law_2081 k_R_thrown s_W_161 (Or.inl ⟨_, _, _, g1, rfl, rfl⟩) rfl rfl (Nat.le_of_ble_eq_true rfl) (Nat.le_trans (Nat.le_of_ble_eq_true rfl : 1 + 1 ≤ 14) hD) (S_R_thrown hfl (Nat.le_refl _) h394 f2_)) (fun v397 h396 => ?_))
        refine y_iload d_W_law_2084 rfl ?_
        refine y_icmp_eq (tgt := 2091) d_W_law_2086 (by decide) ?_ ?_
        · refine y_iload d_W_law_2091 rfl ?_
          refine y_jn (C := fun (j9 : mH → Option (Int32 × mH)) => ∀ (h399 : mH), mY l Θ d M_W_law 2108 [some (.ref (mwad Θ 40)), some (.ref f1_), some (.ref f2_), some (.ref f3_), some (.ref f4_), some (.int v5_), none, none, none, none] [] h399 (tR vI) (j9 h399)) (fun h399 => ?_) (fun j398 Hj398 => ?_)
          · refine y_goto (tgt := 2811) d_W_law_2108 (by decide) ?_
            exact Hj15 h399
          · refine y_if_ne (tgt := 2108) d_W_law_2093 (by decide) ?_ ?_
            · exact y_wk (loc2 := [some (.ref (mwad Θ 40)), some (.ref f1_), some (.ref f2_), some (.ref f3_), some (.ref f4_), some (.int v5_), none, none, none, none]) ⟨rfl, ⟨rfl, ⟨rfl, ⟨rfl, ⟨rfl, ⟨rfl, trivial⟩⟩⟩⟩⟩⟩ (Hj398 h396)
            · refine y_aload_n d_W_law_2096 rfl ?_
              refine y_iconst (v := (J 0)) d_W_law_2097 rfl ?_
              refine y_lald d_W_law_2098 (fun v400 => ?_)
              refine y_iload d_W_law_2099 rfl ?_
              refine y_i2l (v := ((v395).toInt64)) d_W_law_2101 rfl ?_
              refine y_lcmp (v := (lg_cmp v400 ((v395).toInt64))) d_W_law_2102 rfl ?_
              refine y_if_eq (tgt := 2108) d_W_law_2103 (by decide) ?_ ?_
              · exact y_wk (loc2 := [some (.ref (mwad Θ 40)), some (.ref f1_), some (.ref f2_), some (.ref f3_), some (.ref f4_), some (.int v5_), none, none, none, none]) ⟨rfl, ⟨rfl, ⟨rfl, ⟨rfl, ⟨rfl, ⟨rfl, trivial⟩⟩⟩⟩⟩⟩ (Hj398 h396)
              · refine y_iconst (v := (J 0)) d_W_law_2106 rfl ?_
                exact y_retI d_W_law_2107 rfl (by decide +kernel)
        · refine y_iconst (v := (J 0)) d_W_law_2089 rfl ?_
          exact y_retI d_W_law_2090 rfl (by decide +kernel)
      refine y_tabIn (tgt := 2111) d_W_law_44 hn (by decide +kernel) rfl (by decide) ?_ ?_
      · refine y_aload_n d_W_law_2111 rfl ?_
        refine y_aload_n d_W_law_2112 rfl ?_
        refine y_iload d_W_law_2113 rfl ?_
        refine y_iconst (v := (J 1)) d_W_law_2115 rfl ?_
        refine y_iadd (v := (v5_ + (J 1))) d_W_law_2116 rfl ?_
        refine y_oldX d_W_law_2117 (fun v401 => ?_)
        refine y_aload_n d_W_law_2118 rfl ?_
        refine y_iload d_W_law_2119 rfl ?_
        refine y_iconst (v := (J 2)) d_W_law_2121 rfl ?_
        refine y_iadd (v := (v5_ + (J 2))) d_W_law_2122 rfl ?_
        refine y_oldX d_W_law_2123 (fun v402 => ?_)
        refine y_aload_n d_W_law_2124 rfl ?_
        refine y_cI (c_st (rest := []) d_W_law_2125 k_W_pay s_W_286 rfl rfl (Nat.le_of_ble_eq_true rfl) (Nat.le_trans (Nat.le_of_ble_eq_true rfl : 9 + 1 ≤ 14) hD) (S_W_pay hfl (Nat.le_refl _) h f1_ v401 v402 f3_)) (fun v404 h403 => ?_)
        refine y_istore (loc2 := [some (.ref (mwad Θ 40)), some (.ref f1_), some (.ref f2_), some (.ref f3_), some (.ref f4_), some (.int v5_), some (.int v404), none, none, none]) d_W_law_2128 (Nat.le_of_ble_eq_true rfl) rfl rfl ?_
        refine y_aload_n d_W_law_2130 rfl ?_
        refine y_aload_n d_W_law_2131 rfl ?_
        refine y_iload d_W_law_2132 rfl ?_
        refine y_iconst (v := (J 1)) d_W_law_2134 rfl ?_
        refine y_iadd (v := (v5_ + (J 1))) d_W_law_2135 rfl ?_
        refine y_oldX d_W_law_2136 (fun v405 => ?_)
        refine y_aload_n d_W_law_2137 rfl ?_
        refine y_iload d_W_law_2138 rfl ?_
        refine y_iconst (v := (J 2)) d_W_law_2140 rfl ?_
        refine y_iadd (v := (v5_ + (J 2))) d_W_law_2141 rfl ?_
        refine y_oldX d_W_law_2142 (fun v406 => ?_)
        refine y_gO (fun fs1 g1 => y_cI (c_vi (rest := []) d_W_law_2143 k_R_pay s_W_288 (Or.inl ⟨_, _, _, g1, rfl, rfl⟩) rfl rfl (Nat.le_of_ble_eq_true rfl) (Nat.le_trans (Nat.le_of_ble_eq_true rfl : 5 + 1 ≤ 14) hD) (S_R_pay hfl (Nat.le_refl _) h403 f2_ v405 v406)) (fun v408 h407 => ?_))
        refine y_istore (loc2 := [some (.ref (mwad Θ 40)), some (.ref f1_), some (.ref f2_), some (.ref f3_), some (.ref f4_), some (.int v5_), some (.int v404), some (.int v408), none, none]) d_W_law_2146 (Nat.le_of_ble_eq_true rfl) rfl rfl ?_
        refine y_aload_n d_W_law_2148 rfl ?_
        refine y_gO (fun fs1 g1 => y_cI (c_vi (rest := []) d_W_law_2149 k_R_thrown s_W_161 (Or.inl ⟨_, _, _, g1, rfl, rfl⟩) rfl rfl (Nat.le_of_ble_eq_true rfl) (Nat.le_trans (Nat.le_of_ble_eq_true rfl : 1 + 1 ≤ 14) hD) (S_R_thrown hfl (Nat.le_refl _) h407 f2_)) (fun v410 h409 => ?_))
        refine y_iload d_W_law_2152 rfl ?_
        refine y_icmp_eq (tgt := 2159) d_W_law_2154 (by decide) ?_ ?_
        · refine y_iload d_W_law_2159 rfl ?_
          refine y_jn (C := fun (j9 : mH → Option (Int32 × mH)) => ∀ (h412 : mH), mY l Θ d M_W_law 2176 [some (.ref (mwad Θ 40)), some (.ref f1_), some (.ref f2_), some (.ref f3_), some (.ref f4_), some (.int v5_), none, none, none, none] [] h412 (tR vI) (j9 h412)) (fun h412 => ?_) (fun j411 Hj411 => ?_)
          · refine y_goto (tgt := 2811) d_W_law_2176 (by decide) ?_
            exact Hj15 h412
          · refine y_if_ne (tgt := 2176) d_W_law_2161 (by decide) ?_ ?_
            · exact y_wk (loc2 := [some (.ref (mwad Θ 40)), some (.ref f1_), some (.ref f2_), some (.ref f3_), some (.ref f4_), some (.int v5_), none, none, none, none]) ⟨rfl, ⟨rfl, ⟨rfl, ⟨rfl, ⟨rfl, ⟨rfl, trivial⟩⟩⟩⟩⟩⟩ (Hj411 h409)
            · refine y_aload_n d_W_law_2164 rfl ?_
              refine y_iconst (v := (J 0)) d_W_law_2165 rfl ?_
              refine y_lald d_W_law_2166 (fun v413 => ?_)
              refine y_iload d_W_law_2167 rfl ?_
              refine y_i2l (v := ((v408).toInt64)) d_W_law_2169 rfl ?_
              refine y_lcmp (v := (lg_cmp v413 ((v408).toInt64))) d_W_law_2170 rfl ?_
              refine y_if_eq (tgt := 2176) d_W_law_2171 (by decide) ?_ ?_
              · exact y_wk (loc2 := [some (.ref (mwad Θ 40)), some (.ref f1_), some (.ref f2_), some (.ref f3_), some (.ref f4_), some (.int v5_), none, none, none, none]) ⟨rfl, ⟨rfl, ⟨rfl, ⟨rfl, ⟨rfl, ⟨rfl, trivial⟩⟩⟩⟩⟩⟩ (Hj411 h409)
              · refine y_iconst (v := (J 0)) d_W_law_2174 rfl ?_
                exact y_retI d_W_law_2175 rfl (by decide +kernel)
        · refine y_iconst (v := (J 0)) d_W_law_2157 rfl ?_
          exact y_retI d_W_law_2158 rfl (by decide +kernel)
      refine y_tabIn (tgt := 2179) d_W_law_44 hn (by decide +kernel) rfl (by decide) ?_ ?_
      · refine y_aload_n d_W_law_2179 rfl ?_
        refine y_gO (fun fs1 g1 => y_cI (c_vi (rest := []) d_W_law_2180 k_F_billTotal s_W_289 (Or.inl ⟨_, _, _, g1, rfl, rfl⟩) rfl rfl (Nat.le_of_ble_eq_true rfl) (Nat.le_trans (Nat.le_of_ble_eq_true rfl : 2 + 1 ≤ 14) hD) (S_F_billTotal hfl (Nat.le_refl _) h f1_)) (fun v415 h414 => ?_))
        refine y_aload_n d_W_law_2183 rfl ?_
        refine y_gO (fun fs1 g1 => y_cI (c_vi (rest := [.int v415]) d_W_law_2184 k_R_billTotal s_W_292 (Or.inl ⟨_, _, _, g1, rfl, rfl⟩) rfl rfl (Nat.le_of_ble_eq_true rfl) (Nat.le_trans (Nat.le_of_ble_eq_true rfl : 4 + 1 ≤ 14) hD) (S_R_billTotal hfl (Nat.le_refl _) h414 f2_)) (fun v417 h416 => ?_))
        refine y_icmp_eq (tgt := 2811) d_W_law_2187 (by decide) ?_ ?_
        · exact Hj15 h416
        · refine y_iconst (v := (J 0)) d_W_law_2190 rfl ?_
          exact y_retI d_W_law_2191 rfl (by decide +kernel)
      refine y_tabIn (tgt := 2192) d_W_law_44 hn (by decide +kernel) rfl (by decide) ?_ ?_
      · refine y_aload_n d_W_law_2192 rfl ?_
        refine y_gO (fun fs1 g1 => y_cI (c_vi (rest := []) d_W_law_2193 k_F_billTotalByAccount s_W_293 (Or.inl ⟨_, _, _, g1, rfl, rfl⟩) rfl rfl (Nat.le_of_ble_eq_true rfl) (Nat.le_trans (Nat.le_of_ble_eq_true rfl : 2 + 1 ≤ 14) hD) (S_F_billTotalByAccount hfl (Nat.le_refl _) h f1_)) (fun v419 h418 => ?_))
        refine y_aload_n d_W_law_2196 rfl ?_
        refine y_gO (fun fs1 g1 => y_cI (c_vi (rest := [.int v419]) d_W_law_2197 k_R_billTotalByAccount s_W_296 (Or.inl ⟨_, _, _, g1, rfl, rfl⟩) rfl rfl (Nat.le_of_ble_eq_true rfl) (Nat.le_trans (Nat.le_of_ble_eq_true rfl : 1 + 1 ≤ 14) hD) (S_R_billTotalByAccount hfl (Nat.le_refl _) h418 f2_)) (fun v421 h420 => ?_))
        refine y_icmp_eq (tgt := 2811) d_W_law_2200 (by decide) ?_ ?_
        · exact Hj15 h420
        · refine y_iconst (v := (J 0)) d_W_law_2203 rfl ?_
          exact y_retI d_W_law_2204 rfl (by decide +kernel)
      refine y_tabIn (tgt := 2205) d_W_law_44 hn (by decide +kernel) rfl (by decide) ?_ ?_
      · refine y_aload_n d_W_law_2205 rfl ?_
        refine y_gO (fun fs1 g1 => y_cI (c_vi (rest := []) d_W_law_2206 k_F_paidTotal s_W_297 (Or.inl ⟨_, _, _, g1, rfl, rfl⟩) rfl rfl (Nat.le_of_ble_eq_true rfl) (Nat.le_trans (Nat.le_of_ble_eq_true rfl : 1 + 1 ≤ 14) hD) (S_F_paidTotal hfl (Nat.le_refl _) h f1_)) (fun v423 h422 => ?_))
        refine y_aload_n d_W_law_2209 rfl ?_
        refine y_gO (fun fs1 g1 => y_cI (c_vi (rest := [.int v423]) d_W_law_2210 k_R_paidTotal s_W_300 (Or.inl ⟨_, _, _, g1, rfl, rfl⟩) rfl rfl (Nat.le_of_ble_eq_true rfl) (Nat.le_trans (Nat.le_of_ble_eq_true rfl : 1 + 1 ≤ 14) hD) (S_R_paidTotal hfl (Nat.le_refl _) h422 f2_)) (fun v425 h424 => ?_))
        refine y_icmp_eq (tgt := 2811) d_W_law_2213 (by decide) ?_ ?_
        · exact Hj15 h424
        · refine y_iconst (v := (J 0)) d_W_law_2216 rfl ?_
          exact y_retI d_W_law_2217 rfl (by decide +kernel)
      refine y_tabIn (tgt := 2218) d_W_law_44 hn (by decide +kernel) rfl (by decide) ?_ ?_
      · refine y_aload_n d_W_law_2218 rfl ?_
        refine y_aload_n d_W_law_2219 rfl ?_
        refine y_iload d_W_law_2220 rfl ?_
        refine y_iconst (v := (J 1)) d_W_law_2222 rfl ?_
        refine y_iadd (v := (v5_ + (J 1))) d_W_law_2223 rfl ?_
        refine y_oldX d_W_law_2224 (fun v426 => ?_)
        refine y_aload_n d_W_law_2225 rfl ?_
        refine y_cI (c_st (rest := []) d_W_law_2226 k_W_shipAtRank s_W_301 rfl rfl (Nat.le_of_ble_eq_true rfl) (Nat.le_trans (Nat.le_of_ble_eq_true rfl : 7 + 1 ≤ 14) hD) (S_W_shipAtRank hfl (Nat.le_refl _) h f1_ v426 f3_)) (fun v428 h427 => ?_)
        refine y_istore (loc2 := [some (.ref (mwad Θ 40)), some (.ref f1_), some (.ref f2_), some (.ref f3_), some (.ref f4_), some (.int v5_), some (.int v428), none, none, none]) d_W_law_2229 (Nat.le_of_ble_eq_true rfl) rfl rfl ?_
        refine y_aload_n d_W_law_2231 rfl ?_
        refine y_aload_n d_W_law_2232 rfl ?_
        refine y_iload d_W_law_2233 rfl ?_
        refine y_iconst (v := (J 1)) d_W_law_2235 rfl ?_
        refine y_iadd (v := (v5_ + (J 1))) d_W_law_2236 rfl ?_
        refine y_oldX d_W_law_2237 (fun v429 => ?_)
        refine y_gO (fun fs1 g1 => y_cI (c_vi (rest := []) d_W_law_2238 k_R_shipAtRank s_W_303 (Or.inl ⟨_, _, _, g1, rfl, rfl⟩) rfl rfl (Nat.le_of_ble_eq_true rfl) (Nat.le_trans (Nat.le_of_ble_eq_true rfl : 3 + 1 ≤ 14) hD) (S_R_shipAtRank hfl (Nat.le_refl _) h427 f2_ v429)) (fun v431 h430 => ?_))
        refine y_istore (loc2 := [some (.ref (mwad Θ 40)), some (.ref f1_), some (.ref f2_), some (.ref f3_), some (.ref f4_), some (.int v5_), some (.int v428), some (.int v431), none, none]) d_W_law_2241 (Nat.le_of_ble_eq_true rfl) rfl rfl ?_
        refine y_aload_n d_W_law_2243 rfl ?_
        refine y_gO (fun fs1 g1 => y_cI (c_vi (rest := []) d_W_law_2244 k_R_thrown s_W_161 (Or.inl ⟨_, _, _, g1, rfl, rfl⟩) rfl rfl (Nat.le_of_ble_eq_true rfl) (Nat.le_trans (Nat.le_of_ble_eq_true rfl : 1 + 1 ≤ 14) hD) (S_R_thrown hfl (Nat.le_refl _) h430 f2_)) (fun v433 h432 => ?_))
        refine y_iload d_W_law_2247 rfl ?_
        refine y_icmp_eq (tgt := 2254) d_W_law_2249 (by decide) ?_ ?_
        · refine y_iload d_W_law_2254 rfl ?_
          refine y_jn (C := fun (j9 : mH → Option (Int32 × mH)) => ∀ (h435 : mH), mY l Θ d M_W_law 2271 [some (.ref (mwad Θ 40)), some (.ref f1_), some (.ref f2_), some (.ref f3_), some (.ref f4_), some (.int v5_), none, none, none, none] [] h435 (tR vI) (j9 h435)) (fun h435 => ?_) (fun j434 Hj434 => ?_)
          · refine y_goto (tgt := 2811) d_W_law_2271 (by decide) ?_
            exact Hj15 h435
          · refine y_if_ne (tgt := 2271) d_W_law_2256 (by decide) ?_ ?_
            · exact y_wk (loc2 := [some (.ref (mwad Θ 40)), some (.ref f1_), some (.ref f2_), some (.ref f3_), some (.ref f4_), some (.int v5_), none, none, none, none]) ⟨rfl, ⟨rfl, ⟨rfl, ⟨rfl, ⟨rfl, ⟨rfl, trivial⟩⟩⟩⟩⟩⟩ (Hj434 h432)
            · refine y_aload_n d_W_law_2259 rfl ?_
              refine y_iconst (v := (J 0)) d_W_law_2260 rfl ?_
              refine y_lald d_W_law_2261 (fun v436 => ?_)
              refine y_iload d_W_law_2262 rfl ?_
              refine y_i2l (v := ((v431).toInt64)) d_W_law_2264 rfl ?_
              refine y_lcmp (v := (lg_cmp v436 ((v431).toInt64))) d_W_law_2265 rfl ?_
              refine y_if_eq (tgt := 2271) d_W_law_2266 (by decide) ?_ ?_
              · exact y_wk (loc2 := [some (.ref (mwad Θ 40)), some (.ref f1_), some (.ref f2_), some (.ref f3_), some (.ref f4_), some (.int v5_), none, none, none, none]) ⟨rfl, ⟨rfl, ⟨rfl, ⟨rfl, ⟨rfl, ⟨rfl, trivial⟩⟩⟩⟩⟩⟩ (Hj434 h432)
              · refine y_iconst (v := (J 0)) d_W_law_2269 rfl ?_
                exact y_retI d_W_law_2270 rfl (by decide +kernel)
        · refine y_iconst (v := (J 0)) d_W_law_2252 rfl ?_
          exact y_retI d_W_law_2253 rfl (by decide +kernel)
      refine y_tabIn (tgt := 2274) d_W_law_44 hn (by decide +kernel) rfl (by decide) ?_ ?_
      · refine y_aload_n d_W_law_2274 rfl ?_
        refine y_aload_n d_W_law_2275 rfl ?_
        refine y_iload d_W_law_2276 rfl ?_
        refine y_iconst (v := (J 1)) d_W_law_2278 rfl ?_
        refine y_iadd (v := (v5_ + (J 1))) d_W_law_2279 rfl ?_
        refine y_oldX d_W_law_2280 (fun v437 => ?_)
        refine y_i2c (v := (((v437).toUInt32 % 65536).toInt32)) d_W_law_2281 rfl ?_
        refine y_aload_n d_W_law_2282 rfl ?_
        refine y_cI (c_st (rest := []) d_W_law_2283 k_W_append s_W_304 rfl rfl (Nat.le_of_ble_eq_true rfl) (Nat.le_trans (Nat.le_of_ble_eq_true rfl : 8 + 1 ≤ 14) hD) (S_W_append hfl (Nat.le_refl _) h f1_ (((v437).toUInt32 % 65536).toInt32) f3_)) (fun v439 h438 => ?_)
        refine y_istore (loc2 := [some (.ref (mwad Θ 40)), some (.ref f1_), some (.ref f2_), some (.ref f3_), some (.ref f4_), some (.int v5_), some (.int v439), none, none, none]) d_W_law_2286 (Nat.le_of_ble_eq_true rfl) rfl rfl ?_
        refine y_aload_n d_W_law_2288 rfl ?_
        refine y_aload_n d_W_law_2289 rfl ?_
        refine y_iload d_W_law_2290 rfl ?_
        refine y_iconst (v := (J 1)) d_W_law_2292 rfl ?_
        refine y_iadd (v := (v5_ + (J 1))) d_W_law_2293 rfl ?_
        refine y_oldX d_W_law_2294 (fun v440 => ?_)
        refine y_i2c (v := (((v440).toUInt32 % 65536).toInt32)) d_W_law_2295 rfl ?_
        refine y_gO (fun fs1 g1 => y_cI (c_vi (rest := []) d_W_law_2296 k_R_append s_W_307 (Or.inl ⟨_, _, _, g1, rfl, rfl⟩) rfl rfl (Nat.le_of_ble_eq_true rfl) (Nat.le_trans (Nat.le_of_ble_eq_true rfl : 2 + 1 ≤ 14) hD) (S_R_append hfl (Nat.le_refl _) h438 f2_ (((v440).toUInt32 % 65536).toInt32))) (fun v442 h441 => ?_))
        refine y_istore (loc2 := [some (.ref (mwad Θ 40)), some (.ref f1_), some (.ref f2_), some (.ref f3_), some (.ref f4_), some (.int v5_), some (.int v439), some (.int v442), none, none]) d_W_law_2299 (Nat.le_of_ble_eq_true rfl) rfl rfl ?_
        refine y_aload_n d_W_law_2301 rfl ?_
        refine y_gO (fun fs1 g1 => y_cI (c_vi (rest := []) d_W_law_2302 k_R_thrown s_W_161 (Or.inl ⟨_, _, _, g1, rfl, rfl⟩) rfl rfl (Nat.le_of_ble_eq_true rfl) (Nat.le_trans (Nat.le_of_ble_eq_true rfl : 1 + 1 ≤ 14) hD) (S_R_thrown hfl (Nat.le_refl _) h441 f2_)) (fun v444 h443 => ?_))
        refine y_iload d_W_law_2305 rfl ?_
        refine y_icmp_eq (tgt := 2312) d_W_law_2307 (by decide) ?_ ?_
        · refine y_iload d_W_law_2312 rfl ?_
          refine y_jn (C := fun (j9 : mH → Option (Int32 × mH)) => ∀ (h446 : mH), mY l Θ d M_W_law 2329 [some (.ref (mwad Θ 40)), some (.ref f1_), some (.ref f2_), some (.ref f3_), some (.ref f4_), some (.int v5_), none, none, none, none] [] h446 (tR vI) (j9 h446)) (fun h446 => ?_) (fun j445 Hj445 => ?_)
          · refine y_goto (tgt := 2811) d_W_law_2329 (by decide) ?_
            exact Hj15 h446
          · refine y_if_ne (tgt := 2329) d_W_law_2314 (by decide) ?_ ?_
            · exact y_wk (loc2 := [some (.ref (mwad Θ 40)), some (.ref f1_), some (.ref f2_), some (.ref f3_), some (.ref f4_), some (.int v5_), none, none, none, none]) ⟨rfl, ⟨rfl, ⟨rfl, ⟨rfl, ⟨rfl, ⟨rfl, trivial⟩⟩⟩⟩⟩⟩ (Hj445 h443)
            · refine y_aload_n d_W_law_2317 rfl ?_
              refine y_iconst (v := (J 0)) d_W_law_2318 rfl ?_
              refine y_lald d_W_law_2319 (fun v447 => ?_)
              refine y_iload d_W_law_2320 rfl ?_
              refine y_i2l (v := ((v442).toInt64)) d_W_law_2322 rfl ?_
              refine y_lcmp (v := (lg_cmp v447 ((v442).toInt64))) d_W_law_2323 rfl ?_
              refine y_if_eq (tgt := 2329) d_W_law_2324 (by decide) ?_ ?_
              · exact y_wk (loc2 := [some (.ref (mwad Θ 40)), some (.ref f1_), some (.ref f2_), some (.ref f3_), some (.ref f4_), some (.int v5_), none, none, none, none]) ⟨rfl, ⟨rfl, ⟨rfl, ⟨rfl, ⟨rfl, ⟨rfl, trivial⟩⟩⟩⟩⟩⟩ (Hj445 h443)
              · refine y_iconst (v := (J 0)) d_W_law_2327 rfl ?_
                exact y_retI d_W_law_2328 rfl (by decide +kernel)
        · refine y_iconst (v := (J 0)) d_W_law_2310 rfl ?_
          exact y_retI d_W_law_2311 rfl (by decide +kernel)
      refine y_tabIn (tgt := 2332) d_W_law_44 hn (by decide +kernel) rfl (by decide) ?_ ?_
      · refine y_aload_n d_W_law_2332 rfl ?_
        refine y_aload_n d_W_law_2333 rfl ?_
        refine y_cI (c_st (rest := []) d_W_law_2334 k_W_run s_W_308 rfl rfl (Nat.le_of_ble_eq_true rfl) (Nat.le_trans (Nat.le_of_ble_eq_true rfl : 13 + 1 ≤ 14) hD) (S_W_run hfl (Nat.le_refl _) h f1_ f3_)) (fun v449 h448 => ?_)
        refine y_istore (loc2 := [some (.ref (mwad Θ 40)), some (.ref f1_), some (.ref f2_), some (.ref f3_), some (.ref f4_), some (.int v5_), some (.int v449), none, none, none]) d_W_law_2337 (Nat.le_of_ble_eq_true rfl) rfl rfl ?_
        refine y_aload_n d_W_law_2339 rfl ?_
        refine y_gO (fun fs1 g1 => y_cI (c_vi (rest := []) d_W_law_2340 k_R_run s_W_310 (Or.inl ⟨_, _, _, g1, rfl, rfl⟩) rfl rfl (Nat.le_of_ble_eq_true rfl) (Nat.le_trans (Nat.le_of_ble_eq_true rfl : 9 + 1 ≤ 14) hD) (S_R_run hfl (Nat.le_refl _) h448 f2_)) (fun v451 h450 => ?_))
        refine y_istore (loc2 := [some (.ref (mwad Θ 40)), some (.ref f1_), some (.ref f2_), some (.ref f3_), some (.ref f4_), some (.int v5_), some (.int v449), some (.int v451), none, none]) d_W_law_2343 (Nat.le_of_ble_eq_true rfl) rfl rfl ?_
        refine y_aload_n d_W_law_2345 rfl ?_
        refine y_gO (fun fs1 g1 => y_cI (c_vi (rest := []) d_W_law_2346 k_R_thrown s_W_161 (Or.inl ⟨_, _, _, g1, rfl, rfl⟩) rfl rfl (Nat.le_of_ble_eq_true rfl) (Nat.le_trans (Nat.le_of_ble_eq_true rfl : 1 + 1 ≤ 14) hD) (S_R_thrown hfl (Nat.le_refl _) h450 f2_)) (fun v453 h452 => ?_))
        refine y_iload d_W_law_2349 rfl ?_
        refine y_icmp_eq (tgt := 2356) d_W_law_2351 (by decide) ?_ ?_
        · refine y_iload d_W_law_2356 rfl ?_
          refine y_jn (C := fun (j9 : mH → Option (Int32 × mH)) => ∀ (h455 : mH), mY l Θ d M_W_law 2373 [some (.ref (mwad Θ 40)), some (.ref f1_), some (.ref f2_), some (.ref f3_), some (.ref f4_), some (.int v5_), none, none, none, none] [] h455 (tR vI) (j9 h455)) (fun h455 => ?_) (fun j454 Hj454 => ?_)
          · refine y_goto (tgt := 2811) d_W_law_2373 (by decide) ?_
            exact Hj15 h455
          · refine y_if_ne (tgt := 2373) d_W_law_2358 (by decide) ?_ ?_
            · exact y_wk (loc2 := [some (.ref (mwad Θ 40)), some (.ref f1_), some (.ref f2_), some (.ref f3_), some (.ref f4_), some (.int v5_), none, none, none, none]) ⟨rfl, ⟨rfl, ⟨rfl, ⟨rfl, ⟨rfl, ⟨rfl, trivial⟩⟩⟩⟩⟩⟩ (Hj454 h452)
            · refine y_aload_n d_W_law_2361 rfl ?_
              refine y_iconst (v := (J 0)) d_W_law_2362 rfl ?_
              refine y_lald d_W_law_2363 (fun v456 => ?_)
              refine y_iload d_W_law_2364 rfl ?_
              refine y_i2l (v := ((v451).toInt64)) d_W_law_2366 rfl ?_
              refine y_lcmp (v := (lg_cmp v456 ((v451).toInt64))) d_W_law_2367 rfl ?_
              refine y_if_eq (tgt := 2373) d_W_law_2368 (by decide) ?_ ?_
              · exact y_wk (loc2 := [some (.ref (mwad Θ 40)), some (.ref f1_), some (.ref f2_), some (.ref f3_), some (.ref f4_), some (.int v5_), none, none, none, none]) ⟨rfl, ⟨rfl, ⟨rfl, ⟨rfl, ⟨rfl, ⟨rfl, trivial⟩⟩⟩⟩⟩⟩ (Hj454 h452)
              · refine y_iconst (v := (J 0)) d_W_law_2371 rfl ?_
                exact y_retI d_W_law_2372 rfl (by decide +kernel)
        · refine y_iconst (v := (J 0)) d_W_law_2354 rfl ?_
          exact y_retI d_W_law_2355 rfl (by decide +kernel)
      refine y_tabIn (tgt := 2376) d_W_law_44 hn (by decide +kernel) rfl (by decide) ?_ ?_
      · refine y_aload_n d_W_law_2376 rfl ?_
        refine y_aload_n d_W_law_2377 rfl ?_
        refine y_cI (c_st (rest := []) d_W_law_2378 k_W_errorPosition s_W_311 rfl rfl (Nat.le_of_ble_eq_true rfl) (Nat.le_trans (Nat.le_of_ble_eq_true rfl : 7 + 1 ≤ 14) hD) (S_W_errorPosition hfl (Nat.le_refl _) h f1_ f3_)) (fun v458 h457 => ?_)
        refine y_istore (loc2 := [some (.ref (mwad Θ 40)), some (.ref f1_), some (.ref f2_), some (.ref f3_), some (.ref f4_), some (.int v5_), some (.int v458), none, none, none]) d_W_law_2381 (Nat.le_of_ble_eq_true rfl) rfl rfl ?_
        refine y_aload_n d_W_law_2383 rfl ?_
        refine y_gO (fun fs1 g1 => y_cI (c_vi (rest := []) d_W_law_2384 k_R_errorPosition s_W_313 (Or.inl ⟨_, _, _, g1, rfl, rfl⟩) rfl rfl (Nat.le_of_ble_eq_true rfl) (Nat.le_trans (Nat.le_of_ble_eq_true rfl : 3 + 1 ≤ 14) hD) (S_R_errorPosition hfl (Nat.le_refl _) h457 f2_)) (fun v460 h459 => ?_))
        refine y_istore (loc2 := [some (.ref (mwad Θ 40)), some (.ref f1_), some (.ref f2_), some (.ref f3_), some (.ref f4_), some (.int v5_), some (.int v458), some (.int v460), none, none]) d_W_law_2387 (Nat.le_of_ble_eq_true rfl) rfl rfl ?_
        refine y_aload_n d_W_law_2389 rfl ?_
        refine y_gO (fun fs1 g1 => y_cI (c_vi (rest := []) d_W_law_2390 k_R_thrown s_W_161 (Or.inl ⟨_, _, _, g1, rfl, rfl⟩) rfl rfl (Nat.le_of_ble_eq_true rfl) (Nat.le_trans (Nat.le_of_ble_eq_true rfl : 1 + 1 ≤ 14) hD) (S_R_thrown hfl (Nat.le_refl _) h459 f2_)) (fun v462 h461 => ?_))
        refine y_iload d_W_law_2393 rfl ?_
        refine y_icmp_eq (tgt := 2400) d_W_law_2395 (by decide) ?_ ?_
        · refine y_iload d_W_law_2400 rfl ?_
          refine y_jn (C := fun (j9 : mH → Option (Int32 × mH)) => ∀ (h464 : mH), mY l Θ d M_W_law 2417 [some (.ref (mwad Θ 40)), some (.ref f1_), some (.ref f2_), some (.ref f3_), some (.ref f4_), some (.int v5_), none, none, none, none] [] h464 (tR vI) (j9 h464)) (fun h464 => ?_) (fun j463 Hj463 => ?_)
          · refine y_goto (tgt := 2811) d_W_law_2417 (by decide) ?_
            exact Hj15 h464
          · refine y_if_ne (tgt := 2417) d_W_law_2402 (by decide) ?_ ?_
            · exact y_wk (loc2 := [some (.ref (mwad Θ 40)), some (.ref f1_), some (.ref f2_), some (.ref f3_), some (.ref f4_), some (.int v5_), none, none, none, none]) ⟨rfl, ⟨rfl, ⟨rfl, ⟨rfl, ⟨rfl, ⟨rfl, trivial⟩⟩⟩⟩⟩⟩ (Hj463 h461)
            · refine y_aload_n d_W_law_2405 rfl ?_
              refine y_iconst (v := (J 0)) d_W_law_2406 rfl ?_
              refine y_lald d_W_law_2407 (fun v465 => ?_)
              refine y_iload d_W_law_2408 rfl ?_
              refine y_i2l (v := ((v460).toInt64)) d_W_law_2410 rfl ?_
              refine y_lcmp (v := (lg_cmp v465 ((v460).toInt64))) d_W_law_2411 rfl ?_
              refine y_if_eq (tgt := 2417) d_W_law_2412 (by decide) ?_ ?_
              · exact y_wk (loc2 := [some (.ref (mwad Θ 40)), some (.ref f1_), some (.ref f2_), some (.ref f3_), some (.ref f4_), some (.int v5_), none, none, none, none]) ⟨rfl, ⟨rfl, ⟨rfl, ⟨rfl, ⟨rfl, ⟨rfl, trivial⟩⟩⟩⟩⟩⟩ (Hj463 h461)
              · refine y_iconst (v := (J 0)) d_W_law_2415 rfl ?_
                exact y_retI d_W_law_2416 rfl (by decide +kernel)
        · refine y_iconst (v := (J 0)) d_W_law_2398 rfl ?_
          exact y_retI d_W_law_2399 rfl (by decide +kernel)
      refine y_tabIn (tgt := 2420) d_W_law_44 hn (by decide +kernel) rfl (by decide) ?_ ?_
      · refine y_aload_n d_W_law_2420 rfl ?_
        refine y_aload_n d_W_law_2421 rfl ?_
        refine y_cI (c_st (rest := []) d_W_law_2422 k_W_failedCommand s_W_314 rfl rfl (Nat.le_of_ble_eq_true rfl) (Nat.le_trans (Nat.le_of_ble_eq_true rfl : 7 + 1 ≤ 14) hD) (S_W_failedCommand hfl (Nat.le_refl _) h f1_ f3_)) (fun v467 h466 => ?_)
        refine y_istore (loc2 := [some (.ref (mwad Θ 40)), some (.ref f1_), some (.ref f2_), some (.ref f3_), some (.ref f4_), some (.int v5_), some (.int v467), none, none, none]) d_W_law_2425 (Nat.le_of_ble_eq_true rfl) rfl rfl ?_
        refine y_aload_n d_W_law_2427 rfl ?_
        refine y_gO (fun fs1 g1 => y_cI (c_vi (rest := []) d_W_law_2428 k_R_failedCommand s_W_316 (Or.inl ⟨_, _, _, g1, rfl, rfl⟩) rfl rfl (Nat.le_of_ble_eq_true rfl) (Nat.le_trans (Nat.le_of_ble_eq_true rfl : 3 + 1 ≤ 14) hD) (S_R_failedCommand hfl (Nat.le_refl _) h466 f2_)) (fun v469 h468 => ?_))
        refine y_istore (loc2 := [some (.ref (mwad Θ 40)), some (.ref f1_), some (.ref f2_), some (.ref f3_), some (.ref f4_), some (.int v5_), some (.int v467), some (.int v469), none, none]) d_W_law_2431 (Nat.le_of_ble_eq_true rfl) rfl rfl ?_
        refine y_aload_n d_W_law_2433 rfl ?_
        refine y_gO (fun fs1 g1 => y_cI (c_vi (rest := []) d_W_law_2434 k_R_thrown s_W_161 (Or.inl ⟨_, _, _, g1, rfl, rfl⟩) rfl rfl (Nat.le_of_ble_eq_true rfl) (Nat.le_trans (Nat.le_of_ble_eq_true rfl : 1 + 1 ≤ 14) hD) (S_R_thrown hfl (Nat.le_refl _) h468 f2_)) (fun v471 h470 => ?_))
        refine y_iload d_W_law_2437 rfl ?_
        refine y_icmp_eq (tgt := 2444) d_W_law_2439 (by decide) ?_ ?_
        · refine y_iload d_W_law_2444 rfl ?_
          refine y_jn (C := fun (j9 : mH → Option (Int32 × mH)) => ∀ (h473 : mH), mY l Θ d M_W_law 2461 [some (.ref (mwad Θ 40)), some (.ref f1_), some (.ref f2_), some (.ref f3_), some (.ref f4_), some (.int v5_), none, none, none, none] [] h473 (tR vI) (j9 h473)) (fun h473 => ?_) (fun j472 Hj472 => ?_)
          · refine y_goto (tgt := 2811) d_W_law_2461 (by decide) ?_
            exact Hj15 h473
          · refine y_if_ne (tgt := 2461) d_W_law_2446 (by decide) ?_ ?_
            · exact y_wk (loc2 := [some (.ref (mwad Θ 40)), some (.ref f1_), some (.ref f2_), some (.ref f3_), some (.ref f4_), some (.int v5_), none, none, none, none]) ⟨rfl, ⟨rfl, ⟨rfl, ⟨rfl, ⟨rfl, ⟨rfl, trivial⟩⟩⟩⟩⟩⟩ (Hj472 h470)
            · refine y_aload_n d_W_law_2449 rfl ?_
              refine y_iconst (v := (J 0)) d_W_law_2450 rfl ?_
              refine y_lald d_W_law_2451 (fun v474 => ?_)
              refine y_iload d_W_law_2452 rfl ?_
              refine y_i2l (v := ((v469).toInt64)) d_W_law_2454 rfl ?_
              refine y_lcmp (v := (lg_cmp v474 ((v469).toInt64))) d_W_law_2455 rfl ?_
              refine y_if_eq (tgt := 2461) d_W_law_2456 (by decide) ?_ ?_
              · exact y_wk (loc2 := [some (.ref (mwad Θ 40)), some (.ref f1_), some (.ref f2_), some (.ref f3_), some (.ref f4_), some (.int v5_), none, none, none, none]) ⟨rfl, ⟨rfl, ⟨rfl, ⟨rfl, ⟨rfl, ⟨rfl, trivial⟩⟩⟩⟩⟩⟩ (Hj472 h470)
              · refine y_iconst (v := (J 0)) d_W_law_2459 rfl ?_
                exact y_retI d_W_law_2460 rfl (by decide +kernel)
        · refine y_iconst (v := (J 0)) d_W_law_2442 rfl ?_
          exact y_retI d_W_law_2443 rfl (by decide +kernel)
      refine y_tabIn (tgt := 2464) d_W_law_44 hn (by decide +kernel) rfl (by decide) ?_ ?_
      · refine y_aload_n d_W_law_2464 rfl ?_
        refine y_gO (fun fs1 g1 => y_cI (c_vi (rest := []) d_W_law_2465 k_F_describeDock s_W_317 (Or.inl ⟨_, _, _, g1, rfl, rfl⟩) rfl rfl (Nat.le_of_ble_eq_true rfl) (Nat.le_trans (Nat.le_of_ble_eq_true rfl : 6 + 1 ≤ 14) hD) (S_F_describeDock hfl (Nat.le_refl _) h f1_)) (fun v476 h475 => ?_))
        refine y_aload_n d_W_law_2468 rfl ?_
        refine y_gO (fun fs1 g1 => y_cI (c_vi (rest := [.int v476]) d_W_law_2469 k_R_describeDock s_W_320 (Or.inl ⟨_, _, _, g1, rfl, rfl⟩) rfl rfl (Nat.le_of_ble_eq_true rfl) (Nat.le_trans (Nat.le_of_ble_eq_true rfl : 5 + 1 ≤ 14) hD) (S_R_describeDock hfl (Nat.le_refl _) h475 f2_)) (fun v478 h477 => ?_))
        refine y_icmp_eq (tgt := 2811) d_W_law_2472 (by decide) ?_ ?_
        · exact Hj15 h477
        · refine y_iconst (v := (J 0)) d_W_law_2475 rfl ?_
          exact y_retI d_W_law_2476 rfl (by decide +kernel)
      refine y_tabIn (tgt := 2477) d_W_law_44 hn (by decide +kernel) rfl (by decide) ?_ ?_
      · refine y_aload_n d_W_law_2477 rfl ?_
        refine y_aload_n d_W_law_2478 rfl ?_
        refine y_iload d_W_law_2479 rfl ?_
        refine y_iconst (v := (J 1)) d_W_law_2481 rfl ?_
        refine y_iadd (v := (v5_ + (J 1))) d_W_law_2482 rfl ?_
        refine y_oldX d_W_law_2483 (fun v479 => ?_)
        refine y_aload_n d_W_law_2484 rfl ?_
        refine y_cI (c_st (rest := []) d_W_law_2485 k_W_describeBill s_W_321 rfl rfl (Nat.le_of_ble_eq_true rfl) (Nat.le_trans (Nat.le_of_ble_eq_true rfl : 8 + 1 ≤ 14) hD) (S_W_describeBill hfl (Nat.le_refl _) h f1_ v479 f3_)) (fun v481 h480 => ?_)
        refine y_istore (loc2 := [some (.ref (mwad Θ 40)), some (.ref f1_), some (.ref f2_), some (.ref f3_), some (.ref f4_), some (.int v5_), some (.int v481), none, none, none]) d_W_law_2488 (Nat.le_of_ble_eq_true rfl) rfl rfl ?_
        refine y_aload_n d_W_law_2490 rfl ?_
        refine y_aload_n d_W_law_2491 rfl ?_
        refine y_iload d_W_law_2492 rfl ?_
        refine y_iconst (v := (J 1)) d_W_law_2494 rfl ?_
        refine y_iadd (v := (v5_ + (J 1))) d_W_law_2495 rfl ?_
        refine y_oldX d_W_law_2496 (fun v482 => ?_)
        refine y_gO (fun fs1 g1 => y_cI (c_vi (rest := []) d_W_law_2497 k_R_describeBill s_W_323 (Or.inl ⟨_, _, _, g1, rfl, rfl⟩) rfl rfl (Nat.le_of_ble_eq_true rfl) (Nat.le_trans (Nat.le_of_ble_eq_true rfl : 5 + 1 ≤ 14) hD) (S_R_describeBill hfl (Nat.le_refl _) h480 f2_ v482)) (fun v484 h483 => ?_))
        refine y_istore (loc2 := [some (.ref (mwad Θ 40)), some (.ref f1_), some (.ref f2_), some (.ref f3_), some (.ref f4_), some (.int v5_), some (.int v481), some (.int v484), none, none]) d_W_law_2500 (Nat.le_of_ble_eq_true rfl) rfl rfl ?_
        refine y_aload_n d_W_law_2502 rfl ?_
        refine y_gO (fun fs1 g1 => y_cI (c_vi (rest := []) d_W_law_2503 k_R_thrown s_W_161 (Or.inl ⟨_, _, _, g1, rfl, rfl⟩) rfl rfl (Nat.le_of_ble_eq_true rfl) (Nat.le_trans (Nat.le_of_ble_eq_true rfl : 1 + 1 ≤ 14) hD) (S_R_thrown hfl (Nat.le_refl _) h483 f2_)) (fun v486 h485 => ?_))
        refine y_iload d_W_law_2506 rfl ?_
        refine y_icmp_eq (tgt := 2513) d_W_law_2508 (by decide) ?_ ?_
        · refine y_iload d_W_law_2513 rfl ?_
          refine y_jn (C := fun (j9 : mH → Option (Int32 × mH)) => ∀ (h488 : mH), mY l Θ d M_W_law 2530 [some (.ref (mwad Θ 40)), some (.ref f1_), some (.ref f2_), some (.ref f3_), some (.ref f4_), some (.int v5_), none, none, none, none] [] h488 (tR vI) (j9 h488)) (fun h488 => ?_) (fun j487 Hj487 => ?_)
          · refine y_goto (tgt := 2811) d_W_law_2530 (by decide) ?_
            exact Hj15 h488
          · refine y_if_ne (tgt := 2530) d_W_law_2515 (by decide) ?_ ?_
            · exact y_wk (loc2 := [some (.ref (mwad Θ 40)), some (.ref f1_), some (.ref f2_), some (.ref f3_), some (.ref f4_), some (.int v5_), none, none, none, none]) ⟨rfl, ⟨rfl, ⟨rfl, ⟨rfl, ⟨rfl, ⟨rfl, trivial⟩⟩⟩⟩⟩⟩ (Hj487 h485)
            · refine y_aload_n d_W_law_2518 rfl ?_
              refine y_iconst (v := (J 0)) d_W_law_2519 rfl ?_
              refine y_lald d_W_law_2520 (fun v489 => ?_)
              refine y_iload d_W_law_2521 rfl ?_
              refine y_i2l (v := ((v484).toInt64)) d_W_law_2523 rfl ?_
              refine y_lcmp (v := (lg_cmp v489 ((v484).toInt64))) d_W_law_2524 rfl ?_
              refine y_if_eq (tgt := 2530) d_W_law_2525 (by decide) ?_ ?_
              · exact y_wk (loc2 := [some (.ref (mwad Θ 40)), some (.ref f1_), some (.ref f2_), some (.ref f3_), some (.ref f4_), some (.int v5_), none, none, none, none]) ⟨rfl, ⟨rfl, ⟨rfl, ⟨rfl, ⟨rfl, ⟨rfl, trivial⟩⟩⟩⟩⟩⟩ (Hj487 h485)
              · refine y_iconst (v := (J 0)) d_W_law_2528 rfl ?_
                exact y_retI d_W_law_2529 rfl (by decide +kernel)
        · refine y_iconst (v := (J 0)) d_W_law_2511 rfl ?_
          exact y_retI d_W_law_2512 rfl (by decide +kernel)
      refine y_tabIn (tgt := 2533) d_W_law_44 hn (by decide +kernel) rfl (by decide) ?_ ?_
      · refine y_aload_n d_W_law_2533 rfl ?_
        refine y_aload_n d_W_law_2534 rfl ?_
        refine y_iload d_W_law_2535 rfl ?_
        refine y_iconst (v := (J 1)) d_W_law_2537 rfl ?_
        refine y_iadd (v := (v5_ + (J 1))) d_W_law_2538 rfl ?_
        refine y_oldX d_W_law_2539 (fun v490 => ?_)
        refine y_aload_n d_W_law_2540 rfl ?_
        refine y_cI (c_st (rest := []) d_W_law_2541 k_W_lineAt s_W_324 rfl rfl (Nat.le_of_ble_eq_true rfl) (Nat.le_trans (Nat.le_of_ble_eq_true rfl : 7 + 1 ≤ 14) hD) (S_W_lineAt hfl (Nat.le_refl _) h f1_ v490 f3_)) (fun v492 h491 => ?_)
        refine y_istore (loc2 := [some (.ref (mwad Θ 40)), some (.ref f1_), some (.ref f2_), some (.ref f3_), some (.ref f4_), some (.int v5_), some (.int v492), none, none, none]) d_W_law_2544 (Nat.le_of_ble_eq_true rfl) rfl rfl ?_
        refine y_aload_n d_W_law_2546 rfl ?_
        refine y_aload_n d_W_law_2547 rfl ?_
        refine y_iload d_W_law_2548 rfl ?_
        refine y_iconst (v := (J 1)) d_W_law_2550 rfl ?_
        refine y_iadd (v := (v5_ + (J 1))) d_W_law_2551 rfl ?_
        refine y_oldX d_W_law_2552 (fun v493 => ?_)
        refine y_gO (fun fs1 g1 => y_cI (c_vi (rest := []) d_W_law_2553 k_R_lineAt s_W_326 (Or.inl ⟨_, _, _, g1, rfl, rfl⟩) rfl rfl (Nat.le_of_ble_eq_true rfl) (Nat.le_trans (Nat.le_of_ble_eq_true rfl : 3 + 1 ≤ 14) hD) (S_R_lineAt hfl (Nat.le_refl _) h491 f2_ v493)) (fun v495 h494 => ?_))
        refine y_istore (loc2 := [some (.ref (mwad Θ 40)), some (.ref f1_), some (.ref f2_), some (.ref f3_), some (.ref f4_), some (.int v5_), some (.int v492), some (.int v495), none, none]) d_W_law_2556 (Nat.le_of_ble_eq_true rfl) rfl rfl ?_
        refine y_aload_n d_W_law_2558 rfl ?_
        refine y_gO (fun fs1 g1 => y_cI (c_vi (rest := []) d_W_law_2559 k_R_thrown s_W_161 (Or.inl ⟨_, _, _, g1, rfl, rfl⟩) rfl rfl (Nat.le_of_ble_eq_true rfl) (Nat.le_trans (Nat.le_of_ble_eq_true rfl : 1 + 1 ≤ 14) hD) (S_R_thrown hfl (Nat.le_refl _) h494 f2_)) (fun v497 h496 => ?_))
        refine y_iload d_W_law_2562 rfl ?_
        refine y_icmp_eq (tgt := 2569) d_W_law_2564 (by decide) ?_ ?_
        · refine y_iload d_W_law_2569 rfl ?_
          refine y_jn (C := fun (j9 : mH → Option (Int32 × mH)) => ∀ (h499 : mH), mY l Θ d M_W_law 2586 [some (.ref (mwad Θ 40)), some (.ref f1_), some (.ref f2_), some (.ref f3_), some (.ref f4_), some (.int v5_), none, none, none, none] [] h499 (tR vI) (j9 h499)) (fun h499 => ?_) (fun j498 Hj498 => ?_)
          · refine y_goto (tgt := 2811) d_W_law_2586 (by decide) ?_
            exact Hj15 h499
          · refine y_if_ne (tgt := 2586) d_W_law_2571 (by decide) ?_ ?_
            · exact y_wk (loc2 := [some (.ref (mwad Θ 40)), some (.ref f1_), some (.ref f2_), some (.ref f3_), some (.ref f4_), some (.int v5_), none, none, none, none]) ⟨rfl, ⟨rfl, ⟨rfl, ⟨rfl, ⟨rfl, ⟨rfl, trivial⟩⟩⟩⟩⟩⟩ (Hj498 h496)
            · refine y_aload_n d_W_law_2574 rfl ?_
              refine y_iconst (v := (J 0)) d_W_law_2575 rfl ?_
              refine y_lald d_W_law_2576 (fun v500 => ?_)
              refine y_iload d_W_law_2577 rfl ?_
              refine y_i2l (v := ((v495).toInt64)) d_W_law_2579 rfl ?_
              refine y_lcmp (v := (lg_cmp v500 ((v495).toInt64))) d_W_law_2580 rfl ?_
              refine y_if_eq (tgt := 2586) d_W_law_2581 (by decide) ?_ ?_
              · exact y_wk (loc2 := [some (.ref (mwad Θ 40)), some (.ref f1_), some (.ref f2_), some (.ref f3_), some (.ref f4_), some (.int v5_), none, none, none, none]) ⟨rfl, ⟨rfl, ⟨rfl, ⟨rfl, ⟨rfl, ⟨rfl, trivial⟩⟩⟩⟩⟩⟩ (Hj498 h496)
              · refine y_iconst (v := (J 0)) d_W_law_2584 rfl ?_
                exact y_retI d_W_law_2585 rfl (by decide +kernel)
        · refine y_iconst (v := (J 0)) d_W_law_2567 rfl ?_
          exact y_retI d_W_law_2568 rfl (by decide +kernel)
      refine y_tabIn (tgt := 2589) d_W_law_44 hn (by decide +kernel) rfl (by decide) ?_ ?_
      · refine y_aload_n d_W_law_2589 rfl ?_
        refine y_aload d_W_law_2590 rfl ?_
        refine y_cI (c_st (rest := []) d_W_law_2592 k_W_meanDirt s_W_327 rfl rfl (Nat.le_of_ble_eq_true rfl) (Nat.le_trans (Nat.le_of_ble_eq_true rfl : 7 + 1 ≤ 14) hD) (S_W_meanDirt hfl (Nat.le_refl _) h f1_ f4_)) (fun v502 h501 => ?_)
        refine y_istore (loc2 := [some (.ref (mwad Θ 40)), some (.ref f1_), some (.ref f2_), some (.ref f3_), some (.ref f4_), some (.int v5_), some (.int v502), none, none, none]) d_W_law_2595 (Nat.le_of_ble_eq_true rfl) rfl rfl ?_
        refine y_aload_n d_W_law_2597 rfl ?_
        refine y_gO (fun fs1 g1 => y_cD (c_vi (rest := []) d_W_law_2598 k_R_meanDirt s_W_330 (Or.inl ⟨_, _, _, g1, rfl, rfl⟩) rfl rfl (Nat.le_of_ble_eq_true rfl) (Nat.le_trans (Nat.le_of_ble_eq_true rfl : 4 + 1 ≤ 14) hD) (S_R_meanDirt hfl (Nat.le_refl _) h501 f2_)) (fun v504 h503 => ?_))
        refine y_dstore (loc2 := [some (.ref (mwad Θ 40)), some (.ref f1_), some (.ref f2_), some (.ref f3_), some (.ref f4_), some (.int v5_), some (.int v502), some (.double v504), none, none]) d_W_law_2601 (Nat.le_of_ble_eq_true rfl) rfl rfl ?_
        refine y_aload_n d_W_law_2603 rfl ?_
        refine y_gO (fun fs1 g1 => y_cI (c_vi (rest := []) d_W_law_2604 k_R_thrown s_W_161 (Or.inl ⟨_, _, _, g1, rfl, rfl⟩) rfl rfl (Nat.le_of_ble_eq_true rfl) (Nat.le_trans (Nat.le_of_ble_eq_true rfl : 1 + 1 ≤ 14) hD) (S_R_thrown hfl (Nat.le_refl _) h503 f2_)) (fun v506 h505 => ?_))
        refine y_iload d_W_law_2607 rfl ?_
        refine y_icmp_eq (tgt := 2614) d_W_law_2609 (by decide) ?_ ?_
        · refine y_iload d_W_law_2614 rfl ?_
          refine y_jn (C := fun (j9 : mH → Option (Int32 × mH)) => ∀ (h508 : mH), mY l Θ d M_W_law 2651 [some (.ref (mwad Θ 40)), some (.ref f1_), some (.ref f2_), some (.ref f3_), some (.ref f4_), some (.int v5_), none, none, none, none] [] h508 (tR vI) (j9 h508)) (fun h508 => ?_) (fun j507 Hj507 => ?_)
          · refine y_goto (tgt := 2811) d_W_law_2651 (by decide) ?_
            exact Hj15 h508
          · refine y_if_ne (tgt := 2651) d_W_law_2616 (by decide) ?_ ?_
            · exact y_wk (loc2 := [some (.ref (mwad Θ 40)), some (.ref f1_), some (.ref f2_), some (.ref f3_), some (.ref f4_), some (.int v5_), none, none, none, none]) ⟨rfl, ⟨rfl, ⟨rfl, ⟨rfl, ⟨rfl, ⟨rfl, trivial⟩⟩⟩⟩⟩⟩ (Hj507 h505)
            · refine y_aload d_W_law_2619 rfl ?_
              refine y_iconst (v := (J 0)) d_W_law_2621 rfl ?_
              refine y_dald d_W_law_2622 (fun v509 => ?_)
              refine y_dload d_W_law_2623 rfl ?_
              refine y_dcmp (v := (Op.cmpValue (FP.dcmp v509 v504) .l)) d_W_law_2625 rfl ?_
              refine y_if_eq (tgt := 2651) d_W_law_2626 (by decide) ?_ ?_
              · exact y_wk (loc2 := [some (.ref (mwad Θ 40)), some (.ref f1_), some (.ref f2_), some (.ref f3_), some (.ref f4_), some (.int v5_), none, none, none, none]) ⟨rfl, ⟨rfl, ⟨rfl, ⟨rfl, ⟨rfl, ⟨rfl, trivial⟩⟩⟩⟩⟩⟩ (Hj507 h505)
              · refine y_aload d_W_law_2629 rfl ?_
                refine y_iconst (v := (J 0)) d_W_law_2631 rfl ?_
                refine y_dald d_W_law_2632 (fun v510 => ?_)
                refine y_aload d_W_law_2633 rfl ?_
                refine y_iconst (v := (J 0)) d_W_law_2635 rfl ?_
                refine y_dald d_W_law_2636 (fun v511 => ?_)
                refine y_dcmp (v := (Op.cmpValue (FP.dcmp v510 v511) .l)) d_W_law_2637 rfl ?_
                refine y_if_eq (tgt := 2649) d_W_law_2638 (by decide) ?_ ?_
                · refine y_iconst (v := (J 0)) d_W_law_2649 rfl ?_
                  exact y_retI d_W_law_2650 rfl (by decide +kernel)
                · refine y_dload d_W_law_2641 rfl ?_
                  refine y_dload d_W_law_2643 rfl ?_
                  refine y_dcmp (v := (Op.cmpValue (FP.dcmp v504 v504) .l)) d_W_law_2645 rfl ?_
                  refine y_if_ne (tgt := 2651) d_W_law_2646 (by decide) ?_ ?_
                  · exact y_wk (loc2 := [some (.ref (mwad Θ 40)), some (.ref f1_), some (.ref f2_), some (.ref f3_), some (.ref f4_), some (.int v5_), none, none, none, none]) ⟨rfl, ⟨rfl, ⟨rfl, ⟨rfl, ⟨rfl, ⟨rfl, trivial⟩⟩⟩⟩⟩⟩ (Hj507 h505)
                  · refine y_iconst (v := (J 0)) d_W_law_2649 rfl ?_
                    exact y_retI d_W_law_2650 rfl (by decide +kernel)
        · refine y_iconst (v := (J 0)) d_W_law_2612 rfl ?_
          exact y_retI d_W_law_2613 rfl (by decide +kernel)
      refine y_tabIn (tgt := 2654) d_W_law_44 hn (by decide +kernel) rfl (by decide) ?_ ?_
      · refine y_aload_n d_W_law_2654 rfl ?_
        refine y_gO (fun fs1 g1 => y_cF (c_vi (rest := []) d_W_law_2655 k_F_takenShare s_W_331 (Or.inl ⟨_, _, _, g1, rfl, rfl⟩) rfl rfl (Nat.le_of_ble_eq_true rfl) (Nat.le_trans (Nat.le_of_ble_eq_true rfl : 3 + 1 ≤ 14) hD) (S_F_takenShare hfl (Nat.le_refl _) h f1_)) (fun v513 h512 => ?_))
        refine y_gd (fun hn => y_f2d d_W_law_2658 hn ?_)
        refine y_dstore (loc2 := [some (.ref (mwad Θ 40)), some (.ref f1_), some (.ref f2_), some (.ref f3_), some (.ref f4_), some (.int v5_), some (.double (FP.f2d v513)), none, none, none]) d_W_law_2659 (Nat.le_of_ble_eq_true rfl) rfl rfl ?_
        refine y_aload_n d_W_law_2661 rfl ?_
        refine y_gO (fun fs1 g1 => y_cF (c_vi (rest := []) d_W_law_2662 k_R_takenShare s_W_335 (Or.inl ⟨_, _, _, g1, rfl, rfl⟩) rfl rfl (Nat.le_of_ble_eq_true rfl) (Nat.le_trans (Nat.le_of_ble_eq_true rfl : 6 + 1 ≤ 14) hD) (S_R_takenShare hfl (Nat.le_refl _) h512 f2_)) (fun v515 h514 => ?_))
        refine y_gd (fun hn => y_f2d d_W_law_2665 hn ?_)
        refine y_dstore (loc2 := [some (.ref (mwad Θ 40)), some (.ref f1_), some (.ref f2_), some (.ref f3_), some (.ref f4_), some (.int v5_), some (.double (FP.f2d v513)), none, some (.double (FP.f2d v515)), none]) d_W_law_2666 (Nat.le_of_ble_eq_true rfl) rfl rfl ?_
        refine y_dload d_W_law_2668 rfl ?_
        refine y_dload d_W_law_2670 rfl ?_
        refine y_dcmp (v := (Op.cmpValue (FP.dcmp (FP.f2d v513) (FP.f2d v515)) .l)) d_W_law_2672 rfl ?_
        refine y_jn (C := fun (j9 : mH → Option (Int32 × mH)) => ∀ (h517 : mH), mY l Θ d M_W_law 2694 [some (.ref (mwad Θ 40)), some (.ref f1_), some (.ref f2_), some (.ref f3_), some (.ref f4_), some (.int v5_), none, none, none, none] [] h517 (tR vI) (j9 h517)) (fun h517 => ?_) (fun j516 Hj516 => ?_)
        · refine y_goto (tgt := 2811) d_W_law_2694 (by decide) ?_
          exact Hj15 h517
        · refine y_if_eq (tgt := 2694) d_W_law_2673 (by decide) ?_ ?_
          · exact y_wk (loc2 := [some (.ref (mwad Θ 40)), some (.ref f1_), some (.ref f2_), some (.ref f3_), some (.ref f4_), some (.int v5_), none, none, none, none]) ⟨rfl, ⟨rfl, ⟨rfl, ⟨rfl, ⟨rfl, ⟨rfl, trivial⟩⟩⟩⟩⟩⟩ (Hj516 h514)
          · refine y_dload d_W_law_2676 rfl ?_
            refine y_dload d_W_law_2678 rfl ?_
            refine y_dcmp (v := (Op.cmpValue (FP.dcmp (FP.f2d v513) (FP.f2d v513)) .l)) d_W_law_2680 rfl ?_
            refine y_if_eq (tgt := 2692) d_W_law_2681 (by decide) ?_ ?_
            · refine y_iconst (v := (J 0)) d_W_law_2692 rfl ?_
              exact y_retI d_W_law_2693 rfl (by decide +kernel)
            · refine y_dload d_W_law_2684 rfl ?_
              refine y_dload d_W_law_2686 rfl ?_
              refine y_dcmp (v := (Op.cmpValue (FP.dcmp (FP.f2d v515) (FP.f2d v515)) .l)) d_W_law_2688 rfl ?_
              refine y_if_ne (tgt := 2694) d_W_law_2689 (by decide) ?_ ?_
              · exact y_wk (loc2 := [some (.ref (mwad Θ 40)), some (.ref f1_), some (.ref f2_), some (.ref f3_), some (.ref f4_), some (.int v5_), none, none, none, none]) ⟨rfl, ⟨rfl, ⟨rfl, ⟨rfl, ⟨rfl, ⟨rfl, trivial⟩⟩⟩⟩⟩⟩ (Hj516 h514)
              · refine y_iconst (v := (J 0)) d_W_law_2692 rfl ?_
                exact y_retI d_W_law_2693 rfl (by decide +kernel)
      refine y_tabIn (tgt := 2697) d_W_law_44 hn (by decide +kernel) rfl (by decide) ?_ ?_
      · refine y_aload_n d_W_law_2697 rfl ?_
        refine y_gO (fun fs1 g1 => y_cI (c_vi (rest := []) d_W_law_2698 k_F_isConsistent s_W_336 (Or.inl ⟨_, _, _, g1, rfl, rfl⟩) rfl rfl (Nat.le_of_ble_eq_true rfl) (Nat.le_trans (Nat.le_of_ble_eq_true rfl : 12 + 1 ≤ 14) hD) (S_F_isConsistent hfl (Nat.le_refl _) h f1_)) (fun v519 h518 => ?_))
        refine y_aload_n d_W_law_2701 rfl ?_
        refine y_gO (fun fs1 g1 => y_cI (c_vi (rest := [.int v519]) d_W_law_2702 k_R_isConsistent s_W_339 (Or.inl ⟨_, _, _, g1, rfl, rfl⟩) rfl rfl (Nat.le_of_ble_eq_true rfl) (Nat.le_trans (Nat.le_of_ble_eq_true rfl : 1 + 1 ≤ 14) hD) (S_R_isConsistent hfl (Nat.le_refl _) h518 f2_)) (fun v521 h520 => ?_))
        refine y_icmp_eq (tgt := 2811) d_W_law_2705 (by decide) ?_ ?_
        · exact Hj15 h520
        · refine y_iconst (v := (J 0)) d_W_law_2708 rfl ?_
          exact y_retI d_W_law_2709 rfl (by decide +kernel)
      refine y_tabIn (tgt := 2710) d_W_law_44 hn (by decide +kernel) rfl (by decide) ?_ ?_
      · refine y_aload_n d_W_law_2710 rfl ?_
        refine y_aload_n d_W_law_2711 rfl ?_
        refine y_cI (c_st (rest := []) d_W_law_2712 k_W_undo s_W_340 rfl rfl (Nat.le_of_ble_eq_true rfl) (Nat.le_trans (Nat.le_of_ble_eq_true rfl : 7 + 1 ≤ 14) hD) (S_W_undo hfl (Nat.le_refl _) h f1_ f3_)) (fun v523 h522 => ?_)
        refine y_istore (loc2 := [some (.ref (mwad Θ 40)), some (.ref f1_), some (.ref f2_), some (.ref f3_), some (.ref f4_), some (.int v5_), some (.int v523), none, none, none]) d_W_law_2715 (Nat.le_of_ble_eq_true rfl) rfl rfl ?_
        refine y_aload_n d_W_law_2717 rfl ?_
        refine y_gO (fun fs1 g1 => y_cI (c_vi (rest := []) d_W_law_2718 k_R_undo s_W_342 (Or.inl ⟨_, _, _, g1, rfl, rfl⟩) rfl rfl (Nat.le_of_ble_eq_true rfl) (Nat.le_trans (Nat.le_of_ble_eq_true rfl : 3 + 1 ≤ 14) hD) (S_R_undo hfl (Nat.le_refl _) h522 f2_)) (fun v525 h524 => ?_))
        refine y_istore (loc2 := [some (.ref (mwad Θ 40)), some (.ref f1_), some (.ref f2_), some (.ref f3_), some (.ref f4_), some (.int v5_), some (.int v523), some (.int v525), none, none]) d_W_law_2721 (Nat.le_of_ble_eq_true rfl) rfl rfl ?_
        refine y_aload_n d_W_law_2723 rfl ?_
        refine y_gO (fun fs1 g1 => y_cI (c_vi (rest := []) d_W_law_2724 k_R_thrown s_W_161 (Or.inl ⟨_, _, _, g1, rfl, rfl⟩) rfl rfl (Nat.le_of_ble_eq_true rfl) (Nat.le_trans (Nat.le_of_ble_eq_true rfl : 1 + 1 ≤ 14) hD) (S_R_thrown hfl (Nat.le_refl _) h524 f2_)) (fun v527 h526 => ?_))
        refine y_iload d_W_law_2727 rfl ?_
        refine y_icmp_eq (tgt := 2734) d_W_law_2729 (by decide) ?_ ?_
        · refine y_iload d_W_law_2734 rfl ?_
          refine y_jn (C := fun (j9 : mH → Option (Int32 × mH)) => ∀ (h529 : mH), mY l Θ d M_W_law 2751 [some (.ref (mwad Θ 40)), some (.ref f1_), some (.ref f2_), some (.ref f3_), some (.ref f4_), some (.int v5_), none, none, none, none] [] h529 (tR vI) (j9 h529)) (fun h529 => ?_) (fun j528 Hj528 => ?_)
          · refine y_goto (tgt := 2811) d_W_law_2751 (by decide) ?_
            exact Hj15 h529
          · refine y_if_ne (tgt := 2751) d_W_law_2736 (by decide) ?_ ?_
            · exact y_wk (loc2 := [some (.ref (mwad Θ 40)), some (.ref f1_), some (.ref f2_), some (.ref f3_), some (.ref f4_), some (.int v5_), none, none, none, none]) ⟨rfl, ⟨rfl, ⟨rfl, ⟨rfl, ⟨rfl, ⟨rfl, trivial⟩⟩⟩⟩⟩⟩ (Hj528 h526)
            · refine y_aload_n d_W_law_2739 rfl ?_
              refine y_iconst (v := (J 0)) d_W_law_2740 rfl ?_
              refine y_lald d_W_law_2741 (fun v530 => ?_)
              refine y_iload d_W_law_2742 rfl ?_
              refine y_i2l (v := ((v525).toInt64)) d_W_law_2744 rfl ?_
              refine y_lcmp (v := (lg_cmp v530 ((v525).toInt64))) d_W_law_2745 rfl ?_
              refine y_if_eq (tgt := 2751) d_W_law_2746 (by decide) ?_ ?_
              · exact y_wk (loc2 := [some (.ref (mwad Θ 40)), some (.ref f1_), some (.ref f2_), some (.ref f3_), some (.ref f4_), some (.int v5_), none, none, none, none]) ⟨rfl, ⟨rfl, ⟨rfl, ⟨rfl, ⟨rfl, ⟨rfl, trivial⟩⟩⟩⟩⟩⟩ (Hj528 h526)
              · refine y_iconst (v := (J 0)) d_W_law_2749 rfl ?_
                exact y_retI d_W_law_2750 rfl (by decide +kernel)
        · refine y_iconst (v := (J 0)) d_W_law_2732 rfl ?_
          exact y_retI d_W_law_2733 rfl (by decide +kernel)
      refine y_tabIn (tgt := 2754) d_W_law_44 hn (by decide +kernel) rfl (by decide) ?_ ?_
      · refine y_aload_n d_W_law_2754 rfl ?_
        refine y_gO (fun fs1 g1 => y_cI (c_vi (rest := []) d_W_law_2755 k_F_save s_W_343 (Or.inl ⟨_, _, _, g1, rfl, rfl⟩) rfl rfl (Nat.le_of_ble_eq_true rfl) (Nat.le_trans (Nat.le_of_ble_eq_true rfl : 5 + 1 ≤ 14) hD) (S_F_save hfl (Nat.le_refl _) h f1_)) (fun v532 h531 => ?_))
        refine y_aload_n d_W_law_2758 rfl ?_
        refine y_gO (fun fs1 g1 => y_cI (c_vi (rest := [.int v532]) d_W_law_2759 k_R_save s_W_346 (Or.inl ⟨_, _, _, g1, rfl, rfl⟩) rfl rfl (Nat.le_of_ble_eq_true rfl) (Nat.le_trans (Nat.le_of_ble_eq_true rfl : 2 + 1 ≤ 14) hD) (S_R_save hfl (Nat.le_refl _) h531 f2_)) (fun v534 h533 => ?_))
        refine y_icmp_eq (tgt := 2811) d_W_law_2762 (by decide) ?_ ?_
        · exact Hj15 h533
        · refine y_iconst (v := (J 0)) d_W_law_2765 rfl ?_
          exact y_retI d_W_law_2766 rfl (by decide +kernel)
      refine y_tabIn (tgt := 2767) d_W_law_44 hn (by decide +kernel) rfl (by decide) ?_ ?_
      · refine y_aload_n d_W_law_2767 rfl ?_
        refine y_aload_n d_W_law_2768 rfl ?_
        refine y_cI (c_st (rest := []) d_W_law_2769 k_W_restore s_W_347 rfl rfl (Nat.le_of_ble_eq_true rfl) (Nat.le_trans (Nat.le_of_ble_eq_true rfl : 7 + 1 ≤ 14) hD) (S_W_restore hfl (Nat.le_refl _) h f1_ f3_)) (fun v536 h535 => ?_)
        refine y_istore (loc2 := [some (.ref (mwad Θ 40)), some (.ref f1_), some (.ref f2_), some (.ref f3_), some (.ref f4_), some (.int v5_), some (.int v536), none, none, none]) d_W_law_2772 (Nat.le_of_ble_eq_true rfl) rfl rfl ?_
        refine y_aload_n d_W_law_2774 rfl ?_
        refine y_gO (fun fs1 g1 => y_cI (c_vi (rest := []) d_W_law_2775 k_R_restore s_W_349 (Or.inl ⟨_, _, _, g1, rfl, rfl⟩) rfl rfl (Nat.le_of_ble_eq_true rfl) (Nat.le_trans (Nat.le_of_ble_eq_true rfl : 3 + 1 ≤ 14) hD) (S_R_restore hfl (Nat.le_refl _) h535 f2_)) (fun v538 h537 => ?_))
        refine y_istore (loc2 := [some (.ref (mwad Θ 40)), some (.ref f1_), some (.ref f2_), some (.ref f3_), some (.ref f4_), some (.int v5_), some (.int v536), some (.int v538), none, none]) d_W_law_2778 (Nat.le_of_ble_eq_true rfl) rfl rfl ?_
        refine y_aload_n d_W_law_2780 rfl ?_
        refine y_gO (fun fs1 g1 => y_cI (c_vi (rest := []) d_W_law_2781 k_R_thrown s_W_161 (Or.inl ⟨_, _, _, g1, rfl, rfl⟩) rfl rfl (Nat.le_of_ble_eq_true rfl) (Nat.le_trans (Nat.le_of_ble_eq_true rfl : 1 + 1 ≤ 14) hD) (S_R_thrown hfl (Nat.le_refl _) h537 f2_)) (fun v540 h539 => ?_))
        refine y_iload d_W_law_2784 rfl ?_
        refine y_icmp_eq (tgt := 2791) d_W_law_2786 (by decide) ?_ ?_
        · refine y_iload d_W_law_2791 rfl ?_
          refine y_jn (C := fun (j9 : mH → Option (Int32 × mH)) => ∀ (h542 : mH), mY l Θ d M_W_law 2808 [some (.ref (mwad Θ 40)), some (.ref f1_), some (.ref f2_), some (.ref f3_), some (.ref f4_), some (.int v5_), none, none, none, none] [] h542 (tR vI) (j9 h542)) (fun h542 => ?_) (fun j541 Hj541 => ?_)
          · refine y_goto (tgt := 2811) d_W_law_2808 (by decide) ?_
            exact Hj15 h542
          · refine y_if_ne (tgt := 2808) d_W_law_2793 (by decide) ?_ ?_
            · exact y_wk (loc2 := [some (.ref (mwad Θ 40)), some (.ref f1_), some (.ref f2_), some (.ref f3_), some (.ref f4_), some (.int v5_), none, none, none, none]) ⟨rfl, ⟨rfl, ⟨rfl, ⟨rfl, ⟨rfl, ⟨rfl, trivial⟩⟩⟩⟩⟩⟩ (Hj541 h539)
            · refine y_aload_n d_W_law_2796 rfl ?_
              refine y_iconst (v := (J 0)) d_W_law_2797 rfl ?_
              refine y_lald d_W_law_2798 (fun v543 => ?_)
              refine y_iload d_W_law_2799 rfl ?_
              refine y_i2l (v := ((v538).toInt64)) d_W_law_2801 rfl ?_
              refine y_lcmp (v := (lg_cmp v543 ((v538).toInt64))) d_W_law_2802 rfl ?_
              refine y_if_eq (tgt := 2808) d_W_law_2803 (by decide) ?_ ?_
              · exact y_wk (loc2 := [some (.ref (mwad Θ 40)), some (.ref f1_), some (.ref f2_), some (.ref f3_), some (.ref f4_), some (.int v5_), none, none, none, none]) ⟨rfl, ⟨rfl, ⟨rfl, ⟨rfl, ⟨rfl, ⟨rfl, trivial⟩⟩⟩⟩⟩⟩ (Hj541 h539)
              · refine y_iconst (v := (J 0)) d_W_law_2806 rfl ?_
                exact y_retI d_W_law_2807 rfl (by decide +kernel)
        · refine y_iconst (v := (J 0)) d_W_law_2789 rfl ?_
          exact y_retI d_W_law_2790 rfl (by decide +kernel)
      exact y_none
theorem S_W_law_28 (hfl : HF l Θ) (hD : 14 ≤ d) {K2817 : mH → Option (Int32 × mH)} {f1_ : Nat} {f2_ : Nat} {f3_ : Nat} {f4_ : Nat}  (hK2817 : ∀ (h : mH), mY l Θ d M_W_law 2817 [none, none, none, none, none, none, none, none, none, none] [] h (tR vI) (K2817 h)) : ∀ (n : Nat) (h : mH) (v5_ : Int32), mY l Θ d M_W_law 28 [some (.ref (mwad Θ 40)), some (.ref f1_), some (.ref f2_), some (.ref f3_), some (.ref f4_), some (.int v5_), none, none, none, none] [] h (tR vI) (P_W_law_28 Θ N K2817 f1_ f2_ f3_ f4_ n h v5_) :=
  fun n => lp_all (C := fun (rc : mH → Int32 → Option (Int32 × mH)) => ∀ (h : mH) (v5_ : Int32), mY l Θ d M_W_law 28 [some (.ref (mwad Θ 40)), some (.ref f1_), some (.ref f2_), some (.ref f3_), some (.ref f4_), some (.int v5_), none, none, none, none] [] h (tR vI) (rc h v5_)) (fun _ _ => y_none) (fun rc ih => SB_W_law_28 hfl hD hK2817 rc ih) n
theorem S_W_law (hfl : HF l Θ) (hD : 14 ≤ d) (h : mH) : mY l Θ d M_W_law 0 [some (.ref (mwad Θ 40)), none, none, none, none, none, none, none, none, none] [] h (tR vI) (P_W_law Θ N h) := by
  unfold P_W_law
  refine y_new d_W_law_0 n_W_8 (fun q1 h2 _ _ => ?_)
  refine y_dup d_W_law_3 rfl ?_
  refine y_cU (c_in (rest := [.ref q1]) d_W_law_4 k_F_init s_W_151 rfl rfl (Nat.le_of_ble_eq_true rfl) (Nat.le_trans (Nat.le_of_ble_eq_true rfl : 5 + 1 ≤ 14) hD) (S_F_init hfl (Nat.le_refl _) h2 q1)) (fun v4 h3 => ?_)
  refine y_astore_n (loc2 := [some (.ref (mwad Θ 40)), some (.ref q1), none, none, none, none, none, none, none, none]) d_W_law_7 (Nat.le_of_ble_eq_true rfl) rfl rfl ?_
  refine y_new d_W_law_8 n_W_152 (fun q5 h6 _ _ => ?_)
  refine y_dup d_W_law_11 rfl ?_
  refine y_cU (c_in (rest := [.ref q5]) d_W_law_12 k_R_init s_W_154 rfl rfl (Nat.le_of_ble_eq_true rfl) (Nat.le_trans (Nat.le_of_ble_eq_true rfl : 1 + 1 ≤ 14) hD) (S_R_init hfl (Nat.le_refl _) h6 q5)) (fun v8 h7 => ?_)
  refine y_astore_n (loc2 := [some (.ref (mwad Θ 40)), some (.ref q1), some (.ref q5), none, none, none, none, none, none, none]) d_W_law_15 (Nat.le_of_ble_eq_true rfl) rfl rfl ?_
  refine y_iconst (v := (J 1)) d_W_law_16 rfl ?_
  refine y_newarr (ty := .long) (a0 := fun n => (n, .inr (.inl (fun _ => 0)))) d_W_law_17 rfl (fun _ => rfl) (mG (9, 237) (by decide +kernel)) (fun _ _ => rfl) (fun _ => rfl) rfl (fun q9 h10 => ?_)
  refine y_astore_n (loc2 := [some (.ref (mwad Θ 40)), some (.ref q1), some (.ref q5), some (.ref q9), none, none, none, none, none, none]) d_W_law_19 (Nat.le_of_ble_eq_true rfl) rfl rfl ?_
  refine y_iconst (v := (J 1)) d_W_law_20 rfl ?_
  refine y_newarr (ty := .double) (a0 := fun n => (n, .inr (.inr (.inr (.inl (fun _ => 0)))))) d_W_law_21 rfl (fun _ => rfl) (mG (9, 238) (by decide +kernel)) (fun _ _ => rfl) (fun _ => rfl) rfl (fun q11 h12 => ?_)
  refine y_astore (loc2 := [some (.ref (mwad Θ 40)), some (.ref q1), some (.ref q5), some (.ref q9), some (.ref q11), none, none, none, none, none]) d_W_law_23 (Nat.le_of_ble_eq_true rfl) rfl rfl ?_
  refine y_iconst (v := (J 0)) d_W_law_25 rfl ?_
  refine y_istore (loc2 := [some (.ref (mwad Θ 40)), some (.ref q1), some (.ref q5), some (.ref q9), some (.ref q11), some (.int (J 0)), none, none, none, none]) d_W_law_26 (Nat.le_of_ble_eq_true rfl) rfl rfl ?_
  refine S_W_law_28 hfl hD (fun h544 => ?_) N h12 (J 0)
  refine y_iconst (v := (J 1)) d_W_law_2817 rfl ?_
  exact y_retI d_W_law_2818 rfl (by decide +kernel)
end GP
