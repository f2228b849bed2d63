theorem lk_L_93 : Cond.methodLink RL 93 yL_appendText ∈ lwG := gmem 1087 (by decide +kernel) (by decide +kernel)
theorem lk_L_98 : Cond.methodLink RL 98 yX11_appendText ∈ lwG := gmem 1619 (by decide +kernel) (by decide +kernel)
theorem lk_L_99 : Cond.methodLink RL 99 yX11_thrown ∈ lwG := gmem 1615 (by decide +kernel) (by decide +kernel)
theorem lk_L_103 : Cond.methodLink RL 103 yL_truncateText ∈ lwG := gmem 1166 (by decide +kernel) (by decide +kernel)
theorem lk_L_105 : Cond.methodLink RL 105 yX11_truncateText ∈ lwG := gmem 1627 (by decide +kernel) (by decide +kernel)
theorem lk_L_106 : Cond.methodLink RL 106 yX10_load ∈ lwG := gmem 554 (by decide +kernel) (by decide +kernel)
theorem lk_L_109 : Cond.methodLink RL 109 yX11_load ∈ lwG := gmem 1642 (by decide +kernel) (by decide +kernel)
theorem lk_L_110 : Cond.methodLink RL 110 yX10_errorCode ∈ lwG := gmem 783 (by decide +kernel) (by decide +kernel)
theorem lk_L_113 : Cond.methodLink RL 113 yX11_errorCode ∈ lwG := gmem 1634 (by decide +kernel) (by decide +kernel)
theorem lk_L_114 : Cond.methodLink RL 114 yX10_errorPosition ∈ lwG := gmem 787 (by decide +kernel) (by decide +kernel)
theorem lk_L_117 : Cond.methodLink RL 117 yX11_errorPosition ∈ lwG := gmem 1638 (by decide +kernel) (by decide +kernel)
theorem lk_L_118 : Cond.methodLink RL 118 yL_count ∈ lwG := gmem 1193 (by decide +kernel) (by decide +kernel)
theorem lk_L_120 : Cond.methodLink RL 120 yX11_count ∈ lwG := gmem 1740 (by decide +kernel) (by decide +kernel)
theorem lk_L_121 : Cond.methodLink RL 121 yL_shot ∈ lwG := gmem 1205 (by decide +kernel) (by decide +kernel)
theorem lk_L_124 : Cond.methodLink RL 124 yX11_shot ∈ lwG := gmem 1787 (by decide +kernel) (by decide +kernel)
theorem lk_L_125 : Cond.methodLink RL 125 yL_map ∈ lwG := gmem 1245 (by decide +kernel) (by decide +kernel)
theorem lk_L_127 : Cond.methodLink RL 127 yX11_map ∈ lwG := gmem 1847 (by decide +kernel) (by decide +kernel)
theorem lk_L_128 : Cond.methodLink RL 128 yL_ban ∈ lwG := gmem 1265 (by decide +kernel) (by decide +kernel)
theorem lk_L_130 : Cond.methodLink RL 130 yX11_ban ∈ lwG := gmem 1875 (by decide +kernel) (by decide +kernel)
theorem lk_L_131 : Cond.methodLink RL 131 yL_word ∈ lwG := gmem 1276 (by decide +kernel) (by decide +kernel)
theorem lk_L_133 : Cond.methodLink RL 133 yX11_word ∈ lwG := gmem 1883 (by decide +kernel) (by decide +kernel)
theorem lk_L_134 : Cond.methodLink RL 134 yL_piece ∈ lwG := gmem 1284 (by decide +kernel) (by decide +kernel)
theorem lk_L_136 : Cond.methodLink RL 136 yX11_piece ∈ lwG := gmem 1891 (by decide +kernel) (by decide +kernel)
theorem lk_L_137 : Cond.methodLink RL 137 yL_reel ∈ lwG := gmem 1292 (by decide +kernel) (by decide +kernel)
theorem lk_L_139 : Cond.methodLink RL 139 yX11_reel ∈ lwG := gmem 1895 (by decide +kernel) (by decide +kernel)
theorem lk_L_140 : Cond.methodLink RL 140 yX10_screen ∈ lwG := gmem 791 (by decide +kernel) (by decide +kernel)
theorem lk_L_143 : Cond.methodLink RL 143 yX11_screen ∈ lwG := gmem 1915 (by decide +kernel) (by decide +kernel)
theorem lk_L_144 : Cond.methodLink RL 144 yX10_spoken ∈ lwG := gmem 799 (by decide +kernel) (by decide +kernel)
theorem lk_L_147 : Cond.methodLink RL 147 yX11_spoken ∈ lwG := gmem 1919 (by decide +kernel) (by decide +kernel)
theorem lk_L_148 : Cond.methodLink RL 148 yL_account ∈ lwG := gmem 1312 (by decide +kernel) (by decide +kernel)
theorem lk_L_150 : Cond.methodLink RL 150 yX11_account ∈ lwG := gmem 1923 (by decide +kernel) (by decide +kernel)
theorem lk_L_151 : Cond.methodLink RL 151 yL_faults ∈ lwG := gmem 1319 (by decide +kernel) (by decide +kernel)
theorem lk_L_153 : Cond.methodLink RL 153 yX11_faults ∈ lwG := gmem 1927 (by decide +kernel) (by decide +kernel)
theorem lk_L_154 : Cond.methodLink RL 154 yL_fault ∈ lwG := gmem 1330 (by decide +kernel) (by decide +kernel)
theorem lk_L_156 : Cond.methodLink RL 156 yX11_fault ∈ lwG := gmem 1952 (by decide +kernel) (by decide +kernel)
theorem lk_L_157 : Cond.methodLink RL 157 yX10_fits ∈ lwG := gmem 807 (by decide +kernel) (by decide +kernel)
theorem lk_L_161 : Cond.methodLink RL 161 yX11_fits ∈ lwG := gmem 1956 (by decide +kernel) (by decide +kernel)
theorem lk_L_162 : Cond.methodLink RL 162 yL_share ∈ lwG := gmem 1337 (by decide +kernel) (by decide +kernel)
theorem lk_L_165 : Cond.methodLink RL 165 yX11_share ∈ lwG := gmem 1960 (by decide +kernel) (by decide +kernel)
theorem lk_L_166 : Cond.methodLink RL 166 yX10_pace ∈ lwG := gmem 860 (by decide +kernel) (by decide +kernel)
theorem lk_L_170 : Cond.methodLink RL 170 yX11_pace ∈ lwG := gmem 1968 (by decide +kernel) (by decide +kernel)
theorem lk_L_171 : Cond.methodLink RL 171 yL_best ∈ lwG := gmem 1349 (by decide +kernel) (by decide +kernel)
theorem lk_L_173 : Cond.methodLink RL 173 yX11_best ∈ lwG := gmem 1972 (by decide +kernel) (by decide +kernel)
theorem lk_L_174 : Cond.methodLink RL 174 yX10_bestWeek ∈ lwG := gmem 868 (by decide +kernel) (by decide +kernel)
theorem lk_L_177 : Cond.methodLink RL 177 yX11_bestWeek ∈ lwG := gmem 1995 (by decide +kernel) (by decide +kernel)
theorem lk_L_178 : Cond.methodLink RL 178 yX10_bestSpeed ∈ lwG := gmem 897 (by decide +kernel) (by decide +kernel)
theorem lk_L_181 : Cond.methodLink RL 181 yX11_bestSpeed ∈ lwG := gmem 1999 (by decide +kernel) (by decide +kernel)
theorem lk_L_182 : Cond.methodLink RL 182 yX10_edit ∈ lwG := gmem 919 (by decide +kernel) (by decide +kernel)
theorem lk_L_185 : Cond.methodLink RL 185 yX11_edit ∈ lwG := gmem 2003 (by decide +kernel) (by decide +kernel)
theorem lk_L_186 : Cond.methodLink RL 186 yX10_say ∈ lwG := gmem 988 (by decide +kernel) (by decide +kernel)
theorem lk_L_189 : Cond.methodLink RL 189 yX11_say ∈ lwG := gmem 2051 (by decide +kernel) (by decide +kernel)
theorem lk_L_190 : Cond.methodLink RL 190 yX10_assemble ∈ lwG := gmem 1014 (by decide +kernel) (by decide +kernel)
theorem lk_L_193 : Cond.methodLink RL 193 yX11_assemble ∈ lwG := gmem 2071 (by decide +kernel) (by decide +kernel)
theorem lk_L_194 : Cond.methodLink RL 194 yL_insert ∈ lwG := gmem 1356 (by decide +kernel) (by decide +kernel)
theorem lk_L_197 : Cond.methodLink RL 197 yX11_insert ∈ lwG := gmem 2079 (by decide +kernel) (by decide +kernel)
theorem lk_L_198 : Cond.methodLink RL 198 yL_trim ∈ lwG := gmem 1375 (by decide +kernel) (by decide +kernel)
theorem lk_L_200 : Cond.methodLink RL 200 yX11_trim ∈ lwG := gmem 2095 (by decide +kernel) (by decide +kernel)
theorem lk_L_201 : Cond.methodLink RL 201 yL_remove ∈ lwG := gmem 1385 (by decide +kernel) (by decide +kernel)
theorem lk_L_203 : Cond.methodLink RL 203 yX11_remove ∈ lwG := gmem 2107 (by decide +kernel) (by decide +kernel)
theorem lk_L_204 : Cond.methodLink RL 204 yL_move ∈ lwG := gmem 1392 (by decide +kernel) (by decide +kernel)
theorem lk_L_206 : Cond.methodLink RL 206 yX11_move ∈ lwG := gmem 2115 (by decide +kernel) (by decide +kernel)
theorem lk_L_207 : Cond.methodLink RL 207 yL_setWeek ∈ lwG := gmem 1402 (by decide +kernel) (by decide +kernel)
theorem lk_L_209 : Cond.methodLink RL 209 yX11_setWeek ∈ lwG := gmem 2119 (by decide +kernel) (by decide +kernel)
theorem lk_L_210 : Cond.methodLink RL 210 yL_setVoice ∈ lwG := gmem 1419 (by decide +kernel) (by decide +kernel)
theorem lk_L_212 : Cond.methodLink RL 212 yX11_setVoice ∈ lwG := gmem 2123 (by decide +kernel) (by decide +kernel)
theorem lk_L_213 : Cond.methodLink RL 213 yL_setSlack ∈ lwG := gmem 1426 (by decide +kernel) (by decide +kernel)
theorem lk_L_215 : Cond.methodLink RL 215 yX11_setSlack ∈ lwG := gmem 2127 (by decide +kernel) (by decide +kernel)
theorem lk_L_216 : Cond.methodLink RL 216 yX10_writeReel ∈ lwG := gmem 1024 (by decide +kernel) (by decide +kernel)
theorem lk_L_219 : Cond.methodLink RL 219 yX11_writeReel ∈ lwG := gmem 2131 (by decide +kernel) (by decide +kernel)
theorem lk_L_220 : Cond.methodLink RL 220 yX10_writeVoice ∈ lwG := gmem 1067 (by decide +kernel) (by decide +kernel)
theorem lk_L_223 : Cond.methodLink RL 223 yX11_writeVoice ∈ lwG := gmem 2162 (by decide +kernel) (by decide +kernel)
theorem lk_L_224 : Cond.methodLink RL 224 yX10_output ∈ lwG := gmem 1075 (by decide +kernel) (by decide +kernel)
theorem lk_L_227 : Cond.methodLink RL 227 yX11_output ∈ lwG := gmem 2166 (by decide +kernel) (by decide +kernel)
theorem lk_L_228 : Cond.methodLink RL 228 yX10_undo ∈ lwG := gmem 1083 (by decide +kernel) (by decide +kernel)
theorem lk_L_231 : Cond.methodLink RL 231 yX11_undo ∈ lwG := gmem 2170 (by decide +kernel) (by decide +kernel)
theorem lk_L_232 : Cond.methodLink RL 232 yL_save ∈ lwG := gmem 1433 (by decide +kernel) (by decide +kernel)
theorem lk_L_235 : Cond.methodLink RL 235 yX11_save ∈ lwG := gmem 2174 (by decide +kernel) (by decide +kernel)
theorem lk_L_236 : Cond.methodLink RL 236 yL_restore ∈ lwG := gmem 1440 (by decide +kernel) (by decide +kernel)
theorem lk_L_238 : Cond.methodLink RL 238 yX11_restore ∈ lwG := gmem 2181 (by decide +kernel) (by decide +kernel)
theorem gh_appendText : Cond.codeWith yL_appendText cL_appendText 4 (some .int) [(0, 9, 12, 13)] ∈ lwG ∧ Cond.static yL_appendText ∈ lwG ∧ Cond.initialized yL_appendText.cls ∈ lwG := ⟨gmem 1089 (by decide +kernel) (by decide +kernel), gmem 1088 (by decide +kernel) (by decide +kernel), gmem 132 (by decide +kernel) (by decide +kernel)⟩
theorem gh_truncateText : Cond.codeWith yL_truncateText cL_truncateText 4 (some .int) [(0, 9, 12, 18)] ∈ lwG ∧ Cond.static yL_truncateText ∈ lwG ∧ Cond.initialized yL_truncateText.cls ∈ lwG := ⟨gmem 1168 (by decide +kernel) (by decide +kernel), gmem 1167 (by decide +kernel) (by decide +kernel), gmem 132 (by decide +kernel) (by decide +kernel)⟩
theorem gh_count : Cond.codeWith yL_count cL_count 4 (some .int) [(0, 9, 12, 18)] ∈ lwG ∧ Cond.static yL_count ∈ lwG ∧ Cond.initialized yL_count.cls ∈ lwG := ⟨gmem 1195 (by decide +kernel) (by decide +kernel), gmem 1194 (by decide +kernel) (by decide +kernel), gmem 132 (by decide +kernel) (by decide +kernel)⟩
theorem gh_shot : Cond.codeWith yL_shot cL_shot 5 (some .int) [(0, 10, 13, 27), (0, 10, 17, 18)] ∈ lwG ∧ Cond.static yL_shot ∈ lwG ∧ Cond.initialized yL_shot.cls ∈ lwG := ⟨gmem 1207 (by decide +kernel) (by decide +kernel), gmem 1206 (by decide +kernel) (by decide +kernel), gmem 132 (by decide +kernel) (by decide +kernel)⟩
theorem gh_map : Cond.codeWith yL_map cL_map 5 (some .int) [(0, 10, 13, 27), (0, 10, 17, 18)] ∈ lwG ∧ Cond.static yL_map ∈ lwG ∧ Cond.initialized yL_map.cls ∈ lwG := ⟨gmem 1247 (by decide +kernel) (by decide +kernel), gmem 1246 (by decide +kernel) (by decide +kernel), gmem 132 (by decide +kernel) (by decide +kernel)⟩
theorem gh_ban : Cond.codeWith yL_ban cL_ban 5 (some .int) [(0, 10, 13, 27), (0, 10, 17, 18)] ∈ lwG ∧ Cond.static yL_ban ∈ lwG ∧ Cond.initialized yL_ban.cls ∈ lwG := ⟨gmem 1267 (by decide +kernel) (by decide +kernel), gmem 1266 (by decide +kernel) (by decide +kernel), gmem 132 (by decide +kernel) (by decide +kernel)⟩
theorem gh_word : Cond.codeWith yL_word cL_word 5 (some .int) [(0, 10, 13, 27), (0, 10, 17, 18)] ∈ lwG ∧ Cond.static yL_word ∈ lwG ∧ Cond.initialized yL_word.cls ∈ lwG := ⟨gmem 1278 (by decide +kernel) (by decide +kernel), gmem 1277 (by decide +kernel) (by decide +kernel), gmem 132 (by decide +kernel) (by decide +kernel)⟩
theorem gh_piece : Cond.codeWith yL_piece cL_piece 5 (some .int) [(0, 10, 13, 27), (0, 10, 17, 18)] ∈ lwG ∧ Cond.static yL_piece ∈ lwG ∧ Cond.initialized yL_piece.cls ∈ lwG := ⟨gmem 1286 (by decide +kernel) (by decide +kernel), gmem 1285 (by decide +kernel) (by decide +kernel), gmem 132 (by decide +kernel) (by decide +kernel)⟩
theorem gh_reel : Cond.codeWith yL_reel cL_reel 4 (some .int) [(0, 9, 12, 18)] ∈ lwG ∧ Cond.static yL_reel ∈ lwG ∧ Cond.initialized yL_reel.cls ∈ lwG := ⟨gmem 1294 (by decide +kernel) (by decide +kernel), gmem 1293 (by decide +kernel) (by decide +kernel), gmem 132 (by decide +kernel) (by decide +kernel)⟩
theorem gh_account : Cond.codeWith yL_account cL_account 4 (some .int) [(0, 9, 12, 18)] ∈ lwG ∧ Cond.static yL_account ∈ lwG ∧ Cond.initialized yL_account.cls ∈ lwG := ⟨gmem 1314 (by decide +kernel) (by decide +kernel), gmem 1313 (by decide +kernel) (by decide +kernel), gmem 132 (by decide +kernel) (by decide +kernel)⟩
theorem gh_faults : Cond.codeWith yL_faults cL_faults 4 (some .int) [(0, 9, 12, 18)] ∈ lwG ∧ Cond.static yL_faults ∈ lwG ∧ Cond.initialized yL_faults.cls ∈ lwG := ⟨gmem 1321 (by decide +kernel) (by decide +kernel), gmem 1320 (by decide +kernel) (by decide +kernel), gmem 132 (by decide +kernel) (by decide +kernel)⟩
theorem gh_fault : Cond.codeWith yL_fault cL_fault 5 (some .int) [(0, 10, 13, 27), (0, 10, 17, 18)] ∈ lwG ∧ Cond.static yL_fault ∈ lwG ∧ Cond.initialized yL_fault.cls ∈ lwG := ⟨gmem 1332 (by decide +kernel) (by decide +kernel), gmem 1331 (by decide +kernel) (by decide +kernel), gmem 132 (by decide +kernel) (by decide +kernel)⟩
theorem gh_share : Cond.codeWith yL_share cL_share 4 (some .int) [(0, 8, 11, 27)] ∈ lwG ∧ Cond.static yL_share ∈ lwG ∧ Cond.initialized yL_share.cls ∈ lwG := ⟨gmem 1339 (by decide +kernel) (by decide +kernel), gmem 1338 (by decide +kernel) (by decide +kernel), gmem 132 (by decide +kernel) (by decide +kernel)⟩
theorem gh_best : Cond.codeWith yL_best cL_best 4 (some .int) [(0, 9, 12, 18)] ∈ lwG ∧ Cond.static yL_best ∈ lwG ∧ Cond.initialized yL_best.cls ∈ lwG := ⟨gmem 1351 (by decide +kernel) (by decide +kernel), gmem 1350 (by decide +kernel) (by decide +kernel), gmem 132 (by decide +kernel) (by decide +kernel)⟩
theorem gh_insert : Cond.codeWith yL_insert cL_insert 6 (some .int) [(0, 12, 15, 27), (0, 12, 19, 18)] ∈ lwG ∧ Cond.static yL_insert ∈ lwG ∧ Cond.initialized yL_insert.cls ∈ lwG := ⟨gmem 1358 (by decide +kernel) (by decide +kernel), gmem 1357 (by decide +kernel) (by decide +kernel), gmem 132 (by decide +kernel) (by decide +kernel)⟩
theorem gh_trim : Cond.codeWith yL_trim cL_trim 5 (some .int) [(0, 10, 13, 27), (0, 10, 17, 18)] ∈ lwG ∧ Cond.static yL_trim ∈ lwG ∧ Cond.initialized yL_trim.cls ∈ lwG := ⟨gmem 1377 (by decide +kernel) (by decide +kernel), gmem 1376 (by decide +kernel) (by decide +kernel), gmem 132 (by decide +kernel) (by decide +kernel)⟩
theorem gh_remove : Cond.codeWith yL_remove cL_remove 4 (some .int) [(0, 9, 12, 27)] ∈ lwG ∧ Cond.static yL_remove ∈ lwG ∧ Cond.initialized yL_remove.cls ∈ lwG := ⟨gmem 1387 (by decide +kernel) (by decide +kernel), gmem 1386 (by decide +kernel) (by decide +kernel), gmem 132 (by decide +kernel) (by decide +kernel)⟩
theorem gh_move : Cond.codeWith yL_move cL_move 5 (some .int) [(0, 10, 13, 27)] ∈ lwG ∧ Cond.static yL_move ∈ lwG ∧ Cond.initialized yL_move.cls ∈ lwG := ⟨gmem 1394 (by decide +kernel) (by decide +kernel), gmem 1393 (by decide +kernel) (by decide +kernel), gmem 132 (by decide +kernel) (by decide +kernel)⟩
theorem gh_setWeek : Cond.codeWith yL_setWeek cL_setWeek 4 (some .int) [(0, 9, 12, 18)] ∈ lwG ∧ Cond.static yL_setWeek ∈ lwG ∧ Cond.initialized yL_setWeek.cls ∈ lwG := ⟨gmem 1404 (by decide +kernel) (by decide +kernel), gmem 1403 (by decide +kernel) (by decide +kernel), gmem 132 (by decide +kernel) (by decide +kernel)⟩
theorem gh_setVoice : Cond.codeWith yL_setVoice cL_setVoice 5 (some .int) [(0, 10, 13, 18)] ∈ lwG ∧ Cond.static yL_setVoice ∈ lwG ∧ Cond.initialized yL_setVoice.cls ∈ lwG := ⟨gmem 1421 (by decide +kernel) (by decide +kernel), gmem 1420 (by decide +kernel) (by decide +kernel), gmem 132 (by decide +kernel) (by decide +kernel)⟩
theorem gh_setSlack : Cond.codeWith yL_setSlack cL_setSlack 4 (some .int) [(0, 9, 12, 18)] ∈ lwG ∧ Cond.static yL_setSlack ∈ lwG ∧ Cond.initialized yL_setSlack.cls ∈ lwG := ⟨gmem 1428 (by decide +kernel) (by decide +kernel), gmem 1427 (by decide +kernel) (by decide +kernel), gmem 132 (by decide +kernel) (by decide +kernel)⟩
theorem gh_save : Cond.codeWith yL_save cL_save 3 (some .int) [(0, 5, 8, 18)] ∈ lwG ∧ Cond.static yL_save ∈ lwG ∧ Cond.initialized yL_save.cls ∈ lwG := ⟨gmem 1435 (by decide +kernel) (by decide +kernel), gmem 1434 (by decide +kernel) (by decide +kernel), gmem 132 (by decide +kernel) (by decide +kernel)⟩
theorem gh_restore : Cond.codeWith yL_restore cL_restore 3 (some .int) [(0, 5, 8, 18), (0, 5, 11, 13)] ∈ lwG ∧ Cond.static yL_restore ∈ lwG ∧ Cond.initialized yL_restore.cls ∈ lwG := ⟨gmem 1442 (by decide +kernel) (by decide +kernel), gmem 1441 (by decide +kernel) (by decide +kernel), gmem 132 (by decide +kernel) (by decide +kernel)⟩
section JK
variable {p : Program} {l : Launch} {e : Env} {R : Room} {s : State} {m : MethodId} {args : Array Value} {below : List Frame} {meth : Method} {c : Code} {Q : State → Prop}
variable {E0 : jE} {b L zC zR zoL zoD zE : Nat} {xs : Nat → Int32}
theorem r_lcmpE {cc : ByteArray} {nL : Nat} {own : String} {H : Heap} {locs : List Loc} {cells slots pc : Nat} {ls : Array Slot} {rest : List Value} (C : Cx E0 p c cc nL s args own m) {x y : Int64} (h : x = y) (hdg : decode cc pc = .ok (.lcmp, 1)) (k : W p l e R s m args below meth c H locs cells slots Q (F0 m (pc + 1) ls (.int (jI 0) :: rest))) : W p l e R s m args below meth c H locs cells slots Q (F0 m pc ls (.long y :: .long x :: rest)) := by
  subst h
  refine W.lcmp C.1.1 C.1.2.1 hdg ?_
  rw [show lg_cmp x x = jI 0 from by unfold lg_cmp; simp; rfl]
  exact k
set_option maxRecDepth 100000 in
set_option maxHeartbeats 8000000 in
theorem lc_appendText (hst : l.stackTraces = false) (C : Cx E0 p c cL_law 10 s args RL m) (A : LAt E0 b L xs zC zR zoL zoD zE s) {Mc Mr Mc' Mr' : Mem} {fL : Nat → Int64} {fD : Nat → UInt64} {H : Heap} {locs : List Loc} {ls : Array Slot} {cells slots : Nat} {i : Int} {p0 : Int} (hS : LStt E0 zC zR zoL zoD zE Mc Mr fL fD s H locs) (hi : 0 ≤ i ∧ i + 3 < (L : Int)) (hL : L ≤ 2048) (hx0 : xs (i + 1).toNat = jI p0) (hp0 : inR p0) (hl : lv_has ls 10 [(5, .int (jI i)), (4, .ref zoD), (3, .ref zoL), (2, .ref (zR + 0)), (1, .ref (zC + 0)), (0, .ref b)]) (hc : cells + 1 ≤ 601024 ∧ slots + 6 ≤ 7293034) (hstep : st_appendText p0 Mc Mr Mc' Mr')
    (kk : ∀ (H1 : Heap) (locs1 : List Loc) (ls1 : Array Slot) (fL1 : Nat → Int64) (fD1 : Nat → UInt64) (c1 s1 : Nat), c1 ≤ cells + 1 → s1 ≤ slots + 6 → LStt E0 zC zR zoL zoD zE Mc' Mr' fL1 fD1 s H1 locs1 → lv_has ls1 10 [(5, .int (jI i)), (4, .ref zoD), (3, .ref zoL), (2, .ref (zR + 0)), (1, .ref (zC + 0)), (0, .ref b)] → W p l e room_1 s m args below meth c H1 locs1 c1 s1 Q (F0 m 1891 ls1 [])) : W p l e room_1 s m args below meth c H locs cells slots Q (F0 m 216 ls []) := by
  have hcR : cells + 1 ≤ room_1.cells := hc.1
  have hsR : slots + 6 ≤ room_1.slots := hc.2
  unfold st_appendText at hstep
  rcases hstep with ⟨r, hf, hfR, ht⟩ | ⟨hf, r, hfR, ht⟩
  · refine r_aload_n C dL_law_216 rfl hl 4 rfl ?_
    refine r_aload_n C dL_law_217 rfl hl 5 rfl ?_
    refine r_iload C dL_law_218 hl 0 rfl ?_
    refine r_iconst C dL_law_220 ?_
    refine r_iadd C dL_law_221 ?_
    refine r_sld C A hS (i := i + 1) (v := p0) ⟨by omega, by omega⟩ ⟨by omega, by omega⟩ hx0 dL_law_222 ?_
    refine r_aload_n C dL_law_223 rfl hl 2 rfl ?_
    refine rl_HL (n := 3) (As := [.ref (zC + 0), .int (jI p0), .ref zoL]) (rest := []) C A hS (w_appendText l (eRg E0 (PO zC zoL zE)) zC zoL fL hp0 hf) (gh_appendText).1 (gh_appendText).2.1 (gh_appendText).2.2 ⟨by decide, by decide, by decide +kernel⟩ lk_L_93 dL_law_224 rfl rfl hl.1 (Nat.le_of_ble_eq_true rfl) ⟨Nat.le_of_ble_eq_true rfl, Nat.le_of_ble_eq_true rfl⟩ ⟨by show cells + 0 ≤ 601024; omega, by show slots + 0 ≤ 7293034; omega⟩ (fun H locs hrh hS => ?_)
    refine r_istore C [(6, .int (jI 0)), (5, .int (jI i)), (4, .ref zoD), (3, .ref zoL), (2, .ref (zR + 0)), (1, .ref (zC + 0)), (0, .ref b)] dL_law_227 hl (by decide) rfl (fun ls hl => ?_)
    refine r_aload_n C dL_law_229 rfl hl 4 rfl ?_
    refine r_aload_n C dL_law_230 rfl hl 6 rfl ?_
    refine r_iload C dL_law_231 hl 1 rfl ?_
    refine r_iconst C dL_law_233 ?_
    refine r_iadd C dL_law_234 ?_
    refine r_sld C A hS (i := i + 1) (v := p0) ⟨by omega, by omega⟩ ⟨by omega, by omega⟩ hx0 dL_law_235 ?_
    refine rl_RI (As := [.int (jI p0)]) (rest := []) C A hS (fun E' => c_X11_appendText l E' zR hp0 hfR) jy_X11_appendText rfl lk_L_98 dL_law_236 rfl rfl hl.1 (Nat.le_of_ble_eq_true rfl) ⟨Nat.le_of_ble_eq_true rfl, Nat.le_of_ble_eq_true rfl⟩ ⟨rfl, rfl⟩ ⟨by show cells + 0 ≤ 601024; omega, by show slots + 0 ≤ 7293034; omega⟩ (fun H locs hrR hS => ?_)
    refine r_istore C [(7, .int (jI r)), (6, .int (jI 0)), (5, .int (jI i)), (4, .ref zoD), (3, .ref zoL), (2, .ref (zR + 0)), (1, .ref (zC + 0)), (0, .ref b)] dL_law_239 hl (by decide) rfl (fun ls hl => ?_)
    refine r_aload_n C dL_law_241 rfl hl 5 rfl ?_
    refine rl_RI (As := []) (rest := []) C A hS (fun E' => c_X11_thrown l E' zR (show f_X11_thrown Mr' = some 0 by show some (Mr' 0 7) = some _; rw [ht])) jy_X11_thrown rfl lk_L_99 dL_law_242 rfl rfl hl.1 (Nat.le_of_ble_eq_true rfl) ⟨Nat.le_of_ble_eq_true rfl, Nat.le_of_ble_eq_true rfl⟩ ⟨rfl, rfl⟩ ⟨by show cells + 0 ≤ 601024; omega, by show slots + 0 ≤ 7293034; omega⟩ (fun H locs hrt hS => ?_)
    refine r_iload C dL_law_245 hl 1 rfl ?_
    refine r_icmp_eq C 252 ⟨by decide, by decide⟩ ⟨by decide, by decide⟩ dL_law_247 (by decide) (fun cq => ?_) (fun cq => absurd rfl cq)
    refine r_iload C dL_law_252 hl 1 rfl ?_
    refine r_if_ne C 269 ⟨by decide, by decide⟩ dL_law_254 (by decide) (fun cq => absurd rfl cq) (fun cq => ?_)
    refine r_aload_n C dL_law_257 rfl hl 4 rfl ?_
    refine r_iconst C dL_law_258 ?_
    refine r_lald C hS dL_law_259 ?_
    refine r_iload C dL_law_260 hl 0 rfl ?_
    refine lv_i2l C.1.1 C.1.2.1 dL_law_262 rfl ?_
    refine r_lcmpE C (by simp [vp_updL]) dL_law_263 ?_
    refine r_if_eq C 269 ⟨by decide, by decide⟩ dL_law_264 (by decide) (fun cq => ?_) (fun cq => absurd rfl cq)
    refine r_goto C 1891 dL_law_269 (by decide) ?_
    exact kk _ _ _ _ _ _ _ (by show cells + 0 ≤ cells + 1; omega) (by show slots + 0 ≤ slots + 6; omega) hS (lv_sub hl [2, 3, 4, 5, 6, 7] rfl)
  · refine r_aload_n C dL_law_216 rfl hl 4 rfl ?_
    refine r_aload_n C dL_law_217 rfl hl 5 rfl ?_
    refine r_iload C dL_law_218 hl 0 rfl ?_
    refine r_iconst C dL_law_220 ?_
    refine r_iadd C dL_law_221 ?_
    refine r_sld C A hS (i := i + 1) (v := p0) ⟨by omega, by omega⟩ ⟨by omega, by omega⟩ hx0 dL_law_222 ?_
    refine r_aload_n C dL_law_223 rfl hl 2 rfl ?_
    refine rl_HL (n := 3) (As := [.ref (zC + 0), .int (jI p0), .ref zoL]) (rest := []) C A hS (w1_appendText l hst (eRg E0 (PO zC zoL zE)) zC zoL fL hp0 hf) (gh_appendText).1 (gh_appendText).2.1 (gh_appendText).2.2 ⟨by decide, by decide, by decide +kernel⟩ lk_L_93 dL_law_224 rfl rfl hl.1 (Nat.le_of_ble_eq_true rfl) ⟨Nat.le_of_ble_eq_true rfl, Nat.le_of_ble_eq_true rfl⟩ ⟨by show cells + 1 ≤ 601024; omega, by show slots + 6 ≤ 7293034; omega⟩ (fun H locs hrh hS => ?_)
    refine r_istore C [(6, .int (jI 1)), (5, .int (jI i)), (4, .ref zoD), (3, .ref zoL), (2, .ref (zR + 0)), (1, .ref (zC + 0)), (0, .ref b)] dL_law_227 hl (by decide) rfl (fun ls hl => ?_)
    refine r_aload_n C dL_law_229 rfl hl 4 rfl ?_
    refine r_aload_n C dL_law_230 rfl hl 6 rfl ?_
    refine r_iload C dL_law_231 hl 1 rfl ?_
    refine r_iconst C dL_law_233 ?_
    refine r_iadd C dL_law_234 ?_
    refine r_sld C A hS (i := i + 1) (v := p0) ⟨by omega, by omega⟩ ⟨by omega, by omega⟩ hx0 dL_law_235 ?_
    refine rl_RI (As := [.int (jI p0)]) (rest := []) C A hS (fun E' => c_X11_appendText l E' zR hp0 hfR) jy_X11_appendText rfl lk_L_98 dL_law_236 rfl rfl hl.1 (Nat.le_of_ble_eq_true rfl) ⟨Nat.le_of_ble_eq_true rfl, Nat.le_of_ble_eq_true rfl⟩ ⟨rfl, rfl⟩ ⟨by show cells + 1 ≤ 601024; omega, by show slots + 6 ≤ 7293034; omega⟩ (fun H locs hrR hS => ?_)
    refine r_istore C [(7, .int (jI r)), (6, .int (jI 1)), (5, .int (jI i)), (4, .ref zoD), (3, .ref zoL), (2, .ref (zR + 0)), (1, .ref (zC + 0)), (0, .ref b)] dL_law_239 hl (by decide) rfl (fun ls hl => ?_)
    refine r_aload_n C dL_law_241 rfl hl 5 rfl ?_
    refine rl_RI (As := []) (rest := []) C A hS (fun E' => c_X11_thrown l E' zR (show f_X11_thrown Mr' = some 1 by show some (Mr' 0 7) = some _; rw [ht])) jy_X11_thrown rfl lk_L_99 dL_law_242 rfl rfl hl.1 (Nat.le_of_ble_eq_true rfl) ⟨Nat.le_of_ble_eq_true rfl, Nat.le_of_ble_eq_true rfl⟩ ⟨rfl, rfl⟩ ⟨by show cells + 1 ≤ 601024; omega, by show slots + 6 ≤ 7293034; omega⟩ (fun H locs hrt hS => ?_)
    refine r_iload C dL_law_245 hl 1 rfl ?_
    refine r_icmp_eq C 252 ⟨by decide, by decide⟩ ⟨by decide, by decide⟩ dL_law_247 (by decide) (fun cq => ?_) (fun cq => absurd rfl cq)
    refine r_iload C dL_law_252 hl 1 rfl ?_
    refine r_if_ne C 269 ⟨by decide, by decide⟩ dL_law_254 (by decide) (fun cq => ?_) (fun cq => absurd cq (by decide))
    refine r_goto C 1891 dL_law_269 (by decide) ?_
    exact kk _ _ _ _ _ _ _ (by show cells + 1 ≤ cells + 1; omega) (by show slots + 6 ≤ slots + 6; omega) hS (lv_sub hl [2, 3, 4, 5, 6, 7] rfl)
set_option maxRecDepth 100000 in
set_option maxHeartbeats 8000000 in
theorem lc_truncateText (hst : l.stackTraces = false) (C : Cx E0 p c cL_law 10 s args RL m) (A : LAt E0 b L xs zC zR zoL zoD zE s) {Mc Mr Mc' Mr' : Mem} {fL : Nat → Int64} {fD : Nat → UInt64} {H : Heap} {locs : List Loc} {ls : Array Slot} {cells slots : Nat} {i : Int} {p0 : Int} (hS : LStt E0 zC zR zoL zoD zE Mc Mr fL fD s H locs) (hi : 0 ≤ i ∧ i + 3 < (L : Int)) (hL : L ≤ 2048) (hx0 : xs (i + 1).toNat = jI p0) (hp0 : inR p0) (hl : lv_has ls 10 [(5, .int (jI i)), (4, .ref zoD), (3, .ref zoL), (2, .ref (zR + 0)), (1, .ref (zC + 0)), (0, .ref b)]) (hc : cells + 1 ≤ 601024 ∧ slots + 6 ≤ 7293034) (hstep : st_truncateText p0 Mc Mr Mc' Mr')
    (kk : ∀ (H1 : Heap) (locs1 : List Loc) (ls1 : Array Slot) (fL1 : Nat → Int64) (fD1 : Nat → UInt64) (c1 s1 : Nat), c1 ≤ cells + 1 → s1 ≤ slots + 6 → LStt E0 zC zR zoL zoD zE Mc' Mr' fL1 fD1 s H1 locs1 → lv_has ls1 10 [(5, .int (jI i)), (4, .ref zoD), (3, .ref zoL), (2, .ref (zR + 0)), (1, .ref (zC + 0)), (0, .ref b)] → W p l e room_1 s m args below meth c H1 locs1 c1 s1 Q (F0 m 1891 ls1 [])) : W p l e room_1 s m args below meth c H locs cells slots Q (F0 m 272 ls []) := by
  have hcR : cells + 1 ≤ room_1.cells := hc.1
  have hsR : slots + 6 ≤ room_1.slots := hc.2
  unfold st_truncateText at hstep
  rcases hstep with ⟨r, hf, hfR, ht⟩ | ⟨hf, r, hfR, ht⟩
  · refine r_aload_n C dL_law_272 rfl hl 4 rfl ?_
    refine r_aload_n C dL_law_273 rfl hl 5 rfl ?_
    refine r_iload C dL_law_274 hl 0 rfl ?_
    refine r_iconst C dL_law_276 ?_
    refine r_iadd C dL_law_277 ?_
    refine r_sld C A hS (i := i + 1) (v := p0) ⟨by omega, by omega⟩ ⟨by omega, by omega⟩ hx0 dL_law_278 ?_
    refine r_aload_n C dL_law_279 rfl hl 2 rfl ?_
    refine rl_HL (n := 3) (As := [.ref (zC + 0), .int (jI p0), .ref zoL]) (rest := []) C A hS (w_truncateText l (eRg E0 (PO zC zoL zE)) zC zoL fL hp0 hf) (gh_truncateText).1 (gh_truncateText).2.1 (gh_truncateText).2.2 ⟨by decide, by decide, by decide +kernel⟩ lk_L_103 dL_law_280 rfl rfl hl.1 (Nat.le_of_ble_eq_true rfl) ⟨Nat.le_of_ble_eq_true rfl, Nat.le_of_ble_eq_true rfl⟩ ⟨by show cells + 0 ≤ 601024; omega, by show slots + 0 ≤ 7293034; omega⟩ (fun H locs hrh hS => ?_)
    refine r_istore C [(6, .int (jI 0)), (5, .int (jI i)), (4, .ref zoD), (3, .ref zoL), (2, .ref (zR + 0)), (1, .ref (zC + 0)), (0, .ref b)] dL_law_283 hl (by decide) rfl (fun ls hl => ?_)
    refine r_aload_n C dL_law_285 rfl hl 4 rfl ?_
    refine r_aload_n C dL_law_286 rfl hl 6 rfl ?_
    refine r_iload C dL_law_287 hl 1 rfl ?_
    refine r_iconst C dL_law_289 ?_
    refine r_iadd C dL_law_290 ?_
    refine r_sld C A hS (i := i + 1) (v := p0) ⟨by omega, by omega⟩ ⟨by omega, by omega⟩ hx0 dL_law_291 ?_
    refine rl_RI (As := [.int (jI p0)]) (rest := []) C A hS (fun E' => c_X11_truncateText l E' zR hp0 hfR) jy_X11_truncateText rfl lk_L_105 dL_law_292 rfl rfl hl.1 (Nat.le_of_ble_eq_true rfl) ⟨Nat.le_of_ble_eq_true rfl, Nat.le_of_ble_eq_true rfl⟩ ⟨rfl, rfl⟩ ⟨by show cells + 0 ≤ 601024; omega, by show slots + 0 ≤ 7293034; omega⟩ (fun H locs hrR hS => ?_)
    refine r_istore C [(7, .int (jI r)), (6, .int (jI 0)), (5, .int (jI i)), (4, .ref zoD), (3, .ref zoL), (2, .ref (zR + 0)), (1, .ref (zC + 0)), (0, .ref b)] dL_law_295 hl (by decide) rfl (fun ls hl => ?_)
    refine r_aload_n C dL_law_297 rfl hl 5 rfl ?_
    refine rl_RI (As := []) (rest := []) C A hS (fun E' => c_X11_thrown l E' zR (show f_X11_thrown Mr' = some 0 by show some (Mr' 0 7) = some _; rw [ht])) jy_X11_thrown rfl lk_L_99 dL_law_298 rfl rfl hl.1 (Nat.le_of_ble_eq_true rfl) ⟨Nat.le_of_ble_eq_true rfl, Nat.le_of_ble_eq_true rfl⟩ ⟨rfl, rfl⟩ ⟨by show cells + 0 ≤ 601024; omega, by show slots + 0 ≤ 7293034; omega⟩ (fun H locs hrt hS => ?_)
    refine r_iload C dL_law_301 hl 1 rfl ?_
    refine r_icmp_eq C 308 ⟨by decide, by decide⟩ ⟨by decide, by decide⟩ dL_law_303 (by decide) (fun cq => ?_) (fun cq => absurd rfl cq)
    refine r_iload C dL_law_308 hl 1 rfl ?_
    refine r_if_ne C 325 ⟨by decide, by decide⟩ dL_law_310 (by decide) (fun cq => absurd rfl cq) (fun cq => ?_)
    refine r_aload_n C dL_law_313 rfl hl 4 rfl ?_
    refine r_iconst C dL_law_314 ?_
    refine r_lald C hS dL_law_315 ?_
    refine r_iload C dL_law_316 hl 0 rfl ?_
    refine lv_i2l C.1.1 C.1.2.1 dL_law_318 rfl ?_
    refine r_lcmpE C (by simp [vp_updL]) dL_law_319 ?_
    refine r_if_eq C 325 ⟨by decide, by decide⟩ dL_law_320 (by decide) (fun cq => ?_) (fun cq => absurd rfl cq)
    refine r_goto C 1891 dL_law_325 (by decide) ?_
    exact kk _ _ _ _ _ _ _ (by show cells + 0 ≤ cells + 1; omega) (by show slots + 0 ≤ slots + 6; omega) hS (lv_sub hl [2, 3, 4, 5, 6, 7] rfl)
  · refine r_aload_n C dL_law_272 rfl hl 4 rfl ?_
    refine r_aload_n C dL_law_273 rfl hl 5 rfl ?_
    refine r_iload C dL_law_274 hl 0 rfl ?_
    refine r_iconst C dL_law_276 ?_
    refine r_iadd C dL_law_277 ?_
    refine r_sld C A hS (i := i + 1) (v := p0) ⟨by omega, by omega⟩ ⟨by omega, by omega⟩ hx0 dL_law_278 ?_
    refine r_aload_n C dL_law_279 rfl hl 2 rfl ?_
    refine rl_HL (n := 3) (As := [.ref (zC + 0), .int (jI p0), .ref zoL]) (rest := []) C A hS (w1_truncateText l hst (eRg E0 (PO zC zoL zE)) zC zoL fL hp0 hf) (gh_truncateText).1 (gh_truncateText).2.1 (gh_truncateText).2.2 ⟨by decide, by decide, by decide +kernel⟩ lk_L_103 dL_law_280 rfl rfl hl.1 (Nat.le_of_ble_eq_true rfl) ⟨Nat.le_of_ble_eq_true rfl, Nat.le_of_ble_eq_true rfl⟩ ⟨by show cells + 1 ≤ 601024; omega, by show slots + 6 ≤ 7293034; omega⟩ (fun H locs hrh hS => ?_)
    refine r_istore C [(6, .int (jI 1)), (5, .int (jI i)), (4, .ref zoD), (3, .ref zoL), (2, .ref (zR + 0)), (1, .ref (zC + 0)), (0, .ref b)] dL_law_283 hl (by decide) rfl (fun ls hl => ?_)
    refine r_aload_n C dL_law_285 rfl hl 4 rfl ?_
    refine r_aload_n C dL_law_286 rfl hl 6 rfl ?_
    refine r_iload C dL_law_287 hl 1 rfl ?_
    refine r_iconst C dL_law_289 ?_
    refine r_iadd C dL_law_290 ?_
    refine r_sld C A hS (i := i + 1) (v := p0) ⟨by omega, by omega⟩ ⟨by omega, by omega⟩ hx0 dL_law_291 ?_
    refine rl_RI (As := [.int (jI p0)]) (rest := []) C A hS (fun E' => c_X11_truncateText l E' zR hp0 hfR) jy_X11_truncateText rfl lk_L_105 dL_law_292 rfl rfl hl.1 (Nat.le_of_ble_eq_true rfl) ⟨Nat.le_of_ble_eq_true rfl, Nat.le_of_ble_eq_true rfl⟩ ⟨rfl, rfl⟩ ⟨by show cells + 1 ≤ 601024; omega, by show slots + 6 ≤ 7293034; omega⟩ (fun H locs hrR hS => ?_)
    refine r_istore C [(7, .int (jI r)), (6, .int (jI 1)), (5, .int (jI i)), (4, .ref zoD), (3, .ref zoL), (2, .ref (zR + 0)), (1, .ref (zC + 0)), (0, .ref b)] dL_law_295 hl (by decide) rfl (fun ls hl => ?_)
    refine r_aload_n C dL_law_297 rfl hl 5 rfl ?_
    refine rl_RI (As := []) (rest := []) C A hS (fun E' => c_X11_thrown l E' zR (show f_X11_thrown Mr' = some 1 by show some (Mr' 0 7) = some _; rw [ht])) jy_X11_thrown rfl lk_L_99 dL_law_298 rfl rfl hl.1 (Nat.le_of_ble_eq_true rfl) ⟨Nat.le_of_ble_eq_true rfl, Nat.le_of_ble_eq_true rfl⟩ ⟨rfl, rfl⟩ ⟨by show cells + 1 ≤ 601024; omega, by show slots + 6 ≤ 7293034; omega⟩ (fun H locs hrt hS => ?_)
    refine r_iload C dL_law_301 hl 1 rfl ?_
    refine r_icmp_eq C 308 ⟨by decide, by decide⟩ ⟨by decide, by decide⟩ dL_law_303 (by decide) (fun cq => ?_) (fun cq => absurd rfl cq)
    refine r_iload C dL_law_308 hl 1 rfl ?_
    refine r_if_ne C 325 ⟨by decide, by decide⟩ dL_law_310 (by decide) (fun cq => ?_) (fun cq => absurd cq (by decide))
    refine r_goto C 1891 dL_law_325 (by decide) ?_
    exact kk _ _ _ _ _ _ _ (by show cells + 1 ≤ cells + 1; omega) (by show slots + 6 ≤ slots + 6; omega) hS (lv_sub hl [2, 3, 4, 5, 6, 7] rfl)
set_option maxRecDepth 100000 in
set_option maxHeartbeats 8000000 in
theorem lc_load (hst : l.stackTraces = false) (C : Cx E0 p c cL_law 10 s args RL m) (A : LAt E0 b L xs zC zR zoL zoD zE s) {Mc Mr Mc' Mr' : Mem} {fL : Nat → Int64} {fD : Nat → UInt64} {H : Heap} {locs : List Loc} {ls : Array Slot} {cells slots : Nat} {i : Int} (hS : LStt E0 zC zR zoL zoD zE Mc Mr fL fD s H locs) (hi : 0 ≤ i ∧ i + 3 < (L : Int)) (hL : L ≤ 2048) (hl : lv_has ls 10 [(5, .int (jI i)), (4, .ref zoD), (3, .ref zoL), (2, .ref (zR + 0)), (1, .ref (zC + 0)), (0, .ref b)]) (hc : cells + 1 ≤ 601024 ∧ slots + 6 ≤ 7293034) (hstep : st_load Mc Mr Mc' Mr')
    (kk : ∀ (H1 : Heap) (locs1 : List Loc) (ls1 : Array Slot) (fL1 : Nat → Int64) (fD1 : Nat → UInt64) (c1 s1 : Nat), c1 ≤ cells + 1 → s1 ≤ slots + 6 → LStt E0 zC zR zoL zoD zE Mc' Mr' fL1 fD1 s H1 locs1 → lv_has ls1 10 [(5, .int (jI i)), (4, .ref zoD), (3, .ref zoL), (2, .ref (zR + 0)), (1, .ref (zC + 0)), (0, .ref b)] → W p l e room_1 s m args below meth c H1 locs1 c1 s1 Q (F0 m 1891 ls1 [])) : W p l e room_1 s m args below meth c H locs cells slots Q (F0 m 328 ls []) := by
  have hcR : cells + 1 ≤ room_1.cells := hc.1
  have hsR : slots + 6 ≤ room_1.slots := hc.2
  unfold st_load at hstep
  obtain ⟨r, hf, hfR⟩ := hstep
  refine r_aload_n C dL_law_328 rfl hl 4 rfl ?_
  refine rl_CI (As := []) (rest := []) C A hS (fun E' => c_X10_load l E' zC hf) jy_X10_load rfl lk_L_106 dL_law_329 rfl rfl hl.1 (Nat.le_of_ble_eq_true rfl) ⟨Nat.le_of_ble_eq_true rfl, Nat.le_of_ble_eq_true rfl⟩ ⟨rfl, rfl⟩ ⟨by show cells ≤ 601024; omega, by show slots ≤ 7293034; omega⟩ (fun H locs hrC hS => ?_)
  refine r_aload_n C dL_law_332 rfl hl 3 rfl ?_
  refine rl_RI (As := []) (rest := [.int (jI r)]) C A hS (fun E' => c_X11_load l E' zR hfR) jy_X11_load rfl lk_L_109 dL_law_333 rfl rfl hl.1 (Nat.le_of_ble_eq_true rfl) ⟨Nat.le_of_ble_eq_true rfl, Nat.le_of_ble_eq_true rfl⟩ ⟨rfl, rfl⟩ ⟨by show cells ≤ 601024; omega, by show slots ≤ 7293034; omega⟩ (fun H locs hrR hS => ?_)
  refine r_icmp_eq C 1891 hrC hrC dL_law_336 (by decide) (fun cq => ?_) (fun cq => absurd rfl cq)
  exact kk _ _ _ _ _ _ _ (by omega) (by omega) hS (lv_sub hl [0, 1, 2, 3, 4, 5] rfl)
set_option maxRecDepth 100000 in
set_option maxHeartbeats 8000000 in
theorem lc_errorCode (hst : l.stackTraces = false) (C : Cx E0 p c cL_law 10 s args RL m) (A : LAt E0 b L xs zC zR zoL zoD zE s) {Mc Mr Mc' Mr' : Mem} {fL : Nat → Int64} {fD : Nat → UInt64} {H : Heap} {locs : List Loc} {ls : Array Slot} {cells slots : Nat} {i : Int} (hS : LStt E0 zC zR zoL zoD zE Mc Mr fL fD s H locs) (hi : 0 ≤ i ∧ i + 3 < (L : Int)) (hL : L ≤ 2048) (hl : lv_has ls 10 [(5, .int (jI i)), (4, .ref zoD), (3, .ref zoL), (2, .ref (zR + 0)), (1, .ref (zC + 0)), (0, .ref b)]) (hc : cells + 1 ≤ 601024 ∧ slots + 6 ≤ 7293034) (hstep : st_errorCode Mc Mr Mc' Mr')
    (kk : ∀ (H1 : Heap) (locs1 : List Loc) (ls1 : Array Slot) (fL1 : Nat → Int64) (fD1 : Nat → UInt64) (c1 s1 : Nat), c1 ≤ cells + 1 → s1 ≤ slots + 6 → LStt E0 zC zR zoL zoD zE Mc' Mr' fL1 fD1 s H1 locs1 → lv_has ls1 10 [(5, .int (jI i)), (4, .ref zoD), (3, .ref zoL), (2, .ref (zR + 0)), (1, .ref (zC + 0)), (0, .ref b)] → W p l e room_1 s m args below meth c H1 locs1 c1 s1 Q (F0 m 1891 ls1 [])) : W p l e room_1 s m args below meth c H locs cells slots Q (F0 m 341 ls []) := by
  have hcR : cells + 1 ≤ room_1.cells := hc.1
  have hsR : slots + 6 ≤ room_1.slots := hc.2
  unfold st_errorCode at hstep
  obtain ⟨r, hf, rfl, hfR⟩ := hstep
  refine r_aload_n C dL_law_341 rfl hl 4 rfl ?_
  refine rl_CI (As := []) (rest := []) C A hS (fun E' => c_X10_errorCode l E' zC hf) jy_X10_errorCode rfl lk_L_110 dL_law_342 rfl rfl hl.1 (Nat.le_of_ble_eq_true rfl) ⟨Nat.le_of_ble_eq_true rfl, Nat.le_of_ble_eq_true rfl⟩ ⟨rfl, rfl⟩ ⟨by show cells ≤ 601024; omega, by show slots ≤ 7293034; omega⟩ (fun H locs hrC hS => ?_)
  refine r_aload_n C dL_law_345 rfl hl 3 rfl ?_
  refine rl_RI (As := []) (rest := [.int (jI r)]) C A hS (fun E' => c_X11_errorCode l E' zR hfR) jy_X11_errorCode rfl lk_L_113 dL_law_346 rfl rfl hl.1 (Nat.le_of_ble_eq_true rfl) ⟨Nat.le_of_ble_eq_true rfl, Nat.le_of_ble_eq_true rfl⟩ ⟨rfl, rfl⟩ ⟨by show cells ≤ 601024; omega, by show slots ≤ 7293034; omega⟩ (fun H locs hrR hS => ?_)
  refine r_icmp_eq C 1891 hrC hrC dL_law_349 (by decide) (fun cq => ?_) (fun cq => absurd rfl cq)
  exact kk _ _ _ _ _ _ _ (by omega) (by omega) hS (lv_sub hl [0, 1, 2, 3, 4, 5] rfl)
set_option maxRecDepth 100000 in
set_option maxHeartbeats 8000000 in
theorem lc_errorPosition (hst : l.stackTraces = false) (C : Cx E0 p c cL_law 10 s args RL m) (A : LAt E0 b L xs zC zR zoL zoD zE s) {Mc Mr Mc' Mr' : Mem} {fL : Nat → Int64} {fD : Nat → UInt64} {H : Heap} {locs : List Loc} {ls : Array Slot} {cells slots : Nat} {i : Int} (hS : LStt E0 zC zR zoL zoD zE Mc Mr fL fD s H locs) (hi : 0 ≤ i ∧ i + 3 < (L : Int)) (hL : L ≤ 2048) (hl : lv_has ls 10 [(5, .int (jI i)), (4, .ref zoD), (3, .ref zoL), (2, .ref (zR + 0)), (1, .ref (zC + 0)), (0, .ref b)]) (hc : cells + 1 ≤ 601024 ∧ slots + 6 ≤ 7293034) (hstep : st_errorPosition Mc Mr Mc' Mr')
    (kk : ∀ (H1 : Heap) (locs1 : List Loc) (ls1 : Array Slot) (fL1 : Nat → Int64) (fD1 : Nat → UInt64) (c1 s1 : Nat), c1 ≤ cells + 1 → s1 ≤ slots + 6 → LStt E0 zC zR zoL zoD zE Mc' Mr' fL1 fD1 s H1 locs1 → lv_has ls1 10 [(5, .int (jI i)), (4, .ref zoD), (3, .ref zoL), (2, .ref (zR + 0)), (1, .ref (zC + 0)), (0, .ref b)] → W p l e room_1 s m args below meth c H1 locs1 c1 s1 Q (F0 m 1891 ls1 [])) : W p l e room_1 s m args below meth c H locs cells slots Q (F0 m 354 ls []) := by
  have hcR : cells + 1 ≤ room_1.cells := hc.1
  have hsR : slots + 6 ≤ room_1.slots := hc.2
  unfold st_errorPosition at hstep
  obtain ⟨r, hf, rfl, hfR⟩ := hstep
  refine r_aload_n C dL_law_354 rfl hl 4 rfl ?_
  refine rl_CI (As := []) (rest := []) C A hS (fun E' => c_X10_errorPosition l E' zC hf) jy_X10_errorPosition rfl lk_L_114 dL_law_355 rfl rfl hl.1 (Nat.le_of_ble_eq_true rfl) ⟨Nat.le_of_ble_eq_true rfl, Nat.le_of_ble_eq_true rfl⟩ ⟨rfl, rfl⟩ ⟨by show cells ≤ 601024; omega, by show slots ≤ 7293034; omega⟩ (fun H locs hrC hS => ?_)
  refine r_aload_n C dL_law_358 rfl hl 3 rfl ?_
  refine rl_RI (As := []) (rest := [.int (jI r)]) C A hS (fun E' => c_X11_errorPosition l E' zR hfR) jy_X11_errorPosition rfl lk_L_117 dL_law_359 rfl rfl hl.1 (Nat.le_of_ble_eq_true rfl) ⟨Nat.le_of_ble_eq_true rfl, Nat.le_of_ble_eq_true rfl⟩ ⟨rfl, rfl⟩ ⟨by show cells ≤ 601024; omega, by show slots ≤ 7293034; omega⟩ (fun H locs hrR hS => ?_)
  refine r_icmp_eq C 1891 hrC hrC dL_law_362 (by decide) (fun cq => ?_) (fun cq => absurd rfl cq)
  exact kk _ _ _ _ _ _ _ (by omega) (by omega) hS (lv_sub hl [0, 1, 2, 3, 4, 5] rfl)
set_option maxRecDepth 100000 in
set_option maxHeartbeats 8000000 in
theorem lc_count (hst : l.stackTraces = false) (C : Cx E0 p c cL_law 10 s args RL m) (A : LAt E0 b L xs zC zR zoL zoD zE s) {Mc Mr Mc' Mr' : Mem} {fL : Nat → Int64} {fD : Nat → UInt64} {H : Heap} {locs : List Loc} {ls : Array Slot} {cells slots : Nat} {i : Int} {p0 : Int} (hS : LStt E0 zC zR zoL zoD zE Mc Mr fL fD s H locs) (hi : 0 ≤ i ∧ i + 3 < (L : Int)) (hL : L ≤ 2048) (hx0 : xs (i + 1).toNat = jI p0) (hp0 : inR p0) (hl : lv_has ls 10 [(5, .int (jI i)), (4, .ref zoD), (3, .ref zoL), (2, .ref (zR + 0)), (1, .ref (zC + 0)), (0, .ref b)]) (hc : cells + 1 ≤ 601024 ∧ slots + 6 ≤ 7293034) (hstep : st_count p0 Mc Mr Mc' Mr')
    (kk : ∀ (H1 : Heap) (locs1 : List Loc) (ls1 : Array Slot) (fL1 : Nat → Int64) (fD1 : Nat → UInt64) (c1 s1 : Nat), c1 ≤ cells + 1 → s1 ≤ slots + 6 → LStt E0 zC zR zoL zoD zE Mc' Mr' fL1 fD1 s H1 locs1 → lv_has ls1 10 [(5, .int (jI i)), (4, .ref zoD), (3, .ref zoL), (2, .ref (zR + 0)), (1, .ref (zC + 0)), (0, .ref b)] → W p l e room_1 s m args below meth c H1 locs1 c1 s1 Q (F0 m 1891 ls1 [])) : W p l e room_1 s m args below meth c H locs cells slots Q (F0 m 367 ls []) := by
  have hcR : cells + 1 ≤ room_1.cells := hc.1
  have hsR : slots + 6 ≤ room_1.slots := hc.2
  unfold st_count at hstep
  rcases hstep with ⟨r, hf, rfl, hfR, ht⟩ | ⟨hf, r, hfR, ht⟩
  · refine r_aload_n C dL_law_367 rfl hl 4 rfl ?_
    refine r_aload_n C dL_law_368 rfl hl 5 rfl ?_
    refine r_iload C dL_law_369 hl 0 rfl ?_
    refine r_iconst C dL_law_371 ?_
    refine r_iadd C dL_law_372 ?_
    refine r_sld C A hS (i := i + 1) (v := p0) ⟨by omega, by omega⟩ ⟨by omega, by omega⟩ hx0 dL_law_373 ?_
    refine r_aload_n C dL_law_374 rfl hl 2 rfl ?_
    refine rl_HL (n := 3) (As := [.ref (zC + 0), .int (jI p0), .ref zoL]) (rest := []) C A hS (w_count l (eRg E0 (PO zC zoL zE)) zC zoL fL hp0 hf) (gh_count).1 (gh_count).2.1 (gh_count).2.2 ⟨by decide, by decide, by decide +kernel⟩ lk_L_118 dL_law_375 rfl rfl hl.1 (Nat.le_of_ble_eq_true rfl) ⟨Nat.le_of_ble_eq_true rfl, Nat.le_of_ble_eq_true rfl⟩ ⟨by show cells + 0 ≤ 601024; omega, by show slots + 0 ≤ 7293034; omega⟩ (fun H locs hrh hS => ?_)
    refine r_istore C [(6, .int (jI 0)), (5, .int (jI i)), (4, .ref zoD), (3, .ref zoL), (2, .ref (zR + 0)), (1, .ref (zC + 0)), (0, .ref b)] dL_law_378 hl (by decide) rfl (fun ls hl => ?_)
    refine r_aload_n C dL_law_380 rfl hl 4 rfl ?_
    refine r_aload_n C dL_law_381 rfl hl 6 rfl ?_
    refine r_iload C dL_law_382 hl 1 rfl ?_
    refine r_iconst C dL_law_384 ?_
    refine r_iadd C dL_law_385 ?_
    refine r_sld C A hS (i := i + 1) (v := p0) ⟨by omega, by omega⟩ ⟨by omega, by omega⟩ hx0 dL_law_386 ?_
    refine rl_RI (As := [.int (jI p0)]) (rest := []) C A hS (fun E' => c_X11_count l E' zR hp0 hfR) jy_X11_count rfl lk_L_120 dL_law_387 rfl rfl hl.1 (Nat.le_of_ble_eq_true rfl) ⟨Nat.le_of_ble_eq_true rfl, Nat.le_of_ble_eq_true rfl⟩ ⟨rfl, rfl⟩ ⟨by show cells + 0 ≤ 601024; omega, by show slots + 0 ≤ 7293034; omega⟩ (fun H locs hrR hS => ?_)
    refine r_istore C [(7, .int (jI r)), (6, .int (jI 0)), (5, .int (jI i)), (4, .ref zoD), (3, .ref zoL), (2, .ref (zR + 0)), (1, .ref (zC + 0)), (0, .ref b)] dL_law_390 hl (by decide) rfl (fun ls hl => ?_)
    refine r_aload_n C dL_law_392 rfl hl 5 rfl ?_
    refine rl_RI (As := []) (rest := []) C A hS (fun E' => c_X11_thrown l E' zR (show f_X11_thrown Mr' = some 0 by show some (Mr' 0 7) = some _; rw [ht])) jy_X11_thrown rfl lk_L_99 dL_law_393 rfl rfl hl.1 (Nat.le_of_ble_eq_true rfl) ⟨Nat.le_of_ble_eq_true rfl, Nat.le_of_ble_eq_true rfl⟩ ⟨rfl, rfl⟩ ⟨by show cells + 0 ≤ 601024; omega, by show slots + 0 ≤ 7293034; omega⟩ (fun H locs hrt hS => ?_)
    refine r_iload C dL_law_396 hl 1 rfl ?_
    refine r_icmp_eq C 403 ⟨by decide, by decide⟩ ⟨by decide, by decide⟩ dL_law_398 (by decide) (fun cq => ?_) (fun cq => absurd rfl cq)
    refine r_iload C dL_law_403 hl 1 rfl ?_
    refine r_if_ne C 420 ⟨by decide, by decide⟩ dL_law_405 (by decide) (fun cq => absurd rfl cq) (fun cq => ?_)
    refine r_aload_n C dL_law_408 rfl hl 4 rfl ?_
    refine r_iconst C dL_law_409 ?_
    refine r_lald C hS dL_law_410 ?_
    refine r_iload C dL_law_411 hl 0 rfl ?_
    refine lv_i2l C.1.1 C.1.2.1 dL_law_413 rfl ?_
    refine r_lcmpE C (by simp [vp_updL]) dL_law_414 ?_
    refine r_if_eq C 420 ⟨by decide, by decide⟩ dL_law_415 (by decide) (fun cq => ?_) (fun cq => absurd rfl cq)
    refine r_goto C 1891 dL_law_420 (by decide) ?_
    exact kk _ _ _ _ _ _ _ (by show cells + 0 ≤ cells + 1; omega) (by show slots + 0 ≤ slots + 6; omega) hS (lv_sub hl [2, 3, 4, 5, 6, 7] rfl)
  · refine r_aload_n C dL_law_367 rfl hl 4 rfl ?_
    refine r_aload_n C dL_law_368 rfl hl 5 rfl ?_
    refine r_iload C dL_law_369 hl 0 rfl ?_
    refine r_iconst C dL_law_371 ?_
    refine r_iadd C dL_law_372 ?_
    refine r_sld C A hS (i := i + 1) (v := p0) ⟨by omega, by omega⟩ ⟨by omega, by omega⟩ hx0 dL_law_373 ?_
    refine r_aload_n C dL_law_374 rfl hl 2 rfl ?_
    refine rl_HL (n := 3) (As := [.ref (zC + 0), .int (jI p0), .ref zoL]) (rest := []) C A hS (w1_count l hst (eRg E0 (PO zC zoL zE)) zC zoL fL hp0 hf) (gh_count).1 (gh_count).2.1 (gh_count).2.2 ⟨by decide, by decide, by decide +kernel⟩ lk_L_118 dL_law_375 rfl rfl hl.1 (Nat.le_of_ble_eq_true rfl) ⟨Nat.le_of_ble_eq_true rfl, Nat.le_of_ble_eq_true rfl⟩ ⟨by show cells + 1 ≤ 601024; omega, by show slots + 6 ≤ 7293034; omega⟩ (fun H locs hrh hS => ?_)
    refine r_istore C [(6, .int (jI 1)), (5, .int (jI i)), (4, .ref zoD), (3, .ref zoL), (2, .ref (zR + 0)), (1, .ref (zC + 0)), (0, .ref b)] dL_law_378 hl (by decide) rfl (fun ls hl => ?_)
    refine r_aload_n C dL_law_380 rfl hl 4 rfl ?_
    refine r_aload_n C dL_law_381 rfl hl 6 rfl ?_
    refine r_iload C dL_law_382 hl 1 rfl ?_
    refine r_iconst C dL_law_384 ?_
    refine r_iadd C dL_law_385 ?_
    refine r_sld C A hS (i := i + 1) (v := p0) ⟨by omega, by omega⟩ ⟨by omega, by omega⟩ hx0 dL_law_386 ?_
    refine rl_RI (As := [.int (jI p0)]) (rest := []) C A hS (fun E' => c_X11_count l E' zR hp0 hfR) jy_X11_count rfl lk_L_120 dL_law_387 rfl rfl hl.1 (Nat.le_of_ble_eq_true rfl) ⟨Nat.le_of_ble_eq_true rfl, Nat.le_of_ble_eq_true rfl⟩ ⟨rfl, rfl⟩ ⟨by show cells + 1 ≤ 601024; omega, by show slots + 6 ≤ 7293034; omega⟩ (fun H locs hrR hS => ?_)
    refine r_istore C [(7, .int (jI r)), (6, .int (jI 1)), (5, .int (jI i)), (4, .ref zoD), (3, .ref zoL), (2, .ref (zR + 0)), (1, .ref (zC + 0)), (0, .ref b)] dL_law_390 hl (by decide) rfl (fun ls hl => ?_)
    refine r_aload_n C dL_law_392 rfl hl 5 rfl ?_
    refine rl_RI (As := []) (rest := []) C A hS (fun E' => c_X11_thrown l E' zR (show f_X11_thrown Mr' = some 1 by show some (Mr' 0 7) = some _; rw [ht])) jy_X11_thrown rfl lk_L_99 dL_law_393 rfl rfl hl.1 (Nat.le_of_ble_eq_true rfl) ⟨Nat.le_of_ble_eq_true rfl, Nat.le_of_ble_eq_true rfl⟩ ⟨rfl, rfl⟩ ⟨by show cells + 1 ≤ 601024; omega, by show slots + 6 ≤ 7293034; omega⟩ (fun H locs hrt hS => ?_)
    refine r_iload C dL_law_396 hl 1 rfl ?_
    refine r_icmp_eq C 403 ⟨by decide, by decide⟩ ⟨by decide, by decide⟩ dL_law_398 (by decide) (fun cq => ?_) (fun cq => absurd rfl cq)
    refine r_iload C dL_law_403 hl 1 rfl ?_
    refine r_if_ne C 420 ⟨by decide, by decide⟩ dL_law_405 (by decide) (fun cq => ?_) (fun cq => absurd cq (by decide))
    refine r_goto C 1891 dL_law_420 (by decide) ?_
    exact kk _ _ _ _ _ _ _ (by show cells + 1 ≤ cells + 1; omega) (by show slots + 6 ≤ slots + 6; omega) hS (lv_sub hl [2, 3, 4, 5, 6, 7] rfl)
set_option maxRecDepth 100000 in
set_option maxHeartbeats 8000000 in
theorem lc_shot (hst : l.stackTraces = false) (C : Cx E0 p c cL_law 10 s args RL m) (A : LAt E0 b L xs zC zR zoL zoD zE s) {Mc Mr Mc' Mr' : Mem} {fL : Nat → Int64} {fD : Nat → UInt64} {H : Heap} {locs : List Loc} {ls : Array Slot} {cells slots : Nat} {i : Int} {p0 : Int} {p1 : Int} (hS : LStt E0 zC zR zoL zoD zE Mc Mr fL fD s H locs) (hi : 0 ≤ i ∧ i + 3 < (L : Int)) (hL : L ≤ 2048) (hx0 : xs (i + 1).toNat = jI p0) (hp0 : inR p0) (hx1 : xs (i + 2).toNat = jI p1) (hp1 : inR p1) (hl : lv_has ls 10 [(5, .int (jI i)), (4, .ref zoD), (3, .ref zoL), (2, .ref (zR + 0)), (1, .ref (zC + 0)), (0, .ref b)]) (hc : cells + 1 ≤ 601024 ∧ slots + 6 ≤ 7293034) (hstep : st_shot p0 p1 Mc Mr Mc' Mr')
    (kk : ∀ (H1 : Heap) (locs1 : List Loc) (ls1 : Array Slot) (fL1 : Nat → Int64) (fD1 : Nat → UInt64) (c1 s1 : Nat), c1 ≤ cells + 1 → s1 ≤ slots + 6 → LStt E0 zC zR zoL zoD zE Mc' Mr' fL1 fD1 s H1 locs1 → lv_has ls1 10 [(5, .int (jI i)), (4, .ref zoD), (3, .ref zoL), (2, .ref (zR + 0)), (1, .ref (zC + 0)), (0, .ref b)] → W p l e room_1 s m args below meth c H1 locs1 c1 s1 Q (F0 m 1891 ls1 [])) : W p l e room_1 s m args below meth c H locs cells slots Q (F0 m 423 ls []) := by
  have hcR : cells + 1 ≤ room_1.cells := hc.1
  have hsR : slots + 6 ≤ room_1.slots := hc.2
  unfold st_shot at hstep
  rcases hstep with ⟨r, hf, rfl, hfR, ht⟩ | ⟨hf, r, hfR, ht⟩ | ⟨hf, r, hfR, ht⟩
  · refine r_aload_n C dL_law_423 rfl hl 4 rfl ?_
    refine r_aload_n C dL_law_424 rfl hl 5 rfl ?_
    refine r_iload C dL_law_425 hl 0 rfl ?_
    refine r_iconst C dL_law_427 ?_
    refine r_iadd C dL_law_428 ?_
    refine r_sld C A hS (i := i + 1) (v := p0) ⟨by omega, by omega⟩ ⟨by omega, by omega⟩ hx0 dL_law_429 ?_
    refine r_aload_n C dL_law_430 rfl hl 5 rfl ?_
    refine r_iload C dL_law_431 hl 0 rfl ?_
    refine r_iconst C dL_law_433 ?_
    refine r_iadd C dL_law_434 ?_
    refine r_sld C A hS (i := i + 2) (v := p1) ⟨by omega, by omega⟩ ⟨by omega, by omega⟩ hx1 dL_law_435 ?_
    refine r_aload_n C dL_law_436 rfl hl 2 rfl ?_
    refine rl_HL (n := 4) (As := [.ref (zC + 0), .int (jI p0), .int (jI p1), .ref zoL]) (rest := []) C A hS (w_shot l (eRg E0 (PO zC zoL zE)) zC zoL fL hp0 hp1 hf) (gh_shot).1 (gh_shot).2.1 (gh_shot).2.2 ⟨by decide, by decide, by decide +kernel⟩ lk_L_121 dL_law_437 rfl rfl hl.1 (Nat.le_of_ble_eq_true rfl) ⟨Nat.le_of_ble_eq_true rfl, Nat.le_of_ble_eq_true rfl⟩ ⟨by show cells + 0 ≤ 601024; omega, by show slots + 0 ≤ 7293034; omega⟩ (fun H locs hrh hS => ?_)
    refine r_istore C [(6, .int (jI 0)), (5, .int (jI i)), (4, .ref zoD), (3, .ref zoL), (2, .ref (zR + 0)), (1, .ref (zC + 0)), (0, .ref b)] dL_law_440 hl (by decide) rfl (fun ls hl => ?_)
    refine r_aload_n C dL_law_442 rfl hl 4 rfl ?_
    refine r_aload_n C dL_law_443 rfl hl 6 rfl ?_
    refine r_iload C dL_law_444 hl 1 rfl ?_
    refine r_iconst C dL_law_446 ?_
    refine r_iadd C dL_law_447 ?_
    refine r_sld C A hS (i := i + 1) (v := p0) ⟨by omega, by omega⟩ ⟨by omega, by omega⟩ hx0 dL_law_448 ?_
    refine r_aload_n C dL_law_449 rfl hl 6 rfl ?_
    refine r_iload C dL_law_450 hl 1 rfl ?_
    refine r_iconst C dL_law_452 ?_
    refine r_iadd C dL_law_453 ?_
    refine r_sld C A hS (i := i + 2) (v := p1) ⟨by omega, by omega⟩ ⟨by omega, by omega⟩ hx1 dL_law_454 ?_
    refine rl_RI (As := [.int (jI p0), .int (jI p1)]) (rest := []) C A hS (fun E' => c_X11_shot l E' zR hp0 hp1 hfR) jy_X11_shot rfl lk_L_124 dL_law_455 rfl rfl hl.1 (Nat.le_of_ble_eq_true rfl) ⟨Nat.le_of_ble_eq_true rfl, Nat.le_of_ble_eq_true rfl⟩ ⟨rfl, rfl⟩ ⟨by show cells + 0 ≤ 601024; omega, by show slots + 0 ≤ 7293034; omega⟩ (fun H locs hrR hS => ?_)
    refine r_istore C [(7, .int (jI r)), (6, .int (jI 0)), (5, .int (jI i)), (4, .ref zoD), (3, .ref zoL), (2, .ref (zR + 0)), (1, .ref (zC + 0)), (0, .ref b)] dL_law_458 hl (by decide) rfl (fun ls hl => ?_)
    refine r_aload_n C dL_law_460 rfl hl 5 rfl ?_
    refine rl_RI (As := []) (rest := []) C A hS (fun E' => c_X11_thrown l E' zR (show f_X11_thrown Mr' = some 0 by show some (Mr' 0 7) = some _; rw [ht])) jy_X11_thrown rfl lk_L_99 dL_law_461 rfl rfl hl.1 (Nat.le_of_ble_eq_true rfl) ⟨Nat.le_of_ble_eq_true rfl, Nat.le_of_ble_eq_true rfl⟩ ⟨rfl, rfl⟩ ⟨by show cells + 0 ≤ 601024; omega, by show slots + 0 ≤ 7293034; omega⟩ (fun H locs hrt hS => ?_)
    refine r_iload C dL_law_464 hl 1 rfl ?_
    refine r_icmp_eq C 471 ⟨by decide, by decide⟩ ⟨by decide, by decide⟩ dL_law_466 (by decide) (fun cq => ?_) (fun cq => absurd rfl cq)
    refine r_iload C dL_law_471 hl 1 rfl ?_
    refine r_if_ne C 488 ⟨by decide, by decide⟩ dL_law_473 (by decide) (fun cq => absurd rfl cq) (fun cq => ?_)
    refine r_aload_n C dL_law_476 rfl hl 4 rfl ?_
    refine r_iconst C dL_law_477 ?_
    refine r_lald C hS dL_law_478 ?_
    refine r_iload C dL_law_479 hl 0 rfl ?_
    refine lv_i2l C.1.1 C.1.2.1 dL_law_481 rfl ?_
    refine r_lcmpE C (by simp [vp_updL]) dL_law_482 ?_
    refine r_if_eq C 488 ⟨by decide, by decide⟩ dL_law_483 (by decide) (fun cq => ?_) (fun cq => absurd rfl cq)
    refine r_goto C 1891 dL_law_488 (by decide) ?_
    exact kk _ _ _ _ _ _ _ (by show cells + 0 ≤ cells + 1; omega) (by show slots + 0 ≤ slots + 6; omega) hS (lv_sub hl [2, 3, 4, 5, 6, 7] rfl)
  · refine r_aload_n C dL_law_423 rfl hl 4 rfl ?_
    refine r_aload_n C dL_law_424 rfl hl 5 rfl ?_
    refine r_iload C dL_law_425 hl 0 rfl ?_
    refine r_iconst C dL_law_427 ?_
    refine r_iadd C dL_law_428 ?_
    refine r_sld C A hS (i := i + 1) (v := p0) ⟨by omega, by omega⟩ ⟨by omega, by omega⟩ hx0 dL_law_429 ?_
    refine r_aload_n C dL_law_430 rfl hl 5 rfl ?_
    refine r_iload C dL_law_431 hl 0 rfl ?_
    refine r_iconst C dL_law_433 ?_
    refine r_iadd C dL_law_434 ?_
    refine r_sld C A hS (i := i + 2) (v := p1) ⟨by omega, by omega⟩ ⟨by omega, by omega⟩ hx1 dL_law_435 ?_
    refine r_aload_n C dL_law_436 rfl hl 2 rfl ?_
    refine rl_HL (n := 4) (As := [.ref (zC + 0), .int (jI p0), .int (jI p1), .ref zoL]) (rest := []) C A hS (w1_shot l hst (eRg E0 (PO zC zoL zE)) zC zoL fL hp0 hp1 hf) (gh_shot).1 (gh_shot).2.1 (gh_shot).2.2 ⟨by decide, by decide, by decide +kernel⟩ lk_L_121 dL_law_437 rfl rfl hl.1 (Nat.le_of_ble_eq_true rfl) ⟨Nat.le_of_ble_eq_true rfl, Nat.le_of_ble_eq_true rfl⟩ ⟨by show cells + 1 ≤ 601024; omega, by show slots + 6 ≤ 7293034; omega⟩ (fun H locs hrh hS => ?_)
    refine r_istore C [(6, .int (jI 1)), (5, .int (jI i)), (4, .ref zoD), (3, .ref zoL), (2, .ref (zR + 0)), (1, .ref (zC + 0)), (0, .ref b)] dL_law_440 hl (by decide) rfl (fun ls hl => ?_)
    refine r_aload_n C dL_law_442 rfl hl 4 rfl ?_
    refine r_aload_n C dL_law_443 rfl hl 6 rfl ?_
    refine r_iload C dL_law_444 hl 1 rfl ?_
    refine r_iconst C dL_law_446 ?_
    refine r_iadd C dL_law_447 ?_
    refine r_sld C A hS (i := i + 1) (v := p0) ⟨by omega, by omega⟩ ⟨by omega, by omega⟩ hx0 dL_law_448 ?_
    refine r_aload_n C dL_law_449 rfl hl 6 rfl ?_
    refine r_iload C dL_law_450 hl 1 rfl ?_
    refine r_iconst C dL_law_452 ?_
    refine r_iadd C dL_law_453 ?_
    refine r_sld C A hS (i := i + 2) (v := p1) ⟨by omega, by omega⟩ ⟨by omega, by omega⟩ hx1 dL_law_454 ?_
    refine rl_RI (As := [.int (jI p0), .int (jI p1)]) (rest := []) C A hS (fun E' => c_X11_shot l E' zR hp0 hp1 hfR) jy_X11_shot rfl lk_L_124 dL_law_455 rfl rfl hl.1 (Nat.le_of_ble_eq_true rfl) ⟨Nat.le_of_ble_eq_true rfl, Nat.le_of_ble_eq_true rfl⟩ ⟨rfl, rfl⟩ ⟨by show cells + 1 ≤ 601024; omega, by show slots + 6 ≤ 7293034; omega⟩ (fun H locs hrR hS => ?_)
    refine r_istore C [(7, .int (jI r)), (6, .int (jI 1)), (5, .int (jI i)), (4, .ref zoD), (3, .ref zoL), (2, .ref (zR + 0)), (1, .ref (zC + 0)), (0, .ref b)] dL_law_458 hl (by decide) rfl (fun ls hl => ?_)
    refine r_aload_n C dL_law_460 rfl hl 5 rfl ?_
    refine rl_RI (As := []) (rest := []) C A hS (fun E' => c_X11_thrown l E' zR (show f_X11_thrown Mr' = some 1 by show some (Mr' 0 7) = some _; rw [ht])) jy_X11_thrown rfl lk_L_99 dL_law_461 rfl rfl hl.1 (Nat.le_of_ble_eq_true rfl) ⟨Nat.le_of_ble_eq_true rfl, Nat.le_of_ble_eq_true rfl⟩ ⟨rfl, rfl⟩ ⟨by show cells + 1 ≤ 601024; omega, by show slots + 6 ≤ 7293034; omega⟩ (fun H locs hrt hS => ?_)
    refine r_iload C dL_law_464 hl 1 rfl ?_
    refine r_icmp_eq C 471 ⟨by decide, by decide⟩ ⟨by decide, by decide⟩ dL_law_466 (by decide) (fun cq => ?_) (fun cq => absurd rfl cq)
    refine r_iload C dL_law_471 hl 1 rfl ?_
    refine r_if_ne C 488 ⟨by decide, by decide⟩ dL_law_473 (by decide) (fun cq => ?_) (fun cq => absurd cq (by decide))
    refine r_goto C 1891 dL_law_488 (by decide) ?_
    exact kk _ _ _ _ _ _ _ (by show cells + 1 ≤ cells + 1; omega) (by show slots + 6 ≤ slots + 6; omega) hS (lv_sub hl [2, 3, 4, 5, 6, 7] rfl)
  · refine r_aload_n C dL_law_423 rfl hl 4 rfl ?_
    refine r_aload_n C dL_law_424 rfl hl 5 rfl ?_
    refine r_iload C dL_law_425 hl 0 rfl ?_
    refine r_iconst C dL_law_427 ?_
    refine r_iadd C dL_law_428 ?_
    refine r_sld C A hS (i := i + 1) (v := p0) ⟨by omega, by omega⟩ ⟨by omega, by omega⟩ hx0 dL_law_429 ?_
    refine r_aload_n C dL_law_430 rfl hl 5 rfl ?_
    refine r_iload C dL_law_431 hl 0 rfl ?_
    refine r_iconst C dL_law_433 ?_
    refine r_iadd C dL_law_434 ?_
    refine r_sld C A hS (i := i + 2) (v := p1) ⟨by omega, by omega⟩ ⟨by omega, by omega⟩ hx1 dL_law_435 ?_
    refine r_aload_n C dL_law_436 rfl hl 2 rfl ?_
    refine rl_HL (n := 4) (As := [.ref (zC + 0), .int (jI p0), .int (jI p1), .ref zoL]) (rest := []) C A hS (w2_shot l hst (eRg E0 (PO zC zoL zE)) zC zoL fL hp0 hp1 hf) (gh_shot).1 (gh_shot).2.1 (gh_shot).2.2 ⟨by decide, by decide, by decide +kernel⟩ lk_L_121 dL_law_437 rfl rfl hl.1 (Nat.le_of_ble_eq_true rfl) ⟨Nat.le_of_ble_eq_true rfl, Nat.le_of_ble_eq_true rfl⟩ ⟨by show cells + 1 ≤ 601024; omega, by show slots + 6 ≤ 7293034; omega⟩ (fun H locs hrh hS => ?_)
    refine r_istore C [(6, .int (jI 2)), (5, .int (jI i)), (4, .ref zoD), (3, .ref zoL), (2, .ref (zR + 0)), (1, .ref (zC + 0)), (0, .ref b)] dL_law_440 hl (by decide) rfl (fun ls hl => ?_)
    refine r_aload_n C dL_law_442 rfl hl 4 rfl ?_
    refine r_aload_n C dL_law_443 rfl hl 6 rfl ?_
    refine r_iload C dL_law_444 hl 1 rfl ?_
    refine r_iconst C dL_law_446 ?_
    refine r_iadd C dL_law_447 ?_
    refine r_sld C A hS (i := i + 1) (v := p0) ⟨by omega, by omega⟩ ⟨by omega, by omega⟩ hx0 dL_law_448 ?_
    refine r_aload_n C dL_law_449 rfl hl 6 rfl ?_
    refine r_iload C dL_law_450 hl 1 rfl ?_
    refine r_iconst C dL_law_452 ?_
    refine r_iadd C dL_law_453 ?_
    refine r_sld C A hS (i := i + 2) (v := p1) ⟨by omega, by omega⟩ ⟨by omega, by omega⟩ hx1 dL_law_454 ?_
    refine rl_RI (As := [.int (jI p0), .int (jI p1)]) (rest := []) C A hS (fun E' => c_X11_shot l E' zR hp0 hp1 hfR) jy_X11_shot rfl lk_L_124 dL_law_455 rfl rfl hl.1 (Nat.le_of_ble_eq_true rfl) ⟨Nat.le_of_ble_eq_true rfl, Nat.le_of_ble_eq_true rfl⟩ ⟨rfl, rfl⟩ ⟨by show cells + 1 ≤ 601024; omega, by show slots + 6 ≤ 7293034; omega⟩ (fun H locs hrR hS => ?_)
    refine r_istore C [(7, .int (jI r)), (6, .int (jI 2)), (5, .int (jI i)), (4, .ref zoD), (3, .ref zoL), (2, .ref (zR + 0)), (1, .ref (zC + 0)), (0, .ref b)] dL_law_458 hl (by decide) rfl (fun ls hl => ?_)
    refine r_aload_n C dL_law_460 rfl hl 5 rfl ?_
    refine rl_RI (As := []) (rest := []) C A hS (fun E' => c_X11_thrown l E' zR (show f_X11_thrown Mr' = some 2 by show some (Mr' 0 7) = some _; rw [ht])) jy_X11_thrown rfl lk_L_99 dL_law_461 rfl rfl hl.1 (Nat.le_of_ble_eq_true rfl) ⟨Nat.le_of_ble_eq_true rfl, Nat.le_of_ble_eq_true rfl⟩ ⟨rfl, rfl⟩ ⟨by show cells + 1 ≤ 601024; omega, by show slots + 6 ≤ 7293034; omega⟩ (fun H locs hrt hS => ?_)
    refine r_iload C dL_law_464 hl 1 rfl ?_
    refine r_icmp_eq C 471 ⟨by decide, by decide⟩ ⟨by decide, by decide⟩ dL_law_466 (by decide) (fun cq => ?_) (fun cq => absurd rfl cq)
    refine r_iload C dL_law_471 hl 1 rfl ?_
    refine r_if_ne C 488 ⟨by decide, by decide⟩ dL_law_473 (by decide) (fun cq => ?_) (fun cq => absurd cq (by decide))
    refine r_goto C 1891 dL_law_488 (by decide) ?_
    exact kk _ _ _ _ _ _ _ (by show cells + 1 ≤ cells + 1; omega) (by show slots + 6 ≤ slots + 6; omega) hS (lv_sub hl [2, 3, 4, 5, 6, 7] rfl)
set_option maxRecDepth 100000 in
set_option maxHeartbeats 8000000 in
theorem lc_map (hst : l.stackTraces = false) (C : Cx E0 p c cL_law 10 s args RL m) (A : LAt E0 b L xs zC zR zoL zoD zE s) {Mc Mr Mc' Mr' : Mem} {fL : Nat → Int64} {fD : Nat → UInt64} {H : Heap} {locs : List Loc} {ls : Array Slot} {cells slots : Nat} {i : Int} {p0 : Int} {p1 : Int} (hS : LStt E0 zC zR zoL zoD zE Mc Mr fL fD s H locs) (hi : 0 ≤ i ∧ i + 3 < (L : Int)) (hL : L ≤ 2048) (hx0 : xs (i + 1).toNat = jI p0) (hp0 : inR p0) (hx1 : xs (i + 2).toNat = jI p1) (hp1 : inR p1) (hl : lv_has ls 10 [(5, .int (jI i)), (4, .ref zoD), (3, .ref zoL), (2, .ref (zR + 0)), (1, .ref (zC + 0)), (0, .ref b)]) (hc : cells + 1 ≤ 601024 ∧ slots + 6 ≤ 7293034) (hstep : st_map p0 p1 Mc Mr Mc' Mr')
    (kk : ∀ (H1 : Heap) (locs1 : List Loc) (ls1 : Array Slot) (fL1 : Nat → Int64) (fD1 : Nat → UInt64) (c1 s1 : Nat), c1 ≤ cells + 1 → s1 ≤ slots + 6 → LStt E0 zC zR zoL zoD zE Mc' Mr' fL1 fD1 s H1 locs1 → lv_has ls1 10 [(5, .int (jI i)), (4, .ref zoD), (3, .ref zoL), (2, .ref (zR + 0)), (1, .ref (zC + 0)), (0, .ref b)] → W p l e room_1 s m args below meth c H1 locs1 c1 s1 Q (F0 m 1891 ls1 [])) : W p l e room_1 s m args below meth c H locs cells slots Q (F0 m 491 ls []) := by
  have hcR : cells + 1 ≤ room_1.cells := hc.1
  have hsR : slots + 6 ≤ room_1.slots := hc.2
  unfold st_map at hstep
  rcases hstep with ⟨r, hf, rfl, hfR, ht⟩ | ⟨hf, r, hfR, ht⟩ | ⟨hf, r, hfR, ht⟩
  · refine r_aload_n C dL_law_491 rfl hl 4 rfl ?_
    refine r_aload_n C dL_law_492 rfl hl 5 rfl ?_
    refine r_iload C dL_law_493 hl 0 rfl ?_
    refine r_iconst C dL_law_495 ?_
    refine r_iadd C dL_law_496 ?_
    refine r_sld C A hS (i := i + 1) (v := p0) ⟨by omega, by omega⟩ ⟨by omega, by omega⟩ hx0 dL_law_497 ?_
    refine r_aload_n C dL_law_498 rfl hl 5 rfl ?_
    refine r_iload C dL_law_499 hl 0 rfl ?_
    refine r_iconst C dL_law_501 ?_
    refine r_iadd C dL_law_502 ?_
    refine r_sld C A hS (i := i + 2) (v := p1) ⟨by omega, by omega⟩ ⟨by omega, by omega⟩ hx1 dL_law_503 ?_
    refine r_aload_n C dL_law_504 rfl hl 2 rfl ?_
    refine rl_HL (n := 4) (As := [.ref (zC + 0), .int (jI p0), .int (jI p1), .ref zoL]) (rest := []) C A hS (w_map l (eRg E0 (PO zC zoL zE)) zC zoL fL hp0 hp1 hf) (gh_map).1 (gh_map).2.1 (gh_map).2.2 ⟨by decide, by decide, by decide +kernel⟩ lk_L_125 dL_law_505 rfl rfl hl.1 (Nat.le_of_ble_eq_true rfl) ⟨Nat.le_of_ble_eq_true rfl, Nat.le_of_ble_eq_true rfl⟩ ⟨by show cells + 0 ≤ 601024; omega, by show slots + 0 ≤ 7293034; omega⟩ (fun H locs hrh hS => ?_)
    refine r_istore C [(6, .int (jI 0)), (5, .int (jI i)), (4, .ref zoD), (3, .ref zoL), (2, .ref (zR + 0)), (1, .ref (zC + 0)), (0, .ref b)] dL_law_508 hl (by decide) rfl (fun ls hl => ?_)
    refine r_aload_n C dL_law_510 rfl hl 4 rfl ?_
    refine r_aload_n C dL_law_511 rfl hl 6 rfl ?_
    refine r_iload C dL_law_512 hl 1 rfl ?_
    refine r_iconst C dL_law_514 ?_
    refine r_iadd C dL_law_515 ?_
    refine r_sld C A hS (i := i + 1) (v := p0) ⟨by omega, by omega⟩ ⟨by omega, by omega⟩ hx0 dL_law_516 ?_
    refine r_aload_n C dL_law_517 rfl hl 6 rfl ?_
    refine r_iload C dL_law_518 hl 1 rfl ?_
    refine r_iconst C dL_law_520 ?_
    refine r_iadd C dL_law_521 ?_
    refine r_sld C A hS (i := i + 2) (v := p1) ⟨by omega, by omega⟩ ⟨by omega, by omega⟩ hx1 dL_law_522 ?_
    refine rl_RI (As := [.int (jI p0), .int (jI p1)]) (rest := []) C A hS (fun E' => c_X11_map l E' zR hp0 hp1 hfR) jy_X11_map rfl lk_L_127 dL_law_523 rfl rfl hl.1 (Nat.le_of_ble_eq_true rfl) ⟨Nat.le_of_ble_eq_true rfl, Nat.le_of_ble_eq_true rfl⟩ ⟨rfl, rfl⟩ ⟨by show cells + 0 ≤ 601024; omega, by show slots + 0 ≤ 7293034; omega⟩ (fun H locs hrR hS => ?_)
    refine r_istore C [(7, .int (jI r)), (6, .int (jI 0)), (5, .int (jI i)), (4, .ref zoD), (3, .ref zoL), (2, .ref (zR + 0)), (1, .ref (zC + 0)), (0, .ref b)] dL_law_526 hl (by decide) rfl (fun ls hl => ?_)
    refine r_aload_n C dL_law_528 rfl hl 5 rfl ?_
    refine rl_RI (As := []) (rest := []) C A hS (fun E' => c_X11_thrown l E' zR (show f_X11_thrown Mr' = some 0 by show some (Mr' 0 7) = some _; rw [ht])) jy_X11_thrown rfl lk_L_99 dL_law_529 rfl rfl hl.1 (Nat.le_of_ble_eq_true rfl) ⟨Nat.le_of_ble_eq_true rfl, Nat.le_of_ble_eq_true rfl⟩ ⟨rfl, rfl⟩ ⟨by show cells + 0 ≤ 601024; omega, by show slots + 0 ≤ 7293034; omega⟩ (fun H locs hrt hS => ?_)
    refine r_iload C dL_law_532 hl 1 rfl ?_
    refine r_icmp_eq C 539 ⟨by decide, by decide⟩ ⟨by decide, by decide⟩ dL_law_534 (by decide) (fun cq => ?_) (fun cq => absurd rfl cq)
    refine r_iload C dL_law_539 hl 1 rfl ?_
    refine r_if_ne C 556 ⟨by decide, by decide⟩ dL_law_541 (by decide) (fun cq => absurd rfl cq) (fun cq => ?_)
    refine r_aload_n C dL_law_544 rfl hl 4 rfl ?_
    refine r_iconst C dL_law_545 ?_
    refine r_lald C hS dL_law_546 ?_
    refine r_iload C dL_law_547 hl 0 rfl ?_
    refine lv_i2l C.1.1 C.1.2.1 dL_law_549 rfl ?_
    refine r_lcmpE C (by simp [vp_updL]) dL_law_550 ?_
    refine r_if_eq C 556 ⟨by decide, by decide⟩ dL_law_551 (by decide) (fun cq => ?_) (fun cq => absurd rfl cq)
    refine r_goto C 1891 dL_law_556 (by decide) ?_
    exact kk _ _ _ _ _ _ _ (by show cells + 0 ≤ cells + 1; omega) (by show slots + 0 ≤ slots + 6; omega) hS (lv_sub hl [2, 3, 4, 5, 6, 7] rfl)
  · refine r_aload_n C dL_law_491 rfl hl 4 rfl ?_
    refine r_aload_n C dL_law_492 rfl hl 5 rfl ?_
    refine r_iload C dL_law_493 hl 0 rfl ?_
    refine r_iconst C dL_law_495 ?_
    refine r_iadd C dL_law_496 ?_
    refine r_sld C A hS (i := i + 1) (v := p0) ⟨by omega, by omega⟩ ⟨by omega, by omega⟩ hx0 dL_law_497 ?_
    refine r_aload_n C dL_law_498 rfl hl 5 rfl ?_
    refine r_iload C dL_law_499 hl 0 rfl ?_
    refine r_iconst C dL_law_501 ?_
    refine r_iadd C dL_law_502 ?_
    refine r_sld C A hS (i := i + 2) (v := p1) ⟨by omega, by omega⟩ ⟨by omega, by omega⟩ hx1 dL_law_503 ?_
    refine r_aload_n C dL_law_504 rfl hl 2 rfl ?_
    refine rl_HL (n := 4) (As := [.ref (zC + 0), .int (jI p0), .int (jI p1), .ref zoL]) (rest := []) C A hS (w1_map l hst (eRg E0 (PO zC zoL zE)) zC zoL fL hp0 hp1 hf) (gh_map).1 (gh_map).2.1 (gh_map).2.2 ⟨by decide, by decide, by decide +kernel⟩ lk_L_125 dL_law_505 rfl rfl hl.1 (Nat.le_of_ble_eq_true rfl) ⟨Nat.le_of_ble_eq_true rfl, Nat.le_of_ble_eq_true rfl⟩ ⟨by show cells + 1 ≤ 601024; omega, by show slots + 6 ≤ 7293034; omega⟩ (fun H locs hrh hS => ?_)
    refine r_istore C [(6, .int (jI 1)), (5, .int (jI i)), (4, .ref zoD), (3, .ref zoL), (2, .ref (zR + 0)), (1, .ref (zC + 0)), (0, .ref b)] dL_law_508 hl (by decide) rfl (fun ls hl => ?_)
    refine r_aload_n C dL_law_510 rfl hl 4 rfl ?_
    refine r_aload_n C dL_law_511 rfl hl 6 rfl ?_
    refine r_iload C dL_law_512 hl 1 rfl ?_
    refine r_iconst C dL_law_514 ?_
    refine r_iadd C dL_law_515 ?_
    refine r_sld C A hS (i := i + 1) (v := p0) ⟨by omega, by omega⟩ ⟨by omega, by omega⟩ hx0 dL_law_516 ?_
    refine r_aload_n C dL_law_517 rfl hl 6 rfl ?_
    refine r_iload C dL_law_518 hl 1 rfl ?_
    refine r_iconst C dL_law_520 ?_
    refine r_iadd C dL_law_521 ?_
    refine r_sld C A hS (i := i + 2) (v := p1) ⟨by omega, by omega⟩ ⟨by omega, by omega⟩ hx1 dL_law_522 ?_
    refine rl_RI (As := [.int (jI p0), .int (jI p1)]) (rest := []) C A hS (fun E' => c_X11_map l E' zR hp0 hp1 hfR) jy_X11_map rfl lk_L_127 dL_law_523 rfl rfl hl.1 (Nat.le_of_ble_eq_true rfl) ⟨Nat.le_of_ble_eq_true rfl, Nat.le_of_ble_eq_true rfl⟩ ⟨rfl, rfl⟩ ⟨by show cells + 1 ≤ 601024; omega, by show slots + 6 ≤ 7293034; omega⟩ (fun H locs hrR hS => ?_)
    refine r_istore C [(7, .int (jI r)), (6, .int (jI 1)), (5, .int (jI i)), (4, .ref zoD), (3, .ref zoL), (2, .ref (zR + 0)), (1, .ref (zC + 0)), (0, .ref b)] dL_law_526 hl (by decide) rfl (fun ls hl => ?_)
    refine r_aload_n C dL_law_528 rfl hl 5 rfl ?_
    refine rl_RI (As := []) (rest := []) C A hS (fun E' => c_X11_thrown l E' zR (show f_X11_thrown Mr' = some 1 by show some (Mr' 0 7) = some _; rw [ht])) jy_X11_thrown rfl lk_L_99 dL_law_529 rfl rfl hl.1 (Nat.le_of_ble_eq_true rfl) ⟨Nat.le_of_ble_eq_true rfl, Nat.le_of_ble_eq_true rfl⟩ ⟨rfl, rfl⟩ ⟨by show cells + 1 ≤ 601024; omega, by show slots + 6 ≤ 7293034; omega⟩ (fun H locs hrt hS => ?_)
    refine r_iload C dL_law_532 hl 1 rfl ?_
    refine r_icmp_eq C 539 ⟨by decide, by decide⟩ ⟨by decide, by decide⟩ dL_law_534 (by decide) (fun cq => ?_) (fun cq => absurd rfl cq)
    refine r_iload C dL_law_539 hl 1 rfl ?_
    refine r_if_ne C 556 ⟨by decide, by decide⟩ dL_law_541 (by decide) (fun cq => ?_) (fun cq => absurd cq (by decide))
    refine r_goto C 1891 dL_law_556 (by decide) ?_
    exact kk _ _ _ _ _ _ _ (by show cells + 1 ≤ cells + 1; omega) (by show slots + 6 ≤ slots + 6; omega) hS (lv_sub hl [2, 3, 4, 5, 6, 7] rfl)
  · refine r_aload_n C dL_law_491 rfl hl 4 rfl ?_
    refine r_aload_n C dL_law_492 rfl hl 5 rfl ?_
    refine r_iload C dL_law_493 hl 0 rfl ?_
    refine r_iconst C dL_law_495 ?_
    refine r_iadd C dL_law_496 ?_
    refine r_sld C A hS (i := i + 1) (v := p0) ⟨by omega, by omega⟩ ⟨by omega, by omega⟩ hx0 dL_law_497 ?_
    refine r_aload_n C dL_law_498 rfl hl 5 rfl ?_
    refine r_iload C dL_law_499 hl 0 rfl ?_
    refine r_iconst C dL_law_501 ?_
    refine r_iadd C dL_law_502 ?_
    refine r_sld C A hS (i := i + 2) (v := p1) ⟨by omega, by omega⟩ ⟨by omega, by omega⟩ hx1 dL_law_503 ?_
    refine r_aload_n C dL_law_504 rfl hl 2 rfl ?_
    refine rl_HL (n := 4) (As := [.ref (zC + 0), .int (jI p0), .int (jI p1), .ref zoL]) (rest := []) C A hS (w2_map l hst (eRg E0 (PO zC zoL zE)) zC zoL fL hp0 hp1 hf) (gh_map).1 (gh_map).2.1 (gh_map).2.2 ⟨by decide, by decide, by decide +kernel⟩ lk_L_125 dL_law_505 rfl rfl hl.1 (Nat.le_of_ble_eq_true rfl) ⟨Nat.le_of_ble_eq_true rfl, Nat.le_of_ble_eq_true rfl⟩ ⟨by show cells + 1 ≤ 601024; omega, by show slots + 6 ≤ 7293034; omega⟩ (fun H locs hrh hS => ?_)
    refine r_istore C [(6, .int (jI 2)), (5, .int (jI i)), (4, .ref zoD), (3, .ref zoL), (2, .ref (zR + 0)), (1, .ref (zC + 0)), (0, .ref b)] dL_law_508 hl (by decide) rfl (fun ls hl => ?_)
    refine r_aload_n C dL_law_510 rfl hl 4 rfl ?_
    refine r_aload_n C dL_law_511 rfl hl 6 rfl ?_
    refine r_iload C dL_law_512 hl 1 rfl ?_
    refine r_iconst C dL_law_514 ?_
    refine r_iadd C dL_law_515 ?_
    refine r_sld C A hS (i := i + 1) (v := p0) ⟨by omega, by omega⟩ ⟨by omega, by omega⟩ hx0 dL_law_516 ?_
    refine r_aload_n C dL_law_517 rfl hl 6 rfl ?_
    refine r_iload C dL_law_518 hl 1 rfl ?_
    refine r_iconst C dL_law_520 ?_
    refine r_iadd C dL_law_521 ?_
    refine r_sld C A hS (i := i + 2) (v := p1) ⟨by omega, by omega⟩ ⟨by omega, by omega⟩ hx1 dL_law_522 ?_
    refine rl_RI (As := [.int (jI p0), .int (jI p1)]) (rest := []) C A hS (fun E' => c_X11_map l E' zR hp0 hp1 hfR) jy_X11_map rfl lk_L_127 dL_law_523 rfl rfl hl.1 (Nat.le_of_ble_eq_true rfl) ⟨Nat.le_of_ble_eq_true rfl, Nat.le_of_ble_eq_true rfl⟩ ⟨rfl, rfl⟩ ⟨by show cells + 1 ≤ 601024; omega, by show slots + 6 ≤ 7293034; omega⟩ (fun H locs hrR hS => ?_)
    refine r_istore C [(7, .int (jI r)), (6, .int (jI 2)), (5, .int (jI i)), (4, .ref zoD), (3, .ref zoL), (2, .ref (zR + 0)), (1, .ref (zC + 0)), (0, .ref b)] dL_law_526 hl (by decide) rfl (fun ls hl => ?_)
    refine r_aload_n C dL_law_528 rfl hl 5 rfl ?_
    refine rl_RI (As := []) (rest := []) C A hS (fun E' => c_X11_thrown l E' zR (show f_X11_thrown Mr' = some 2 by show some (Mr' 0 7) = some _; rw [ht])) jy_X11_thrown rfl lk_L_99 dL_law_529 rfl rfl hl.1 (Nat.le_of_ble_eq_true rfl) ⟨Nat.le_of_ble_eq_true rfl, Nat.le_of_ble_eq_true rfl⟩ ⟨rfl, rfl⟩ ⟨by show cells + 1 ≤ 601024; omega, by show slots + 6 ≤ 7293034; omega⟩ (fun H locs hrt hS => ?_)
    refine r_iload C dL_law_532 hl 1 rfl ?_
    refine r_icmp_eq C 539 ⟨by decide, by decide⟩ ⟨by decide, by decide⟩ dL_law_534 (by decide) (fun cq => ?_) (fun cq => absurd rfl cq)
    refine r_iload C dL_law_539 hl 1 rfl ?_
    refine r_if_ne C 556 ⟨by decide, by decide⟩ dL_law_541 (by decide) (fun cq => ?_) (fun cq => absurd cq (by decide))
    refine r_goto C 1891 dL_law_556 (by decide) ?_
    exact kk _ _ _ _ _ _ _ (by show cells + 1 ≤ cells + 1; omega) (by show slots + 6 ≤ slots + 6; omega) hS (lv_sub hl [2, 3, 4, 5, 6, 7] rfl)
set_option maxRecDepth 100000 in
set_option maxHeartbeats 8000000 in
theorem lc_ban (hst : l.stackTraces = false) (C : Cx E0 p c cL_law 10 s args RL m) (A : LAt E0 b L xs zC zR zoL zoD zE s) {Mc Mr Mc' Mr' : Mem} {fL : Nat → Int64} {fD : Nat → UInt64} {H : Heap} {locs : List Loc} {ls : Array Slot} {cells slots : Nat} {i : Int} {p0 : Int} {p1 : Int} (hS : LStt E0 zC zR zoL zoD zE Mc Mr fL fD s H locs) (hi : 0 ≤ i ∧ i + 3 < (L : Int)) (hL : L ≤ 2048) (hx0 : xs (i + 1).toNat = jI p0) (hp0 : inR p0) (hx1 : xs (i + 2).toNat = jI p1) (hp1 : inR p1) (hl : lv_has ls 10 [(5, .int (jI i)), (4, .ref zoD), (3, .ref zoL), (2, .ref (zR + 0)), (1, .ref (zC + 0)), (0, .ref b)]) (hc : cells + 1 ≤ 601024 ∧ slots + 6 ≤ 7293034) (hstep : st_ban p0 p1 Mc Mr Mc' Mr')
    (kk : ∀ (H1 : Heap) (locs1 : List Loc) (ls1 : Array Slot) (fL1 : Nat → Int64) (fD1 : Nat → UInt64) (c1 s1 : Nat), c1 ≤ cells + 1 → s1 ≤ slots + 6 → LStt E0 zC zR zoL zoD zE Mc' Mr' fL1 fD1 s H1 locs1 → lv_has ls1 10 [(5, .int (jI i)), (4, .ref zoD), (3, .ref zoL), (2, .ref (zR + 0)), (1, .ref (zC + 0)), (0, .ref b)] → W p l e room_1 s m args below meth c H1 locs1 c1 s1 Q (F0 m 1891 ls1 [])) : W p l e room_1 s m args below meth c H locs cells slots Q (F0 m 559 ls []) := by
  have hcR : cells + 1 ≤ room_1.cells := hc.1
  have hsR : slots + 6 ≤ room_1.slots := hc.2
  unfold st_ban at hstep
  rcases hstep with ⟨r, hf, rfl, hfR, ht⟩ | ⟨hf, r, hfR, ht⟩ | ⟨hf, r, hfR, ht⟩
  · refine r_aload_n C dL_law_559 rfl hl 4 rfl ?_
    refine r_aload_n C dL_law_560 rfl hl 5 rfl ?_
    refine r_iload C dL_law_561 hl 0 rfl ?_
    refine r_iconst C dL_law_563 ?_
    refine r_iadd C dL_law_564 ?_
    refine r_sld C A hS (i := i + 1) (v := p0) ⟨by omega, by omega⟩ ⟨by omega, by omega⟩ hx0 dL_law_565 ?_
    refine r_aload_n C dL_law_566 rfl hl 5 rfl ?_
    refine r_iload C dL_law_567 hl 0 rfl ?_
    refine r_iconst C dL_law_569 ?_
    refine r_iadd C dL_law_570 ?_
    refine r_sld C A hS (i := i + 2) (v := p1) ⟨by omega, by omega⟩ ⟨by omega, by omega⟩ hx1 dL_law_571 ?_
    refine r_aload_n C dL_law_572 rfl hl 2 rfl ?_
    refine rl_HL (n := 4) (As := [.ref (zC + 0), .int (jI p0), .int (jI p1), .ref zoL]) (rest := []) C A hS (w_ban l (eRg E0 (PO zC zoL zE)) zC zoL fL hp0 hp1 hf) (gh_ban).1 (gh_ban).2.1 (gh_ban).2.2 ⟨by decide, by decide, by decide +kernel⟩ lk_L_128 dL_law_573 rfl rfl hl.1 (Nat.le_of_ble_eq_true rfl) ⟨Nat.le_of_ble_eq_true rfl, Nat.le_of_ble_eq_true rfl⟩ ⟨by show cells + 0 ≤ 601024; omega, by show slots + 0 ≤ 7293034; omega⟩ (fun H locs hrh hS => ?_)
    refine r_istore C [(6, .int (jI 0)), (5, .int (jI i)), (4, .ref zoD), (3, .ref zoL), (2, .ref (zR + 0)), (1, .ref (zC + 0)), (0, .ref b)] dL_law_576 hl (by decide) rfl (fun ls hl => ?_)
    refine r_aload_n C dL_law_578 rfl hl 4 rfl ?_
    refine r_aload_n C dL_law_579 rfl hl 6 rfl ?_
    refine r_iload C dL_law_580 hl 1 rfl ?_
    refine r_iconst C dL_law_582 ?_
    refine r_iadd C dL_law_583 ?_
    refine r_sld C A hS (i := i + 1) (v := p0) ⟨by omega, by omega⟩ ⟨by omega, by omega⟩ hx0 dL_law_584 ?_
    refine r_aload_n C dL_law_585 rfl hl 6 rfl ?_
    refine r_iload C dL_law_586 hl 1 rfl ?_
    refine r_iconst C dL_law_588 ?_
    refine r_iadd C dL_law_589 ?_
    refine r_sld C A hS (i := i + 2) (v := p1) ⟨by omega, by omega⟩ ⟨by omega, by omega⟩ hx1 dL_law_590 ?_
    refine rl_RI (As := [.int (jI p0), .int (jI p1)]) (rest := []) C A hS (fun E' => c_X11_ban l E' zR hp0 hp1 hfR) jy_X11_ban rfl lk_L_130 dL_law_591 rfl rfl hl.1 (Nat.le_of_ble_eq_true rfl) ⟨Nat.le_of_ble_eq_true rfl, Nat.le_of_ble_eq_true rfl⟩ ⟨rfl, rfl⟩ ⟨by show cells + 0 ≤ 601024; omega, by show slots + 0 ≤ 7293034; omega⟩ (fun H locs hrR hS => ?_)
    refine r_istore C [(7, .int (jI r)), (6, .int (jI 0)), (5, .int (jI i)), (4, .ref zoD), (3, .ref zoL), (2, .ref (zR + 0)), (1, .ref (zC + 0)), (0, .ref b)] dL_law_594 hl (by decide) rfl (fun ls hl => ?_)
    refine r_aload_n C dL_law_596 rfl hl 5 rfl ?_
    refine rl_RI (As := []) (rest := []) C A hS (fun E' => c_X11_thrown l E' zR (show f_X11_thrown Mr' = some 0 by show some (Mr' 0 7) = some _; rw [ht])) jy_X11_thrown rfl lk_L_99 dL_law_597 rfl rfl hl.1 (Nat.le_of_ble_eq_true rfl) ⟨Nat.le_of_ble_eq_true rfl, Nat.le_of_ble_eq_true rfl⟩ ⟨rfl, rfl⟩ ⟨by show cells + 0 ≤ 601024; omega, by show slots + 0 ≤ 7293034; omega⟩ (fun H locs hrt hS => ?_)
    refine r_iload C dL_law_600 hl 1 rfl ?_
    refine r_icmp_eq C 607 ⟨by decide, by decide⟩ ⟨by decide, by decide⟩ dL_law_602 (by decide) (fun cq => ?_) (fun cq => absurd rfl cq)
    refine r_iload C dL_law_607 hl 1 rfl ?_
    refine r_if_ne C 624 ⟨by decide, by decide⟩ dL_law_609 (by decide) (fun cq => absurd rfl cq) (fun cq => ?_)
    refine r_aload_n C dL_law_612 rfl hl 4 rfl ?_
    refine r_iconst C dL_law_613 ?_
    refine r_lald C hS dL_law_614 ?_
    refine r_iload C dL_law_615 hl 0 rfl ?_
    refine lv_i2l C.1.1 C.1.2.1 dL_law_617 rfl ?_
    refine r_lcmpE C (by simp [vp_updL]) dL_law_618 ?_
    refine r_if_eq C 624 ⟨by decide, by decide⟩ dL_law_619 (by decide) (fun cq => ?_) (fun cq => absurd rfl cq)
    refine r_goto C 1891 dL_law_624 (by decide) ?_
    exact kk _ _ _ _ _ _ _ (by show cells + 0 ≤ cells + 1; omega) (by show slots + 0 ≤ slots + 6; omega) hS (lv_sub hl [2, 3, 4, 5, 6, 7] rfl)
  · refine r_aload_n C dL_law_559 rfl hl 4 rfl ?_
    refine r_aload_n C dL_law_560 rfl hl 5 rfl ?_
    refine r_iload C dL_law_561 hl 0 rfl ?_
    refine r_iconst C dL_law_563 ?_
    refine r_iadd C dL_law_564 ?_
    refine r_sld C A hS (i := i + 1) (v := p0) ⟨by omega, by omega⟩ ⟨by omega, by omega⟩ hx0 dL_law_565 ?_
    refine r_aload_n C dL_law_566 rfl hl 5 rfl ?_
    refine r_iload C dL_law_567 hl 0 rfl ?_
    refine r_iconst C dL_law_569 ?_
    refine r_iadd C dL_law_570 ?_
    refine r_sld C A hS (i := i + 2) (v := p1) ⟨by omega, by omega⟩ ⟨by omega, by omega⟩ hx1 dL_law_571 ?_
    refine r_aload_n C dL_law_572 rfl hl 2 rfl ?_
    refine rl_HL (n := 4) (As := [.ref (zC + 0), .int (jI p0), .int (jI p1), .ref zoL]) (rest := []) C A hS (w1_ban l hst (eRg E0 (PO zC zoL zE)) zC zoL fL hp0 hp1 hf) (gh_ban).1 (gh_ban).2.1 (gh_ban).2.2 ⟨by decide, by decide, by decide +kernel⟩ lk_L_128 dL_law_573 rfl rfl hl.1 (Nat.le_of_ble_eq_true rfl) ⟨Nat.le_of_ble_eq_true rfl, Nat.le_of_ble_eq_true rfl⟩ ⟨by show cells + 1 ≤ 601024; omega, by show slots + 6 ≤ 7293034; omega⟩ (fun H locs hrh hS => ?_)
    refine r_istore C [(6, .int (jI 1)), (5, .int (jI i)), (4, .ref zoD), (3, .ref zoL), (2, .ref (zR + 0)), (1, .ref (zC + 0)), (0, .ref b)] dL_law_576 hl (by decide) rfl (fun ls hl => ?_)
    refine r_aload_n C dL_law_578 rfl hl 4 rfl ?_
    refine r_aload_n C dL_law_579 rfl hl 6 rfl ?_
    refine r_iload C dL_law_580 hl 1 rfl ?_
    refine r_iconst C dL_law_582 ?_
    refine r_iadd C dL_law_583 ?_
    refine r_sld C A hS (i := i + 1) (v := p0) ⟨by omega, by omega⟩ ⟨by omega, by omega⟩ hx0 dL_law_584 ?_
    refine r_aload_n C dL_law_585 rfl hl 6 rfl ?_
    refine r_iload C dL_law_586 hl 1 rfl ?_
    refine r_iconst C dL_law_588 ?_
    refine r_iadd C dL_law_589 ?_
    refine r_sld C A hS (i := i + 2) (v := p1) ⟨by omega, by omega⟩ ⟨by omega, by omega⟩ hx1 dL_law_590 ?_
    refine rl_RI (As := [.int (jI p0), .int (jI p1)]) (rest := []) C A hS (fun E' => c_X11_ban l E' zR hp0 hp1 hfR) jy_X11_ban rfl lk_L_130 dL_law_591 rfl rfl hl.1 (Nat.le_of_ble_eq_true rfl) ⟨Nat.le_of_ble_eq_true rfl, Nat.le_of_ble_eq_true rfl⟩ ⟨rfl, rfl⟩ ⟨by show cells + 1 ≤ 601024; omega, by show slots + 6 ≤ 7293034; omega⟩ (fun H locs hrR hS => ?_)
    refine r_istore C [(7, .int (jI r)), (6, .int (jI 1)), (5, .int (jI i)), (4, .ref zoD), (3, .ref zoL), (2, .ref (zR + 0)), (1, .ref (zC + 0)), (0, .ref b)] dL_law_594 hl (by decide) rfl (fun ls hl => ?_)
    refine r_aload_n C dL_law_596 rfl hl 5 rfl ?_
    refine rl_RI (As := []) (rest := []) C A hS (fun E' => c_X11_thrown l E' zR (show f_X11_thrown Mr' = some 1 by show some (Mr' 0 7) = some _; rw [ht])) jy_X11_thrown rfl lk_L_99 dL_law_597 rfl rfl hl.1 (Nat.le_of_ble_eq_true rfl) ⟨Nat.le_of_ble_eq_true rfl, Nat.le_of_ble_eq_true rfl⟩ ⟨rfl, rfl⟩ ⟨by show cells + 1 ≤ 601024; omega, by show slots + 6 ≤ 7293034; omega⟩ (fun H locs hrt hS => ?_)
    refine r_iload C dL_law_600 hl 1 rfl ?_
    refine r_icmp_eq C 607 ⟨by decide, by decide⟩ ⟨by decide, by decide⟩ dL_law_602 (by decide) (fun cq => ?_) (fun cq => absurd rfl cq)
    refine r_iload C dL_law_607 hl 1 rfl ?_
    refine r_if_ne C 624 ⟨by decide, by decide⟩ dL_law_609 (by decide) (fun cq => ?_) (fun cq => absurd cq (by decide))
    refine r_goto C 1891 dL_law_624 (by decide) ?_
    exact kk _ _ _ _ _ _ _ (by show cells + 1 ≤ cells + 1; omega) (by show slots + 6 ≤ slots + 6; omega) hS (lv_sub hl [2, 3, 4, 5, 6, 7] rfl)
  · refine r_aload_n C dL_law_559 rfl hl 4 rfl ?_
    refine r_aload_n C dL_law_560 rfl hl 5 rfl ?_
    refine r_iload C dL_law_561 hl 0 rfl ?_
    refine r_iconst C dL_law_563 ?_
    refine r_iadd C dL_law_564 ?_
    refine r_sld C A hS (i := i + 1) (v := p0) ⟨by omega, by omega⟩ ⟨by omega, by omega⟩ hx0 dL_law_565 ?_
    refine r_aload_n C dL_law_566 rfl hl 5 rfl ?_
    refine r_iload C dL_law_567 hl 0 rfl ?_
    refine r_iconst C dL_law_569 ?_
    refine r_iadd C dL_law_570 ?_
    refine r_sld C A hS (i := i + 2) (v := p1) ⟨by omega, by omega⟩ ⟨by omega, by omega⟩ hx1 dL_law_571 ?_
    refine r_aload_n C dL_law_572 rfl hl 2 rfl ?_
    refine rl_HL (n := 4) (As := [.ref (zC + 0), .int (jI p0), .int (jI p1), .ref zoL]) (rest := []) C A hS (w2_ban l hst (eRg E0 (PO zC zoL zE)) zC zoL fL hp0 hp1 hf) (gh_ban).1 (gh_ban).2.1 (gh_ban).2.2 ⟨by decide, by decide, by decide +kernel⟩ lk_L_128 dL_law_573 rfl rfl hl.1 (Nat.le_of_ble_eq_true rfl) ⟨Nat.le_of_ble_eq_true rfl, Nat.le_of_ble_eq_true rfl⟩ ⟨by show cells + 1 ≤ 601024; omega, by show slots + 6 ≤ 7293034; omega⟩ (fun H locs hrh hS => ?_)
    refine r_istore C [(6, .int (jI 2)), (5, .int (jI i)), (4, .ref zoD), (3, .ref zoL), (2, .ref (zR + 0)), (1, .ref (zC + 0)), (0, .ref b)] dL_law_576 hl (by decide) rfl (fun ls hl => ?_)
    refine r_aload_n C dL_law_578 rfl hl 4 rfl ?_
    refine r_aload_n C dL_law_579 rfl hl 6 rfl ?_
    refine r_iload C dL_law_580 hl 1 rfl ?_
    refine r_iconst C dL_law_582 ?_
    refine r_iadd C dL_law_583 ?_
    refine r_sld C A hS (i := i + 1) (v := p0) ⟨by omega, by omega⟩ ⟨by omega, by omega⟩ hx0 dL_law_584 ?_
    refine r_aload_n C dL_law_585 rfl hl 6 rfl ?_
    refine r_iload C dL_law_586 hl 1 rfl ?_
    refine r_iconst C dL_law_588 ?_
    refine r_iadd C dL_law_589 ?_
    refine r_sld C A hS (i := i + 2) (v := p1) ⟨by omega, by omega⟩ ⟨by omega, by omega⟩ hx1 dL_law_590 ?_
    refine rl_RI (As := [.int (jI p0), .int (jI p1)]) (rest := []) C A hS (fun E' => c_X11_ban l E' zR hp0 hp1 hfR) jy_X11_ban rfl lk_L_130 dL_law_591 rfl rfl hl.1 (Nat.le_of_ble_eq_true rfl) ⟨Nat.le_of_ble_eq_true rfl, Nat.le_of_ble_eq_true rfl⟩ ⟨rfl, rfl⟩ ⟨by show cells + 1 ≤ 601024; omega, by show slots + 6 ≤ 7293034; omega⟩ (fun H locs hrR hS => ?_)
    refine r_istore C [(7, .int (jI r)), (6, .int (jI 2)), (5, .int (jI i)), (4, .ref zoD), (3, .ref zoL), (2, .ref (zR + 0)), (1, .ref (zC + 0)), (0, .ref b)] dL_law_594 hl (by decide) rfl (fun ls hl => ?_)
    refine r_aload_n C dL_law_596 rfl hl 5 rfl ?_
    refine rl_RI (As := []) (rest := []) C A hS (fun E' => c_X11_thrown l E' zR (show f_X11_thrown Mr' = some 2 by show some (Mr' 0 7) = some _; rw [ht])) jy_X11_thrown rfl lk_L_99 dL_law_597 rfl rfl hl.1 (Nat.le_of_ble_eq_true rfl) ⟨Nat.le_of_ble_eq_true rfl, Nat.le_of_ble_eq_true rfl⟩ ⟨rfl, rfl⟩ ⟨by show cells + 1 ≤ 601024; omega, by show slots + 6 ≤ 7293034; omega⟩ (fun H locs hrt hS => ?_)
    refine r_iload C dL_law_600 hl 1 rfl ?_
    refine r_icmp_eq C 607 ⟨by decide, by decide⟩ ⟨by decide, by decide⟩ dL_law_602 (by decide) (fun cq => ?_) (fun cq => absurd rfl cq)
    refine r_iload C dL_law_607 hl 1 rfl ?_
    refine r_if_ne C 624 ⟨by decide, by decide⟩ dL_law_609 (by decide) (fun cq => ?_) (fun cq => absurd cq (by decide))
    refine r_goto C 1891 dL_law_624 (by decide) ?_
    exact kk _ _ _ _ _ _ _ (by show cells + 1 ≤ cells + 1; omega) (by show slots + 6 ≤ slots + 6; omega) hS (lv_sub hl [2, 3, 4, 5, 6, 7] rfl)
set_option maxRecDepth 100000 in
set_option maxHeartbeats 8000000 in
theorem lc_word (hst : l.stackTraces = false) (C : Cx E0 p c cL_law 10 s args RL m) (A : LAt E0 b L xs zC zR zoL zoD zE s) {Mc Mr Mc' Mr' : Mem} {fL : Nat → Int64} {fD : Nat → UInt64} {H : Heap} {locs : List Loc} {ls : Array Slot} {cells slots : Nat} {i : Int} {p0 : Int} {p1 : Int} (hS : LStt E0 zC zR zoL zoD zE Mc Mr fL fD s H locs) (hi : 0 ≤ i ∧ i + 3 < (L : Int)) (hL : L ≤ 2048) (hx0 : xs (i + 1).toNat = jI p0) (hp0 : inR p0) (hx1 : xs (i + 2).toNat = jI p1) (hp1 : inR p1) (hl : lv_has ls 10 [(5, .int (jI i)), (4, .ref zoD), (3, .ref zoL), (2, .ref (zR + 0)), (1, .ref (zC + 0)), (0, .ref b)]) (hc : cells + 1 ≤ 601024 ∧ slots + 6 ≤ 7293034) (hstep : st_word p0 p1 Mc Mr Mc' Mr')
    (kk : ∀ (H1 : Heap) (locs1 : List Loc) (ls1 : Array Slot) (fL1 : Nat → Int64) (fD1 : Nat → UInt64) (c1 s1 : Nat), c1 ≤ cells + 1 → s1 ≤ slots + 6 → LStt E0 zC zR zoL zoD zE Mc' Mr' fL1 fD1 s H1 locs1 → lv_has ls1 10 [(5, .int (jI i)), (4, .ref zoD), (3, .ref zoL), (2, .ref (zR + 0)), (1, .ref (zC + 0)), (0, .ref b)] → W p l e room_1 s m args below meth c H1 locs1 c1 s1 Q (F0 m 1891 ls1 [])) : W p l e room_1 s m args below meth c H locs cells slots Q (F0 m 627 ls []) := by
  have hcR : cells + 1 ≤ room_1.cells := hc.1
  have hsR : slots + 6 ≤ room_1.slots := hc.2
  unfold st_word at hstep
  rcases hstep with ⟨r, hf, rfl, hfR, ht⟩ | ⟨hf, r, hfR, ht⟩ | ⟨hf, r, hfR, ht⟩
  · refine r_aload_n C dL_law_627 rfl hl 4 rfl ?_
    refine r_aload_n C dL_law_628 rfl hl 5 rfl ?_
    refine r_iload C dL_law_629 hl 0 rfl ?_
    refine r_iconst C dL_law_631 ?_
    refine r_iadd C dL_law_632 ?_
    refine r_sld C A hS (i := i + 1) (v := p0) ⟨by omega, by omega⟩ ⟨by omega, by omega⟩ hx0 dL_law_633 ?_
    refine r_aload_n C dL_law_634 rfl hl 5 rfl ?_
    refine r_iload C dL_law_635 hl 0 rfl ?_
    refine r_iconst C dL_law_637 ?_
    refine r_iadd C dL_law_638 ?_
    refine r_sld C A hS (i := i + 2) (v := p1) ⟨by omega, by omega⟩ ⟨by omega, by omega⟩ hx1 dL_law_639 ?_
    refine r_aload_n C dL_law_640 rfl hl 2 rfl ?_
    refine rl_HL (n := 4) (As := [.ref (zC + 0), .int (jI p0), .int (jI p1), .ref zoL]) (rest := []) C A hS (w_word l (eRg E0 (PO zC zoL zE)) zC zoL fL hp0 hp1 hf) (gh_word).1 (gh_word).2.1 (gh_word).2.2 ⟨by decide, by decide, by decide +kernel⟩ lk_L_131 dL_law_641 rfl rfl hl.1 (Nat.le_of_ble_eq_true rfl) ⟨Nat.le_of_ble_eq_true rfl, Nat.le_of_ble_eq_true rfl⟩ ⟨by show cells + 0 ≤ 601024; omega, by show slots + 0 ≤ 7293034; omega⟩ (fun H locs hrh hS => ?_)
    refine r_istore C [(6, .int (jI 0)), (5, .int (jI i)), (4, .ref zoD), (3, .ref zoL), (2, .ref (zR + 0)), (1, .ref (zC + 0)), (0, .ref b)] dL_law_644 hl (by decide) rfl (fun ls hl => ?_)
    refine r_aload_n C dL_law_646 rfl hl 4 rfl ?_
    refine r_aload_n C dL_law_647 rfl hl 6 rfl ?_
    refine r_iload C dL_law_648 hl 1 rfl ?_
    refine r_iconst C dL_law_650 ?_
    refine r_iadd C dL_law_651 ?_
    refine r_sld C A hS (i := i + 1) (v := p0) ⟨by omega, by omega⟩ ⟨by omega, by omega⟩ hx0 dL_law_652 ?_
    refine r_aload_n C dL_law_653 rfl hl 6 rfl ?_
    refine r_iload C dL_law_654 hl 1 rfl ?_
    refine r_iconst C dL_law_656 ?_
    refine r_iadd C dL_law_657 ?_
    refine r_sld C A hS (i := i + 2) (v := p1) ⟨by omega, by omega⟩ ⟨by omega, by omega⟩ hx1 dL_law_658 ?_
    refine rl_RI (As := [.int (jI p0), .int (jI p1)]) (rest := []) C A hS (fun E' => c_X11_word l E' zR hp0 hp1 hfR) jy_X11_word rfl lk_L_133 dL_law_659 rfl rfl hl.1 (Nat.le_of_ble_eq_true rfl) ⟨Nat.le_of_ble_eq_true rfl, Nat.le_of_ble_eq_true rfl⟩ ⟨rfl, rfl⟩ ⟨by show cells + 0 ≤ 601024; omega, by show slots + 0 ≤ 7293034; omega⟩ (fun H locs hrR hS => ?_)
    refine r_istore C [(7, .int (jI r)), (6, .int (jI 0)), (5, .int (jI i)), (4, .ref zoD), (3, .ref zoL), (2, .ref (zR + 0)), (1, .ref (zC + 0)), (0, .ref b)] dL_law_662 hl (by decide) rfl (fun ls hl => ?_)
    refine r_aload_n C dL_law_664 rfl hl 5 rfl ?_
    refine rl_RI (As := []) (rest := []) C A hS (fun E' => c_X11_thrown l E' zR (show f_X11_thrown Mr' = some 0 by show some (Mr' 0 7) = some _; rw [ht])) jy_X11_thrown rfl lk_L_99 dL_law_665 rfl rfl hl.1 (Nat.le_of_ble_eq_true rfl) ⟨Nat.le_of_ble_eq_true rfl, Nat.le_of_ble_eq_true rfl⟩ ⟨rfl, rfl⟩ ⟨by show cells + 0 ≤ 601024; omega, by show slots + 0 ≤ 7293034; omega⟩ (fun H locs hrt hS => ?_)
    refine r_iload C dL_law_668 hl 1 rfl ?_
    refine r_icmp_eq C 675 ⟨by decide, by decide⟩ ⟨by decide, by decide⟩ dL_law_670 (by decide) (fun cq => ?_) (fun cq => absurd rfl cq)
    refine r_iload C dL_law_675 hl 1 rfl ?_
    refine r_if_ne C 692 ⟨by decide, by decide⟩ dL_law_677 (by decide) (fun cq => absurd rfl cq) (fun cq => ?_)
    refine r_aload_n C dL_law_680 rfl hl 4 rfl ?_
    refine r_iconst C dL_law_681 ?_
    refine r_lald C hS dL_law_682 ?_
    refine r_iload C dL_law_683 hl 0 rfl ?_
    refine lv_i2l C.1.1 C.1.2.1 dL_law_685 rfl ?_
    refine r_lcmpE C (by simp [vp_updL]) dL_law_686 ?_
    refine r_if_eq C 692 ⟨by decide, by decide⟩ dL_law_687 (by decide) (fun cq => ?_) (fun cq => absurd rfl cq)
    refine r_goto C 1891 dL_law_692 (by decide) ?_
    exact kk _ _ _ _ _ _ _ (by show cells + 0 ≤ cells + 1; omega) (by show slots + 0 ≤ slots + 6; omega) hS (lv_sub hl [2, 3, 4, 5, 6, 7] rfl)
  · refine r_aload_n C dL_law_627 rfl hl 4 rfl ?_
    refine r_aload_n C dL_law_628 rfl hl 5 rfl ?_
    refine r_iload C dL_law_629 hl 0 rfl ?_
    refine r_iconst C dL_law_631 ?_
    refine r_iadd C dL_law_632 ?_
    refine r_sld C A hS (i := i + 1) (v := p0) ⟨by omega, by omega⟩ ⟨by omega, by omega⟩ hx0 dL_law_633 ?_
    refine r_aload_n C dL_law_634 rfl hl 5 rfl ?_
    refine r_iload C dL_law_635 hl 0 rfl ?_
    refine r_iconst C dL_law_637 ?_
    refine r_iadd C dL_law_638 ?_
    refine r_sld C A hS (i := i + 2) (v := p1) ⟨by omega, by omega⟩ ⟨by omega, by omega⟩ hx1 dL_law_639 ?_
    refine r_aload_n C dL_law_640 rfl hl 2 rfl ?_
    refine rl_HL (n := 4) (As := [.ref (zC + 0), .int (jI p0), .int (jI p1), .ref zoL]) (rest := []) C A hS (w1_word l hst (eRg E0 (PO zC zoL zE)) zC zoL fL hp0 hp1 hf) (gh_word).1 (gh_word).2.1 (gh_word).2.2 ⟨by decide, by decide, by decide +kernel⟩ lk_L_131 dL_law_641 rfl rfl hl.1 (Nat.le_of_ble_eq_true rfl) ⟨Nat.le_of_ble_eq_true rfl, Nat.le_of_ble_eq_true rfl⟩ ⟨by show cells + 1 ≤ 601024; omega, by show slots + 6 ≤ 7293034; omega⟩ (fun H locs hrh hS => ?_)
    refine r_istore C [(6, .int (jI 1)), (5, .int (jI i)), (4, .ref zoD), (3, .ref zoL), (2, .ref (zR + 0)), (1, .ref (zC + 0)), (0, .ref b)] dL_law_644 hl (by decide) rfl (fun ls hl => ?_)
    refine r_aload_n C dL_law_646 rfl hl 4 rfl ?_
    refine r_aload_n C dL_law_647 rfl hl 6 rfl ?_
    refine r_iload C dL_law_648 hl 1 rfl ?_
    refine r_iconst C dL_law_650 ?_
    refine r_iadd C dL_law_651 ?_
    refine r_sld C A hS (i := i + 1) (v := p0) ⟨by omega, by omega⟩ ⟨by omega, by omega⟩ hx0 dL_law_652 ?_
    refine r_aload_n C dL_law_653 rfl hl 6 rfl ?_
    refine r_iload C dL_law_654 hl 1 rfl ?_
    refine r_iconst C dL_law_656 ?_
    refine r_iadd C dL_law_657 ?_
    refine r_sld C A hS (i := i + 2) (v := p1) ⟨by omega, by omega⟩ ⟨by omega, by omega⟩ hx1 dL_law_658 ?_
    refine rl_RI (As := [.int (jI p0), .int (jI p1)]) (rest := []) C A hS (fun E' => c_X11_word l E' zR hp0 hp1 hfR) jy_X11_word rfl lk_L_133 dL_law_659 rfl rfl hl.1 (Nat.le_of_ble_eq_true rfl) ⟨Nat.le_of_ble_eq_true rfl, Nat.le_of_ble_eq_true rfl⟩ ⟨rfl, rfl⟩ ⟨by show cells + 1 ≤ 601024; omega, by show slots + 6 ≤ 7293034; omega⟩ (fun H locs hrR hS => ?_)
    refine r_istore C [(7, .int (jI r)), (6, .int (jI 1)), (5, .int (jI i)), (4, .ref zoD), (3, .ref zoL), (2, .ref (zR + 0)), (1, .ref (zC + 0)), (0, .ref b)] dL_law_662 hl (by decide) rfl (fun ls hl => ?_)
    refine r_aload_n C dL_law_664 rfl hl 5 rfl ?_
    refine rl_RI (As := []) (rest := []) C A hS (fun E' => c_X11_thrown l E' zR (show f_X11_thrown Mr' = some 1 by show some (Mr' 0 7) = some _; rw [ht])) jy_X11_thrown rfl lk_L_99 dL_law_665 rfl rfl hl.1 (Nat.le_of_ble_eq_true rfl) ⟨Nat.le_of_ble_eq_true rfl, Nat.le_of_ble_eq_true rfl⟩ ⟨rfl, rfl⟩ ⟨by show cells + 1 ≤ 601024; omega, by show slots + 6 ≤ 7293034; omega⟩ (fun H locs hrt hS => ?_)
    refine r_iload C dL_law_668 hl 1 rfl ?_
    refine r_icmp_eq C 675 ⟨by decide, by decide⟩ ⟨by decide, by decide⟩ dL_law_670 (by decide) (fun cq => ?_) (fun cq => absurd rfl cq)
    refine r_iload C dL_law_675 hl 1 rfl ?_
    refine r_if_ne C 692 ⟨by decide, by decide⟩ dL_law_677 (by decide) (fun cq => ?_) (fun cq => absurd cq (by decide))
    refine r_goto C 1891 dL_law_692 (by decide) ?_
    exact kk _ _ _ _ _ _ _ (by show cells + 1 ≤ cells + 1; omega) (by show slots + 6 ≤ slots + 6; omega) hS (lv_sub hl [2, 3, 4, 5, 6, 7] rfl)
  · refine r_aload_n C dL_law_627 rfl hl 4 rfl ?_
    refine r_aload_n C dL_law_628 rfl hl 5 rfl ?_
    refine r_iload C dL_law_629 hl 0 rfl ?_
    refine r_iconst C dL_law_631 ?_
    refine r_iadd C dL_law_632 ?_
    refine r_sld C A hS (i := i + 1) (v := p0) ⟨by omega, by omega⟩ ⟨by omega, by omega⟩ hx0 dL_law_633 ?_
    refine r_aload_n C dL_law_634 rfl hl 5 rfl ?_
    refine r_iload C dL_law_635 hl 0 rfl ?_
    refine r_iconst C dL_law_637 ?_
    refine r_iadd C dL_law_638 ?_
    refine r_sld C A hS (i := i + 2) (v := p1) ⟨by omega, by omega⟩ ⟨by omega, by omega⟩ hx1 dL_law_639 ?_
    refine r_aload_n C dL_law_640 rfl hl 2 rfl ?_
    refine rl_HL (n := 4) (As := [.ref (zC + 0), .int (jI p0), .int (jI p1), .ref zoL]) (rest := []) C A hS (w2_word l hst (eRg E0 (PO zC zoL zE)) zC zoL fL hp0 hp1 hf) (gh_word).1 (gh_word).2.1 (gh_word).2.2 ⟨by decide, by decide, by decide +kernel⟩ lk_L_131 dL_law_641 rfl rfl hl.1 (Nat.le_of_ble_eq_true rfl) ⟨Nat.le_of_ble_eq_true rfl, Nat.le_of_ble_eq_true rfl⟩ ⟨by show cells + 1 ≤ 601024; omega, by show slots + 6 ≤ 7293034; omega⟩ (fun H locs hrh hS => ?_)
    refine r_istore C [(6, .int (jI 2)), (5, .int (jI i)), (4, .ref zoD), (3, .ref zoL), (2, .ref (zR + 0)), (1, .ref (zC + 0)), (0, .ref b)] dL_law_644 hl (by decide) rfl (fun ls hl => ?_)
    refine r_aload_n C dL_law_646 rfl hl 4 rfl ?_
    refine r_aload_n C dL_law_647 rfl hl 6 rfl ?_
    refine r_iload C dL_law_648 hl 1 rfl ?_
    refine r_iconst C dL_law_650 ?_
    refine r_iadd C dL_law_651 ?_
    refine r_sld C A hS (i := i + 1) (v := p0) ⟨by omega, by omega⟩ ⟨by omega, by omega⟩ hx0 dL_law_652 ?_
    refine r_aload_n C dL_law_653 rfl hl 6 rfl ?_
    refine r_iload C dL_law_654 hl 1 rfl ?_
    refine r_iconst C dL_law_656 ?_
    refine r_iadd C dL_law_657 ?_
    refine r_sld C A hS (i := i + 2) (v := p1) ⟨by omega, by omega⟩ ⟨by omega, by omega⟩ hx1 dL_law_658 ?_
    refine rl_RI (As := [.int (jI p0), .int (jI p1)]) (rest := []) C A hS (fun E' => c_X11_word l E' zR hp0 hp1 hfR) jy_X11_word rfl lk_L_133 dL_law_659 rfl rfl hl.1 (Nat.le_of_ble_eq_true rfl) ⟨Nat.le_of_ble_eq_true rfl, Nat.le_of_ble_eq_true rfl⟩ ⟨rfl, rfl⟩ ⟨by show cells + 1 ≤ 601024; omega, by show slots + 6 ≤ 7293034; omega⟩ (fun H locs hrR hS => ?_)
    refine r_istore C [(7, .int (jI r)), (6, .int (jI 2)), (5, .int (jI i)), (4, .ref zoD), (3, .ref zoL), (2, .ref (zR + 0)), (1, .ref (zC + 0)), (0, .ref b)] dL_law_662 hl (by decide) rfl (fun ls hl => ?_)
    refine r_aload_n C dL_law_664 rfl hl 5 rfl ?_
    refine rl_RI (As := []) (rest := []) C A hS (fun E' => c_X11_thrown l E' zR (show f_X11_thrown Mr' = some 2 by show some (Mr' 0 7) = some _; rw [ht])) jy_X11_thrown rfl lk_L_99 dL_law_665 rfl rfl hl.1 (Nat.le_of_ble_eq_true rfl) ⟨Nat.le_of_ble_eq_true rfl, Nat.le_of_ble_eq_true rfl⟩ ⟨rfl, rfl⟩ ⟨by show cells + 1 ≤ 601024; omega, by show slots + 6 ≤ 7293034; omega⟩ (fun H locs hrt hS => ?_)
    refine r_iload C dL_law_668 hl 1 rfl ?_
    refine r_icmp_eq C 675 ⟨by decide, by decide⟩ ⟨by decide, by decide⟩ dL_law_670 (by decide) (fun cq => ?_) (fun cq => absurd rfl cq)
    refine r_iload C dL_law_675 hl 1 rfl ?_
    refine r_if_ne C 692 ⟨by decide, by decide⟩ dL_law_677 (by decide) (fun cq => ?_) (fun cq => absurd cq (by decide))
    refine r_goto C 1891 dL_law_692 (by decide) ?_
    exact kk _ _ _ _ _ _ _ (by show cells + 1 ≤ cells + 1; omega) (by show slots + 6 ≤ slots + 6; omega) hS (lv_sub hl [2, 3, 4, 5, 6, 7] rfl)
set_option maxRecDepth 100000 in
set_option maxHeartbeats 8000000 in
theorem lc_piece (hst : l.stackTraces = false) (C : Cx E0 p c cL_law 10 s args RL m) (A : LAt E0 b L xs zC zR zoL zoD zE s) {Mc Mr Mc' Mr' : Mem} {fL : Nat → Int64} {fD : Nat → UInt64} {H : Heap} {locs : List Loc} {ls : Array Slot} {cells slots : Nat} {i : Int} {p0 : Int} {p1 : Int} (hS : LStt E0 zC zR zoL zoD zE Mc Mr fL fD s H locs) (hi : 0 ≤ i ∧ i + 3 < (L : Int)) (hL : L ≤ 2048) (hx0 : xs (i + 1).toNat = jI p0) (hp0 : inR p0) (hx1 : xs (i + 2).toNat = jI p1) (hp1 : inR p1) (hl : lv_has ls 10 [(5, .int (jI i)), (4, .ref zoD), (3, .ref zoL), (2, .ref (zR + 0)), (1, .ref (zC + 0)), (0, .ref b)]) (hc : cells + 1 ≤ 601024 ∧ slots + 6 ≤ 7293034) (hstep : st_piece p0 p1 Mc Mr Mc' Mr')
    (kk : ∀ (H1 : Heap) (locs1 : List Loc) (ls1 : Array Slot) (fL1 : Nat → Int64) (fD1 : Nat → UInt64) (c1 s1 : Nat), c1 ≤ cells + 1 → s1 ≤ slots + 6 → LStt E0 zC zR zoL zoD zE Mc' Mr' fL1 fD1 s H1 locs1 → lv_has ls1 10 [(5, .int (jI i)), (4, .ref zoD), (3, .ref zoL), (2, .ref (zR + 0)), (1, .ref (zC + 0)), (0, .ref b)] → W p l e room_1 s m args below meth c H1 locs1 c1 s1 Q (F0 m 1891 ls1 [])) : W p l e room_1 s m args below meth c H locs cells slots Q (F0 m 695 ls []) := by
  have hcR : cells + 1 ≤ room_1.cells := hc.1
  have hsR : slots + 6 ≤ room_1.slots := hc.2
  unfold st_piece at hstep
  rcases hstep with ⟨r, hf, rfl, hfR, ht⟩ | ⟨hf, r, hfR, ht⟩ | ⟨hf, r, hfR, ht⟩
  · refine r_aload_n C dL_law_695 rfl hl 4 rfl ?_
    refine r_aload_n C dL_law_696 rfl hl 5 rfl ?_
    refine r_iload C dL_law_697 hl 0 rfl ?_
    refine r_iconst C dL_law_699 ?_
    refine r_iadd C dL_law_700 ?_
    refine r_sld C A hS (i := i + 1) (v := p0) ⟨by omega, by omega⟩ ⟨by omega, by omega⟩ hx0 dL_law_701 ?_
    refine r_aload_n C dL_law_702 rfl hl 5 rfl ?_
    refine r_iload C dL_law_703 hl 0 rfl ?_
    refine r_iconst C dL_law_705 ?_
    refine r_iadd C dL_law_706 ?_
    refine r_sld C A hS (i := i + 2) (v := p1) ⟨by omega, by omega⟩ ⟨by omega, by omega⟩ hx1 dL_law_707 ?_
    refine r_aload_n C dL_law_708 rfl hl 2 rfl ?_
    refine rl_HL (n := 4) (As := [.ref (zC + 0), .int (jI p0), .int (jI p1), .ref zoL]) (rest := []) C A hS (w_piece l (eRg E0 (PO zC zoL zE)) zC zoL fL hp0 hp1 hf) (gh_piece).1 (gh_piece).2.1 (gh_piece).2.2 ⟨by decide, by decide, by decide +kernel⟩ lk_L_134 dL_law_709 rfl rfl hl.1 (Nat.le_of_ble_eq_true rfl) ⟨Nat.le_of_ble_eq_true rfl, Nat.le_of_ble_eq_true rfl⟩ ⟨by show cells + 0 ≤ 601024; omega, by show slots + 0 ≤ 7293034; omega⟩ (fun H locs hrh hS => ?_)
    refine r_istore C [(6, .int (jI 0)), (5, .int (jI i)), (4, .ref zoD), (3, .ref zoL), (2, .ref (zR + 0)), (1, .ref (zC + 0)), (0, .ref b)] dL_law_712 hl (by decide) rfl (fun ls hl => ?_)
    refine r_aload_n C dL_law_714 rfl hl 4 rfl ?_
    refine r_aload_n C dL_law_715 rfl hl 6 rfl ?_
    refine r_iload C dL_law_716 hl 1 rfl ?_
    refine r_iconst C dL_law_718 ?_
    refine r_iadd C dL_law_719 ?_
    refine r_sld C A hS (i := i + 1) (v := p0) ⟨by omega, by omega⟩ ⟨by omega, by omega⟩ hx0 dL_law_720 ?_
    refine r_aload_n C dL_law_721 rfl hl 6 rfl ?_
    refine r_iload C dL_law_722 hl 1 rfl ?_
    refine r_iconst C dL_law_724 ?_
    refine r_iadd C dL_law_725 ?_
    refine r_sld C A hS (i := i + 2) (v := p1) ⟨by omega, by omega⟩ ⟨by omega, by omega⟩ hx1 dL_law_726 ?_
    refine rl_RI (As := [.int (jI p0), .int (jI p1)]) (rest := []) C A hS (fun E' => c_X11_piece l E' zR hp0 hp1 hfR) jy_X11_piece rfl lk_L_136 dL_law_727 rfl rfl hl.1 (Nat.le_of_ble_eq_true rfl) ⟨Nat.le_of_ble_eq_true rfl, Nat.le_of_ble_eq_true rfl⟩ ⟨rfl, rfl⟩ ⟨by show cells + 0 ≤ 601024; omega, by show slots + 0 ≤ 7293034; omega⟩ (fun H locs hrR hS => ?_)
    refine r_istore C [(7, .int (jI r)), (6, .int (jI 0)), (5, .int (jI i)), (4, .ref zoD), (3, .ref zoL), (2, .ref (zR + 0)), (1, .ref (zC + 0)), (0, .ref b)] dL_law_730 hl (by decide) rfl (fun ls hl => ?_)
    refine r_aload_n C dL_law_732 rfl hl 5 rfl ?_
    refine rl_RI (As := []) (rest := []) C A hS (fun E' => c_X11_thrown l E' zR (show f_X11_thrown Mr' = some 0 by show some (Mr' 0 7) = some _; rw [ht])) jy_X11_thrown rfl lk_L_99 dL_law_733 rfl rfl hl.1 (Nat.le_of_ble_eq_true rfl) ⟨Nat.le_of_ble_eq_true rfl, Nat.le_of_ble_eq_true rfl⟩ ⟨rfl, rfl⟩ ⟨by show cells + 0 ≤ 601024; omega, by show slots + 0 ≤ 7293034; omega⟩ (fun H locs hrt hS => ?_)
    refine r_iload C dL_law_736 hl 1 rfl ?_
    refine r_icmp_eq C 743 ⟨by decide, by decide⟩ ⟨by decide, by decide⟩ dL_law_738 (by decide) (fun cq => ?_) (fun cq => absurd rfl cq)
    refine r_iload C dL_law_743 hl 1 rfl ?_
    refine r_if_ne C 760 ⟨by decide, by decide⟩ dL_law_745 (by decide) (fun cq => absurd rfl cq) (fun cq => ?_)
    refine r_aload_n C dL_law_748 rfl hl 4 rfl ?_
    refine r_iconst C dL_law_749 ?_
    refine r_lald C hS dL_law_750 ?_
    refine r_iload C dL_law_751 hl 0 rfl ?_
    refine lv_i2l C.1.1 C.1.2.1 dL_law_753 rfl ?_
    refine r_lcmpE C (by simp [vp_updL]) dL_law_754 ?_
    refine r_if_eq C 760 ⟨by decide, by decide⟩ dL_law_755 (by decide) (fun cq => ?_) (fun cq => absurd rfl cq)
    refine r_goto C 1891 dL_law_760 (by decide) ?_
    exact kk _ _ _ _ _ _ _ (by show cells + 0 ≤ cells + 1; omega) (by show slots + 0 ≤ slots + 6; omega) hS (lv_sub hl [2, 3, 4, 5, 6, 7] rfl)
  · refine r_aload_n C dL_law_695 rfl hl 4 rfl ?_
    refine r_aload_n C dL_law_696 rfl hl 5 rfl ?_
    refine r_iload C dL_law_697 hl 0 rfl ?_
    refine r_iconst C dL_law_699 ?_
    refine r_iadd C dL_law_700 ?_
    refine r_sld C A hS (i := i + 1) (v := p0) ⟨by omega, by omega⟩ ⟨by omega, by omega⟩ hx0 dL_law_701 ?_
    refine r_aload_n C dL_law_702 rfl hl 5 rfl ?_
    refine r_iload C dL_law_703 hl 0 rfl ?_
    refine r_iconst C dL_law_705 ?_
    refine r_iadd C dL_law_706 ?_
    refine r_sld C A hS (i := i + 2) (v := p1) ⟨by omega, by omega⟩ ⟨by omega, by omega⟩ hx1 dL_law_707 ?_
    refine r_aload_n C dL_law_708 rfl hl 2 rfl ?_
    refine rl_HL (n := 4) (As := [.ref (zC + 0), .int (jI p0), .int (jI p1), .ref zoL]) (rest := []) C A hS (w1_piece l hst (eRg E0 (PO zC zoL zE)) zC zoL fL hp0 hp1 hf) (gh_piece).1 (gh_piece).2.1 (gh_piece).2.2 ⟨by decide, by decide, by decide +kernel⟩ lk_L_134 dL_law_709 rfl rfl hl.1 (Nat.le_of_ble_eq_true rfl) ⟨Nat.le_of_ble_eq_true rfl, Nat.le_of_ble_eq_true rfl⟩ ⟨by show cells + 1 ≤ 601024; omega, by show slots + 6 ≤ 7293034; omega⟩ (fun H locs hrh hS => ?_)
    refine r_istore C [(6, .int (jI 1)), (5, .int (jI i)), (4, .ref zoD), (3, .ref zoL), (2, .ref (zR + 0)), (1, .ref (zC + 0)), (0, .ref b)] dL_law_712 hl (by decide) rfl (fun ls hl => ?_)
    refine r_aload_n C dL_law_714 rfl hl 4 rfl ?_
    refine r_aload_n C dL_law_715 rfl hl 6 rfl ?_
    refine r_iload C dL_law_716 hl 1 rfl ?_
    refine r_iconst C dL_law_718 ?_
    refine r_iadd C dL_law_719 ?_
    refine r_sld C A hS (i := i + 1) (v := p0) ⟨by omega, by omega⟩ ⟨by omega, by omega⟩ hx0 dL_law_720 ?_
    refine r_aload_n C dL_law_721 rfl hl 6 rfl ?_
    refine r_iload C dL_law_722 hl 1 rfl ?_
    refine r_iconst C dL_law_724 ?_
    refine r_iadd C dL_law_725 ?_
    refine r_sld C A hS (i := i + 2) (v := p1) ⟨by omega, by omega⟩ ⟨by omega, by omega⟩ hx1 dL_law_726 ?_
    refine rl_RI (As := [.int (jI p0), .int (jI p1)]) (rest := []) C A hS (fun E' => c_X11_piece l E' zR hp0 hp1 hfR) jy_X11_piece rfl lk_L_136 dL_law_727 rfl rfl hl.1 (Nat.le_of_ble_eq_true rfl) ⟨Nat.le_of_ble_eq_true rfl, Nat.le_of_ble_eq_true rfl⟩ ⟨rfl, rfl⟩ ⟨by show cells + 1 ≤ 601024; omega, by show slots + 6 ≤ 7293034; omega⟩ (fun H locs hrR hS => ?_)
    refine r_istore C [(7, .int (jI r)), (6, .int (jI 1)), (5, .int (jI i)), (4, .ref zoD), (3, .ref zoL), (2, .ref (zR + 0)), (1, .ref (zC + 0)), (0, .ref b)] dL_law_730 hl (by decide) rfl (fun ls hl => ?_)
    refine r_aload_n C dL_law_732 rfl hl 5 rfl ?_
    refine rl_RI (As := []) (rest := []) C A hS (fun E' => c_X11_thrown l E' zR (show f_X11_thrown Mr' = some 1 by show some (Mr' 0 7) = some _; rw [ht])) jy_X11_thrown rfl lk_L_99 dL_law_733 rfl rfl hl.1 (Nat.le_of_ble_eq_true rfl) ⟨Nat.le_of_ble_eq_true rfl, Nat.le_of_ble_eq_true rfl⟩ ⟨rfl, rfl⟩ ⟨by show cells + 1 ≤ 601024; omega, by show slots + 6 ≤ 7293034; omega⟩ (fun H locs hrt hS => ?_)
    refine r_iload C dL_law_736 hl 1 rfl ?_
    refine r_icmp_eq C 743 ⟨by decide, by decide⟩ ⟨by decide, by decide⟩ dL_law_738 (by decide) (fun cq => ?_) (fun cq => absurd rfl cq)
    refine r_iload C dL_law_743 hl 1 rfl ?_
    refine r_if_ne C 760 ⟨by decide, by decide⟩ dL_law_745 (by decide) (fun cq => ?_) (fun cq => absurd cq (by decide))
    refine r_goto C 1891 dL_law_760 (by decide) ?_
    exact kk _ _ _ _ _ _ _ (by show cells + 1 ≤ cells + 1; omega) (by show slots + 6 ≤ slots + 6; omega) hS (lv_sub hl [2, 3, 4, 5, 6, 7] rfl)
  · refine r_aload_n C dL_law_695 rfl hl 4 rfl ?_
    refine r_aload_n C dL_law_696 rfl hl 5 rfl ?_
    refine r_iload C dL_law_697 hl 0 rfl ?_
    refine r_iconst C dL_law_699 ?_
    refine r_iadd C dL_law_700 ?_
    refine r_sld C A hS (i := i + 1) (v := p0) ⟨by omega, by omega⟩ ⟨by omega, by omega⟩ hx0 dL_law_701 ?_
    refine r_aload_n C dL_law_702 rfl hl 5 rfl ?_
    refine r_iload C dL_law_703 hl 0 rfl ?_
    refine r_iconst C dL_law_705 ?_
    refine r_iadd C dL_law_706 ?_
    refine r_sld C A hS (i := i + 2) (v := p1) ⟨by omega, by omega⟩ ⟨by omega, by omega⟩ hx1 dL_law_707 ?_
    refine r_aload_n C dL_law_708 rfl hl 2 rfl ?_
    refine rl_HL (n := 4) (As := [.ref (zC + 0), .int (jI p0), .int (jI p1), .ref zoL]) (rest := []) C A hS (w2_piece l hst (eRg E0 (PO zC zoL zE)) zC zoL fL hp0 hp1 hf) (gh_piece).1 (gh_piece).2.1 (gh_piece).2.2 ⟨by decide, by decide, by decide +kernel⟩ lk_L_134 dL_law_709 rfl rfl hl.1 (Nat.le_of_ble_eq_true rfl) ⟨Nat.le_of_ble_eq_true rfl, Nat.le_of_ble_eq_true rfl⟩ ⟨by show cells + 1 ≤ 601024; omega, by show slots + 6 ≤ 7293034; omega⟩ (fun H locs hrh hS => ?_)
    refine r_istore C [(6, .int (jI 2)), (5, .int (jI i)), (4, .ref zoD), (3, .ref zoL), (2, .ref (zR + 0)), (1, .ref (zC + 0)), (0, .ref b)] dL_law_712 hl (by decide) rfl (fun ls hl => ?_)
    refine r_aload_n C dL_law_714 rfl hl 4 rfl ?_
    refine r_aload_n C dL_law_715 rfl hl 6 rfl ?_
    refine r_iload C dL_law_716 hl 1 rfl ?_
    refine r_iconst C dL_law_718 ?_
    refine r_iadd C dL_law_719 ?_
    refine r_sld C A hS (i := i + 1) (v := p0) ⟨by omega, by omega⟩ ⟨by omega, by omega⟩ hx0 dL_law_720 ?_
    refine r_aload_n C dL_law_721 rfl hl 6 rfl ?_
    refine r_iload C dL_law_722 hl 1 rfl ?_
    refine r_iconst C dL_law_724 ?_
    refine r_iadd C dL_law_725 ?_
    refine r_sld C A hS (i := i + 2) (v := p1) ⟨by omega, by omega⟩ ⟨by omega, by omega⟩ hx1 dL_law_726 ?_
    refine rl_RI (As := [.int (jI p0), .int (jI p1)]) (rest := []) C A hS (fun E' => c_X11_piece l E' zR hp0 hp1 hfR) jy_X11_piece rfl lk_L_136 dL_law_727 rfl rfl hl.1 (Nat.le_of_ble_eq_true rfl) ⟨Nat.le_of_ble_eq_true rfl, Nat.le_of_ble_eq_true rfl⟩ ⟨rfl, rfl⟩ ⟨by show cells + 1 ≤ 601024; omega, by show slots + 6 ≤ 7293034; omega⟩ (fun H locs hrR hS => ?_)
    refine r_istore C [(7, .int (jI r)), (6, .int (jI 2)), (5, .int (jI i)), (4, .ref zoD), (3, .ref zoL), (2, .ref (zR + 0)), (1, .ref (zC + 0)), (0, .ref b)] dL_law_730 hl (by decide) rfl (fun ls hl => ?_)
    refine r_aload_n C dL_law_732 rfl hl 5 rfl ?_
    refine rl_RI (As := []) (rest := []) C A hS (fun E' => c_X11_thrown l E' zR (show f_X11_thrown Mr' = some 2 by show some (Mr' 0 7) = some _; rw [ht])) jy_X11_thrown rfl lk_L_99 dL_law_733 rfl rfl hl.1 (Nat.le_of_ble_eq_true rfl) ⟨Nat.le_of_ble_eq_true rfl, Nat.le_of_ble_eq_true rfl⟩ ⟨rfl, rfl⟩ ⟨by show cells + 1 ≤ 601024; omega, by show slots + 6 ≤ 7293034; omega⟩ (fun H locs hrt hS => ?_)
    refine r_iload C dL_law_736 hl 1 rfl ?_
    refine r_icmp_eq C 743 ⟨by decide, by decide⟩ ⟨by decide, by decide⟩ dL_law_738 (by decide) (fun cq => ?_) (fun cq => absurd rfl cq)
    refine r_iload C dL_law_743 hl 1 rfl ?_
    refine r_if_ne C 760 ⟨by decide, by decide⟩ dL_law_745 (by decide) (fun cq => ?_) (fun cq => absurd cq (by decide))
    refine r_goto C 1891 dL_law_760 (by decide) ?_
    exact kk _ _ _ _ _ _ _ (by show cells + 1 ≤ cells + 1; omega) (by show slots + 6 ≤ slots + 6; omega) hS (lv_sub hl [2, 3, 4, 5, 6, 7] rfl)
set_option maxRecDepth 100000 in
set_option maxHeartbeats 8000000 in
theorem lc_reel (hst : l.stackTraces = false) (C : Cx E0 p c cL_law 10 s args RL m) (A : LAt E0 b L xs zC zR zoL zoD zE s) {Mc Mr Mc' Mr' : Mem} {fL : Nat → Int64} {fD : Nat → UInt64} {H : Heap} {locs : List Loc} {ls : Array Slot} {cells slots : Nat} {i : Int} {p0 : Int} (hS : LStt E0 zC zR zoL zoD zE Mc Mr fL fD s H locs) (hi : 0 ≤ i ∧ i + 3 < (L : Int)) (hL : L ≤ 2048) (hx0 : xs (i + 1).toNat = jI p0) (hp0 : inR p0) (hl : lv_has ls 10 [(5, .int (jI i)), (4, .ref zoD), (3, .ref zoL), (2, .ref (zR + 0)), (1, .ref (zC + 0)), (0, .ref b)]) (hc : cells + 1 ≤ 601024 ∧ slots + 6 ≤ 7293034) (hstep : st_reel p0 Mc Mr Mc' Mr')
    (kk : ∀ (H1 : Heap) (locs1 : List Loc) (ls1 : Array Slot) (fL1 : Nat → Int64) (fD1 : Nat → UInt64) (c1 s1 : Nat), c1 ≤ cells + 1 → s1 ≤ slots + 6 → LStt E0 zC zR zoL zoD zE Mc' Mr' fL1 fD1 s H1 locs1 → lv_has ls1 10 [(5, .int (jI i)), (4, .ref zoD), (3, .ref zoL), (2, .ref (zR + 0)), (1, .ref (zC + 0)), (0, .ref b)] → W p l e room_1 s m args below meth c H1 locs1 c1 s1 Q (F0 m 1891 ls1 [])) : W p l e room_1 s m args below meth c H locs cells slots Q (F0 m 763 ls []) := by
  have hcR : cells + 1 ≤ room_1.cells := hc.1
  have hsR : slots + 6 ≤ room_1.slots := hc.2
  unfold st_reel at hstep
  rcases hstep with ⟨r, hf, rfl, hfR, ht⟩ | ⟨hf, r, hfR, ht⟩
  · refine r_aload_n C dL_law_763 rfl hl 4 rfl ?_
    refine r_aload_n C dL_law_764 rfl hl 5 rfl ?_
    refine r_iload C dL_law_765 hl 0 rfl ?_
    refine r_iconst C dL_law_767 ?_
    refine r_iadd C dL_law_768 ?_
    refine r_sld C A hS (i := i + 1) (v := p0) ⟨by omega, by omega⟩ ⟨by omega, by omega⟩ hx0 dL_law_769 ?_
    refine r_aload_n C dL_law_770 rfl hl 2 rfl ?_
    refine rl_HL (n := 3) (As := [.ref (zC + 0), .int (jI p0), .ref zoL]) (rest := []) C A hS (w_reel l (eRg E0 (PO zC zoL zE)) zC zoL fL hp0 hf) (gh_reel).1 (gh_reel).2.1 (gh_reel).2.2 ⟨by decide, by decide, by decide +kernel⟩ lk_L_137 dL_law_771 rfl rfl hl.1 (Nat.le_of_ble_eq_true rfl) ⟨Nat.le_of_ble_eq_true rfl, Nat.le_of_ble_eq_true rfl⟩ ⟨by show cells + 0 ≤ 601024; omega, by show slots + 0 ≤ 7293034; omega⟩ (fun H locs hrh hS => ?_)
    refine r_istore C [(6, .int (jI 0)), (5, .int (jI i)), (4, .ref zoD), (3, .ref zoL), (2, .ref (zR + 0)), (1, .ref (zC + 0)), (0, .ref b)] dL_law_774 hl (by decide) rfl (fun ls hl => ?_)
    refine r_aload_n C dL_law_776 rfl hl 4 rfl ?_
    refine r_aload_n C dL_law_777 rfl hl 6 rfl ?_
    refine r_iload C dL_law_778 hl 1 rfl ?_
    refine r_iconst C dL_law_780 ?_
    refine r_iadd C dL_law_781 ?_
    refine r_sld C A hS (i := i + 1) (v := p0) ⟨by omega, by omega⟩ ⟨by omega, by omega⟩ hx0 dL_law_782 ?_
    refine rl_RI (As := [.int (jI p0)]) (rest := []) C A hS (fun E' => c_X11_reel l E' zR hp0 hfR) jy_X11_reel rfl lk_L_139 dL_law_783 rfl rfl hl.1 (Nat.le_of_ble_eq_true rfl) ⟨Nat.le_of_ble_eq_true rfl, Nat.le_of_ble_eq_true rfl⟩ ⟨rfl, rfl⟩ ⟨by show cells + 0 ≤ 601024; omega, by show slots + 0 ≤ 7293034; omega⟩ (fun H locs hrR hS => ?_)
    refine r_istore C [(7, .int (jI r)), (6, .int (jI 0)), (5, .int (jI i)), (4, .ref zoD), (3, .ref zoL), (2, .ref (zR + 0)), (1, .ref (zC + 0)), (0, .ref b)] dL_law_786 hl (by decide) rfl (fun ls hl => ?_)
    refine r_aload_n C dL_law_788 rfl hl 5 rfl ?_
    refine rl_RI (As := []) (rest := []) C A hS (fun E' => c_X11_thrown l E' zR (show f_X11_thrown Mr' = some 0 by show some (Mr' 0 7) = some _; rw [ht])) jy_X11_thrown rfl lk_L_99 dL_law_789 rfl rfl hl.1 (Nat.le_of_ble_eq_true rfl) ⟨Nat.le_of_ble_eq_true rfl, Nat.le_of_ble_eq_true rfl⟩ ⟨rfl, rfl⟩ ⟨by show cells + 0 ≤ 601024; omega, by show slots + 0 ≤ 7293034; omega⟩ (fun H locs hrt hS => ?_)
    refine r_iload C dL_law_792 hl 1 rfl ?_
    refine r_icmp_eq C 799 ⟨by decide, by decide⟩ ⟨by decide, by decide⟩ dL_law_794 (by decide) (fun cq => ?_) (fun cq => absurd rfl cq)
    refine r_iload C dL_law_799 hl 1 rfl ?_
    refine r_if_ne C 816 ⟨by decide, by decide⟩ dL_law_801 (by decide) (fun cq => absurd rfl cq) (fun cq => ?_)
    refine r_aload_n C dL_law_804 rfl hl 4 rfl ?_
    refine r_iconst C dL_law_805 ?_
    refine r_lald C hS dL_law_806 ?_
    refine r_iload C dL_law_807 hl 0 rfl ?_
    refine lv_i2l C.1.1 C.1.2.1 dL_law_809 rfl ?_
    refine r_lcmpE C (by simp [vp_updL]) dL_law_810 ?_
    refine r_if_eq C 816 ⟨by decide, by decide⟩ dL_law_811 (by decide) (fun cq => ?_) (fun cq => absurd rfl cq)
    refine r_goto C 1891 dL_law_816 (by decide) ?_
    exact kk _ _ _ _ _ _ _ (by show cells + 0 ≤ cells + 1; omega) (by show slots + 0 ≤ slots + 6; omega) hS (lv_sub hl [2, 3, 4, 5, 6, 7] rfl)
  · refine r_aload_n C dL_law_763 rfl hl 4 rfl ?_
    refine r_aload_n C dL_law_764 rfl hl 5 rfl ?_
    refine r_iload C dL_law_765 hl 0 rfl ?_
    refine r_iconst C dL_law_767 ?_
    refine r_iadd C dL_law_768 ?_
    refine r_sld C A hS (i := i + 1) (v := p0) ⟨by omega, by omega⟩ ⟨by omega, by omega⟩ hx0 dL_law_769 ?_
    refine r_aload_n C dL_law_770 rfl hl 2 rfl ?_
    refine rl_HL (n := 3) (As := [.ref (zC + 0), .int (jI p0), .ref zoL]) (rest := []) C A hS (w1_reel l hst (eRg E0 (PO zC zoL zE)) zC zoL fL hp0 hf) (gh_reel).1 (gh_reel).2.1 (gh_reel).2.2 ⟨by decide, by decide, by decide +kernel⟩ lk_L_137 dL_law_771 rfl rfl hl.1 (Nat.le_of_ble_eq_true rfl) ⟨Nat.le_of_ble_eq_true rfl, Nat.le_of_ble_eq_true rfl⟩ ⟨by show cells + 1 ≤ 601024; omega, by show slots + 6 ≤ 7293034; omega⟩ (fun H locs hrh hS => ?_)
    refine r_istore C [(6, .int (jI 1)), (5, .int (jI i)), (4, .ref zoD), (3, .ref zoL), (2, .ref (zR + 0)), (1, .ref (zC + 0)), (0, .ref b)] dL_law_774 hl (by decide) rfl (fun ls hl => ?_)
    refine r_aload_n C dL_law_776 rfl hl 4 rfl ?_
    refine r_aload_n C dL_law_777 rfl hl 6 rfl ?_
    refine r_iload C dL_law_778 hl 1 rfl ?_
    refine r_iconst C dL_law_780 ?_
    refine r_iadd C dL_law_781 ?_
    refine r_sld C A hS (i := i + 1) (v := p0) ⟨by omega, by omega⟩ ⟨by omega, by omega⟩ hx0 dL_law_782 ?_
    refine rl_RI (As := [.int (jI p0)]) (rest := []) C A hS (fun E' => c_X11_reel l E' zR hp0 hfR) jy_X11_reel rfl lk_L_139 dL_law_783 rfl rfl hl.1 (Nat.le_of_ble_eq_true rfl) ⟨Nat.le_of_ble_eq_true rfl, Nat.le_of_ble_eq_true rfl⟩ ⟨rfl, rfl⟩ ⟨by show cells + 1 ≤ 601024; omega, by show slots + 6 ≤ 7293034; omega⟩ (fun H locs hrR hS => ?_)
    refine r_istore C [(7, .int (jI r)), (6, .int (jI 1)), (5, .int (jI i)), (4, .ref zoD), (3, .ref zoL), (2, .ref (zR + 0)), (1, .ref (zC + 0)), (0, .ref b)] dL_law_786 hl (by decide) rfl (fun ls hl => ?_)
    refine r_aload_n C dL_law_788 rfl hl 5 rfl ?_
    refine rl_RI (As := []) (rest := []) C A hS (fun E' => c_X11_thrown l E' zR (show f_X11_thrown Mr' = some 1 by show some (Mr' 0 7) = some _; rw [ht])) jy_X11_thrown rfl lk_L_99 dL_law_789 rfl rfl hl.1 (Nat.le_of_ble_eq_true rfl) ⟨Nat.le_of_ble_eq_true rfl, Nat.le_of_ble_eq_true rfl⟩ ⟨rfl, rfl⟩ ⟨by show cells + 1 ≤ 601024; omega, by show slots + 6 ≤ 7293034; omega⟩ (fun H locs hrt hS => ?_)
    refine r_iload C dL_law_792 hl 1 rfl ?_
    refine r_icmp_eq C 799 ⟨by decide, by decide⟩ ⟨by decide, by decide⟩ dL_law_794 (by decide) (fun cq => ?_) (fun cq => absurd rfl cq)
    refine r_iload C dL_law_799 hl 1 rfl ?_
    refine r_if_ne C 816 ⟨by decide, by decide⟩ dL_law_801 (by decide) (fun cq => ?_) (fun cq => absurd cq (by decide))
    refine r_goto C 1891 dL_law_816 (by decide) ?_
    exact kk _ _ _ _ _ _ _ (by show cells + 1 ≤ cells + 1; omega) (by show slots + 6 ≤ slots + 6; omega) hS (lv_sub hl [2, 3, 4, 5, 6, 7] rfl)
set_option maxRecDepth 100000 in
set_option maxHeartbeats 8000000 in
theorem lc_screen (hst : l.stackTraces = false) (C : Cx E0 p c cL_law 10 s args RL m) (A : LAt E0 b L xs zC zR zoL zoD zE s) {Mc Mr Mc' Mr' : Mem} {fL : Nat → Int64} {fD : Nat → UInt64} {H : Heap} {locs : List Loc} {ls : Array Slot} {cells slots : Nat} {i : Int} {p0 : Int} (hS : LStt E0 zC zR zoL zoD zE Mc Mr fL fD s H locs) (hi : 0 ≤ i ∧ i + 3 < (L : Int)) (hL : L ≤ 2048) (hx0 : xs (i + 1).toNat = jI p0) (hp0 : inR p0) (hl : lv_has ls 10 [(5, .int (jI i)), (4, .ref zoD), (3, .ref zoL), (2, .ref (zR + 0)), (1, .ref (zC + 0)), (0, .ref b)]) (hc : cells + 1 ≤ 601024 ∧ slots + 6 ≤ 7293034) (hstep : st_screen p0 Mc Mr Mc' Mr')
    (kk : ∀ (H1 : Heap) (locs1 : List Loc) (ls1 : Array Slot) (fL1 : Nat → Int64) (fD1 : Nat → UInt64) (c1 s1 : Nat), c1 ≤ cells + 1 → s1 ≤ slots + 6 → LStt E0 zC zR zoL zoD zE Mc' Mr' fL1 fD1 s H1 locs1 → lv_has ls1 10 [(5, .int (jI i)), (4, .ref zoD), (3, .ref zoL), (2, .ref (zR + 0)), (1, .ref (zC + 0)), (0, .ref b)] → W p l e room_1 s m args below meth c H1 locs1 c1 s1 Q (F0 m 1891 ls1 [])) : W p l e room_1 s m args below meth c H locs cells slots Q (F0 m 819 ls []) := by
  have hcR : cells + 1 ≤ room_1.cells := hc.1
  have hsR : slots + 6 ≤ room_1.slots := hc.2
  unfold st_screen at hstep
  obtain ⟨r, hf, rfl, hfR⟩ := hstep
  refine r_aload_n C dL_law_819 rfl hl 4 rfl ?_
  refine r_aload_n C dL_law_820 rfl hl 5 rfl ?_
  refine r_iload C dL_law_821 hl 0 rfl ?_
  refine r_iconst C dL_law_823 ?_
  refine r_iadd C dL_law_824 ?_
  refine r_sld C A hS (i := i + 1) (v := p0) ⟨by omega, by omega⟩ ⟨by omega, by omega⟩ hx0 dL_law_825 ?_
  refine rl_CI (As := [.int (jI p0)]) (rest := []) C A hS (fun E' => c_X10_screen l E' zC hp0 hf) jy_X10_screen rfl lk_L_140 dL_law_826 rfl rfl hl.1 (Nat.le_of_ble_eq_true rfl) ⟨Nat.le_of_ble_eq_true rfl, Nat.le_of_ble_eq_true rfl⟩ ⟨rfl, rfl⟩ ⟨by show cells ≤ 601024; omega, by show slots ≤ 7293034; omega⟩ (fun H locs hrC hS => ?_)
  refine r_aload_n C dL_law_829 rfl hl 3 rfl ?_
  refine r_aload_n C dL_law_830 rfl hl 5 rfl ?_
  refine r_iload C dL_law_831 hl 0 rfl ?_
  refine r_iconst C dL_law_833 ?_
  refine r_iadd C dL_law_834 ?_
  refine r_sld C A hS (i := i + 1) (v := p0) ⟨by omega, by omega⟩ ⟨by omega, by omega⟩ hx0 dL_law_835 ?_
  refine rl_RI (As := [.int (jI p0)]) (rest := [.int (jI r)]) C A hS (fun E' => c_X11_screen l E' zR hp0 hfR) jy_X11_screen rfl lk_L_143 dL_law_836 rfl rfl hl.1 (Nat.le_of_ble_eq_true rfl) ⟨Nat.le_of_ble_eq_true rfl, Nat.le_of_ble_eq_true rfl⟩ ⟨rfl, rfl⟩ ⟨by show cells ≤ 601024; omega, by show slots ≤ 7293034; omega⟩ (fun H locs hrR hS => ?_)
  refine r_icmp_eq C 1891 hrC hrC dL_law_839 (by decide) (fun cq => ?_) (fun cq => absurd rfl cq)
  exact kk _ _ _ _ _ _ _ (by omega) (by omega) hS (lv_sub hl [0, 1, 2, 3, 4, 5] rfl)
set_option maxRecDepth 100000 in
set_option maxHeartbeats 8000000 in
theorem lc_spoken (hst : l.stackTraces = false) (C : Cx E0 p c cL_law 10 s args RL m) (A : LAt E0 b L xs zC zR zoL zoD zE s) {Mc Mr Mc' Mr' : Mem} {fL : Nat → Int64} {fD : Nat → UInt64} {H : Heap} {locs : List Loc} {ls : Array Slot} {cells slots : Nat} {i : Int} {p0 : Int} (hS : LStt E0 zC zR zoL zoD zE Mc Mr fL fD s H locs) (hi : 0 ≤ i ∧ i + 3 < (L : Int)) (hL : L ≤ 2048) (hx0 : xs (i + 1).toNat = jI p0) (hp0 : inR p0) (hl : lv_has ls 10 [(5, .int (jI i)), (4, .ref zoD), (3, .ref zoL), (2, .ref (zR + 0)), (1, .ref (zC + 0)), (0, .ref b)]) (hc : cells + 1 ≤ 601024 ∧ slots + 6 ≤ 7293034) (hstep : st_spoken p0 Mc Mr Mc' Mr')
    (kk : ∀ (H1 : Heap) (locs1 : List Loc) (ls1 : Array Slot) (fL1 : Nat → Int64) (fD1 : Nat → UInt64) (c1 s1 : Nat), c1 ≤ cells + 1 → s1 ≤ slots + 6 → LStt E0 zC zR zoL zoD zE Mc' Mr' fL1 fD1 s H1 locs1 → lv_has ls1 10 [(5, .int (jI i)), (4, .ref zoD), (3, .ref zoL), (2, .ref (zR + 0)), (1, .ref (zC + 0)), (0, .ref b)] → W p l e room_1 s m args below meth c H1 locs1 c1 s1 Q (F0 m 1891 ls1 [])) : W p l e room_1 s m args below meth c H locs cells slots Q (F0 m 844 ls []) := by
  have hcR : cells + 1 ≤ room_1.cells := hc.1
  have hsR : slots + 6 ≤ room_1.slots := hc.2
  unfold st_spoken at hstep
  obtain ⟨r, hf, rfl, hfR⟩ := hstep
  refine r_aload_n C dL_law_844 rfl hl 4 rfl ?_
  refine r_aload_n C dL_law_845 rfl hl 5 rfl ?_
  refine r_iload C dL_law_846 hl 0 rfl ?_
  refine r_iconst C dL_law_848 ?_
  refine r_iadd C dL_law_849 ?_
  refine r_sld C A hS (i := i + 1) (v := p0) ⟨by omega, by omega⟩ ⟨by omega, by omega⟩ hx0 dL_law_850 ?_
  refine rl_CI (As := [.int (jI p0)]) (rest := []) C A hS (fun E' => c_X10_spoken l E' zC hp0 hf) jy_X10_spoken rfl lk_L_144 dL_law_851 rfl rfl hl.1 (Nat.le_of_ble_eq_true rfl) ⟨Nat.le_of_ble_eq_true rfl, Nat.le_of_ble_eq_true rfl⟩ ⟨rfl, rfl⟩ ⟨by show cells ≤ 601024; omega, by show slots ≤ 7293034; omega⟩ (fun H locs hrC hS => ?_)
  refine r_aload_n C dL_law_854 rfl hl 3 rfl ?_
  refine r_aload_n C dL_law_855 rfl hl 5 rfl ?_
  refine r_iload C dL_law_856 hl 0 rfl ?_
  refine r_iconst C dL_law_858 ?_
  refine r_iadd C dL_law_859 ?_
  refine r_sld C A hS (i := i + 1) (v := p0) ⟨by omega, by omega⟩ ⟨by omega, by omega⟩ hx0 dL_law_860 ?_
  refine rl_RI (As := [.int (jI p0)]) (rest := [.int (jI r)]) C A hS (fun E' => c_X11_spoken l E' zR hp0 hfR) jy_X11_spoken rfl lk_L_147 dL_law_861 rfl rfl hl.1 (Nat.le_of_ble_eq_true rfl) ⟨Nat.le_of_ble_eq_true rfl, Nat.le_of_ble_eq_true rfl⟩ ⟨rfl, rfl⟩ ⟨by show cells ≤ 601024; omega, by show slots ≤ 7293034; omega⟩ (fun H locs hrR hS => ?_)
  refine r_icmp_eq C 1891 hrC hrC dL_law_864 (by decide) (fun cq => ?_) (fun cq => absurd rfl cq)
  exact kk _ _ _ _ _ _ _ (by omega) (by omega) hS (lv_sub hl [0, 1, 2, 3, 4, 5] rfl)
set_option maxRecDepth 100000 in
set_option maxHeartbeats 8000000 in
theorem lc_account (hst : l.stackTraces = false) (C : Cx E0 p c cL_law 10 s args RL m) (A : LAt E0 b L xs zC zR zoL zoD zE s) {Mc Mr Mc' Mr' : Mem} {fL : Nat → Int64} {fD : Nat → UInt64} {H : Heap} {locs : List Loc} {ls : Array Slot} {cells slots : Nat} {i : Int} {p0 : Int} (hS : LStt E0 zC zR zoL zoD zE Mc Mr fL fD s H locs) (hi : 0 ≤ i ∧ i + 3 < (L : Int)) (hL : L ≤ 2048) (hx0 : xs (i + 1).toNat = jI p0) (hp0 : inR p0) (hl : lv_has ls 10 [(5, .int (jI i)), (4, .ref zoD), (3, .ref zoL), (2, .ref (zR + 0)), (1, .ref (zC + 0)), (0, .ref b)]) (hc : cells + 1 ≤ 601024 ∧ slots + 6 ≤ 7293034) (hstep : st_account p0 Mc Mr Mc' Mr')
    (kk : ∀ (H1 : Heap) (locs1 : List Loc) (ls1 : Array Slot) (fL1 : Nat → Int64) (fD1 : Nat → UInt64) (c1 s1 : Nat), c1 ≤ cells + 1 → s1 ≤ slots + 6 → LStt E0 zC zR zoL zoD zE Mc' Mr' fL1 fD1 s H1 locs1 → lv_has ls1 10 [(5, .int (jI i)), (4, .ref zoD), (3, .ref zoL), (2, .ref (zR + 0)), (1, .ref (zC + 0)), (0, .ref b)] → W p l e room_1 s m args below meth c H1 locs1 c1 s1 Q (F0 m 1891 ls1 [])) : W p l e room_1 s m args below meth c H locs cells slots Q (F0 m 869 ls []) := by
  have hcR : cells + 1 ≤ room_1.cells := hc.1
  have hsR : slots + 6 ≤ room_1.slots := hc.2
  unfold st_account at hstep
  rcases hstep with ⟨r, hf, rfl, hfR, ht⟩ | ⟨hf, r, hfR, ht⟩
  · refine r_aload_n C dL_law_869 rfl hl 4 rfl ?_
    refine r_aload_n C dL_law_870 rfl hl 5 rfl ?_
    refine r_iload C dL_law_871 hl 0 rfl ?_
    refine r_iconst C dL_law_873 ?_
    refine r_iadd C dL_law_874 ?_
    refine r_sld C A hS (i := i + 1) (v := p0) ⟨by omega, by omega⟩ ⟨by omega, by omega⟩ hx0 dL_law_875 ?_
    refine r_aload_n C dL_law_876 rfl hl 2 rfl ?_
    refine rl_HL (n := 3) (As := [.ref (zC + 0), .int (jI p0), .ref zoL]) (rest := []) C A hS (w_account l (eRg E0 (PO zC zoL zE)) zC zoL fL hp0 hf) (gh_account).1 (gh_account).2.1 (gh_account).2.2 ⟨by decide, by decide, by decide +kernel⟩ lk_L_148 dL_law_877 rfl rfl hl.1 (Nat.le_of_ble_eq_true rfl) ⟨Nat.le_of_ble_eq_true rfl, Nat.le_of_ble_eq_true rfl⟩ ⟨by show cells + 0 ≤ 601024; omega, by show slots + 0 ≤ 7293034; omega⟩ (fun H locs hrh hS => ?_)
    refine r_istore C [(6, .int (jI 0)), (5, .int (jI i)), (4, .ref zoD), (3, .ref zoL), (2, .ref (zR + 0)), (1, .ref (zC + 0)), (0, .ref b)] dL_law_880 hl (by decide) rfl (fun ls hl => ?_)
    refine r_aload_n C dL_law_882 rfl hl 4 rfl ?_
    refine r_aload_n C dL_law_883 rfl hl 6 rfl ?_
    refine r_iload C dL_law_884 hl 1 rfl ?_
    refine r_iconst C dL_law_886 ?_
    refine r_iadd C dL_law_887 ?_
    refine r_sld C A hS (i := i + 1) (v := p0) ⟨by omega, by omega⟩ ⟨by omega, by omega⟩ hx0 dL_law_888 ?_
    refine rl_RI (As := [.int (jI p0)]) (rest := []) C A hS (fun E' => c_X11_account l E' zR hp0 hfR) jy_X11_account rfl lk_L_150 dL_law_889 rfl rfl hl.1 (Nat.le_of_ble_eq_true rfl) ⟨Nat.le_of_ble_eq_true rfl, Nat.le_of_ble_eq_true rfl⟩ ⟨rfl, rfl⟩ ⟨by show cells + 0 ≤ 601024; omega, by show slots + 0 ≤ 7293034; omega⟩ (fun H locs hrR hS => ?_)
    refine r_istore C [(7, .int (jI r)), (6, .int (jI 0)), (5, .int (jI i)), (4, .ref zoD), (3, .ref zoL), (2, .ref (zR + 0)), (1, .ref (zC + 0)), (0, .ref b)] dL_law_892 hl (by decide) rfl (fun ls hl => ?_)
    refine r_aload_n C dL_law_894 rfl hl 5 rfl ?_
    refine rl_RI (As := []) (rest := []) C A hS (fun E' => c_X11_thrown l E' zR (show f_X11_thrown Mr' = some 0 by show some (Mr' 0 7) = some _; rw [ht])) jy_X11_thrown rfl lk_L_99 dL_law_895 rfl rfl hl.1 (Nat.le_of_ble_eq_true rfl) ⟨Nat.le_of_ble_eq_true rfl, Nat.le_of_ble_eq_true rfl⟩ ⟨rfl, rfl⟩ ⟨by show cells + 0 ≤ 601024; omega, by show slots + 0 ≤ 7293034; omega⟩ (fun H locs hrt hS => ?_)
    refine r_iload C dL_law_898 hl 1 rfl ?_
    refine r_icmp_eq C 905 ⟨by decide, by decide⟩ ⟨by decide, by decide⟩ dL_law_900 (by decide) (fun cq => ?_) (fun cq => absurd rfl cq)
    refine r_iload C dL_law_905 hl 1 rfl ?_
    refine r_if_ne C 922 ⟨by decide, by decide⟩ dL_law_907 (by decide) (fun cq => absurd rfl cq) (fun cq => ?_)
    refine r_aload_n C dL_law_910 rfl hl 4 rfl ?_
    refine r_iconst C dL_law_911 ?_
    refine r_lald C hS dL_law_912 ?_
    refine r_iload C dL_law_913 hl 0 rfl ?_
    refine lv_i2l C.1.1 C.1.2.1 dL_law_915 rfl ?_
    refine r_lcmpE C (by simp [vp_updL]) dL_law_916 ?_
    refine r_if_eq C 922 ⟨by decide, by decide⟩ dL_law_917 (by decide) (fun cq => ?_) (fun cq => absurd rfl cq)
    refine r_goto C 1891 dL_law_922 (by decide) ?_
    exact kk _ _ _ _ _ _ _ (by show cells + 0 ≤ cells + 1; omega) (by show slots + 0 ≤ slots + 6; omega) hS (lv_sub hl [2, 3, 4, 5, 6, 7] rfl)
  · refine r_aload_n C dL_law_869 rfl hl 4 rfl ?_
    refine r_aload_n C dL_law_870 rfl hl 5 rfl ?_
    refine r_iload C dL_law_871 hl 0 rfl ?_
    refine r_iconst C dL_law_873 ?_
    refine r_iadd C dL_law_874 ?_
    refine r_sld C A hS (i := i + 1) (v := p0) ⟨by omega, by omega⟩ ⟨by omega, by omega⟩ hx0 dL_law_875 ?_
    refine r_aload_n C dL_law_876 rfl hl 2 rfl ?_
    refine rl_HL (n := 3) (As := [.ref (zC + 0), .int (jI p0), .ref zoL]) (rest := []) C A hS (w1_account l hst (eRg E0 (PO zC zoL zE)) zC zoL fL hp0 hf) (gh_account).1 (gh_account).2.1 (gh_account).2.2 ⟨by decide, by decide, by decide +kernel⟩ lk_L_148 dL_law_877 rfl rfl hl.1 (Nat.le_of_ble_eq_true rfl) ⟨Nat.le_of_ble_eq_true rfl, Nat.le_of_ble_eq_true rfl⟩ ⟨by show cells + 1 ≤ 601024; omega, by show slots + 6 ≤ 7293034; omega⟩ (fun H locs hrh hS => ?_)
    refine r_istore C [(6, .int (jI 1)), (5, .int (jI i)), (4, .ref zoD), (3, .ref zoL), (2, .ref (zR + 0)), (1, .ref (zC + 0)), (0, .ref b)] dL_law_880 hl (by decide) rfl (fun ls hl => ?_)
    refine r_aload_n C dL_law_882 rfl hl 4 rfl ?_
    refine r_aload_n C dL_law_883 rfl hl 6 rfl ?_
    refine r_iload C dL_law_884 hl 1 rfl ?_
    refine r_iconst C dL_law_886 ?_
    refine r_iadd C dL_law_887 ?_
    refine r_sld C A hS (i := i + 1) (v := p0) ⟨by omega, by omega⟩ ⟨by omega, by omega⟩ hx0 dL_law_888 ?_
    refine rl_RI (As := [.int (jI p0)]) (rest := []) C A hS (fun E' => c_X11_account l E' zR hp0 hfR) jy_X11_account rfl lk_L_150 dL_law_889 rfl rfl hl.1 (Nat.le_of_ble_eq_true rfl) ⟨Nat.le_of_ble_eq_true rfl, Nat.le_of_ble_eq_true rfl⟩ ⟨rfl, rfl⟩ ⟨by show cells + 1 ≤ 601024; omega, by show slots + 6 ≤ 7293034; omega⟩ (fun H locs hrR hS => ?_)
    refine r_istore C [(7, .int (jI r)), (6, .int (jI 1)), (5, .int (jI i)), (4, .ref zoD), (3, .ref zoL), (2, .ref (zR + 0)), (1, .ref (zC + 0)), (0, .ref b)] dL_law_892 hl (by decide) rfl (fun ls hl => ?_)
    refine r_aload_n C dL_law_894 rfl hl 5 rfl ?_
    refine rl_RI (As := []) (rest := []) C A hS (fun E' => c_X11_thrown l E' zR (show f_X11_thrown Mr' = some 1 by show some (Mr' 0 7) = some _; rw [ht])) jy_X11_thrown rfl lk_L_99 dL_law_895 rfl rfl hl.1 (Nat.le_of_ble_eq_true rfl) ⟨Nat.le_of_ble_eq_true rfl, Nat.le_of_ble_eq_true rfl⟩ ⟨rfl, rfl⟩ ⟨by show cells + 1 ≤ 601024; omega, by show slots + 6 ≤ 7293034; omega⟩ (fun H locs hrt hS => ?_)
    refine r_iload C dL_law_898 hl 1 rfl ?_
    refine r_icmp_eq C 905 ⟨by decide, by decide⟩ ⟨by decide, by decide⟩ dL_law_900 (by decide) (fun cq => ?_) (fun cq => absurd rfl cq)
    refine r_iload C dL_law_905 hl 1 rfl ?_
    refine r_if_ne C 922 ⟨by decide, by decide⟩ dL_law_907 (by decide) (fun cq => ?_) (fun cq => absurd cq (by decide))
    refine r_goto C 1891 dL_law_922 (by decide) ?_
    exact kk _ _ _ _ _ _ _ (by show cells + 1 ≤ cells + 1; omega) (by show slots + 6 ≤ slots + 6; omega) hS (lv_sub hl [2, 3, 4, 5, 6, 7] rfl)
set_option maxRecDepth 100000 in
set_option maxHeartbeats 8000000 in
theorem lc_faults (hst : l.stackTraces = false) (C : Cx E0 p c cL_law 10 s args RL m) (A : LAt E0 b L xs zC zR zoL zoD zE s) {Mc Mr Mc' Mr' : Mem} {fL : Nat → Int64} {fD : Nat → UInt64} {H : Heap} {locs : List Loc} {ls : Array Slot} {cells slots : Nat} {i : Int} {p0 : Int} (hS : LStt E0 zC zR zoL zoD zE Mc Mr fL fD s H locs) (hi : 0 ≤ i ∧ i + 3 < (L : Int)) (hL : L ≤ 2048) (hx0 : xs (i + 1).toNat = jI p0) (hp0 : inR p0) (hl : lv_has ls 10 [(5, .int (jI i)), (4, .ref zoD), (3, .ref zoL), (2, .ref (zR + 0)), (1, .ref (zC + 0)), (0, .ref b)]) (hc : cells + 1 ≤ 601024 ∧ slots + 6 ≤ 7293034) (hstep : st_faults p0 Mc Mr Mc' Mr')
    (kk : ∀ (H1 : Heap) (locs1 : List Loc) (ls1 : Array Slot) (fL1 : Nat → Int64) (fD1 : Nat → UInt64) (c1 s1 : Nat), c1 ≤ cells + 1 → s1 ≤ slots + 6 → LStt E0 zC zR zoL zoD zE Mc' Mr' fL1 fD1 s H1 locs1 → lv_has ls1 10 [(5, .int (jI i)), (4, .ref zoD), (3, .ref zoL), (2, .ref (zR + 0)), (1, .ref (zC + 0)), (0, .ref b)] → W p l e room_1 s m args below meth c H1 locs1 c1 s1 Q (F0 m 1891 ls1 [])) : W p l e room_1 s m args below meth c H locs cells slots Q (F0 m 925 ls []) := by
  have hcR : cells + 1 ≤ room_1.cells := hc.1
  have hsR : slots + 6 ≤ room_1.slots := hc.2
  unfold st_faults at hstep
  rcases hstep with ⟨r, hf, hfR, ht⟩ | ⟨hf, r, hfR, ht⟩
  · refine r_aload_n C dL_law_925 rfl hl 4 rfl ?_
    refine r_aload_n C dL_law_926 rfl hl 5 rfl ?_
    refine r_iload C dL_law_927 hl 0 rfl ?_
    refine r_iconst C dL_law_929 ?_
    refine r_iadd C dL_law_930 ?_
    refine r_sld C A hS (i := i + 1) (v := p0) ⟨by omega, by omega⟩ ⟨by omega, by omega⟩ hx0 dL_law_931 ?_
    refine r_aload_n C dL_law_932 rfl hl 2 rfl ?_
    refine rl_HL (n := 3) (As := [.ref (zC + 0), .int (jI p0), .ref zoL]) (rest := []) C A hS (w_faults l (eRg E0 (PO zC zoL zE)) zC zoL fL hp0 hf) (gh_faults).1 (gh_faults).2.1 (gh_faults).2.2 ⟨by decide, by decide, by decide +kernel⟩ lk_L_151 dL_law_933 rfl rfl hl.1 (Nat.le_of_ble_eq_true rfl) ⟨Nat.le_of_ble_eq_true rfl, Nat.le_of_ble_eq_true rfl⟩ ⟨by show cells + 0 ≤ 601024; omega, by show slots + 0 ≤ 7293034; omega⟩ (fun H locs hrh hS => ?_)
    refine r_istore C [(6, .int (jI 0)), (5, .int (jI i)), (4, .ref zoD), (3, .ref zoL), (2, .ref (zR + 0)), (1, .ref (zC + 0)), (0, .ref b)] dL_law_936 hl (by decide) rfl (fun ls hl => ?_)
    refine r_aload_n C dL_law_938 rfl hl 4 rfl ?_
    refine r_aload_n C dL_law_939 rfl hl 6 rfl ?_
    refine r_iload C dL_law_940 hl 1 rfl ?_
    refine r_iconst C dL_law_942 ?_
    refine r_iadd C dL_law_943 ?_
    refine r_sld C A hS (i := i + 1) (v := p0) ⟨by omega, by omega⟩ ⟨by omega, by omega⟩ hx0 dL_law_944 ?_
    refine rl_RI (As := [.int (jI p0)]) (rest := []) C A hS (fun E' => c_X11_faults l E' zR hp0 hfR) jy_X11_faults rfl lk_L_153 dL_law_945 rfl rfl hl.1 (Nat.le_of_ble_eq_true rfl) ⟨Nat.le_of_ble_eq_true rfl, Nat.le_of_ble_eq_true rfl⟩ ⟨rfl, rfl⟩ ⟨by show cells + 0 ≤ 601024; omega, by show slots + 0 ≤ 7293034; omega⟩ (fun H locs hrR hS => ?_)
    refine r_istore C [(7, .int (jI r)), (6, .int (jI 0)), (5, .int (jI i)), (4, .ref zoD), (3, .ref zoL), (2, .ref (zR + 0)), (1, .ref (zC + 0)), (0, .ref b)] dL_law_948 hl (by decide) rfl (fun ls hl => ?_)
    refine r_aload_n C dL_law_950 rfl hl 5 rfl ?_
    refine rl_RI (As := []) (rest := []) C A hS (fun E' => c_X11_thrown l E' zR (show f_X11_thrown Mr' = some 0 by show some (Mr' 0 7) = some _; rw [ht])) jy_X11_thrown rfl lk_L_99 dL_law_951 rfl rfl hl.1 (Nat.le_of_ble_eq_true rfl) ⟨Nat.le_of_ble_eq_true rfl, Nat.le_of_ble_eq_true rfl⟩ ⟨rfl, rfl⟩ ⟨by show cells + 0 ≤ 601024; omega, by show slots + 0 ≤ 7293034; omega⟩ (fun H locs hrt hS => ?_)
    refine r_iload C dL_law_954 hl 1 rfl ?_
    refine r_icmp_eq C 961 ⟨by decide, by decide⟩ ⟨by decide, by decide⟩ dL_law_956 (by decide) (fun cq => ?_) (fun cq => absurd rfl cq)
    refine r_iload C dL_law_961 hl 1 rfl ?_
    refine r_if_ne C 978 ⟨by decide, by decide⟩ dL_law_963 (by decide) (fun cq => absurd rfl cq) (fun cq => ?_)
    refine r_aload_n C dL_law_966 rfl hl 4 rfl ?_
    refine r_iconst C dL_law_967 ?_
    refine r_lald C hS dL_law_968 ?_
    refine r_iload C dL_law_969 hl 0 rfl ?_
    refine lv_i2l C.1.1 C.1.2.1 dL_law_971 rfl ?_
    refine r_lcmpE C (by simp [vp_updL]) dL_law_972 ?_
    refine r_if_eq C 978 ⟨by decide, by decide⟩ dL_law_973 (by decide) (fun cq => ?_) (fun cq => absurd rfl cq)
    refine r_goto C 1891 dL_law_978 (by decide) ?_
    exact kk _ _ _ _ _ _ _ (by show cells + 0 ≤ cells + 1; omega) (by show slots + 0 ≤ slots + 6; omega) hS (lv_sub hl [2, 3, 4, 5, 6, 7] rfl)
  · refine r_aload_n C dL_law_925 rfl hl 4 rfl ?_
    refine r_aload_n C dL_law_926 rfl hl 5 rfl ?_
    refine r_iload C dL_law_927 hl 0 rfl ?_
    refine r_iconst C dL_law_929 ?_
    refine r_iadd C dL_law_930 ?_
    refine r_sld C A hS (i := i + 1) (v := p0) ⟨by omega, by omega⟩ ⟨by omega, by omega⟩ hx0 dL_law_931 ?_
    refine r_aload_n C dL_law_932 rfl hl 2 rfl ?_
    refine rl_HL (n := 3) (As := [.ref (zC + 0), .int (jI p0), .ref zoL]) (rest := []) C A hS (w1_faults l hst (eRg E0 (PO zC zoL zE)) zC zoL fL hp0 hf) (gh_faults).1 (gh_faults).2.1 (gh_faults).2.2 ⟨by decide, by decide, by decide +kernel⟩ lk_L_151 dL_law_933 rfl rfl hl.1 (Nat.le_of_ble_eq_true rfl) ⟨Nat.le_of_ble_eq_true rfl, Nat.le_of_ble_eq_true rfl⟩ ⟨by show cells + 1 ≤ 601024; omega, by show slots + 6 ≤ 7293034; omega⟩ (fun H locs hrh hS => ?_)
    refine r_istore C [(6, .int (jI 1)), (5, .int (jI i)), (4, .ref zoD), (3, .ref zoL), (2, .ref (zR + 0)), (1, .ref (zC + 0)), (0, .ref b)] dL_law_936 hl (by decide) rfl (fun ls hl => ?_)
    refine r_aload_n C dL_law_938 rfl hl 4 rfl ?_
    refine r_aload_n C dL_law_939 rfl hl 6 rfl ?_
    refine r_iload C dL_law_940 hl 1 rfl ?_
    refine r_iconst C dL_law_942 ?_
    refine r_iadd C dL_law_943 ?_
    refine r_sld C A hS (i := i + 1) (v := p0) ⟨by omega, by omega⟩ ⟨by omega, by omega⟩ hx0 dL_law_944 ?_
    refine rl_RI (As := [.int (jI p0)]) (rest := []) C A hS (fun E' => c_X11_faults l E' zR hp0 hfR) jy_X11_faults rfl lk_L_153 dL_law_945 rfl rfl hl.1 (Nat.le_of_ble_eq_true rfl) ⟨Nat.le_of_ble_eq_true rfl, Nat.le_of_ble_eq_true rfl⟩ ⟨rfl, rfl⟩ ⟨by show cells + 1 ≤ 601024; omega, by show slots + 6 ≤ 7293034; omega⟩ (fun H locs hrR hS => ?_)
    refine r_istore C [(7, .int (jI r)), (6, .int (jI 1)), (5, .int (jI i)), (4, .ref zoD), (3, .ref zoL), (2, .ref (zR + 0)), (1, .ref (zC + 0)), (0, .ref b)] dL_law_948 hl (by decide) rfl (fun ls hl => ?_)
    refine r_aload_n C dL_law_950 rfl hl 5 rfl ?_
    refine rl_RI (As := []) (rest := []) C A hS (fun E' => c_X11_thrown l E' zR (show f_X11_thrown Mr' = some 1 by show some (Mr' 0 7) = some _; rw [ht])) jy_X11_thrown rfl lk_L_99 dL_law_951 rfl rfl hl.1 (Nat.le_of_ble_eq_true rfl) ⟨Nat.le_of_ble_eq_true rfl, Nat.le_of_ble_eq_true rfl⟩ ⟨rfl, rfl⟩ ⟨by show cells + 1 ≤ 601024; omega, by show slots + 6 ≤ 7293034; omega⟩ (fun H locs hrt hS => ?_)
    refine r_iload C dL_law_954 hl 1 rfl ?_
    refine r_icmp_eq C 961 ⟨by decide, by decide⟩ ⟨by decide, by decide⟩ dL_law_956 (by decide) (fun cq => ?_) (fun cq => absurd rfl cq)
    refine r_iload C dL_law_961 hl 1 rfl ?_
    refine r_if_ne C 978 ⟨by decide, by decide⟩ dL_law_963 (by decide) (fun cq => ?_) (fun cq => absurd cq (by decide))
    refine r_goto C 1891 dL_law_978 (by decide) ?_
    exact kk _ _ _ _ _ _ _ (by show cells + 1 ≤ cells + 1; omega) (by show slots + 6 ≤ slots + 6; omega) hS (lv_sub hl [2, 3, 4, 5, 6, 7] rfl)
set_option maxRecDepth 100000 in
set_option maxHeartbeats 8000000 in
theorem lc_fault (hst : l.stackTraces = false) (C : Cx E0 p c cL_law 10 s args RL m) (A : LAt E0 b L xs zC zR zoL zoD zE s) {Mc Mr Mc' Mr' : Mem} {fL : Nat → Int64} {fD : Nat → UInt64} {H : Heap} {locs : List Loc} {ls : Array Slot} {cells slots : Nat} {i : Int} {p0 : Int} {p1 : Int} (hS : LStt E0 zC zR zoL zoD zE Mc Mr fL fD s H locs) (hi : 0 ≤ i ∧ i + 3 < (L : Int)) (hL : L ≤ 2048) (hx0 : xs (i + 1).toNat = jI p0) (hp0 : inR p0) (hx1 : xs (i + 2).toNat = jI p1) (hp1 : inR p1) (hl : lv_has ls 10 [(5, .int (jI i)), (4, .ref zoD), (3, .ref zoL), (2, .ref (zR + 0)), (1, .ref (zC + 0)), (0, .ref b)]) (hc : cells + 1 ≤ 601024 ∧ slots + 6 ≤ 7293034) (hstep : st_fault p0 p1 Mc Mr Mc' Mr')
    (kk : ∀ (H1 : Heap) (locs1 : List Loc) (ls1 : Array Slot) (fL1 : Nat → Int64) (fD1 : Nat → UInt64) (c1 s1 : Nat), c1 ≤ cells + 1 → s1 ≤ slots + 6 → LStt E0 zC zR zoL zoD zE Mc' Mr' fL1 fD1 s H1 locs1 → lv_has ls1 10 [(5, .int (jI i)), (4, .ref zoD), (3, .ref zoL), (2, .ref (zR + 0)), (1, .ref (zC + 0)), (0, .ref b)] → W p l e room_1 s m args below meth c H1 locs1 c1 s1 Q (F0 m 1891 ls1 [])) : W p l e room_1 s m args below meth c H locs cells slots Q (F0 m 981 ls []) := by
  have hcR : cells + 1 ≤ room_1.cells := hc.1
  have hsR : slots + 6 ≤ room_1.slots := hc.2
  unfold st_fault at hstep
  rcases hstep with ⟨r, hf, hfR, ht⟩ | ⟨hf, r, hfR, ht⟩ | ⟨hf, r, hfR, ht⟩
  · refine r_aload_n C dL_law_981 rfl hl 4 rfl ?_
    refine r_aload_n C dL_law_982 rfl hl 5 rfl ?_
    refine r_iload C dL_law_983 hl 0 rfl ?_
    refine r_iconst C dL_law_985 ?_
    refine r_iadd C dL_law_986 ?_
    refine r_sld C A hS (i := i + 1) (v := p0) ⟨by omega, by omega⟩ ⟨by omega, by omega⟩ hx0 dL_law_987 ?_
    refine r_aload_n C dL_law_988 rfl hl 5 rfl ?_
    refine r_iload C dL_law_989 hl 0 rfl ?_
    refine r_iconst C dL_law_991 ?_
    refine r_iadd C dL_law_992 ?_
    refine r_sld C A hS (i := i + 2) (v := p1) ⟨by omega, by omega⟩ ⟨by omega, by omega⟩ hx1 dL_law_993 ?_
    refine r_aload_n C dL_law_994 rfl hl 2 rfl ?_
    refine rl_HL (n := 4) (As := [.ref (zC + 0), .int (jI p0), .int (jI p1), .ref zoL]) (rest := []) C A hS (w_fault l (eRg E0 (PO zC zoL zE)) zC zoL fL hp0 hp1 hf) (gh_fault).1 (gh_fault).2.1 (gh_fault).2.2 ⟨by decide, by decide, by decide +kernel⟩ lk_L_154 dL_law_995 rfl rfl hl.1 (Nat.le_of_ble_eq_true rfl) ⟨Nat.le_of_ble_eq_true rfl, Nat.le_of_ble_eq_true rfl⟩ ⟨by show cells + 0 ≤ 601024; omega, by show slots + 0 ≤ 7293034; omega⟩ (fun H locs hrh hS => ?_)
    refine r_istore C [(6, .int (jI 0)), (5, .int (jI i)), (4, .ref zoD), (3, .ref zoL), (2, .ref (zR + 0)), (1, .ref (zC + 0)), (0, .ref b)] dL_law_998 hl (by decide) rfl (fun ls hl => ?_)
    refine r_aload_n C dL_law_1000 rfl hl 4 rfl ?_
    refine r_aload_n C dL_law_1001 rfl hl 6 rfl ?_
    refine r_iload C dL_law_1002 hl 1 rfl ?_
    refine r_iconst C dL_law_1004 ?_
    refine r_iadd C dL_law_1005 ?_
    refine r_sld C A hS (i := i + 1) (v := p0) ⟨by omega, by omega⟩ ⟨by omega, by omega⟩ hx0 dL_law_1006 ?_
    refine r_aload_n C dL_law_1007 rfl hl 6 rfl ?_
    refine r_iload C dL_law_1008 hl 1 rfl ?_
    refine r_iconst C dL_law_1010 ?_
    refine r_iadd C dL_law_1011 ?_
    refine r_sld C A hS (i := i + 2) (v := p1) ⟨by omega, by omega⟩ ⟨by omega, by omega⟩ hx1 dL_law_1012 ?_
    refine rl_RI (As := [.int (jI p0), .int (jI p1)]) (rest := []) C A hS (fun E' => c_X11_fault l E' zR hp0 hp1 hfR) jy_X11_fault rfl lk_L_156 dL_law_1013 rfl rfl hl.1 (Nat.le_of_ble_eq_true rfl) ⟨Nat.le_of_ble_eq_true rfl, Nat.le_of_ble_eq_true rfl⟩ ⟨rfl, rfl⟩ ⟨by show cells + 0 ≤ 601024; omega, by show slots + 0 ≤ 7293034; omega⟩ (fun H locs hrR hS => ?_)
    refine r_istore C [(7, .int (jI r)), (6, .int (jI 0)), (5, .int (jI i)), (4, .ref zoD), (3, .ref zoL), (2, .ref (zR + 0)), (1, .ref (zC + 0)), (0, .ref b)] dL_law_1016 hl (by decide) rfl (fun ls hl => ?_)
    refine r_aload_n C dL_law_1018 rfl hl 5 rfl ?_
    refine rl_RI (As := []) (rest := []) C A hS (fun E' => c_X11_thrown l E' zR (show f_X11_thrown Mr' = some 0 by show some (Mr' 0 7) = some _; rw [ht])) jy_X11_thrown rfl lk_L_99 dL_law_1019 rfl rfl hl.1 (Nat.le_of_ble_eq_true rfl) ⟨Nat.le_of_ble_eq_true rfl, Nat.le_of_ble_eq_true rfl⟩ ⟨rfl, rfl⟩ ⟨by show cells + 0 ≤ 601024; omega, by show slots + 0 ≤ 7293034; omega⟩ (fun H locs hrt hS => ?_)
    refine r_iload C dL_law_1022 hl 1 rfl ?_
    refine r_icmp_eq C 1029 ⟨by decide, by decide⟩ ⟨by decide, by decide⟩ dL_law_1024 (by decide) (fun cq => ?_) (fun cq => absurd rfl cq)
    refine r_iload C dL_law_1029 hl 1 rfl ?_
    refine r_if_ne C 1046 ⟨by decide, by decide⟩ dL_law_1031 (by decide) (fun cq => absurd rfl cq) (fun cq => ?_)
    refine r_aload_n C dL_law_1034 rfl hl 4 rfl ?_
    refine r_iconst C dL_law_1035 ?_
    refine r_lald C hS dL_law_1036 ?_
    refine r_iload C dL_law_1037 hl 0 rfl ?_
    refine lv_i2l C.1.1 C.1.2.1 dL_law_1039 rfl ?_
    refine r_lcmpE C (by simp [vp_updL]) dL_law_1040 ?_
    refine r_if_eq C 1046 ⟨by decide, by decide⟩ dL_law_1041 (by decide) (fun cq => ?_) (fun cq => absurd rfl cq)
    refine r_goto C 1891 dL_law_1046 (by decide) ?_
    exact kk _ _ _ _ _ _ _ (by show cells + 0 ≤ cells + 1; omega) (by show slots + 0 ≤ slots + 6; omega) hS (lv_sub hl [2, 3, 4, 5, 6, 7] rfl)
  · refine r_aload_n C dL_law_981 rfl hl 4 rfl ?_
    refine r_aload_n C dL_law_982 rfl hl 5 rfl ?_
    refine r_iload C dL_law_983 hl 0 rfl ?_
    refine r_iconst C dL_law_985 ?_
    refine r_iadd C dL_law_986 ?_
    refine r_sld C A hS (i := i + 1) (v := p0) ⟨by omega, by omega⟩ ⟨by omega, by omega⟩ hx0 dL_law_987 ?_
    refine r_aload_n C dL_law_988 rfl hl 5 rfl ?_
    refine r_iload C dL_law_989 hl 0 rfl ?_
    refine r_iconst C dL_law_991 ?_
    refine r_iadd C dL_law_992 ?_
    refine r_sld C A hS (i := i + 2) (v := p1) ⟨by omega, by omega⟩ ⟨by omega, by omega⟩ hx1 dL_law_993 ?_
    refine r_aload_n C dL_law_994 rfl hl 2 rfl ?_
    refine rl_HL (n := 4) (As := [.ref (zC + 0), .int (jI p0), .int (jI p1), .ref zoL]) (rest := []) C A hS (w1_fault l hst (eRg E0 (PO zC zoL zE)) zC zoL fL hp0 hp1 hf) (gh_fault).1 (gh_fault).2.1 (gh_fault).2.2 ⟨by decide, by decide, by decide +kernel⟩ lk_L_154 dL_law_995 rfl rfl hl.1 (Nat.le_of_ble_eq_true rfl) ⟨Nat.le_of_ble_eq_true rfl, Nat.le_of_ble_eq_true rfl⟩ ⟨by show cells + 1 ≤ 601024; omega, by show slots + 6 ≤ 7293034; omega⟩ (fun H locs hrh hS => ?_)
    refine r_istore C [(6, .int (jI 1)), (5, .int (jI i)), (4, .ref zoD), (3, .ref zoL), (2, .ref (zR + 0)), (1, .ref (zC + 0)), (0, .ref b)] dL_law_998 hl (by decide) rfl (fun ls hl => ?_)
    refine r_aload_n C dL_law_1000 rfl hl 4 rfl ?_
    refine r_aload_n C dL_law_1001 rfl hl 6 rfl ?_
    refine r_iload C dL_law_1002 hl 1 rfl ?_
    refine r_iconst C dL_law_1004 ?_
    refine r_iadd C dL_law_1005 ?_
    refine r_sld C A hS (i := i + 1) (v := p0) ⟨by omega, by omega⟩ ⟨by omega, by omega⟩ hx0 dL_law_1006 ?_
    refine r_aload_n C dL_law_1007 rfl hl 6 rfl ?_
    refine r_iload C dL_law_1008 hl 1 rfl ?_
    refine r_iconst C dL_law_1010 ?_
    refine r_iadd C dL_law_1011 ?_
    refine r_sld C A hS (i := i + 2) (v := p1) ⟨by omega, by omega⟩ ⟨by omega, by omega⟩ hx1 dL_law_1012 ?_
    refine rl_RI (As := [.int (jI p0), .int (jI p1)]) (rest := []) C A hS (fun E' => c_X11_fault l E' zR hp0 hp1 hfR) jy_X11_fault rfl lk_L_156 dL_law_1013 rfl rfl hl.1 (Nat.le_of_ble_eq_true rfl) ⟨Nat.le_of_ble_eq_true rfl, Nat.le_of_ble_eq_true rfl⟩ ⟨rfl, rfl⟩ ⟨by show cells + 1 ≤ 601024; omega, by show slots + 6 ≤ 7293034; omega⟩ (fun H locs hrR hS => ?_)
    refine r_istore C [(7, .int (jI r)), (6, .int (jI 1)), (5, .int (jI i)), (4, .ref zoD), (3, .ref zoL), (2, .ref (zR + 0)), (1, .ref (zC + 0)), (0, .ref b)] dL_law_1016 hl (by decide) rfl (fun ls hl => ?_)
    refine r_aload_n C dL_law_1018 rfl hl 5 rfl ?_
    refine rl_RI (As := []) (rest := []) C A hS (fun E' => c_X11_thrown l E' zR (show f_X11_thrown Mr' = some 1 by show some (Mr' 0 7) = some _; rw [ht])) jy_X11_thrown rfl lk_L_99 dL_law_1019 rfl rfl hl.1 (Nat.le_of_ble_eq_true rfl) ⟨Nat.le_of_ble_eq_true rfl, Nat.le_of_ble_eq_true rfl⟩ ⟨rfl, rfl⟩ ⟨by show cells + 1 ≤ 601024; omega, by show slots + 6 ≤ 7293034; omega⟩ (fun H locs hrt hS => ?_)
    refine r_iload C dL_law_1022 hl 1 rfl ?_
    refine r_icmp_eq C 1029 ⟨by decide, by decide⟩ ⟨by decide, by decide⟩ dL_law_1024 (by decide) (fun cq => ?_) (fun cq => absurd rfl cq)
    refine r_iload C dL_law_1029 hl 1 rfl ?_
    refine r_if_ne C 1046 ⟨by decide, by decide⟩ dL_law_1031 (by decide) (fun cq => ?_) (fun cq => absurd cq (by decide))
    refine r_goto C 1891 dL_law_1046 (by decide) ?_
    exact kk _ _ _ _ _ _ _ (by show cells + 1 ≤ cells + 1; omega) (by show slots + 6 ≤ slots + 6; omega) hS (lv_sub hl [2, 3, 4, 5, 6, 7] rfl)
  · refine r_aload_n C dL_law_981 rfl hl 4 rfl ?_
    refine r_aload_n C dL_law_982 rfl hl 5 rfl ?_
    refine r_iload C dL_law_983 hl 0 rfl ?_
    refine r_iconst C dL_law_985 ?_
    refine r_iadd C dL_law_986 ?_
    refine r_sld C A hS (i := i + 1) (v := p0) ⟨by omega, by omega⟩ ⟨by omega, by omega⟩ hx0 dL_law_987 ?_
    refine r_aload_n C dL_law_988 rfl hl 5 rfl ?_
    refine r_iload C dL_law_989 hl 0 rfl ?_
    refine r_iconst C dL_law_991 ?_
    refine r_iadd C dL_law_992 ?_
    refine r_sld C A hS (i := i + 2) (v := p1) ⟨by omega, by omega⟩ ⟨by omega, by omega⟩ hx1 dL_law_993 ?_
    refine r_aload_n C dL_law_994 rfl hl 2 rfl ?_
    refine rl_HL (n := 4) (As := [.ref (zC + 0), .int (jI p0), .int (jI p1), .ref zoL]) (rest := []) C A hS (w2_fault l hst (eRg E0 (PO zC zoL zE)) zC zoL fL hp0 hp1 hf) (gh_fault).1 (gh_fault).2.1 (gh_fault).2.2 ⟨by decide, by decide, by decide +kernel⟩ lk_L_154 dL_law_995 rfl rfl hl.1 (Nat.le_of_ble_eq_true rfl) ⟨Nat.le_of_ble_eq_true rfl, Nat.le_of_ble_eq_true rfl⟩ ⟨by show cells + 1 ≤ 601024; omega, by show slots + 6 ≤ 7293034; omega⟩ (fun H locs hrh hS => ?_)
    refine r_istore C [(6, .int (jI 2)), (5, .int (jI i)), (4, .ref zoD), (3, .ref zoL), (2, .ref (zR + 0)), (1, .ref (zC + 0)), (0, .ref b)] dL_law_998 hl (by decide) rfl (fun ls hl => ?_)
    refine r_aload_n C dL_law_1000 rfl hl 4 rfl ?_
    refine r_aload_n C dL_law_1001 rfl hl 6 rfl ?_
    refine r_iload C dL_law_1002 hl 1 rfl ?_
    refine r_iconst C dL_law_1004 ?_
    refine r_iadd C dL_law_1005 ?_
    refine r_sld C A hS (i := i + 1) (v := p0) ⟨by omega, by omega⟩ ⟨by omega, by omega⟩ hx0 dL_law_1006 ?_
    refine r_aload_n C dL_law_1007 rfl hl 6 rfl ?_
    refine r_iload C dL_law_1008 hl 1 rfl ?_
    refine r_iconst C dL_law_1010 ?_
    refine r_iadd C dL_law_1011 ?_
    refine r_sld C A hS (i := i + 2) (v := p1) ⟨by omega, by omega⟩ ⟨by omega, by omega⟩ hx1 dL_law_1012 ?_
    refine rl_RI (As := [.int (jI p0), .int (jI p1)]) (rest := []) C A hS (fun E' => c_X11_fault l E' zR hp0 hp1 hfR) jy_X11_fault rfl lk_L_156 dL_law_1013 rfl rfl hl.1 (Nat.le_of_ble_eq_true rfl) ⟨Nat.le_of_ble_eq_true rfl, Nat.le_of_ble_eq_true rfl⟩ ⟨rfl, rfl⟩ ⟨by show cells + 1 ≤ 601024; omega, by show slots + 6 ≤ 7293034; omega⟩ (fun H locs hrR hS => ?_)
    refine r_istore C [(7, .int (jI r)), (6, .int (jI 2)), (5, .int (jI i)), (4, .ref zoD), (3, .ref zoL), (2, .ref (zR + 0)), (1, .ref (zC + 0)), (0, .ref b)] dL_law_1016 hl (by decide) rfl (fun ls hl => ?_)
    refine r_aload_n C dL_law_1018 rfl hl 5 rfl ?_
    refine rl_RI (As := []) (rest := []) C A hS (fun E' => c_X11_thrown l E' zR (show f_X11_thrown Mr' = some 2 by show some (Mr' 0 7) = some _; rw [ht])) jy_X11_thrown rfl lk_L_99 dL_law_1019 rfl rfl hl.1 (Nat.le_of_ble_eq_true rfl) ⟨Nat.le_of_ble_eq_true rfl, Nat.le_of_ble_eq_true rfl⟩ ⟨rfl, rfl⟩ ⟨by show cells + 1 ≤ 601024; omega, by show slots + 6 ≤ 7293034; omega⟩ (fun H locs hrt hS => ?_)
    refine r_iload C dL_law_1022 hl 1 rfl ?_
    refine r_icmp_eq C 1029 ⟨by decide, by decide⟩ ⟨by decide, by decide⟩ dL_law_1024 (by decide) (fun cq => ?_) (fun cq => absurd rfl cq)
    refine r_iload C dL_law_1029 hl 1 rfl ?_
    refine r_if_ne C 1046 ⟨by decide, by decide⟩ dL_law_1031 (by decide) (fun cq => ?_) (fun cq => absurd cq (by decide))
    refine r_goto C 1891 dL_law_1046 (by decide) ?_
    exact kk _ _ _ _ _ _ _ (by show cells + 1 ≤ cells + 1; omega) (by show slots + 6 ≤ slots + 6; omega) hS (lv_sub hl [2, 3, 4, 5, 6, 7] rfl)
set_option maxRecDepth 100000 in
set_option maxHeartbeats 8000000 in
theorem lc_fits (hst : l.stackTraces = false) (C : Cx E0 p c cL_law 10 s args RL m) (A : LAt E0 b L xs zC zR zoL zoD zE s) {Mc Mr Mc' Mr' : Mem} {fL : Nat → Int64} {fD : Nat → UInt64} {H : Heap} {locs : List Loc} {ls : Array Slot} {cells slots : Nat} {i : Int} (hS : LStt E0 zC zR zoL zoD zE Mc Mr fL fD s H locs) (hi : 0 ≤ i ∧ i + 3 < (L : Int)) (hL : L ≤ 2048) (hl : lv_has ls 10 [(5, .int (jI i)), (4, .ref zoD), (3, .ref zoL), (2, .ref (zR + 0)), (1, .ref (zC + 0)), (0, .ref b)]) (hc : cells + 1 ≤ 601024 ∧ slots + 6 ≤ 7293034) (hstep : st_fits Mc Mr Mc' Mr')
    (kk : ∀ (H1 : Heap) (locs1 : List Loc) (ls1 : Array Slot) (fL1 : Nat → Int64) (fD1 : Nat → UInt64) (c1 s1 : Nat), c1 ≤ cells + 1 → s1 ≤ slots + 6 → LStt E0 zC zR zoL zoD zE Mc' Mr' fL1 fD1 s H1 locs1 → lv_has ls1 10 [(5, .int (jI i)), (4, .ref zoD), (3, .ref zoL), (2, .ref (zR + 0)), (1, .ref (zC + 0)), (0, .ref b)] → W p l e room_1 s m args below meth c H1 locs1 c1 s1 Q (F0 m 1891 ls1 [])) : W p l e room_1 s m args below meth c H locs cells slots Q (F0 m 1049 ls []) := by
  have hcR : cells + 1 ≤ room_1.cells := hc.1
  have hsR : slots + 6 ≤ room_1.slots := hc.2
  unfold st_fits at hstep
  obtain ⟨r, hf, hfR⟩ := hstep
  refine r_aload_n C dL_law_1049 rfl hl 4 rfl ?_
  refine rl_CI (As := []) (rest := []) C A hS (fun E' => c_X10_fits l E' zC hf) jy_X10_fits rfl lk_L_157 dL_law_1050 rfl rfl hl.1 (Nat.le_of_ble_eq_true rfl) ⟨Nat.le_of_ble_eq_true rfl, Nat.le_of_ble_eq_true rfl⟩ ⟨rfl, rfl⟩ ⟨by show cells ≤ 601024; omega, by show slots ≤ 7293034; omega⟩ (fun H locs hrC hS => ?_)
  refine r_aload_n C dL_law_1053 rfl hl 3 rfl ?_
  refine rl_RI (As := []) (rest := [.int (jI r)]) C A hS (fun E' => c_X11_fits l E' zR hfR) jy_X11_fits rfl lk_L_161 dL_law_1054 rfl rfl hl.1 (Nat.le_of_ble_eq_true rfl) ⟨Nat.le_of_ble_eq_true rfl, Nat.le_of_ble_eq_true rfl⟩ ⟨rfl, rfl⟩ ⟨by show cells ≤ 601024; omega, by show slots ≤ 7293034; omega⟩ (fun H locs hrR hS => ?_)
  refine r_icmp_eq C 1891 hrC hrC dL_law_1057 (by decide) (fun cq => ?_) (fun cq => absurd rfl cq)
  exact kk _ _ _ _ _ _ _ (by omega) (by omega) hS (lv_sub hl [0, 1, 2, 3, 4, 5] rfl)
set_option maxRecDepth 100000 in
set_option maxHeartbeats 8000000 in
theorem lc_share (hst : l.stackTraces = false) (C : Cx E0 p c cL_law 10 s args RL m) (A : LAt E0 b L xs zC zR zoL zoD zE s) {Mc Mr Mc' Mr' : Mem} {fL : Nat → Int64} {fD : Nat → UInt64} {H : Heap} {locs : List Loc} {ls : Array Slot} {cells slots : Nat} {i : Int} {p0 : Int} (hS : LStt E0 zC zR zoL zoD zE Mc Mr fL fD s H locs) (hi : 0 ≤ i ∧ i + 3 < (L : Int)) (hL : L ≤ 2048) (hx0 : xs (i + 1).toNat = jI p0) (hp0 : inR p0) (hl : lv_has ls 10 [(5, .int (jI i)), (4, .ref zoD), (3, .ref zoL), (2, .ref (zR + 0)), (1, .ref (zC + 0)), (0, .ref b)]) (hc : cells + 1 ≤ 601024 ∧ slots + 6 ≤ 7293034) (hstep : st_share p0 Mc Mr Mc' Mr')
    (kk : ∀ (H1 : Heap) (locs1 : List Loc) (ls1 : Array Slot) (fL1 : Nat → Int64) (fD1 : Nat → UInt64) (c1 s1 : Nat), c1 ≤ cells + 1 → s1 ≤ slots + 6 → LStt E0 zC zR zoL zoD zE Mc' Mr' fL1 fD1 s H1 locs1 → lv_has ls1 10 [(5, .int (jI i)), (4, .ref zoD), (3, .ref zoL), (2, .ref (zR + 0)), (1, .ref (zC + 0)), (0, .ref b)] → W p l e room_1 s m args below meth c H1 locs1 c1 s1 Q (F0 m 1891 ls1 [])) : W p l e room_1 s m args below meth c H locs cells slots Q (F0 m 1062 ls []) := by
  have hcR : cells + 1 ≤ room_1.cells := hc.1
  have hsR : slots + 6 ≤ room_1.slots := hc.2
  unfold st_share at hstep
  rcases hstep with ⟨r, hf, rfl, hfR, ht⟩ | ⟨hf, r, hfR, ht⟩
  · refine r_aload_n C dL_law_1062 rfl hl 4 rfl ?_
    refine r_aload_n C dL_law_1063 rfl hl 5 rfl ?_
    refine r_iload C dL_law_1064 hl 0 rfl ?_
    refine r_iconst C dL_law_1066 ?_
    refine r_iadd C dL_law_1067 ?_
    refine r_sld C A hS (i := i + 1) (v := p0) ⟨by omega, by omega⟩ ⟨by omega, by omega⟩ hx0 dL_law_1068 ?_
    refine r_aload C dL_law_1069 hl 1 rfl ?_
    refine rl_HD (n := 3) (As := [.ref (zC + 0), .int (jI p0), .ref zoD]) (rest := []) C A hS (w_share l (eRg E0 (PO zC zoD zE)) zC zoD fD hp0 hf) (gh_share).1 (gh_share).2.1 (gh_share).2.2 ⟨by decide, by decide, by decide +kernel⟩ lk_L_162 dL_law_1071 rfl rfl hl.1 (Nat.le_of_ble_eq_true rfl) ⟨Nat.le_of_ble_eq_true rfl, Nat.le_of_ble_eq_true rfl⟩ ⟨by show cells + 0 ≤ 601024; omega, by show slots + 0 ≤ 7293034; omega⟩ (fun H locs hrh hS => ?_)
    refine r_istore C [(6, .int (jI 0)), (5, .int (jI i)), (4, .ref zoD), (3, .ref zoL), (2, .ref (zR + 0)), (1, .ref (zC + 0)), (0, .ref b)] dL_law_1074 hl (by decide) rfl (fun ls hl => ?_)
    refine r_aload_n C dL_law_1076 rfl hl 4 rfl ?_
    refine r_aload_n C dL_law_1077 rfl hl 6 rfl ?_
    refine r_iload C dL_law_1078 hl 1 rfl ?_
    refine r_iconst C dL_law_1080 ?_
    refine r_iadd C dL_law_1081 ?_
    refine r_sld C A hS (i := i + 1) (v := p0) ⟨by omega, by omega⟩ ⟨by omega, by omega⟩ hx0 dL_law_1082 ?_
    refine rl_RD (As := [.int (jI p0)]) (rest := []) C A hS (fun E' => c_X11_share l E' zR hp0 hfR) jy_X11_share rfl lk_L_165 dL_law_1083 rfl rfl hl.1 (Nat.le_of_ble_eq_true rfl) ⟨Nat.le_of_ble_eq_true rfl, Nat.le_of_ble_eq_true rfl⟩ ⟨rfl, rfl⟩ ⟨by show cells + 0 ≤ 601024; omega, by show slots + 0 ≤ 7293034; omega⟩ (fun H locs hS => ?_)
    refine lv_dstore C.1.1 C.1.2.1 dL_law_1086 hl (by decide) (lv' := [(7, .double r), (6, .int (jI 0)), (5, .int (jI i)), (4, .ref zoD), (3, .ref zoL), (2, .ref (zR + 0)), (1, .ref (zC + 0)), (0, .ref b)]) rfl (fun ls hl => ?_)
    refine r_aload_n C dL_law_1088 rfl hl 5 rfl ?_
    refine rl_RI (As := []) (rest := []) C A hS (fun E' => c_X11_thrown l E' zR (show f_X11_thrown Mr' = some 0 by show some (Mr' 0 7) = some _; rw [ht])) jy_X11_thrown rfl lk_L_99 dL_law_1089 rfl rfl hl.1 (Nat.le_of_ble_eq_true rfl) ⟨Nat.le_of_ble_eq_true rfl, Nat.le_of_ble_eq_true rfl⟩ ⟨rfl, rfl⟩ ⟨by show cells + 0 ≤ 601024; omega, by show slots + 0 ≤ 7293034; omega⟩ (fun H locs hrt hS => ?_)
    refine r_iload C dL_law_1092 hl 1 rfl ?_
    refine r_icmp_eq C 1099 ⟨by decide, by decide⟩ ⟨by decide, by decide⟩ dL_law_1094 (by decide) (fun cq => ?_) (fun cq => absurd rfl cq)
    refine r_iload C dL_law_1099 hl 1 rfl ?_
    refine r_if_ne C 1136 ⟨by decide, by decide⟩ dL_law_1101 (by decide) (fun cq => absurd rfl cq) (fun cq => ?_)
    refine r_aload C dL_law_1104 hl 3 rfl ?_
    refine r_iconst C dL_law_1106 ?_
    refine r_dald C hS dL_law_1107 ?_
    rw [show vf_upd fD 0 r 0 = r from by simp [vf_upd]]
    refine lv_dload C.1.1 C.1.2.1 dL_law_1108 (lv_at hl 0 rfl) ?_
    refine lv_dcmp C.1.1 C.1.2.1 dL_law_1110 ?_
    rw [jI_of (Op.cmpValue (FP.dcmp r r) _)]
    refine r_if_eq C 1136 (jI_R _) dL_law_1111 (by decide) (fun cq => ?_) (fun cn => ?_)
    · refine r_goto C 1891 dL_law_1136 (by decide) ?_
      exact kk _ _ _ _ _ _ _ (by show cells + 0 ≤ cells + 1; omega) (by show slots + 0 ≤ slots + 6; omega) hS (lv_sub hl [2, 3, 4, 5, 6, 7] rfl)
    refine r_aload C dL_law_1114 hl 3 rfl ?_
    refine r_iconst C dL_law_1116 ?_
    refine r_dald C hS dL_law_1117 ?_
    rw [show vf_upd fD 0 r 0 = r from by simp [vf_upd]]
    refine r_aload C dL_law_1118 hl 3 rfl ?_
    refine r_iconst C dL_law_1120 ?_
    refine r_dald C hS dL_law_1121 ?_
    rw [show vf_upd fD 0 r 0 = r from by simp [vf_upd]]
    refine lv_dcmp C.1.1 C.1.2.1 dL_law_1122 ?_
    rw [jI_of (Op.cmpValue (FP.dcmp r r) _)]
    refine r_if_eq C 1134 (jI_R _) dL_law_1123 (by decide) (fun cq => absurd cq cn) (fun cq => ?_)
    refine lv_dload C.1.1 C.1.2.1 dL_law_1126 (lv_at hl 0 rfl) ?_
    refine lv_dload C.1.1 C.1.2.1 dL_law_1128 (lv_at hl 0 rfl) ?_
    refine lv_dcmp C.1.1 C.1.2.1 dL_law_1130 ?_
    rw [jI_of (Op.cmpValue (FP.dcmp r r) _)]
    refine r_if_ne C 1136 (jI_R _) dL_law_1131 (by decide) (fun cq => ?_) (fun cq => absurd cq cn)
    refine r_goto C 1891 dL_law_1136 (by decide) ?_
    exact kk _ _ _ _ _ _ _ (by show cells + 0 ≤ cells + 1; omega) (by show slots + 0 ≤ slots + 6; omega) hS (lv_sub hl [2, 3, 4, 5, 6, 7] rfl)
  · refine r_aload_n C dL_law_1062 rfl hl 4 rfl ?_
    refine r_aload_n C dL_law_1063 rfl hl 5 rfl ?_
    refine r_iload C dL_law_1064 hl 0 rfl ?_
    refine r_iconst C dL_law_1066 ?_
    refine r_iadd C dL_law_1067 ?_
    refine r_sld C A hS (i := i + 1) (v := p0) ⟨by omega, by omega⟩ ⟨by omega, by omega⟩ hx0 dL_law_1068 ?_
    refine r_aload C dL_law_1069 hl 1 rfl ?_
    refine rl_HD (n := 3) (As := [.ref (zC + 0), .int (jI p0), .ref zoD]) (rest := []) C A hS (w1_share l hst (eRg E0 (PO zC zoD zE)) zC zoD fD hp0 hf) (gh_share).1 (gh_share).2.1 (gh_share).2.2 ⟨by decide, by decide, by decide +kernel⟩ lk_L_162 dL_law_1071 rfl rfl hl.1 (Nat.le_of_ble_eq_true rfl) ⟨Nat.le_of_ble_eq_true rfl, Nat.le_of_ble_eq_true rfl⟩ ⟨by show cells + 1 ≤ 601024; omega, by show slots + 6 ≤ 7293034; omega⟩ (fun H locs hrh hS => ?_)
    refine r_istore C [(6, .int (jI 1)), (5, .int (jI i)), (4, .ref zoD), (3, .ref zoL), (2, .ref (zR + 0)), (1, .ref (zC + 0)), (0, .ref b)] dL_law_1074 hl (by decide) rfl (fun ls hl => ?_)
    refine r_aload_n C dL_law_1076 rfl hl 4 rfl ?_
    refine r_aload_n C dL_law_1077 rfl hl 6 rfl ?_
    refine r_iload C dL_law_1078 hl 1 rfl ?_
    refine r_iconst C dL_law_1080 ?_
    refine r_iadd C dL_law_1081 ?_
    refine r_sld C A hS (i := i + 1) (v := p0) ⟨by omega, by omega⟩ ⟨by omega, by omega⟩ hx0 dL_law_1082 ?_
    refine rl_RD (As := [.int (jI p0)]) (rest := []) C A hS (fun E' => c_X11_share l E' zR hp0 hfR) jy_X11_share rfl lk_L_165 dL_law_1083 rfl rfl hl.1 (Nat.le_of_ble_eq_true rfl) ⟨Nat.le_of_ble_eq_true rfl, Nat.le_of_ble_eq_true rfl⟩ ⟨rfl, rfl⟩ ⟨by show cells + 1 ≤ 601024; omega, by show slots + 6 ≤ 7293034; omega⟩ (fun H locs hS => ?_)
    refine lv_dstore C.1.1 C.1.2.1 dL_law_1086 hl (by decide) (lv' := [(7, .double r), (6, .int (jI 1)), (5, .int (jI i)), (4, .ref zoD), (3, .ref zoL), (2, .ref (zR + 0)), (1, .ref (zC + 0)), (0, .ref b)]) rfl (fun ls hl => ?_)
    refine r_aload_n C dL_law_1088 rfl hl 5 rfl ?_
    refine rl_RI (As := []) (rest := []) C A hS (fun E' => c_X11_thrown l E' zR (show f_X11_thrown Mr' = some 1 by show some (Mr' 0 7) = some _; rw [ht])) jy_X11_thrown rfl lk_L_99 dL_law_1089 rfl rfl hl.1 (Nat.le_of_ble_eq_true rfl) ⟨Nat.le_of_ble_eq_true rfl, Nat.le_of_ble_eq_true rfl⟩ ⟨rfl, rfl⟩ ⟨by show cells + 1 ≤ 601024; omega, by show slots + 6 ≤ 7293034; omega⟩ (fun H locs hrt hS => ?_)
    refine r_iload C dL_law_1092 hl 1 rfl ?_
    refine r_icmp_eq C 1099 ⟨by decide, by decide⟩ ⟨by decide, by decide⟩ dL_law_1094 (by decide) (fun cq => ?_) (fun cq => absurd rfl cq)
    refine r_iload C dL_law_1099 hl 1 rfl ?_
    refine r_if_ne C 1136 ⟨by decide, by decide⟩ dL_law_1101 (by decide) (fun cq => ?_) (fun cq => absurd cq (by decide))
    refine r_goto C 1891 dL_law_1136 (by decide) ?_
    exact kk _ _ _ _ _ _ _ (by show cells + 1 ≤ cells + 1; omega) (by show slots + 6 ≤ slots + 6; omega) hS (lv_sub hl [2, 3, 4, 5, 6, 7] rfl)
set_option maxRecDepth 100000 in
set_option maxHeartbeats 8000000 in
theorem lc_pace (hst : l.stackTraces = false) (C : Cx E0 p c cL_law 10 s args RL m) (A : LAt E0 b L xs zC zR zoL zoD zE s) {Mc Mr Mc' Mr' : Mem} {fL : Nat → Int64} {fD : Nat → UInt64} {H : Heap} {locs : List Loc} {ls : Array Slot} {cells slots : Nat} {i : Int} (hS : LStt E0 zC zR zoL zoD zE Mc Mr fL fD s H locs) (hi : 0 ≤ i ∧ i + 3 < (L : Int)) (hL : L ≤ 2048) (hl : lv_has ls 10 [(5, .int (jI i)), (4, .ref zoD), (3, .ref zoL), (2, .ref (zR + 0)), (1, .ref (zC + 0)), (0, .ref b)]) (hc : cells + 1 ≤ 601024 ∧ slots + 6 ≤ 7293034) (hstep : st_pace Mc Mr Mc' Mr')
    (kk : ∀ (H1 : Heap) (locs1 : List Loc) (ls1 : Array Slot) (fL1 : Nat → Int64) (fD1 : Nat → UInt64) (c1 s1 : Nat), c1 ≤ cells + 1 → s1 ≤ slots + 6 → LStt E0 zC zR zoL zoD zE Mc' Mr' fL1 fD1 s H1 locs1 → lv_has ls1 10 [(5, .int (jI i)), (4, .ref zoD), (3, .ref zoL), (2, .ref (zR + 0)), (1, .ref (zC + 0)), (0, .ref b)] → W p l e room_1 s m args below meth c H1 locs1 c1 s1 Q (F0 m 1891 ls1 [])) : W p l e room_1 s m args below meth c H locs cells slots Q (F0 m 1139 ls []) := by
  have hcR : cells + 1 ≤ room_1.cells := hc.1
  have hsR : slots + 6 ≤ room_1.slots := hc.2
  unfold st_pace at hstep
  obtain ⟨r, hf, rfl, hfR, hnn⟩ := hstep
  refine r_aload_n C dL_law_1139 rfl hl 4 rfl ?_
  refine rl_CF (As := []) (rest := []) C A hS (fun E' => c_X10_pace l E' zC hf) jy_X10_pace rfl lk_L_166 dL_law_1140 rfl rfl hl.1 (Nat.le_of_ble_eq_true rfl) ⟨Nat.le_of_ble_eq_true rfl, Nat.le_of_ble_eq_true rfl⟩ ⟨rfl, rfl⟩ ⟨by show cells ≤ 601024; omega, by show slots ≤ 7293034; omega⟩ (fun H locs hS => ?_)
  refine lv_f2d C.1.1 C.1.2.1 dL_law_1143 hnn ?_
  refine lv_dstore C.1.1 C.1.2.1 dL_law_1144 hl (by decide) (lv' := [(6, .double (FP.f2d r)), (5, .int (jI i)), (4, .ref zoD), (3, .ref zoL), (2, .ref (zR + 0)), (1, .ref (zC + 0)), (0, .ref b)]) rfl (fun ls hl => ?_)
  refine r_aload_n C dL_law_1146 rfl hl 4 rfl ?_
  refine rl_RF (As := []) (rest := []) C A hS (fun E' => c_X11_pace l E' zR hfR) jy_X11_pace rfl lk_L_170 dL_law_1147 rfl rfl hl.1 (Nat.le_of_ble_eq_true rfl) ⟨Nat.le_of_ble_eq_true rfl, Nat.le_of_ble_eq_true rfl⟩ ⟨rfl, rfl⟩ ⟨by show cells ≤ 601024; omega, by show slots ≤ 7293034; omega⟩ (fun H locs hS => ?_)
  refine lv_f2d C.1.1 C.1.2.1 dL_law_1150 hnn ?_
  refine lv_dstore C.1.1 C.1.2.1 dL_law_1151 hl (by decide) (lv' := [(8, .double (FP.f2d r)), (6, .double (FP.f2d r)), (5, .int (jI i)), (4, .ref zoD), (3, .ref zoL), (2, .ref (zR + 0)), (1, .ref (zC + 0)), (0, .ref b)]) rfl (fun ls hl => ?_)
  refine lv_dload C.1.1 C.1.2.1 dL_law_1153 (lv_at hl 1 rfl) ?_
  refine lv_dload C.1.1 C.1.2.1 dL_law_1155 (lv_at hl 0 rfl) ?_
  refine lv_dcmp C.1.1 C.1.2.1 dL_law_1157 ?_
  rw [jI_of (Op.cmpValue (FP.dcmp (FP.f2d r) (FP.f2d r)) _)]
  refine r_if_eq C 1179 (jI_R _) dL_law_1158 (by decide) (fun cq => ?_) (fun cn => ?_)
  · refine r_goto C 1891 dL_law_1179 (by decide) ?_
    exact kk _ _ _ _ _ _ _ (by omega) (by omega) hS (lv_sub hl [2, 3, 4, 5, 6, 7] rfl)
  refine lv_dload C.1.1 C.1.2.1 dL_law_1161 (lv_at hl 1 rfl) ?_
  refine lv_dload C.1.1 C.1.2.1 dL_law_1163 (lv_at hl 1 rfl) ?_
  refine lv_dcmp C.1.1 C.1.2.1 dL_law_1165 ?_
  rw [jI_of (Op.cmpValue (FP.dcmp (FP.f2d r) (FP.f2d r)) _)]
  refine r_if_eq C 1177 (jI_R _) dL_law_1166 (by decide) (fun cq => absurd cq cn) (fun cq => ?_)
  refine lv_dload C.1.1 C.1.2.1 dL_law_1169 (lv_at hl 0 rfl) ?_
  refine lv_dload C.1.1 C.1.2.1 dL_law_1171 (lv_at hl 0 rfl) ?_
  refine lv_dcmp C.1.1 C.1.2.1 dL_law_1173 ?_
  rw [jI_of (Op.cmpValue (FP.dcmp (FP.f2d r) (FP.f2d r)) _)]
  refine r_if_ne C 1179 (jI_R _) dL_law_1174 (by decide) (fun cq => ?_) (fun cq => absurd cq cn)
  refine r_goto C 1891 dL_law_1179 (by decide) ?_
  exact kk _ _ _ _ _ _ _ (by omega) (by omega) hS (lv_sub hl [2, 3, 4, 5, 6, 7] rfl)
set_option maxRecDepth 100000 in
set_option maxHeartbeats 8000000 in
theorem lc_best (hst : l.stackTraces = false) (C : Cx E0 p c cL_law 10 s args RL m) (A : LAt E0 b L xs zC zR zoL zoD zE s) {Mc Mr Mc' Mr' : Mem} {fL : Nat → Int64} {fD : Nat → UInt64} {H : Heap} {locs : List Loc} {ls : Array Slot} {cells slots : Nat} {i : Int} {p0 : Int} (hS : LStt E0 zC zR zoL zoD zE Mc Mr fL fD s H locs) (hi : 0 ≤ i ∧ i + 3 < (L : Int)) (hL : L ≤ 2048) (hx0 : xs (i + 1).toNat = jI p0) (hp0 : inR p0) (hl : lv_has ls 10 [(5, .int (jI i)), (4, .ref zoD), (3, .ref zoL), (2, .ref (zR + 0)), (1, .ref (zC + 0)), (0, .ref b)]) (hc : cells + 1 ≤ 601024 ∧ slots + 6 ≤ 7293034) (hstep : st_best p0 Mc Mr Mc' Mr')
    (kk : ∀ (H1 : Heap) (locs1 : List Loc) (ls1 : Array Slot) (fL1 : Nat → Int64) (fD1 : Nat → UInt64) (c1 s1 : Nat), c1 ≤ cells + 1 → s1 ≤ slots + 6 → LStt E0 zC zR zoL zoD zE Mc' Mr' fL1 fD1 s H1 locs1 → lv_has ls1 10 [(5, .int (jI i)), (4, .ref zoD), (3, .ref zoL), (2, .ref (zR + 0)), (1, .ref (zC + 0)), (0, .ref b)] → W p l e room_1 s m args below meth c H1 locs1 c1 s1 Q (F0 m 1891 ls1 [])) : W p l e room_1 s m args below meth c H locs cells slots Q (F0 m 1182 ls []) := by
  have hcR : cells + 1 ≤ room_1.cells := hc.1
  have hsR : slots + 6 ≤ room_1.slots := hc.2
  unfold st_best at hstep
  rcases hstep with ⟨r, hf, hfR, ht⟩ | ⟨hf, r, hfR, ht⟩
  · refine r_aload_n C dL_law_1182 rfl hl 4 rfl ?_
    refine r_aload_n C dL_law_1183 rfl hl 5 rfl ?_
    refine r_iload C dL_law_1184 hl 0 rfl ?_
    refine r_iconst C dL_law_1186 ?_
    refine r_iadd C dL_law_1187 ?_
    refine r_sld C A hS (i := i + 1) (v := p0) ⟨by omega, by omega⟩ ⟨by omega, by omega⟩ hx0 dL_law_1188 ?_
    refine r_aload_n C dL_law_1189 rfl hl 2 rfl ?_
    refine rl_HL (n := 3) (As := [.ref (zC + 0), .int (jI p0), .ref zoL]) (rest := []) C A hS (w_best l (eRg E0 (PO zC zoL zE)) zC zoL fL hp0 hf) (gh_best).1 (gh_best).2.1 (gh_best).2.2 ⟨by decide, by decide, by decide +kernel⟩ lk_L_171 dL_law_1190 rfl rfl hl.1 (Nat.le_of_ble_eq_true rfl) ⟨Nat.le_of_ble_eq_true rfl, Nat.le_of_ble_eq_true rfl⟩ ⟨by show cells + 0 ≤ 601024; omega, by show slots + 0 ≤ 7293034; omega⟩ (fun H locs hrh hS => ?_)
    refine r_istore C [(6, .int (jI 0)), (5, .int (jI i)), (4, .ref zoD), (3, .ref zoL), (2, .ref (zR + 0)), (1, .ref (zC + 0)), (0, .ref b)] dL_law_1193 hl (by decide) rfl (fun ls hl => ?_)
    refine r_aload_n C dL_law_1195 rfl hl 4 rfl ?_
    refine r_aload_n C dL_law_1196 rfl hl 6 rfl ?_
    refine r_iload C dL_law_1197 hl 1 rfl ?_
    refine r_iconst C dL_law_1199 ?_
    refine r_iadd C dL_law_1200 ?_
    refine r_sld C A hS (i := i + 1) (v := p0) ⟨by omega, by omega⟩ ⟨by omega, by omega⟩ hx0 dL_law_1201 ?_
    refine rl_RI (As := [.int (jI p0)]) (rest := []) C A hS (fun E' => c_X11_best l E' zR hp0 hfR) jy_X11_best rfl lk_L_173 dL_law_1202 rfl rfl hl.1 (Nat.le_of_ble_eq_true rfl) ⟨Nat.le_of_ble_eq_true rfl, Nat.le_of_ble_eq_true rfl⟩ ⟨rfl, rfl⟩ ⟨by show cells + 0 ≤ 601024; omega, by show slots + 0 ≤ 7293034; omega⟩ (fun H locs hrR hS => ?_)
    refine r_istore C [(7, .int (jI r)), (6, .int (jI 0)), (5, .int (jI i)), (4, .ref zoD), (3, .ref zoL), (2, .ref (zR + 0)), (1, .ref (zC + 0)), (0, .ref b)] dL_law_1205 hl (by decide) rfl (fun ls hl => ?_)
    refine r_aload_n C dL_law_1207 rfl hl 5 rfl ?_
    refine rl_RI (As := []) (rest := []) C A hS (fun E' => c_X11_thrown l E' zR (show f_X11_thrown Mr' = some 0 by show some (Mr' 0 7) = some _; rw [ht])) jy_X11_thrown rfl lk_L_99 dL_law_1208 rfl rfl hl.1 (Nat.le_of_ble_eq_true rfl) ⟨Nat.le_of_ble_eq_true rfl, Nat.le_of_ble_eq_true rfl⟩ ⟨rfl, rfl⟩ ⟨by show cells + 0 ≤ 601024; omega, by show slots + 0 ≤ 7293034; omega⟩ (fun H locs hrt hS => ?_)
    refine r_iload C dL_law_1211 hl 1 rfl ?_
    refine r_icmp_eq C 1218 ⟨by decide, by decide⟩ ⟨by decide, by decide⟩ dL_law_1213 (by decide) (fun cq => ?_) (fun cq => absurd rfl cq)
    refine r_iload C dL_law_1218 hl 1 rfl ?_
    refine r_if_ne C 1235 ⟨by decide, by decide⟩ dL_law_1220 (by decide) (fun cq => absurd rfl cq) (fun cq => ?_)
    refine r_aload_n C dL_law_1223 rfl hl 4 rfl ?_
    refine r_iconst C dL_law_1224 ?_
    refine r_lald C hS dL_law_1225 ?_
    refine r_iload C dL_law_1226 hl 0 rfl ?_
    refine lv_i2l C.1.1 C.1.2.1 dL_law_1228 rfl ?_
    refine r_lcmpE C (by simp [vp_updL]) dL_law_1229 ?_
    refine r_if_eq C 1235 ⟨by decide, by decide⟩ dL_law_1230 (by decide) (fun cq => ?_) (fun cq => absurd rfl cq)
    refine r_goto C 1891 dL_law_1235 (by decide) ?_
    exact kk _ _ _ _ _ _ _ (by show cells + 0 ≤ cells + 1; omega) (by show slots + 0 ≤ slots + 6; omega) hS (lv_sub hl [2, 3, 4, 5, 6, 7] rfl)
  · refine r_aload_n C dL_law_1182 rfl hl 4 rfl ?_
    refine r_aload_n C dL_law_1183 rfl hl 5 rfl ?_
    refine r_iload C dL_law_1184 hl 0 rfl ?_
    refine r_iconst C dL_law_1186 ?_
    refine r_iadd C dL_law_1187 ?_
    refine r_sld C A hS (i := i + 1) (v := p0) ⟨by omega, by omega⟩ ⟨by omega, by omega⟩ hx0 dL_law_1188 ?_
    refine r_aload_n C dL_law_1189 rfl hl 2 rfl ?_
    refine rl_HL (n := 3) (As := [.ref (zC + 0), .int (jI p0), .ref zoL]) (rest := []) C A hS (w1_best l hst (eRg E0 (PO zC zoL zE)) zC zoL fL hp0 hf) (gh_best).1 (gh_best).2.1 (gh_best).2.2 ⟨by decide, by decide, by decide +kernel⟩ lk_L_171 dL_law_1190 rfl rfl hl.1 (Nat.le_of_ble_eq_true rfl) ⟨Nat.le_of_ble_eq_true rfl, Nat.le_of_ble_eq_true rfl⟩ ⟨by show cells + 1 ≤ 601024; omega, by show slots + 6 ≤ 7293034; omega⟩ (fun H locs hrh hS => ?_)
    refine r_istore C [(6, .int (jI 1)), (5, .int (jI i)), (4, .ref zoD), (3, .ref zoL), (2, .ref (zR + 0)), (1, .ref (zC + 0)), (0, .ref b)] dL_law_1193 hl (by decide) rfl (fun ls hl => ?_)
    refine r_aload_n C dL_law_1195 rfl hl 4 rfl ?_
    refine r_aload_n C dL_law_1196 rfl hl 6 rfl ?_
    refine r_iload C dL_law_1197 hl 1 rfl ?_
    refine r_iconst C dL_law_1199 ?_
    refine r_iadd C dL_law_1200 ?_
    refine r_sld C A hS (i := i + 1) (v := p0) ⟨by omega, by omega⟩ ⟨by omega, by omega⟩ hx0 dL_law_1201 ?_
    refine rl_RI (As := [.int (jI p0)]) (rest := []) C A hS (fun E' => c_X11_best l E' zR hp0 hfR) jy_X11_best rfl lk_L_173 dL_law_1202 rfl rfl hl.1 (Nat.le_of_ble_eq_true rfl) ⟨Nat.le_of_ble_eq_true rfl, Nat.le_of_ble_eq_true rfl⟩ ⟨rfl, rfl⟩ ⟨by show cells + 1 ≤ 601024; omega, by show slots + 6 ≤ 7293034; omega⟩ (fun H locs hrR hS => ?_)
    refine r_istore C [(7, .int (jI r)), (6, .int (jI 1)), (5, .int (jI i)), (4, .ref zoD), (3, .ref zoL), (2, .ref (zR + 0)), (1, .ref (zC + 0)), (0, .ref b)] dL_law_1205 hl (by decide) rfl (fun ls hl => ?_)
    refine r_aload_n C dL_law_1207 rfl hl 5 rfl ?_
    refine rl_RI (As := []) (rest := []) C A hS (fun E' => c_X11_thrown l E' zR (show f_X11_thrown Mr' = some 1 by show some (Mr' 0 7) = some _; rw [ht])) jy_X11_thrown rfl lk_L_99 dL_law_1208 rfl rfl hl.1 (Nat.le_of_ble_eq_true rfl) ⟨Nat.le_of_ble_eq_true rfl, Nat.le_of_ble_eq_true rfl⟩ ⟨rfl, rfl⟩ ⟨by show cells + 1 ≤ 601024; omega, by show slots + 6 ≤ 7293034; omega⟩ (fun H locs hrt hS => ?_)
    refine r_iload C dL_law_1211 hl 1 rfl ?_
    refine r_icmp_eq C 1218 ⟨by decide, by decide⟩ ⟨by decide, by decide⟩ dL_law_1213 (by decide) (fun cq => ?_) (fun cq => absurd rfl cq)
    refine r_iload C dL_law_1218 hl 1 rfl ?_
    refine r_if_ne C 1235 ⟨by decide, by decide⟩ dL_law_1220 (by decide) (fun cq => ?_) (fun cq => absurd cq (by decide))
    refine r_goto C 1891 dL_law_1235 (by decide) ?_
    exact kk _ _ _ _ _ _ _ (by show cells + 1 ≤ cells + 1; omega) (by show slots + 6 ≤ slots + 6; omega) hS (lv_sub hl [2, 3, 4, 5, 6, 7] rfl)
set_option maxRecDepth 100000 in
set_option maxHeartbeats 8000000 in
theorem lc_bestWeek (hst : l.stackTraces = false) (C : Cx E0 p c cL_law 10 s args RL m) (A : LAt E0 b L xs zC zR zoL zoD zE s) {Mc Mr Mc' Mr' : Mem} {fL : Nat → Int64} {fD : Nat → UInt64} {H : Heap} {locs : List Loc} {ls : Array Slot} {cells slots : Nat} {i : Int} (hS : LStt E0 zC zR zoL zoD zE Mc Mr fL fD s H locs) (hi : 0 ≤ i ∧ i + 3 < (L : Int)) (hL : L ≤ 2048) (hl : lv_has ls 10 [(5, .int (jI i)), (4, .ref zoD), (3, .ref zoL), (2, .ref (zR + 0)), (1, .ref (zC + 0)), (0, .ref b)]) (hc : cells + 1 ≤ 601024 ∧ slots + 6 ≤ 7293034) (hstep : st_bestWeek Mc Mr Mc' Mr')
    (kk : ∀ (H1 : Heap) (locs1 : List Loc) (ls1 : Array Slot) (fL1 : Nat → Int64) (fD1 : Nat → UInt64) (c1 s1 : Nat), c1 ≤ cells + 1 → s1 ≤ slots + 6 → LStt E0 zC zR zoL zoD zE Mc' Mr' fL1 fD1 s H1 locs1 → lv_has ls1 10 [(5, .int (jI i)), (4, .ref zoD), (3, .ref zoL), (2, .ref (zR + 0)), (1, .ref (zC + 0)), (0, .ref b)] → W p l e room_1 s m args below meth c H1 locs1 c1 s1 Q (F0 m 1891 ls1 [])) : W p l e room_1 s m args below meth c H locs cells slots Q (F0 m 1238 ls []) := by
  have hcR : cells + 1 ≤ room_1.cells := hc.1
  have hsR : slots + 6 ≤ room_1.slots := hc.2
  unfold st_bestWeek at hstep
  obtain ⟨r, hf, hfR⟩ := hstep
  refine r_aload_n C dL_law_1238 rfl hl 4 rfl ?_
  refine rl_CI (As := []) (rest := []) C A hS (fun E' => c_X10_bestWeek l E' zC hf) jy_X10_bestWeek rfl lk_L_174 dL_law_1239 rfl rfl hl.1 (Nat.le_of_ble_eq_true rfl) ⟨Nat.le_of_ble_eq_true rfl, Nat.le_of_ble_eq_true rfl⟩ ⟨rfl, rfl⟩ ⟨by show cells ≤ 601024; omega, by show slots ≤ 7293034; omega⟩ (fun H locs hrC hS => ?_)
  refine r_aload_n C dL_law_1242 rfl hl 3 rfl ?_
  refine rl_RI (As := []) (rest := [.int (jI r)]) C A hS (fun E' => c_X11_bestWeek l E' zR hfR) jy_X11_bestWeek rfl lk_L_177 dL_law_1243 rfl rfl hl.1 (Nat.le_of_ble_eq_true rfl) ⟨Nat.le_of_ble_eq_true rfl, Nat.le_of_ble_eq_true rfl⟩ ⟨rfl, rfl⟩ ⟨by show cells ≤ 601024; omega, by show slots ≤ 7293034; omega⟩ (fun H locs hrR hS => ?_)
  refine r_icmp_eq C 1891 hrC hrC dL_law_1246 (by decide) (fun cq => ?_) (fun cq => absurd rfl cq)
  exact kk _ _ _ _ _ _ _ (by omega) (by omega) hS (lv_sub hl [0, 1, 2, 3, 4, 5] rfl)
set_option maxRecDepth 100000 in
set_option maxHeartbeats 8000000 in
theorem lc_bestSpeed (hst : l.stackTraces = false) (C : Cx E0 p c cL_law 10 s args RL m) (A : LAt E0 b L xs zC zR zoL zoD zE s) {Mc Mr Mc' Mr' : Mem} {fL : Nat → Int64} {fD : Nat → UInt64} {H : Heap} {locs : List Loc} {ls : Array Slot} {cells slots : Nat} {i : Int} (hS : LStt E0 zC zR zoL zoD zE Mc Mr fL fD s H locs) (hi : 0 ≤ i ∧ i + 3 < (L : Int)) (hL : L ≤ 2048) (hl : lv_has ls 10 [(5, .int (jI i)), (4, .ref zoD), (3, .ref zoL), (2, .ref (zR + 0)), (1, .ref (zC + 0)), (0, .ref b)]) (hc : cells + 1 ≤ 601024 ∧ slots + 6 ≤ 7293034) (hstep : st_bestSpeed Mc Mr Mc' Mr')
    (kk : ∀ (H1 : Heap) (locs1 : List Loc) (ls1 : Array Slot) (fL1 : Nat → Int64) (fD1 : Nat → UInt64) (c1 s1 : Nat), c1 ≤ cells + 1 → s1 ≤ slots + 6 → LStt E0 zC zR zoL zoD zE Mc' Mr' fL1 fD1 s H1 locs1 → lv_has ls1 10 [(5, .int (jI i)), (4, .ref zoD), (3, .ref zoL), (2, .ref (zR + 0)), (1, .ref (zC + 0)), (0, .ref b)] → W p l e room_1 s m args below meth c H1 locs1 c1 s1 Q (F0 m 1891 ls1 [])) : W p l e room_1 s m args below meth c H locs cells slots Q (F0 m 1251 ls []) := by
  have hcR : cells + 1 ≤ room_1.cells := hc.1
  have hsR : slots + 6 ≤ room_1.slots := hc.2
  unfold st_bestSpeed at hstep
  obtain ⟨r, hf, rfl, hfR⟩ := hstep
  refine r_aload_n C dL_law_1251 rfl hl 4 rfl ?_
  refine rl_CI (As := []) (rest := []) C A hS (fun E' => c_X10_bestSpeed l E' zC hf) jy_X10_bestSpeed rfl lk_L_178 dL_law_1252 rfl rfl hl.1 (Nat.le_of_ble_eq_true rfl) ⟨Nat.le_of_ble_eq_true rfl, Nat.le_of_ble_eq_true rfl⟩ ⟨rfl, rfl⟩ ⟨by show cells ≤ 601024; omega, by show slots ≤ 7293034; omega⟩ (fun H locs hrC hS => ?_)
  refine r_aload_n C dL_law_1255 rfl hl 3 rfl ?_
  refine rl_RI (As := []) (rest := [.int (jI r)]) C A hS (fun E' => c_X11_bestSpeed l E' zR hfR) jy_X11_bestSpeed rfl lk_L_181 dL_law_1256 rfl rfl hl.1 (Nat.le_of_ble_eq_true rfl) ⟨Nat.le_of_ble_eq_true rfl, Nat.le_of_ble_eq_true rfl⟩ ⟨rfl, rfl⟩ ⟨by show cells ≤ 601024; omega, by show slots ≤ 7293034; omega⟩ (fun H locs hrR hS => ?_)
  refine r_icmp_eq C 1891 hrC hrC dL_law_1259 (by decide) (fun cq => ?_) (fun cq => absurd rfl cq)
  exact kk _ _ _ _ _ _ _ (by omega) (by omega) hS (lv_sub hl [0, 1, 2, 3, 4, 5] rfl)
set_option maxRecDepth 100000 in
set_option maxHeartbeats 8000000 in
theorem lc_edit (hst : l.stackTraces = false) (C : Cx E0 p c cL_law 10 s args RL m) (A : LAt E0 b L xs zC zR zoL zoD zE s) {Mc Mr Mc' Mr' : Mem} {fL : Nat → Int64} {fD : Nat → UInt64} {H : Heap} {locs : List Loc} {ls : Array Slot} {cells slots : Nat} {i : Int} (hS : LStt E0 zC zR zoL zoD zE Mc Mr fL fD s H locs) (hi : 0 ≤ i ∧ i + 3 < (L : Int)) (hL : L ≤ 2048) (hl : lv_has ls 10 [(5, .int (jI i)), (4, .ref zoD), (3, .ref zoL), (2, .ref (zR + 0)), (1, .ref (zC + 0)), (0, .ref b)]) (hc : cells + 1 ≤ 601024 ∧ slots + 6 ≤ 7293034) (hstep : st_edit Mc Mr Mc' Mr')
    (kk : ∀ (H1 : Heap) (locs1 : List Loc) (ls1 : Array Slot) (fL1 : Nat → Int64) (fD1 : Nat → UInt64) (c1 s1 : Nat), c1 ≤ cells + 1 → s1 ≤ slots + 6 → LStt E0 zC zR zoL zoD zE Mc' Mr' fL1 fD1 s H1 locs1 → lv_has ls1 10 [(5, .int (jI i)), (4, .ref zoD), (3, .ref zoL), (2, .ref (zR + 0)), (1, .ref (zC + 0)), (0, .ref b)] → W p l e room_1 s m args below meth c H1 locs1 c1 s1 Q (F0 m 1891 ls1 [])) : W p l e room_1 s m args below meth c H locs cells slots Q (F0 m 1264 ls []) := by
  have hcR : cells + 1 ≤ room_1.cells := hc.1
  have hsR : slots + 6 ≤ room_1.slots := hc.2
  unfold st_edit at hstep
  obtain ⟨r, hf, hfR⟩ := hstep
  refine r_aload_n C dL_law_1264 rfl hl 4 rfl ?_
  refine rl_CI (As := []) (rest := []) C A hS (fun E' => c_X10_edit l E' zC hf) jy_X10_edit rfl lk_L_182 dL_law_1265 rfl rfl hl.1 (Nat.le_of_ble_eq_true rfl) ⟨Nat.le_of_ble_eq_true rfl, Nat.le_of_ble_eq_true rfl⟩ ⟨rfl, rfl⟩ ⟨by show cells ≤ 601024; omega, by show slots ≤ 7293034; omega⟩ (fun H locs hrC hS => ?_)
  refine r_aload_n C dL_law_1268 rfl hl 3 rfl ?_
  refine rl_RI (As := []) (rest := [.int (jI r)]) C A hS (fun E' => c_X11_edit l E' zR hfR) jy_X11_edit rfl lk_L_185 dL_law_1269 rfl rfl hl.1 (Nat.le_of_ble_eq_true rfl) ⟨Nat.le_of_ble_eq_true rfl, Nat.le_of_ble_eq_true rfl⟩ ⟨rfl, rfl⟩ ⟨by show cells ≤ 601024; omega, by show slots ≤ 7293034; omega⟩ (fun H locs hrR hS => ?_)
  refine r_icmp_eq C 1891 hrC hrC dL_law_1272 (by decide) (fun cq => ?_) (fun cq => absurd rfl cq)
  exact kk _ _ _ _ _ _ _ (by omega) (by omega) hS (lv_sub hl [0, 1, 2, 3, 4, 5] rfl)
set_option maxRecDepth 100000 in
set_option maxHeartbeats 8000000 in
theorem lc_say (hst : l.stackTraces = false) (C : Cx E0 p c cL_law 10 s args RL m) (A : LAt E0 b L xs zC zR zoL zoD zE s) {Mc Mr Mc' Mr' : Mem} {fL : Nat → Int64} {fD : Nat → UInt64} {H : Heap} {locs : List Loc} {ls : Array Slot} {cells slots : Nat} {i : Int} (hS : LStt E0 zC zR zoL zoD zE Mc Mr fL fD s H locs) (hi : 0 ≤ i ∧ i + 3 < (L : Int)) (hL : L ≤ 2048) (hl : lv_has ls 10 [(5, .int (jI i)), (4, .ref zoD), (3, .ref zoL), (2, .ref (zR + 0)), (1, .ref (zC + 0)), (0, .ref b)]) (hc : cells + 1 ≤ 601024 ∧ slots + 6 ≤ 7293034) (hstep : st_say Mc Mr Mc' Mr')
    (kk : ∀ (H1 : Heap) (locs1 : List Loc) (ls1 : Array Slot) (fL1 : Nat → Int64) (fD1 : Nat → UInt64) (c1 s1 : Nat), c1 ≤ cells + 1 → s1 ≤ slots + 6 → LStt E0 zC zR zoL zoD zE Mc' Mr' fL1 fD1 s H1 locs1 → lv_has ls1 10 [(5, .int (jI i)), (4, .ref zoD), (3, .ref zoL), (2, .ref (zR + 0)), (1, .ref (zC + 0)), (0, .ref b)] → W p l e room_1 s m args below meth c H1 locs1 c1 s1 Q (F0 m 1891 ls1 [])) : W p l e room_1 s m args below meth c H locs cells slots Q (F0 m 1277 ls []) := by
  have hcR : cells + 1 ≤ room_1.cells := hc.1
  have hsR : slots + 6 ≤ room_1.slots := hc.2
  unfold st_say at hstep
  obtain ⟨r, hf, hfR⟩ := hstep
  refine r_aload_n C dL_law_1277 rfl hl 4 rfl ?_
  refine rl_CI (As := []) (rest := []) C A hS (fun E' => c_X10_say l E' zC hf) jy_X10_say rfl lk_L_186 dL_law_1278 rfl rfl hl.1 (Nat.le_of_ble_eq_true rfl) ⟨Nat.le_of_ble_eq_true rfl, Nat.le_of_ble_eq_true rfl⟩ ⟨rfl, rfl⟩ ⟨by show cells ≤ 601024; omega, by show slots ≤ 7293034; omega⟩ (fun H locs hrC hS => ?_)
  refine r_aload_n C dL_law_1281 rfl hl 3 rfl ?_
  refine rl_RI (As := []) (rest := [.int (jI r)]) C A hS (fun E' => c_X11_say l E' zR hfR) jy_X11_say rfl lk_L_189 dL_law_1282 rfl rfl hl.1 (Nat.le_of_ble_eq_true rfl) ⟨Nat.le_of_ble_eq_true rfl, Nat.le_of_ble_eq_true rfl⟩ ⟨rfl, rfl⟩ ⟨by show cells ≤ 601024; omega, by show slots ≤ 7293034; omega⟩ (fun H locs hrR hS => ?_)
  refine r_icmp_eq C 1891 hrC hrC dL_law_1285 (by decide) (fun cq => ?_) (fun cq => absurd rfl cq)
  exact kk _ _ _ _ _ _ _ (by omega) (by omega) hS (lv_sub hl [0, 1, 2, 3, 4, 5] rfl)
set_option maxRecDepth 100000 in
set_option maxHeartbeats 8000000 in
theorem lc_assemble (hst : l.stackTraces = false) (C : Cx E0 p c cL_law 10 s args RL m) (A : LAt E0 b L xs zC zR zoL zoD zE s) {Mc Mr Mc' Mr' : Mem} {fL : Nat → Int64} {fD : Nat → UInt64} {H : Heap} {locs : List Loc} {ls : Array Slot} {cells slots : Nat} {i : Int} (hS : LStt E0 zC zR zoL zoD zE Mc Mr fL fD s H locs) (hi : 0 ≤ i ∧ i + 3 < (L : Int)) (hL : L ≤ 2048) (hl : lv_has ls 10 [(5, .int (jI i)), (4, .ref zoD), (3, .ref zoL), (2, .ref (zR + 0)), (1, .ref (zC + 0)), (0, .ref b)]) (hc : cells + 1 ≤ 601024 ∧ slots + 6 ≤ 7293034) (hstep : st_assemble Mc Mr Mc' Mr')
    (kk : ∀ (H1 : Heap) (locs1 : List Loc) (ls1 : Array Slot) (fL1 : Nat → Int64) (fD1 : Nat → UInt64) (c1 s1 : Nat), c1 ≤ cells + 1 → s1 ≤ slots + 6 → LStt E0 zC zR zoL zoD zE Mc' Mr' fL1 fD1 s H1 locs1 → lv_has ls1 10 [(5, .int (jI i)), (4, .ref zoD), (3, .ref zoL), (2, .ref (zR + 0)), (1, .ref (zC + 0)), (0, .ref b)] → W p l e room_1 s m args below meth c H1 locs1 c1 s1 Q (F0 m 1891 ls1 [])) : W p l e room_1 s m args below meth c H locs cells slots Q (F0 m 1290 ls []) := by
  have hcR : cells + 1 ≤ room_1.cells := hc.1
  have hsR : slots + 6 ≤ room_1.slots := hc.2
  unfold st_assemble at hstep
  obtain ⟨r, hf, hfR⟩ := hstep
  refine r_aload_n C dL_law_1290 rfl hl 4 rfl ?_
  refine rl_CI (As := []) (rest := []) C A hS (fun E' => c_X10_assemble l E' zC hf) jy_X10_assemble rfl lk_L_190 dL_law_1291 rfl rfl hl.1 (Nat.le_of_ble_eq_true rfl) ⟨Nat.le_of_ble_eq_true rfl, Nat.le_of_ble_eq_true rfl⟩ ⟨rfl, rfl⟩ ⟨by show cells ≤ 601024; omega, by show slots ≤ 7293034; omega⟩ (fun H locs hrC hS => ?_)
  refine r_aload_n C dL_law_1294 rfl hl 3 rfl ?_
  refine rl_RI (As := []) (rest := [.int (jI r)]) C A hS (fun E' => c_X11_assemble l E' zR hfR) jy_X11_assemble rfl lk_L_193 dL_law_1295 rfl rfl hl.1 (Nat.le_of_ble_eq_true rfl) ⟨Nat.le_of_ble_eq_true rfl, Nat.le_of_ble_eq_true rfl⟩ ⟨rfl, rfl⟩ ⟨by show cells ≤ 601024; omega, by show slots ≤ 7293034; omega⟩ (fun H locs hrR hS => ?_)
  refine r_icmp_eq C 1891 hrC hrC dL_law_1298 (by decide) (fun cq => ?_) (fun cq => absurd rfl cq)
  exact kk _ _ _ _ _ _ _ (by omega) (by omega) hS (lv_sub hl [0, 1, 2, 3, 4, 5] rfl)
set_option maxRecDepth 100000 in
set_option maxHeartbeats 8000000 in
theorem lc_insert (hst : l.stackTraces = false) (C : Cx E0 p c cL_law 10 s args RL m) (A : LAt E0 b L xs zC zR zoL zoD zE s) {Mc Mr Mc' Mr' : Mem} {fL : Nat → Int64} {fD : Nat → UInt64} {H : Heap} {locs : List Loc} {ls : Array Slot} {cells slots : Nat} {i : Int} {p0 : Int} {p1 : Int} {p2 : Int} (hS : LStt E0 zC zR zoL zoD zE Mc Mr fL fD s H locs) (hi : 0 ≤ i ∧ i + 3 < (L : Int)) (hL : L ≤ 2048) (hx0 : xs (i + 1).toNat = jI p0) (hp0 : inR p0) (hx1 : xs (i + 2).toNat = jI p1) (hp1 : inR p1) (hx2 : xs (i + 3).toNat = jI p2) (hp2 : inR p2) (hl : lv_has ls 10 [(5, .int (jI i)), (4, .ref zoD), (3, .ref zoL), (2, .ref (zR + 0)), (1, .ref (zC + 0)), (0, .ref b)]) (hc : cells + 1 ≤ 601024 ∧ slots + 6 ≤ 7293034) (hstep : st_insert p0 p1 p2 Mc Mr Mc' Mr')
    (kk : ∀ (H1 : Heap) (locs1 : List Loc) (ls1 : Array Slot) (fL1 : Nat → Int64) (fD1 : Nat → UInt64) (c1 s1 : Nat), c1 ≤ cells + 1 → s1 ≤ slots + 6 → LStt E0 zC zR zoL zoD zE Mc' Mr' fL1 fD1 s H1 locs1 → lv_has ls1 10 [(5, .int (jI i)), (4, .ref zoD), (3, .ref zoL), (2, .ref (zR + 0)), (1, .ref (zC + 0)), (0, .ref b)] → W p l e room_1 s m args below meth c H1 locs1 c1 s1 Q (F0 m 1891 ls1 [])) : W p l e room_1 s m args below meth c H locs cells slots Q (F0 m 1303 ls []) := by
  have hcR : cells + 1 ≤ room_1.cells := hc.1
  have hsR : slots + 6 ≤ room_1.slots := hc.2
  unfold st_insert at hstep
  rcases hstep with ⟨r, hf, hfR, ht⟩ | ⟨hf, r, hfR, ht⟩ | ⟨hf, r, hfR, ht⟩
  · refine r_aload_n C dL_law_1303 rfl hl 4 rfl ?_
    refine r_aload_n C dL_law_1304 rfl hl 5 rfl ?_
    refine r_iload C dL_law_1305 hl 0 rfl ?_
    refine r_iconst C dL_law_1307 ?_
    refine r_iadd C dL_law_1308 ?_
    refine r_sld C A hS (i := i + 1) (v := p0) ⟨by omega, by omega⟩ ⟨by omega, by omega⟩ hx0 dL_law_1309 ?_
    refine r_aload_n C dL_law_1310 rfl hl 5 rfl ?_
    refine r_iload C dL_law_1311 hl 0 rfl ?_
    refine r_iconst C dL_law_1313 ?_
    refine r_iadd C dL_law_1314 ?_
    refine r_sld C A hS (i := i + 2) (v := p1) ⟨by omega, by omega⟩ ⟨by omega, by omega⟩ hx1 dL_law_1315 ?_
    refine r_aload_n C dL_law_1316 rfl hl 5 rfl ?_
    refine r_iload C dL_law_1317 hl 0 rfl ?_
    refine r_iconst C dL_law_1319 ?_
    refine r_iadd C dL_law_1320 ?_
    refine r_sld C A hS (i := i + 3) (v := p2) ⟨by omega, by omega⟩ ⟨by omega, by omega⟩ hx2 dL_law_1321 ?_
    refine r_aload_n C dL_law_1322 rfl hl 2 rfl ?_
    refine rl_HL (n := 5) (As := [.ref (zC + 0), .int (jI p0), .int (jI p1), .int (jI p2), .ref zoL]) (rest := []) C A hS (w_insert l (eRg E0 (PO zC zoL zE)) zC zoL fL hp0 hp1 hp2 hf) (gh_insert).1 (gh_insert).2.1 (gh_insert).2.2 ⟨by decide, by decide, by decide +kernel⟩ lk_L_194 dL_law_1323 rfl rfl hl.1 (Nat.le_of_ble_eq_true rfl) ⟨Nat.le_of_ble_eq_true rfl, Nat.le_of_ble_eq_true rfl⟩ ⟨by show cells + 0 ≤ 601024; omega, by show slots + 0 ≤ 7293034; omega⟩ (fun H locs hrh hS => ?_)
    refine r_istore C [(6, .int (jI 0)), (5, .int (jI i)), (4, .ref zoD), (3, .ref zoL), (2, .ref (zR + 0)), (1, .ref (zC + 0)), (0, .ref b)] dL_law_1326 hl (by decide) rfl (fun ls hl => ?_)
    refine r_aload_n C dL_law_1328 rfl hl 4 rfl ?_
    refine r_aload_n C dL_law_1329 rfl hl 6 rfl ?_
    refine r_iload C dL_law_1330 hl 1 rfl ?_
    refine r_iconst C dL_law_1332 ?_
    refine r_iadd C dL_law_1333 ?_
    refine r_sld C A hS (i := i + 1) (v := p0) ⟨by omega, by omega⟩ ⟨by omega, by omega⟩ hx0 dL_law_1334 ?_
    refine r_aload_n C dL_law_1335 rfl hl 6 rfl ?_
    refine r_iload C dL_law_1336 hl 1 rfl ?_
    refine r_iconst C dL_law_1338 ?_
    refine r_iadd C dL_law_1339 ?_
    refine r_sld C A hS (i := i + 2) (v := p1) ⟨by omega, by omega⟩ ⟨by omega, by omega⟩ hx1 dL_law_1340 ?_
    refine r_aload_n C dL_law_1341 rfl hl 6 rfl ?_
    refine r_iload C dL_law_1342 hl 1 rfl ?_
    refine r_iconst C dL_law_1344 ?_
    refine r_iadd C dL_law_1345 ?_
    refine r_sld C A hS (i := i + 3) (v := p2) ⟨by omega, by omega⟩ ⟨by omega, by omega⟩ hx2 dL_law_1346 ?_
    refine rl_RI (As := [.int (jI p0), .int (jI p1), .int (jI p2)]) (rest := []) C A hS (fun E' => c_X11_insert l E' zR hp0 hp1 hp2 hfR) jy_X11_insert rfl lk_L_197 dL_law_1347 rfl rfl hl.1 (Nat.le_of_ble_eq_true rfl) ⟨Nat.le_of_ble_eq_true rfl, Nat.le_of_ble_eq_true rfl⟩ ⟨rfl, rfl⟩ ⟨by show cells + 0 ≤ 601024; omega, by show slots + 0 ≤ 7293034; omega⟩ (fun H locs hrR hS => ?_)
    refine r_istore C [(7, .int (jI r)), (6, .int (jI 0)), (5, .int (jI i)), (4, .ref zoD), (3, .ref zoL), (2, .ref (zR + 0)), (1, .ref (zC + 0)), (0, .ref b)] dL_law_1350 hl (by decide) rfl (fun ls hl => ?_)
    refine r_aload_n C dL_law_1352 rfl hl 5 rfl ?_
    refine rl_RI (As := []) (rest := []) C A hS (fun E' => c_X11_thrown l E' zR (show f_X11_thrown Mr' = some 0 by show some (Mr' 0 7) = some _; rw [ht])) jy_X11_thrown rfl lk_L_99 dL_law_1353 rfl rfl hl.1 (Nat.le_of_ble_eq_true rfl) ⟨Nat.le_of_ble_eq_true rfl, Nat.le_of_ble_eq_true rfl⟩ ⟨rfl, rfl⟩ ⟨by show cells + 0 ≤ 601024; omega, by show slots + 0 ≤ 7293034; omega⟩ (fun H locs hrt hS => ?_)
    refine r_iload C dL_law_1356 hl 1 rfl ?_
    refine r_icmp_eq C 1363 ⟨by decide, by decide⟩ ⟨by decide, by decide⟩ dL_law_1358 (by decide) (fun cq => ?_) (fun cq => absurd rfl cq)
    refine r_iload C dL_law_1363 hl 1 rfl ?_
    refine r_if_ne C 1380 ⟨by decide, by decide⟩ dL_law_1365 (by decide) (fun cq => absurd rfl cq) (fun cq => ?_)
    refine r_aload_n C dL_law_1368 rfl hl 4 rfl ?_
    refine r_iconst C dL_law_1369 ?_
    refine r_lald C hS dL_law_1370 ?_
    refine r_iload C dL_law_1371 hl 0 rfl ?_
    refine lv_i2l C.1.1 C.1.2.1 dL_law_1373 rfl ?_
    refine r_lcmpE C (by simp [vp_updL]) dL_law_1374 ?_
    refine r_if_eq C 1380 ⟨by decide, by decide⟩ dL_law_1375 (by decide) (fun cq => ?_) (fun cq => absurd rfl cq)
    refine r_goto C 1891 dL_law_1380 (by decide) ?_
    exact kk _ _ _ _ _ _ _ (by show cells + 0 ≤ cells + 1; omega) (by show slots + 0 ≤ slots + 6; omega) hS (lv_sub hl [2, 3, 4, 5, 6, 7] rfl)
  · refine r_aload_n C dL_law_1303 rfl hl 4 rfl ?_
    refine r_aload_n C dL_law_1304 rfl hl 5 rfl ?_
    refine r_iload C dL_law_1305 hl 0 rfl ?_
    refine r_iconst C dL_law_1307 ?_
    refine r_iadd C dL_law_1308 ?_
    refine r_sld C A hS (i := i + 1) (v := p0) ⟨by omega, by omega⟩ ⟨by omega, by omega⟩ hx0 dL_law_1309 ?_
    refine r_aload_n C dL_law_1310 rfl hl 5 rfl ?_
    refine r_iload C dL_law_1311 hl 0 rfl ?_
    refine r_iconst C dL_law_1313 ?_
    refine r_iadd C dL_law_1314 ?_
    refine r_sld C A hS (i := i + 2) (v := p1) ⟨by omega, by omega⟩ ⟨by omega, by omega⟩ hx1 dL_law_1315 ?_
    refine r_aload_n C dL_law_1316 rfl hl 5 rfl ?_
    refine r_iload C dL_law_1317 hl 0 rfl ?_
    refine r_iconst C dL_law_1319 ?_
    refine r_iadd C dL_law_1320 ?_
    refine r_sld C A hS (i := i + 3) (v := p2) ⟨by omega, by omega⟩ ⟨by omega, by omega⟩ hx2 dL_law_1321 ?_
    refine r_aload_n C dL_law_1322 rfl hl 2 rfl ?_
    refine rl_HL (n := 5) (As := [.ref (zC + 0), .int (jI p0), .int (jI p1), .int (jI p2), .ref zoL]) (rest := []) C A hS (w1_insert l hst (eRg E0 (PO zC zoL zE)) zC zoL fL hp0 hp1 hp2 hf) (gh_insert).1 (gh_insert).2.1 (gh_insert).2.2 ⟨by decide, by decide, by decide +kernel⟩ lk_L_194 dL_law_1323 rfl rfl hl.1 (Nat.le_of_ble_eq_true rfl) ⟨Nat.le_of_ble_eq_true rfl, Nat.le_of_ble_eq_true rfl⟩ ⟨by show cells + 1 ≤ 601024; omega, by show slots + 6 ≤ 7293034; omega⟩ (fun H locs hrh hS => ?_)
    refine r_istore C [(6, .int (jI 1)), (5, .int (jI i)), (4, .ref zoD), (3, .ref zoL), (2, .ref (zR + 0)), (1, .ref (zC + 0)), (0, .ref b)] dL_law_1326 hl (by decide) rfl (fun ls hl => ?_)
    refine r_aload_n C dL_law_1328 rfl hl 4 rfl ?_
    refine r_aload_n C dL_law_1329 rfl hl 6 rfl ?_
    refine r_iload C dL_law_1330 hl 1 rfl ?_
    refine r_iconst C dL_law_1332 ?_
    refine r_iadd C dL_law_1333 ?_
    refine r_sld C A hS (i := i + 1) (v := p0) ⟨by omega, by omega⟩ ⟨by omega, by omega⟩ hx0 dL_law_1334 ?_
    refine r_aload_n C dL_law_1335 rfl hl 6 rfl ?_
    refine r_iload C dL_law_1336 hl 1 rfl ?_
    refine r_iconst C dL_law_1338 ?_
    refine r_iadd C dL_law_1339 ?_
    refine r_sld C A hS (i := i + 2) (v := p1) ⟨by omega, by omega⟩ ⟨by omega, by omega⟩ hx1 dL_law_1340 ?_
    refine r_aload_n C dL_law_1341 rfl hl 6 rfl ?_
    refine r_iload C dL_law_1342 hl 1 rfl ?_
    refine r_iconst C dL_law_1344 ?_
    refine r_iadd C dL_law_1345 ?_
    refine r_sld C A hS (i := i + 3) (v := p2) ⟨by omega, by omega⟩ ⟨by omega, by omega⟩ hx2 dL_law_1346 ?_
    refine rl_RI (As := [.int (jI p0), .int (jI p1), .int (jI p2)]) (rest := []) C A hS (fun E' => c_X11_insert l E' zR hp0 hp1 hp2 hfR) jy_X11_insert rfl lk_L_197 dL_law_1347 rfl rfl hl.1 (Nat.le_of_ble_eq_true rfl) ⟨Nat.le_of_ble_eq_true rfl, Nat.le_of_ble_eq_true rfl⟩ ⟨rfl, rfl⟩ ⟨by show cells + 1 ≤ 601024; omega, by show slots + 6 ≤ 7293034; omega⟩ (fun H locs hrR hS => ?_)
    refine r_istore C [(7, .int (jI r)), (6, .int (jI 1)), (5, .int (jI i)), (4, .ref zoD), (3, .ref zoL), (2, .ref (zR + 0)), (1, .ref (zC + 0)), (0, .ref b)] dL_law_1350 hl (by decide) rfl (fun ls hl => ?_)
    refine r_aload_n C dL_law_1352 rfl hl 5 rfl ?_
    refine rl_RI (As := []) (rest := []) C A hS (fun E' => c_X11_thrown l E' zR (show f_X11_thrown Mr' = some 1 by show some (Mr' 0 7) = some _; rw [ht])) jy_X11_thrown rfl lk_L_99 dL_law_1353 rfl rfl hl.1 (Nat.le_of_ble_eq_true rfl) ⟨Nat.le_of_ble_eq_true rfl, Nat.le_of_ble_eq_true rfl⟩ ⟨rfl, rfl⟩ ⟨by show cells + 1 ≤ 601024; omega, by show slots + 6 ≤ 7293034; omega⟩ (fun H locs hrt hS => ?_)
    refine r_iload C dL_law_1356 hl 1 rfl ?_
    refine r_icmp_eq C 1363 ⟨by decide, by decide⟩ ⟨by decide, by decide⟩ dL_law_1358 (by decide) (fun cq => ?_) (fun cq => absurd rfl cq)
    refine r_iload C dL_law_1363 hl 1 rfl ?_
    refine r_if_ne C 1380 ⟨by decide, by decide⟩ dL_law_1365 (by decide) (fun cq => ?_) (fun cq => absurd cq (by decide))
    refine r_goto C 1891 dL_law_1380 (by decide) ?_
    exact kk _ _ _ _ _ _ _ (by show cells + 1 ≤ cells + 1; omega) (by show slots + 6 ≤ slots + 6; omega) hS (lv_sub hl [2, 3, 4, 5, 6, 7] rfl)
  · refine r_aload_n C dL_law_1303 rfl hl 4 rfl ?_
    refine r_aload_n C dL_law_1304 rfl hl 5 rfl ?_
    refine r_iload C dL_law_1305 hl 0 rfl ?_
    refine r_iconst C dL_law_1307 ?_
    refine r_iadd C dL_law_1308 ?_
    refine r_sld C A hS (i := i + 1) (v := p0) ⟨by omega, by omega⟩ ⟨by omega, by omega⟩ hx0 dL_law_1309 ?_
    refine r_aload_n C dL_law_1310 rfl hl 5 rfl ?_
    refine r_iload C dL_law_1311 hl 0 rfl ?_
    refine r_iconst C dL_law_1313 ?_
    refine r_iadd C dL_law_1314 ?_
    refine r_sld C A hS (i := i + 2) (v := p1) ⟨by omega, by omega⟩ ⟨by omega, by omega⟩ hx1 dL_law_1315 ?_
    refine r_aload_n C dL_law_1316 rfl hl 5 rfl ?_
    refine r_iload C dL_law_1317 hl 0 rfl ?_
    refine r_iconst C dL_law_1319 ?_
    refine r_iadd C dL_law_1320 ?_
    refine r_sld C A hS (i := i + 3) (v := p2) ⟨by omega, by omega⟩ ⟨by omega, by omega⟩ hx2 dL_law_1321 ?_
    refine r_aload_n C dL_law_1322 rfl hl 2 rfl ?_
    refine rl_HL (n := 5) (As := [.ref (zC + 0), .int (jI p0), .int (jI p1), .int (jI p2), .ref zoL]) (rest := []) C A hS (w2_insert l hst (eRg E0 (PO zC zoL zE)) zC zoL fL hp0 hp1 hp2 hf) (gh_insert).1 (gh_insert).2.1 (gh_insert).2.2 ⟨by decide, by decide, by decide +kernel⟩ lk_L_194 dL_law_1323 rfl rfl hl.1 (Nat.le_of_ble_eq_true rfl) ⟨Nat.le_of_ble_eq_true rfl, Nat.le_of_ble_eq_true rfl⟩ ⟨by show cells + 1 ≤ 601024; omega, by show slots + 6 ≤ 7293034; omega⟩ (fun H locs hrh hS => ?_)
    refine r_istore C [(6, .int (jI 2)), (5, .int (jI i)), (4, .ref zoD), (3, .ref zoL), (2, .ref (zR + 0)), (1, .ref (zC + 0)), (0, .ref b)] dL_law_1326 hl (by decide) rfl (fun ls hl => ?_)
    refine r_aload_n C dL_law_1328 rfl hl 4 rfl ?_
    refine r_aload_n C dL_law_1329 rfl hl 6 rfl ?_
    refine r_iload C dL_law_1330 hl 1 rfl ?_
    refine r_iconst C dL_law_1332 ?_
    refine r_iadd C dL_law_1333 ?_
    refine r_sld C A hS (i := i + 1) (v := p0) ⟨by omega, by omega⟩ ⟨by omega, by omega⟩ hx0 dL_law_1334 ?_
    refine r_aload_n C dL_law_1335 rfl hl 6 rfl ?_
    refine r_iload C dL_law_1336 hl 1 rfl ?_
    refine r_iconst C dL_law_1338 ?_
    refine r_iadd C dL_law_1339 ?_
    refine r_sld C A hS (i := i + 2) (v := p1) ⟨by omega, by omega⟩ ⟨by omega, by omega⟩ hx1 dL_law_1340 ?_
    refine r_aload_n C dL_law_1341 rfl hl 6 rfl ?_
    refine r_iload C dL_law_1342 hl 1 rfl ?_
    refine r_iconst C dL_law_1344 ?_
    refine r_iadd C dL_law_1345 ?_
    refine r_sld C A hS (i := i + 3) (v := p2) ⟨by omega, by omega⟩ ⟨by omega, by omega⟩ hx2 dL_law_1346 ?_
    refine rl_RI (As := [.int (jI p0), .int (jI p1), .int (jI p2)]) (rest := []) C A hS (fun E' => c_X11_insert l E' zR hp0 hp1 hp2 hfR) jy_X11_insert rfl lk_L_197 dL_law_1347 rfl rfl hl.1 (Nat.le_of_ble_eq_true rfl) ⟨Nat.le_of_ble_eq_true rfl, Nat.le_of_ble_eq_true rfl⟩ ⟨rfl, rfl⟩ ⟨by show cells + 1 ≤ 601024; omega, by show slots + 6 ≤ 7293034; omega⟩ (fun H locs hrR hS => ?_)
    refine r_istore C [(7, .int (jI r)), (6, .int (jI 2)), (5, .int (jI i)), (4, .ref zoD), (3, .ref zoL), (2, .ref (zR + 0)), (1, .ref (zC + 0)), (0, .ref b)] dL_law_1350 hl (by decide) rfl (fun ls hl => ?_)
    refine r_aload_n C dL_law_1352 rfl hl 5 rfl ?_
    refine rl_RI (As := []) (rest := []) C A hS (fun E' => c_X11_thrown l E' zR (show f_X11_thrown Mr' = some 2 by show some (Mr' 0 7) = some _; rw [ht])) jy_X11_thrown rfl lk_L_99 dL_law_1353 rfl rfl hl.1 (Nat.le_of_ble_eq_true rfl) ⟨Nat.le_of_ble_eq_true rfl, Nat.le_of_ble_eq_true rfl⟩ ⟨rfl, rfl⟩ ⟨by show cells + 1 ≤ 601024; omega, by show slots + 6 ≤ 7293034; omega⟩ (fun H locs hrt hS => ?_)
    refine r_iload C dL_law_1356 hl 1 rfl ?_
    refine r_icmp_eq C 1363 ⟨by decide, by decide⟩ ⟨by decide, by decide⟩ dL_law_1358 (by decide) (fun cq => ?_) (fun cq => absurd rfl cq)
    refine r_iload C dL_law_1363 hl 1 rfl ?_
    refine r_if_ne C 1380 ⟨by decide, by decide⟩ dL_law_1365 (by decide) (fun cq => ?_) (fun cq => absurd cq (by decide))
    refine r_goto C 1891 dL_law_1380 (by decide) ?_
    exact kk _ _ _ _ _ _ _ (by show cells + 1 ≤ cells + 1; omega) (by show slots + 6 ≤ slots + 6; omega) hS (lv_sub hl [2, 3, 4, 5, 6, 7] rfl)
set_option maxRecDepth 100000 in
set_option maxHeartbeats 8000000 in
theorem lc_trim (hst : l.stackTraces = false) (C : Cx E0 p c cL_law 10 s args RL m) (A : LAt E0 b L xs zC zR zoL zoD zE s) {Mc Mr Mc' Mr' : Mem} {fL : Nat → Int64} {fD : Nat → UInt64} {H : Heap} {locs : List Loc} {ls : Array Slot} {cells slots : Nat} {i : Int} {p0 : Int} {p1 : Int} (hS : LStt E0 zC zR zoL zoD zE Mc Mr fL fD s H locs) (hi : 0 ≤ i ∧ i + 3 < (L : Int)) (hL : L ≤ 2048) (hx0 : xs (i + 1).toNat = jI p0) (hp0 : inR p0) (hx1 : xs (i + 2).toNat = jI p1) (hp1 : inR p1) (hl : lv_has ls 10 [(5, .int (jI i)), (4, .ref zoD), (3, .ref zoL), (2, .ref (zR + 0)), (1, .ref (zC + 0)), (0, .ref b)]) (hc : cells + 1 ≤ 601024 ∧ slots + 6 ≤ 7293034) (hstep : st_trim p0 p1 Mc Mr Mc' Mr')
    (kk : ∀ (H1 : Heap) (locs1 : List Loc) (ls1 : Array Slot) (fL1 : Nat → Int64) (fD1 : Nat → UInt64) (c1 s1 : Nat), c1 ≤ cells + 1 → s1 ≤ slots + 6 → LStt E0 zC zR zoL zoD zE Mc' Mr' fL1 fD1 s H1 locs1 → lv_has ls1 10 [(5, .int (jI i)), (4, .ref zoD), (3, .ref zoL), (2, .ref (zR + 0)), (1, .ref (zC + 0)), (0, .ref b)] → W p l e room_1 s m args below meth c H1 locs1 c1 s1 Q (F0 m 1891 ls1 [])) : W p l e room_1 s m args below meth c H locs cells slots Q (F0 m 1383 ls []) := by
  have hcR : cells + 1 ≤ room_1.cells := hc.1
  have hsR : slots + 6 ≤ room_1.slots := hc.2
  unfold st_trim at hstep
  rcases hstep with ⟨r, hf, hfR, ht⟩ | ⟨hf, r, hfR, ht⟩ | ⟨hf, r, hfR, ht⟩
  · refine r_aload_n C dL_law_1383 rfl hl 4 rfl ?_
    refine r_aload_n C dL_law_1384 rfl hl 5 rfl ?_
    refine r_iload C dL_law_1385 hl 0 rfl ?_
    refine r_iconst C dL_law_1387 ?_
    refine r_iadd C dL_law_1388 ?_
    refine r_sld C A hS (i := i + 1) (v := p0) ⟨by omega, by omega⟩ ⟨by omega, by omega⟩ hx0 dL_law_1389 ?_
    refine r_aload_n C dL_law_1390 rfl hl 5 rfl ?_
    refine r_iload C dL_law_1391 hl 0 rfl ?_
    refine r_iconst C dL_law_1393 ?_
    refine r_iadd C dL_law_1394 ?_
    refine r_sld C A hS (i := i + 2) (v := p1) ⟨by omega, by omega⟩ ⟨by omega, by omega⟩ hx1 dL_law_1395 ?_
    refine r_aload_n C dL_law_1396 rfl hl 2 rfl ?_
    refine rl_HL (n := 4) (As := [.ref (zC + 0), .int (jI p0), .int (jI p1), .ref zoL]) (rest := []) C A hS (w_trim l (eRg E0 (PO zC zoL zE)) zC zoL fL hp0 hp1 hf) (gh_trim).1 (gh_trim).2.1 (gh_trim).2.2 ⟨by decide, by decide, by decide +kernel⟩ lk_L_198 dL_law_1397 rfl rfl hl.1 (Nat.le_of_ble_eq_true rfl) ⟨Nat.le_of_ble_eq_true rfl, Nat.le_of_ble_eq_true rfl⟩ ⟨by show cells + 0 ≤ 601024; omega, by show slots + 0 ≤ 7293034; omega⟩ (fun H locs hrh hS => ?_)
    refine r_istore C [(6, .int (jI 0)), (5, .int (jI i)), (4, .ref zoD), (3, .ref zoL), (2, .ref (zR + 0)), (1, .ref (zC + 0)), (0, .ref b)] dL_law_1400 hl (by decide) rfl (fun ls hl => ?_)
    refine r_aload_n C dL_law_1402 rfl hl 4 rfl ?_
    refine r_aload_n C dL_law_1403 rfl hl 6 rfl ?_
    refine r_iload C dL_law_1404 hl 1 rfl ?_
    refine r_iconst C dL_law_1406 ?_
    refine r_iadd C dL_law_1407 ?_
    refine r_sld C A hS (i := i + 1) (v := p0) ⟨by omega, by omega⟩ ⟨by omega, by omega⟩ hx0 dL_law_1408 ?_
    refine r_aload_n C dL_law_1409 rfl hl 6 rfl ?_
    refine r_iload C dL_law_1410 hl 1 rfl ?_
    refine r_iconst C dL_law_1412 ?_
    refine r_iadd C dL_law_1413 ?_
    refine r_sld C A hS (i := i + 2) (v := p1) ⟨by omega, by omega⟩ ⟨by omega, by omega⟩ hx1 dL_law_1414 ?_
    refine rl_RI (As := [.int (jI p0), .int (jI p1)]) (rest := []) C A hS (fun E' => c_X11_trim l E' zR hp0 hp1 hfR) jy_X11_trim rfl lk_L_200 dL_law_1415 rfl rfl hl.1 (Nat.le_of_ble_eq_true rfl) ⟨Nat.le_of_ble_eq_true rfl, Nat.le_of_ble_eq_true rfl⟩ ⟨rfl, rfl⟩ ⟨by show cells + 0 ≤ 601024; omega, by show slots + 0 ≤ 7293034; omega⟩ (fun H locs hrR hS => ?_)
    refine r_istore C [(7, .int (jI r)), (6, .int (jI 0)), (5, .int (jI i)), (4, .ref zoD), (3, .ref zoL), (2, .ref (zR + 0)), (1, .ref (zC + 0)), (0, .ref b)] dL_law_1418 hl (by decide) rfl (fun ls hl => ?_)
    refine r_aload_n C dL_law_1420 rfl hl 5 rfl ?_
    refine rl_RI (As := []) (rest := []) C A hS (fun E' => c_X11_thrown l E' zR (show f_X11_thrown Mr' = some 0 by show some (Mr' 0 7) = some _; rw [ht])) jy_X11_thrown rfl lk_L_99 dL_law_1421 rfl rfl hl.1 (Nat.le_of_ble_eq_true rfl) ⟨Nat.le_of_ble_eq_true rfl, Nat.le_of_ble_eq_true rfl⟩ ⟨rfl, rfl⟩ ⟨by show cells + 0 ≤ 601024; omega, by show slots + 0 ≤ 7293034; omega⟩ (fun H locs hrt hS => ?_)
    refine r_iload C dL_law_1424 hl 1 rfl ?_
    refine r_icmp_eq C 1431 ⟨by decide, by decide⟩ ⟨by decide, by decide⟩ dL_law_1426 (by decide) (fun cq => ?_) (fun cq => absurd rfl cq)
    refine r_iload C dL_law_1431 hl 1 rfl ?_
    refine r_if_ne C 1448 ⟨by decide, by decide⟩ dL_law_1433 (by decide) (fun cq => absurd rfl cq) (fun cq => ?_)
    refine r_aload_n C dL_law_1436 rfl hl 4 rfl ?_
    refine r_iconst C dL_law_1437 ?_
    refine r_lald C hS dL_law_1438 ?_
    refine r_iload C dL_law_1439 hl 0 rfl ?_
    refine lv_i2l C.1.1 C.1.2.1 dL_law_1441 rfl ?_
    refine r_lcmpE C (by simp [vp_updL]) dL_law_1442 ?_
    refine r_if_eq C 1448 ⟨by decide, by decide⟩ dL_law_1443 (by decide) (fun cq => ?_) (fun cq => absurd rfl cq)
    refine r_goto C 1891 dL_law_1448 (by decide) ?_
    exact kk _ _ _ _ _ _ _ (by show cells + 0 ≤ cells + 1; omega) (by show slots + 0 ≤ slots + 6; omega) hS (lv_sub hl [2, 3, 4, 5, 6, 7] rfl)
  · refine r_aload_n C dL_law_1383 rfl hl 4 rfl ?_
    refine r_aload_n C dL_law_1384 rfl hl 5 rfl ?_
    refine r_iload C dL_law_1385 hl 0 rfl ?_
    refine r_iconst C dL_law_1387 ?_
    refine r_iadd C dL_law_1388 ?_
    refine r_sld C A hS (i := i + 1) (v := p0) ⟨by omega, by omega⟩ ⟨by omega, by omega⟩ hx0 dL_law_1389 ?_
    refine r_aload_n C dL_law_1390 rfl hl 5 rfl ?_
    refine r_iload C dL_law_1391 hl 0 rfl ?_
    refine r_iconst C dL_law_1393 ?_
    refine r_iadd C dL_law_1394 ?_
    refine r_sld C A hS (i := i + 2) (v := p1) ⟨by omega, by omega⟩ ⟨by omega, by omega⟩ hx1 dL_law_1395 ?_
    refine r_aload_n C dL_law_1396 rfl hl 2 rfl ?_
    refine rl_HL (n := 4) (As := [.ref (zC + 0), .int (jI p0), .int (jI p1), .ref zoL]) (rest := []) C A hS (w1_trim l hst (eRg E0 (PO zC zoL zE)) zC zoL fL hp0 hp1 hf) (gh_trim).1 (gh_trim).2.1 (gh_trim).2.2 ⟨by decide, by decide, by decide +kernel⟩ lk_L_198 dL_law_1397 rfl rfl hl.1 (Nat.le_of_ble_eq_true rfl) ⟨Nat.le_of_ble_eq_true rfl, Nat.le_of_ble_eq_true rfl⟩ ⟨by show cells + 1 ≤ 601024; omega, by show slots + 6 ≤ 7293034; omega⟩ (fun H locs hrh hS => ?_)
    refine r_istore C [(6, .int (jI 1)), (5, .int (jI i)), (4, .ref zoD), (3, .ref zoL), (2, .ref (zR + 0)), (1, .ref (zC + 0)), (0, .ref b)] dL_law_1400 hl (by decide) rfl (fun ls hl => ?_)
    refine r_aload_n C dL_law_1402 rfl hl 4 rfl ?_
    refine r_aload_n C dL_law_1403 rfl hl 6 rfl ?_
    refine r_iload C dL_law_1404 hl 1 rfl ?_
    refine r_iconst C dL_law_1406 ?_
    refine r_iadd C dL_law_1407 ?_
    refine r_sld C A hS (i := i + 1) (v := p0) ⟨by omega, by omega⟩ ⟨by omega, by omega⟩ hx0 dL_law_1408 ?_
    refine r_aload_n C dL_law_1409 rfl hl 6 rfl ?_
    refine r_iload C dL_law_1410 hl 1 rfl ?_
    refine r_iconst C dL_law_1412 ?_
    refine r_iadd C dL_law_1413 ?_
    refine r_sld C A hS (i := i + 2) (v := p1) ⟨by omega, by omega⟩ ⟨by omega, by omega⟩ hx1 dL_law_1414 ?_
    refine rl_RI (As := [.int (jI p0), .int (jI p1)]) (rest := []) C A hS (fun E' => c_X11_trim l E' zR hp0 hp1 hfR) jy_X11_trim rfl lk_L_200 dL_law_1415 rfl rfl hl.1 (Nat.le_of_ble_eq_true rfl) ⟨Nat.le_of_ble_eq_true rfl, Nat.le_of_ble_eq_true rfl⟩ ⟨rfl, rfl⟩ ⟨by show cells + 1 ≤ 601024; omega, by show slots + 6 ≤ 7293034; omega⟩ (fun H locs hrR hS => ?_)
    refine r_istore C [(7, .int (jI r)), (6, .int (jI 1)), (5, .int (jI i)), (4, .ref zoD), (3, .ref zoL), (2, .ref (zR + 0)), (1, .ref (zC + 0)), (0, .ref b)] dL_law_1418 hl (by decide) rfl (fun ls hl => ?_)
    refine r_aload_n C dL_law_1420 rfl hl 5 rfl ?_
    refine rl_RI (As := []) (rest := []) C A hS (fun E' => c_X11_thrown l E' zR (show f_X11_thrown Mr' = some 1 by show some (Mr' 0 7) = some _; rw [ht])) jy_X11_thrown rfl lk_L_99 dL_law_1421 rfl rfl hl.1 (Nat.le_of_ble_eq_true rfl) ⟨Nat.le_of_ble_eq_true rfl, Nat.le_of_ble_eq_true rfl⟩ ⟨rfl, rfl⟩ ⟨by show cells + 1 ≤ 601024; omega, by show slots + 6 ≤ 7293034; omega⟩ (fun H locs hrt hS => ?_)
    refine r_iload C dL_law_1424 hl 1 rfl ?_
    refine r_icmp_eq C 1431 ⟨by decide, by decide⟩ ⟨by decide, by decide⟩ dL_law_1426 (by decide) (fun cq => ?_) (fun cq => absurd rfl cq)
    refine r_iload C dL_law_1431 hl 1 rfl ?_
    refine r_if_ne C 1448 ⟨by decide, by decide⟩ dL_law_1433 (by decide) (fun cq => ?_) (fun cq => absurd cq (by decide))
    refine r_goto C 1891 dL_law_1448 (by decide) ?_
    exact kk _ _ _ _ _ _ _ (by show cells + 1 ≤ cells + 1; omega) (by show slots + 6 ≤ slots + 6; omega) hS (lv_sub hl [2, 3, 4, 5, 6, 7] rfl)
  · refine r_aload_n C dL_law_1383 rfl hl 4 rfl ?_
    refine r_aload_n C dL_law_1384 rfl hl 5 rfl ?_
    refine r_iload C dL_law_1385 hl 0 rfl ?_
    refine r_iconst C dL_law_1387 ?_
    refine r_iadd C dL_law_1388 ?_
    refine r_sld C A hS (i := i + 1) (v := p0) ⟨by omega, by omega⟩ ⟨by omega, by omega⟩ hx0 dL_law_1389 ?_
    refine r_aload_n C dL_law_1390 rfl hl 5 rfl ?_
    refine r_iload C dL_law_1391 hl 0 rfl ?_
    refine r_iconst C dL_law_1393 ?_
    refine r_iadd C dL_law_1394 ?_
    refine r_sld C A hS (i := i + 2) (v := p1) ⟨by omega, by omega⟩ ⟨by omega, by omega⟩ hx1 dL_law_1395 ?_
    refine r_aload_n C dL_law_1396 rfl hl 2 rfl ?_
    refine rl_HL (n := 4) (As := [.ref (zC + 0), .int (jI p0), .int (jI p1), .ref zoL]) (rest := []) C A hS (w2_trim l hst (eRg E0 (PO zC zoL zE)) zC zoL fL hp0 hp1 hf) (gh_trim).1 (gh_trim).2.1 (gh_trim).2.2 ⟨by decide, by decide, by decide +kernel⟩ lk_L_198 dL_law_1397 rfl rfl hl.1 (Nat.le_of_ble_eq_true rfl) ⟨Nat.le_of_ble_eq_true rfl, Nat.le_of_ble_eq_true rfl⟩ ⟨by show cells + 1 ≤ 601024; omega, by show slots + 6 ≤ 7293034; omega⟩ (fun H locs hrh hS => ?_)
    refine r_istore C [(6, .int (jI 2)), (5, .int (jI i)), (4, .ref zoD), (3, .ref zoL), (2, .ref (zR + 0)), (1, .ref (zC + 0)), (0, .ref b)] dL_law_1400 hl (by decide) rfl (fun ls hl => ?_)
    refine r_aload_n C dL_law_1402 rfl hl 4 rfl ?_
    refine r_aload_n C dL_law_1403 rfl hl 6 rfl ?_
    refine r_iload C dL_law_1404 hl 1 rfl ?_
    refine r_iconst C dL_law_1406 ?_
    refine r_iadd C dL_law_1407 ?_
    refine r_sld C A hS (i := i + 1) (v := p0) ⟨by omega, by omega⟩ ⟨by omega, by omega⟩ hx0 dL_law_1408 ?_
    refine r_aload_n C dL_law_1409 rfl hl 6 rfl ?_
    refine r_iload C dL_law_1410 hl 1 rfl ?_
    refine r_iconst C dL_law_1412 ?_
    refine r_iadd C dL_law_1413 ?_
    refine r_sld C A hS (i := i + 2) (v := p1) ⟨by omega, by omega⟩ ⟨by omega, by omega⟩ hx1 dL_law_1414 ?_
    refine rl_RI (As := [.int (jI p0), .int (jI p1)]) (rest := []) C A hS (fun E' => c_X11_trim l E' zR hp0 hp1 hfR) jy_X11_trim rfl lk_L_200 dL_law_1415 rfl rfl hl.1 (Nat.le_of_ble_eq_true rfl) ⟨Nat.le_of_ble_eq_true rfl, Nat.le_of_ble_eq_true rfl⟩ ⟨rfl, rfl⟩ ⟨by show cells + 1 ≤ 601024; omega, by show slots + 6 ≤ 7293034; omega⟩ (fun H locs hrR hS => ?_)
    refine r_istore C [(7, .int (jI r)), (6, .int (jI 2)), (5, .int (jI i)), (4, .ref zoD), (3, .ref zoL), (2, .ref (zR + 0)), (1, .ref (zC + 0)), (0, .ref b)] dL_law_1418 hl (by decide) rfl (fun ls hl => ?_)
    refine r_aload_n C dL_law_1420 rfl hl 5 rfl ?_
    refine rl_RI (As := []) (rest := []) C A hS (fun E' => c_X11_thrown l E' zR (show f_X11_thrown Mr' = some 2 by show some (Mr' 0 7) = some _; rw [ht])) jy_X11_thrown rfl lk_L_99 dL_law_1421 rfl rfl hl.1 (Nat.le_of_ble_eq_true rfl) ⟨Nat.le_of_ble_eq_true rfl, Nat.le_of_ble_eq_true rfl⟩ ⟨rfl, rfl⟩ ⟨by show cells + 1 ≤ 601024; omega, by show slots + 6 ≤ 7293034; omega⟩ (fun H locs hrt hS => ?_)
    refine r_iload C dL_law_1424 hl 1 rfl ?_
    refine r_icmp_eq C 1431 ⟨by decide, by decide⟩ ⟨by decide, by decide⟩ dL_law_1426 (by decide) (fun cq => ?_) (fun cq => absurd rfl cq)
    refine r_iload C dL_law_1431 hl 1 rfl ?_
    refine r_if_ne C 1448 ⟨by decide, by decide⟩ dL_law_1433 (by decide) (fun cq => ?_) (fun cq => absurd cq (by decide))
    refine r_goto C 1891 dL_law_1448 (by decide) ?_
    exact kk _ _ _ _ _ _ _ (by show cells + 1 ≤ cells + 1; omega) (by show slots + 6 ≤ slots + 6; omega) hS (lv_sub hl [2, 3, 4, 5, 6, 7] rfl)
set_option maxRecDepth 100000 in
set_option maxHeartbeats 8000000 in
theorem lc_remove (hst : l.stackTraces = false) (C : Cx E0 p c cL_law 10 s args RL m) (A : LAt E0 b L xs zC zR zoL zoD zE s) {Mc Mr Mc' Mr' : Mem} {fL : Nat → Int64} {fD : Nat → UInt64} {H : Heap} {locs : List Loc} {ls : Array Slot} {cells slots : Nat} {i : Int} {p0 : Int} (hS : LStt E0 zC zR zoL zoD zE Mc Mr fL fD s H locs) (hi : 0 ≤ i ∧ i + 3 < (L : Int)) (hL : L ≤ 2048) (hx0 : xs (i + 1).toNat = jI p0) (hp0 : inR p0) (hl : lv_has ls 10 [(5, .int (jI i)), (4, .ref zoD), (3, .ref zoL), (2, .ref (zR + 0)), (1, .ref (zC + 0)), (0, .ref b)]) (hc : cells + 1 ≤ 601024 ∧ slots + 6 ≤ 7293034) (hstep : st_remove p0 Mc Mr Mc' Mr')
    (kk : ∀ (H1 : Heap) (locs1 : List Loc) (ls1 : Array Slot) (fL1 : Nat → Int64) (fD1 : Nat → UInt64) (c1 s1 : Nat), c1 ≤ cells + 1 → s1 ≤ slots + 6 → LStt E0 zC zR zoL zoD zE Mc' Mr' fL1 fD1 s H1 locs1 → lv_has ls1 10 [(5, .int (jI i)), (4, .ref zoD), (3, .ref zoL), (2, .ref (zR + 0)), (1, .ref (zC + 0)), (0, .ref b)] → W p l e room_1 s m args below meth c H1 locs1 c1 s1 Q (F0 m 1891 ls1 [])) : W p l e room_1 s m args below meth c H locs cells slots Q (F0 m 1451 ls []) := by
  have hcR : cells + 1 ≤ room_1.cells := hc.1
  have hsR : slots + 6 ≤ room_1.slots := hc.2
  unfold st_remove at hstep
  rcases hstep with ⟨r, hf, hfR, ht⟩ | ⟨hf, r, hfR, ht⟩
  · refine r_aload_n C dL_law_1451 rfl hl 4 rfl ?_
    refine r_aload_n C dL_law_1452 rfl hl 5 rfl ?_
    refine r_iload C dL_law_1453 hl 0 rfl ?_
    refine r_iconst C dL_law_1455 ?_
    refine r_iadd C dL_law_1456 ?_
    refine r_sld C A hS (i := i + 1) (v := p0) ⟨by omega, by omega⟩ ⟨by omega, by omega⟩ hx0 dL_law_1457 ?_
    refine r_aload_n C dL_law_1458 rfl hl 2 rfl ?_
    refine rl_HL (n := 3) (As := [.ref (zC + 0), .int (jI p0), .ref zoL]) (rest := []) C A hS (w_remove l (eRg E0 (PO zC zoL zE)) zC zoL fL hp0 hf) (gh_remove).1 (gh_remove).2.1 (gh_remove).2.2 ⟨by decide, by decide, by decide +kernel⟩ lk_L_201 dL_law_1459 rfl rfl hl.1 (Nat.le_of_ble_eq_true rfl) ⟨Nat.le_of_ble_eq_true rfl, Nat.le_of_ble_eq_true rfl⟩ ⟨by show cells + 0 ≤ 601024; omega, by show slots + 0 ≤ 7293034; omega⟩ (fun H locs hrh hS => ?_)
    refine r_istore C [(6, .int (jI 0)), (5, .int (jI i)), (4, .ref zoD), (3, .ref zoL), (2, .ref (zR + 0)), (1, .ref (zC + 0)), (0, .ref b)] dL_law_1462 hl (by decide) rfl (fun ls hl => ?_)
    refine r_aload_n C dL_law_1464 rfl hl 4 rfl ?_
    refine r_aload_n C dL_law_1465 rfl hl 6 rfl ?_
    refine r_iload C dL_law_1466 hl 1 rfl ?_
    refine r_iconst C dL_law_1468 ?_
    refine r_iadd C dL_law_1469 ?_
    refine r_sld C A hS (i := i + 1) (v := p0) ⟨by omega, by omega⟩ ⟨by omega, by omega⟩ hx0 dL_law_1470 ?_
    refine rl_RI (As := [.int (jI p0)]) (rest := []) C A hS (fun E' => c_X11_remove l E' zR hp0 hfR) jy_X11_remove rfl lk_L_203 dL_law_1471 rfl rfl hl.1 (Nat.le_of_ble_eq_true rfl) ⟨Nat.le_of_ble_eq_true rfl, Nat.le_of_ble_eq_true rfl⟩ ⟨rfl, rfl⟩ ⟨by show cells + 0 ≤ 601024; omega, by show slots + 0 ≤ 7293034; omega⟩ (fun H locs hrR hS => ?_)
    refine r_istore C [(7, .int (jI r)), (6, .int (jI 0)), (5, .int (jI i)), (4, .ref zoD), (3, .ref zoL), (2, .ref (zR + 0)), (1, .ref (zC + 0)), (0, .ref b)] dL_law_1474 hl (by decide) rfl (fun ls hl => ?_)
    refine r_aload_n C dL_law_1476 rfl hl 5 rfl ?_
    refine rl_RI (As := []) (rest := []) C A hS (fun E' => c_X11_thrown l E' zR (show f_X11_thrown Mr' = some 0 by show some (Mr' 0 7) = some _; rw [ht])) jy_X11_thrown rfl lk_L_99 dL_law_1477 rfl rfl hl.1 (Nat.le_of_ble_eq_true rfl) ⟨Nat.le_of_ble_eq_true rfl, Nat.le_of_ble_eq_true rfl⟩ ⟨rfl, rfl⟩ ⟨by show cells + 0 ≤ 601024; omega, by show slots + 0 ≤ 7293034; omega⟩ (fun H locs hrt hS => ?_)
    refine r_iload C dL_law_1480 hl 1 rfl ?_
    refine r_icmp_eq C 1487 ⟨by decide, by decide⟩ ⟨by decide, by decide⟩ dL_law_1482 (by decide) (fun cq => ?_) (fun cq => absurd rfl cq)
    refine r_iload C dL_law_1487 hl 1 rfl ?_
    refine r_if_ne C 1504 ⟨by decide, by decide⟩ dL_law_1489 (by decide) (fun cq => absurd rfl cq) (fun cq => ?_)
    refine r_aload_n C dL_law_1492 rfl hl 4 rfl ?_
    refine r_iconst C dL_law_1493 ?_
    refine r_lald C hS dL_law_1494 ?_
    refine r_iload C dL_law_1495 hl 0 rfl ?_
    refine lv_i2l C.1.1 C.1.2.1 dL_law_1497 rfl ?_
    refine r_lcmpE C (by simp [vp_updL]) dL_law_1498 ?_
    refine r_if_eq C 1504 ⟨by decide, by decide⟩ dL_law_1499 (by decide) (fun cq => ?_) (fun cq => absurd rfl cq)
    refine r_goto C 1891 dL_law_1504 (by decide) ?_
    exact kk _ _ _ _ _ _ _ (by show cells + 0 ≤ cells + 1; omega) (by show slots + 0 ≤ slots + 6; omega) hS (lv_sub hl [2, 3, 4, 5, 6, 7] rfl)
  · refine r_aload_n C dL_law_1451 rfl hl 4 rfl ?_
    refine r_aload_n C dL_law_1452 rfl hl 5 rfl ?_
    refine r_iload C dL_law_1453 hl 0 rfl ?_
    refine r_iconst C dL_law_1455 ?_
    refine r_iadd C dL_law_1456 ?_
    refine r_sld C A hS (i := i + 1) (v := p0) ⟨by omega, by omega⟩ ⟨by omega, by omega⟩ hx0 dL_law_1457 ?_
    refine r_aload_n C dL_law_1458 rfl hl 2 rfl ?_
    refine rl_HL (n := 3) (As := [.ref (zC + 0), .int (jI p0), .ref zoL]) (rest := []) C A hS (w1_remove l hst (eRg E0 (PO zC zoL zE)) zC zoL fL hp0 hf) (gh_remove).1 (gh_remove).2.1 (gh_remove).2.2 ⟨by decide, by decide, by decide +kernel⟩ lk_L_201 dL_law_1459 rfl rfl hl.1 (Nat.le_of_ble_eq_true rfl) ⟨Nat.le_of_ble_eq_true rfl, Nat.le_of_ble_eq_true rfl⟩ ⟨by show cells + 1 ≤ 601024; omega, by show slots + 6 ≤ 7293034; omega⟩ (fun H locs hrh hS => ?_)
    refine r_istore C [(6, .int (jI 1)), (5, .int (jI i)), (4, .ref zoD), (3, .ref zoL), (2, .ref (zR + 0)), (1, .ref (zC + 0)), (0, .ref b)] dL_law_1462 hl (by decide) rfl (fun ls hl => ?_)
    refine r_aload_n C dL_law_1464 rfl hl 4 rfl ?_
    refine r_aload_n C dL_law_1465 rfl hl 6 rfl ?_
    refine r_iload C dL_law_1466 hl 1 rfl ?_
    refine r_iconst C dL_law_1468 ?_
    refine r_iadd C dL_law_1469 ?_
    refine r_sld C A hS (i := i + 1) (v := p0) ⟨by omega, by omega⟩ ⟨by omega, by omega⟩ hx0 dL_law_1470 ?_
    refine rl_RI (As := [.int (jI p0)]) (rest := []) C A hS (fun E' => c_X11_remove l E' zR hp0 hfR) jy_X11_remove rfl lk_L_203 dL_law_1471 rfl rfl hl.1 (Nat.le_of_ble_eq_true rfl) ⟨Nat.le_of_ble_eq_true rfl, Nat.le_of_ble_eq_true rfl⟩ ⟨rfl, rfl⟩ ⟨by show cells + 1 ≤ 601024; omega, by show slots + 6 ≤ 7293034; omega⟩ (fun H locs hrR hS => ?_)
    refine r_istore C [(7, .int (jI r)), (6, .int (jI 1)), (5, .int (jI i)), (4, .ref zoD), (3, .ref zoL), (2, .ref (zR + 0)), (1, .ref (zC + 0)), (0, .ref b)] dL_law_1474 hl (by decide) rfl (fun ls hl => ?_)
    refine r_aload_n C dL_law_1476 rfl hl 5 rfl ?_
    refine rl_RI (As := []) (rest := []) C A hS (fun E' => c_X11_thrown l E' zR (show f_X11_thrown Mr' = some 1 by show some (Mr' 0 7) = some _; rw [ht])) jy_X11_thrown rfl lk_L_99 dL_law_1477 rfl rfl hl.1 (Nat.le_of_ble_eq_true rfl) ⟨Nat.le_of_ble_eq_true rfl, Nat.le_of_ble_eq_true rfl⟩ ⟨rfl, rfl⟩ ⟨by show cells + 1 ≤ 601024; omega, by show slots + 6 ≤ 7293034; omega⟩ (fun H locs hrt hS => ?_)
    refine r_iload C dL_law_1480 hl 1 rfl ?_
    refine r_icmp_eq C 1487 ⟨by decide, by decide⟩ ⟨by decide, by decide⟩ dL_law_1482 (by decide) (fun cq => ?_) (fun cq => absurd rfl cq)
    refine r_iload C dL_law_1487 hl 1 rfl ?_
    refine r_if_ne C 1504 ⟨by decide, by decide⟩ dL_law_1489 (by decide) (fun cq => ?_) (fun cq => absurd cq (by decide))
    refine r_goto C 1891 dL_law_1504 (by decide) ?_
    exact kk _ _ _ _ _ _ _ (by show cells + 1 ≤ cells + 1; omega) (by show slots + 6 ≤ slots + 6; omega) hS (lv_sub hl [2, 3, 4, 5, 6, 7] rfl)
set_option maxRecDepth 100000 in
set_option maxHeartbeats 8000000 in
theorem lc_move (hst : l.stackTraces = false) (C : Cx E0 p c cL_law 10 s args RL m) (A : LAt E0 b L xs zC zR zoL zoD zE s) {Mc Mr Mc' Mr' : Mem} {fL : Nat → Int64} {fD : Nat → UInt64} {H : Heap} {locs : List Loc} {ls : Array Slot} {cells slots : Nat} {i : Int} {p0 : Int} {p1 : Int} (hS : LStt E0 zC zR zoL zoD zE Mc Mr fL fD s H locs) (hi : 0 ≤ i ∧ i + 3 < (L : Int)) (hL : L ≤ 2048) (hx0 : xs (i + 1).toNat = jI p0) (hp0 : inR p0) (hx1 : xs (i + 2).toNat = jI p1) (hp1 : inR p1) (hl : lv_has ls 10 [(5, .int (jI i)), (4, .ref zoD), (3, .ref zoL), (2, .ref (zR + 0)), (1, .ref (zC + 0)), (0, .ref b)]) (hc : cells + 1 ≤ 601024 ∧ slots + 6 ≤ 7293034) (hstep : st_move p0 p1 Mc Mr Mc' Mr')
    (kk : ∀ (H1 : Heap) (locs1 : List Loc) (ls1 : Array Slot) (fL1 : Nat → Int64) (fD1 : Nat → UInt64) (c1 s1 : Nat), c1 ≤ cells + 1 → s1 ≤ slots + 6 → LStt E0 zC zR zoL zoD zE Mc' Mr' fL1 fD1 s H1 locs1 → lv_has ls1 10 [(5, .int (jI i)), (4, .ref zoD), (3, .ref zoL), (2, .ref (zR + 0)), (1, .ref (zC + 0)), (0, .ref b)] → W p l e room_1 s m args below meth c H1 locs1 c1 s1 Q (F0 m 1891 ls1 [])) : W p l e room_1 s m args below meth c H locs cells slots Q (F0 m 1507 ls []) := by
  have hcR : cells + 1 ≤ room_1.cells := hc.1
  have hsR : slots + 6 ≤ room_1.slots := hc.2
  unfold st_move at hstep
  rcases hstep with ⟨r, hf, hfR, ht⟩ | ⟨hf, r, hfR, ht⟩
  · refine r_aload_n C dL_law_1507 rfl hl 4 rfl ?_
    refine r_aload_n C dL_law_1508 rfl hl 5 rfl ?_
    refine r_iload C dL_law_1509 hl 0 rfl ?_
    refine r_iconst C dL_law_1511 ?_
    refine r_iadd C dL_law_1512 ?_
    refine r_sld C A hS (i := i + 1) (v := p0) ⟨by omega, by omega⟩ ⟨by omega, by omega⟩ hx0 dL_law_1513 ?_
    refine r_aload_n C dL_law_1514 rfl hl 5 rfl ?_
    refine r_iload C dL_law_1515 hl 0 rfl ?_
    refine r_iconst C dL_law_1517 ?_
    refine r_iadd C dL_law_1518 ?_
    refine r_sld C A hS (i := i + 2) (v := p1) ⟨by omega, by omega⟩ ⟨by omega, by omega⟩ hx1 dL_law_1519 ?_
    refine r_aload_n C dL_law_1520 rfl hl 2 rfl ?_
    refine rl_HL (n := 4) (As := [.ref (zC + 0), .int (jI p0), .int (jI p1), .ref zoL]) (rest := []) C A hS (w_move l (eRg E0 (PO zC zoL zE)) zC zoL fL hp0 hp1 hf) (gh_move).1 (gh_move).2.1 (gh_move).2.2 ⟨by decide, by decide, by decide +kernel⟩ lk_L_204 dL_law_1521 rfl rfl hl.1 (Nat.le_of_ble_eq_true rfl) ⟨Nat.le_of_ble_eq_true rfl, Nat.le_of_ble_eq_true rfl⟩ ⟨by show cells + 0 ≤ 601024; omega, by show slots + 0 ≤ 7293034; omega⟩ (fun H locs hrh hS => ?_)
    refine r_istore C [(6, .int (jI 0)), (5, .int (jI i)), (4, .ref zoD), (3, .ref zoL), (2, .ref (zR + 0)), (1, .ref (zC + 0)), (0, .ref b)] dL_law_1524 hl (by decide) rfl (fun ls hl => ?_)
    refine r_aload_n C dL_law_1526 rfl hl 4 rfl ?_
    refine r_aload_n C dL_law_1527 rfl hl 6 rfl ?_
    refine r_iload C dL_law_1528 hl 1 rfl ?_
    refine r_iconst C dL_law_1530 ?_
    refine r_iadd C dL_law_1531 ?_
    refine r_sld C A hS (i := i + 1) (v := p0) ⟨by omega, by omega⟩ ⟨by omega, by omega⟩ hx0 dL_law_1532 ?_
    refine r_aload_n C dL_law_1533 rfl hl 6 rfl ?_
    refine r_iload C dL_law_1534 hl 1 rfl ?_
    refine r_iconst C dL_law_1536 ?_
    refine r_iadd C dL_law_1537 ?_
    refine r_sld C A hS (i := i + 2) (v := p1) ⟨by omega, by omega⟩ ⟨by omega, by omega⟩ hx1 dL_law_1538 ?_
    refine rl_RI (As := [.int (jI p0), .int (jI p1)]) (rest := []) C A hS (fun E' => c_X11_move l E' zR hp0 hp1 hfR) jy_X11_move rfl lk_L_206 dL_law_1539 rfl rfl hl.1 (Nat.le_of_ble_eq_true rfl) ⟨Nat.le_of_ble_eq_true rfl, Nat.le_of_ble_eq_true rfl⟩ ⟨rfl, rfl⟩ ⟨by show cells + 0 ≤ 601024; omega, by show slots + 0 ≤ 7293034; omega⟩ (fun H locs hrR hS => ?_)
    refine r_istore C [(7, .int (jI r)), (6, .int (jI 0)), (5, .int (jI i)), (4, .ref zoD), (3, .ref zoL), (2, .ref (zR + 0)), (1, .ref (zC + 0)), (0, .ref b)] dL_law_1542 hl (by decide) rfl (fun ls hl => ?_)
    refine r_aload_n C dL_law_1544 rfl hl 5 rfl ?_
    refine rl_RI (As := []) (rest := []) C A hS (fun E' => c_X11_thrown l E' zR (show f_X11_thrown Mr' = some 0 by show some (Mr' 0 7) = some _; rw [ht])) jy_X11_thrown rfl lk_L_99 dL_law_1545 rfl rfl hl.1 (Nat.le_of_ble_eq_true rfl) ⟨Nat.le_of_ble_eq_true rfl, Nat.le_of_ble_eq_true rfl⟩ ⟨rfl, rfl⟩ ⟨by show cells + 0 ≤ 601024; omega, by show slots + 0 ≤ 7293034; omega⟩ (fun H locs hrt hS => ?_)
    refine r_iload C dL_law_1548 hl 1 rfl ?_
    refine r_icmp_eq C 1555 ⟨by decide, by decide⟩ ⟨by decide, by decide⟩ dL_law_1550 (by decide) (fun cq => ?_) (fun cq => absurd rfl cq)
    refine r_iload C dL_law_1555 hl 1 rfl ?_
    refine r_if_ne C 1572 ⟨by decide, by decide⟩ dL_law_1557 (by decide) (fun cq => absurd rfl cq) (fun cq => ?_)
    refine r_aload_n C dL_law_1560 rfl hl 4 rfl ?_
    refine r_iconst C dL_law_1561 ?_
    refine r_lald C hS dL_law_1562 ?_
    refine r_iload C dL_law_1563 hl 0 rfl ?_
    refine lv_i2l C.1.1 C.1.2.1 dL_law_1565 rfl ?_
    refine r_lcmpE C (by simp [vp_updL]) dL_law_1566 ?_
    refine r_if_eq C 1572 ⟨by decide, by decide⟩ dL_law_1567 (by decide) (fun cq => ?_) (fun cq => absurd rfl cq)
    refine r_goto C 1891 dL_law_1572 (by decide) ?_
    exact kk _ _ _ _ _ _ _ (by show cells + 0 ≤ cells + 1; omega) (by show slots + 0 ≤ slots + 6; omega) hS (lv_sub hl [2, 3, 4, 5, 6, 7] rfl)
  · refine r_aload_n C dL_law_1507 rfl hl 4 rfl ?_
    refine r_aload_n C dL_law_1508 rfl hl 5 rfl ?_
    refine r_iload C dL_law_1509 hl 0 rfl ?_
    refine r_iconst C dL_law_1511 ?_
    refine r_iadd C dL_law_1512 ?_
    refine r_sld C A hS (i := i + 1) (v := p0) ⟨by omega, by omega⟩ ⟨by omega, by omega⟩ hx0 dL_law_1513 ?_
    refine r_aload_n C dL_law_1514 rfl hl 5 rfl ?_
    refine r_iload C dL_law_1515 hl 0 rfl ?_
    refine r_iconst C dL_law_1517 ?_
    refine r_iadd C dL_law_1518 ?_
    refine r_sld C A hS (i := i + 2) (v := p1) ⟨by omega, by omega⟩ ⟨by omega, by omega⟩ hx1 dL_law_1519 ?_
    refine r_aload_n C dL_law_1520 rfl hl 2 rfl ?_
    refine rl_HL (n := 4) (As := [.ref (zC + 0), .int (jI p0), .int (jI p1), .ref zoL]) (rest := []) C A hS (w1_move l hst (eRg E0 (PO zC zoL zE)) zC zoL fL hp0 hp1 hf) (gh_move).1 (gh_move).2.1 (gh_move).2.2 ⟨by decide, by decide, by decide +kernel⟩ lk_L_204 dL_law_1521 rfl rfl hl.1 (Nat.le_of_ble_eq_true rfl) ⟨Nat.le_of_ble_eq_true rfl, Nat.le_of_ble_eq_true rfl⟩ ⟨by show cells + 1 ≤ 601024; omega, by show slots + 6 ≤ 7293034; omega⟩ (fun H locs hrh hS => ?_)
    refine r_istore C [(6, .int (jI 1)), (5, .int (jI i)), (4, .ref zoD), (3, .ref zoL), (2, .ref (zR + 0)), (1, .ref (zC + 0)), (0, .ref b)] dL_law_1524 hl (by decide) rfl (fun ls hl => ?_)
    refine r_aload_n C dL_law_1526 rfl hl 4 rfl ?_
    refine r_aload_n C dL_law_1527 rfl hl 6 rfl ?_
    refine r_iload C dL_law_1528 hl 1 rfl ?_
    refine r_iconst C dL_law_1530 ?_
    refine r_iadd C dL_law_1531 ?_
    refine r_sld C A hS (i := i + 1) (v := p0) ⟨by omega, by omega⟩ ⟨by omega, by omega⟩ hx0 dL_law_1532 ?_
    refine r_aload_n C dL_law_1533 rfl hl 6 rfl ?_
    refine r_iload C dL_law_1534 hl 1 rfl ?_
    refine r_iconst C dL_law_1536 ?_
    refine r_iadd C dL_law_1537 ?_
    refine r_sld C A hS (i := i + 2) (v := p1) ⟨by omega, by omega⟩ ⟨by omega, by omega⟩ hx1 dL_law_1538 ?_
    refine rl_RI (As := [.int (jI p0), .int (jI p1)]) (rest := []) C A hS (fun E' => c_X11_move l E' zR hp0 hp1 hfR) jy_X11_move rfl lk_L_206 dL_law_1539 rfl rfl hl.1 (Nat.le_of_ble_eq_true rfl) ⟨Nat.le_of_ble_eq_true rfl, Nat.le_of_ble_eq_true rfl⟩ ⟨rfl, rfl⟩ ⟨by show cells + 1 ≤ 601024; omega, by show slots + 6 ≤ 7293034; omega⟩ (fun H locs hrR hS => ?_)
    refine r_istore C [(7, .int (jI r)), (6, .int (jI 1)), (5, .int (jI i)), (4, .ref zoD), (3, .ref zoL), (2, .ref (zR + 0)), (1, .ref (zC + 0)), (0, .ref b)] dL_law_1542 hl (by decide) rfl (fun ls hl => ?_)
    refine r_aload_n C dL_law_1544 rfl hl 5 rfl ?_
    refine rl_RI (As := []) (rest := []) C A hS (fun E' => c_X11_thrown l E' zR (show f_X11_thrown Mr' = some 1 by show some (Mr' 0 7) = some _; rw [ht])) jy_X11_thrown rfl lk_L_99 dL_law_1545 rfl rfl hl.1 (Nat.le_of_ble_eq_true rfl) ⟨Nat.le_of_ble_eq_true rfl, Nat.le_of_ble_eq_true rfl⟩ ⟨rfl, rfl⟩ ⟨by show cells + 1 ≤ 601024; omega, by show slots + 6 ≤ 7293034; omega⟩ (fun H locs hrt hS => ?_)
    refine r_iload C dL_law_1548 hl 1 rfl ?_
    refine r_icmp_eq C 1555 ⟨by decide, by decide⟩ ⟨by decide, by decide⟩ dL_law_1550 (by decide) (fun cq => ?_) (fun cq => absurd rfl cq)
    refine r_iload C dL_law_1555 hl 1 rfl ?_
    refine r_if_ne C 1572 ⟨by decide, by decide⟩ dL_law_1557 (by decide) (fun cq => ?_) (fun cq => absurd cq (by decide))
    refine r_goto C 1891 dL_law_1572 (by decide) ?_
    exact kk _ _ _ _ _ _ _ (by show cells + 1 ≤ cells + 1; omega) (by show slots + 6 ≤ slots + 6; omega) hS (lv_sub hl [2, 3, 4, 5, 6, 7] rfl)
set_option maxRecDepth 100000 in
set_option maxHeartbeats 8000000 in
theorem lc_setWeek (hst : l.stackTraces = false) (C : Cx E0 p c cL_law 10 s args RL m) (A : LAt E0 b L xs zC zR zoL zoD zE s) {Mc Mr Mc' Mr' : Mem} {fL : Nat → Int64} {fD : Nat → UInt64} {H : Heap} {locs : List Loc} {ls : Array Slot} {cells slots : Nat} {i : Int} {p0 : Int} (hS : LStt E0 zC zR zoL zoD zE Mc Mr fL fD s H locs) (hi : 0 ≤ i ∧ i + 3 < (L : Int)) (hL : L ≤ 2048) (hx0 : xs (i + 1).toNat = jI p0) (hp0 : inR p0) (hl : lv_has ls 10 [(5, .int (jI i)), (4, .ref zoD), (3, .ref zoL), (2, .ref (zR + 0)), (1, .ref (zC + 0)), (0, .ref b)]) (hc : cells + 1 ≤ 601024 ∧ slots + 6 ≤ 7293034) (hstep : st_setWeek p0 Mc Mr Mc' Mr')
    (kk : ∀ (H1 : Heap) (locs1 : List Loc) (ls1 : Array Slot) (fL1 : Nat → Int64) (fD1 : Nat → UInt64) (c1 s1 : Nat), c1 ≤ cells + 1 → s1 ≤ slots + 6 → LStt E0 zC zR zoL zoD zE Mc' Mr' fL1 fD1 s H1 locs1 → lv_has ls1 10 [(5, .int (jI i)), (4, .ref zoD), (3, .ref zoL), (2, .ref (zR + 0)), (1, .ref (zC + 0)), (0, .ref b)] → W p l e room_1 s m args below meth c H1 locs1 c1 s1 Q (F0 m 1891 ls1 [])) : W p l e room_1 s m args below meth c H locs cells slots Q (F0 m 1575 ls []) := by
  have hcR : cells + 1 ≤ room_1.cells := hc.1
  have hsR : slots + 6 ≤ room_1.slots := hc.2
  unfold st_setWeek at hstep
  rcases hstep with ⟨r, hf, hfR, ht⟩ | ⟨hf, r, hfR, ht⟩
  · refine r_aload_n C dL_law_1575 rfl hl 4 rfl ?_
    refine r_aload_n C dL_law_1576 rfl hl 5 rfl ?_
    refine r_iload C dL_law_1577 hl 0 rfl ?_
    refine r_iconst C dL_law_1579 ?_
    refine r_iadd C dL_law_1580 ?_
    refine r_sld C A hS (i := i + 1) (v := p0) ⟨by omega, by omega⟩ ⟨by omega, by omega⟩ hx0 dL_law_1581 ?_
    refine r_aload_n C dL_law_1582 rfl hl 2 rfl ?_
    refine rl_HL (n := 3) (As := [.ref (zC + 0), .int (jI p0), .ref zoL]) (rest := []) C A hS (w_setWeek l (eRg E0 (PO zC zoL zE)) zC zoL fL hp0 hf) (gh_setWeek).1 (gh_setWeek).2.1 (gh_setWeek).2.2 ⟨by decide, by decide, by decide +kernel⟩ lk_L_207 dL_law_1583 rfl rfl hl.1 (Nat.le_of_ble_eq_true rfl) ⟨Nat.le_of_ble_eq_true rfl, Nat.le_of_ble_eq_true rfl⟩ ⟨by show cells + 0 ≤ 601024; omega, by show slots + 0 ≤ 7293034; omega⟩ (fun H locs hrh hS => ?_)
    refine r_istore C [(6, .int (jI 0)), (5, .int (jI i)), (4, .ref zoD), (3, .ref zoL), (2, .ref (zR + 0)), (1, .ref (zC + 0)), (0, .ref b)] dL_law_1586 hl (by decide) rfl (fun ls hl => ?_)
    refine r_aload_n C dL_law_1588 rfl hl 4 rfl ?_
    refine r_aload_n C dL_law_1589 rfl hl 6 rfl ?_
    refine r_iload C dL_law_1590 hl 1 rfl ?_
    refine r_iconst C dL_law_1592 ?_
    refine r_iadd C dL_law_1593 ?_
    refine r_sld C A hS (i := i + 1) (v := p0) ⟨by omega, by omega⟩ ⟨by omega, by omega⟩ hx0 dL_law_1594 ?_
    refine rl_RI (As := [.int (jI p0)]) (rest := []) C A hS (fun E' => c_X11_setWeek l E' zR hp0 hfR) jy_X11_setWeek rfl lk_L_209 dL_law_1595 rfl rfl hl.1 (Nat.le_of_ble_eq_true rfl) ⟨Nat.le_of_ble_eq_true rfl, Nat.le_of_ble_eq_true rfl⟩ ⟨rfl, rfl⟩ ⟨by show cells + 0 ≤ 601024; omega, by show slots + 0 ≤ 7293034; omega⟩ (fun H locs hrR hS => ?_)
    refine r_istore C [(7, .int (jI r)), (6, .int (jI 0)), (5, .int (jI i)), (4, .ref zoD), (3, .ref zoL), (2, .ref (zR + 0)), (1, .ref (zC + 0)), (0, .ref b)] dL_law_1598 hl (by decide) rfl (fun ls hl => ?_)
    refine r_aload_n C dL_law_1600 rfl hl 5 rfl ?_
    refine rl_RI (As := []) (rest := []) C A hS (fun E' => c_X11_thrown l E' zR (show f_X11_thrown Mr' = some 0 by show some (Mr' 0 7) = some _; rw [ht])) jy_X11_thrown rfl lk_L_99 dL_law_1601 rfl rfl hl.1 (Nat.le_of_ble_eq_true rfl) ⟨Nat.le_of_ble_eq_true rfl, Nat.le_of_ble_eq_true rfl⟩ ⟨rfl, rfl⟩ ⟨by show cells + 0 ≤ 601024; omega, by show slots + 0 ≤ 7293034; omega⟩ (fun H locs hrt hS => ?_)
    refine r_iload C dL_law_1604 hl 1 rfl ?_
    refine r_icmp_eq C 1611 ⟨by decide, by decide⟩ ⟨by decide, by decide⟩ dL_law_1606 (by decide) (fun cq => ?_) (fun cq => absurd rfl cq)
    refine r_iload C dL_law_1611 hl 1 rfl ?_
    refine r_if_ne C 1628 ⟨by decide, by decide⟩ dL_law_1613 (by decide) (fun cq => absurd rfl cq) (fun cq => ?_)
    refine r_aload_n C dL_law_1616 rfl hl 4 rfl ?_
    refine r_iconst C dL_law_1617 ?_
    refine r_lald C hS dL_law_1618 ?_
    refine r_iload C dL_law_1619 hl 0 rfl ?_
    refine lv_i2l C.1.1 C.1.2.1 dL_law_1621 rfl ?_
    refine r_lcmpE C (by simp [vp_updL]) dL_law_1622 ?_
    refine r_if_eq C 1628 ⟨by decide, by decide⟩ dL_law_1623 (by decide) (fun cq => ?_) (fun cq => absurd rfl cq)
    refine r_goto C 1891 dL_law_1628 (by decide) ?_
    exact kk _ _ _ _ _ _ _ (by show cells + 0 ≤ cells + 1; omega) (by show slots + 0 ≤ slots + 6; omega) hS (lv_sub hl [2, 3, 4, 5, 6, 7] rfl)
  · refine r_aload_n C dL_law_1575 rfl hl 4 rfl ?_
    refine r_aload_n C dL_law_1576 rfl hl 5 rfl ?_
    refine r_iload C dL_law_1577 hl 0 rfl ?_
    refine r_iconst C dL_law_1579 ?_
    refine r_iadd C dL_law_1580 ?_
    refine r_sld C A hS (i := i + 1) (v := p0) ⟨by omega, by omega⟩ ⟨by omega, by omega⟩ hx0 dL_law_1581 ?_
    refine r_aload_n C dL_law_1582 rfl hl 2 rfl ?_
    refine rl_HL (n := 3) (As := [.ref (zC + 0), .int (jI p0), .ref zoL]) (rest := []) C A hS (w1_setWeek l hst (eRg E0 (PO zC zoL zE)) zC zoL fL hp0 hf) (gh_setWeek).1 (gh_setWeek).2.1 (gh_setWeek).2.2 ⟨by decide, by decide, by decide +kernel⟩ lk_L_207 dL_law_1583 rfl rfl hl.1 (Nat.le_of_ble_eq_true rfl) ⟨Nat.le_of_ble_eq_true rfl, Nat.le_of_ble_eq_true rfl⟩ ⟨by show cells + 1 ≤ 601024; omega, by show slots + 6 ≤ 7293034; omega⟩ (fun H locs hrh hS => ?_)
    refine r_istore C [(6, .int (jI 1)), (5, .int (jI i)), (4, .ref zoD), (3, .ref zoL), (2, .ref (zR + 0)), (1, .ref (zC + 0)), (0, .ref b)] dL_law_1586 hl (by decide) rfl (fun ls hl => ?_)
    refine r_aload_n C dL_law_1588 rfl hl 4 rfl ?_
    refine r_aload_n C dL_law_1589 rfl hl 6 rfl ?_
    refine r_iload C dL_law_1590 hl 1 rfl ?_
    refine r_iconst C dL_law_1592 ?_
    refine r_iadd C dL_law_1593 ?_
    refine r_sld C A hS (i := i + 1) (v := p0) ⟨by omega, by omega⟩ ⟨by omega, by omega⟩ hx0 dL_law_1594 ?_
    refine rl_RI (As := [.int (jI p0)]) (rest := []) C A hS (fun E' => c_X11_setWeek l E' zR hp0 hfR) jy_X11_setWeek rfl lk_L_209 dL_law_1595 rfl rfl hl.1 (Nat.le_of_ble_eq_true rfl) ⟨Nat.le_of_ble_eq_true rfl, Nat.le_of_ble_eq_true rfl⟩ ⟨rfl, rfl⟩ ⟨by show cells + 1 ≤ 601024; omega, by show slots + 6 ≤ 7293034; omega⟩ (fun H locs hrR hS => ?_)
    refine r_istore C [(7, .int (jI r)), (6, .int (jI 1)), (5, .int (jI i)), (4, .ref zoD), (3, .ref zoL), (2, .ref (zR + 0)), (1, .ref (zC + 0)), (0, .ref b)] dL_law_1598 hl (by decide) rfl (fun ls hl => ?_)
    refine r_aload_n C dL_law_1600 rfl hl 5 rfl ?_
    refine rl_RI (As := []) (rest := []) C A hS (fun E' => c_X11_thrown l E' zR (show f_X11_thrown Mr' = some 1 by show some (Mr' 0 7) = some _; rw [ht])) jy_X11_thrown rfl lk_L_99 dL_law_1601 rfl rfl hl.1 (Nat.le_of_ble_eq_true rfl) ⟨Nat.le_of_ble_eq_true rfl, Nat.le_of_ble_eq_true rfl⟩ ⟨rfl, rfl⟩ ⟨by show cells + 1 ≤ 601024; omega, by show slots + 6 ≤ 7293034; omega⟩ (fun H locs hrt hS => ?_)
    refine r_iload C dL_law_1604 hl 1 rfl ?_
    refine r_icmp_eq C 1611 ⟨by decide, by decide⟩ ⟨by decide, by decide⟩ dL_law_1606 (by decide) (fun cq => ?_) (fun cq => absurd rfl cq)
    refine r_iload C dL_law_1611 hl 1 rfl ?_
    refine r_if_ne C 1628 ⟨by decide, by decide⟩ dL_law_1613 (by decide) (fun cq => ?_) (fun cq => absurd cq (by decide))
    refine r_goto C 1891 dL_law_1628 (by decide) ?_
    exact kk _ _ _ _ _ _ _ (by show cells + 1 ≤ cells + 1; omega) (by show slots + 6 ≤ slots + 6; omega) hS (lv_sub hl [2, 3, 4, 5, 6, 7] rfl)
set_option maxRecDepth 100000 in
set_option maxHeartbeats 8000000 in
theorem lc_setVoice (hst : l.stackTraces = false) (C : Cx E0 p c cL_law 10 s args RL m) (A : LAt E0 b L xs zC zR zoL zoD zE s) {Mc Mr Mc' Mr' : Mem} {fL : Nat → Int64} {fD : Nat → UInt64} {H : Heap} {locs : List Loc} {ls : Array Slot} {cells slots : Nat} {i : Int} {p0 : Int} {p1 : Int} (hS : LStt E0 zC zR zoL zoD zE Mc Mr fL fD s H locs) (hi : 0 ≤ i ∧ i + 3 < (L : Int)) (hL : L ≤ 2048) (hx0 : xs (i + 1).toNat = jI p0) (hp0 : inR p0) (hx1 : xs (i + 2).toNat = jI p1) (hp1 : inR p1) (hl : lv_has ls 10 [(5, .int (jI i)), (4, .ref zoD), (3, .ref zoL), (2, .ref (zR + 0)), (1, .ref (zC + 0)), (0, .ref b)]) (hc : cells + 1 ≤ 601024 ∧ slots + 6 ≤ 7293034) (hstep : st_setVoice p0 p1 Mc Mr Mc' Mr')
    (kk : ∀ (H1 : Heap) (locs1 : List Loc) (ls1 : Array Slot) (fL1 : Nat → Int64) (fD1 : Nat → UInt64) (c1 s1 : Nat), c1 ≤ cells + 1 → s1 ≤ slots + 6 → LStt E0 zC zR zoL zoD zE Mc' Mr' fL1 fD1 s H1 locs1 → lv_has ls1 10 [(5, .int (jI i)), (4, .ref zoD), (3, .ref zoL), (2, .ref (zR + 0)), (1, .ref (zC + 0)), (0, .ref b)] → W p l e room_1 s m args below meth c H1 locs1 c1 s1 Q (F0 m 1891 ls1 [])) : W p l e room_1 s m args below meth c H locs cells slots Q (F0 m 1631 ls []) := by
  have hcR : cells + 1 ≤ room_1.cells := hc.1
  have hsR : slots + 6 ≤ room_1.slots := hc.2
  unfold st_setVoice at hstep
  rcases hstep with ⟨r, hf, hfR, ht⟩ | ⟨hf, r, hfR, ht⟩
  · refine r_aload_n C dL_law_1631 rfl hl 4 rfl ?_
    refine r_aload_n C dL_law_1632 rfl hl 5 rfl ?_
    refine r_iload C dL_law_1633 hl 0 rfl ?_
    refine r_iconst C dL_law_1635 ?_
    refine r_iadd C dL_law_1636 ?_
    refine r_sld C A hS (i := i + 1) (v := p0) ⟨by omega, by omega⟩ ⟨by omega, by omega⟩ hx0 dL_law_1637 ?_
    refine r_aload_n C dL_law_1638 rfl hl 5 rfl ?_
    refine r_iload C dL_law_1639 hl 0 rfl ?_
    refine r_iconst C dL_law_1641 ?_
    refine r_iadd C dL_law_1642 ?_
    refine r_sld C A hS (i := i + 2) (v := p1) ⟨by omega, by omega⟩ ⟨by omega, by omega⟩ hx1 dL_law_1643 ?_
    refine r_aload_n C dL_law_1644 rfl hl 2 rfl ?_
    refine rl_HL (n := 4) (As := [.ref (zC + 0), .int (jI p0), .int (jI p1), .ref zoL]) (rest := []) C A hS (w_setVoice l (eRg E0 (PO zC zoL zE)) zC zoL fL hp0 hp1 hf) (gh_setVoice).1 (gh_setVoice).2.1 (gh_setVoice).2.2 ⟨by decide, by decide, by decide +kernel⟩ lk_L_210 dL_law_1645 rfl rfl hl.1 (Nat.le_of_ble_eq_true rfl) ⟨Nat.le_of_ble_eq_true rfl, Nat.le_of_ble_eq_true rfl⟩ ⟨by show cells + 0 ≤ 601024; omega, by show slots + 0 ≤ 7293034; omega⟩ (fun H locs hrh hS => ?_)
    refine r_istore C [(6, .int (jI 0)), (5, .int (jI i)), (4, .ref zoD), (3, .ref zoL), (2, .ref (zR + 0)), (1, .ref (zC + 0)), (0, .ref b)] dL_law_1648 hl (by decide) rfl (fun ls hl => ?_)
    refine r_aload_n C dL_law_1650 rfl hl 4 rfl ?_
    refine r_aload_n C dL_law_1651 rfl hl 6 rfl ?_
    refine r_iload C dL_law_1652 hl 1 rfl ?_
    refine r_iconst C dL_law_1654 ?_
    refine r_iadd C dL_law_1655 ?_
    refine r_sld C A hS (i := i + 1) (v := p0) ⟨by omega, by omega⟩ ⟨by omega, by omega⟩ hx0 dL_law_1656 ?_
    refine r_aload_n C dL_law_1657 rfl hl 6 rfl ?_
    refine r_iload C dL_law_1658 hl 1 rfl ?_
    refine r_iconst C dL_law_1660 ?_
    refine r_iadd C dL_law_1661 ?_
    refine r_sld C A hS (i := i + 2) (v := p1) ⟨by omega, by omega⟩ ⟨by omega, by omega⟩ hx1 dL_law_1662 ?_
    refine rl_RI (As := [.int (jI p0), .int (jI p1)]) (rest := []) C A hS (fun E' => c_X11_setVoice l E' zR hp0 hp1 hfR) jy_X11_setVoice rfl lk_L_212 dL_law_1663 rfl rfl hl.1 (Nat.le_of_ble_eq_true rfl) ⟨Nat.le_of_ble_eq_true rfl, Nat.le_of_ble_eq_true rfl⟩ ⟨rfl, rfl⟩ ⟨by show cells + 0 ≤ 601024; omega, by show slots + 0 ≤ 7293034; omega⟩ (fun H locs hrR hS => ?_)
    refine r_istore C [(7, .int (jI r)), (6, .int (jI 0)), (5, .int (jI i)), (4, .ref zoD), (3, .ref zoL), (2, .ref (zR + 0)), (1, .ref (zC + 0)), (0, .ref b)] dL_law_1666 hl (by decide) rfl (fun ls hl => ?_)
    refine r_aload_n C dL_law_1668 rfl hl 5 rfl ?_
    refine rl_RI (As := []) (rest := []) C A hS (fun E' => c_X11_thrown l E' zR (show f_X11_thrown Mr' = some 0 by show some (Mr' 0 7) = some _; rw [ht])) jy_X11_thrown rfl lk_L_99 dL_law_1669 rfl rfl hl.1 (Nat.le_of_ble_eq_true rfl) ⟨Nat.le_of_ble_eq_true rfl, Nat.le_of_ble_eq_true rfl⟩ ⟨rfl, rfl⟩ ⟨by show cells + 0 ≤ 601024; omega, by show slots + 0 ≤ 7293034; omega⟩ (fun H locs hrt hS => ?_)
    refine r_iload C dL_law_1672 hl 1 rfl ?_
    refine r_icmp_eq C 1679 ⟨by decide, by decide⟩ ⟨by decide, by decide⟩ dL_law_1674 (by decide) (fun cq => ?_) (fun cq => absurd rfl cq)
    refine r_iload C dL_law_1679 hl 1 rfl ?_
    refine r_if_ne C 1696 ⟨by decide, by decide⟩ dL_law_1681 (by decide) (fun cq => absurd rfl cq) (fun cq => ?_)
    refine r_aload_n C dL_law_1684 rfl hl 4 rfl ?_
    refine r_iconst C dL_law_1685 ?_
    refine r_lald C hS dL_law_1686 ?_
    refine r_iload C dL_law_1687 hl 0 rfl ?_
    refine lv_i2l C.1.1 C.1.2.1 dL_law_1689 rfl ?_
    refine r_lcmpE C (by simp [vp_updL]) dL_law_1690 ?_
    refine r_if_eq C 1696 ⟨by decide, by decide⟩ dL_law_1691 (by decide) (fun cq => ?_) (fun cq => absurd rfl cq)
    refine r_goto C 1891 dL_law_1696 (by decide) ?_
    exact kk _ _ _ _ _ _ _ (by show cells + 0 ≤ cells + 1; omega) (by show slots + 0 ≤ slots + 6; omega) hS (lv_sub hl [2, 3, 4, 5, 6, 7] rfl)
  · refine r_aload_n C dL_law_1631 rfl hl 4 rfl ?_
    refine r_aload_n C dL_law_1632 rfl hl 5 rfl ?_
    refine r_iload C dL_law_1633 hl 0 rfl ?_
    refine r_iconst C dL_law_1635 ?_
    refine r_iadd C dL_law_1636 ?_
    refine r_sld C A hS (i := i + 1) (v := p0) ⟨by omega, by omega⟩ ⟨by omega, by omega⟩ hx0 dL_law_1637 ?_
    refine r_aload_n C dL_law_1638 rfl hl 5 rfl ?_
    refine r_iload C dL_law_1639 hl 0 rfl ?_
    refine r_iconst C dL_law_1641 ?_
    refine r_iadd C dL_law_1642 ?_
    refine r_sld C A hS (i := i + 2) (v := p1) ⟨by omega, by omega⟩ ⟨by omega, by omega⟩ hx1 dL_law_1643 ?_
    refine r_aload_n C dL_law_1644 rfl hl 2 rfl ?_
    refine rl_HL (n := 4) (As := [.ref (zC + 0), .int (jI p0), .int (jI p1), .ref zoL]) (rest := []) C A hS (w1_setVoice l hst (eRg E0 (PO zC zoL zE)) zC zoL fL hp0 hp1 hf) (gh_setVoice).1 (gh_setVoice).2.1 (gh_setVoice).2.2 ⟨by decide, by decide, by decide +kernel⟩ lk_L_210 dL_law_1645 rfl rfl hl.1 (Nat.le_of_ble_eq_true rfl) ⟨Nat.le_of_ble_eq_true rfl, Nat.le_of_ble_eq_true rfl⟩ ⟨by show cells + 1 ≤ 601024; omega, by show slots + 6 ≤ 7293034; omega⟩ (fun H locs hrh hS => ?_)
    refine r_istore C [(6, .int (jI 1)), (5, .int (jI i)), (4, .ref zoD), (3, .ref zoL), (2, .ref (zR + 0)), (1, .ref (zC + 0)), (0, .ref b)] dL_law_1648 hl (by decide) rfl (fun ls hl => ?_)
    refine r_aload_n C dL_law_1650 rfl hl 4 rfl ?_
    refine r_aload_n C dL_law_1651 rfl hl 6 rfl ?_
    refine r_iload C dL_law_1652 hl 1 rfl ?_
    refine r_iconst C dL_law_1654 ?_
    refine r_iadd C dL_law_1655 ?_
    refine r_sld C A hS (i := i + 1) (v := p0) ⟨by omega, by omega⟩ ⟨by omega, by omega⟩ hx0 dL_law_1656 ?_
    refine r_aload_n C dL_law_1657 rfl hl 6 rfl ?_
    refine r_iload C dL_law_1658 hl 1 rfl ?_
    refine r_iconst C dL_law_1660 ?_
    refine r_iadd C dL_law_1661 ?_
    refine r_sld C A hS (i := i + 2) (v := p1) ⟨by omega, by omega⟩ ⟨by omega, by omega⟩ hx1 dL_law_1662 ?_
    refine rl_RI (As := [.int (jI p0), .int (jI p1)]) (rest := []) C A hS (fun E' => c_X11_setVoice l E' zR hp0 hp1 hfR) jy_X11_setVoice rfl lk_L_212 dL_law_1663 rfl rfl hl.1 (Nat.le_of_ble_eq_true rfl) ⟨Nat.le_of_ble_eq_true rfl, Nat.le_of_ble_eq_true rfl⟩ ⟨rfl, rfl⟩ ⟨by show cells + 1 ≤ 601024; omega, by show slots + 6 ≤ 7293034; omega⟩ (fun H locs hrR hS => ?_)
    refine r_istore C [(7, .int (jI r)), (6, .int (jI 1)), (5, .int (jI i)), (4, .ref zoD), (3, .ref zoL), (2, .ref (zR + 0)), (1, .ref (zC + 0)), (0, .ref b)] dL_law_1666 hl (by decide) rfl (fun ls hl => ?_)
    refine r_aload_n C dL_law_1668 rfl hl 5 rfl ?_
    refine rl_RI (As := []) (rest := []) C A hS (fun E' => c_X11_thrown l E' zR (show f_X11_thrown Mr' = some 1 by show some (Mr' 0 7) = some _; rw [ht])) jy_X11_thrown rfl lk_L_99 dL_law_1669 rfl rfl hl.1 (Nat.le_of_ble_eq_true rfl) ⟨Nat.le_of_ble_eq_true rfl, Nat.le_of_ble_eq_true rfl⟩ ⟨rfl, rfl⟩ ⟨by show cells + 1 ≤ 601024; omega, by show slots + 6 ≤ 7293034; omega⟩ (fun H locs hrt hS => ?_)
    refine r_iload C dL_law_1672 hl 1 rfl ?_
    refine r_icmp_eq C 1679 ⟨by decide, by decide⟩ ⟨by decide, by decide⟩ dL_law_1674 (by decide) (fun cq => ?_) (fun cq => absurd rfl cq)
    refine r_iload C dL_law_1679 hl 1 rfl ?_
    refine r_if_ne C 1696 ⟨by decide, by decide⟩ dL_law_1681 (by decide) (fun cq => ?_) (fun cq => absurd cq (by decide))
    refine r_goto C 1891 dL_law_1696 (by decide) ?_
    exact kk _ _ _ _ _ _ _ (by show cells + 1 ≤ cells + 1; omega) (by show slots + 6 ≤ slots + 6; omega) hS (lv_sub hl [2, 3, 4, 5, 6, 7] rfl)
set_option maxRecDepth 100000 in
set_option maxHeartbeats 8000000 in
theorem lc_setSlack (hst : l.stackTraces = false) (C : Cx E0 p c cL_law 10 s args RL m) (A : LAt E0 b L xs zC zR zoL zoD zE s) {Mc Mr Mc' Mr' : Mem} {fL : Nat → Int64} {fD : Nat → UInt64} {H : Heap} {locs : List Loc} {ls : Array Slot} {cells slots : Nat} {i : Int} {p0 : Int} (hS : LStt E0 zC zR zoL zoD zE Mc Mr fL fD s H locs) (hi : 0 ≤ i ∧ i + 3 < (L : Int)) (hL : L ≤ 2048) (hx0 : xs (i + 1).toNat = jI p0) (hp0 : inR p0) (hl : lv_has ls 10 [(5, .int (jI i)), (4, .ref zoD), (3, .ref zoL), (2, .ref (zR + 0)), (1, .ref (zC + 0)), (0, .ref b)]) (hc : cells + 1 ≤ 601024 ∧ slots + 6 ≤ 7293034) (hstep : st_setSlack p0 Mc Mr Mc' Mr')
    (kk : ∀ (H1 : Heap) (locs1 : List Loc) (ls1 : Array Slot) (fL1 : Nat → Int64) (fD1 : Nat → UInt64) (c1 s1 : Nat), c1 ≤ cells + 1 → s1 ≤ slots + 6 → LStt E0 zC zR zoL zoD zE Mc' Mr' fL1 fD1 s H1 locs1 → lv_has ls1 10 [(5, .int (jI i)), (4, .ref zoD), (3, .ref zoL), (2, .ref (zR + 0)), (1, .ref (zC + 0)), (0, .ref b)] → W p l e room_1 s m args below meth c H1 locs1 c1 s1 Q (F0 m 1891 ls1 [])) : W p l e room_1 s m args below meth c H locs cells slots Q (F0 m 1699 ls []) := by
  have hcR : cells + 1 ≤ room_1.cells := hc.1
  have hsR : slots + 6 ≤ room_1.slots := hc.2
  unfold st_setSlack at hstep
  rcases hstep with ⟨r, hf, hfR, ht⟩ | ⟨hf, r, hfR, ht⟩
  · refine r_aload_n C dL_law_1699 rfl hl 4 rfl ?_
    refine r_aload_n C dL_law_1700 rfl hl 5 rfl ?_
    refine r_iload C dL_law_1701 hl 0 rfl ?_
    refine r_iconst C dL_law_1703 ?_
    refine r_iadd C dL_law_1704 ?_
    refine r_sld C A hS (i := i + 1) (v := p0) ⟨by omega, by omega⟩ ⟨by omega, by omega⟩ hx0 dL_law_1705 ?_
    refine r_aload_n C dL_law_1706 rfl hl 2 rfl ?_
    refine rl_HL (n := 3) (As := [.ref (zC + 0), .int (jI p0), .ref zoL]) (rest := []) C A hS (w_setSlack l (eRg E0 (PO zC zoL zE)) zC zoL fL hp0 hf) (gh_setSlack).1 (gh_setSlack).2.1 (gh_setSlack).2.2 ⟨by decide, by decide, by decide +kernel⟩ lk_L_213 dL_law_1707 rfl rfl hl.1 (Nat.le_of_ble_eq_true rfl) ⟨Nat.le_of_ble_eq_true rfl, Nat.le_of_ble_eq_true rfl⟩ ⟨by show cells + 0 ≤ 601024; omega, by show slots + 0 ≤ 7293034; omega⟩ (fun H locs hrh hS => ?_)
    refine r_istore C [(6, .int (jI 0)), (5, .int (jI i)), (4, .ref zoD), (3, .ref zoL), (2, .ref (zR + 0)), (1, .ref (zC + 0)), (0, .ref b)] dL_law_1710 hl (by decide) rfl (fun ls hl => ?_)
    refine r_aload_n C dL_law_1712 rfl hl 4 rfl ?_
    refine r_aload_n C dL_law_1713 rfl hl 6 rfl ?_
    refine r_iload C dL_law_1714 hl 1 rfl ?_
    refine r_iconst C dL_law_1716 ?_
    refine r_iadd C dL_law_1717 ?_
    refine r_sld C A hS (i := i + 1) (v := p0) ⟨by omega, by omega⟩ ⟨by omega, by omega⟩ hx0 dL_law_1718 ?_
    refine rl_RI (As := [.int (jI p0)]) (rest := []) C A hS (fun E' => c_X11_setSlack l E' zR hp0 hfR) jy_X11_setSlack rfl lk_L_215 dL_law_1719 rfl rfl hl.1 (Nat.le_of_ble_eq_true rfl) ⟨Nat.le_of_ble_eq_true rfl, Nat.le_of_ble_eq_true rfl⟩ ⟨rfl, rfl⟩ ⟨by show cells + 0 ≤ 601024; omega, by show slots + 0 ≤ 7293034; omega⟩ (fun H locs hrR hS => ?_)
    refine r_istore C [(7, .int (jI r)), (6, .int (jI 0)), (5, .int (jI i)), (4, .ref zoD), (3, .ref zoL), (2, .ref (zR + 0)), (1, .ref (zC + 0)), (0, .ref b)] dL_law_1722 hl (by decide) rfl (fun ls hl => ?_)
    refine r_aload_n C dL_law_1724 rfl hl 5 rfl ?_
    refine rl_RI (As := []) (rest := []) C A hS (fun E' => c_X11_thrown l E' zR (show f_X11_thrown Mr' = some 0 by show some (Mr' 0 7) = some _; rw [ht])) jy_X11_thrown rfl lk_L_99 dL_law_1725 rfl rfl hl.1 (Nat.le_of_ble_eq_true rfl) ⟨Nat.le_of_ble_eq_true rfl, Nat.le_of_ble_eq_true rfl⟩ ⟨rfl, rfl⟩ ⟨by show cells + 0 ≤ 601024; omega, by show slots + 0 ≤ 7293034; omega⟩ (fun H locs hrt hS => ?_)
    refine r_iload C dL_law_1728 hl 1 rfl ?_
    refine r_icmp_eq C 1735 ⟨by decide, by decide⟩ ⟨by decide, by decide⟩ dL_law_1730 (by decide) (fun cq => ?_) (fun cq => absurd rfl cq)
    refine r_iload C dL_law_1735 hl 1 rfl ?_
    refine r_if_ne C 1752 ⟨by decide, by decide⟩ dL_law_1737 (by decide) (fun cq => absurd rfl cq) (fun cq => ?_)
    refine r_aload_n C dL_law_1740 rfl hl 4 rfl ?_
    refine r_iconst C dL_law_1741 ?_
    refine r_lald C hS dL_law_1742 ?_
    refine r_iload C dL_law_1743 hl 0 rfl ?_
    refine lv_i2l C.1.1 C.1.2.1 dL_law_1745 rfl ?_
    refine r_lcmpE C (by simp [vp_updL]) dL_law_1746 ?_
    refine r_if_eq C 1752 ⟨by decide, by decide⟩ dL_law_1747 (by decide) (fun cq => ?_) (fun cq => absurd rfl cq)
    refine r_goto C 1891 dL_law_1752 (by decide) ?_
    exact kk _ _ _ _ _ _ _ (by show cells + 0 ≤ cells + 1; omega) (by show slots + 0 ≤ slots + 6; omega) hS (lv_sub hl [2, 3, 4, 5, 6, 7] rfl)
  · refine r_aload_n C dL_law_1699 rfl hl 4 rfl ?_
    refine r_aload_n C dL_law_1700 rfl hl 5 rfl ?_
    refine r_iload C dL_law_1701 hl 0 rfl ?_
    refine r_iconst C dL_law_1703 ?_
    refine r_iadd C dL_law_1704 ?_
    refine r_sld C A hS (i := i + 1) (v := p0) ⟨by omega, by omega⟩ ⟨by omega, by omega⟩ hx0 dL_law_1705 ?_
    refine r_aload_n C dL_law_1706 rfl hl 2 rfl ?_
    refine rl_HL (n := 3) (As := [.ref (zC + 0), .int (jI p0), .ref zoL]) (rest := []) C A hS (w1_setSlack l hst (eRg E0 (PO zC zoL zE)) zC zoL fL hp0 hf) (gh_setSlack).1 (gh_setSlack).2.1 (gh_setSlack).2.2 ⟨by decide, by decide, by decide +kernel⟩ lk_L_213 dL_law_1707 rfl rfl hl.1 (Nat.le_of_ble_eq_true rfl) ⟨Nat.le_of_ble_eq_true rfl, Nat.le_of_ble_eq_true rfl⟩ ⟨by show cells + 1 ≤ 601024; omega, by show slots + 6 ≤ 7293034; omega⟩ (fun H locs hrh hS => ?_)
    refine r_istore C [(6, .int (jI 1)), (5, .int (jI i)), (4, .ref zoD), (3, .ref zoL), (2, .ref (zR + 0)), (1, .ref (zC + 0)), (0, .ref b)] dL_law_1710 hl (by decide) rfl (fun ls hl => ?_)
    refine r_aload_n C dL_law_1712 rfl hl 4 rfl ?_
    refine r_aload_n C dL_law_1713 rfl hl 6 rfl ?_
    refine r_iload C dL_law_1714 hl 1 rfl ?_
    refine r_iconst C dL_law_1716 ?_
    refine r_iadd C dL_law_1717 ?_
    refine r_sld C A hS (i := i + 1) (v := p0) ⟨by omega, by omega⟩ ⟨by omega, by omega⟩ hx0 dL_law_1718 ?_
    refine rl_RI (As := [.int (jI p0)]) (rest := []) C A hS (fun E' => c_X11_setSlack l E' zR hp0 hfR) jy_X11_setSlack rfl lk_L_215 dL_law_1719 rfl rfl hl.1 (Nat.le_of_ble_eq_true rfl) ⟨Nat.le_of_ble_eq_true rfl, Nat.le_of_ble_eq_true rfl⟩ ⟨rfl, rfl⟩ ⟨by show cells + 1 ≤ 601024; omega, by show slots + 6 ≤ 7293034; omega⟩ (fun H locs hrR hS => ?_)
    refine r_istore C [(7, .int (jI r)), (6, .int (jI 1)), (5, .int (jI i)), (4, .ref zoD), (3, .ref zoL), (2, .ref (zR + 0)), (1, .ref (zC + 0)), (0, .ref b)] dL_law_1722 hl (by decide) rfl (fun ls hl => ?_)
    refine r_aload_n C dL_law_1724 rfl hl 5 rfl ?_
    refine rl_RI (As := []) (rest := []) C A hS (fun E' => c_X11_thrown l E' zR (show f_X11_thrown Mr' = some 1 by show some (Mr' 0 7) = some _; rw [ht])) jy_X11_thrown rfl lk_L_99 dL_law_1725 rfl rfl hl.1 (Nat.le_of_ble_eq_true rfl) ⟨Nat.le_of_ble_eq_true rfl, Nat.le_of_ble_eq_true rfl⟩ ⟨rfl, rfl⟩ ⟨by show cells + 1 ≤ 601024; omega, by show slots + 6 ≤ 7293034; omega⟩ (fun H locs hrt hS => ?_)
    refine r_iload C dL_law_1728 hl 1 rfl ?_
    refine r_icmp_eq C 1735 ⟨by decide, by decide⟩ ⟨by decide, by decide⟩ dL_law_1730 (by decide) (fun cq => ?_) (fun cq => absurd rfl cq)
    refine r_iload C dL_law_1735 hl 1 rfl ?_
    refine r_if_ne C 1752 ⟨by decide, by decide⟩ dL_law_1737 (by decide) (fun cq => ?_) (fun cq => absurd cq (by decide))
    refine r_goto C 1891 dL_law_1752 (by decide) ?_
    exact kk _ _ _ _ _ _ _ (by show cells + 1 ≤ cells + 1; omega) (by show slots + 6 ≤ slots + 6; omega) hS (lv_sub hl [2, 3, 4, 5, 6, 7] rfl)
set_option maxRecDepth 100000 in
set_option maxHeartbeats 8000000 in
theorem lc_writeReel (hst : l.stackTraces = false) (C : Cx E0 p c cL_law 10 s args RL m) (A : LAt E0 b L xs zC zR zoL zoD zE s) {Mc Mr Mc' Mr' : Mem} {fL : Nat → Int64} {fD : Nat → UInt64} {H : Heap} {locs : List Loc} {ls : Array Slot} {cells slots : Nat} {i : Int} (hS : LStt E0 zC zR zoL zoD zE Mc Mr fL fD s H locs) (hi : 0 ≤ i ∧ i + 3 < (L : Int)) (hL : L ≤ 2048) (hl : lv_has ls 10 [(5, .int (jI i)), (4, .ref zoD), (3, .ref zoL), (2, .ref (zR + 0)), (1, .ref (zC + 0)), (0, .ref b)]) (hc : cells + 1 ≤ 601024 ∧ slots + 6 ≤ 7293034) (hstep : st_writeReel Mc Mr Mc' Mr')
    (kk : ∀ (H1 : Heap) (locs1 : List Loc) (ls1 : Array Slot) (fL1 : Nat → Int64) (fD1 : Nat → UInt64) (c1 s1 : Nat), c1 ≤ cells + 1 → s1 ≤ slots + 6 → LStt E0 zC zR zoL zoD zE Mc' Mr' fL1 fD1 s H1 locs1 → lv_has ls1 10 [(5, .int (jI i)), (4, .ref zoD), (3, .ref zoL), (2, .ref (zR + 0)), (1, .ref (zC + 0)), (0, .ref b)] → W p l e room_1 s m args below meth c H1 locs1 c1 s1 Q (F0 m 1891 ls1 [])) : W p l e room_1 s m args below meth c H locs cells slots Q (F0 m 1755 ls []) := by
  have hcR : cells + 1 ≤ room_1.cells := hc.1
  have hsR : slots + 6 ≤ room_1.slots := hc.2
  unfold st_writeReel at hstep
  obtain ⟨r, hf, hfR⟩ := hstep
  refine r_aload_n C dL_law_1755 rfl hl 4 rfl ?_
  refine rl_CI (As := []) (rest := []) C A hS (fun E' => c_X10_writeReel l E' zC hf) jy_X10_writeReel rfl lk_L_216 dL_law_1756 rfl rfl hl.1 (Nat.le_of_ble_eq_true rfl) ⟨Nat.le_of_ble_eq_true rfl, Nat.le_of_ble_eq_true rfl⟩ ⟨rfl, rfl⟩ ⟨by show cells ≤ 601024; omega, by show slots ≤ 7293034; omega⟩ (fun H locs hrC hS => ?_)
  refine r_aload_n C dL_law_1759 rfl hl 3 rfl ?_
  refine rl_RI (As := []) (rest := [.int (jI r)]) C A hS (fun E' => c_X11_writeReel l E' zR hfR) jy_X11_writeReel rfl lk_L_219 dL_law_1760 rfl rfl hl.1 (Nat.le_of_ble_eq_true rfl) ⟨Nat.le_of_ble_eq_true rfl, Nat.le_of_ble_eq_true rfl⟩ ⟨rfl, rfl⟩ ⟨by show cells ≤ 601024; omega, by show slots ≤ 7293034; omega⟩ (fun H locs hrR hS => ?_)
  refine r_icmp_eq C 1891 hrC hrC dL_law_1763 (by decide) (fun cq => ?_) (fun cq => absurd rfl cq)
  exact kk _ _ _ _ _ _ _ (by omega) (by omega) hS (lv_sub hl [0, 1, 2, 3, 4, 5] rfl)
set_option maxRecDepth 100000 in
set_option maxHeartbeats 8000000 in
theorem lc_writeVoice (hst : l.stackTraces = false) (C : Cx E0 p c cL_law 10 s args RL m) (A : LAt E0 b L xs zC zR zoL zoD zE s) {Mc Mr Mc' Mr' : Mem} {fL : Nat → Int64} {fD : Nat → UInt64} {H : Heap} {locs : List Loc} {ls : Array Slot} {cells slots : Nat} {i : Int} (hS : LStt E0 zC zR zoL zoD zE Mc Mr fL fD s H locs) (hi : 0 ≤ i ∧ i + 3 < (L : Int)) (hL : L ≤ 2048) (hl : lv_has ls 10 [(5, .int (jI i)), (4, .ref zoD), (3, .ref zoL), (2, .ref (zR + 0)), (1, .ref (zC + 0)), (0, .ref b)]) (hc : cells + 1 ≤ 601024 ∧ slots + 6 ≤ 7293034) (hstep : st_writeVoice Mc Mr Mc' Mr')
    (kk : ∀ (H1 : Heap) (locs1 : List Loc) (ls1 : Array Slot) (fL1 : Nat → Int64) (fD1 : Nat → UInt64) (c1 s1 : Nat), c1 ≤ cells + 1 → s1 ≤ slots + 6 → LStt E0 zC zR zoL zoD zE Mc' Mr' fL1 fD1 s H1 locs1 → lv_has ls1 10 [(5, .int (jI i)), (4, .ref zoD), (3, .ref zoL), (2, .ref (zR + 0)), (1, .ref (zC + 0)), (0, .ref b)] → W p l e room_1 s m args below meth c H1 locs1 c1 s1 Q (F0 m 1891 ls1 [])) : W p l e room_1 s m args below meth c H locs cells slots Q (F0 m 1768 ls []) := by
  have hcR : cells + 1 ≤ room_1.cells := hc.1
  have hsR : slots + 6 ≤ room_1.slots := hc.2
  unfold st_writeVoice at hstep
  obtain ⟨r, hf, hfR⟩ := hstep
  refine r_aload_n C dL_law_1768 rfl hl 4 rfl ?_
  refine rl_CI (As := []) (rest := []) C A hS (fun E' => c_X10_writeVoice l E' zC hf) jy_X10_writeVoice rfl lk_L_220 dL_law_1769 rfl rfl hl.1 (Nat.le_of_ble_eq_true rfl) ⟨Nat.le_of_ble_eq_true rfl, Nat.le_of_ble_eq_true rfl⟩ ⟨rfl, rfl⟩ ⟨by show cells ≤ 601024; omega, by show slots ≤ 7293034; omega⟩ (fun H locs hrC hS => ?_)
  refine r_aload_n C dL_law_1772 rfl hl 3 rfl ?_
  refine rl_RI (As := []) (rest := [.int (jI r)]) C A hS (fun E' => c_X11_writeVoice l E' zR hfR) jy_X11_writeVoice rfl lk_L_223 dL_law_1773 rfl rfl hl.1 (Nat.le_of_ble_eq_true rfl) ⟨Nat.le_of_ble_eq_true rfl, Nat.le_of_ble_eq_true rfl⟩ ⟨rfl, rfl⟩ ⟨by show cells ≤ 601024; omega, by show slots ≤ 7293034; omega⟩ (fun H locs hrR hS => ?_)
  refine r_icmp_eq C 1891 hrC hrC dL_law_1776 (by decide) (fun cq => ?_) (fun cq => absurd rfl cq)
  exact kk _ _ _ _ _ _ _ (by omega) (by omega) hS (lv_sub hl [0, 1, 2, 3, 4, 5] rfl)
set_option maxRecDepth 100000 in
set_option maxHeartbeats 8000000 in
theorem lc_output (hst : l.stackTraces = false) (C : Cx E0 p c cL_law 10 s args RL m) (A : LAt E0 b L xs zC zR zoL zoD zE s) {Mc Mr Mc' Mr' : Mem} {fL : Nat → Int64} {fD : Nat → UInt64} {H : Heap} {locs : List Loc} {ls : Array Slot} {cells slots : Nat} {i : Int} {p0 : Int} (hS : LStt E0 zC zR zoL zoD zE Mc Mr fL fD s H locs) (hi : 0 ≤ i ∧ i + 3 < (L : Int)) (hL : L ≤ 2048) (hx0 : xs (i + 1).toNat = jI p0) (hp0 : inR p0) (hl : lv_has ls 10 [(5, .int (jI i)), (4, .ref zoD), (3, .ref zoL), (2, .ref (zR + 0)), (1, .ref (zC + 0)), (0, .ref b)]) (hc : cells + 1 ≤ 601024 ∧ slots + 6 ≤ 7293034) (hstep : st_output p0 Mc Mr Mc' Mr')
    (kk : ∀ (H1 : Heap) (locs1 : List Loc) (ls1 : Array Slot) (fL1 : Nat → Int64) (fD1 : Nat → UInt64) (c1 s1 : Nat), c1 ≤ cells + 1 → s1 ≤ slots + 6 → LStt E0 zC zR zoL zoD zE Mc' Mr' fL1 fD1 s H1 locs1 → lv_has ls1 10 [(5, .int (jI i)), (4, .ref zoD), (3, .ref zoL), (2, .ref (zR + 0)), (1, .ref (zC + 0)), (0, .ref b)] → W p l e room_1 s m args below meth c H1 locs1 c1 s1 Q (F0 m 1891 ls1 [])) : W p l e room_1 s m args below meth c H locs cells slots Q (F0 m 1781 ls []) := by
  have hcR : cells + 1 ≤ room_1.cells := hc.1
  have hsR : slots + 6 ≤ room_1.slots := hc.2
  unfold st_output at hstep
  obtain ⟨r, hf, rfl, hfR⟩ := hstep
  refine r_aload_n C dL_law_1781 rfl hl 4 rfl ?_
  refine r_aload_n C dL_law_1782 rfl hl 5 rfl ?_
  refine r_iload C dL_law_1783 hl 0 rfl ?_
  refine r_iconst C dL_law_1785 ?_
  refine r_iadd C dL_law_1786 ?_
  refine r_sld C A hS (i := i + 1) (v := p0) ⟨by omega, by omega⟩ ⟨by omega, by omega⟩ hx0 dL_law_1787 ?_
  refine rl_CI (As := [.int (jI p0)]) (rest := []) C A hS (fun E' => c_X10_output l E' zC hp0 hf) jy_X10_output rfl lk_L_224 dL_law_1788 rfl rfl hl.1 (Nat.le_of_ble_eq_true rfl) ⟨Nat.le_of_ble_eq_true rfl, Nat.le_of_ble_eq_true rfl⟩ ⟨rfl, rfl⟩ ⟨by show cells ≤ 601024; omega, by show slots ≤ 7293034; omega⟩ (fun H locs hrC hS => ?_)
  refine r_aload_n C dL_law_1791 rfl hl 3 rfl ?_
  refine r_aload_n C dL_law_1792 rfl hl 5 rfl ?_
  refine r_iload C dL_law_1793 hl 0 rfl ?_
  refine r_iconst C dL_law_1795 ?_
  refine r_iadd C dL_law_1796 ?_
  refine r_sld C A hS (i := i + 1) (v := p0) ⟨by omega, by omega⟩ ⟨by omega, by omega⟩ hx0 dL_law_1797 ?_
  refine rl_RI (As := [.int (jI p0)]) (rest := [.int (jI r)]) C A hS (fun E' => c_X11_output l E' zR hp0 hfR) jy_X11_output rfl lk_L_227 dL_law_1798 rfl rfl hl.1 (Nat.le_of_ble_eq_true rfl) ⟨Nat.le_of_ble_eq_true rfl, Nat.le_of_ble_eq_true rfl⟩ ⟨rfl, rfl⟩ ⟨by show cells ≤ 601024; omega, by show slots ≤ 7293034; omega⟩ (fun H locs hrR hS => ?_)
  refine r_icmp_eq C 1891 hrC hrC dL_law_1801 (by decide) (fun cq => ?_) (fun cq => absurd rfl cq)
  exact kk _ _ _ _ _ _ _ (by omega) (by omega) hS (lv_sub hl [0, 1, 2, 3, 4, 5] rfl)
set_option maxRecDepth 100000 in
set_option maxHeartbeats 8000000 in
theorem lc_undo (hst : l.stackTraces = false) (C : Cx E0 p c cL_law 10 s args RL m) (A : LAt E0 b L xs zC zR zoL zoD zE s) {Mc Mr Mc' Mr' : Mem} {fL : Nat → Int64} {fD : Nat → UInt64} {H : Heap} {locs : List Loc} {ls : Array Slot} {cells slots : Nat} {i : Int} (hS : LStt E0 zC zR zoL zoD zE Mc Mr fL fD s H locs) (hi : 0 ≤ i ∧ i + 3 < (L : Int)) (hL : L ≤ 2048) (hl : lv_has ls 10 [(5, .int (jI i)), (4, .ref zoD), (3, .ref zoL), (2, .ref (zR + 0)), (1, .ref (zC + 0)), (0, .ref b)]) (hc : cells + 1 ≤ 601024 ∧ slots + 6 ≤ 7293034) (hstep : st_undo Mc Mr Mc' Mr')
    (kk : ∀ (H1 : Heap) (locs1 : List Loc) (ls1 : Array Slot) (fL1 : Nat → Int64) (fD1 : Nat → UInt64) (c1 s1 : Nat), c1 ≤ cells + 1 → s1 ≤ slots + 6 → LStt E0 zC zR zoL zoD zE Mc' Mr' fL1 fD1 s H1 locs1 → lv_has ls1 10 [(5, .int (jI i)), (4, .ref zoD), (3, .ref zoL), (2, .ref (zR + 0)), (1, .ref (zC + 0)), (0, .ref b)] → W p l e room_1 s m args below meth c H1 locs1 c1 s1 Q (F0 m 1891 ls1 [])) : W p l e room_1 s m args below meth c H locs cells slots Q (F0 m 1806 ls []) := by
  have hcR : cells + 1 ≤ room_1.cells := hc.1
  have hsR : slots + 6 ≤ room_1.slots := hc.2
  unfold st_undo at hstep
  obtain ⟨r, hf, hfR⟩ := hstep
  refine r_aload_n C dL_law_1806 rfl hl 4 rfl ?_
  refine rl_CI (As := []) (rest := []) C A hS (fun E' => c_X10_undo l E' zC hf) jy_X10_undo rfl lk_L_228 dL_law_1807 rfl rfl hl.1 (Nat.le_of_ble_eq_true rfl) ⟨Nat.le_of_ble_eq_true rfl, Nat.le_of_ble_eq_true rfl⟩ ⟨rfl, rfl⟩ ⟨by show cells ≤ 601024; omega, by show slots ≤ 7293034; omega⟩ (fun H locs hrC hS => ?_)
  refine r_aload_n C dL_law_1810 rfl hl 3 rfl ?_
  refine rl_RI (As := []) (rest := [.int (jI r)]) C A hS (fun E' => c_X11_undo l E' zR hfR) jy_X11_undo rfl lk_L_231 dL_law_1811 rfl rfl hl.1 (Nat.le_of_ble_eq_true rfl) ⟨Nat.le_of_ble_eq_true rfl, Nat.le_of_ble_eq_true rfl⟩ ⟨rfl, rfl⟩ ⟨by show cells ≤ 601024; omega, by show slots ≤ 7293034; omega⟩ (fun H locs hrR hS => ?_)
  refine r_icmp_eq C 1891 hrC hrC dL_law_1814 (by decide) (fun cq => ?_) (fun cq => absurd rfl cq)
  exact kk _ _ _ _ _ _ _ (by omega) (by omega) hS (lv_sub hl [0, 1, 2, 3, 4, 5] rfl)
set_option maxRecDepth 100000 in
set_option maxHeartbeats 8000000 in
theorem lc_save (hst : l.stackTraces = false) (C : Cx E0 p c cL_law 10 s args RL m) (A : LAt E0 b L xs zC zR zoL zoD zE s) {Mc Mr Mc' Mr' : Mem} {fL : Nat → Int64} {fD : Nat → UInt64} {H : Heap} {locs : List Loc} {ls : Array Slot} {cells slots : Nat} {i : Int} {p0 : Int} (hS : LStt E0 zC zR zoL zoD zE Mc Mr fL fD s H locs) (hi : 0 ≤ i ∧ i + 3 < (L : Int)) (hL : L ≤ 2048) (hx0 : xs (i + 1).toNat = jI p0) (hp0 : inR p0) (hl : lv_has ls 10 [(5, .int (jI i)), (4, .ref zoD), (3, .ref zoL), (2, .ref (zR + 0)), (1, .ref (zC + 0)), (0, .ref b)]) (hc : cells + 1 ≤ 601024 ∧ slots + 6 ≤ 7293034) (hstep : st_save p0 Mc Mr Mc' Mr')
    (kk : ∀ (H1 : Heap) (locs1 : List Loc) (ls1 : Array Slot) (fL1 : Nat → Int64) (fD1 : Nat → UInt64) (c1 s1 : Nat), c1 ≤ cells + 1 → s1 ≤ slots + 6 → LStt E0 zC zR zoL zoD zE Mc' Mr' fL1 fD1 s H1 locs1 → lv_has ls1 10 [(5, .int (jI i)), (4, .ref zoD), (3, .ref zoL), (2, .ref (zR + 0)), (1, .ref (zC + 0)), (0, .ref b)] → W p l e room_1 s m args below meth c H1 locs1 c1 s1 Q (F0 m 1891 ls1 [])) : W p l e room_1 s m args below meth c H locs cells slots Q (F0 m 1819 ls []) := by
  have hcR : cells + 1 ≤ room_1.cells := hc.1
  have hsR : slots + 6 ≤ room_1.slots := hc.2
  unfold st_save at hstep
  rcases hstep with ⟨hf, hfR, ht⟩ | ⟨hf, hfR, ht⟩
  · refine r_aload_n C dL_law_1819 rfl hl 4 rfl ?_
    refine r_aload_n C dL_law_1820 rfl hl 5 rfl ?_
    refine r_iload C dL_law_1821 hl 0 rfl ?_
    refine r_iconst C dL_law_1823 ?_
    refine r_iadd C dL_law_1824 ?_
    refine r_sld C A hS (i := i + 1) (v := p0) ⟨by omega, by omega⟩ ⟨by omega, by omega⟩ hx0 dL_law_1825 ?_
    refine rl_HN (n := 2) (As := [.ref (zC + 0), .int (jI p0)]) (rest := []) C A hS (w_save l (eRg E0 (PO zC zoL zE)) zC zoL (outL E0 fL) hp0 hf) (gh_save).1 (gh_save).2.1 (gh_save).2.2 ⟨by decide, by decide, by decide +kernel⟩ lk_L_232 dL_law_1826 rfl rfl hl.1 (Nat.le_of_ble_eq_true rfl) ⟨Nat.le_of_ble_eq_true rfl, Nat.le_of_ble_eq_true rfl⟩ ⟨by show cells + 0 ≤ 601024; omega, by show slots + 0 ≤ 7293034; omega⟩ (fun H locs hrh hS => ?_)
    refine r_istore C [(6, .int (jI 0)), (5, .int (jI i)), (4, .ref zoD), (3, .ref zoL), (2, .ref (zR + 0)), (1, .ref (zC + 0)), (0, .ref b)] dL_law_1829 hl (by decide) rfl (fun ls hl => ?_)
    refine r_aload_n C dL_law_1831 rfl hl 4 rfl ?_
    refine r_aload_n C dL_law_1832 rfl hl 6 rfl ?_
    refine r_iload C dL_law_1833 hl 1 rfl ?_
    refine r_iconst C dL_law_1835 ?_
    refine r_iadd C dL_law_1836 ?_
    refine r_sld C A hS (i := i + 1) (v := p0) ⟨by omega, by omega⟩ ⟨by omega, by omega⟩ hx0 dL_law_1837 ?_
    refine rl_RV (As := [.int (jI p0)]) (rest := []) C A hS (fun E' => c_X11_save l E' zR hp0 hfR) jy_X11_save rfl lk_L_235 dL_law_1838 rfl rfl hl.1 (Nat.le_of_ble_eq_true rfl) ⟨Nat.le_of_ble_eq_true rfl, Nat.le_of_ble_eq_true rfl⟩ ⟨rfl, rfl⟩ ⟨by show cells + 0 ≤ 601024; omega, by show slots + 0 ≤ 7293034; omega⟩ (fun H locs hS => ?_)
    refine r_aload_n C dL_law_1841 rfl hl 4 rfl ?_
    refine rl_RI (As := []) (rest := []) C A hS (fun E' => c_X11_thrown l E' zR (show f_X11_thrown Mr' = some 0 by show some (Mr' 0 7) = some _; rw [ht])) jy_X11_thrown rfl lk_L_99 dL_law_1842 rfl rfl hl.1 (Nat.le_of_ble_eq_true rfl) ⟨Nat.le_of_ble_eq_true rfl, Nat.le_of_ble_eq_true rfl⟩ ⟨rfl, rfl⟩ ⟨by show cells + 0 ≤ 601024; omega, by show slots + 0 ≤ 7293034; omega⟩ (fun H locs hrt hS => ?_)
    refine r_iload C dL_law_1845 hl 0 rfl ?_
    refine r_icmp_eq C 1852 ⟨by decide, by decide⟩ ⟨by decide, by decide⟩ dL_law_1847 (by decide) (fun cq => ?_) (fun cq => absurd rfl cq)
    refine r_goto C 1891 dL_law_1852 (by decide) ?_
    exact kk _ _ _ _ _ _ _ (by show cells + 0 ≤ cells + 1; omega) (by show slots + 0 ≤ slots + 6; omega) hS (lv_sub hl [1, 2, 3, 4, 5, 6] rfl)
  · refine r_aload_n C dL_law_1819 rfl hl 4 rfl ?_
    refine r_aload_n C dL_law_1820 rfl hl 5 rfl ?_
    refine r_iload C dL_law_1821 hl 0 rfl ?_
    refine r_iconst C dL_law_1823 ?_
    refine r_iadd C dL_law_1824 ?_
    refine r_sld C A hS (i := i + 1) (v := p0) ⟨by omega, by omega⟩ ⟨by omega, by omega⟩ hx0 dL_law_1825 ?_
    refine rl_HN (n := 2) (As := [.ref (zC + 0), .int (jI p0)]) (rest := []) C A hS (w1_save l hst (eRg E0 (PO zC zoL zE)) zC zoL (outL E0 fL) hp0 hf) (gh_save).1 (gh_save).2.1 (gh_save).2.2 ⟨by decide, by decide, by decide +kernel⟩ lk_L_232 dL_law_1826 rfl rfl hl.1 (Nat.le_of_ble_eq_true rfl) ⟨Nat.le_of_ble_eq_true rfl, Nat.le_of_ble_eq_true rfl⟩ ⟨by show cells + 1 ≤ 601024; omega, by show slots + 6 ≤ 7293034; omega⟩ (fun H locs hrh hS => ?_)
    refine r_istore C [(6, .int (jI 1)), (5, .int (jI i)), (4, .ref zoD), (3, .ref zoL), (2, .ref (zR + 0)), (1, .ref (zC + 0)), (0, .ref b)] dL_law_1829 hl (by decide) rfl (fun ls hl => ?_)
    refine r_aload_n C dL_law_1831 rfl hl 4 rfl ?_
    refine r_aload_n C dL_law_1832 rfl hl 6 rfl ?_
    refine r_iload C dL_law_1833 hl 1 rfl ?_
    refine r_iconst C dL_law_1835 ?_
    refine r_iadd C dL_law_1836 ?_
    refine r_sld C A hS (i := i + 1) (v := p0) ⟨by omega, by omega⟩ ⟨by omega, by omega⟩ hx0 dL_law_1837 ?_
    refine rl_RV (As := [.int (jI p0)]) (rest := []) C A hS (fun E' => c_X11_save l E' zR hp0 hfR) jy_X11_save rfl lk_L_235 dL_law_1838 rfl rfl hl.1 (Nat.le_of_ble_eq_true rfl) ⟨Nat.le_of_ble_eq_true rfl, Nat.le_of_ble_eq_true rfl⟩ ⟨rfl, rfl⟩ ⟨by show cells + 1 ≤ 601024; omega, by show slots + 6 ≤ 7293034; omega⟩ (fun H locs hS => ?_)
    refine r_aload_n C dL_law_1841 rfl hl 4 rfl ?_
    refine rl_RI (As := []) (rest := []) C A hS (fun E' => c_X11_thrown l E' zR (show f_X11_thrown Mr' = some 1 by show some (Mr' 0 7) = some _; rw [ht])) jy_X11_thrown rfl lk_L_99 dL_law_1842 rfl rfl hl.1 (Nat.le_of_ble_eq_true rfl) ⟨Nat.le_of_ble_eq_true rfl, Nat.le_of_ble_eq_true rfl⟩ ⟨rfl, rfl⟩ ⟨by show cells + 1 ≤ 601024; omega, by show slots + 6 ≤ 7293034; omega⟩ (fun H locs hrt hS => ?_)
    refine r_iload C dL_law_1845 hl 0 rfl ?_
    refine r_icmp_eq C 1852 ⟨by decide, by decide⟩ ⟨by decide, by decide⟩ dL_law_1847 (by decide) (fun cq => ?_) (fun cq => absurd rfl cq)
    refine r_goto C 1891 dL_law_1852 (by decide) ?_
    exact kk _ _ _ _ _ _ _ (by show cells + 1 ≤ cells + 1; omega) (by show slots + 6 ≤ slots + 6; omega) hS (lv_sub hl [1, 2, 3, 4, 5, 6] rfl)
set_option maxRecDepth 100000 in
set_option maxHeartbeats 8000000 in
theorem lc_restore (hst : l.stackTraces = false) (C : Cx E0 p c cL_law 10 s args RL m) (A : LAt E0 b L xs zC zR zoL zoD zE s) {Mc Mr Mc' Mr' : Mem} {fL : Nat → Int64} {fD : Nat → UInt64} {H : Heap} {locs : List Loc} {ls : Array Slot} {cells slots : Nat} {i : Int} {p0 : Int} (hS : LStt E0 zC zR zoL zoD zE Mc Mr fL fD s H locs) (hi : 0 ≤ i ∧ i + 3 < (L : Int)) (hL : L ≤ 2048) (hx0 : xs (i + 1).toNat = jI p0) (hp0 : inR p0) (hl : lv_has ls 10 [(5, .int (jI i)), (4, .ref zoD), (3, .ref zoL), (2, .ref (zR + 0)), (1, .ref (zC + 0)), (0, .ref b)]) (hc : cells + 1 ≤ 601024 ∧ slots + 6 ≤ 7293034) (hstep : st_restore p0 Mc Mr Mc' Mr')
    (kk : ∀ (H1 : Heap) (locs1 : List Loc) (ls1 : Array Slot) (fL1 : Nat → Int64) (fD1 : Nat → UInt64) (c1 s1 : Nat), c1 ≤ cells + 1 → s1 ≤ slots + 6 → LStt E0 zC zR zoL zoD zE Mc' Mr' fL1 fD1 s H1 locs1 → lv_has ls1 10 [(5, .int (jI i)), (4, .ref zoD), (3, .ref zoL), (2, .ref (zR + 0)), (1, .ref (zC + 0)), (0, .ref b)] → W p l e room_1 s m args below meth c H1 locs1 c1 s1 Q (F0 m 1891 ls1 [])) : W p l e room_1 s m args below meth c H locs cells slots Q (F0 m 1855 ls []) := by
  have hcR : cells + 1 ≤ room_1.cells := hc.1
  have hsR : slots + 6 ≤ room_1.slots := hc.2
  unfold st_restore at hstep
  rcases hstep with ⟨hf, hfR, ht⟩ | ⟨hf, hfR, ht⟩ | ⟨hf, hfR, ht⟩
  · refine r_aload_n C dL_law_1855 rfl hl 4 rfl ?_
    refine r_aload_n C dL_law_1856 rfl hl 5 rfl ?_
    refine r_iload C dL_law_1857 hl 0 rfl ?_
    refine r_iconst C dL_law_1859 ?_
    refine r_iadd C dL_law_1860 ?_
    refine r_sld C A hS (i := i + 1) (v := p0) ⟨by omega, by omega⟩ ⟨by omega, by omega⟩ hx0 dL_law_1861 ?_
    refine rl_HN (n := 2) (As := [.ref (zC + 0), .int (jI p0)]) (rest := []) C A hS (w_restore l (eRg E0 (PO zC zoL zE)) zC zoL (outL E0 fL) hp0 hf) (gh_restore).1 (gh_restore).2.1 (gh_restore).2.2 ⟨by decide, by decide, by decide +kernel⟩ lk_L_236 dL_law_1862 rfl rfl hl.1 (Nat.le_of_ble_eq_true rfl) ⟨Nat.le_of_ble_eq_true rfl, Nat.le_of_ble_eq_true rfl⟩ ⟨by show cells + 0 ≤ 601024; omega, by show slots + 0 ≤ 7293034; omega⟩ (fun H locs hrh hS => ?_)
    refine r_istore C [(6, .int (jI 0)), (5, .int (jI i)), (4, .ref zoD), (3, .ref zoL), (2, .ref (zR + 0)), (1, .ref (zC + 0)), (0, .ref b)] dL_law_1865 hl (by decide) rfl (fun ls hl => ?_)
    refine r_aload_n C dL_law_1867 rfl hl 4 rfl ?_
    refine r_aload_n C dL_law_1868 rfl hl 6 rfl ?_
    refine r_iload C dL_law_1869 hl 1 rfl ?_
    refine r_iconst C dL_law_1871 ?_
    refine r_iadd C dL_law_1872 ?_
    refine r_sld C A hS (i := i + 1) (v := p0) ⟨by omega, by omega⟩ ⟨by omega, by omega⟩ hx0 dL_law_1873 ?_
    refine rl_RV (As := [.int (jI p0)]) (rest := []) C A hS (fun E' => c_X11_restore l E' zR hp0 hfR) jy_X11_restore rfl lk_L_238 dL_law_1874 rfl rfl hl.1 (Nat.le_of_ble_eq_true rfl) ⟨Nat.le_of_ble_eq_true rfl, Nat.le_of_ble_eq_true rfl⟩ ⟨rfl, rfl⟩ ⟨by show cells + 0 ≤ 601024; omega, by show slots + 0 ≤ 7293034; omega⟩ (fun H locs hS => ?_)
    refine r_aload_n C dL_law_1877 rfl hl 4 rfl ?_
    refine rl_RI (As := []) (rest := []) C A hS (fun E' => c_X11_thrown l E' zR (show f_X11_thrown Mr' = some 0 by show some (Mr' 0 7) = some _; rw [ht])) jy_X11_thrown rfl lk_L_99 dL_law_1878 rfl rfl hl.1 (Nat.le_of_ble_eq_true rfl) ⟨Nat.le_of_ble_eq_true rfl, Nat.le_of_ble_eq_true rfl⟩ ⟨rfl, rfl⟩ ⟨by show cells + 0 ≤ 601024; omega, by show slots + 0 ≤ 7293034; omega⟩ (fun H locs hrt hS => ?_)
    refine r_iload C dL_law_1881 hl 0 rfl ?_
    refine r_icmp_eq C 1888 ⟨by decide, by decide⟩ ⟨by decide, by decide⟩ dL_law_1883 (by decide) (fun cq => ?_) (fun cq => absurd rfl cq)
    refine r_goto C 1891 dL_law_1888 (by decide) ?_
    exact kk _ _ _ _ _ _ _ (by show cells + 0 ≤ cells + 1; omega) (by show slots + 0 ≤ slots + 6; omega) hS (lv_sub hl [1, 2, 3, 4, 5, 6] rfl)
  · refine r_aload_n C dL_law_1855 rfl hl 4 rfl ?_
    refine r_aload_n C dL_law_1856 rfl hl 5 rfl ?_
    refine r_iload C dL_law_1857 hl 0 rfl ?_
    refine r_iconst C dL_law_1859 ?_
    refine r_iadd C dL_law_1860 ?_
    refine r_sld C A hS (i := i + 1) (v := p0) ⟨by omega, by omega⟩ ⟨by omega, by omega⟩ hx0 dL_law_1861 ?_
    refine rl_HN (n := 2) (As := [.ref (zC + 0), .int (jI p0)]) (rest := []) C A hS (w1_restore l hst (eRg E0 (PO zC zoL zE)) zC zoL (outL E0 fL) hp0 hf) (gh_restore).1 (gh_restore).2.1 (gh_restore).2.2 ⟨by decide, by decide, by decide +kernel⟩ lk_L_236 dL_law_1862 rfl rfl hl.1 (Nat.le_of_ble_eq_true rfl) ⟨Nat.le_of_ble_eq_true rfl, Nat.le_of_ble_eq_true rfl⟩ ⟨by show cells + 1 ≤ 601024; omega, by show slots + 6 ≤ 7293034; omega⟩ (fun H locs hrh hS => ?_)
    refine r_istore C [(6, .int (jI 1)), (5, .int (jI i)), (4, .ref zoD), (3, .ref zoL), (2, .ref (zR + 0)), (1, .ref (zC + 0)), (0, .ref b)] dL_law_1865 hl (by decide) rfl (fun ls hl => ?_)
    refine r_aload_n C dL_law_1867 rfl hl 4 rfl ?_
    refine r_aload_n C dL_law_1868 rfl hl 6 rfl ?_
    refine r_iload C dL_law_1869 hl 1 rfl ?_
    refine r_iconst C dL_law_1871 ?_
    refine r_iadd C dL_law_1872 ?_
    refine r_sld C A hS (i := i + 1) (v := p0) ⟨by omega, by omega⟩ ⟨by omega, by omega⟩ hx0 dL_law_1873 ?_
    refine rl_RV (As := [.int (jI p0)]) (rest := []) C A hS (fun E' => c_X11_restore l E' zR hp0 hfR) jy_X11_restore rfl lk_L_238 dL_law_1874 rfl rfl hl.1 (Nat.le_of_ble_eq_true rfl) ⟨Nat.le_of_ble_eq_true rfl, Nat.le_of_ble_eq_true rfl⟩ ⟨rfl, rfl⟩ ⟨by show cells + 1 ≤ 601024; omega, by show slots + 6 ≤ 7293034; omega⟩ (fun H locs hS => ?_)
    refine r_aload_n C dL_law_1877 rfl hl 4 rfl ?_
    refine rl_RI (As := []) (rest := []) C A hS (fun E' => c_X11_thrown l E' zR (show f_X11_thrown Mr' = some 1 by show some (Mr' 0 7) = some _; rw [ht])) jy_X11_thrown rfl lk_L_99 dL_law_1878 rfl rfl hl.1 (Nat.le_of_ble_eq_true rfl) ⟨Nat.le_of_ble_eq_true rfl, Nat.le_of_ble_eq_true rfl⟩ ⟨rfl, rfl⟩ ⟨by show cells + 1 ≤ 601024; omega, by show slots + 6 ≤ 7293034; omega⟩ (fun H locs hrt hS => ?_)
    refine r_iload C dL_law_1881 hl 0 rfl ?_
    refine r_icmp_eq C 1888 ⟨by decide, by decide⟩ ⟨by decide, by decide⟩ dL_law_1883 (by decide) (fun cq => ?_) (fun cq => absurd rfl cq)
    refine r_goto C 1891 dL_law_1888 (by decide) ?_
    exact kk _ _ _ _ _ _ _ (by show cells + 1 ≤ cells + 1; omega) (by show slots + 6 ≤ slots + 6; omega) hS (lv_sub hl [1, 2, 3, 4, 5, 6] rfl)
  · refine r_aload_n C dL_law_1855 rfl hl 4 rfl ?_
    refine r_aload_n C dL_law_1856 rfl hl 5 rfl ?_
    refine r_iload C dL_law_1857 hl 0 rfl ?_
    refine r_iconst C dL_law_1859 ?_
    refine r_iadd C dL_law_1860 ?_
    refine r_sld C A hS (i := i + 1) (v := p0) ⟨by omega, by omega⟩ ⟨by omega, by omega⟩ hx0 dL_law_1861 ?_
    refine rl_HN (n := 2) (As := [.ref (zC + 0), .int (jI p0)]) (rest := []) C A hS (w2_restore l hst (eRg E0 (PO zC zoL zE)) zC zoL (outL E0 fL) hp0 hf) (gh_restore).1 (gh_restore).2.1 (gh_restore).2.2 ⟨by decide, by decide, by decide +kernel⟩ lk_L_236 dL_law_1862 rfl rfl hl.1 (Nat.le_of_ble_eq_true rfl) ⟨Nat.le_of_ble_eq_true rfl, Nat.le_of_ble_eq_true rfl⟩ ⟨by show cells + 1 ≤ 601024; omega, by show slots + 6 ≤ 7293034; omega⟩ (fun H locs hrh hS => ?_)
    refine r_istore C [(6, .int (jI 2)), (5, .int (jI i)), (4, .ref zoD), (3, .ref zoL), (2, .ref (zR + 0)), (1, .ref (zC + 0)), (0, .ref b)] dL_law_1865 hl (by decide) rfl (fun ls hl => ?_)
    refine r_aload_n C dL_law_1867 rfl hl 4 rfl ?_
    refine r_aload_n C dL_law_1868 rfl hl 6 rfl ?_
    refine r_iload C dL_law_1869 hl 1 rfl ?_
    refine r_iconst C dL_law_1871 ?_
    refine r_iadd C dL_law_1872 ?_
    refine r_sld C A hS (i := i + 1) (v := p0) ⟨by omega, by omega⟩ ⟨by omega, by omega⟩ hx0 dL_law_1873 ?_
    refine rl_RV (As := [.int (jI p0)]) (rest := []) C A hS (fun E' => c_X11_restore l E' zR hp0 hfR) jy_X11_restore rfl lk_L_238 dL_law_1874 rfl rfl hl.1 (Nat.le_of_ble_eq_true rfl) ⟨Nat.le_of_ble_eq_true rfl, Nat.le_of_ble_eq_true rfl⟩ ⟨rfl, rfl⟩ ⟨by show cells + 1 ≤ 601024; omega, by show slots + 6 ≤ 7293034; omega⟩ (fun H locs hS => ?_)
    refine r_aload_n C dL_law_1877 rfl hl 4 rfl ?_
    refine rl_RI (As := []) (rest := []) C A hS (fun E' => c_X11_thrown l E' zR (show f_X11_thrown Mr' = some 2 by show some (Mr' 0 7) = some _; rw [ht])) jy_X11_thrown rfl lk_L_99 dL_law_1878 rfl rfl hl.1 (Nat.le_of_ble_eq_true rfl) ⟨Nat.le_of_ble_eq_true rfl, Nat.le_of_ble_eq_true rfl⟩ ⟨rfl, rfl⟩ ⟨by show cells + 1 ≤ 601024; omega, by show slots + 6 ≤ 7293034; omega⟩ (fun H locs hrt hS => ?_)
    refine r_iload C dL_law_1881 hl 0 rfl ?_
    refine r_icmp_eq C 1888 ⟨by decide, by decide⟩ ⟨by decide, by decide⟩ dL_law_1883 (by decide) (fun cq => ?_) (fun cq => absurd rfl cq)
    refine r_goto C 1891 dL_law_1888 (by decide) ?_
    exact kk _ _ _ _ _ _ _ (by show cells + 1 ≤ cells + 1; omega) (by show slots + 6 ≤ slots + 6; omega) hS (lv_sub hl [1, 2, 3, 4, 5, 6] rfl)
end JK
