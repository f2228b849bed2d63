set_option maxRecDepth 100000 in
theorem c_X8_append (l : Launch) (E : jE) (z : Nat) {x1 : Int} {M M' : Mem} (hx1 : inR x1) (h : f_X8_append x1 M = some M') : CtV l yX8_append cX8_append 3 none { frames := 0, cells := 0, slots := 0, locals := 0 } E z LyC [.ref (z + 1), .int (jI x1)] M M' := by sorry
set_option maxRecDepth 100000 in
theorem c_X8_isDigit (l : Launch) (E : jE) (z : Nat) {x0 : Int} {M : Mem} {r : Int} (hx0 : inR x0) (h : f_X8_isDigit x0 M = some r) : CtI l yX8_isDigit cX8_isDigit 1 (some .boolean) { frames := 0, cells := 0, slots := 0, locals := 0 } E z LyC [.int (jI x0)] M r M := by sorry
set_option maxRecDepth 100000 in
theorem c_X8_isLetter (l : Launch) (E : jE) (z : Nat) {x0 : Int} {M : Mem} {r : Int} (hx0 : inR x0) (h : f_X8_isLetter x0 M = some r) : CtI l yX8_isLetter cX8_isLetter 1 (some .boolean) { frames := 0, cells := 0, slots := 0, locals := 0 } E z LyC [.int (jI x0)] M r M := by sorry
set_option maxRecDepth 100000 in
theorem c_X8_kindOfSign (l : Launch) (E : jE) (z : Nat) {x0 : Int} {M : Mem} {r : Int} (hx0 : inR x0) (h : f_X8_kindOfSign x0 M = some r) : CtI l yX8_kindOfSign cX8_kindOfSign 1 (some .int) { frames := 0, cells := 0, slots := 0, locals := 0 } E z LyC [.int (jI x0)] M r M := by sorry
set_option maxRecDepth 100000 in
theorem c_X8_advance (l : Launch) (E : jE) (z : Nat) {M M' : Mem} (h : f_X8_advance M = some M') : CtV l yX8_advance cX8_advance 2 none { frames := 1, cells := 0, slots := 0, locals := 20 } E z LyC [.ref (z + 1)] M M' := by sorry
set_option maxRecDepth 100000 in
theorem c_X8_startReading (l : Launch) (E : jE) (z : Nat) {M M' : Mem} (h : f_X8_startReading M = some M') : CtV l yX8_startReading cX8_startReading 1 none { frames := 2, cells := 0, slots := 0, locals := 41 } E z LyC [.ref (z + 1)] M M' := by sorry
set_option maxRecDepth 100000 in
theorem c_X8_fail (l : Launch) (E : jE) (z : Nat) {x1 : Int} {M M' : Mem} {r : Int} (hx1 : inR x1) (h : f_X8_fail x1 M = some (r, M')) : CtI l yX8_fail cX8_fail 2 (some .boolean) { frames := 0, cells := 0, slots := 0, locals := 0 } E z LyC [.ref (z + 1), .int (jI x1)] M r M' := by sorry
set_option maxRecDepth 100000 in
theorem c_X8_size (l : Launch) (E : jE) (z : Nat) {M : Mem} {r : Int} (h : f_X8_size M = some r) : CtI l yX8_size cX8_size 1 (some .int) { frames := 0, cells := 0, slots := 0, locals := 0 } E z LyC [.ref (z + 1)] M r M := by sorry
set_option maxRecDepth 100000 in
theorem c_X8_isWord (l : Launch) (E : jE) (z : Nat) {w1 : Nat} {M : Mem} {r : Int} (hw1 : w1 < nST) (h : f_X8_isWord w1 M = some r) : CtI l yX8_isWord cX8_isWord 3 (some .boolean) { frames := 6, cells := 0, slots := 0, locals := 300 } E z LyC [.ref (z + 1), .ref (eK E w1)] M r M := by sorry
set_option maxRecDepth 100000 in
theorem c_X8_take (l : Launch) (E : jE) (z : Nat) {x1 : Int} {M M' : Mem} {r : Int} (hx1 : inR x1) (h : f_X8_take x1 M = some (r, M')) : CtI l yX8_take cX8_take 2 (some .boolean) { frames := 2, cells := 0, slots := 0, locals := 41 } E z LyC [.ref (z + 1), .int (jI x1)] M r M' := by sorry
set_option maxRecDepth 100000 in
theorem c_X8_takeWord (l : Launch) (E : jE) (z : Nat) {w1 : Nat} {M M' : Mem} {r : Int} (hw1 : w1 < nST) (h : f_X8_takeWord w1 M = some (r, M')) : CtI l yX8_takeWord cX8_takeWord 2 (some .boolean) { frames := 7, cells := 0, slots := 0, locals := 322 } E z LyC [.ref (z + 1), .ref (eK E w1)] M r M' := by sorry
set_option maxRecDepth 100000 in
theorem c_X8_takeNumber (l : Launch) (E : jE) (z : Nat) {x1 : Int} {x2 : Int} {M M' : Mem} {r : Int} (hx1 : inR x1) (hx2 : inR x2) (h : f_X8_takeNumber x1 x2 M = some (r, M')) : CtI l yX8_takeNumber cX8_takeNumber 3 (some .boolean) { frames := 2, cells := 0, slots := 0, locals := 41 } E z LyC [.ref (z + 1), .int (jI x1), .int (jI x2)] M r M' := by sorry
set_option maxRecDepth 100000 in
theorem c_J6_bitCount_0f7a4 (l : Launch) (E : jE) (z : Nat) {x0 : Int} {M : Mem} {r : Int} (hx0 : inR x0) (h : f_J6_bitCount_0f7a4 x0 M = some r) : CtI l yJ6_bitCount_0f7a4 cJ6_bitCount_0f7a4 1 (some .int) { frames := 0, cells := 0, slots := 0, locals := 0 } E z LyC [.int (jI x0)] M r M := by sorry
set_option maxRecDepth 100000 in
theorem c_X3_copyFrom (l : Launch) (E : jE) (z : Nat) {s : Nat} {s1 : Nat} {M M' : Mem} (hs : isSt s) (hs1 : isSt s1) (h : f_X3_copyFrom s s1 M = some M') : CtV l yX3_copyFrom cX3_copyFrom 2 none { frames := 1, cells := 0, slots := 0, locals := 18 } E z LyC [.ref (z + (s + 1)), .ref (z + (s1 + 1))] M M' := by sorry
set_option maxRecDepth 100000 in
theorem c_X3_cameraOf (l : Launch) (E : jE) (z : Nat) {s : Nat} {x1 : Int} {M : Mem} {r : Int} (hs : isSt s) (hx1 : inR x1) (h : f_X3_cameraOf s x1 M = some r) : CtI l yX3_cameraOf cX3_cameraOf 2 (some .int) { frames := 0, cells := 0, slots := 0, locals := 0 } E z LyC [.ref (z + (s + 1)), .int (jI x1)] M r M := by sorry
set_option maxRecDepth 100000 in
theorem c_X3_lengthOf (l : Launch) (E : jE) (z : Nat) {s : Nat} {x1 : Int} {M : Mem} {r : Int} (hs : isSt s) (hx1 : inR x1) (h : f_X3_lengthOf s x1 M = some r) : CtI l yX3_lengthOf cX3_lengthOf 2 (some .int) { frames := 0, cells := 0, slots := 0, locals := 0 } E z LyC [.ref (z + (s + 1)), .int (jI x1)] M r M := by sorry
set_option maxRecDepth 100000 in
theorem c_X3_nameLengthOf (l : Launch) (E : jE) (z : Nat) {s : Nat} {x1 : Int} {M : Mem} {r : Int} (hs : isSt s) (hx1 : inR x1) (h : f_X3_nameLengthOf s x1 M = some r) : CtI l yX3_nameLengthOf cX3_nameLengthOf 2 (some .int) { frames := 0, cells := 0, slots := 0, locals := 0 } E z LyC [.ref (z + (s + 1)), .int (jI x1)] M r M := by sorry
set_option maxRecDepth 100000 in
theorem c_X3_setting (l : Launch) (E : jE) (z : Nat) {s : Nat} {x1 : Int} {M : Mem} {r : Int} (hs : isSt s) (hx1 : inR x1) (h : f_X3_setting s x1 M = some r) : CtI l yX3_setting cX3_setting 2 (some .int) { frames := 0, cells := 0, slots := 0, locals := 0 } E z LyC [.ref (z + (s + 1)), .int (jI x1)] M r M := by sorry
set_option maxRecDepth 100000 in
theorem c_X3_set (l : Launch) (E : jE) (z : Nat) {s : Nat} {x1 : Int} {x2 : Int} {M M' : Mem} (hs : isSt s) (hx1 : inR x1) (hx2 : inR x2) (h : f_X3_set s x1 x2 M = some M') : CtV l yX3_set cX3_set 3 none { frames := 0, cells := 0, slots := 0, locals := 0 } E z LyC [.ref (z + (s + 1)), .int (jI x1), .int (jI x2)] M M' := by sorry
set_option maxRecDepth 100000 in
theorem c_X3_shotsOf (l : Launch) (E : jE) (z : Nat) {s : Nat} {x1 : Int} {M : Mem} {r : Int} (hs : isSt s) (hx1 : inR x1) (h : f_X3_shotsOf s x1 M = some r) : CtI l yX3_shotsOf cX3_shotsOf 4 (some .int) { frames := 0, cells := 0, slots := 0, locals := 0 } E z LyC [.ref (z + (s + 1)), .int (jI x1)] M r M := by sorry
set_option maxRecDepth 100000 in
theorem c_X3_isBanned (l : Launch) (E : jE) (z : Nat) {s : Nat} {x1 : Int} {x2 : Int} {M : Mem} {r : Int} (hs : isSt s) (hx1 : inR x1) (hx2 : inR x2) (h : f_X3_isBanned s x1 x2 M = some r) : CtI l yX3_isBanned cX3_isBanned 4 (some .boolean) { frames := 0, cells := 0, slots := 0, locals := 0 } E z LyC [.ref (z + (s + 1)), .int (jI x1), .int (jI x2)] M r M := by sorry
set_option maxRecDepth 100000 in
theorem c_X3_allowedShots (l : Launch) (E : jE) (z : Nat) {s : Nat} {x1 : Int} {M : Mem} {r : Int} (hs : isSt s) (hx1 : inR x1) (h : f_X3_allowedShots s x1 M = some r) : CtI l yX3_allowedShots cX3_allowedShots 4 (some .int) { frames := 1, cells := 0, slots := 0, locals := 23 } E z LyC [.ref (z + (s + 1)), .int (jI x1)] M r M := by sorry
set_option maxRecDepth 100000 in
theorem c_X3_isName (l : Launch) (E : jE) (z : Nat) {s : Nat} {x1 : Int} {b2 : Nat} {x3 : Int} {x4 : Int} {M : Mem} {r : Int} (hs : isSt s) (hx1 : inR x1) (hb2 : b2 < LyC.1 ∧ LyC.2 b2 = (21, 500)) (hx3 : inR x3) (hx4 : inR x4) (h : f_X3_isName s x1 b2 x3 x4 M = some r) : CtI l yX3_isName cX3_isName 6 (some .boolean) { frames := 0, cells := 0, slots := 0, locals := 0 } E z LyC [.ref (z + (s + 1)), .int (jI x1), .ref (z + b2), .int (jI x3), .int (jI x4)] M r M := by sorry
set_option maxRecDepth 100000 in
theorem c_X3_mapNamed (l : Launch) (E : jE) (z : Nat) {s : Nat} {b1 : Nat} {x2 : Int} {x3 : Int} {M : Mem} {r : Int} (hs : isSt s) (hb1 : b1 < LyC.1 ∧ LyC.2 b1 = (21, 500)) (hx2 : inR x2) (hx3 : inR x3) (h : f_X3_mapNamed s b1 x2 x3 M = some r) : CtI l yX3_mapNamed cX3_mapNamed 5 (some .int) { frames := 1, cells := 0, slots := 0, locals := 25 } E z LyC [.ref (z + (s + 1)), .ref (z + b1), .int (jI x2), .int (jI x3)] M r M := by sorry
set_option maxRecDepth 100000 in
theorem c_X3_readBan (l : Launch) (E : jE) (z : Nat) {s : Nat} {M M' : Mem} {r : Int} (hs : isSt s) (h : f_X3_readBan s M = some (r, M')) : CtI l yX3_readBan cX3_readBan 2 (some .boolean) { frames := 3, cells := 0, slots := 0, locals := 63 } E z LyC [.ref (z + (s + 1)), .ref (z + 1)] M r M' := by sorry
set_option maxRecDepth 100000 in
theorem c_X3_readName (l : Launch) (E : jE) (z : Nat) {s : Nat} {M M' : Mem} {r : Int} (hs : isSt s) (h : f_X3_readName s M = some (r, M')) : CtI l yX3_readName cX3_readName 3 (some .boolean) { frames := 2, cells := 0, slots := 0, locals := 49 } E z LyC [.ref (z + (s + 1)), .ref (z + 1)] M r M' := by sorry
set_option maxRecDepth 100000 in
theorem c_X3_readSetting (l : Launch) (E : jE) (z : Nat) {s : Nat} {x2 : Int} {M M' : Mem} {r : Int} (hs : isSt s) (hx2 : inR x2) (h : f_X3_readSetting s x2 M = some (r, M')) : CtI l yX3_readSetting cX3_readSetting 3 (some .boolean) { frames := 3, cells := 0, slots := 0, locals := 63 } E z LyC [.ref (z + (s + 1)), .ref (z + 1), .int (jI x2)] M r M' := by sorry
set_option maxRecDepth 100000 in
theorem c_X3_readShot (l : Launch) (E : jE) (z : Nat) {s : Nat} {M M' : Mem} {r : Int} (hs : isSt s) (h : f_X3_readShot s M = some (r, M')) : CtI l yX3_readShot cX3_readShot 2 (some .boolean) { frames := 3, cells := 0, slots := 0, locals := 63 } E z LyC [.ref (z + (s + 1)), .ref (z + 1)] M r M' := by sorry
set_option maxRecDepth 100000 in
theorem c_X3_settingTold (l : Launch) (E : jE) (z : Nat) {M : Mem} {r : Int} (h : f_X3_settingTold M = some r) : CtI l yX3_settingTold cX3_settingTold 1 (some .int) { frames := 7, cells := 0, slots := 0, locals := 322 } E z LyC [.ref (z + 1)] M r M := by sorry
set_option maxRecDepth 100000 in
theorem c_X3_readStatement (l : Launch) (E : jE) (z : Nat) {s : Nat} {M M' : Mem} {r : Int} (hs : isSt s) (h : f_X3_readStatement s M = some (r, M')) : CtI l yX3_readStatement cX3_readStatement 3 (some .boolean) { frames := 8, cells := 0, slots := 0, locals := 342 } E z LyC [.ref (z + (s + 1)), .ref (z + 1)] M r M' := by sorry
set_option maxRecDepth 100000 in
theorem c_X3_readFrom (l : Launch) (E : jE) (z : Nat) {s : Nat} {M M' : Mem} {r : Int} (hs : isSt s) (h : f_X3_readFrom s M = some (r, M')) : CtI l yX3_readFrom cX3_readFrom 3 (some .boolean) { frames := 9, cells := 0, slots := 0, locals := 364 } E z LyC [.ref (z + (s + 1)), .ref (z + 1)] M r M' := by sorry
set_option maxRecDepth 100000 in
theorem c_X9_clear (l : Launch) (E : jE) (z : Nat) {s : Nat} {M M' : Mem} (hs : isSt s) (h : f_X9_clear s M = some M') : CtV l yX9_clear cX9_clear 1 none { frames := 0, cells := 0, slots := 0, locals := 0 } E z LyC [.ref (z + (s + 11))] M M' := by sorry
set_option maxRecDepth 100000 in
theorem c_X9_copyFrom (l : Launch) (E : jE) (z : Nat) {s : Nat} {s1 : Nat} {M M' : Mem} (hs : isSt s) (hs1 : isSt s1) (h : f_X9_copyFrom s s1 M = some M') : CtV l yX9_copyFrom cX9_copyFrom 2 none { frames := 1, cells := 0, slots := 0, locals := 18 } E z LyC [.ref (z + (s + 11)), .ref (z + (s1 + 11))] M M' := by sorry
set_option maxRecDepth 100000 in
theorem c_X9_allSyllables (l : Launch) (E : jE) (z : Nat) {s : Nat} {M : Mem} {r : Int} (hs : isSt s) (h : f_X9_allSyllables s M = some r) : CtI l yX9_allSyllables cX9_allSyllables 3 (some .int) { frames := 0, cells := 0, slots := 0, locals := 0 } E z LyC [.ref (z + (s + 11))] M r M := by sorry
set_option maxRecDepth 100000 in
theorem c_X9_sentenceOf (l : Launch) (E : jE) (z : Nat) {s : Nat} {x1 : Int} {M : Mem} {r : Int} (hs : isSt s) (hx1 : inR x1) (h : f_X9_sentenceOf s x1 M = some r) : CtI l yX9_sentenceOf cX9_sentenceOf 4 (some .int) { frames := 0, cells := 0, slots := 0, locals := 0 } E z LyC [.ref (z + (s + 11)), .int (jI x1)] M r M := by sorry
set_option maxRecDepth 100000 in
theorem c_X9_sentences (l : Launch) (E : jE) (z : Nat) {s : Nat} {M : Mem} {r : Int} (hs : isSt s) (h : f_X9_sentences s M = some r) : CtI l yX9_sentences cX9_sentences 1 (some .int) { frames := 1, cells := 0, slots := 0, locals := 23 } E z LyC [.ref (z + (s + 11))] M r M := by sorry
set_option maxRecDepth 100000 in
theorem c_X9_endAt (l : Launch) (E : jE) (z : Nat) {s : Nat} {x1 : Int} {x2 : Int} {M : Mem} {r : Int} (hs : isSt s) (hx1 : inR x1) (hx2 : inR x2) (h : f_X9_endAt s x1 x2 M = some r) : CtI l yX9_endAt cX9_endAt 3 (some .int) { frames := 2, cells := 0, slots := 0, locals := 43 } E z LyC [.ref (z + (s + 11)), .int (jI x1), .int (jI x2)] M r M := by sorry
set_option maxRecDepth 100000 in
theorem c_X9_isVowel (l : Launch) (E : jE) (z : Nat) {x0 : Int} {M : Mem} {r : Int} (hx0 : inR x0) (h : f_X9_isVowel x0 M = some r) : CtI l yX9_isVowel cX9_isVowel 1 (some .boolean) { frames := 0, cells := 0, slots := 0, locals := 0 } E z LyC [.int (jI x0)] M r M := by sorry
set_option maxRecDepth 100000 in
theorem c_X9_syllablesOf (l : Launch) (E : jE) (z : Nat) {s : Nat} {x1 : Int} {x2 : Int} {M : Mem} {r : Int} (hs : isSt s) (hx1 : inR x1) (hx2 : inR x2) (h : f_X9_syllablesOf s x1 x2 M = some r) : CtI l yX9_syllablesOf cX9_syllablesOf 7 (some .int) { frames := 1, cells := 0, slots := 0, locals := 20 } E z LyC [.ref (z + (s + 11)), .int (jI x1), .int (jI x2)] M r M := by sorry
set_option maxRecDepth 100000 in
theorem c_X9_readWord (l : Launch) (E : jE) (z : Nat) {s : Nat} {M M' : Mem} {r : Int} (hs : isSt s) (h : f_X9_readWord s M = some (r, M')) : CtI l yX9_readWord cX9_readWord 3 (some .boolean) { frames := 2, cells := 0, slots := 0, locals := 46 } E z LyC [.ref (z + (s + 11)), .ref (z + 1)] M r M' := by sorry
set_option maxRecDepth 100000 in
theorem c_X9_readFrom (l : Launch) (E : jE) (z : Nat) {s : Nat} {M M' : Mem} {r : Int} (hs : isSt s) (h : f_X9_readFrom s M = some (r, M')) : CtI l yX9_readFrom cX9_readFrom 4 (some .boolean) { frames := 3, cells := 0, slots := 0, locals := 68 } E z LyC [.ref (z + (s + 11)), .ref (z + 1)] M r M' := by sorry
set_option maxRecDepth 100000 in
theorem c_X2_clear (l : Launch) (E : jE) (z : Nat) {s : Nat} {M M' : Mem} (hs : isSt s) (h : f_X2_clear s M = some M') : CtV l yX2_clear cX2_clear 1 none { frames := 0, cells := 0, slots := 0, locals := 0 } E z LyC [.ref (z + (s + 17))] M M' := by sorry
set_option maxRecDepth 100000 in
theorem c_X2_copyFrom (l : Launch) (E : jE) (z : Nat) {s : Nat} {s1 : Nat} {M M' : Mem} (hs : isSt s) (hs1 : isSt s1) (h : f_X2_copyFrom s s1 M = some M') : CtV l yX2_copyFrom cX2_copyFrom 2 none { frames := 1, cells := 0, slots := 0, locals := 18 } E z LyC [.ref (z + (s + 17)), .ref (z + (s1 + 17))] M M' := by sorry
set_option maxRecDepth 100000 in
theorem c_X2_add (l : Launch) (E : jE) (z : Nat) {s : Nat} {x1 : Int} {x2 : Int} {x3 : Int} {x4 : Int} {x5 : Int} {M M' : Mem} (hs : isSt s) (hx1 : inR x1) (hx2 : inR x2) (hx3 : inR x3) (hx4 : inR x4) (hx5 : inR x5) (h : f_X2_add s x1 x2 x3 x4 x5 M = some M') : CtV l yX2_add cX2_add 6 none { frames := 0, cells := 0, slots := 0, locals := 0 } E z LyC [.ref (z + (s + 17)), .int (jI x1), .int (jI x2), .int (jI x3), .int (jI x4), .int (jI x5)] M M' := by sorry
set_option maxRecDepth 100000 in
theorem c_X2_topIndex (l : Launch) (E : jE) (z : Nat) {s : Nat} {x1 : Int} {M : Mem} {r : Int} (hs : isSt s) (hx1 : inR x1) (h : f_X2_topIndex s x1 M = some r) : CtI l yX2_topIndex cX2_topIndex 4 (some .int) { frames := 0, cells := 0, slots := 0, locals := 0 } E z LyC [.ref (z + (s + 17)), .int (jI x1)] M r M := by sorry
set_option maxRecDepth 100000 in
theorem c_X2_addTop (l : Launch) (E : jE) (z : Nat) {s : Nat} {s1 : Nat} {x2 : Int} {M M' : Mem} (hs : isSt s) (hs1 : isSt s1) (hx2 : inR x2) (h : f_X2_addTop s s1 x2 M = some M') : CtV l yX2_addTop cX2_addTop 5 none { frames := 1, cells := 0, slots := 0, locals := 25 } E z LyC [.ref (z + (s + 17)), .ref (z + (s1 + 17)), .int (jI x2)] M M' := by sorry
set_option maxRecDepth 100000 in
theorem c_X2_topCount (l : Launch) (E : jE) (z : Nat) {s : Nat} {M : Mem} {r : Int} (hs : isSt s) (h : f_X2_topCount s M = some r) : CtI l yX2_topCount cX2_topCount 3 (some .int) { frames := 0, cells := 0, slots := 0, locals := 0 } E z LyC [.ref (z + (s + 17))] M r M := by sorry
set_option maxRecDepth 100000 in
theorem c_X2_behind (l : Launch) (E : jE) (z : Nat) {s : Nat} {x1 : Int} {M : Mem} {r : Int} (hs : isSt s) (hx1 : inR x1) (h : f_X2_behind s x1 M = some r) : CtI l yX2_behind cX2_behind 3 (some .int) { frames := 0, cells := 0, slots := 0, locals := 0 } E z LyC [.ref (z + (s + 17)), .int (jI x1)] M r M := by sorry
set_option maxRecDepth 100000 in
theorem c_X2_isBlock (l : Launch) (E : jE) (z : Nat) {s : Nat} {x1 : Int} {M : Mem} {r : Int} (hs : isSt s) (hx1 : inR x1) (h : f_X2_isBlock s x1 M = some r) : CtI l yX2_isBlock cX2_isBlock 2 (some .boolean) { frames := 0, cells := 0, slots := 0, locals := 0 } E z LyC [.ref (z + (s + 17)), .int (jI x1)] M r M := by sorry
set_option maxRecDepth 100000 in
theorem c_X2_framesOf (l : Launch) (E : jE) (z : Nat) {s : Nat} {x1 : Int} {M : Mem} {r : Int} (hs : isSt s) (hx1 : inR x1) (h : f_X2_framesOf s x1 M = some r) : CtI l yX2_framesOf cX2_framesOf 2 (some .int) { frames := 0, cells := 0, slots := 0, locals := 0 } E z LyC [.ref (z + (s + 17)), .int (jI x1)] M r M := by sorry
set_option maxRecDepth 100000 in
theorem c_X2_shorten (l : Launch) (E : jE) (z : Nat) {s : Nat} {x1 : Int} {x2 : Int} {M M' : Mem} (hs : isSt s) (hx1 : inR x1) (hx2 : inR x2) (h : f_X2_shorten s x1 x2 M = some M') : CtV l yX2_shorten cX2_shorten 3 none { frames := 0, cells := 0, slots := 0, locals := 0 } E z LyC [.ref (z + (s + 17)), .int (jI x1), .int (jI x2)] M M' := by sorry
set_option maxRecDepth 100000 in
theorem c_X2_deepest (l : Launch) (E : jE) (z : Nat) {s : Nat} {M : Mem} {r : Int} (hs : isSt s) (h : f_X2_deepest s M = some r) : CtI l yX2_deepest cX2_deepest 3 (some .int) { frames := 1, cells := 0, slots := 0, locals := 21 } E z LyC [.ref (z + (s + 17))] M r M := by sorry
set_option maxRecDepth 100000 in
theorem c_X2_pieceCount (l : Launch) (E : jE) (z : Nat) {s : Nat} {M M' : Mem} {r : Int} (hs : isSt s) (h : f_X2_pieceCount s M = some (r, M')) : CtI l yX2_pieceCount cX2_pieceCount 4 (some .int) { frames := 1, cells := 0, slots := 0, locals := 21 } E z LyC [.ref (z + (s + 17))] M r M' := by sorry
set_option maxRecDepth 100000 in
theorem c_X2_kindTold (l : Launch) (E : jE) (z : Nat) {M : Mem} {r : Int} (h : f_X2_kindTold M = some r) : CtI l yX2_kindTold cX2_kindTold 1 (some .int) { frames := 7, cells := 0, slots := 0, locals := 322 } E z LyC [.ref (z + 1)] M r M := by sorry
set_option maxRecDepth 100000 in
theorem c_X2_readCut (l : Launch) (E : jE) (z : Nat) {s : Nat} {s2 : Nat} {x3 : Int} {M M' : Mem} {r : Int} (hs : isSt s) (hs2 : isSt s2) (hx3 : inR x3) (h : f_X2_readCut s s2 x3 M = some (r, M')) : CtI l yX2_readCut cX2_readCut 7 (some .boolean) { frames := 8, cells := 0, slots := 0, locals := 343 } E z LyC [.ref (z + (s + 17)), .ref (z + 1), .ref (z + (s2 + 1)), .int (jI x3)] M r M' := by sorry
set_option maxRecDepth 100000 in
theorem c_X2_readMap (l : Launch) (E : jE) (z : Nat) {s : Nat} {s2 : Nat} {x3 : Int} {M M' : Mem} {r : Int} (hs : isSt s) (hs2 : isSt s2) (hx3 : inR x3) (h : f_X2_readMap s s2 x3 M = some (r, M')) : CtI l yX2_readMap cX2_readMap 5 (some .boolean) { frames := 3, cells := 0, slots := 0, locals := 63 } E z LyC [.ref (z + (s + 17)), .ref (z + 1), .ref (z + (s2 + 1)), .int (jI x3)] M r M' := by sorry
set_option maxRecDepth 100000 in
theorem c_X5_hasPieces (l : Launch) (E : jE) (z : Nat) {s0 : Nat} {x1 : Int} {x2 : Int} {M : Mem} {r : Int} (hs0 : isSt s0) (hx1 : inR x1) (hx2 : inR x2) (h : f_X5_hasPieces s0 x1 x2 M = some r) : CtI l yX5_hasPieces cX5_hasPieces 4 (some .boolean) { frames := 1, cells := 0, slots := 0, locals := 21 } E z LyC [.ref (z + (s0 + 17)), .int (jI x1), .int (jI x2)] M r M := by sorry
set_option maxRecDepth 100000 in
theorem c_X5_endOf (l : Launch) (E : jE) (z : Nat) {x1 : Int} {M : Mem} {r : Int} (hx1 : inR x1) (h : f_X5_endOf x1 M = some r) : CtI l yX5_endOf cX5_endOf 2 (some .int) { frames := 0, cells := 0, slots := 0, locals := 0 } E z LyC [.ref (z + 56), .int (jI x1)] M r M := by sorry
set_option maxRecDepth 100000 in
theorem c_X5_overlapOf (l : Launch) (E : jE) (z : Nat) {x1 : Int} {M : Mem} {r : Int} (hx1 : inR x1) (h : f_X5_overlapOf x1 M = some r) : CtI l yX5_overlapOf cX5_overlapOf 3 (some .int) { frames := 1, cells := 0, slots := 0, locals := 13 } E z LyC [.ref (z + 56), .int (jI x1)] M r M := by sorry
set_option maxRecDepth 100000 in
theorem c_X5_addPiece (l : Launch) (E : jE) (z : Nat) {s1 : Nat} {x2 : Int} {x3 : Int} {M M' : Mem} (hs1 : isSt s1) (hx2 : inR x2) (hx3 : inR x3) (h : f_X5_addPiece s1 x2 x3 M = some M') : CtV l yX5_addPiece cX5_addPiece 4 none { frames := 2, cells := 0, slots := 0, locals := 35 } E z LyC [.ref (z + 56), .ref (z + (s1 + 17)), .int (jI x2), .int (jI x3)] M M' := by sorry
set_option maxRecDepth 100000 in
theorem c_X5_onScreen (l : Launch) (E : jE) (z : Nat) {x1 : Int} {M : Mem} {r : Int} (hx1 : inR x1) (h : f_X5_onScreen x1 M = some r) : CtI l yX5_onScreen cX5_onScreen 3 (some .int) { frames := 1, cells := 0, slots := 0, locals := 21 } E z LyC [.ref (z + 56), .int (jI x1)] M r M := by sorry
set_option maxRecDepth 100000 in
theorem c_X5_framesOnScreen (l : Launch) (E : jE) (z : Nat) {x1 : Int} {M : Mem} {r : Int} (hx1 : inR x1) (h : f_X5_framesOnScreen x1 M = some r) : CtI l yX5_framesOnScreen cX5_framesOnScreen 2 (some .int) { frames := 0, cells := 0, slots := 0, locals := 0 } E z LyC [.ref (z + 56), .int (jI x1)] M r M := by sorry
set_option maxRecDepth 100000 in
theorem c_X5_shows (l : Launch) (E : jE) (z : Nat) {x1 : Int} {x2 : Int} {M : Mem} {r : Int} (hx1 : inR x1) (hx2 : inR x2) (h : f_X5_shows x1 x2 M = some r) : CtI l yX5_shows cX5_shows 4 (some .boolean) { frames := 2, cells := 0, slots := 0, locals := 43 } E z LyC [.ref (z + 56), .int (jI x1), .int (jI x2)] M r M := by sorry
set_option maxRecDepth 100000 in
theorem c_X5_cameraOf (l : Launch) (E : jE) (z : Nat) {x1 : Int} {s2 : Nat} {M : Mem} {r : Int} (hx1 : inR x1) (hs2 : isSt s2) (h : f_X5_cameraOf x1 s2 M = some r) : CtI l yX5_cameraOf cX5_cameraOf 3 (some .int) { frames := 1, cells := 0, slots := 0, locals := 21 } E z LyC [.ref (z + 56), .int (jI x1), .ref (z + (s2 + 1))] M r M := by sorry
set_option maxRecDepth 100000 in
theorem c_X5_countOf (l : Launch) (E : jE) (z : Nat) {x1 : Int} {x2 : Int} {M : Mem} {r : Int} (hx1 : inR x1) (hx2 : inR x2) (h : f_X5_countOf x1 x2 M = some r) : CtI l yX5_countOf cX5_countOf 5 (some .int) { frames := 0, cells := 0, slots := 0, locals := 0 } E z LyC [.ref (z + 56), .int (jI x1), .int (jI x2)] M r M := by sorry
set_option maxRecDepth 100000 in
theorem c_X5_framesOf (l : Launch) (E : jE) (z : Nat) {x1 : Int} {x2 : Int} {M : Mem} {r : Int} (hx1 : inR x1) (hx2 : inR x2) (h : f_X5_framesOf x1 x2 M = some r) : CtI l yX5_framesOf cX5_framesOf 5 (some .int) { frames := 0, cells := 0, slots := 0, locals := 0 } E z LyC [.ref (z + 56), .int (jI x1), .int (jI x2)] M r M := by sorry
set_option maxRecDepth 100000 in
theorem c_X5_longest (l : Launch) (E : jE) (z : Nat) {M : Mem} {r : Int} (h : f_X5_longest M = some r) : CtI l yX5_longest cX5_longest 3 (some .int) { frames := 1, cells := 0, slots := 0, locals := 13 } E z LyC [.ref (z + 56)] M r M := by sorry
set_option maxRecDepth 100000 in
theorem c_X5_allOverlaps (l : Launch) (E : jE) (z : Nat) {M : Mem} {r : Int} (h : f_X5_allOverlaps M = some r) : CtI l yX5_allOverlaps cX5_allOverlaps 3 (some .int) { frames := 0, cells := 0, slots := 0, locals := 0 } E z LyC [.ref (z + 56)] M r M := by sorry
set_option maxRecDepth 100000 in
theorem c_X6_timeFrom (l : Launch) (E : jE) (z : Nat) {s1 : Nat} {s2 : Nat} {M M' : Mem} (hs1 : isSt s1) (hs2 : isSt s2) (h : f_X6_timeFrom s1 s2 M = some M') : CtV l yX6_timeFrom cX6_timeFrom 5 none { frames := 2, cells := 0, slots := 0, locals := 49 } E z LyC [.ref (z + 64), .ref (z + (s1 + 11)), .ref (z + (s2 + 1))] M M' := by sorry
set_option maxRecDepth 100000 in
theorem c_X6_wordAt (l : Launch) (E : jE) (z : Nat) {x1 : Int} {M : Mem} {r : Int} (hx1 : inR x1) (h : f_X6_wordAt x1 M = some r) : CtI l yX6_wordAt cX6_wordAt 3 (some .int) { frames := 0, cells := 0, slots := 0, locals := 0 } E z LyC [.ref (z + 64), .int (jI x1)] M r M := by sorry
set_option maxRecDepth 100000 in
theorem c_X6_countOf (l : Launch) (E : jE) (z : Nat) {x1 : Int} {M : Mem} {r : Int} (hx1 : inR x1) (h : f_X6_countOf x1 M = some r) : CtI l yX6_countOf cX6_countOf 4 (some .int) { frames := 0, cells := 0, slots := 0, locals := 0 } E z LyC [.ref (z + 64), .int (jI x1)] M r M := by sorry
set_option maxRecDepth 100000 in
theorem c_X7_copyFrom (l : Launch) (E : jE) (z : Nat) {s : Nat} {s1 : Nat} {M M' : Mem} (hs : isSt s) (hs1 : isSt s1) (h : f_X7_copyFrom s s1 M = some M') : CtV l yX7_copyFrom cX7_copyFrom 2 none { frames := 2, cells := 0, slots := 0, locals := 39 } E z LyC [.ref (z + (s + 0)), .ref (z + (s1 + 0))] M M' := by sorry
set_option maxRecDepth 100000 in
theorem c_X0_compare (l : Launch) (E : jE) (z : Nat) {x1 : Int} {x2 : Int} {M M' : Mem} (hx1 : inR x1) (hx2 : inR x2) (h : f_X0_compare x1 x2 M = some M') : CtV l yX0_compare cX0_compare 4 none { frames := 1, cells := 0, slots := 0, locals := 20 } E z LyC [.ref (z + 71), .int (jI x1), .int (jI x2)] M M' := by sorry
set_option maxRecDepth 100000 in
theorem c_X0_find (l : Launch) (E : jE) (z : Nat) {s1 : Nat} {x2 : Int} {x3 : Int} {M M' : Mem} (hs1 : isSt s1) (hx2 : inR x2) (hx3 : inR x3) (h : f_X0_find s1 x2 x3 M = some M') : CtV l yX0_find cX0_find 10 none { frames := 2, cells := 0, slots := 0, locals := 43 } E z LyC [.ref (z + 71), .ref (z + (s1 + 1)), .int (jI x2), .int (jI x3)] M M' := by sorry
set_option maxRecDepth 100000 in
theorem c_X1_add (l : Launch) (E : jE) (z : Nat) {x1 : Int} {x2 : Int} {M M' : Mem} (hx1 : inR x1) (hx2 : inR x2) (h : f_X1_add x1 x2 M = some M') : CtV l yX1_add cX1_add 3 none { frames := 0, cells := 0, slots := 0, locals := 0 } E z LyC [.ref (z + 68), .int (jI x1), .int (jI x2)] M M' := by sorry
set_option maxRecDepth 100000 in
theorem c_X1_findBanned (l : Launch) (E : jE) (z : Nat) {s2 : Nat} {M M' : Mem} (hs2 : isSt s2) (h : f_X1_findBanned s2 M = some M') : CtV l yX1_findBanned cX1_findBanned 5 none { frames := 2, cells := 0, slots := 0, locals := 46 } E z LyC [.ref (z + 68), .ref (z + 56), .ref (z + (s2 + 1))] M M' := by sorry
set_option maxRecDepth 100000 in
theorem c_X1_findSameCamera (l : Launch) (E : jE) (z : Nat) {s2 : Nat} {M M' : Mem} (hs2 : isSt s2) (h : f_X1_findSameCamera s2 M = some M') : CtV l yX1_findSameCamera cX1_findSameCamera 5 none { frames := 2, cells := 0, slots := 0, locals := 43 } E z LyC [.ref (z + 68), .ref (z + 56), .ref (z + (s2 + 1))] M M' := by sorry
set_option maxRecDepth 100000 in
theorem c_X1_findShort (l : Launch) (E : jE) (z : Nat) {x2 : Int} {M M' : Mem} (hx2 : inR x2) (h : f_X1_findShort x2 M = some M') : CtV l yX1_findShort cX1_findShort 4 none { frames := 1, cells := 0, slots := 0, locals := 22 } E z LyC [.ref (z + 68), .ref (z + 56), .int (jI x2)] M M' := by sorry
set_option maxRecDepth 100000 in
theorem c_X1_findUnseenNames (l : Launch) (E : jE) (z : Nat) {M M' : Mem} (h : f_X1_findUnseenNames M = some M') : CtV l yX1_findUnseenNames cX1_findUnseenNames 5 none { frames := 3, cells := 0, slots := 0, locals := 66 } E z LyC [.ref (z + 68), .ref (z + 56), .ref (z + 64)] M M' := by sorry
set_option maxRecDepth 100000 in
theorem c_X1_find (l : Launch) (E : jE) (z : Nat) {s1 : Nat} {M M' : Mem} (hs1 : isSt s1) (h : f_X1_find s1 M = some M') : CtV l yX1_find cX1_find 4 none { frames := 4, cells := 0, slots := 0, locals := 90 } E z LyC [.ref (z + 68), .ref (z + (s1 + 0)), .ref (z + 56), .ref (z + 64)] M M' := by sorry
set_option maxRecDepth 100000 in
theorem c_X1_countOf (l : Launch) (E : jE) (z : Nat) {x1 : Int} {M : Mem} {r : Int} (hx1 : inR x1) (h : f_X1_countOf x1 M = some r) : CtI l yX1_countOf cX1_countOf 4 (some .int) { frames := 0, cells := 0, slots := 0, locals := 0 } E z LyC [.ref (z + 68), .int (jI x1)] M r M := by sorry
set_option maxRecDepth 100000 in
theorem c_X4_byteAt (l : Launch) (E : jE) (z : Nat) {x1 : Int} {M : Mem} {r : Int} (hx1 : inR x1) (h : f_X4_byteAt x1 M = some r) : CtI l yX4_byteAt cX4_byteAt 2 (some .int) { frames := 0, cells := 0, slots := 0, locals := 0 } E z LyC [.ref (z + 3), .int (jI x1)] M r M := by sorry
set_option maxRecDepth 100000 in
theorem c_X4_put (l : Launch) (E : jE) (z : Nat) {x1 : Int} {M M' : Mem} (hx1 : inR x1) (h : f_X4_put x1 M = some M') : CtV l yX4_put cX4_put 2 none { frames := 0, cells := 0, slots := 0, locals := 0 } E z LyC [.ref (z + 3), .int (jI x1)] M M' := by sorry
set_option maxRecDepth 100000 in
theorem c_X4_closeBlocks (l : Launch) (E : jE) (z : Nat) {x1 : Int} {M M' : Mem} (hx1 : inR x1) (h : f_X4_closeBlocks x1 M = some M') : CtV l yX4_closeBlocks cX4_closeBlocks 3 none { frames := 1, cells := 0, slots := 0, locals := 21 } E z LyC [.ref (z + 3), .int (jI x1)] M M' := by sorry
set_option maxRecDepth 100000 in
theorem c_X4_putNumber (l : Launch) (E : jE) (z : Nat) {x1 : Int} {M M' : Mem} (hx1 : inR x1) (h : f_X4_putNumber x1 M = some M') : CtV l yX4_putNumber cX4_putNumber 2 none { frames := 1, cells := 0, slots := 0, locals := 21 } E z LyC [.ref (z + 3), .int (jI x1)] M M' := by sorry
set_option maxRecDepth 100000 in
theorem c_X4_putText (l : Launch) (E : jE) (z : Nat) {w1 : Nat} {M M' : Mem} (hw1 : w1 < nST) (h : f_X4_putText w1 M = some M') : CtV l yX4_putText cX4_putText 3 none { frames := 6, cells := 0, slots := 0, locals := 300 } E z LyC [.ref (z + 3), .ref (eK E w1)] M M' := by sorry
set_option maxRecDepth 100000 in
theorem c_X4_writeFrames (l : Launch) (E : jE) (z : Nat) {s1 : Nat} {x2 : Int} {s3 : Nat} {M M' : Mem} (hs1 : isSt s1) (hx2 : inR x2) (hs3 : isSt s3) (h : f_X4_writeFrames s1 x2 s3 M = some M') : CtV l yX4_writeFrames cX4_writeFrames 4 none { frames := 7, cells := 0, slots := 0, locals := 322 } E z LyC [.ref (z + 3), .ref (z + (s1 + 17)), .int (jI x2), .ref (z + (s3 + 1))] M M' := by sorry
set_option maxRecDepth 100000 in
theorem c_X4_writeHead (l : Launch) (E : jE) (z : Nat) {s1 : Nat} {x2 : Int} {M M' : Mem} (hs1 : isSt s1) (hx2 : inR x2) (h : f_X4_writeHead s1 x2 M = some M') : CtV l yX4_writeHead cX4_writeHead 3 none { frames := 7, cells := 0, slots := 0, locals := 322 } E z LyC [.ref (z + 3), .ref (z + (s1 + 17)), .int (jI x2)] M M' := by sorry
set_option maxRecDepth 100000 in
theorem c_X4_writeItems (l : Launch) (E : jE) (z : Nat) {s1 : Nat} {s2 : Nat} {M M' : Mem} (hs1 : isSt s1) (hs2 : isSt s2) (h : f_X4_writeItems s1 s2 M = some M') : CtV l yX4_writeItems cX4_writeItems 5 none { frames := 8, cells := 0, slots := 0, locals := 345 } E z LyC [.ref (z + 3), .ref (z + (s1 + 17)), .ref (z + (s2 + 1))] M M' := by sorry
set_option maxRecDepth 100000 in
theorem c_X4_writeWords (l : Launch) (E : jE) (z : Nat) {s1 : Nat} {M M' : Mem} (hs1 : isSt s1) (h : f_X4_writeWords s1 M = some M') : CtV l yX4_writeWords cX4_writeWords 5 none { frames := 1, cells := 0, slots := 0, locals := 21 } E z LyC [.ref (z + 3), .ref (z + (s1 + 11))] M M' := by sorry
set_option maxRecDepth 100000 in
theorem c_X11_thrown (l : Launch) (E : jE) (z : Nat) {M : Mem} {r : Int} (h : f_X11_thrown M = some r) : CtI l yX11_thrown cX11_thrown 1 (some .int) { frames := 0, cells := 0, slots := 0, locals := 0 } E z LyR [.ref (z + 0)] M r M := by sorry
set_option maxRecDepth 100000 in
theorem c_X11_isIn (l : Launch) (E : jE) (z : Nat) {x0 : Int} {x1 : Int} {x2 : Int} {M : Mem} {r : Int} (hx0 : inR x0) (hx1 : inR x1) (hx2 : inR x2) (h : f_X11_isIn x0 x1 x2 M = some r) : CtI l yX11_isIn cX11_isIn 3 (some .boolean) { frames := 0, cells := 0, slots := 0, locals := 0 } E z LyR [.int (jI x0), .int (jI x1), .int (jI x2)] M r M := by sorry
set_option maxRecDepth 100000 in
theorem c_X11_bit (l : Launch) (E : jE) (z : Nat) {x0 : Int} {M : Mem} {r : Int} (hx0 : inR x0) (h : f_X11_bit x0 M = some r) : CtI l yX11_bit cX11_bit 1 (some .int) { frames := 0, cells := 0, slots := 0, locals := 0 } E z LyR [.int (jI x0)] M r M := by sorry
set_option maxRecDepth 100000 in
theorem c_X11_bits (l : Launch) (E : jE) (z : Nat) {x0 : Int} {M : Mem} {r : Int} (hx0 : inR x0) (h : f_X11_bits x0 M = some r) : CtI l yX11_bits cX11_bits 3 (some .int) { frames := 0, cells := 0, slots := 0, locals := 0 } E z LyR [.int (jI x0)] M r M := by sorry
set_option maxRecDepth 100000 in
theorem c_X11_goes (l : Launch) (E : jE) (z : Nat) {x1 : Int} {M M' : Mem} {r : Int} (hx1 : inR x1) (h : f_X11_goes x1 M = some (r, M')) : CtI l yX11_goes cX11_goes 2 (some .boolean) { frames := 0, cells := 0, slots := 0, locals := 0 } E z LyR [.ref (z + 0), .int (jI x1)] M r M' := by sorry
set_option maxRecDepth 100000 in
theorem c_X11_goesBoth (l : Launch) (E : jE) (z : Nat) {x1 : Int} {x2 : Int} {M M' : Mem} {r : Int} (hx1 : inR x1) (hx2 : inR x2) (h : f_X11_goesBoth x1 x2 M = some (r, M')) : CtI l yX11_goesBoth cX11_goesBoth 3 (some .boolean) { frames := 0, cells := 0, slots := 0, locals := 0 } E z LyR [.ref (z + 0), .int (jI x1), .int (jI x2)] M r M' := by sorry
set_option maxRecDepth 100000 in
theorem c_X11_clears (l : Launch) (E : jE) (z : Nat) {M M' : Mem} (h : f_X11_clears M = some M') : CtV l yX11_clears cX11_clears 2 none { frames := 0, cells := 0, slots := 0, locals := 0 } E z LyR [.ref (z + 0)] M M' := by sorry
set_option maxRecDepth 100000 in
theorem c_X11_copies (l : Launch) (E : jE) (z : Nat) {b0 nb0 : Nat} {x1 : Int} {b2 nb2 : Nat} {x3 : Int} {M M' : Mem} (hb0 : b0 < LyR.1 ∧ LyR.2 b0 = (20, nb0)) (hx1 : inR x1) (hb2 : b2 < LyR.1 ∧ LyR.2 b2 = (20, nb2)) (hx3 : inR x3) (h : f_X11_copies b0 nb0 x1 b2 nb2 x3 M = some M') : CtV l yX11_copies cX11_copies 5 none { frames := 0, cells := 0, slots := 0, locals := 0 } E z LyR [.ref (z + b0), .int (jI x1), .ref (z + b2), .int (jI x3)] M M' := by sorry
set_option maxRecDepth 100000 in
theorem c_X11_cameraOf (l : Launch) (E : jE) (z : Nat) {x1 : Int} {M : Mem} {r : Int} (hx1 : inR x1) (h : f_X11_cameraOf x1 M = some r) : CtI l yX11_cameraOf cX11_cameraOf 2 (some .int) { frames := 0, cells := 0, slots := 0, locals := 0 } E z LyR [.ref (z + 0), .int (jI x1)] M r M := by sorry
set_option maxRecDepth 100000 in
theorem c_X11_lengthOf (l : Launch) (E : jE) (z : Nat) {x1 : Int} {M : Mem} {r : Int} (hx1 : inR x1) (h : f_X11_lengthOf x1 M = some r) : CtI l yX11_lengthOf cX11_lengthOf 2 (some .int) { frames := 0, cells := 0, slots := 0, locals := 0 } E z LyR [.ref (z + 0), .int (jI x1)] M r M := by sorry
set_option maxRecDepth 100000 in
theorem c_X11_isBannedIn (l : Launch) (E : jE) (z : Nat) {x1 : Int} {x2 : Int} {M : Mem} {r : Int} (hx1 : inR x1) (hx2 : inR x2) (h : f_X11_isBannedIn x1 x2 M = some r) : CtI l yX11_isBannedIn cX11_isBannedIn 6 (some .boolean) { frames := 1, cells := 0, slots := 0, locals := 22 } E z LyR [.ref (z + 0), .int (jI x1), .int (jI x2)] M r M := by sorry
set_option maxRecDepth 100000 in
theorem c_X11_isBanned (l : Launch) (E : jE) (z : Nat) {x1 : Int} {M : Mem} {r : Int} (hx1 : inR x1) (h : f_X11_isBanned x1 M = some r) : CtI l yX11_isBanned cX11_isBanned 2 (some .boolean) { frames := 2, cells := 0, slots := 0, locals := 47 } E z LyR [.ref (z + 0), .int (jI x1)] M r M := by sorry
set_option maxRecDepth 100000 in
theorem c_X11_r (l : Launch) (E : jE) (z : Nat) {x1 : Int} {x2 : Int} {M : Mem} {r : Int} (hx1 : inR x1) (hx2 : inR x2) (h : f_X11_r x1 x2 M = some r) : CtI l yX11_r cX11_r 3 (some .int) { frames := 0, cells := 0, slots := 0, locals := 0 } E z LyR [.ref (z + 0), .int (jI x1), .int (jI x2)] M r M := by sorry
set_option maxRecDepth 100000 in
theorem c_X11_lays (l : Launch) (E : jE) (z : Nat) {x1 : Int} {x2 : Int} {x3 : Int} {x4 : Int} {x5 : Int} {M M' : Mem} (hx1 : inR x1) (hx2 : inR x2) (hx3 : inR x3) (hx4 : inR x4) (hx5 : inR x5) (h : f_X11_lays x1 x2 x3 x4 x5 M = some M') : CtV l yX11_lays cX11_lays 7 none { frames := 0, cells := 0, slots := 0, locals := 0 } E z LyR [.ref (z + 0), .int (jI x1), .int (jI x2), .int (jI x3), .int (jI x4), .int (jI x5)] M M' := by sorry
set_option maxRecDepth 100000 in
theorem c_X11_opens (l : Launch) (E : jE) (z : Nat) {x1 : Int} {x2 : Int} {x3 : Int} {M M' : Mem} (hx1 : inR x1) (hx2 : inR x2) (hx3 : inR x3) (h : f_X11_opens x1 x2 x3 M = some M') : CtV l yX11_opens cX11_opens 4 none { frames := 0, cells := 0, slots := 0, locals := 0 } E z LyR [.ref (z + 0), .int (jI x1), .int (jI x2), .int (jI x3)] M M' := by sorry
set_option maxRecDepth 100000 in
theorem c_X11_addsPiece (l : Launch) (E : jE) (z : Nat) {x1 : Int} {M M' : Mem} (hx1 : inR x1) (h : f_X11_addsPiece x1 M = some M') : CtV l yX11_addsPiece cX11_addsPiece 5 none { frames := 1, cells := 0, slots := 0, locals := 22 } E z LyR [.ref (z + 0), .int (jI x1)] M M' := by sorry
set_option maxRecDepth 100000 in
theorem c_X11_commonOverlap (l : Launch) (E : jE) (z : Nat) {x1 : Int} {M : Mem} {r : Int} (hx1 : inR x1) (h : f_X11_commonOverlap x1 M = some r) : CtI l yX11_commonOverlap cX11_commonOverlap 4 (some .int) { frames := 0, cells := 0, slots := 0, locals := 0 } E z LyR [.ref (z + 0), .int (jI x1)] M r M := by sorry
set_option maxRecDepth 100000 in
theorem c_X11_closes (l : Launch) (E : jE) (z : Nat) {x1 : Int} {M M' : Mem} {r : Int} (hx1 : inR x1) (h : f_X11_closes x1 M = some (r, M')) : CtI l yX11_closes cX11_closes 3 (some .int) { frames := 0, cells := 0, slots := 0, locals := 0 } E z LyR [.ref (z + 0), .int (jI x1)] M r M' := by sorry
set_option maxRecDepth 100000 in
theorem c_X11_goesThrough (l : Launch) (E : jE) (z : Nat) {x1 : Int} {M M' : Mem} {r : Int} (hx1 : inR x1) (h : f_X11_goesThrough x1 M = some (r, M')) : CtI l yX11_goesThrough cX11_goesThrough 2 (some .int) { frames := 2, cells := 0, slots := 0, locals := 46 } E z LyR [.ref (z + 0), .int (jI x1)] M r M' := by sorry
set_option maxRecDepth 100000 in
theorem c_X11_endOf (l : Launch) (E : jE) (z : Nat) {x1 : Int} {M : Mem} {r : Int} (hx1 : inR x1) (h : f_X11_endOf x1 M = some r) : CtI l yX11_endOf cX11_endOf 2 (some .int) { frames := 0, cells := 0, slots := 0, locals := 0 } E z LyR [.ref (z + 0), .int (jI x1)] M r M := by sorry
set_option maxRecDepth 100000 in
theorem c_X11_laysPieces (l : Launch) (E : jE) (z : Nat) {M M' : Mem} (h : f_X11_laysPieces M = some M') : CtV l yX11_laysPieces cX11_laysPieces 3 none { frames := 3, cells := 0, slots := 0, locals := 67 } E z LyR [.ref (z + 0)] M M' := by sorry
set_option maxRecDepth 100000 in
theorem c_X11_theEnd (l : Launch) (E : jE) (z : Nat) {M : Mem} {r : Int} (h : f_X11_theEnd M = some r) : CtI l yX11_theEnd cX11_theEnd 3 (some .int) { frames := 1, cells := 0, slots := 0, locals := 21 } E z LyR [.ref (z + 0)] M r M := by sorry
set_option maxRecDepth 100000 in
theorem c_X11_screenIn (l : Launch) (E : jE) (z : Nat) {x1 : Int} {M : Mem} {r : Int} (hx1 : inR x1) (h : f_X11_screenIn x1 M = some r) : CtI l yX11_screenIn cX11_screenIn 3 (some .int) { frames := 1, cells := 0, slots := 0, locals := 22 } E z LyR [.ref (z + 0), .int (jI x1)] M r M := by sorry
set_option maxRecDepth 100000 in
theorem c_X11_w (l : Launch) (E : jE) (z : Nat) {x1 : Int} {x2 : Int} {M : Mem} {r : Int} (hx1 : inR x1) (hx2 : inR x2) (h : f_X11_w x1 x2 M = some r) : CtI l yX11_w cX11_w 3 (some .int) { frames := 0, cells := 0, slots := 0, locals := 0 } E z LyR [.ref (z + 0), .int (jI x1), .int (jI x2)] M r M := by sorry
set_option maxRecDepth 100000 in
theorem c_X11_letter (l : Launch) (E : jE) (z : Nat) {x1 : Int} {x2 : Int} {M : Mem} {r : Int} (hx1 : inR x1) (hx2 : inR x2) (h : f_X11_letter x1 x2 M = some r) : CtI l yX11_letter cX11_letter 3 (some .int) { frames := 1, cells := 0, slots := 0, locals := 22 } E z LyR [.ref (z + 0), .int (jI x1), .int (jI x2)] M r M := by sorry
set_option maxRecDepth 100000 in
theorem c_X11_isVowel (l : Launch) (E : jE) (z : Nat) {x0 : Int} {M : Mem} {r : Int} (hx0 : inR x0) (h : f_X11_isVowel x0 M = some r) : CtI l yX11_isVowel cX11_isVowel 1 (some .boolean) { frames := 0, cells := 0, slots := 0, locals := 0 } E z LyR [.int (jI x0)] M r M := by sorry
set_option maxRecDepth 100000 in
theorem c_X11_syllables (l : Launch) (E : jE) (z : Nat) {x1 : Int} {M : Mem} {r : Int} (hx1 : inR x1) (h : f_X11_syllables x1 M = some r) : CtI l yX11_syllables cX11_syllables 4 (some .int) { frames := 2, cells := 0, slots := 0, locals := 44 } E z LyR [.ref (z + 0), .int (jI x1)] M r M := by sorry
set_option maxRecDepth 100000 in
theorem c_X11_allSyllables (l : Launch) (E : jE) (z : Nat) {M : Mem} {r : Int} (h : f_X11_allSyllables M = some r) : CtI l yX11_allSyllables cX11_allSyllables 3 (some .int) { frames := 3, cells := 0, slots := 0, locals := 67 } E z LyR [.ref (z + 0)] M r M := by sorry
set_option maxRecDepth 100000 in
theorem c_X11_sentencesAhead (l : Launch) (E : jE) (z : Nat) {x1 : Int} {M : Mem} {r : Int} (hx1 : inR x1) (h : f_X11_sentencesAhead x1 M = some r) : CtI l yX11_sentencesAhead cX11_sentencesAhead 4 (some .int) { frames := 1, cells := 0, slots := 0, locals := 22 } E z LyR [.ref (z + 0), .int (jI x1)] M r M := by sorry
set_option maxRecDepth 100000 in
theorem c_X11_laysWords (l : Launch) (E : jE) (z : Nat) {M M' : Mem} {r : Int} (h : f_X11_laysWords M = some (r, M')) : CtI l yX11_laysWords cX11_laysWords 3 (some .int) { frames := 3, cells := 0, slots := 0, locals := 67 } E z LyR [.ref (z + 0)] M r M' := by sorry
set_option maxRecDepth 100000 in
theorem c_X11_isNamed (l : Launch) (E : jE) (z : Nat) {x1 : Int} {x2 : Int} {M : Mem} {r : Int} (hx1 : inR x1) (hx2 : inR x2) (h : f_X11_isNamed x1 x2 M = some r) : CtI l yX11_isNamed cX11_isNamed 6 (some .boolean) { frames := 2, cells := 0, slots := 0, locals := 44 } E z LyR [.ref (z + 0), .int (jI x1), .int (jI x2)] M r M := by sorry
set_option maxRecDepth 100000 in
theorem c_X11_mapOf (l : Launch) (E : jE) (z : Nat) {x1 : Int} {M : Mem} {r : Int} (hx1 : inR x1) (h : f_X11_mapOf x1 M = some r) : CtI l yX11_mapOf cX11_mapOf 3 (some .int) { frames := 3, cells := 0, slots := 0, locals := 69 } E z LyR [.ref (z + 0), .int (jI x1)] M r M := by sorry
set_option maxRecDepth 100000 in
theorem c_X11_isShown (l : Launch) (E : jE) (z : Nat) {x1 : Int} {x2 : Int} {M : Mem} {r : Int} (hx1 : inR x1) (hx2 : inR x2) (h : f_X11_isShown x1 x2 M = some r) : CtI l yX11_isShown cX11_isShown 4 (some .boolean) { frames := 2, cells := 0, slots := 0, locals := 44 } E z LyR [.ref (z + 0), .int (jI x1), .int (jI x2)] M r M := by sorry
set_option maxRecDepth 100000 in
theorem c_X11_candidates (l : Launch) (E : jE) (z : Nat) {x1 : Int} {M : Mem} {r : Int} (hx1 : inR x1) (h : f_X11_candidates x1 M = some r) : CtI l yX11_candidates cX11_candidates 2 (some .int) { frames := 0, cells := 0, slots := 0, locals := 0 } E z LyR [.ref (z + 0), .int (jI x1)] M r M := by sorry
set_option maxRecDepth 100000 in
theorem c_X11_isShot (l : Launch) (E : jE) (z : Nat) {x1 : Int} {M : Mem} {r : Int} (hx1 : inR x1) (h : f_X11_isShot x1 M = some r) : CtI l yX11_isShot cX11_isShot 2 (some .boolean) { frames := 0, cells := 0, slots := 0, locals := 0 } E z LyR [.ref (z + 0), .int (jI x1)] M r M := by sorry
set_option maxRecDepth 100000 in
theorem c_X11_isFault (l : Launch) (E : jE) (z : Nat) {x1 : Int} {x2 : Int} {x3 : Int} {M : Mem} {r : Int} (hx1 : inR x1) (hx2 : inR x2) (hx3 : inR x3) (h : f_X11_isFault x1 x2 x3 M = some r) : CtI l yX11_isFault cX11_isFault 4 (some .boolean) { frames := 4, cells := 0, slots := 0, locals := 91 } E z LyR [.ref (z + 0), .int (jI x1), .int (jI x2), .int (jI x3)] M r M := by sorry
set_option maxRecDepth 100000 in
theorem c_X11_faultsOf (l : Launch) (E : jE) (z : Nat) {x1 : Int} {x2 : Int} {M : Mem} {r : Int} (hx1 : inR x1) (hx2 : inR x2) (h : f_X11_faultsOf x1 x2 M = some r) : CtI l yX11_faultsOf cX11_faultsOf 5 (some .int) { frames := 5, cells := 0, slots := 0, locals := 114 } E z LyR [.ref (z + 0), .int (jI x1), .int (jI x2)] M r M := by sorry
set_option maxRecDepth 100000 in
theorem c_X11_allFaults (l : Launch) (E : jE) (z : Nat) {M M' : Mem} {r : Int} (h : f_X11_allFaults M = some (r, M')) : CtI l yX11_allFaults cX11_allFaults 4 (some .int) { frames := 6, cells := 0, slots := 0, locals := 138 } E z LyR [.ref (z + 0)] M r M' := by sorry
set_option maxRecDepth 100000 in
theorem c_X11_laysSums (l : Launch) (E : jE) (z : Nat) {M M' : Mem} (h : f_X11_laysSums M = some M') : CtV l yX11_laysSums cX11_laysSums 4 none { frames := 1, cells := 0, slots := 0, locals := 21 } E z LyR [.ref (z + 0)] M M' := by sorry
set_option maxRecDepth 100000 in
theorem c_X11_bannedIn (l : Launch) (E : jE) (z : Nat) {x1 : Int} {M : Mem} {r : Int} (hx1 : inR x1) (h : f_X11_bannedIn x1 M = some r) : CtI l yX11_bannedIn cX11_bannedIn 4 (some .int) { frames := 2, cells := 0, slots := 0, locals := 47 } E z LyR [.ref (z + 0), .int (jI x1)] M r M := by sorry
set_option maxRecDepth 100000 in
theorem c_X11_isBetter (l : Launch) (E : jE) (z : Nat) {x1 : Int} {x2 : Int} {M : Mem} {r : Int} (hx1 : inR x1) (hx2 : inR x2) (h : f_X11_isBetter x1 x2 M = some r) : CtI l yX11_isBetter cX11_isBetter 3 (some .boolean) { frames := 1, cells := 0, slots := 0, locals := 22 } E z LyR [.ref (z + 0), .int (jI x1), .int (jI x2)] M r M := by sorry
set_option maxRecDepth 100000 in
theorem c_X11_chooses (l : Launch) (E : jE) (z : Nat) {x1 : Int} {x2 : Int} {M M' : Mem} {r : Int} (hx1 : inR x1) (hx2 : inR x2) (h : f_X11_chooses x1 x2 M = some (r, M')) : CtI l yX11_chooses cX11_chooses 8 (some .boolean) { frames := 3, cells := 0, slots := 0, locals := 70 } E z LyR [.ref (z + 0), .int (jI x1), .int (jI x2)] M r M' := by sorry
set_option maxRecDepth 100000 in
theorem c_X11_byteAt (l : Launch) (E : jE) (z : Nat) {x1 : Int} {M : Mem} {r : Int} (hx1 : inR x1) (h : f_X11_byteAt x1 M = some r) : CtI l yX11_byteAt cX11_byteAt 2 (some .int) { frames := 0, cells := 0, slots := 0, locals := 0 } E z LyR [.ref (z + 0), .int (jI x1)] M r M := by sorry
set_option maxRecDepth 100000 in
theorem c_X11_isLetter (l : Launch) (E : jE) (z : Nat) {x1 : Int} {M : Mem} {r : Int} (hx1 : inR x1) (h : f_X11_isLetter x1 M = some r) : CtI l yX11_isLetter cX11_isLetter 2 (some .boolean) { frames := 1, cells := 0, slots := 0, locals := 22 } E z LyR [.ref (z + 0), .int (jI x1)] M r M := by sorry
set_option maxRecDepth 100000 in
theorem c_X11_isDigit (l : Launch) (E : jE) (z : Nat) {x1 : Int} {M : Mem} {r : Int} (hx1 : inR x1) (h : f_X11_isDigit x1 M = some r) : CtI l yX11_isDigit cX11_isDigit 2 (some .boolean) { frames := 1, cells := 0, slots := 0, locals := 22 } E z LyR [.ref (z + 0), .int (jI x1)] M r M := by sorry
set_option maxRecDepth 100000 in
theorem c_X11_isSymbol (l : Launch) (E : jE) (z : Nat) {x0 : Int} {M : Mem} {r : Int} (hx0 : inR x0) (h : f_X11_isSymbol x0 M = some r) : CtI l yX11_isSymbol cX11_isSymbol 1 (some .boolean) { frames := 0, cells := 0, slots := 0, locals := 0 } E z LyR [.int (jI x0)] M r M := by sorry
set_option maxRecDepth 100000 in
theorem c_X11_scans (l : Launch) (E : jE) (z : Nat) {M M' : Mem} (h : f_X11_scans M = some M') : CtV l yX11_scans cX11_scans 1 none { frames := 2, cells := 0, slots := 0, locals := 43 } E z LyR [.ref (z + 0)] M M' := by sorry
set_option maxRecDepth 100000 in
theorem c_X11_fails (l : Launch) (E : jE) (z : Nat) {x1 : Int} {M M' : Mem} (hx1 : inR x1) (h : f_X11_fails x1 M = some M') : CtV l yX11_fails cX11_fails 2 none { frames := 0, cells := 0, slots := 0, locals := 0 } E z LyR [.ref (z + 0), .int (jI x1)] M M' := by sorry
set_option maxRecDepth 100000 in
theorem c_X11_isGood (l : Launch) (E : jE) (z : Nat) {M : Mem} {r : Int} (h : f_X11_isGood M = some r) : CtI l yX11_isGood cX11_isGood 1 (some .boolean) { frames := 0, cells := 0, slots := 0, locals := 0 } E z LyR [.ref (z + 0)] M r M := by sorry
set_option maxRecDepth 100000 in
theorem c_X11_goesOn (l : Launch) (E : jE) (z : Nat) {M M' : Mem} (h : f_X11_goesOn M = some M') : CtV l yX11_goesOn cX11_goesOn 1 none { frames := 3, cells := 0, slots := 0, locals := 63 } E z LyR [.ref (z + 0)] M M' := by sorry
set_option maxRecDepth 100000 in
theorem c_X11_isWord (l : Launch) (E : jE) (z : Nat) {w1 : Nat} {M : Mem} {r : Int} (hw1 : w1 < nST) (h : f_X11_isWord w1 M = some r) : CtI l yX11_isWord cX11_isWord 4 (some .boolean) { frames := 6, cells := 0, slots := 0, locals := 300 } E z LyR [.ref (z + 0), .ref (eK E w1)] M r M := by sorry
set_option maxRecDepth 100000 in
theorem c_X11_isSign (l : Launch) (E : jE) (z : Nat) {x1 : Int} {M : Mem} {r : Int} (hx1 : inR x1) (h : f_X11_isSign x1 M = some r) : CtI l yX11_isSign cX11_isSign 2 (some .boolean) { frames := 1, cells := 0, slots := 0, locals := 20 } E z LyR [.ref (z + 0), .int (jI x1)] M r M := by sorry
set_option maxRecDepth 100000 in
theorem c_X11_needsSign (l : Launch) (E : jE) (z : Nat) {x1 : Int} {M M' : Mem} (hx1 : inR x1) (h : f_X11_needsSign x1 M = some M') : CtV l yX11_needsSign cX11_needsSign 2 none { frames := 4, cells := 0, slots := 0, locals := 83 } E z LyR [.ref (z + 0), .int (jI x1)] M M' := by sorry
set_option maxRecDepth 100000 in
theorem c_X11_needs (l : Launch) (E : jE) (z : Nat) {w1 : Nat} {M M' : Mem} (hw1 : w1 < nST) (h : f_X11_needs w1 M = some M') : CtV l yX11_needs cX11_needs 2 none { frames := 7, cells := 0, slots := 0, locals := 323 } E z LyR [.ref (z + 0), .ref (eK E w1)] M M' := by sorry
set_option maxRecDepth 100000 in
theorem c_X11_reads (l : Launch) (E : jE) (z : Nat) {x1 : Int} {x2 : Int} {M M' : Mem} {r : Int} (hx1 : inR x1) (hx2 : inR x2) (h : f_X11_reads x1 x2 M = some (r, M')) : CtI l yX11_reads cX11_reads 4 (some .int) { frames := 4, cells := 0, slots := 0, locals := 83 } E z LyR [.ref (z + 0), .int (jI x1), .int (jI x2)] M r M' := by sorry
set_option maxRecDepth 100000 in
theorem c_X11_beginsText (l : Launch) (E : jE) (z : Nat) {M M' : Mem} (h : f_X11_beginsText M = some M') : CtV l yX11_beginsText cX11_beginsText 1 none { frames := 3, cells := 0, slots := 0, locals := 63 } E z LyR [.ref (z + 0)] M M' := by sorry
set_option maxRecDepth 100000 in
theorem c_X11_endsText (l : Launch) (E : jE) (z : Nat) {M M' : Mem} (h : f_X11_endsText M = some M') : CtV l yX11_endsText cX11_endsText 1 none { frames := 0, cells := 0, slots := 0, locals := 0 } E z LyR [.ref (z + 0)] M M' := by sorry
set_option maxRecDepth 100000 in
theorem c_X11_readsValue (l : Launch) (E : jE) (z : Nat) {x1 : Int} {x2 : Int} {x3 : Int} {M M' : Mem} (hx1 : inR x1) (hx2 : inR x2) (hx3 : inR x3) (h : f_X11_readsValue x1 x2 x3 M = some M') : CtV l yX11_readsValue cX11_readsValue 4 none { frames := 5, cells := 0, slots := 0, locals := 106 } E z LyR [.ref (z + 0), .int (jI x1), .int (jI x2), .int (jI x3)] M M' := by sorry
set_option maxRecDepth 100000 in
theorem c_X11_readsShot (l : Launch) (E : jE) (z : Nat) {M M' : Mem} (h : f_X11_readsShot M = some M') : CtV l yX11_readsShot cX11_readsShot 3 none { frames := 5, cells := 0, slots := 0, locals := 106 } E z LyR [.ref (z + 0)] M M' := by sorry
set_option maxRecDepth 100000 in
theorem c_X11_isTold (l : Launch) (E : jE) (z : Nat) {x1 : Int} {M : Mem} {r : Int} (hx1 : inR x1) (h : f_X11_isTold x1 M = some r) : CtI l yX11_isTold cX11_isTold 5 (some .boolean) { frames := 0, cells := 0, slots := 0, locals := 0 } E z LyR [.ref (z + 0), .int (jI x1)] M r M := by sorry
set_option maxRecDepth 100000 in
theorem c_X11_readsMap (l : Launch) (E : jE) (z : Nat) {M M' : Mem} (h : f_X11_readsMap M = some M') : CtV l yX11_readsMap cX11_readsMap 3 none { frames := 4, cells := 0, slots := 0, locals := 83 } E z LyR [.ref (z + 0)] M M' := by sorry
set_option maxRecDepth 100000 in
theorem c_X11_readsBan (l : Launch) (E : jE) (z : Nat) {M M' : Mem} (h : f_X11_readsBan M = some M') : CtV l yX11_readsBan cX11_readsBan 5 none { frames := 5, cells := 0, slots := 0, locals := 106 } E z LyR [.ref (z + 0)] M M' := by sorry
set_option maxRecDepth 100000 in
theorem c_X11_readsStatement (l : Launch) (E : jE) (z : Nat) {M M' : Mem} (h : f_X11_readsStatement M = some M') : CtV l yX11_readsStatement cX11_readsStatement 1 none { frames := 7, cells := 0, slots := 0, locals := 323 } E z LyR [.ref (z + 0)] M M' := by sorry
set_option maxRecDepth 100000 in
theorem c_X11_load (l : Launch) (E : jE) (z : Nat) {M M' : Mem} {r : Int} (h : f_X11_load M = some (r, M')) : CtI l yX11_load cX11_load 1 (some .int) { frames := 8, cells := 0, slots := 0, locals := 343 } E z LyR [.ref (z + 0)] M r M' := by sorry
set_option maxRecDepth 100000 in
theorem c_X11_makes (l : Launch) (E : jE) (z : Nat) {x1 : Int} {x2 : Int} {x3 : Int} {x4 : Int} {M M' : Mem} (hx1 : inR x1) (hx2 : inR x2) (hx3 : inR x3) (hx4 : inR x4) (h : f_X11_makes x1 x2 x3 x4 M = some M') : CtV l yX11_makes cX11_makes 6 none { frames := 1, cells := 0, slots := 0, locals := 20 } E z LyR [.ref (z + 0), .int (jI x1), .int (jI x2), .int (jI x3), .int (jI x4)] M M' := by sorry
set_option maxRecDepth 100000 in
theorem c_X11_readsCut (l : Launch) (E : jE) (z : Nat) {M M' : Mem} (h : f_X11_readsCut M = some M') : CtV l yX11_readsCut cX11_readsCut 4 none { frames := 8, cells := 0, slots := 0, locals := 344 } E z LyR [.ref (z + 0)] M M' := by sorry
set_option maxRecDepth 100000 in
theorem c_X11_readsHeld (l : Launch) (E : jE) (z : Nat) {M M' : Mem} (h : f_X11_readsHeld M = some M') : CtV l yX11_readsHeld cX11_readsHeld 3 none { frames := 5, cells := 0, slots := 0, locals := 106 } E z LyR [.ref (z + 0)] M M' := by sorry
set_option maxRecDepth 100000 in
theorem c_X11_readsBlock (l : Launch) (E : jE) (z : Nat) {x1 : Int} {x2 : Int} {x3 : Int} {M M' : Mem} (hx1 : inR x1) (hx2 : inR x2) (hx3 : inR x3) (h : f_X11_readsBlock x1 x2 x3 M = some M') : CtV l yX11_readsBlock cX11_readsBlock 5 none { frames := 5, cells := 0, slots := 0, locals := 106 } E z LyR [.ref (z + 0), .int (jI x1), .int (jI x2), .int (jI x3)] M M' := by sorry
set_option maxRecDepth 100000 in
theorem c_X11_readsItem (l : Launch) (E : jE) (z : Nat) {M M' : Mem} (h : f_X11_readsItem M = some M') : CtV l yX11_readsItem cX11_readsItem 2 none { frames := 9, cells := 0, slots := 0, locals := 367 } E z LyR [.ref (z + 0)] M M' := by sorry
set_option maxRecDepth 100000 in
theorem c_X11_readsReel (l : Launch) (E : jE) (z : Nat) {M M' : Mem} (h : f_X11_readsReel M = some M') : CtV l yX11_readsReel cX11_readsReel 1 none { frames := 10, cells := 0, slots := 0, locals := 388 } E z LyR [.ref (z + 0)] M M' := by sorry
set_option maxRecDepth 100000 in
theorem c_X11_takesReel (l : Launch) (E : jE) (z : Nat) {M M' : Mem} (h : f_X11_takesReel M = some M') : CtV l yX11_takesReel cX11_takesReel 2 none { frames := 0, cells := 0, slots := 0, locals := 0 } E z LyR [.ref (z + 0)] M M' := by sorry
set_option maxRecDepth 100000 in
theorem c_X11_readsWord (l : Launch) (E : jE) (z : Nat) {M M' : Mem} (h : f_X11_readsWord M = some M') : CtV l yX11_readsWord cX11_readsWord 2 none { frames := 3, cells := 0, slots := 0, locals := 63 } E z LyR [.ref (z + 0)] M M' := by sorry
set_option maxRecDepth 100000 in
theorem c_X11_readsSentence (l : Launch) (E : jE) (z : Nat) {M M' : Mem} (h : f_X11_readsSentence M = some M') : CtV l yX11_readsSentence cX11_readsSentence 1 none { frames := 5, cells := 0, slots := 0, locals := 104 } E z LyR [.ref (z + 0)] M M' := by sorry
set_option maxRecDepth 100000 in
theorem c_X11_readsVoice (l : Launch) (E : jE) (z : Nat) {M M' : Mem} (h : f_X11_readsVoice M = some M') : CtV l yX11_readsVoice cX11_readsVoice 1 none { frames := 6, cells := 0, slots := 0, locals := 124 } E z LyR [.ref (z + 0)] M M' := by sorry
set_option maxRecDepth 100000 in
theorem c_X11_takesVoice (l : Launch) (E : jE) (z : Nat) {M M' : Mem} (h : f_X11_takesVoice M = some M') : CtV l yX11_takesVoice cX11_takesVoice 3 none { frames := 0, cells := 0, slots := 0, locals := 0 } E z LyR [.ref (z + 0)] M M' := by sorry
set_option maxRecDepth 100000 in
theorem c_X11_behind (l : Launch) (E : jE) (z : Nat) {x1 : Int} {M : Mem} {r : Int} (hx1 : inR x1) (h : f_X11_behind x1 M = some r) : CtI l yX11_behind cX11_behind 5 (some .int) { frames := 1, cells := 0, slots := 0, locals := 22 } E z LyR [.ref (z + 0), .int (jI x1)] M r M := by sorry
set_option maxRecDepth 100000 in
theorem c_X11_itemMany (l : Launch) (E : jE) (z : Nat) {M : Mem} {r : Int} (h : f_X11_itemMany M = some r) : CtI l yX11_itemMany cX11_itemMany 3 (some .int) { frames := 2, cells := 0, slots := 0, locals := 46 } E z LyR [.ref (z + 0)] M r M := by sorry
set_option maxRecDepth 100000 in
theorem c_X11_allItems (l : Launch) (E : jE) (z : Nat) {M : Mem} {r : Int} (h : f_X11_allItems M = some r) : CtI l yX11_allItems cX11_allItems 3 (some .int) { frames := 1, cells := 0, slots := 0, locals := 22 } E z LyR [.ref (z + 0)] M r M := by sorry
set_option maxRecDepth 100000 in
theorem c_X11_rowOf (l : Launch) (E : jE) (z : Nat) {x1 : Int} {M : Mem} {r : Int} (hx1 : inR x1) (h : f_X11_rowOf x1 M = some r) : CtI l yX11_rowOf cX11_rowOf 4 (some .int) { frames := 2, cells := 0, slots := 0, locals := 46 } E z LyR [.ref (z + 0), .int (jI x1)] M r M := by sorry
set_option maxRecDepth 100000 in
theorem c_X11_deepest (l : Launch) (E : jE) (z : Nat) {M : Mem} {r : Int} (h : f_X11_deepest M = some r) : CtI l yX11_deepest cX11_deepest 5 (some .int) { frames := 1, cells := 0, slots := 0, locals := 22 } E z LyR [.ref (z + 0)] M r M := by sorry
set_option maxRecDepth 100000 in
theorem c_X11_shiftsBack (l : Launch) (E : jE) (z : Nat) {x1 : Int} {x2 : Int} {M M' : Mem} (hx1 : inR x1) (hx2 : inR x2) (h : f_X11_shiftsBack x1 x2 M = some M') : CtV l yX11_shiftsBack cX11_shiftsBack 4 none { frames := 0, cells := 0, slots := 0, locals := 0 } E z LyR [.ref (z + 0), .int (jI x1), .int (jI x2)] M M' := by sorry
set_option maxRecDepth 100000 in
theorem c_X11_shiftsFront (l : Launch) (E : jE) (z : Nat) {x1 : Int} {x2 : Int} {M M' : Mem} (hx1 : inR x1) (hx2 : inR x2) (h : f_X11_shiftsFront x1 x2 M = some M') : CtV l yX11_shiftsFront cX11_shiftsFront 4 none { frames := 0, cells := 0, slots := 0, locals := 0 } E z LyR [.ref (z + 0), .int (jI x1), .int (jI x2)] M M' := by sorry
set_option maxRecDepth 100000 in
theorem c_X11_appendText (l : Launch) (E : jE) (z : Nat) {x1 : Int} {M M' : Mem} {r : Int} (hx1 : inR x1) (h : f_X11_appendText x1 M = some (r, M')) : CtI l yX11_appendText cX11_appendText 3 (some .int) { frames := 1, cells := 0, slots := 0, locals := 21 } E z LyR [.ref (z + 0), .int (jI x1)] M r M' := by sorry
set_option maxRecDepth 100000 in
theorem c_X11_truncateText (l : Launch) (E : jE) (z : Nat) {x1 : Int} {M M' : Mem} {r : Int} (hx1 : inR x1) (h : f_X11_truncateText x1 M = some (r, M')) : CtI l yX11_truncateText cX11_truncateText 2 (some .int) { frames := 1, cells := 0, slots := 0, locals := 22 } E z LyR [.ref (z + 0), .int (jI x1)] M r M' := by sorry
set_option maxRecDepth 100000 in
theorem c_X11_errorCode (l : Launch) (E : jE) (z : Nat) {M M' : Mem} {r : Int} (h : f_X11_errorCode M = some (r, M')) : CtI l yX11_errorCode cX11_errorCode 1 (some .int) { frames := 0, cells := 0, slots := 0, locals := 0 } E z LyR [.ref (z + 0)] M r M' := by sorry
set_option maxRecDepth 100000 in
theorem c_X11_errorPosition (l : Launch) (E : jE) (z : Nat) {M M' : Mem} {r : Int} (h : f_X11_errorPosition M = some (r, M')) : CtI l yX11_errorPosition cX11_errorPosition 1 (some .int) { frames := 0, cells := 0, slots := 0, locals := 0 } E z LyR [.ref (z + 0)] M r M' := by sorry
set_option maxRecDepth 100000 in
theorem c_X11_count (l : Launch) (E : jE) (z : Nat) {x1 : Int} {M M' : Mem} {r : Int} (hx1 : inR x1) (h : f_X11_count x1 M = some (r, M')) : CtI l yX11_count cX11_count 2 (some .int) { frames := 4, cells := 0, slots := 0, locals := 89 } E z LyR [.ref (z + 0), .int (jI x1)] M r M' := by sorry
set_option maxRecDepth 100000 in
theorem c_X11_isShotThere (l : Launch) (E : jE) (z : Nat) {x1 : Int} {M : Mem} {r : Int} (hx1 : inR x1) (h : f_X11_isShotThere x1 M = some r) : CtI l yX11_isShotThere cX11_isShotThere 2 (some .boolean) { frames := 1, cells := 0, slots := 0, locals := 22 } E z LyR [.ref (z + 0), .int (jI x1)] M r M := by sorry
set_option maxRecDepth 100000 in
theorem c_X11_piecesOf (l : Launch) (E : jE) (z : Nat) {x1 : Int} {x2 : Int} {x3 : Int} {M M' : Mem} {r : Int} (hx1 : inR x1) (hx2 : inR x2) (hx3 : inR x3) (h : f_X11_piecesOf x1 x2 x3 M = some (r, M')) : CtI l yX11_piecesOf cX11_piecesOf 6 (some .int) { frames := 4, cells := 0, slots := 0, locals := 89 } E z LyR [.ref (z + 0), .int (jI x1), .int (jI x2), .int (jI x3)] M r M' := by sorry
set_option maxRecDepth 100000 in
theorem c_X11_shot (l : Launch) (E : jE) (z : Nat) {x1 : Int} {x2 : Int} {M M' : Mem} {r : Int} (hx1 : inR x1) (hx2 : inR x2) (h : f_X11_shot x1 x2 M = some (r, M')) : CtI l yX11_shot cX11_shot 3 (some .int) { frames := 5, cells := 0, slots := 0, locals := 114 } E z LyR [.ref (z + 0), .int (jI x1), .int (jI x2)] M r M' := by sorry
set_option maxRecDepth 100000 in
theorem c_X11_isMap (l : Launch) (E : jE) (z : Nat) {x1 : Int} {M : Mem} {r : Int} (hx1 : inR x1) (h : f_X11_isMap x1 M = some r) : CtI l yX11_isMap cX11_isMap 2 (some .boolean) { frames := 1, cells := 0, slots := 0, locals := 22 } E z LyR [.ref (z + 0), .int (jI x1)] M r M := by sorry
set_option maxRecDepth 100000 in
theorem c_X11_namedBy (l : Launch) (E : jE) (z : Nat) {x1 : Int} {x2 : Int} {M M' : Mem} {r : Int} (hx1 : inR x1) (hx2 : inR x2) (h : f_X11_namedBy x1 x2 M = some (r, M')) : CtI l yX11_namedBy cX11_namedBy 6 (some .int) { frames := 4, cells := 0, slots := 0, locals := 89 } E z LyR [.ref (z + 0), .int (jI x1), .int (jI x2)] M r M' := by sorry
set_option maxRecDepth 100000 in
theorem c_X11_map (l : Launch) (E : jE) (z : Nat) {x1 : Int} {x2 : Int} {M M' : Mem} {r : Int} (hx1 : inR x1) (hx2 : inR x2) (h : f_X11_map x1 x2 M = some (r, M')) : CtI l yX11_map cX11_map 3 (some .int) { frames := 5, cells := 0, slots := 0, locals := 114 } E z LyR [.ref (z + 0), .int (jI x1), .int (jI x2)] M r M' := by sorry
set_option maxRecDepth 100000 in
theorem c_X11_shotsBy (l : Launch) (E : jE) (z : Nat) {x1 : Int} {M : Mem} {r : Int} (hx1 : inR x1) (h : f_X11_shotsBy x1 M = some r) : CtI l yX11_shotsBy cX11_shotsBy 4 (some .int) { frames := 1, cells := 0, slots := 0, locals := 21 } E z LyR [.ref (z + 0), .int (jI x1)] M r M := by sorry
set_option maxRecDepth 100000 in
theorem c_X11_ban (l : Launch) (E : jE) (z : Nat) {x1 : Int} {x2 : Int} {M M' : Mem} {r : Int} (hx1 : inR x1) (hx2 : inR x2) (h : f_X11_ban x1 x2 M = some (r, M')) : CtI l yX11_ban cX11_ban 4 (some .int) { frames := 2, cells := 0, slots := 0, locals := 44 } E z LyR [.ref (z + 0), .int (jI x1), .int (jI x2)] M r M' := by sorry
set_option maxRecDepth 100000 in
theorem c_X11_word (l : Launch) (E : jE) (z : Nat) {x1 : Int} {x2 : Int} {M M' : Mem} {r : Int} (hx1 : inR x1) (hx2 : inR x2) (h : f_X11_word x1 x2 M = some (r, M')) : CtI l yX11_word cX11_word 4 (some .int) { frames := 4, cells := 0, slots := 0, locals := 91 } E z LyR [.ref (z + 0), .int (jI x1), .int (jI x2)] M r M' := by sorry
set_option maxRecDepth 100000 in
theorem c_X11_piece (l : Launch) (E : jE) (z : Nat) {x1 : Int} {x2 : Int} {M M' : Mem} {r : Int} (hx1 : inR x1) (hx2 : inR x2) (h : f_X11_piece x1 x2 M = some (r, M')) : CtI l yX11_piece cX11_piece 3 (some .int) { frames := 4, cells := 0, slots := 0, locals := 89 } E z LyR [.ref (z + 0), .int (jI x1), .int (jI x2)] M r M' := by sorry
set_option maxRecDepth 100000 in
theorem c_X11_longest (l : Launch) (E : jE) (z : Nat) {M : Mem} {r : Int} (h : f_X11_longest M = some r) : CtI l yX11_longest cX11_longest 3 (some .int) { frames := 1, cells := 0, slots := 0, locals := 13 } E z LyR [.ref (z + 0)] M r M := by sorry
set_option maxRecDepth 100000 in
theorem c_X11_overlaps (l : Launch) (E : jE) (z : Nat) {M : Mem} {r : Int} (h : f_X11_overlaps M = some r) : CtI l yX11_overlaps cX11_overlaps 3 (some .int) { frames := 0, cells := 0, slots := 0, locals := 0 } E z LyR [.ref (z + 0)] M r M := by sorry
set_option maxRecDepth 100000 in
theorem c_X11_reel (l : Launch) (E : jE) (z : Nat) {x1 : Int} {M M' : Mem} {r : Int} (hx1 : inR x1) (h : f_X11_reel x1 M = some (r, M')) : CtI l yX11_reel cX11_reel 2 (some .int) { frames := 4, cells := 0, slots := 0, locals := 89 } E z LyR [.ref (z + 0), .int (jI x1)] M r M' := by sorry
set_option maxRecDepth 100000 in
theorem c_X11_screen (l : Launch) (E : jE) (z : Nat) {x1 : Int} {M M' : Mem} {r : Int} (hx1 : inR x1) (h : f_X11_screen x1 M = some (r, M')) : CtI l yX11_screen cX11_screen 2 (some .int) { frames := 4, cells := 0, slots := 0, locals := 89 } E z LyR [.ref (z + 0), .int (jI x1)] M r M' := by sorry
set_option maxRecDepth 100000 in
theorem c_X11_spoken (l : Launch) (E : jE) (z : Nat) {x1 : Int} {M M' : Mem} {r : Int} (hx1 : inR x1) (h : f_X11_spoken x1 M = some (r, M')) : CtI l yX11_spoken cX11_spoken 4 (some .int) { frames := 4, cells := 0, slots := 0, locals := 89 } E z LyR [.ref (z + 0), .int (jI x1)] M r M' := by sorry
set_option maxRecDepth 100000 in
theorem c_X11_account (l : Launch) (E : jE) (z : Nat) {x1 : Int} {M M' : Mem} {r : Int} (hx1 : inR x1) (h : f_X11_account x1 M = some (r, M')) : CtI l yX11_account cX11_account 2 (some .int) { frames := 1, cells := 0, slots := 0, locals := 22 } E z LyR [.ref (z + 0), .int (jI x1)] M r M' := by sorry
set_option maxRecDepth 100000 in
theorem c_X11_faults (l : Launch) (E : jE) (z : Nat) {x1 : Int} {M M' : Mem} {r : Int} (hx1 : inR x1) (h : f_X11_faults x1 M = some (r, M')) : CtI l yX11_faults cX11_faults 3 (some .int) { frames := 7, cells := 0, slots := 0, locals := 161 } E z LyR [.ref (z + 0), .int (jI x1)] M r M' := by sorry
set_option maxRecDepth 100000 in
theorem c_X11_fault (l : Launch) (E : jE) (z : Nat) {x1 : Int} {x2 : Int} {M M' : Mem} {r : Int} (hx1 : inR x1) (hx2 : inR x2) (h : f_X11_fault x1 x2 M = some (r, M')) : CtI l yX11_fault cX11_fault 7 (some .int) { frames := 7, cells := 0, slots := 0, locals := 161 } E z LyR [.ref (z + 0), .int (jI x1), .int (jI x2)] M r M' := by sorry
set_option maxRecDepth 100000 in
theorem c_X11_fits (l : Launch) (E : jE) (z : Nat) {M M' : Mem} {r : Int} (h : f_X11_fits M = some (r, M')) : CtI l yX11_fits cX11_fits 1 (some .boolean) { frames := 7, cells := 0, slots := 0, locals := 161 } E z LyR [.ref (z + 0)] M r M' := by sorry
set_option maxRecDepth 100000 in
theorem c_X11_isBy (l : Launch) (E : jE) (z : Nat) {x1 : Int} {x2 : Int} {M : Mem} {r : Int} (hx1 : inR x1) (hx2 : inR x2) (h : f_X11_isBy x1 x2 M = some r) : CtI l yX11_isBy cX11_isBy 4 (some .boolean) { frames := 2, cells := 0, slots := 0, locals := 44 } E z LyR [.ref (z + 0), .int (jI x1), .int (jI x2)] M r M := by sorry
set_option maxRecDepth 100000 in
theorem c_X11_best (l : Launch) (E : jE) (z : Nat) {x1 : Int} {M M' : Mem} {r : Int} (hx1 : inR x1) (h : f_X11_best x1 M = some (r, M')) : CtI l yX11_best cX11_best 2 (some .int) { frames := 4, cells := 0, slots := 0, locals := 97 } E z LyR [.ref (z + 0), .int (jI x1)] M r M' := by sorry
set_option maxRecDepth 100000 in
theorem c_X11_bestWeek (l : Launch) (E : jE) (z : Nat) {M M' : Mem} {r : Int} (h : f_X11_bestWeek M = some (r, M')) : CtI l yX11_bestWeek cX11_bestWeek 5 (some .int) { frames := 4, cells := 0, slots := 0, locals := 97 } E z LyR [.ref (z + 0)] M r M' := by sorry
set_option maxRecDepth 100000 in
theorem c_X11_bestSpeed (l : Launch) (E : jE) (z : Nat) {M M' : Mem} {r : Int} (h : f_X11_bestSpeed M = some (r, M')) : CtI l yX11_bestSpeed cX11_bestSpeed 7 (some .int) { frames := 4, cells := 0, slots := 0, locals := 89 } E z LyR [.ref (z + 0)] M r M' := by sorry
set_option maxRecDepth 100000 in
theorem c_X11_begins (l : Launch) (E : jE) (z : Nat) {M M' : Mem} (h : f_X11_begins M = some M') : CtV l yX11_begins cX11_begins 2 none { frames := 1, cells := 0, slots := 0, locals := 24 } E z LyR [.ref (z + 0)] M M' := by sorry
set_option maxRecDepth 100000 in
theorem c_X11_refuses (l : Launch) (E : jE) (z : Nat) {x1 : Int} {M M' : Mem} {r : Int} (hx1 : inR x1) (h : f_X11_refuses x1 M = some (r, M')) : CtI l yX11_refuses cX11_refuses 2 (some .int) { frames := 0, cells := 0, slots := 0, locals := 0 } E z LyR [.ref (z + 0), .int (jI x1)] M r M' := by sorry
set_option maxRecDepth 100000 in
theorem c_X11_endNow (l : Launch) (E : jE) (z : Nat) {M M' : Mem} {r : Int} (h : f_X11_endNow M = some (r, M')) : CtI l yX11_endNow cX11_endNow 1 (some .int) { frames := 4, cells := 0, slots := 0, locals := 89 } E z LyR [.ref (z + 0)] M r M' := by sorry
set_option maxRecDepth 100000 in
theorem c_X11_edit (l : Launch) (E : jE) (z : Nat) {M M' : Mem} {r : Int} (h : f_X11_edit M = some (r, M')) : CtI l yX11_edit cX11_edit 1 (some .int) { frames := 11, cells := 0, slots := 0, locals := 408 } E z LyR [.ref (z + 0)] M r M' := by sorry
set_option maxRecDepth 100000 in
theorem c_X11_say (l : Launch) (E : jE) (z : Nat) {M M' : Mem} {r : Int} (h : f_X11_say M = some (r, M')) : CtI l yX11_say cX11_say 1 (some .int) { frames := 7, cells := 0, slots := 0, locals := 144 } E z LyR [.ref (z + 0)] M r M' := by sorry
set_option maxRecDepth 100000 in
theorem c_X11_assemble (l : Launch) (E : jE) (z : Nat) {M M' : Mem} {r : Int} (h : f_X11_assemble M = some (r, M')) : CtI l yX11_assemble cX11_assemble 3 (some .int) { frames := 4, cells := 0, slots := 0, locals := 97 } E z LyR [.ref (z + 0)] M r M' := by sorry
set_option maxRecDepth 100000 in
theorem c_X11_insert (l : Launch) (E : jE) (z : Nat) {x1 : Int} {x2 : Int} {x3 : Int} {M M' : Mem} {r : Int} (hx1 : inR x1) (hx2 : inR x2) (hx3 : inR x3) (h : f_X11_insert x1 x2 x3 M = some (r, M')) : CtI l yX11_insert cX11_insert 5 (some .int) { frames := 5, cells := 0, slots := 0, locals := 109 } E z LyR [.ref (z + 0), .int (jI x1), .int (jI x2), .int (jI x3)] M r M' := by sorry
set_option maxRecDepth 100000 in
theorem c_X11_isItem (l : Launch) (E : jE) (z : Nat) {x1 : Int} {M : Mem} {r : Int} (hx1 : inR x1) (h : f_X11_isItem x1 M = some r) : CtI l yX11_isItem cX11_isItem 2 (some .boolean) { frames := 3, cells := 0, slots := 0, locals := 68 } E z LyR [.ref (z + 0), .int (jI x1)] M r M := by sorry
set_option maxRecDepth 100000 in
theorem c_X11_framesOf (l : Launch) (E : jE) (z : Nat) {x1 : Int} {M : Mem} {r : Int} (hx1 : inR x1) (h : f_X11_framesOf x1 M = some r) : CtI l yX11_framesOf cX11_framesOf 2 (some .int) { frames := 1, cells := 0, slots := 0, locals := 22 } E z LyR [.ref (z + 0), .int (jI x1)] M r M := by sorry
set_option maxRecDepth 100000 in
theorem c_X11_trim (l : Launch) (E : jE) (z : Nat) {x1 : Int} {x2 : Int} {M M' : Mem} {r : Int} (hx1 : inR x1) (hx2 : inR x2) (h : f_X11_trim x1 x2 M = some (r, M')) : CtI l yX11_trim cX11_trim 5 (some .int) { frames := 4, cells := 0, slots := 0, locals := 89 } E z LyR [.ref (z + 0), .int (jI x1), .int (jI x2)] M r M' := by sorry
set_option maxRecDepth 100000 in
theorem c_X11_remove (l : Launch) (E : jE) (z : Nat) {x1 : Int} {M M' : Mem} {r : Int} (hx1 : inR x1) (h : f_X11_remove x1 M = some (r, M')) : CtI l yX11_remove cX11_remove 3 (some .int) { frames := 5, cells := 0, slots := 0, locals := 109 } E z LyR [.ref (z + 0), .int (jI x1)] M r M' := by sorry
set_option maxRecDepth 100000 in
theorem c_X11_move (l : Launch) (E : jE) (z : Nat) {x1 : Int} {x2 : Int} {M M' : Mem} {r : Int} (hx1 : inR x1) (hx2 : inR x2) (h : f_X11_move x1 x2 M = some (r, M')) : CtI l yX11_move cX11_move 7 (some .int) { frames := 5, cells := 0, slots := 0, locals := 109 } E z LyR [.ref (z + 0), .int (jI x1), .int (jI x2)] M r M' := by sorry
set_option maxRecDepth 100000 in
theorem c_X11_setWeek (l : Launch) (E : jE) (z : Nat) {x1 : Int} {M M' : Mem} {r : Int} (hx1 : inR x1) (h : f_X11_setWeek x1 M = some (r, M')) : CtI l yX11_setWeek cX11_setWeek 2 (some .int) { frames := 3, cells := 0, slots := 0, locals := 70 } E z LyR [.ref (z + 0), .int (jI x1)] M r M' := by sorry
set_option maxRecDepth 100000 in
theorem c_X11_setVoice (l : Launch) (E : jE) (z : Nat) {x1 : Int} {x2 : Int} {M M' : Mem} {r : Int} (hx1 : inR x1) (hx2 : inR x2) (h : f_X11_setVoice x1 x2 M = some (r, M')) : CtI l yX11_setVoice cX11_setVoice 3 (some .int) { frames := 4, cells := 0, slots := 0, locals := 89 } E z LyR [.ref (z + 0), .int (jI x1), .int (jI x2)] M r M' := by sorry
set_option maxRecDepth 100000 in
theorem c_X11_setSlack (l : Launch) (E : jE) (z : Nat) {x1 : Int} {M M' : Mem} {r : Int} (hx1 : inR x1) (h : f_X11_setSlack x1 M = some (r, M')) : CtI l yX11_setSlack cX11_setSlack 3 (some .int) { frames := 2, cells := 0, slots := 0, locals := 45 } E z LyR [.ref (z + 0), .int (jI x1)] M r M' := by sorry
set_option maxRecDepth 100000 in
theorem c_X11_writes (l : Launch) (E : jE) (z : Nat) {x1 : Int} {M M' : Mem} (hx1 : inR x1) (h : f_X11_writes x1 M = some M') : CtV l yX11_writes cX11_writes 2 none { frames := 0, cells := 0, slots := 0, locals := 0 } E z LyR [.ref (z + 0), .int (jI x1)] M M' := by sorry
set_option maxRecDepth 100000 in
theorem c_X11_writesWord (l : Launch) (E : jE) (z : Nat) {w1 : Nat} {M M' : Mem} (hw1 : w1 < nST) (h : f_X11_writesWord w1 M = some M') : CtV l yX11_writesWord cX11_writesWord 3 none { frames := 6, cells := 0, slots := 0, locals := 300 } E z LyR [.ref (z + 0), .ref (eK E w1)] M M' := by sorry
set_option maxRecDepth 100000 in
theorem c_X11_writesNumber (l : Launch) (E : jE) (z : Nat) {x1 : Int} {M M' : Mem} (hx1 : inR x1) (h : f_X11_writesNumber x1 M = some M') : CtV l yX11_writesNumber cX11_writesNumber 4 none { frames := 1, cells := 0, slots := 0, locals := 21 } E z LyR [.ref (z + 0), .int (jI x1)] M M' := by sorry
set_option maxRecDepth 100000 in
theorem c_X11_writesCut (l : Launch) (E : jE) (z : Nat) {x1 : Int} {M M' : Mem} (hx1 : inR x1) (h : f_X11_writesCut x1 M = some M') : CtV l yX11_writesCut cX11_writesCut 2 none { frames := 7, cells := 0, slots := 0, locals := 322 } E z LyR [.ref (z + 0), .int (jI x1)] M M' := by sorry
set_option maxRecDepth 100000 in
theorem c_X11_writesRow (l : Launch) (E : jE) (z : Nat) {x1 : Int} {M M' : Mem} (hx1 : inR x1) (h : f_X11_writesRow x1 M = some M') : CtV l yX11_writesRow cX11_writesRow 2 none { frames := 8, cells := 0, slots := 0, locals := 343 } E z LyR [.ref (z + 0), .int (jI x1)] M M' := by sorry
set_option maxRecDepth 100000 in
theorem c_X11_writeReel (l : Launch) (E : jE) (z : Nat) {M M' : Mem} {r : Int} (h : f_X11_writeReel M = some (r, M')) : CtI l yX11_writeReel cX11_writeReel 2 (some .int) { frames := 9, cells := 0, slots := 0, locals := 364 } E z LyR [.ref (z + 0)] M r M' := by sorry
set_option maxRecDepth 100000 in
theorem c_X11_writeVoice (l : Launch) (E : jE) (z : Nat) {M M' : Mem} {r : Int} (h : f_X11_writeVoice M = some (r, M')) : CtI l yX11_writeVoice cX11_writeVoice 3 (some .int) { frames := 2, cells := 0, slots := 0, locals := 44 } E z LyR [.ref (z + 0)] M r M' := by sorry
set_option maxRecDepth 100000 in
theorem c_X11_output (l : Launch) (E : jE) (z : Nat) {x1 : Int} {M M' : Mem} {r : Int} (hx1 : inR x1) (h : f_X11_output x1 M = some (r, M')) : CtI l yX11_output cX11_output 2 (some .int) { frames := 1, cells := 0, slots := 0, locals := 22 } E z LyR [.ref (z + 0), .int (jI x1)] M r M' := by sorry
set_option maxRecDepth 100000 in
theorem c_X11_undo (l : Launch) (E : jE) (z : Nat) {M M' : Mem} {r : Int} (h : f_X11_undo M = some (r, M')) : CtI l yX11_undo cX11_undo 1 (some .int) { frames := 1, cells := 0, slots := 0, locals := 24 } E z LyR [.ref (z + 0)] M r M' := by sorry
set_option maxRecDepth 100000 in
theorem c_X11_isSlot (l : Launch) (E : jE) (z : Nat) {x0 : Int} {M : Mem} {r : Int} (hx0 : inR x0) (h : f_X11_isSlot x0 M = some r) : CtI l yX11_isSlot cX11_isSlot 1 (some .boolean) { frames := 1, cells := 0, slots := 0, locals := 22 } E z LyR [.int (jI x0)] M r M := by sorry
set_option maxRecDepth 100000 in
theorem c_X11_save (l : Launch) (E : jE) (z : Nat) {x1 : Int} {M M' : Mem} (hx1 : inR x1) (h : f_X11_save x1 M = some M') : CtV l yX11_save cX11_save 2 none { frames := 2, cells := 0, slots := 0, locals := 42 } E z LyR [.ref (z + 0), .int (jI x1)] M M' := by sorry
set_option maxRecDepth 100000 in
theorem c_X11_restore (l : Launch) (E : jE) (z : Nat) {x1 : Int} {M M' : Mem} (hx1 : inR x1) (h : f_X11_restore x1 M = some M') : CtV l yX11_restore cX11_restore 2 none { frames := 2, cells := 0, slots := 0, locals := 42 } E z LyR [.ref (z + 0), .int (jI x1)] M M' := by sorry
set_option maxRecDepth 100000 in
theorem c_X2_readBlock (l : Launch) (E : jE) (z : Nat) {fr lo : Nat} {rc : Nat → Nat → Int → Mem → Option (Int × Mem)} (hrc : ∀ {s : Nat} {s2 : Nat} {x3 : Int} {M M' : Mem} {r : Int}, isSt s → isSt s2 → inR x3 → rc s s2 x3 M = some (r, M') → CtI l yX2_readItems cX2_readItems 5 (some .boolean) { frames := fr, cells := 0, slots := 0, locals := lo } E z LyC [.ref (z + (s + 17)), .ref (z + 1), .ref (z + (s2 + 1)), .int (jI x3)] M r M') {s : Nat} {x1 : Int} {s3 : Nat} {x4 : Int} {M M' : Mem} {r : Int} (hs : isSt s) (hx1 : inR x1) (hs3 : isSt s3) (hx4 : inR x4) (h : f_X2_readBlock rc s x1 s3 x4 M = some (r, M')) : CtI l yX2_readBlock cX2_readBlock 5 (some .boolean) { frames := fr + 3, cells := 0, slots := 0, locals := lo + 100 } E z LyC [.ref (z + (s + 17)), .int (jI x1), .ref (z + 1), .ref (z + (s3 + 1)), .int (jI x4)] M r M' := by sorry
set_option maxRecDepth 100000 in
theorem c_X2_readItem (l : Launch) (E : jE) (z : Nat) {fr lo : Nat} {rc : Nat → Nat → Int → Mem → Option (Int × Mem)} (hrc : ∀ {s : Nat} {s2 : Nat} {x3 : Int} {M M' : Mem} {r : Int}, isSt s → isSt s2 → inR x3 → rc s s2 x3 M = some (r, M') → CtI l yX2_readItems cX2_readItems 5 (some .boolean) { frames := fr, cells := 0, slots := 0, locals := lo } E z LyC [.ref (z + (s + 17)), .ref (z + 1), .ref (z + (s2 + 1)), .int (jI x3)] M r M') {s : Nat} {s2 : Nat} {x3 : Int} {M M' : Mem} {r : Int} (hs : isSt s) (hs2 : isSt s2) (hx3 : inR x3) (h : f_X2_readItem rc s s2 x3 M = some (r, M')) : CtI l yX2_readItem cX2_readItem 5 (some .boolean) { frames := fr + 9, cells := 0, slots := 0, locals := lo + 369 } E z LyC [.ref (z + (s + 17)), .ref (z + 1), .ref (z + (s2 + 1)), .int (jI x3)] M r M' := by sorry
set_option maxRecDepth 100000 in
theorem c_X2_readItems (l : Launch) (E : jE) (z : Nat) {fr lo : Nat} {rc : Nat → Nat → Int → Mem → Option (Int × Mem)} (hrc : ∀ {s : Nat} {s2 : Nat} {x3 : Int} {M M' : Mem} {r : Int}, isSt s → isSt s2 → inR x3 → rc s s2 x3 M = some (r, M') → CtI l yX2_readItems cX2_readItems 5 (some .boolean) { frames := fr, cells := 0, slots := 0, locals := lo } E z LyC [.ref (z + (s + 17)), .ref (z + 1), .ref (z + (s2 + 1)), .int (jI x3)] M r M') {s : Nat} {s2 : Nat} {x3 : Int} {M M' : Mem} {r : Int} (hs : isSt s) (hs2 : isSt s2) (hx3 : inR x3) (h : f_X2_readItems rc s s2 x3 M = some (r, M')) : CtI l yX2_readItems cX2_readItems 5 (some .boolean) { frames := fr + 10, cells := 0, slots := 0, locals := lo + 393 } E z LyC [.ref (z + (s + 17)), .ref (z + 1), .ref (z + (s2 + 1)), .int (jI x3)] M r M' := by sorry
set_option maxRecDepth 100000 in
theorem cg0_X2_readItems (l : Launch) (E : jE) (z : Nat) : ∀ n : Nat, ∀ {s : Nat} {s2 : Nat} {x3 : Int} {M M' : Mem} {r : Int}, isSt s → isSt s2 → inR x3 → g_X2_readItems n s s2 x3 M = some (r, M') → CtI l yX2_readItems cX2_readItems 5 (some .boolean) { frames := fr_X2_readItems n, cells := 0, slots := 0, locals := lo_X2_readItems n } E z LyC [.ref (z + (s + 17)), .ref (z + 1), .ref (z + (s2 + 1)), .int (jI x3)] M r M' := by sorry
set_option maxRecDepth 100000 in
theorem cg_X2_readItems (l : Launch) (E : jE) (z : Nat) : ∀ n : Nat, n = 6 → ∀ {s : Nat} {s2 : Nat} {x3 : Int} {M M' : Mem} {r : Int}, isSt s → isSt s2 → inR x3 → g_X2_readItems n s s2 x3 M = some (r, M') → CtI l yX2_readItems cX2_readItems 5 (some .boolean) { frames := 60, cells := 0, slots := 0, locals := 2358 } E z LyC [.ref (z + (s + 17)), .ref (z + 1), .ref (z + (s2 + 1)), .int (jI x3)] M r M' := by sorry
set_option maxRecDepth 100000 in
theorem c_X2_readFrom (l : Launch) (E : jE) (z : Nat) {s : Nat} {s2 : Nat} {M M' : Mem} {r : Int} (hs : isSt s) (hs2 : isSt s2) (h : f_X2_readFrom s s2 M = some (r, M')) : CtI l yX2_readFrom cX2_readFrom 3 (some .boolean) { frames := 61, cells := 0, slots := 0, locals := 2382 } E z LyC [.ref (z + (s + 17)), .ref (z + 1), .ref (z + (s2 + 1))] M r M' := by sorry
set_option maxRecDepth 100000 in
theorem c_X5_addItem (l : Launch) (E : jE) (z : Nat) {fr lo : Nat} {rc : Nat → Int → Int → Int → Int → Mem → Option (Mem)} (hrc : ∀ {s1 : Nat} {x2 : Int} {x3 : Int} {x4 : Int} {x5 : Int} {M M' : Mem} , isSt s1 → inR x2 → inR x3 → inR x4 → inR x5 → rc s1 x2 x3 x4 x5 M = some M' → CtV l yX5_addItems cX5_addItems 7 none { frames := fr, cells := 0, slots := 0, locals := lo } E z LyC [.ref (z + 56), .ref (z + (s1 + 17)), .int (jI x2), .int (jI x3), .int (jI x4), .int (jI x5)] M M') {s1 : Nat} {x2 : Int} {x3 : Int} {x4 : Int} {M M' : Mem} (hs1 : isSt s1) (hx2 : inR x2) (hx3 : inR x3) (hx4 : inR x4) (h : f_X5_addItem rc s1 x2 x3 x4 M = some M') : CtV l yX5_addItem cX5_addItem 7 none { frames := fr + 3, cells := 0, slots := 0, locals := lo + 100 } E z LyC [.ref (z + 56), .ref (z + (s1 + 17)), .int (jI x2), .int (jI x3), .int (jI x4)] M M' := by sorry
set_option maxRecDepth 100000 in
theorem c_X5_addItems (l : Launch) (E : jE) (z : Nat) {fr lo : Nat} {rc : Nat → Int → Int → Int → Int → Mem → Option (Mem)} (hrc : ∀ {s1 : Nat} {x2 : Int} {x3 : Int} {x4 : Int} {x5 : Int} {M M' : Mem} , isSt s1 → inR x2 → inR x3 → inR x4 → inR x5 → rc s1 x2 x3 x4 x5 M = some M' → CtV l yX5_addItems cX5_addItems 7 none { frames := fr, cells := 0, slots := 0, locals := lo } E z LyC [.ref (z + 56), .ref (z + (s1 + 17)), .int (jI x2), .int (jI x3), .int (jI x4), .int (jI x5)] M M') {s1 : Nat} {x2 : Int} {x3 : Int} {x4 : Int} {x5 : Int} {M M' : Mem} (hs1 : isSt s1) (hx2 : inR x2) (hx3 : inR x3) (hx4 : inR x4) (hx5 : inR x5) (h : f_X5_addItems rc s1 x2 x3 x4 x5 M = some M') : CtV l yX5_addItems cX5_addItems 7 none { frames := fr + 4, cells := 0, slots := 0, locals := lo + 126 } E z LyC [.ref (z + 56), .ref (z + (s1 + 17)), .int (jI x2), .int (jI x3), .int (jI x4), .int (jI x5)] M M' := by sorry
set_option maxRecDepth 100000 in
theorem cg0_X5_addItems (l : Launch) (E : jE) (z : Nat) : ∀ n : Nat, ∀ {s1 : Nat} {x2 : Int} {x3 : Int} {x4 : Int} {x5 : Int} {M M' : Mem} , isSt s1 → inR x2 → inR x3 → inR x4 → inR x5 → g_X5_addItems n s1 x2 x3 x4 x5 M = some M' → CtV l yX5_addItems cX5_addItems 7 none { frames := fr_X5_addItems n, cells := 0, slots := 0, locals := lo_X5_addItems n } E z LyC [.ref (z + 56), .ref (z + (s1 + 17)), .int (jI x2), .int (jI x3), .int (jI x4), .int (jI x5)] M M' := by sorry
set_option maxRecDepth 100000 in
theorem cg_X5_addItems (l : Launch) (E : jE) (z : Nat) : ∀ n : Nat, n = 6 → ∀ {s1 : Nat} {x2 : Int} {x3 : Int} {x4 : Int} {x5 : Int} {M M' : Mem} , isSt s1 → inR x2 → inR x3 → inR x4 → inR x5 → g_X5_addItems n s1 x2 x3 x4 x5 M = some M' → CtV l yX5_addItems cX5_addItems 7 none { frames := 24, cells := 0, slots := 0, locals := 756 } E z LyC [.ref (z + 56), .ref (z + (s1 + 17)), .int (jI x2), .int (jI x3), .int (jI x4), .int (jI x5)] M M' := by sorry
set_option maxRecDepth 100000 in
theorem c_X5_cutFrom (l : Launch) (E : jE) (z : Nat) {s1 : Nat} {M M' : Mem} (hs1 : isSt s1) (h : f_X5_cutFrom s1 M = some M') : CtV l yX5_cutFrom cX5_cutFrom 2 none { frames := 25, cells := 0, slots := 0, locals := 782 } E z LyC [.ref (z + 56), .ref (z + (s1 + 17))] M M' := by sorry
set_option maxRecDepth 100000 in
theorem c_X10_appendText (l : Launch) (E : jE) (z : Nat) {x1 : Int} {M M' : Mem} {r : Int} (hx1 : inR x1) (h : f_X10_appendText x1 M = some (r, M')) : CtI l yX10_appendText cX10_appendText 2 (some .int) { frames := 1, cells := 0, slots := 0, locals := 22 } E z LyC [.ref (z + 0), .int (jI x1)] M r M' := by sorry
set_option maxRecDepth 100000 in
theorem c_X10_requireRange (l : Launch) (E : jE) (z : Nat) {x0 : Int} {x1 : Int} {x2 : Int} {M : Mem} (hx0 : inR x0) (hx1 : inR x1) (hx2 : inR x2) (h : f_X10_requireRange x0 x1 x2 M = some ()) : CtV l yX10_requireRange cX10_requireRange 3 none { frames := 0, cells := 0, slots := 0, locals := 0 } E z LyC [.int (jI x0), .int (jI x1), .int (jI x2)] M M := by sorry
set_option maxRecDepth 100000 in
theorem c_X10_truncateText (l : Launch) (E : jE) (z : Nat) {x1 : Int} {M M' : Mem} {r : Int} (hx1 : inR x1) (h : f_X10_truncateText x1 M = some (r, M')) : CtI l yX10_truncateText cX10_truncateText 2 (some .int) { frames := 1, cells := 0, slots := 0, locals := 22 } E z LyC [.ref (z + 0), .int (jI x1)] M r M' := by sorry
set_option maxRecDepth 100000 in
theorem c_X10_forgetActs (l : Launch) (E : jE) (z : Nat) {M M' : Mem} (h : f_X10_forgetActs M = some M') : CtV l yX10_forgetActs cX10_forgetActs 1 none { frames := 0, cells := 0, slots := 0, locals := 0 } E z LyC [.ref (z + 0)] M M' := by sorry
set_option maxRecDepth 100000 in
theorem c_X10_settle (l : Launch) (E : jE) (z : Nat) {M M' : Mem} (h : f_X10_settle M = some M') : CtV l yX10_settle cX10_settle 1 none { frames := 26, cells := 0, slots := 0, locals := 803 } E z LyC [.ref (z + 0)] M M' := by sorry
set_option maxRecDepth 100000 in
theorem c_X10_load (l : Launch) (E : jE) (z : Nat) {M M' : Mem} {r : Int} (h : f_X10_load M = some (r, M')) : CtI l yX10_load cX10_load 2 (some .int) { frames := 27, cells := 0, slots := 0, locals := 823 } E z LyC [.ref (z + 0)] M r M' := by sorry
set_option maxRecDepth 100000 in
theorem c_X10_errorCode (l : Launch) (E : jE) (z : Nat) {M : Mem} {r : Int} (h : f_X10_errorCode M = some r) : CtI l yX10_errorCode cX10_errorCode 1 (some .int) { frames := 0, cells := 0, slots := 0, locals := 0 } E z LyC [.ref (z + 0)] M r M := by sorry
set_option maxRecDepth 100000 in
theorem c_X10_errorPosition (l : Launch) (E : jE) (z : Nat) {M : Mem} {r : Int} (h : f_X10_errorPosition M = some r) : CtI l yX10_errorPosition cX10_errorPosition 1 (some .int) { frames := 0, cells := 0, slots := 0, locals := 0 } E z LyC [.ref (z + 0)] M r M := by sorry
set_option maxRecDepth 100000 in
theorem c_X10_count (l : Launch) (E : jE) (z : Nat) {x1 : Int} {M : Mem} {r : Int} (hx1 : inR x1) (h : f_X10_count x1 M = some r) : CtI l yX10_count cX10_count 2 (some .int) { frames := 2, cells := 0, slots := 0, locals := 43 } E z LyC [.ref (z + 0), .int (jI x1)] M r M := by sorry
set_option maxRecDepth 100000 in
theorem c_X10_isBanned (l : Launch) (E : jE) (z : Nat) {x1 : Int} {M : Mem} {r : Int} (hx1 : inR x1) (h : f_X10_isBanned x1 M = some r) : CtI l yX10_isBanned cX10_isBanned 3 (some .boolean) { frames := 2, cells := 0, slots := 0, locals := 46 } E z LyC [.ref (z + 0), .int (jI x1)] M r M := by sorry
set_option maxRecDepth 100000 in
theorem c_X10_requireIndex (l : Launch) (E : jE) (z : Nat) {x0 : Int} {x1 : Int} {M : Mem} (hx0 : inR x0) (hx1 : inR x1) (h : f_X10_requireIndex x0 x1 M = some ()) : CtV l yX10_requireIndex cX10_requireIndex 2 none { frames := 0, cells := 0, slots := 0, locals := 0 } E z LyC [.int (jI x0), .int (jI x1)] M M := by sorry
set_option maxRecDepth 100000 in
theorem c_X10_shot (l : Launch) (E : jE) (z : Nat) {x1 : Int} {x2 : Int} {M : Mem} {r : Int} (hx1 : inR x1) (hx2 : inR x2) (h : f_X10_shot x1 x2 M = some r) : CtI l yX10_shot cX10_shot 3 (some .int) { frames := 3, cells := 0, slots := 0, locals := 68 } E z LyC [.ref (z + 0), .int (jI x1), .int (jI x2)] M r M := by sorry
set_option maxRecDepth 100000 in
theorem c_X10_shownWords (l : Launch) (E : jE) (z : Nat) {x1 : Int} {M : Mem} {r : Int} (hx1 : inR x1) (h : f_X10_shownWords x1 M = some r) : CtI l yX10_shownWords cX10_shownWords 4 (some .int) { frames := 3, cells := 0, slots := 0, locals := 66 } E z LyC [.ref (z + 0), .int (jI x1)] M r M := by sorry
set_option maxRecDepth 100000 in
theorem c_X10_map (l : Launch) (E : jE) (z : Nat) {x1 : Int} {x2 : Int} {M : Mem} {r : Int} (hx1 : inR x1) (hx2 : inR x2) (h : f_X10_map x1 x2 M = some r) : CtI l yX10_map cX10_map 3 (some .int) { frames := 4, cells := 0, slots := 0, locals := 89 } E z LyC [.ref (z + 0), .int (jI x1), .int (jI x2)] M r M := by sorry
set_option maxRecDepth 100000 in
theorem c_X10_ban (l : Launch) (E : jE) (z : Nat) {x1 : Int} {x2 : Int} {M : Mem} {r : Int} (hx1 : inR x1) (hx2 : inR x2) (h : f_X10_ban x1 x2 M = some r) : CtI l yX10_ban cX10_ban 3 (some .int) { frames := 1, cells := 0, slots := 0, locals := 23 } E z LyC [.ref (z + 0), .int (jI x1), .int (jI x2)] M r M := by sorry
set_option maxRecDepth 100000 in
theorem c_X10_word (l : Launch) (E : jE) (z : Nat) {x1 : Int} {x2 : Int} {M : Mem} {r : Int} (hx1 : inR x1) (hx2 : inR x2) (h : f_X10_word x1 x2 M = some r) : CtI l yX10_word cX10_word 3 (some .int) { frames := 1, cells := 0, slots := 0, locals := 23 } E z LyC [.ref (z + 0), .int (jI x1), .int (jI x2)] M r M := by sorry
set_option maxRecDepth 100000 in
theorem c_X10_piece (l : Launch) (E : jE) (z : Nat) {x1 : Int} {x2 : Int} {M : Mem} {r : Int} (hx1 : inR x1) (hx2 : inR x2) (h : f_X10_piece x1 x2 M = some r) : CtI l yX10_piece cX10_piece 3 (some .int) { frames := 1, cells := 0, slots := 0, locals := 22 } E z LyC [.ref (z + 0), .int (jI x1), .int (jI x2)] M r M := by sorry
set_option maxRecDepth 100000 in
theorem c_X10_reel (l : Launch) (E : jE) (z : Nat) {x1 : Int} {M : Mem} {r : Int} (hx1 : inR x1) (h : f_X10_reel x1 M = some r) : CtI l yX10_reel cX10_reel 2 (some .int) { frames := 2, cells := 0, slots := 0, locals := 43 } E z LyC [.ref (z + 0), .int (jI x1)] M r M := by sorry
set_option maxRecDepth 100000 in
theorem c_X10_screen (l : Launch) (E : jE) (z : Nat) {x1 : Int} {M : Mem} {r : Int} (hx1 : inR x1) (h : f_X10_screen x1 M = some r) : CtI l yX10_screen cX10_screen 2 (some .int) { frames := 2, cells := 0, slots := 0, locals := 43 } E z LyC [.ref (z + 0), .int (jI x1)] M r M := by sorry
set_option maxRecDepth 100000 in
theorem c_X10_spoken (l : Launch) (E : jE) (z : Nat) {x1 : Int} {M : Mem} {r : Int} (hx1 : inR x1) (h : f_X10_spoken x1 M = some r) : CtI l yX10_spoken cX10_spoken 2 (some .int) { frames := 1, cells := 0, slots := 0, locals := 22 } E z LyC [.ref (z + 0), .int (jI x1)] M r M := by sorry
set_option maxRecDepth 100000 in
theorem c_X10_account (l : Launch) (E : jE) (z : Nat) {x1 : Int} {M : Mem} {r : Int} (hx1 : inR x1) (h : f_X10_account x1 M = some r) : CtI l yX10_account cX10_account 2 (some .int) { frames := 1, cells := 0, slots := 0, locals := 22 } E z LyC [.ref (z + 0), .int (jI x1)] M r M := by sorry
set_option maxRecDepth 100000 in
theorem c_X10_faults (l : Launch) (E : jE) (z : Nat) {x1 : Int} {M M' : Mem} {r : Int} (hx1 : inR x1) (h : f_X10_faults x1 M = some (r, M')) : CtI l yX10_faults cX10_faults 2 (some .int) { frames := 5, cells := 0, slots := 0, locals := 113 } E z LyC [.ref (z + 0), .int (jI x1)] M r M' := by sorry
set_option maxRecDepth 100000 in
theorem c_X10_fault (l : Launch) (E : jE) (z : Nat) {x1 : Int} {x2 : Int} {M M' : Mem} {r : Int} (hx1 : inR x1) (hx2 : inR x2) (h : f_X10_fault x1 x2 M = some (r, M')) : CtI l yX10_fault cX10_fault 3 (some .int) { frames := 5, cells := 0, slots := 0, locals := 113 } E z LyC [.ref (z + 0), .int (jI x1), .int (jI x2)] M r M' := by sorry
set_option maxRecDepth 100000 in
theorem c_X10_fits (l : Launch) (E : jE) (z : Nat) {M M' : Mem} {r : Int} (h : f_X10_fits M = some (r, M')) : CtI l yX10_fits cX10_fits 1 (some .boolean) { frames := 5, cells := 0, slots := 0, locals := 113 } E z LyC [.ref (z + 0)] M r M' := by sorry
set_option maxRecDepth 100000 in
theorem c_X10_findChoice (l : Launch) (E : jE) (z : Nat) {x1 : Int} {M M' : Mem} (hx1 : inR x1) (h : f_X10_findChoice x1 M = some M') : CtV l yX10_findChoice cX10_findChoice 2 none { frames := 3, cells := 0, slots := 0, locals := 72 } E z LyC [.ref (z + 0), .int (jI x1)] M M' := by sorry
set_option maxRecDepth 100000 in
theorem c_X10_best (l : Launch) (E : jE) (z : Nat) {x1 : Int} {M M' : Mem} {r : Int} (hx1 : inR x1) (h : f_X10_best x1 M = some (r, M')) : CtI l yX10_best cX10_best 2 (some .int) { frames := 4, cells := 0, slots := 0, locals := 93 } E z LyC [.ref (z + 0), .int (jI x1)] M r M' := by sorry
set_option maxRecDepth 100000 in
theorem c_X10_bestWeek (l : Launch) (E : jE) (z : Nat) {M M' : Mem} {r : Int} (h : f_X10_bestWeek M = some (r, M')) : CtI l yX10_bestWeek cX10_bestWeek 6 (some .int) { frames := 4, cells := 0, slots := 0, locals := 93 } E z LyC [.ref (z + 0)] M r M' := by sorry
set_option maxRecDepth 100000 in
theorem c_X10_gapAtSpeed (l : Launch) (E : jE) (z : Nat) {x1 : Int} {M : Mem} {r : Int} (hx1 : inR x1) (h : f_X10_gapAtSpeed x1 M = some r) : CtI l yX10_gapAtSpeed cX10_gapAtSpeed 3 (some .int) { frames := 3, cells := 0, slots := 0, locals := 65 } E z LyC [.ref (z + 0), .int (jI x1)] M r M := by sorry
set_option maxRecDepth 100000 in
theorem c_X10_bestSpeed (l : Launch) (E : jE) (z : Nat) {M : Mem} {r : Int} (h : f_X10_bestSpeed M = some r) : CtI l yX10_bestSpeed cX10_bestSpeed 5 (some .int) { frames := 4, cells := 0, slots := 0, locals := 87 } E z LyC [.ref (z + 0)] M r M := by sorry
set_option maxRecDepth 100000 in
theorem c_X10_refuse (l : Launch) (E : jE) (z : Nat) {x1 : Int} {M M' : Mem} {r : Int} (hx1 : inR x1) (h : f_X10_refuse x1 M = some (r, M')) : CtI l yX10_refuse cX10_refuse 2 (some .int) { frames := 0, cells := 0, slots := 0, locals := 0 } E z LyC [.ref (z + 0), .int (jI x1)] M r M' := by sorry
set_option maxRecDepth 100000 in
theorem c_X10_remember (l : Launch) (E : jE) (z : Nat) {M M' : Mem} (h : f_X10_remember M = some M') : CtV l yX10_remember cX10_remember 1 none { frames := 3, cells := 0, slots := 0, locals := 60 } E z LyC [.ref (z + 0)] M M' := by sorry
set_option maxRecDepth 100000 in
theorem c_X10_edit (l : Launch) (E : jE) (z : Nat) {M M' : Mem} {r : Int} (h : f_X10_edit M = some (r, M')) : CtI l yX10_edit cX10_edit 2 (some .int) { frames := 62, cells := 0, slots := 0, locals := 2404 } E z LyC [.ref (z + 0)] M r M' := by sorry
set_option maxRecDepth 100000 in
theorem c_X10_say (l : Launch) (E : jE) (z : Nat) {M M' : Mem} {r : Int} (h : f_X10_say M = some (r, M')) : CtI l yX10_say cX10_say 2 (some .int) { frames := 27, cells := 0, slots := 0, locals := 823 } E z LyC [.ref (z + 0)] M r M' := by sorry
set_option maxRecDepth 100000 in
theorem c_X10_assemble (l : Launch) (E : jE) (z : Nat) {M M' : Mem} {r : Int} (h : f_X10_assemble M = some (r, M')) : CtI l yX10_assemble cX10_assemble 2 (some .int) { frames := 27, cells := 0, slots := 0, locals := 823 } E z LyC [.ref (z + 0)] M r M' := by sorry
set_option maxRecDepth 100000 in
theorem c_X10_takeDraftItems (l : Launch) (E : jE) (z : Nat) {M M' : Mem} {r : Int} (h : f_X10_takeDraftItems M = some (r, M')) : CtI l yX10_takeDraftItems cX10_takeDraftItems 1 (some .int) { frames := 26, cells := 0, slots := 0, locals := 803 } E z LyC [.ref (z + 0)] M r M' := by sorry
set_option maxRecDepth 100000 in
theorem c_X10_insert (l : Launch) (E : jE) (z : Nat) {x1 : Int} {x2 : Int} {x3 : Int} {M M' : Mem} {r : Int} (hx1 : inR x1) (hx2 : inR x2) (hx3 : inR x3) (h : f_X10_insert x1 x2 x3 M = some (r, M')) : CtI l yX10_insert cX10_insert 6 (some .int) { frames := 27, cells := 0, slots := 0, locals := 823 } E z LyC [.ref (z + 0), .int (jI x1), .int (jI x2), .int (jI x3)] M r M' := by sorry
set_option maxRecDepth 100000 in
theorem c_X10_trim (l : Launch) (E : jE) (z : Nat) {x1 : Int} {x2 : Int} {M M' : Mem} {r : Int} (hx1 : inR x1) (hx2 : inR x2) (h : f_X10_trim x1 x2 M = some (r, M')) : CtI l yX10_trim cX10_trim 4 (some .int) { frames := 27, cells := 0, slots := 0, locals := 823 } E z LyC [.ref (z + 0), .int (jI x1), .int (jI x2)] M r M' := by sorry
set_option maxRecDepth 100000 in
theorem c_X10_remove (l : Launch) (E : jE) (z : Nat) {x1 : Int} {M M' : Mem} {r : Int} (hx1 : inR x1) (h : f_X10_remove x1 M = some (r, M')) : CtI l yX10_remove cX10_remove 4 (some .int) { frames := 27, cells := 0, slots := 0, locals := 823 } E z LyC [.ref (z + 0), .int (jI x1)] M r M' := by sorry
set_option maxRecDepth 100000 in
theorem c_X10_topMovedTo (l : Launch) (E : jE) (z : Nat) {x0 : Int} {x1 : Int} {x2 : Int} {M : Mem} {r : Int} (hx0 : inR x0) (hx1 : inR x1) (hx2 : inR x2) (h : f_X10_topMovedTo x0 x1 x2 M = some r) : CtI l yX10_topMovedTo cX10_topMovedTo 4 (some .int) { frames := 0, cells := 0, slots := 0, locals := 0 } E z LyC [.int (jI x0), .int (jI x1), .int (jI x2)] M r M := by sorry
set_option maxRecDepth 100000 in
theorem c_X10_move (l : Launch) (E : jE) (z : Nat) {x1 : Int} {x2 : Int} {M M' : Mem} {r : Int} (hx1 : inR x1) (hx2 : inR x2) (h : f_X10_move x1 x2 M = some (r, M')) : CtI l yX10_move cX10_move 5 (some .int) { frames := 27, cells := 0, slots := 0, locals := 823 } E z LyC [.ref (z + 0), .int (jI x1), .int (jI x2)] M r M' := by sorry
set_option maxRecDepth 100000 in
theorem c_X10_requireSetting (l : Launch) (E : jE) (z : Nat) {x0 : Int} {x1 : Int} {M : Mem} (hx0 : inR x0) (hx1 : inR x1) (h : f_X10_requireSetting x0 x1 M = some ()) : CtV l yX10_requireSetting cX10_requireSetting 2 none { frames := 1, cells := 0, slots := 0, locals := 22 } E z LyC [.int (jI x0), .int (jI x1)] M M := by sorry
set_option maxRecDepth 100000 in
theorem c_X10_setWeek (l : Launch) (E : jE) (z : Nat) {x1 : Int} {M M' : Mem} {r : Int} (hx1 : inR x1) (h : f_X10_setWeek x1 M = some (r, M')) : CtI l yX10_setWeek cX10_setWeek 2 (some .int) { frames := 27, cells := 0, slots := 0, locals := 823 } E z LyC [.ref (z + 0), .int (jI x1)] M r M' := by sorry
set_option maxRecDepth 100000 in
theorem c_X10_setVoice (l : Launch) (E : jE) (z : Nat) {x1 : Int} {x2 : Int} {M M' : Mem} {r : Int} (hx1 : inR x1) (hx2 : inR x2) (h : f_X10_setVoice x1 x2 M = some (r, M')) : CtI l yX10_setVoice cX10_setVoice 3 (some .int) { frames := 27, cells := 0, slots := 0, locals := 823 } E z LyC [.ref (z + 0), .int (jI x1), .int (jI x2)] M r M' := by sorry
set_option maxRecDepth 100000 in
theorem c_X10_setSlack (l : Launch) (E : jE) (z : Nat) {x1 : Int} {M M' : Mem} {r : Int} (hx1 : inR x1) (h : f_X10_setSlack x1 M = some (r, M')) : CtI l yX10_setSlack cX10_setSlack 3 (some .int) { frames := 27, cells := 0, slots := 0, locals := 823 } E z LyC [.ref (z + 0), .int (jI x1)] M r M' := by sorry
set_option maxRecDepth 100000 in
theorem c_X10_writeReel (l : Launch) (E : jE) (z : Nat) {M M' : Mem} {r : Int} (h : f_X10_writeReel M = some (r, M')) : CtI l yX10_writeReel cX10_writeReel 1 (some .int) { frames := 9, cells := 0, slots := 0, locals := 369 } E z LyC [.ref (z + 0)] M r M' := by sorry
set_option maxRecDepth 100000 in
theorem c_X10_writeVoice (l : Launch) (E : jE) (z : Nat) {M M' : Mem} {r : Int} (h : f_X10_writeVoice M = some (r, M')) : CtI l yX10_writeVoice cX10_writeVoice 1 (some .int) { frames := 2, cells := 0, slots := 0, locals := 45 } E z LyC [.ref (z + 0)] M r M' := by sorry
set_option maxRecDepth 100000 in
theorem c_X10_output (l : Launch) (E : jE) (z : Nat) {x1 : Int} {M : Mem} {r : Int} (hx1 : inR x1) (h : f_X10_output x1 M = some r) : CtI l yX10_output cX10_output 2 (some .int) { frames := 1, cells := 0, slots := 0, locals := 21 } E z LyC [.ref (z + 0), .int (jI x1)] M r M := by sorry
set_option maxRecDepth 100000 in
theorem c_X10_undo (l : Launch) (E : jE) (z : Nat) {M M' : Mem} {r : Int} (h : f_X10_undo M = some (r, M')) : CtI l yX10_undo cX10_undo 1 (some .int) { frames := 27, cells := 0, slots := 0, locals := 823 } E z LyC [.ref (z + 0)] M r M' := by sorry
set_option maxRecDepth 100000 in
theorem c_X10_save (l : Launch) (E : jE) (z : Nat) {x1 : Int} {M M' : Mem} (hx1 : inR x1) (h : f_X10_save x1 M = some M') : CtV l yX10_save cX10_save 2 none { frames := 3, cells := 0, slots := 0, locals := 60 } E z LyC [.ref (z + 0), .int (jI x1)] M M' := by sorry
set_option maxRecDepth 100000 in
theorem c_X10_restore (l : Launch) (E : jE) (z : Nat) {x1 : Int} {M M' : Mem} (hx1 : inR x1) (h : f_X10_restore x1 M = some M') : CtV l yX10_restore cX10_restore 2 none { frames := 27, cells := 0, slots := 0, locals := 823 } E z LyC [.ref (z + 0), .int (jI x1)] M M' := by sorry
