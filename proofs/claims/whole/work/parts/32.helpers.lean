theorem wl_1 : Cond.classLink RL 27 (exN 1) ∈ lwG := gmem 1208 (by decide +kernel) (by decide +kernel)
theorem wl_2 : Cond.classLink RL 18 (exN 2) ∈ lwG := gmem 1169 (by decide +kernel) (by decide +kernel)
theorem wl_3 : Cond.classLink RL 13 (exN 3) ∈ lwG := gmem 1090 (by decide +kernel) (by decide +kernel)
set_option maxRecDepth 100000 in
set_option maxHeartbeats 4000000 in
theorem w_appendText (l : Launch) (E : jE) (z zo : Nat) (f : Nat → Int64) {p0 : Int} {r : Int} {M M' : Mem} (hp0 : inR p0) (h : f_X10_appendText p0 M = some (r, M')) : CtW l yL_appendText cL_appendText 4 [(0, 9, 12, 13)] { frames := 2, cells := 0, slots := 0, locals := 43 } E z zo (outL E f) [.ref (z + 0), .int (jI p0), .ref zo] M 0 (outL E (vp_updL f 0 (jI r).toInt64)) M' := by
  refine jmW (by decide +kernel) (Nat.le_of_ble_eq_true rfl) ?_
  intro p e sM m below meth c C hL hX hr hlk hml hex ls hl
  replace hl : lv_has ls 4 [(0, .ref (z + 0)), (1, .int (jI p0)), (2, .ref zo)] := hl
  refine r_aload_n C dL_appendText_0 rfl hl 2 rfl ?_
  refine r_iconst C dL_appendText_1 ?_
  refine r_aload_n C dL_appendText_2 rfl hl 0 rfl ?_
  refine r_iload_n C dL_appendText_3 rfl hl 1 rfl ?_
  refine r_wI (As := [.int (jI p0)]) (rest := [.int (jI 0), .ref zo]) C hL (fun E' => c_X10_appendText l E' z hp0 h) jy_X10_appendText rfl lk_L_7 dL_appendText_4 rfl rfl hl.1 (Nat.le_of_ble_eq_true rfl) ⟨Nat.le_of_ble_eq_true rfl, Nat.le_of_ble_eq_true rfl⟩ ⟨rfl, rfl⟩ (fun H locs hrr hL => ?_)
  refine lv_i2l C.1.1 C.1.2.1 dL_appendText_7 rfl ?_
  refine r_last C hL dL_appendText_8 (fun H locs hL => ?_)
  refine r_goto C 15 dL_appendText_9 (by decide) ?_
  refine r_iconst C dL_appendText_15 ?_
  exact r_wret C hL hr hlk ⟨by decide, by decide⟩ dL_appendText_16 (Nat.le_of_ble_eq_true rfl) (Nat.le_of_ble_eq_true rfl)
set_option maxRecDepth 100000 in
set_option maxHeartbeats 4000000 in
theorem w1_appendText (l : Launch) (hst : l.stackTraces = false) (E : jE) (z zo : Nat) (f : Nat → Int64) {p0 : Int} {M M' : Mem} (hp0 : inR p0) (h : x_X10_appendText p0 M = some (3, M')) : CtW l yL_appendText cL_appendText 4 [(0, 9, 12, 13)] { frames := 7, cells := 1, slots := 6, locals := 121 } E z zo (outL E f) [.ref (z + 0), .int (jI p0), .ref zo] M 1 (outL E f) M' := by
  refine jmW (by decide +kernel) (Nat.le_of_ble_eq_true rfl) ?_
  intro p e sM m below meth c C hL hX hr hlk hml hex ls hl
  replace hl : lv_has ls 4 [(0, .ref (z + 0)), (1, .int (jI p0)), (2, .ref zo)] := hl
  refine r_aload_n C dL_appendText_0 rfl hl 2 rfl ?_
  refine r_iconst C dL_appendText_1 ?_
  refine r_aload_n C dL_appendText_2 rfl hl 0 rfl ?_
  refine r_iload_n C dL_appendText_3 rfl hl 1 rfl ?_
  refine r_wXI (As := [.int (jI p0)]) (rest := [.int (jI 0), .ref zo]) C hL hX (fun E' => cx_X10_appendText l hst E' z hp0 h) jy_X10_appendText rfl lk_L_7 dL_appendText_4 rfl rfl hl.1 (Nat.le_of_ble_eq_true rfl) ⟨Nat.le_of_ble_eq_true rfl, Nat.le_of_ble_eq_true rfl⟩ ⟨Nat.le_of_ble_eq_true rfl, Nat.le_of_ble_eq_true rfl⟩ (fun ce q9 H locs hL g1 g2 g3 => ?_)
  refine r_catch1 C hX hex (by decide) (by decide) (by decide) wl_3 g1 g2 g3 ?_
  refine lv_astore_n C.1.1 C.1.2.1 dL_appendText_12 rfl hl (by decide) (lv' := [(3, .ref q9), (0, .ref (z + 0)), (1, .int (jI p0)), (2, .ref zo)]) rfl (fun ls hl => ?_)
  refine r_iconst C dL_appendText_13 ?_
  exact r_wret C hL hr hlk ⟨by decide, by decide⟩ dL_appendText_14 (Nat.le_of_ble_eq_true rfl) (Nat.le_of_ble_eq_true rfl)
set_option maxRecDepth 100000 in
set_option maxHeartbeats 4000000 in
theorem w_truncateText (l : Launch) (E : jE) (z zo : Nat) (f : Nat → Int64) {p0 : Int} {r : Int} {M M' : Mem} (hp0 : inR p0) (h : f_X10_truncateText p0 M = some (r, M')) : CtW l yL_truncateText cL_truncateText 4 [(0, 9, 12, 18)] { frames := 2, cells := 0, slots := 0, locals := 43 } E z zo (outL E f) [.ref (z + 0), .int (jI p0), .ref zo] M 0 (outL E (vp_updL f 0 (jI r).toInt64)) M' := by
  refine jmW (by decide +kernel) (Nat.le_of_ble_eq_true rfl) ?_
  intro p e sM m below meth c C hL hX hr hlk hml hex ls hl
  replace hl : lv_has ls 4 [(0, .ref (z + 0)), (1, .int (jI p0)), (2, .ref zo)] := hl
  refine r_aload_n C dL_truncateText_0 rfl hl 2 rfl ?_
  refine r_iconst C dL_truncateText_1 ?_
  refine r_aload_n C dL_truncateText_2 rfl hl 0 rfl ?_
  refine r_iload_n C dL_truncateText_3 rfl hl 1 rfl ?_
  refine r_wI (As := [.int (jI p0)]) (rest := [.int (jI 0), .ref zo]) C hL (fun E' => c_X10_truncateText l E' z hp0 h) jy_X10_truncateText rfl lk_L_15 dL_truncateText_4 rfl rfl hl.1 (Nat.le_of_ble_eq_true rfl) ⟨Nat.le_of_ble_eq_true rfl, Nat.le_of_ble_eq_true rfl⟩ ⟨rfl, rfl⟩ (fun H locs hrr hL => ?_)
  refine lv_i2l C.1.1 C.1.2.1 dL_truncateText_7 rfl ?_
  refine r_last C hL dL_truncateText_8 (fun H locs hL => ?_)
  refine r_goto C 15 dL_truncateText_9 (by decide) ?_
  refine r_iconst C dL_truncateText_15 ?_
  exact r_wret C hL hr hlk ⟨by decide, by decide⟩ dL_truncateText_16 (Nat.le_of_ble_eq_true rfl) (Nat.le_of_ble_eq_true rfl)
set_option maxRecDepth 100000 in
set_option maxHeartbeats 4000000 in
theorem w1_truncateText (l : Launch) (hst : l.stackTraces = false) (E : jE) (z zo : Nat) (f : Nat → Int64) {p0 : Int} {M M' : Mem} (hp0 : inR p0) (h : x_X10_truncateText p0 M = some (2, M')) : CtW l yL_truncateText cL_truncateText 4 [(0, 9, 12, 18)] { frames := 8, cells := 1, slots := 6, locals := 143 } E z zo (outL E f) [.ref (z + 0), .int (jI p0), .ref zo] M 1 (outL E f) M' := by
  refine jmW (by decide +kernel) (Nat.le_of_ble_eq_true rfl) ?_
  intro p e sM m below meth c C hL hX hr hlk hml hex ls hl
  replace hl : lv_has ls 4 [(0, .ref (z + 0)), (1, .int (jI p0)), (2, .ref zo)] := hl
  refine r_aload_n C dL_truncateText_0 rfl hl 2 rfl ?_
  refine r_iconst C dL_truncateText_1 ?_
  refine r_aload_n C dL_truncateText_2 rfl hl 0 rfl ?_
  refine r_iload_n C dL_truncateText_3 rfl hl 1 rfl ?_
  refine r_wXI (As := [.int (jI p0)]) (rest := [.int (jI 0), .ref zo]) C hL hX (fun E' => cx_X10_truncateText l hst E' z hp0 h) jy_X10_truncateText rfl lk_L_15 dL_truncateText_4 rfl rfl hl.1 (Nat.le_of_ble_eq_true rfl) ⟨Nat.le_of_ble_eq_true rfl, Nat.le_of_ble_eq_true rfl⟩ ⟨Nat.le_of_ble_eq_true rfl, Nat.le_of_ble_eq_true rfl⟩ (fun ce q9 H locs hL g1 g2 g3 => ?_)
  refine r_catch1 C hX hex (by decide) (by decide) (by decide) wl_2 g1 g2 g3 ?_
  refine lv_astore_n C.1.1 C.1.2.1 dL_truncateText_12 rfl hl (by decide) (lv' := [(3, .ref q9), (0, .ref (z + 0)), (1, .int (jI p0)), (2, .ref zo)]) rfl (fun ls hl => ?_)
  refine r_iconst C dL_truncateText_13 ?_
  exact r_wret C hL hr hlk ⟨by decide, by decide⟩ dL_truncateText_14 (Nat.le_of_ble_eq_true rfl) (Nat.le_of_ble_eq_true rfl)
set_option maxRecDepth 100000 in
set_option maxHeartbeats 4000000 in
theorem w_count (l : Launch) (E : jE) (z zo : Nat) (f : Nat → Int64) {p0 : Int} {r : Int} {M : Mem} (hp0 : inR p0) (h : f_X10_count p0 M = some r) : CtW l yL_count cL_count 4 [(0, 9, 12, 18)] { frames := 3, cells := 0, slots := 0, locals := 64 } E z zo (outL E f) [.ref (z + 0), .int (jI p0), .ref zo] M 0 (outL E (vp_updL f 0 (jI r).toInt64)) M := by
  refine jmW (by decide +kernel) (Nat.le_of_ble_eq_true rfl) ?_
  intro p e sM m below meth c C hL hX hr hlk hml hex ls hl
  replace hl : lv_has ls 4 [(0, .ref (z + 0)), (1, .int (jI p0)), (2, .ref zo)] := hl
  refine r_aload_n C dL_count_0 rfl hl 2 rfl ?_
  refine r_iconst C dL_count_1 ?_
  refine r_aload_n C dL_count_2 rfl hl 0 rfl ?_
  refine r_iload_n C dL_count_3 rfl hl 1 rfl ?_
  refine r_wI (As := [.int (jI p0)]) (rest := [.int (jI 0), .ref zo]) C hL (fun E' => c_X10_count l E' z hp0 h) jy_X10_count rfl lk_L_20 dL_count_4 rfl rfl hl.1 (Nat.le_of_ble_eq_true rfl) ⟨Nat.le_of_ble_eq_true rfl, Nat.le_of_ble_eq_true rfl⟩ ⟨rfl, rfl⟩ (fun H locs hrr hL => ?_)
  refine lv_i2l C.1.1 C.1.2.1 dL_count_7 rfl ?_
  refine r_last C hL dL_count_8 (fun H locs hL => ?_)
  refine r_goto C 15 dL_count_9 (by decide) ?_
  refine r_iconst C dL_count_15 ?_
  exact r_wret C hL hr hlk ⟨by decide, by decide⟩ dL_count_16 (Nat.le_of_ble_eq_true rfl) (Nat.le_of_ble_eq_true rfl)
set_option maxRecDepth 100000 in
set_option maxHeartbeats 4000000 in
theorem w1_count (l : Launch) (hst : l.stackTraces = false) (E : jE) (z zo : Nat) (f : Nat → Int64) {p0 : Int} {M M' : Mem} (hp0 : inR p0) (h : x_X10_count p0 M = some (2, M')) : CtW l yL_count cL_count 4 [(0, 9, 12, 18)] { frames := 8, cells := 1, slots := 6, locals := 143 } E z zo (outL E f) [.ref (z + 0), .int (jI p0), .ref zo] M 1 (outL E f) M' := by
  refine jmW (by decide +kernel) (Nat.le_of_ble_eq_true rfl) ?_
  intro p e sM m below meth c C hL hX hr hlk hml hex ls hl
  replace hl : lv_has ls 4 [(0, .ref (z + 0)), (1, .int (jI p0)), (2, .ref zo)] := hl
  refine r_aload_n C dL_count_0 rfl hl 2 rfl ?_
  refine r_iconst C dL_count_1 ?_
  refine r_aload_n C dL_count_2 rfl hl 0 rfl ?_
  refine r_iload_n C dL_count_3 rfl hl 1 rfl ?_
  refine r_wXI (As := [.int (jI p0)]) (rest := [.int (jI 0), .ref zo]) C hL hX (fun E' => cx_X10_count l hst E' z hp0 h) jy_X10_count rfl lk_L_20 dL_count_4 rfl rfl hl.1 (Nat.le_of_ble_eq_true rfl) ⟨Nat.le_of_ble_eq_true rfl, Nat.le_of_ble_eq_true rfl⟩ ⟨Nat.le_of_ble_eq_true rfl, Nat.le_of_ble_eq_true rfl⟩ (fun ce q9 H locs hL g1 g2 g3 => ?_)
  refine r_catch1 C hX hex (by decide) (by decide) (by decide) wl_2 g1 g2 g3 ?_
  refine lv_astore_n C.1.1 C.1.2.1 dL_count_12 rfl hl (by decide) (lv' := [(3, .ref q9), (0, .ref (z + 0)), (1, .int (jI p0)), (2, .ref zo)]) rfl (fun ls hl => ?_)
  refine r_iconst C dL_count_13 ?_
  exact r_wret C hL hr hlk ⟨by decide, by decide⟩ dL_count_14 (Nat.le_of_ble_eq_true rfl) (Nat.le_of_ble_eq_true rfl)
set_option maxRecDepth 100000 in
set_option maxHeartbeats 4000000 in
theorem w_shot (l : Launch) (E : jE) (z zo : Nat) (f : Nat → Int64) {p0 : Int} {p1 : Int} {r : Int} {M : Mem} (hp0 : inR p0) (hp1 : inR p1) (h : f_X10_shot p0 p1 M = some r) : CtW l yL_shot cL_shot 5 [(0, 10, 13, 27), (0, 10, 17, 18)] { frames := 4, cells := 0, slots := 0, locals := 90 } E z zo (outL E f) [.ref (z + 0), .int (jI p0), .int (jI p1), .ref zo] M 0 (outL E (vp_updL f 0 (jI r).toInt64)) M := by
  refine jmW (by decide +kernel) (Nat.le_of_ble_eq_true rfl) ?_
  intro p e sM m below meth c C hL hX hr hlk hml hex ls hl
  replace hl : lv_has ls 5 [(0, .ref (z + 0)), (1, .int (jI p0)), (2, .int (jI p1)), (3, .ref zo)] := hl
  refine r_aload_n C dL_shot_0 rfl hl 3 rfl ?_
  refine r_iconst C dL_shot_1 ?_
  refine r_aload_n C dL_shot_2 rfl hl 0 rfl ?_
  refine r_iload_n C dL_shot_3 rfl hl 1 rfl ?_
  refine r_iload_n C dL_shot_4 rfl hl 2 rfl ?_
  refine r_wI (As := [.int (jI p0), .int (jI p1)]) (rest := [.int (jI 0), .ref zo]) C hL (fun E' => c_X10_shot l E' z hp0 hp1 h) jy_X10_shot rfl lk_L_23 dL_shot_5 rfl rfl hl.1 (Nat.le_of_ble_eq_true rfl) ⟨Nat.le_of_ble_eq_true rfl, Nat.le_of_ble_eq_true rfl⟩ ⟨rfl, rfl⟩ (fun H locs hrr hL => ?_)
  refine lv_i2l C.1.1 C.1.2.1 dL_shot_8 rfl ?_
  refine r_last C hL dL_shot_9 (fun H locs hL => ?_)
  refine r_goto C 21 dL_shot_10 (by decide) ?_
  refine r_iconst C dL_shot_21 ?_
  exact r_wret C hL hr hlk ⟨by decide, by decide⟩ dL_shot_22 (Nat.le_of_ble_eq_true rfl) (Nat.le_of_ble_eq_true rfl)
set_option maxRecDepth 100000 in
set_option maxHeartbeats 4000000 in
theorem w1_shot (l : Launch) (hst : l.stackTraces = false) (E : jE) (z zo : Nat) (f : Nat → Int64) {p0 : Int} {p1 : Int} {M M' : Mem} (hp0 : inR p0) (hp1 : inR p1) (h : x_X10_shot p0 p1 M = some (1, M')) : CtW l yL_shot cL_shot 5 [(0, 10, 13, 27), (0, 10, 17, 18)] { frames := 8, cells := 1, slots := 6, locals := 144 } E z zo (outL E f) [.ref (z + 0), .int (jI p0), .int (jI p1), .ref zo] M 1 (outL E f) M' := by
  refine jmW (by decide +kernel) (Nat.le_of_ble_eq_true rfl) ?_
  intro p e sM m below meth c C hL hX hr hlk hml hex ls hl
  replace hl : lv_has ls 5 [(0, .ref (z + 0)), (1, .int (jI p0)), (2, .int (jI p1)), (3, .ref zo)] := hl
  refine r_aload_n C dL_shot_0 rfl hl 3 rfl ?_
  refine r_iconst C dL_shot_1 ?_
  refine r_aload_n C dL_shot_2 rfl hl 0 rfl ?_
  refine r_iload_n C dL_shot_3 rfl hl 1 rfl ?_
  refine r_iload_n C dL_shot_4 rfl hl 2 rfl ?_
  refine r_wXI (As := [.int (jI p0), .int (jI p1)]) (rest := [.int (jI 0), .ref zo]) C hL hX (fun E' => cx_X10_shot l hst E' z hp0 hp1 h) jy_X10_shot rfl lk_L_23 dL_shot_5 rfl rfl hl.1 (Nat.le_of_ble_eq_true rfl) ⟨Nat.le_of_ble_eq_true rfl, Nat.le_of_ble_eq_true rfl⟩ ⟨Nat.le_of_ble_eq_true rfl, Nat.le_of_ble_eq_true rfl⟩ (fun ce q9 H locs hL g1 g2 g3 => ?_)
  refine r_catch1 C hX hex (by decide) (by decide) (by decide) wl_1 g1 g2 g3 ?_
  refine lv_astore C.1.1 C.1.2.1 dL_shot_13 hl (by decide) (lv' := [(4, .ref q9), (0, .ref (z + 0)), (1, .int (jI p0)), (2, .int (jI p1)), (3, .ref zo)]) rfl (fun ls hl => ?_)
  refine r_iconst C dL_shot_15 ?_
  exact r_wret C hL hr hlk ⟨by decide, by decide⟩ dL_shot_16 (Nat.le_of_ble_eq_true rfl) (Nat.le_of_ble_eq_true rfl)
set_option maxRecDepth 100000 in
set_option maxHeartbeats 4000000 in
theorem w2_shot (l : Launch) (hst : l.stackTraces = false) (E : jE) (z zo : Nat) (f : Nat → Int64) {p0 : Int} {p1 : Int} {M M' : Mem} (hp0 : inR p0) (hp1 : inR p1) (h : x_X10_shot p0 p1 M = some (2, M')) : CtW l yL_shot cL_shot 5 [(0, 10, 13, 27), (0, 10, 17, 18)] { frames := 8, cells := 1, slots := 6, locals := 144 } E z zo (outL E f) [.ref (z + 0), .int (jI p0), .int (jI p1), .ref zo] M 2 (outL E f) M' := by
  refine jmW (by decide +kernel) (Nat.le_of_ble_eq_true rfl) ?_
  intro p e sM m below meth c C hL hX hr hlk hml hex ls hl
  replace hl : lv_has ls 5 [(0, .ref (z + 0)), (1, .int (jI p0)), (2, .int (jI p1)), (3, .ref zo)] := hl
  refine r_aload_n C dL_shot_0 rfl hl 3 rfl ?_
  refine r_iconst C dL_shot_1 ?_
  refine r_aload_n C dL_shot_2 rfl hl 0 rfl ?_
  refine r_iload_n C dL_shot_3 rfl hl 1 rfl ?_
  refine r_iload_n C dL_shot_4 rfl hl 2 rfl ?_
  refine r_wXI (As := [.int (jI p0), .int (jI p1)]) (rest := [.int (jI 0), .ref zo]) C hL hX (fun E' => cx_X10_shot l hst E' z hp0 hp1 h) jy_X10_shot rfl lk_L_23 dL_shot_5 rfl rfl hl.1 (Nat.le_of_ble_eq_true rfl) ⟨Nat.le_of_ble_eq_true rfl, Nat.le_of_ble_eq_true rfl⟩ ⟨Nat.le_of_ble_eq_true rfl, Nat.le_of_ble_eq_true rfl⟩ (fun ce q9 H locs hL g1 g2 g3 => ?_)
  refine r_catch2 C hX hex (by decide) wl_1 hX.2.1 (by decide) (by decide) (by decide) wl_2 g1 g2 g3 ?_
  refine lv_astore C.1.1 C.1.2.1 dL_shot_17 hl (by decide) (lv' := [(4, .ref q9), (0, .ref (z + 0)), (1, .int (jI p0)), (2, .int (jI p1)), (3, .ref zo)]) rfl (fun ls hl => ?_)
  refine r_iconst C dL_shot_19 ?_
  exact r_wret C hL hr hlk ⟨by decide, by decide⟩ dL_shot_20 (Nat.le_of_ble_eq_true rfl) (Nat.le_of_ble_eq_true rfl)
set_option maxRecDepth 100000 in
set_option maxHeartbeats 4000000 in
theorem w_map (l : Launch) (E : jE) (z zo : Nat) (f : Nat → Int64) {p0 : Int} {p1 : Int} {r : Int} {M : Mem} (hp0 : inR p0) (hp1 : inR p1) (h : f_X10_map p0 p1 M = some r) : CtW l yL_map cL_map 5 [(0, 10, 13, 27), (0, 10, 17, 18)] { frames := 5, cells := 0, slots := 0, locals := 111 } E z zo (outL E f) [.ref (z + 0), .int (jI p0), .int (jI p1), .ref zo] M 0 (outL E (vp_updL f 0 (jI r).toInt64)) M := by
  refine jmW (by decide +kernel) (Nat.le_of_ble_eq_true rfl) ?_
  intro p e sM m below meth c C hL hX hr hlk hml hex ls hl
  replace hl : lv_has ls 5 [(0, .ref (z + 0)), (1, .int (jI p0)), (2, .int (jI p1)), (3, .ref zo)] := hl
  refine r_aload_n C dL_map_0 rfl hl 3 rfl ?_
  refine r_iconst C dL_map_1 ?_
  refine r_aload_n C dL_map_2 rfl hl 0 rfl ?_
  refine r_iload_n C dL_map_3 rfl hl 1 rfl ?_
  refine r_iload_n C dL_map_4 rfl hl 2 rfl ?_
  refine r_wI (As := [.int (jI p0), .int (jI p1)]) (rest := [.int (jI 0), .ref zo]) C hL (fun E' => c_X10_map l E' z hp0 hp1 h) jy_X10_map rfl lk_L_29 dL_map_5 rfl rfl hl.1 (Nat.le_of_ble_eq_true rfl) ⟨Nat.le_of_ble_eq_true rfl, Nat.le_of_ble_eq_true rfl⟩ ⟨rfl, rfl⟩ (fun H locs hrr hL => ?_)
  refine lv_i2l C.1.1 C.1.2.1 dL_map_8 rfl ?_
  refine r_last C hL dL_map_9 (fun H locs hL => ?_)
  refine r_goto C 21 dL_map_10 (by decide) ?_
  refine r_iconst C dL_map_21 ?_
  exact r_wret C hL hr hlk ⟨by decide, by decide⟩ dL_map_22 (Nat.le_of_ble_eq_true rfl) (Nat.le_of_ble_eq_true rfl)
set_option maxRecDepth 100000 in
set_option maxHeartbeats 4000000 in
theorem w1_map (l : Launch) (hst : l.stackTraces = false) (E : jE) (z zo : Nat) (f : Nat → Int64) {p0 : Int} {p1 : Int} {M M' : Mem} (hp0 : inR p0) (hp1 : inR p1) (h : x_X10_map p0 p1 M = some (1, M')) : CtW l yL_map cL_map 5 [(0, 10, 13, 27), (0, 10, 17, 18)] { frames := 8, cells := 1, slots := 6, locals := 144 } E z zo (outL E f) [.ref (z + 0), .int (jI p0), .int (jI p1), .ref zo] M 1 (outL E f) M' := by
  refine jmW (by decide +kernel) (Nat.le_of_ble_eq_true rfl) ?_
  intro p e sM m below meth c C hL hX hr hlk hml hex ls hl
  replace hl : lv_has ls 5 [(0, .ref (z + 0)), (1, .int (jI p0)), (2, .int (jI p1)), (3, .ref zo)] := hl
  refine r_aload_n C dL_map_0 rfl hl 3 rfl ?_
  refine r_iconst C dL_map_1 ?_
  refine r_aload_n C dL_map_2 rfl hl 0 rfl ?_
  refine r_iload_n C dL_map_3 rfl hl 1 rfl ?_
  refine r_iload_n C dL_map_4 rfl hl 2 rfl ?_
  refine r_wXI (As := [.int (jI p0), .int (jI p1)]) (rest := [.int (jI 0), .ref zo]) C hL hX (fun E' => cx_X10_map l hst E' z hp0 hp1 h) jy_X10_map rfl lk_L_29 dL_map_5 rfl rfl hl.1 (Nat.le_of_ble_eq_true rfl) ⟨Nat.le_of_ble_eq_true rfl, Nat.le_of_ble_eq_true rfl⟩ ⟨Nat.le_of_ble_eq_true rfl, Nat.le_of_ble_eq_true rfl⟩ (fun ce q9 H locs hL g1 g2 g3 => ?_)
  refine r_catch1 C hX hex (by decide) (by decide) (by decide) wl_1 g1 g2 g3 ?_
  refine lv_astore C.1.1 C.1.2.1 dL_map_13 hl (by decide) (lv' := [(4, .ref q9), (0, .ref (z + 0)), (1, .int (jI p0)), (2, .int (jI p1)), (3, .ref zo)]) rfl (fun ls hl => ?_)
  refine r_iconst C dL_map_15 ?_
  exact r_wret C hL hr hlk ⟨by decide, by decide⟩ dL_map_16 (Nat.le_of_ble_eq_true rfl) (Nat.le_of_ble_eq_true rfl)
set_option maxRecDepth 100000 in
set_option maxHeartbeats 4000000 in
theorem w2_map (l : Launch) (hst : l.stackTraces = false) (E : jE) (z zo : Nat) (f : Nat → Int64) {p0 : Int} {p1 : Int} {M M' : Mem} (hp0 : inR p0) (hp1 : inR p1) (h : x_X10_map p0 p1 M = some (2, M')) : CtW l yL_map cL_map 5 [(0, 10, 13, 27), (0, 10, 17, 18)] { frames := 8, cells := 1, slots := 6, locals := 144 } E z zo (outL E f) [.ref (z + 0), .int (jI p0), .int (jI p1), .ref zo] M 2 (outL E f) M' := by
  refine jmW (by decide +kernel) (Nat.le_of_ble_eq_true rfl) ?_
  intro p e sM m below meth c C hL hX hr hlk hml hex ls hl
  replace hl : lv_has ls 5 [(0, .ref (z + 0)), (1, .int (jI p0)), (2, .int (jI p1)), (3, .ref zo)] := hl
  refine r_aload_n C dL_map_0 rfl hl 3 rfl ?_
  refine r_iconst C dL_map_1 ?_
  refine r_aload_n C dL_map_2 rfl hl 0 rfl ?_
  refine r_iload_n C dL_map_3 rfl hl 1 rfl ?_
  refine r_iload_n C dL_map_4 rfl hl 2 rfl ?_
  refine r_wXI (As := [.int (jI p0), .int (jI p1)]) (rest := [.int (jI 0), .ref zo]) C hL hX (fun E' => cx_X10_map l hst E' z hp0 hp1 h) jy_X10_map rfl lk_L_29 dL_map_5 rfl rfl hl.1 (Nat.le_of_ble_eq_true rfl) ⟨Nat.le_of_ble_eq_true rfl, Nat.le_of_ble_eq_true rfl⟩ ⟨Nat.le_of_ble_eq_true rfl, Nat.le_of_ble_eq_true rfl⟩ (fun ce q9 H locs hL g1 g2 g3 => ?_)
  refine r_catch2 C hX hex (by decide) wl_1 hX.2.1 (by decide) (by decide) (by decide) wl_2 g1 g2 g3 ?_
  refine lv_astore C.1.1 C.1.2.1 dL_map_17 hl (by decide) (lv' := [(4, .ref q9), (0, .ref (z + 0)), (1, .int (jI p0)), (2, .int (jI p1)), (3, .ref zo)]) rfl (fun ls hl => ?_)
  refine r_iconst C dL_map_19 ?_
  exact r_wret C hL hr hlk ⟨by decide, by decide⟩ dL_map_20 (Nat.le_of_ble_eq_true rfl) (Nat.le_of_ble_eq_true rfl)
set_option maxRecDepth 100000 in
set_option maxHeartbeats 4000000 in
theorem w_ban (l : Launch) (E : jE) (z zo : Nat) (f : Nat → Int64) {p0 : Int} {p1 : Int} {r : Int} {M : Mem} (hp0 : inR p0) (hp1 : inR p1) (h : f_X10_ban p0 p1 M = some r) : CtW l yL_ban cL_ban 5 [(0, 10, 13, 27), (0, 10, 17, 18)] { frames := 2, cells := 0, slots := 0, locals := 45 } E z zo (outL E f) [.ref (z + 0), .int (jI p0), .int (jI p1), .ref zo] M 0 (outL E (vp_updL f 0 (jI r).toInt64)) M := by
  refine jmW (by decide +kernel) (Nat.le_of_ble_eq_true rfl) ?_
  intro p e sM m below meth c C hL hX hr hlk hml hex ls hl
  replace hl : lv_has ls 5 [(0, .ref (z + 0)), (1, .int (jI p0)), (2, .int (jI p1)), (3, .ref zo)] := hl
  refine r_aload_n C dL_ban_0 rfl hl 3 rfl ?_
  refine r_iconst C dL_ban_1 ?_
  refine r_aload_n C dL_ban_2 rfl hl 0 rfl ?_
  refine r_iload_n C dL_ban_3 rfl hl 1 rfl ?_
  refine r_iload_n C dL_ban_4 rfl hl 2 rfl ?_
  refine r_wI (As := [.int (jI p0), .int (jI p1)]) (rest := [.int (jI 0), .ref zo]) C hL (fun E' => c_X10_ban l E' z hp0 hp1 h) jy_X10_ban rfl lk_L_32 dL_ban_5 rfl rfl hl.1 (Nat.le_of_ble_eq_true rfl) ⟨Nat.le_of_ble_eq_true rfl, Nat.le_of_ble_eq_true rfl⟩ ⟨rfl, rfl⟩ (fun H locs hrr hL => ?_)
  refine lv_i2l C.1.1 C.1.2.1 dL_ban_8 rfl ?_
  refine r_last C hL dL_ban_9 (fun H locs hL => ?_)
  refine r_goto C 21 dL_ban_10 (by decide) ?_
  refine r_iconst C dL_ban_21 ?_
  exact r_wret C hL hr hlk ⟨by decide, by decide⟩ dL_ban_22 (Nat.le_of_ble_eq_true rfl) (Nat.le_of_ble_eq_true rfl)
set_option maxRecDepth 100000 in
set_option maxHeartbeats 4000000 in
theorem w1_ban (l : Launch) (hst : l.stackTraces = false) (E : jE) (z zo : Nat) (f : Nat → Int64) {p0 : Int} {p1 : Int} {M M' : Mem} (hp0 : inR p0) (hp1 : inR p1) (h : x_X10_ban p0 p1 M = some (1, M')) : CtW l yL_ban cL_ban 5 [(0, 10, 13, 27), (0, 10, 17, 18)] { frames := 8, cells := 1, slots := 6, locals := 144 } E z zo (outL E f) [.ref (z + 0), .int (jI p0), .int (jI p1), .ref zo] M 1 (outL E f) M' := by
  refine jmW (by decide +kernel) (Nat.le_of_ble_eq_true rfl) ?_
  intro p e sM m below meth c C hL hX hr hlk hml hex ls hl
  replace hl : lv_has ls 5 [(0, .ref (z + 0)), (1, .int (jI p0)), (2, .int (jI p1)), (3, .ref zo)] := hl
  refine r_aload_n C dL_ban_0 rfl hl 3 rfl ?_
  refine r_iconst C dL_ban_1 ?_
  refine r_aload_n C dL_ban_2 rfl hl 0 rfl ?_
  refine r_iload_n C dL_ban_3 rfl hl 1 rfl ?_
  refine r_iload_n C dL_ban_4 rfl hl 2 rfl ?_
  refine r_wXI (As := [.int (jI p0), .int (jI p1)]) (rest := [.int (jI 0), .ref zo]) C hL hX (fun E' => cx_X10_ban l hst E' z hp0 hp1 h) jy_X10_ban rfl lk_L_32 dL_ban_5 rfl rfl hl.1 (Nat.le_of_ble_eq_true rfl) ⟨Nat.le_of_ble_eq_true rfl, Nat.le_of_ble_eq_true rfl⟩ ⟨Nat.le_of_ble_eq_true rfl, Nat.le_of_ble_eq_true rfl⟩ (fun ce q9 H locs hL g1 g2 g3 => ?_)
  refine r_catch1 C hX hex (by decide) (by decide) (by decide) wl_1 g1 g2 g3 ?_
  refine lv_astore C.1.1 C.1.2.1 dL_ban_13 hl (by decide) (lv' := [(4, .ref q9), (0, .ref (z + 0)), (1, .int (jI p0)), (2, .int (jI p1)), (3, .ref zo)]) rfl (fun ls hl => ?_)
  refine r_iconst C dL_ban_15 ?_
  exact r_wret C hL hr hlk ⟨by decide, by decide⟩ dL_ban_16 (Nat.le_of_ble_eq_true rfl) (Nat.le_of_ble_eq_true rfl)
set_option maxRecDepth 100000 in
set_option maxHeartbeats 4000000 in
theorem w2_ban (l : Launch) (hst : l.stackTraces = false) (E : jE) (z zo : Nat) (f : Nat → Int64) {p0 : Int} {p1 : Int} {M M' : Mem} (hp0 : inR p0) (hp1 : inR p1) (h : x_X10_ban p0 p1 M = some (2, M')) : CtW l yL_ban cL_ban 5 [(0, 10, 13, 27), (0, 10, 17, 18)] { frames := 8, cells := 1, slots := 6, locals := 144 } E z zo (outL E f) [.ref (z + 0), .int (jI p0), .int (jI p1), .ref zo] M 2 (outL E f) M' := by
  refine jmW (by decide +kernel) (Nat.le_of_ble_eq_true rfl) ?_
  intro p e sM m below meth c C hL hX hr hlk hml hex ls hl
  replace hl : lv_has ls 5 [(0, .ref (z + 0)), (1, .int (jI p0)), (2, .int (jI p1)), (3, .ref zo)] := hl
  refine r_aload_n C dL_ban_0 rfl hl 3 rfl ?_
  refine r_iconst C dL_ban_1 ?_
  refine r_aload_n C dL_ban_2 rfl hl 0 rfl ?_
  refine r_iload_n C dL_ban_3 rfl hl 1 rfl ?_
  refine r_iload_n C dL_ban_4 rfl hl 2 rfl ?_
  refine r_wXI (As := [.int (jI p0), .int (jI p1)]) (rest := [.int (jI 0), .ref zo]) C hL hX (fun E' => cx_X10_ban l hst E' z hp0 hp1 h) jy_X10_ban rfl lk_L_32 dL_ban_5 rfl rfl hl.1 (Nat.le_of_ble_eq_true rfl) ⟨Nat.le_of_ble_eq_true rfl, Nat.le_of_ble_eq_true rfl⟩ ⟨Nat.le_of_ble_eq_true rfl, Nat.le_of_ble_eq_true rfl⟩ (fun ce q9 H locs hL g1 g2 g3 => ?_)
  refine r_catch2 C hX hex (by decide) wl_1 hX.2.1 (by decide) (by decide) (by decide) wl_2 g1 g2 g3 ?_
  refine lv_astore C.1.1 C.1.2.1 dL_ban_17 hl (by decide) (lv' := [(4, .ref q9), (0, .ref (z + 0)), (1, .int (jI p0)), (2, .int (jI p1)), (3, .ref zo)]) rfl (fun ls hl => ?_)
  refine r_iconst C dL_ban_19 ?_
  exact r_wret C hL hr hlk ⟨by decide, by decide⟩ dL_ban_20 (Nat.le_of_ble_eq_true rfl) (Nat.le_of_ble_eq_true rfl)
set_option maxRecDepth 100000 in
set_option maxHeartbeats 4000000 in
theorem w_word (l : Launch) (E : jE) (z zo : Nat) (f : Nat → Int64) {p0 : Int} {p1 : Int} {r : Int} {M : Mem} (hp0 : inR p0) (hp1 : inR p1) (h : f_X10_word p0 p1 M = some r) : CtW l yL_word cL_word 5 [(0, 10, 13, 27), (0, 10, 17, 18)] { frames := 2, cells := 0, slots := 0, locals := 45 } E z zo (outL E f) [.ref (z + 0), .int (jI p0), .int (jI p1), .ref zo] M 0 (outL E (vp_updL f 0 (jI r).toInt64)) M := by
  refine jmW (by decide +kernel) (Nat.le_of_ble_eq_true rfl) ?_
  intro p e sM m below meth c C hL hX hr hlk hml hex ls hl
  replace hl : lv_has ls 5 [(0, .ref (z + 0)), (1, .int (jI p0)), (2, .int (jI p1)), (3, .ref zo)] := hl
  refine r_aload_n C dL_word_0 rfl hl 3 rfl ?_
  refine r_iconst C dL_word_1 ?_
  refine r_aload_n C dL_word_2 rfl hl 0 rfl ?_
  refine r_iload_n C dL_word_3 rfl hl 1 rfl ?_
  refine r_iload_n C dL_word_4 rfl hl 2 rfl ?_
  refine r_wI (As := [.int (jI p0), .int (jI p1)]) (rest := [.int (jI 0), .ref zo]) C hL (fun E' => c_X10_word l E' z hp0 hp1 h) jy_X10_word rfl lk_L_35 dL_word_5 rfl rfl hl.1 (Nat.le_of_ble_eq_true rfl) ⟨Nat.le_of_ble_eq_true rfl, Nat.le_of_ble_eq_true rfl⟩ ⟨rfl, rfl⟩ (fun H locs hrr hL => ?_)
  refine lv_i2l C.1.1 C.1.2.1 dL_word_8 rfl ?_
  refine r_last C hL dL_word_9 (fun H locs hL => ?_)
  refine r_goto C 21 dL_word_10 (by decide) ?_
  refine r_iconst C dL_word_21 ?_
  exact r_wret C hL hr hlk ⟨by decide, by decide⟩ dL_word_22 (Nat.le_of_ble_eq_true rfl) (Nat.le_of_ble_eq_true rfl)
set_option maxRecDepth 100000 in
set_option maxHeartbeats 4000000 in
theorem w1_word (l : Launch) (hst : l.stackTraces = false) (E : jE) (z zo : Nat) (f : Nat → Int64) {p0 : Int} {p1 : Int} {M M' : Mem} (hp0 : inR p0) (hp1 : inR p1) (h : x_X10_word p0 p1 M = some (1, M')) : CtW l yL_word cL_word 5 [(0, 10, 13, 27), (0, 10, 17, 18)] { frames := 8, cells := 1, slots := 6, locals := 144 } E z zo (outL E f) [.ref (z + 0), .int (jI p0), .int (jI p1), .ref zo] M 1 (outL E f) M' := by
  refine jmW (by decide +kernel) (Nat.le_of_ble_eq_true rfl) ?_
  intro p e sM m below meth c C hL hX hr hlk hml hex ls hl
  replace hl : lv_has ls 5 [(0, .ref (z + 0)), (1, .int (jI p0)), (2, .int (jI p1)), (3, .ref zo)] := hl
  refine r_aload_n C dL_word_0 rfl hl 3 rfl ?_
  refine r_iconst C dL_word_1 ?_
  refine r_aload_n C dL_word_2 rfl hl 0 rfl ?_
  refine r_iload_n C dL_word_3 rfl hl 1 rfl ?_
  refine r_iload_n C dL_word_4 rfl hl 2 rfl ?_
  refine r_wXI (As := [.int (jI p0), .int (jI p1)]) (rest := [.int (jI 0), .ref zo]) C hL hX (fun E' => cx_X10_word l hst E' z hp0 hp1 h) jy_X10_word rfl lk_L_35 dL_word_5 rfl rfl hl.1 (Nat.le_of_ble_eq_true rfl) ⟨Nat.le_of_ble_eq_true rfl, Nat.le_of_ble_eq_true rfl⟩ ⟨Nat.le_of_ble_eq_true rfl, Nat.le_of_ble_eq_true rfl⟩ (fun ce q9 H locs hL g1 g2 g3 => ?_)
  refine r_catch1 C hX hex (by decide) (by decide) (by decide) wl_1 g1 g2 g3 ?_
  refine lv_astore C.1.1 C.1.2.1 dL_word_13 hl (by decide) (lv' := [(4, .ref q9), (0, .ref (z + 0)), (1, .int (jI p0)), (2, .int (jI p1)), (3, .ref zo)]) rfl (fun ls hl => ?_)
  refine r_iconst C dL_word_15 ?_
  exact r_wret C hL hr hlk ⟨by decide, by decide⟩ dL_word_16 (Nat.le_of_ble_eq_true rfl) (Nat.le_of_ble_eq_true rfl)
set_option maxRecDepth 100000 in
set_option maxHeartbeats 4000000 in
theorem w2_word (l : Launch) (hst : l.stackTraces = false) (E : jE) (z zo : Nat) (f : Nat → Int64) {p0 : Int} {p1 : Int} {M M' : Mem} (hp0 : inR p0) (hp1 : inR p1) (h : x_X10_word p0 p1 M = some (2, M')) : CtW l yL_word cL_word 5 [(0, 10, 13, 27), (0, 10, 17, 18)] { frames := 8, cells := 1, slots := 6, locals := 144 } E z zo (outL E f) [.ref (z + 0), .int (jI p0), .int (jI p1), .ref zo] M 2 (outL E f) M' := by
  refine jmW (by decide +kernel) (Nat.le_of_ble_eq_true rfl) ?_
  intro p e sM m below meth c C hL hX hr hlk hml hex ls hl
  replace hl : lv_has ls 5 [(0, .ref (z + 0)), (1, .int (jI p0)), (2, .int (jI p1)), (3, .ref zo)] := hl
  refine r_aload_n C dL_word_0 rfl hl 3 rfl ?_
  refine r_iconst C dL_word_1 ?_
  refine r_aload_n C dL_word_2 rfl hl 0 rfl ?_
  refine r_iload_n C dL_word_3 rfl hl 1 rfl ?_
  refine r_iload_n C dL_word_4 rfl hl 2 rfl ?_
  refine r_wXI (As := [.int (jI p0), .int (jI p1)]) (rest := [.int (jI 0), .ref zo]) C hL hX (fun E' => cx_X10_word l hst E' z hp0 hp1 h) jy_X10_word rfl lk_L_35 dL_word_5 rfl rfl hl.1 (Nat.le_of_ble_eq_true rfl) ⟨Nat.le_of_ble_eq_true rfl, Nat.le_of_ble_eq_true rfl⟩ ⟨Nat.le_of_ble_eq_true rfl, Nat.le_of_ble_eq_true rfl⟩ (fun ce q9 H locs hL g1 g2 g3 => ?_)
  refine r_catch2 C hX hex (by decide) wl_1 hX.2.1 (by decide) (by decide) (by decide) wl_2 g1 g2 g3 ?_
  refine lv_astore C.1.1 C.1.2.1 dL_word_17 hl (by decide) (lv' := [(4, .ref q9), (0, .ref (z + 0)), (1, .int (jI p0)), (2, .int (jI p1)), (3, .ref zo)]) rfl (fun ls hl => ?_)
  refine r_iconst C dL_word_19 ?_
  exact r_wret C hL hr hlk ⟨by decide, by decide⟩ dL_word_20 (Nat.le_of_ble_eq_true rfl) (Nat.le_of_ble_eq_true rfl)
set_option maxRecDepth 100000 in
set_option maxHeartbeats 4000000 in
theorem w_piece (l : Launch) (E : jE) (z zo : Nat) (f : Nat → Int64) {p0 : Int} {p1 : Int} {r : Int} {M : Mem} (hp0 : inR p0) (hp1 : inR p1) (h : f_X10_piece p0 p1 M = some r) : CtW l yL_piece cL_piece 5 [(0, 10, 13, 27), (0, 10, 17, 18)] { frames := 2, cells := 0, slots := 0, locals := 44 } E z zo (outL E f) [.ref (z + 0), .int (jI p0), .int (jI p1), .ref zo] M 0 (outL E (vp_updL f 0 (jI r).toInt64)) M := by
  refine jmW (by decide +kernel) (Nat.le_of_ble_eq_true rfl) ?_
  intro p e sM m below meth c C hL hX hr hlk hml hex ls hl
  replace hl : lv_has ls 5 [(0, .ref (z + 0)), (1, .int (jI p0)), (2, .int (jI p1)), (3, .ref zo)] := hl
  refine r_aload_n C dL_piece_0 rfl hl 3 rfl ?_
  refine r_iconst C dL_piece_1 ?_
  refine r_aload_n C dL_piece_2 rfl hl 0 rfl ?_
  refine r_iload_n C dL_piece_3 rfl hl 1 rfl ?_
  refine r_iload_n C dL_piece_4 rfl hl 2 rfl ?_
  refine r_wI (As := [.int (jI p0), .int (jI p1)]) (rest := [.int (jI 0), .ref zo]) C hL (fun E' => c_X10_piece l E' z hp0 hp1 h) jy_X10_piece rfl lk_L_38 dL_piece_5 rfl rfl hl.1 (Nat.le_of_ble_eq_true rfl) ⟨Nat.le_of_ble_eq_true rfl, Nat.le_of_ble_eq_true rfl⟩ ⟨rfl, rfl⟩ (fun H locs hrr hL => ?_)
  refine lv_i2l C.1.1 C.1.2.1 dL_piece_8 rfl ?_
  refine r_last C hL dL_piece_9 (fun H locs hL => ?_)
  refine r_goto C 21 dL_piece_10 (by decide) ?_
  refine r_iconst C dL_piece_21 ?_
  exact r_wret C hL hr hlk ⟨by decide, by decide⟩ dL_piece_22 (Nat.le_of_ble_eq_true rfl) (Nat.le_of_ble_eq_true rfl)
set_option maxRecDepth 100000 in
set_option maxHeartbeats 4000000 in
theorem w1_piece (l : Launch) (hst : l.stackTraces = false) (E : jE) (z zo : Nat) (f : Nat → Int64) {p0 : Int} {p1 : Int} {M M' : Mem} (hp0 : inR p0) (hp1 : inR p1) (h : x_X10_piece p0 p1 M = some (1, M')) : CtW l yL_piece cL_piece 5 [(0, 10, 13, 27), (0, 10, 17, 18)] { frames := 8, cells := 1, slots := 6, locals := 144 } E z zo (outL E f) [.ref (z + 0), .int (jI p0), .int (jI p1), .ref zo] M 1 (outL E f) M' := by
  refine jmW (by decide +kernel) (Nat.le_of_ble_eq_true rfl) ?_
  intro p e sM m below meth c C hL hX hr hlk hml hex ls hl
  replace hl : lv_has ls 5 [(0, .ref (z + 0)), (1, .int (jI p0)), (2, .int (jI p1)), (3, .ref zo)] := hl
  refine r_aload_n C dL_piece_0 rfl hl 3 rfl ?_
  refine r_iconst C dL_piece_1 ?_
  refine r_aload_n C dL_piece_2 rfl hl 0 rfl ?_
  refine r_iload_n C dL_piece_3 rfl hl 1 rfl ?_
  refine r_iload_n C dL_piece_4 rfl hl 2 rfl ?_
  refine r_wXI (As := [.int (jI p0), .int (jI p1)]) (rest := [.int (jI 0), .ref zo]) C hL hX (fun E' => cx_X10_piece l hst E' z hp0 hp1 h) jy_X10_piece rfl lk_L_38 dL_piece_5 rfl rfl hl.1 (Nat.le_of_ble_eq_true rfl) ⟨Nat.le_of_ble_eq_true rfl, Nat.le_of_ble_eq_true rfl⟩ ⟨Nat.le_of_ble_eq_true rfl, Nat.le_of_ble_eq_true rfl⟩ (fun ce q9 H locs hL g1 g2 g3 => ?_)
  refine r_catch1 C hX hex (by decide) (by decide) (by decide) wl_1 g1 g2 g3 ?_
  refine lv_astore C.1.1 C.1.2.1 dL_piece_13 hl (by decide) (lv' := [(4, .ref q9), (0, .ref (z + 0)), (1, .int (jI p0)), (2, .int (jI p1)), (3, .ref zo)]) rfl (fun ls hl => ?_)
  refine r_iconst C dL_piece_15 ?_
  exact r_wret C hL hr hlk ⟨by decide, by decide⟩ dL_piece_16 (Nat.le_of_ble_eq_true rfl) (Nat.le_of_ble_eq_true rfl)
set_option maxRecDepth 100000 in
set_option maxHeartbeats 4000000 in
theorem w2_piece (l : Launch) (hst : l.stackTraces = false) (E : jE) (z zo : Nat) (f : Nat → Int64) {p0 : Int} {p1 : Int} {M M' : Mem} (hp0 : inR p0) (hp1 : inR p1) (h : x_X10_piece p0 p1 M = some (2, M')) : CtW l yL_piece cL_piece 5 [(0, 10, 13, 27), (0, 10, 17, 18)] { frames := 8, cells := 1, slots := 6, locals := 144 } E z zo (outL E f) [.ref (z + 0), .int (jI p0), .int (jI p1), .ref zo] M 2 (outL E f) M' := by
  refine jmW (by decide +kernel) (Nat.le_of_ble_eq_true rfl) ?_
  intro p e sM m below meth c C hL hX hr hlk hml hex ls hl
  replace hl : lv_has ls 5 [(0, .ref (z + 0)), (1, .int (jI p0)), (2, .int (jI p1)), (3, .ref zo)] := hl
  refine r_aload_n C dL_piece_0 rfl hl 3 rfl ?_
  refine r_iconst C dL_piece_1 ?_
  refine r_aload_n C dL_piece_2 rfl hl 0 rfl ?_
  refine r_iload_n C dL_piece_3 rfl hl 1 rfl ?_
  refine r_iload_n C dL_piece_4 rfl hl 2 rfl ?_
  refine r_wXI (As := [.int (jI p0), .int (jI p1)]) (rest := [.int (jI 0), .ref zo]) C hL hX (fun E' => cx_X10_piece l hst E' z hp0 hp1 h) jy_X10_piece rfl lk_L_38 dL_piece_5 rfl rfl hl.1 (Nat.le_of_ble_eq_true rfl) ⟨Nat.le_of_ble_eq_true rfl, Nat.le_of_ble_eq_true rfl⟩ ⟨Nat.le_of_ble_eq_true rfl, Nat.le_of_ble_eq_true rfl⟩ (fun ce q9 H locs hL g1 g2 g3 => ?_)
  refine r_catch2 C hX hex (by decide) wl_1 hX.2.1 (by decide) (by decide) (by decide) wl_2 g1 g2 g3 ?_
  refine lv_astore C.1.1 C.1.2.1 dL_piece_17 hl (by decide) (lv' := [(4, .ref q9), (0, .ref (z + 0)), (1, .int (jI p0)), (2, .int (jI p1)), (3, .ref zo)]) rfl (fun ls hl => ?_)
  refine r_iconst C dL_piece_19 ?_
  exact r_wret C hL hr hlk ⟨by decide, by decide⟩ dL_piece_20 (Nat.le_of_ble_eq_true rfl) (Nat.le_of_ble_eq_true rfl)
set_option maxRecDepth 100000 in
set_option maxHeartbeats 4000000 in
theorem w_reel (l : Launch) (E : jE) (z zo : Nat) (f : Nat → Int64) {p0 : Int} {r : Int} {M : Mem} (hp0 : inR p0) (h : f_X10_reel p0 M = some r) : CtW l yL_reel cL_reel 4 [(0, 9, 12, 18)] { frames := 3, cells := 0, slots := 0, locals := 64 } E z zo (outL E f) [.ref (z + 0), .int (jI p0), .ref zo] M 0 (outL E (vp_updL f 0 (jI r).toInt64)) M := by
  refine jmW (by decide +kernel) (Nat.le_of_ble_eq_true rfl) ?_
  intro p e sM m below meth c C hL hX hr hlk hml hex ls hl
  replace hl : lv_has ls 4 [(0, .ref (z + 0)), (1, .int (jI p0)), (2, .ref zo)] := hl
  refine r_aload_n C dL_reel_0 rfl hl 2 rfl ?_
  refine r_iconst C dL_reel_1 ?_
  refine r_aload_n C dL_reel_2 rfl hl 0 rfl ?_
  refine r_iload_n C dL_reel_3 rfl hl 1 rfl ?_
  refine r_wI (As := [.int (jI p0)]) (rest := [.int (jI 0), .ref zo]) C hL (fun E' => c_X10_reel l E' z hp0 h) jy_X10_reel rfl lk_L_41 dL_reel_4 rfl rfl hl.1 (Nat.le_of_ble_eq_true rfl) ⟨Nat.le_of_ble_eq_true rfl, Nat.le_of_ble_eq_true rfl⟩ ⟨rfl, rfl⟩ (fun H locs hrr hL => ?_)
  refine lv_i2l C.1.1 C.1.2.1 dL_reel_7 rfl ?_
  refine r_last C hL dL_reel_8 (fun H locs hL => ?_)
  refine r_goto C 15 dL_reel_9 (by decide) ?_
  refine r_iconst C dL_reel_15 ?_
  exact r_wret C hL hr hlk ⟨by decide, by decide⟩ dL_reel_16 (Nat.le_of_ble_eq_true rfl) (Nat.le_of_ble_eq_true rfl)
set_option maxRecDepth 100000 in
set_option maxHeartbeats 4000000 in
theorem w1_reel (l : Launch) (hst : l.stackTraces = false) (E : jE) (z zo : Nat) (f : Nat → Int64) {p0 : Int} {M M' : Mem} (hp0 : inR p0) (h : x_X10_reel p0 M = some (2, M')) : CtW l yL_reel cL_reel 4 [(0, 9, 12, 18)] { frames := 8, cells := 1, slots := 6, locals := 143 } E z zo (outL E f) [.ref (z + 0), .int (jI p0), .ref zo] M 1 (outL E f) M' := by
  refine jmW (by decide +kernel) (Nat.le_of_ble_eq_true rfl) ?_
  intro p e sM m below meth c C hL hX hr hlk hml hex ls hl
  replace hl : lv_has ls 4 [(0, .ref (z + 0)), (1, .int (jI p0)), (2, .ref zo)] := hl
  refine r_aload_n C dL_reel_0 rfl hl 2 rfl ?_
  refine r_iconst C dL_reel_1 ?_
  refine r_aload_n C dL_reel_2 rfl hl 0 rfl ?_
  refine r_iload_n C dL_reel_3 rfl hl 1 rfl ?_
  refine r_wXI (As := [.int (jI p0)]) (rest := [.int (jI 0), .ref zo]) C hL hX (fun E' => cx_X10_reel l hst E' z hp0 h) jy_X10_reel rfl lk_L_41 dL_reel_4 rfl rfl hl.1 (Nat.le_of_ble_eq_true rfl) ⟨Nat.le_of_ble_eq_true rfl, Nat.le_of_ble_eq_true rfl⟩ ⟨Nat.le_of_ble_eq_true rfl, Nat.le_of_ble_eq_true rfl⟩ (fun ce q9 H locs hL g1 g2 g3 => ?_)
  refine r_catch1 C hX hex (by decide) (by decide) (by decide) wl_2 g1 g2 g3 ?_
  refine lv_astore_n C.1.1 C.1.2.1 dL_reel_12 rfl hl (by decide) (lv' := [(3, .ref q9), (0, .ref (z + 0)), (1, .int (jI p0)), (2, .ref zo)]) rfl (fun ls hl => ?_)
  refine r_iconst C dL_reel_13 ?_
  exact r_wret C hL hr hlk ⟨by decide, by decide⟩ dL_reel_14 (Nat.le_of_ble_eq_true rfl) (Nat.le_of_ble_eq_true rfl)
set_option maxRecDepth 100000 in
set_option maxHeartbeats 4000000 in
theorem w_account (l : Launch) (E : jE) (z zo : Nat) (f : Nat → Int64) {p0 : Int} {r : Int} {M : Mem} (hp0 : inR p0) (h : f_X10_account p0 M = some r) : CtW l yL_account cL_account 4 [(0, 9, 12, 18)] { frames := 2, cells := 0, slots := 0, locals := 43 } E z zo (outL E f) [.ref (z + 0), .int (jI p0), .ref zo] M 0 (outL E (vp_updL f 0 (jI r).toInt64)) M := by
  refine jmW (by decide +kernel) (Nat.le_of_ble_eq_true rfl) ?_
  intro p e sM m below meth c C hL hX hr hlk hml hex ls hl
  replace hl : lv_has ls 4 [(0, .ref (z + 0)), (1, .int (jI p0)), (2, .ref zo)] := hl
  refine r_aload_n C dL_account_0 rfl hl 2 rfl ?_
  refine r_iconst C dL_account_1 ?_
  refine r_aload_n C dL_account_2 rfl hl 0 rfl ?_
  refine r_iload_n C dL_account_3 rfl hl 1 rfl ?_
  refine r_wI (As := [.int (jI p0)]) (rest := [.int (jI 0), .ref zo]) C hL (fun E' => c_X10_account l E' z hp0 h) jy_X10_account rfl lk_L_44 dL_account_4 rfl rfl hl.1 (Nat.le_of_ble_eq_true rfl) ⟨Nat.le_of_ble_eq_true rfl, Nat.le_of_ble_eq_true rfl⟩ ⟨rfl, rfl⟩ (fun H locs hrr hL => ?_)
  refine lv_i2l C.1.1 C.1.2.1 dL_account_7 rfl ?_
  refine r_last C hL dL_account_8 (fun H locs hL => ?_)
  refine r_goto C 15 dL_account_9 (by decide) ?_
  refine r_iconst C dL_account_15 ?_
  exact r_wret C hL hr hlk ⟨by decide, by decide⟩ dL_account_16 (Nat.le_of_ble_eq_true rfl) (Nat.le_of_ble_eq_true rfl)
set_option maxRecDepth 100000 in
set_option maxHeartbeats 4000000 in
theorem w1_account (l : Launch) (hst : l.stackTraces = false) (E : jE) (z zo : Nat) (f : Nat → Int64) {p0 : Int} {M M' : Mem} (hp0 : inR p0) (h : x_X10_account p0 M = some (2, M')) : CtW l yL_account cL_account 4 [(0, 9, 12, 18)] { frames := 8, cells := 1, slots := 6, locals := 143 } E z zo (outL E f) [.ref (z + 0), .int (jI p0), .ref zo] M 1 (outL E f) M' := by
  refine jmW (by decide +kernel) (Nat.le_of_ble_eq_true rfl) ?_
  intro p e sM m below meth c C hL hX hr hlk hml hex ls hl
  replace hl : lv_has ls 4 [(0, .ref (z + 0)), (1, .int (jI p0)), (2, .ref zo)] := hl
  refine r_aload_n C dL_account_0 rfl hl 2 rfl ?_
  refine r_iconst C dL_account_1 ?_
  refine r_aload_n C dL_account_2 rfl hl 0 rfl ?_
  refine r_iload_n C dL_account_3 rfl hl 1 rfl ?_
  refine r_wXI (As := [.int (jI p0)]) (rest := [.int (jI 0), .ref zo]) C hL hX (fun E' => cx_X10_account l hst E' z hp0 h) jy_X10_account rfl lk_L_44 dL_account_4 rfl rfl hl.1 (Nat.le_of_ble_eq_true rfl) ⟨Nat.le_of_ble_eq_true rfl, Nat.le_of_ble_eq_true rfl⟩ ⟨Nat.le_of_ble_eq_true rfl, Nat.le_of_ble_eq_true rfl⟩ (fun ce q9 H locs hL g1 g2 g3 => ?_)
  refine r_catch1 C hX hex (by decide) (by decide) (by decide) wl_2 g1 g2 g3 ?_
  refine lv_astore_n C.1.1 C.1.2.1 dL_account_12 rfl hl (by decide) (lv' := [(3, .ref q9), (0, .ref (z + 0)), (1, .int (jI p0)), (2, .ref zo)]) rfl (fun ls hl => ?_)
  refine r_iconst C dL_account_13 ?_
  exact r_wret C hL hr hlk ⟨by decide, by decide⟩ dL_account_14 (Nat.le_of_ble_eq_true rfl) (Nat.le_of_ble_eq_true rfl)
set_option maxRecDepth 100000 in
set_option maxHeartbeats 4000000 in
theorem w_faults (l : Launch) (E : jE) (z zo : Nat) (f : Nat → Int64) {p0 : Int} {r : Int} {M M' : Mem} (hp0 : inR p0) (h : f_X10_faults p0 M = some (r, M')) : CtW l yL_faults cL_faults 4 [(0, 9, 12, 18)] { frames := 6, cells := 0, slots := 0, locals := 134 } E z zo (outL E f) [.ref (z + 0), .int (jI p0), .ref zo] M 0 (outL E (vp_updL f 0 (jI r).toInt64)) M' := by
  refine jmW (by decide +kernel) (Nat.le_of_ble_eq_true rfl) ?_
  intro p e sM m below meth c C hL hX hr hlk hml hex ls hl
  replace hl : lv_has ls 4 [(0, .ref (z + 0)), (1, .int (jI p0)), (2, .ref zo)] := hl
  refine r_aload_n C dL_faults_0 rfl hl 2 rfl ?_
  refine r_iconst C dL_faults_1 ?_
  refine r_aload_n C dL_faults_2 rfl hl 0 rfl ?_
  refine r_iload_n C dL_faults_3 rfl hl 1 rfl ?_
  refine r_wI (As := [.int (jI p0)]) (rest := [.int (jI 0), .ref zo]) C hL (fun E' => c_X10_faults l E' z hp0 h) jy_X10_faults rfl lk_L_47 dL_faults_4 rfl rfl hl.1 (Nat.le_of_ble_eq_true rfl) ⟨Nat.le_of_ble_eq_true rfl, Nat.le_of_ble_eq_true rfl⟩ ⟨rfl, rfl⟩ (fun H locs hrr hL => ?_)
  refine lv_i2l C.1.1 C.1.2.1 dL_faults_7 rfl ?_
  refine r_last C hL dL_faults_8 (fun H locs hL => ?_)
  refine r_goto C 15 dL_faults_9 (by decide) ?_
  refine r_iconst C dL_faults_15 ?_
  exact r_wret C hL hr hlk ⟨by decide, by decide⟩ dL_faults_16 (Nat.le_of_ble_eq_true rfl) (Nat.le_of_ble_eq_true rfl)
set_option maxRecDepth 100000 in
set_option maxHeartbeats 4000000 in
theorem w1_faults (l : Launch) (hst : l.stackTraces = false) (E : jE) (z zo : Nat) (f : Nat → Int64) {p0 : Int} {M M' : Mem} (hp0 : inR p0) (h : x_X10_faults p0 M = some (2, M')) : CtW l yL_faults cL_faults 4 [(0, 9, 12, 18)] { frames := 8, cells := 1, slots := 6, locals := 143 } E z zo (outL E f) [.ref (z + 0), .int (jI p0), .ref zo] M 1 (outL E f) M' := by
  refine jmW (by decide +kernel) (Nat.le_of_ble_eq_true rfl) ?_
  intro p e sM m below meth c C hL hX hr hlk hml hex ls hl
  replace hl : lv_has ls 4 [(0, .ref (z + 0)), (1, .int (jI p0)), (2, .ref zo)] := hl
  refine r_aload_n C dL_faults_0 rfl hl 2 rfl ?_
  refine r_iconst C dL_faults_1 ?_
  refine r_aload_n C dL_faults_2 rfl hl 0 rfl ?_
  refine r_iload_n C dL_faults_3 rfl hl 1 rfl ?_
  refine r_wXI (As := [.int (jI p0)]) (rest := [.int (jI 0), .ref zo]) C hL hX (fun E' => cx_X10_faults l hst E' z hp0 h) jy_X10_faults rfl lk_L_47 dL_faults_4 rfl rfl hl.1 (Nat.le_of_ble_eq_true rfl) ⟨Nat.le_of_ble_eq_true rfl, Nat.le_of_ble_eq_true rfl⟩ ⟨Nat.le_of_ble_eq_true rfl, Nat.le_of_ble_eq_true rfl⟩ (fun ce q9 H locs hL g1 g2 g3 => ?_)
  refine r_catch1 C hX hex (by decide) (by decide) (by decide) wl_2 g1 g2 g3 ?_
  refine lv_astore_n C.1.1 C.1.2.1 dL_faults_12 rfl hl (by decide) (lv' := [(3, .ref q9), (0, .ref (z + 0)), (1, .int (jI p0)), (2, .ref zo)]) rfl (fun ls hl => ?_)
  refine r_iconst C dL_faults_13 ?_
  exact r_wret C hL hr hlk ⟨by decide, by decide⟩ dL_faults_14 (Nat.le_of_ble_eq_true rfl) (Nat.le_of_ble_eq_true rfl)
set_option maxRecDepth 100000 in
set_option maxHeartbeats 4000000 in
theorem w_fault (l : Launch) (E : jE) (z zo : Nat) (f : Nat → Int64) {p0 : Int} {p1 : Int} {r : Int} {M M' : Mem} (hp0 : inR p0) (hp1 : inR p1) (h : f_X10_fault p0 p1 M = some (r, M')) : CtW l yL_fault cL_fault 5 [(0, 10, 13, 27), (0, 10, 17, 18)] { frames := 6, cells := 0, slots := 0, locals := 135 } E z zo (outL E f) [.ref (z + 0), .int (jI p0), .int (jI p1), .ref zo] M 0 (outL E (vp_updL f 0 (jI r).toInt64)) M' := by
  refine jmW (by decide +kernel) (Nat.le_of_ble_eq_true rfl) ?_
  intro p e sM m below meth c C hL hX hr hlk hml hex ls hl
  replace hl : lv_has ls 5 [(0, .ref (z + 0)), (1, .int (jI p0)), (2, .int (jI p1)), (3, .ref zo)] := hl
  refine r_aload_n C dL_fault_0 rfl hl 3 rfl ?_
  refine r_iconst C dL_fault_1 ?_
  refine r_aload_n C dL_fault_2 rfl hl 0 rfl ?_
  refine r_iload_n C dL_fault_3 rfl hl 1 rfl ?_
  refine r_iload_n C dL_fault_4 rfl hl 2 rfl ?_
  refine r_wI (As := [.int (jI p0), .int (jI p1)]) (rest := [.int (jI 0), .ref zo]) C hL (fun E' => c_X10_fault l E' z hp0 hp1 h) jy_X10_fault rfl lk_L_50 dL_fault_5 rfl rfl hl.1 (Nat.le_of_ble_eq_true rfl) ⟨Nat.le_of_ble_eq_true rfl, Nat.le_of_ble_eq_true rfl⟩ ⟨rfl, rfl⟩ (fun H locs hrr hL => ?_)
  refine lv_i2l C.1.1 C.1.2.1 dL_fault_8 rfl ?_
  refine r_last C hL dL_fault_9 (fun H locs hL => ?_)
  refine r_goto C 21 dL_fault_10 (by decide) ?_
  refine r_iconst C dL_fault_21 ?_
  exact r_wret C hL hr hlk ⟨by decide, by decide⟩ dL_fault_22 (Nat.le_of_ble_eq_true rfl) (Nat.le_of_ble_eq_true rfl)
set_option maxRecDepth 100000 in
set_option maxHeartbeats 4000000 in
theorem w1_fault (l : Launch) (hst : l.stackTraces = false) (E : jE) (z zo : Nat) (f : Nat → Int64) {p0 : Int} {p1 : Int} {M M' : Mem} (hp0 : inR p0) (hp1 : inR p1) (h : x_X10_fault p0 p1 M = some (1, M')) : CtW l yL_fault cL_fault 5 [(0, 10, 13, 27), (0, 10, 17, 18)] { frames := 8, cells := 1, slots := 6, locals := 144 } E z zo (outL E f) [.ref (z + 0), .int (jI p0), .int (jI p1), .ref zo] M 1 (outL E f) M' := by
  refine jmW (by decide +kernel) (Nat.le_of_ble_eq_true rfl) ?_
  intro p e sM m below meth c C hL hX hr hlk hml hex ls hl
  replace hl : lv_has ls 5 [(0, .ref (z + 0)), (1, .int (jI p0)), (2, .int (jI p1)), (3, .ref zo)] := hl
  refine r_aload_n C dL_fault_0 rfl hl 3 rfl ?_
  refine r_iconst C dL_fault_1 ?_
  refine r_aload_n C dL_fault_2 rfl hl 0 rfl ?_
  refine r_iload_n C dL_fault_3 rfl hl 1 rfl ?_
  refine r_iload_n C dL_fault_4 rfl hl 2 rfl ?_
  refine r_wXI (As := [.int (jI p0), .int (jI p1)]) (rest := [.int (jI 0), .ref zo]) C hL hX (fun E' => cx_X10_fault l hst E' z hp0 hp1 h) jy_X10_fault rfl lk_L_50 dL_fault_5 rfl rfl hl.1 (Nat.le_of_ble_eq_true rfl) ⟨Nat.le_of_ble_eq_true rfl, Nat.le_of_ble_eq_true rfl⟩ ⟨Nat.le_of_ble_eq_true rfl, Nat.le_of_ble_eq_true rfl⟩ (fun ce q9 H locs hL g1 g2 g3 => ?_)
  refine r_catch1 C hX hex (by decide) (by decide) (by decide) wl_1 g1 g2 g3 ?_
  refine lv_astore C.1.1 C.1.2.1 dL_fault_13 hl (by decide) (lv' := [(4, .ref q9), (0, .ref (z + 0)), (1, .int (jI p0)), (2, .int (jI p1)), (3, .ref zo)]) rfl (fun ls hl => ?_)
  refine r_iconst C dL_fault_15 ?_
  exact r_wret C hL hr hlk ⟨by decide, by decide⟩ dL_fault_16 (Nat.le_of_ble_eq_true rfl) (Nat.le_of_ble_eq_true rfl)
set_option maxRecDepth 100000 in
set_option maxHeartbeats 4000000 in
theorem w2_fault (l : Launch) (hst : l.stackTraces = false) (E : jE) (z zo : Nat) (f : Nat → Int64) {p0 : Int} {p1 : Int} {M M' : Mem} (hp0 : inR p0) (hp1 : inR p1) (h : x_X10_fault p0 p1 M = some (2, M')) : CtW l yL_fault cL_fault 5 [(0, 10, 13, 27), (0, 10, 17, 18)] { frames := 8, cells := 1, slots := 6, locals := 144 } E z zo (outL E f) [.ref (z + 0), .int (jI p0), .int (jI p1), .ref zo] M 2 (outL E f) M' := by
  refine jmW (by decide +kernel) (Nat.le_of_ble_eq_true rfl) ?_
  intro p e sM m below meth c C hL hX hr hlk hml hex ls hl
  replace hl : lv_has ls 5 [(0, .ref (z + 0)), (1, .int (jI p0)), (2, .int (jI p1)), (3, .ref zo)] := hl
  refine r_aload_n C dL_fault_0 rfl hl 3 rfl ?_
  refine r_iconst C dL_fault_1 ?_
  refine r_aload_n C dL_fault_2 rfl hl 0 rfl ?_
  refine r_iload_n C dL_fault_3 rfl hl 1 rfl ?_
  refine r_iload_n C dL_fault_4 rfl hl 2 rfl ?_
  refine r_wXI (As := [.int (jI p0), .int (jI p1)]) (rest := [.int (jI 0), .ref zo]) C hL hX (fun E' => cx_X10_fault l hst E' z hp0 hp1 h) jy_X10_fault rfl lk_L_50 dL_fault_5 rfl rfl hl.1 (Nat.le_of_ble_eq_true rfl) ⟨Nat.le_of_ble_eq_true rfl, Nat.le_of_ble_eq_true rfl⟩ ⟨Nat.le_of_ble_eq_true rfl, Nat.le_of_ble_eq_true rfl⟩ (fun ce q9 H locs hL g1 g2 g3 => ?_)
  refine r_catch2 C hX hex (by decide) wl_1 hX.2.1 (by decide) (by decide) (by decide) wl_2 g1 g2 g3 ?_
  refine lv_astore C.1.1 C.1.2.1 dL_fault_17 hl (by decide) (lv' := [(4, .ref q9), (0, .ref (z + 0)), (1, .int (jI p0)), (2, .int (jI p1)), (3, .ref zo)]) rfl (fun ls hl => ?_)
  refine r_iconst C dL_fault_19 ?_
  exact r_wret C hL hr hlk ⟨by decide, by decide⟩ dL_fault_20 (Nat.le_of_ble_eq_true rfl) (Nat.le_of_ble_eq_true rfl)
set_option maxRecDepth 100000 in
set_option maxHeartbeats 4000000 in
theorem w_share (l : Launch) (E : jE) (z zo : Nat) (f : Nat → UInt64) {p0 : Int} {r : UInt64} {M : Mem} (hp0 : inR p0) (h : f_X10_share p0 M = some r) : CtW l yL_share cL_share 4 [(0, 8, 11, 27)] { frames := 3, cells := 0, slots := 0, locals := 66 } E z zo (outD E f) [.ref (z + 0), .int (jI p0), .ref zo] M 0 (outD E (vf_upd f 0 r)) M := by
  refine jmW (by decide +kernel) (Nat.le_of_ble_eq_true rfl) ?_
  intro p e sM m below meth c C hL hX hr hlk hml hex ls hl
  replace hl : lv_has ls 4 [(0, .ref (z + 0)), (1, .int (jI p0)), (2, .ref zo)] := hl
  refine r_aload_n C dL_share_0 rfl hl 2 rfl ?_
  refine r_iconst C dL_share_1 ?_
  refine r_aload_n C dL_share_2 rfl hl 0 rfl ?_
  refine r_iload_n C dL_share_3 rfl hl 1 rfl ?_
  refine r_wD (As := [.int (jI p0)]) (rest := [.int (jI 0), .ref zo]) C hL (fun E' => c_X10_share l E' z hp0 h) jy_X10_share rfl lk_L_53 dL_share_4 rfl rfl hl.1 (Nat.le_of_ble_eq_true rfl) ⟨Nat.le_of_ble_eq_true rfl, Nat.le_of_ble_eq_true rfl⟩ ⟨rfl, rfl⟩ (fun H locs hL => ?_)
  refine r_dast C hL dL_share_7 (fun H locs hL => ?_)
  refine r_goto C 14 dL_share_8 (by decide) ?_
  refine r_iconst C dL_share_14 ?_
  exact r_wret C hL hr hlk ⟨by decide, by decide⟩ dL_share_15 (Nat.le_of_ble_eq_true rfl) (Nat.le_of_ble_eq_true rfl)
set_option maxRecDepth 100000 in
set_option maxHeartbeats 4000000 in
theorem w1_share (l : Launch) (hst : l.stackTraces = false) (E : jE) (z zo : Nat) (f : Nat → UInt64) {p0 : Int} {M M' : Mem} (hp0 : inR p0) (h : x_X10_share p0 M = some (1, M')) : CtW l yL_share cL_share 4 [(0, 8, 11, 27)] { frames := 8, cells := 1, slots := 6, locals := 144 } E z zo (outD E f) [.ref (z + 0), .int (jI p0), .ref zo] M 1 (outD E f) M' := by
  refine jmW (by decide +kernel) (Nat.le_of_ble_eq_true rfl) ?_
  intro p e sM m below meth c C hL hX hr hlk hml hex ls hl
  replace hl : lv_has ls 4 [(0, .ref (z + 0)), (1, .int (jI p0)), (2, .ref zo)] := hl
  refine r_aload_n C dL_share_0 rfl hl 2 rfl ?_
  refine r_iconst C dL_share_1 ?_
  refine r_aload_n C dL_share_2 rfl hl 0 rfl ?_
  refine r_iload_n C dL_share_3 rfl hl 1 rfl ?_
  refine r_wXD (As := [.int (jI p0)]) (rest := [.int (jI 0), .ref zo]) C hL hX (fun E' => cx_X10_share l hst E' z hp0 h) jy_X10_share rfl lk_L_53 dL_share_4 rfl rfl hl.1 (Nat.le_of_ble_eq_true rfl) ⟨Nat.le_of_ble_eq_true rfl, Nat.le_of_ble_eq_true rfl⟩ ⟨Nat.le_of_ble_eq_true rfl, Nat.le_of_ble_eq_true rfl⟩ (fun ce q9 H locs hL g1 g2 g3 => ?_)
  refine r_catch1 C hX hex (by decide) (by decide) (by decide) wl_1 g1 g2 g3 ?_
  refine lv_astore_n C.1.1 C.1.2.1 dL_share_11 rfl hl (by decide) (lv' := [(3, .ref q9), (0, .ref (z + 0)), (1, .int (jI p0)), (2, .ref zo)]) rfl (fun ls hl => ?_)
  refine r_iconst C dL_share_12 ?_
  exact r_wret C hL hr hlk ⟨by decide, by decide⟩ dL_share_13 (Nat.le_of_ble_eq_true rfl) (Nat.le_of_ble_eq_true rfl)
set_option maxRecDepth 100000 in
set_option maxHeartbeats 4000000 in
theorem w_best (l : Launch) (E : jE) (z zo : Nat) (f : Nat → Int64) {p0 : Int} {r : Int} {M M' : Mem} (hp0 : inR p0) (h : f_X10_best p0 M = some (r, M')) : CtW l yL_best cL_best 4 [(0, 9, 12, 18)] { frames := 5, cells := 0, slots := 0, locals := 114 } E z zo (outL E f) [.ref (z + 0), .int (jI p0), .ref zo] M 0 (outL E (vp_updL f 0 (jI r).toInt64)) M' := by
  refine jmW (by decide +kernel) (Nat.le_of_ble_eq_true rfl) ?_
  intro p e sM m below meth c C hL hX hr hlk hml hex ls hl
  replace hl : lv_has ls 4 [(0, .ref (z + 0)), (1, .int (jI p0)), (2, .ref zo)] := hl
  refine r_aload_n C dL_best_0 rfl hl 2 rfl ?_
  refine r_iconst C dL_best_1 ?_
  refine r_aload_n C dL_best_2 rfl hl 0 rfl ?_
  refine r_iload_n C dL_best_3 rfl hl 1 rfl ?_
  refine r_wI (As := [.int (jI p0)]) (rest := [.int (jI 0), .ref zo]) C hL (fun E' => c_X10_best l E' z hp0 h) jy_X10_best rfl lk_L_57 dL_best_4 rfl rfl hl.1 (Nat.le_of_ble_eq_true rfl) ⟨Nat.le_of_ble_eq_true rfl, Nat.le_of_ble_eq_true rfl⟩ ⟨rfl, rfl⟩ (fun H locs hrr hL => ?_)
  refine lv_i2l C.1.1 C.1.2.1 dL_best_7 rfl ?_
  refine r_last C hL dL_best_8 (fun H locs hL => ?_)
  refine r_goto C 15 dL_best_9 (by decide) ?_
  refine r_iconst C dL_best_15 ?_
  exact r_wret C hL hr hlk ⟨by decide, by decide⟩ dL_best_16 (Nat.le_of_ble_eq_true rfl) (Nat.le_of_ble_eq_true rfl)
set_option maxRecDepth 100000 in
set_option maxHeartbeats 4000000 in
theorem w1_best (l : Launch) (hst : l.stackTraces = false) (E : jE) (z zo : Nat) (f : Nat → Int64) {p0 : Int} {M M' : Mem} (hp0 : inR p0) (h : x_X10_best p0 M = some (2, M')) : CtW l yL_best cL_best 4 [(0, 9, 12, 18)] { frames := 8, cells := 1, slots := 6, locals := 143 } E z zo (outL E f) [.ref (z + 0), .int (jI p0), .ref zo] M 1 (outL E f) M' := by
  refine jmW (by decide +kernel) (Nat.le_of_ble_eq_true rfl) ?_
  intro p e sM m below meth c C hL hX hr hlk hml hex ls hl
  replace hl : lv_has ls 4 [(0, .ref (z + 0)), (1, .int (jI p0)), (2, .ref zo)] := hl
  refine r_aload_n C dL_best_0 rfl hl 2 rfl ?_
  refine r_iconst C dL_best_1 ?_
  refine r_aload_n C dL_best_2 rfl hl 0 rfl ?_
  refine r_iload_n C dL_best_3 rfl hl 1 rfl ?_
  refine r_wXI (As := [.int (jI p0)]) (rest := [.int (jI 0), .ref zo]) C hL hX (fun E' => cx_X10_best l hst E' z hp0 h) jy_X10_best rfl lk_L_57 dL_best_4 rfl rfl hl.1 (Nat.le_of_ble_eq_true rfl) ⟨Nat.le_of_ble_eq_true rfl, Nat.le_of_ble_eq_true rfl⟩ ⟨Nat.le_of_ble_eq_true rfl, Nat.le_of_ble_eq_true rfl⟩ (fun ce q9 H locs hL g1 g2 g3 => ?_)
  refine r_catch1 C hX hex (by decide) (by decide) (by decide) wl_2 g1 g2 g3 ?_
  refine lv_astore_n C.1.1 C.1.2.1 dL_best_12 rfl hl (by decide) (lv' := [(3, .ref q9), (0, .ref (z + 0)), (1, .int (jI p0)), (2, .ref zo)]) rfl (fun ls hl => ?_)
  refine r_iconst C dL_best_13 ?_
  exact r_wret C hL hr hlk ⟨by decide, by decide⟩ dL_best_14 (Nat.le_of_ble_eq_true rfl) (Nat.le_of_ble_eq_true rfl)
set_option maxRecDepth 100000 in
set_option maxHeartbeats 4000000 in
theorem w_insert (l : Launch) (E : jE) (z zo : Nat) (f : Nat → Int64) {p0 : Int} {p1 : Int} {p2 : Int} {r : Int} {M M' : Mem} (hp0 : inR p0) (hp1 : inR p1) (hp2 : inR p2) (h : f_X10_insert p0 p1 p2 M = some (r, M')) : CtW l yL_insert cL_insert 6 [(0, 12, 15, 27), (0, 12, 19, 18)] { frames := 28, cells := 0, slots := 0, locals := 848 } E z zo (outL E f) [.ref (z + 0), .int (jI p0), .int (jI p1), .int (jI p2), .ref zo] M 0 (outL E (vp_updL f 0 (jI r).toInt64)) M' := by
  refine jmW (by decide +kernel) (Nat.le_of_ble_eq_true rfl) ?_
  intro p e sM m below meth c C hL hX hr hlk hml hex ls hl
  replace hl : lv_has ls 6 [(0, .ref (z + 0)), (1, .int (jI p0)), (2, .int (jI p1)), (3, .int (jI p2)), (4, .ref zo)] := hl
  refine r_aload C dL_insert_0 hl 4 rfl ?_
  refine r_iconst C dL_insert_2 ?_
  refine r_aload_n C dL_insert_3 rfl hl 0 rfl ?_
  refine r_iload_n C dL_insert_4 rfl hl 1 rfl ?_
  refine r_iload_n C dL_insert_5 rfl hl 2 rfl ?_
  refine r_iload_n C dL_insert_6 rfl hl 3 rfl ?_
  refine r_wI (As := [.int (jI p0), .int (jI p1), .int (jI p2)]) (rest := [.int (jI 0), .ref zo]) C hL (fun E' => c_X10_insert l E' z hp0 hp1 hp2 h) jy_X10_insert rfl lk_L_60 dL_insert_7 rfl rfl hl.1 (Nat.le_of_ble_eq_true rfl) ⟨Nat.le_of_ble_eq_true rfl, Nat.le_of_ble_eq_true rfl⟩ ⟨rfl, rfl⟩ (fun H locs hrr hL => ?_)
  refine lv_i2l C.1.1 C.1.2.1 dL_insert_10 rfl ?_
  refine r_last C hL dL_insert_11 (fun H locs hL => ?_)
  refine r_goto C 23 dL_insert_12 (by decide) ?_
  refine r_iconst C dL_insert_23 ?_
  exact r_wret C hL hr hlk ⟨by decide, by decide⟩ dL_insert_24 (Nat.le_of_ble_eq_true rfl) (Nat.le_of_ble_eq_true rfl)
set_option maxRecDepth 100000 in
set_option maxHeartbeats 4000000 in
theorem w1_insert (l : Launch) (hst : l.stackTraces = false) (E : jE) (z zo : Nat) (f : Nat → Int64) {p0 : Int} {p1 : Int} {p2 : Int} {M M' : Mem} (hp0 : inR p0) (hp1 : inR p1) (hp2 : inR p2) (h : x_X10_insert p0 p1 p2 M = some (1, M')) : CtW l yL_insert cL_insert 6 [(0, 12, 15, 27), (0, 12, 19, 18)] { frames := 8, cells := 1, slots := 6, locals := 147 } E z zo (outL E f) [.ref (z + 0), .int (jI p0), .int (jI p1), .int (jI p2), .ref zo] M 1 (outL E f) M' := by
  refine jmW (by decide +kernel) (Nat.le_of_ble_eq_true rfl) ?_
  intro p e sM m below meth c C hL hX hr hlk hml hex ls hl
  replace hl : lv_has ls 6 [(0, .ref (z + 0)), (1, .int (jI p0)), (2, .int (jI p1)), (3, .int (jI p2)), (4, .ref zo)] := hl
  refine r_aload C dL_insert_0 hl 4 rfl ?_
  refine r_iconst C dL_insert_2 ?_
  refine r_aload_n C dL_insert_3 rfl hl 0 rfl ?_
  refine r_iload_n C dL_insert_4 rfl hl 1 rfl ?_
  refine r_iload_n C dL_insert_5 rfl hl 2 rfl ?_
  refine r_iload_n C dL_insert_6 rfl hl 3 rfl ?_
  refine r_wXI (As := [.int (jI p0), .int (jI p1), .int (jI p2)]) (rest := [.int (jI 0), .ref zo]) C hL hX (fun E' => cx_X10_insert l hst E' z hp0 hp1 hp2 h) jy_X10_insert rfl lk_L_60 dL_insert_7 rfl rfl hl.1 (Nat.le_of_ble_eq_true rfl) ⟨Nat.le_of_ble_eq_true rfl, Nat.le_of_ble_eq_true rfl⟩ ⟨Nat.le_of_ble_eq_true rfl, Nat.le_of_ble_eq_true rfl⟩ (fun ce q9 H locs hL g1 g2 g3 => ?_)
  refine r_catch1 C hX hex (by decide) (by decide) (by decide) wl_1 g1 g2 g3 ?_
  refine lv_astore C.1.1 C.1.2.1 dL_insert_15 hl (by decide) (lv' := [(5, .ref q9), (0, .ref (z + 0)), (1, .int (jI p0)), (2, .int (jI p1)), (3, .int (jI p2)), (4, .ref zo)]) rfl (fun ls hl => ?_)
  refine r_iconst C dL_insert_17 ?_
  exact r_wret C hL hr hlk ⟨by decide, by decide⟩ dL_insert_18 (Nat.le_of_ble_eq_true rfl) (Nat.le_of_ble_eq_true rfl)
set_option maxRecDepth 100000 in
set_option maxHeartbeats 4000000 in
theorem w2_insert (l : Launch) (hst : l.stackTraces = false) (E : jE) (z zo : Nat) (f : Nat → Int64) {p0 : Int} {p1 : Int} {p2 : Int} {M M' : Mem} (hp0 : inR p0) (hp1 : inR p1) (hp2 : inR p2) (h : x_X10_insert p0 p1 p2 M = some (2, M')) : CtW l yL_insert cL_insert 6 [(0, 12, 15, 27), (0, 12, 19, 18)] { frames := 8, cells := 1, slots := 6, locals := 147 } E z zo (outL E f) [.ref (z + 0), .int (jI p0), .int (jI p1), .int (jI p2), .ref zo] M 2 (outL E f) M' := by
  refine jmW (by decide +kernel) (Nat.le_of_ble_eq_true rfl) ?_
  intro p e sM m below meth c C hL hX hr hlk hml hex ls hl
  replace hl : lv_has ls 6 [(0, .ref (z + 0)), (1, .int (jI p0)), (2, .int (jI p1)), (3, .int (jI p2)), (4, .ref zo)] := hl
  refine r_aload C dL_insert_0 hl 4 rfl ?_
  refine r_iconst C dL_insert_2 ?_
  refine r_aload_n C dL_insert_3 rfl hl 0 rfl ?_
  refine r_iload_n C dL_insert_4 rfl hl 1 rfl ?_
  refine r_iload_n C dL_insert_5 rfl hl 2 rfl ?_
  refine r_iload_n C dL_insert_6 rfl hl 3 rfl ?_
  refine r_wXI (As := [.int (jI p0), .int (jI p1), .int (jI p2)]) (rest := [.int (jI 0), .ref zo]) C hL hX (fun E' => cx_X10_insert l hst E' z hp0 hp1 hp2 h) jy_X10_insert rfl lk_L_60 dL_insert_7 rfl rfl hl.1 (Nat.le_of_ble_eq_true rfl) ⟨Nat.le_of_ble_eq_true rfl, Nat.le_of_ble_eq_true rfl⟩ ⟨Nat.le_of_ble_eq_true rfl, Nat.le_of_ble_eq_true rfl⟩ (fun ce q9 H locs hL g1 g2 g3 => ?_)
  refine r_catch2 C hX hex (by decide) wl_1 hX.2.1 (by decide) (by decide) (by decide) wl_2 g1 g2 g3 ?_
  refine lv_astore C.1.1 C.1.2.1 dL_insert_19 hl (by decide) (lv' := [(5, .ref q9), (0, .ref (z + 0)), (1, .int (jI p0)), (2, .int (jI p1)), (3, .int (jI p2)), (4, .ref zo)]) rfl (fun ls hl => ?_)
  refine r_iconst C dL_insert_21 ?_
  exact r_wret C hL hr hlk ⟨by decide, by decide⟩ dL_insert_22 (Nat.le_of_ble_eq_true rfl) (Nat.le_of_ble_eq_true rfl)
set_option maxRecDepth 100000 in
set_option maxHeartbeats 4000000 in
theorem w_trim (l : Launch) (E : jE) (z zo : Nat) (f : Nat → Int64) {p0 : Int} {p1 : Int} {r : Int} {M M' : Mem} (hp0 : inR p0) (hp1 : inR p1) (h : f_X10_trim p0 p1 M = some (r, M')) : CtW l yL_trim cL_trim 5 [(0, 10, 13, 27), (0, 10, 17, 18)] { frames := 28, cells := 0, slots := 0, locals := 846 } E z zo (outL E f) [.ref (z + 0), .int (jI p0), .int (jI p1), .ref zo] M 0 (outL E (vp_updL f 0 (jI r).toInt64)) M' := by
  refine jmW (by decide +kernel) (Nat.le_of_ble_eq_true rfl) ?_
  intro p e sM m below meth c C hL hX hr hlk hml hex ls hl
  replace hl : lv_has ls 5 [(0, .ref (z + 0)), (1, .int (jI p0)), (2, .int (jI p1)), (3, .ref zo)] := hl
  refine r_aload_n C dL_trim_0 rfl hl 3 rfl ?_
  refine r_iconst C dL_trim_1 ?_
  refine r_aload_n C dL_trim_2 rfl hl 0 rfl ?_
  refine r_iload_n C dL_trim_3 rfl hl 1 rfl ?_
  refine r_iload_n C dL_trim_4 rfl hl 2 rfl ?_
  refine r_wI (As := [.int (jI p0), .int (jI p1)]) (rest := [.int (jI 0), .ref zo]) C hL (fun E' => c_X10_trim l E' z hp0 hp1 h) jy_X10_trim rfl lk_L_64 dL_trim_5 rfl rfl hl.1 (Nat.le_of_ble_eq_true rfl) ⟨Nat.le_of_ble_eq_true rfl, Nat.le_of_ble_eq_true rfl⟩ ⟨rfl, rfl⟩ (fun H locs hrr hL => ?_)
  refine lv_i2l C.1.1 C.1.2.1 dL_trim_8 rfl ?_
  refine r_last C hL dL_trim_9 (fun H locs hL => ?_)
  refine r_goto C 21 dL_trim_10 (by decide) ?_
  refine r_iconst C dL_trim_21 ?_
  exact r_wret C hL hr hlk ⟨by decide, by decide⟩ dL_trim_22 (Nat.le_of_ble_eq_true rfl) (Nat.le_of_ble_eq_true rfl)
set_option maxRecDepth 100000 in
set_option maxHeartbeats 4000000 in
theorem w1_trim (l : Launch) (hst : l.stackTraces = false) (E : jE) (z zo : Nat) (f : Nat → Int64) {p0 : Int} {p1 : Int} {M M' : Mem} (hp0 : inR p0) (hp1 : inR p1) (h : x_X10_trim p0 p1 M = some (1, M')) : CtW l yL_trim cL_trim 5 [(0, 10, 13, 27), (0, 10, 17, 18)] { frames := 8, cells := 1, slots := 6, locals := 145 } E z zo (outL E f) [.ref (z + 0), .int (jI p0), .int (jI p1), .ref zo] M 1 (outL E f) M' := by
  refine jmW (by decide +kernel) (Nat.le_of_ble_eq_true rfl) ?_
  intro p e sM m below meth c C hL hX hr hlk hml hex ls hl
  replace hl : lv_has ls 5 [(0, .ref (z + 0)), (1, .int (jI p0)), (2, .int (jI p1)), (3, .ref zo)] := hl
  refine r_aload_n C dL_trim_0 rfl hl 3 rfl ?_
  refine r_iconst C dL_trim_1 ?_
  refine r_aload_n C dL_trim_2 rfl hl 0 rfl ?_
  refine r_iload_n C dL_trim_3 rfl hl 1 rfl ?_
  refine r_iload_n C dL_trim_4 rfl hl 2 rfl ?_
  refine r_wXI (As := [.int (jI p0), .int (jI p1)]) (rest := [.int (jI 0), .ref zo]) C hL hX (fun E' => cx_X10_trim l hst E' z hp0 hp1 h) jy_X10_trim rfl lk_L_64 dL_trim_5 rfl rfl hl.1 (Nat.le_of_ble_eq_true rfl) ⟨Nat.le_of_ble_eq_true rfl, Nat.le_of_ble_eq_true rfl⟩ ⟨Nat.le_of_ble_eq_true rfl, Nat.le_of_ble_eq_true rfl⟩ (fun ce q9 H locs hL g1 g2 g3 => ?_)
  refine r_catch1 C hX hex (by decide) (by decide) (by decide) wl_1 g1 g2 g3 ?_
  refine lv_astore C.1.1 C.1.2.1 dL_trim_13 hl (by decide) (lv' := [(4, .ref q9), (0, .ref (z + 0)), (1, .int (jI p0)), (2, .int (jI p1)), (3, .ref zo)]) rfl (fun ls hl => ?_)
  refine r_iconst C dL_trim_15 ?_
  exact r_wret C hL hr hlk ⟨by decide, by decide⟩ dL_trim_16 (Nat.le_of_ble_eq_true rfl) (Nat.le_of_ble_eq_true rfl)
set_option maxRecDepth 100000 in
set_option maxHeartbeats 4000000 in
theorem w2_trim (l : Launch) (hst : l.stackTraces = false) (E : jE) (z zo : Nat) (f : Nat → Int64) {p0 : Int} {p1 : Int} {M M' : Mem} (hp0 : inR p0) (hp1 : inR p1) (h : x_X10_trim p0 p1 M = some (2, M')) : CtW l yL_trim cL_trim 5 [(0, 10, 13, 27), (0, 10, 17, 18)] { frames := 8, cells := 1, slots := 6, locals := 145 } E z zo (outL E f) [.ref (z + 0), .int (jI p0), .int (jI p1), .ref zo] M 2 (outL E f) M' := by
  refine jmW (by decide +kernel) (Nat.le_of_ble_eq_true rfl) ?_
  intro p e sM m below meth c C hL hX hr hlk hml hex ls hl
  replace hl : lv_has ls 5 [(0, .ref (z + 0)), (1, .int (jI p0)), (2, .int (jI p1)), (3, .ref zo)] := hl
  refine r_aload_n C dL_trim_0 rfl hl 3 rfl ?_
  refine r_iconst C dL_trim_1 ?_
  refine r_aload_n C dL_trim_2 rfl hl 0 rfl ?_
  refine r_iload_n C dL_trim_3 rfl hl 1 rfl ?_
  refine r_iload_n C dL_trim_4 rfl hl 2 rfl ?_
  refine r_wXI (As := [.int (jI p0), .int (jI p1)]) (rest := [.int (jI 0), .ref zo]) C hL hX (fun E' => cx_X10_trim l hst E' z hp0 hp1 h) jy_X10_trim rfl lk_L_64 dL_trim_5 rfl rfl hl.1 (Nat.le_of_ble_eq_true rfl) ⟨Nat.le_of_ble_eq_true rfl, Nat.le_of_ble_eq_true rfl⟩ ⟨Nat.le_of_ble_eq_true rfl, Nat.le_of_ble_eq_true rfl⟩ (fun ce q9 H locs hL g1 g2 g3 => ?_)
  refine r_catch2 C hX hex (by decide) wl_1 hX.2.1 (by decide) (by decide) (by decide) wl_2 g1 g2 g3 ?_
  refine lv_astore C.1.1 C.1.2.1 dL_trim_17 hl (by decide) (lv' := [(4, .ref q9), (0, .ref (z + 0)), (1, .int (jI p0)), (2, .int (jI p1)), (3, .ref zo)]) rfl (fun ls hl => ?_)
  refine r_iconst C dL_trim_19 ?_
  exact r_wret C hL hr hlk ⟨by decide, by decide⟩ dL_trim_20 (Nat.le_of_ble_eq_true rfl) (Nat.le_of_ble_eq_true rfl)
set_option maxRecDepth 100000 in
set_option maxHeartbeats 4000000 in
theorem w_remove (l : Launch) (E : jE) (z zo : Nat) (f : Nat → Int64) {p0 : Int} {r : Int} {M M' : Mem} (hp0 : inR p0) (h : f_X10_remove p0 M = some (r, M')) : CtW l yL_remove cL_remove 4 [(0, 9, 12, 27)] { frames := 28, cells := 0, slots := 0, locals := 846 } E z zo (outL E f) [.ref (z + 0), .int (jI p0), .ref zo] M 0 (outL E (vp_updL f 0 (jI r).toInt64)) M' := by
  refine jmW (by decide +kernel) (Nat.le_of_ble_eq_true rfl) ?_
  intro p e sM m below meth c C hL hX hr hlk hml hex ls hl
  replace hl : lv_has ls 4 [(0, .ref (z + 0)), (1, .int (jI p0)), (2, .ref zo)] := hl
  refine r_aload_n C dL_remove_0 rfl hl 2 rfl ?_
  refine r_iconst C dL_remove_1 ?_
  refine r_aload_n C dL_remove_2 rfl hl 0 rfl ?_
  refine r_iload_n C dL_remove_3 rfl hl 1 rfl ?_
  refine r_wI (As := [.int (jI p0)]) (rest := [.int (jI 0), .ref zo]) C hL (fun E' => c_X10_remove l E' z hp0 h) jy_X10_remove rfl lk_L_67 dL_remove_4 rfl rfl hl.1 (Nat.le_of_ble_eq_true rfl) ⟨Nat.le_of_ble_eq_true rfl, Nat.le_of_ble_eq_true rfl⟩ ⟨rfl, rfl⟩ (fun H locs hrr hL => ?_)
  refine lv_i2l C.1.1 C.1.2.1 dL_remove_7 rfl ?_
  refine r_last C hL dL_remove_8 (fun H locs hL => ?_)
  refine r_goto C 15 dL_remove_9 (by decide) ?_
  refine r_iconst C dL_remove_15 ?_
  exact r_wret C hL hr hlk ⟨by decide, by decide⟩ dL_remove_16 (Nat.le_of_ble_eq_true rfl) (Nat.le_of_ble_eq_true rfl)
set_option maxRecDepth 100000 in
set_option maxHeartbeats 4000000 in
theorem w1_remove (l : Launch) (hst : l.stackTraces = false) (E : jE) (z zo : Nat) (f : Nat → Int64) {p0 : Int} {M M' : Mem} (hp0 : inR p0) (h : x_X10_remove p0 M = some (1, M')) : CtW l yL_remove cL_remove 4 [(0, 9, 12, 27)] { frames := 8, cells := 1, slots := 6, locals := 144 } E z zo (outL E f) [.ref (z + 0), .int (jI p0), .ref zo] M 1 (outL E f) M' := by
  refine jmW (by decide +kernel) (Nat.le_of_ble_eq_true rfl) ?_
  intro p e sM m below meth c C hL hX hr hlk hml hex ls hl
  replace hl : lv_has ls 4 [(0, .ref (z + 0)), (1, .int (jI p0)), (2, .ref zo)] := hl
  refine r_aload_n C dL_remove_0 rfl hl 2 rfl ?_
  refine r_iconst C dL_remove_1 ?_
  refine r_aload_n C dL_remove_2 rfl hl 0 rfl ?_
  refine r_iload_n C dL_remove_3 rfl hl 1 rfl ?_
  refine r_wXI (As := [.int (jI p0)]) (rest := [.int (jI 0), .ref zo]) C hL hX (fun E' => cx_X10_remove l hst E' z hp0 h) jy_X10_remove rfl lk_L_67 dL_remove_4 rfl rfl hl.1 (Nat.le_of_ble_eq_true rfl) ⟨Nat.le_of_ble_eq_true rfl, Nat.le_of_ble_eq_true rfl⟩ ⟨Nat.le_of_ble_eq_true rfl, Nat.le_of_ble_eq_true rfl⟩ (fun ce q9 H locs hL g1 g2 g3 => ?_)
  refine r_catch1 C hX hex (by decide) (by decide) (by decide) wl_1 g1 g2 g3 ?_
  refine lv_astore_n C.1.1 C.1.2.1 dL_remove_12 rfl hl (by decide) (lv' := [(3, .ref q9), (0, .ref (z + 0)), (1, .int (jI p0)), (2, .ref zo)]) rfl (fun ls hl => ?_)
  refine r_iconst C dL_remove_13 ?_
  exact r_wret C hL hr hlk ⟨by decide, by decide⟩ dL_remove_14 (Nat.le_of_ble_eq_true rfl) (Nat.le_of_ble_eq_true rfl)
set_option maxRecDepth 100000 in
set_option maxHeartbeats 4000000 in
theorem w_move (l : Launch) (E : jE) (z zo : Nat) (f : Nat → Int64) {p0 : Int} {p1 : Int} {r : Int} {M M' : Mem} (hp0 : inR p0) (hp1 : inR p1) (h : f_X10_move p0 p1 M = some (r, M')) : CtW l yL_move cL_move 5 [(0, 10, 13, 27)] { frames := 28, cells := 0, slots := 0, locals := 847 } E z zo (outL E f) [.ref (z + 0), .int (jI p0), .int (jI p1), .ref zo] M 0 (outL E (vp_updL f 0 (jI r).toInt64)) M' := by
  refine jmW (by decide +kernel) (Nat.le_of_ble_eq_true rfl) ?_
  intro p e sM m below meth c C hL hX hr hlk hml hex ls hl
  replace hl : lv_has ls 5 [(0, .ref (z + 0)), (1, .int (jI p0)), (2, .int (jI p1)), (3, .ref zo)] := hl
  refine r_aload_n C dL_move_0 rfl hl 3 rfl ?_
  refine r_iconst C dL_move_1 ?_
  refine r_aload_n C dL_move_2 rfl hl 0 rfl ?_
  refine r_iload_n C dL_move_3 rfl hl 1 rfl ?_
  refine r_iload_n C dL_move_4 rfl hl 2 rfl ?_
  refine r_wI (As := [.int (jI p0), .int (jI p1)]) (rest := [.int (jI 0), .ref zo]) C hL (fun E' => c_X10_move l E' z hp0 hp1 h) jy_X10_move rfl lk_L_70 dL_move_5 rfl rfl hl.1 (Nat.le_of_ble_eq_true rfl) ⟨Nat.le_of_ble_eq_true rfl, Nat.le_of_ble_eq_true rfl⟩ ⟨rfl, rfl⟩ (fun H locs hrr hL => ?_)
  refine lv_i2l C.1.1 C.1.2.1 dL_move_8 rfl ?_
  refine r_last C hL dL_move_9 (fun H locs hL => ?_)
  refine r_goto C 17 dL_move_10 (by decide) ?_
  refine r_iconst C dL_move_17 ?_
  exact r_wret C hL hr hlk ⟨by decide, by decide⟩ dL_move_18 (Nat.le_of_ble_eq_true rfl) (Nat.le_of_ble_eq_true rfl)
set_option maxRecDepth 100000 in
set_option maxHeartbeats 4000000 in
theorem w1_move (l : Launch) (hst : l.stackTraces = false) (E : jE) (z zo : Nat) (f : Nat → Int64) {p0 : Int} {p1 : Int} {M M' : Mem} (hp0 : inR p0) (hp1 : inR p1) (h : x_X10_move p0 p1 M = some (1, M')) : CtW l yL_move cL_move 5 [(0, 10, 13, 27)] { frames := 8, cells := 1, slots := 6, locals := 145 } E z zo (outL E f) [.ref (z + 0), .int (jI p0), .int (jI p1), .ref zo] M 1 (outL E f) M' := by
  refine jmW (by decide +kernel) (Nat.le_of_ble_eq_true rfl) ?_
  intro p e sM m below meth c C hL hX hr hlk hml hex ls hl
  replace hl : lv_has ls 5 [(0, .ref (z + 0)), (1, .int (jI p0)), (2, .int (jI p1)), (3, .ref zo)] := hl
  refine r_aload_n C dL_move_0 rfl hl 3 rfl ?_
  refine r_iconst C dL_move_1 ?_
  refine r_aload_n C dL_move_2 rfl hl 0 rfl ?_
  refine r_iload_n C dL_move_3 rfl hl 1 rfl ?_
  refine r_iload_n C dL_move_4 rfl hl 2 rfl ?_
  refine r_wXI (As := [.int (jI p0), .int (jI p1)]) (rest := [.int (jI 0), .ref zo]) C hL hX (fun E' => cx_X10_move l hst E' z hp0 hp1 h) jy_X10_move rfl lk_L_70 dL_move_5 rfl rfl hl.1 (Nat.le_of_ble_eq_true rfl) ⟨Nat.le_of_ble_eq_true rfl, Nat.le_of_ble_eq_true rfl⟩ ⟨Nat.le_of_ble_eq_true rfl, Nat.le_of_ble_eq_true rfl⟩ (fun ce q9 H locs hL g1 g2 g3 => ?_)
  refine r_catch1 C hX hex (by decide) (by decide) (by decide) wl_1 g1 g2 g3 ?_
  refine lv_astore C.1.1 C.1.2.1 dL_move_13 hl (by decide) (lv' := [(4, .ref q9), (0, .ref (z + 0)), (1, .int (jI p0)), (2, .int (jI p1)), (3, .ref zo)]) rfl (fun ls hl => ?_)
  refine r_iconst C dL_move_15 ?_
  exact r_wret C hL hr hlk ⟨by decide, by decide⟩ dL_move_16 (Nat.le_of_ble_eq_true rfl) (Nat.le_of_ble_eq_true rfl)
set_option maxRecDepth 100000 in
set_option maxHeartbeats 4000000 in
theorem w_setWeek (l : Launch) (E : jE) (z zo : Nat) (f : Nat → Int64) {p0 : Int} {r : Int} {M M' : Mem} (hp0 : inR p0) (h : f_X10_setWeek p0 M = some (r, M')) : CtW l yL_setWeek cL_setWeek 4 [(0, 9, 12, 18)] { frames := 28, cells := 0, slots := 0, locals := 844 } E z zo (outL E f) [.ref (z + 0), .int (jI p0), .ref zo] M 0 (outL E (vp_updL f 0 (jI r).toInt64)) M' := by
  refine jmW (by decide +kernel) (Nat.le_of_ble_eq_true rfl) ?_
  intro p e sM m below meth c C hL hX hr hlk hml hex ls hl
  replace hl : lv_has ls 4 [(0, .ref (z + 0)), (1, .int (jI p0)), (2, .ref zo)] := hl
  refine r_aload_n C dL_setWeek_0 rfl hl 2 rfl ?_
  refine r_iconst C dL_setWeek_1 ?_
  refine r_aload_n C dL_setWeek_2 rfl hl 0 rfl ?_
  refine r_iload_n C dL_setWeek_3 rfl hl 1 rfl ?_
  refine r_wI (As := [.int (jI p0)]) (rest := [.int (jI 0), .ref zo]) C hL (fun E' => c_X10_setWeek l E' z hp0 h) jy_X10_setWeek rfl lk_L_73 dL_setWeek_4 rfl rfl hl.1 (Nat.le_of_ble_eq_true rfl) ⟨Nat.le_of_ble_eq_true rfl, Nat.le_of_ble_eq_true rfl⟩ ⟨rfl, rfl⟩ (fun H locs hrr hL => ?_)
  refine lv_i2l C.1.1 C.1.2.1 dL_setWeek_7 rfl ?_
  refine r_last C hL dL_setWeek_8 (fun H locs hL => ?_)
  refine r_goto C 15 dL_setWeek_9 (by decide) ?_
  refine r_iconst C dL_setWeek_15 ?_
  exact r_wret C hL hr hlk ⟨by decide, by decide⟩ dL_setWeek_16 (Nat.le_of_ble_eq_true rfl) (Nat.le_of_ble_eq_true rfl)
set_option maxRecDepth 100000 in
set_option maxHeartbeats 4000000 in
theorem w1_setWeek (l : Launch) (hst : l.stackTraces = false) (E : jE) (z zo : Nat) (f : Nat → Int64) {p0 : Int} {M M' : Mem} (hp0 : inR p0) (h : x_X10_setWeek p0 M = some (2, M')) : CtW l yL_setWeek cL_setWeek 4 [(0, 9, 12, 18)] { frames := 9, cells := 1, slots := 6, locals := 164 } E z zo (outL E f) [.ref (z + 0), .int (jI p0), .ref zo] M 1 (outL E f) M' := by
  refine jmW (by decide +kernel) (Nat.le_of_ble_eq_true rfl) ?_
  intro p e sM m below meth c C hL hX hr hlk hml hex ls hl
  replace hl : lv_has ls 4 [(0, .ref (z + 0)), (1, .int (jI p0)), (2, .ref zo)] := hl
  refine r_aload_n C dL_setWeek_0 rfl hl 2 rfl ?_
  refine r_iconst C dL_setWeek_1 ?_
  refine r_aload_n C dL_setWeek_2 rfl hl 0 rfl ?_
  refine r_iload_n C dL_setWeek_3 rfl hl 1 rfl ?_
  refine r_wXI (As := [.int (jI p0)]) (rest := [.int (jI 0), .ref zo]) C hL hX (fun E' => cx_X10_setWeek l hst E' z hp0 h) jy_X10_setWeek rfl lk_L_73 dL_setWeek_4 rfl rfl hl.1 (Nat.le_of_ble_eq_true rfl) ⟨Nat.le_of_ble_eq_true rfl, Nat.le_of_ble_eq_true rfl⟩ ⟨Nat.le_of_ble_eq_true rfl, Nat.le_of_ble_eq_true rfl⟩ (fun ce q9 H locs hL g1 g2 g3 => ?_)
  refine r_catch1 C hX hex (by decide) (by decide) (by decide) wl_2 g1 g2 g3 ?_
  refine lv_astore_n C.1.1 C.1.2.1 dL_setWeek_12 rfl hl (by decide) (lv' := [(3, .ref q9), (0, .ref (z + 0)), (1, .int (jI p0)), (2, .ref zo)]) rfl (fun ls hl => ?_)
  refine r_iconst C dL_setWeek_13 ?_
  exact r_wret C hL hr hlk ⟨by decide, by decide⟩ dL_setWeek_14 (Nat.le_of_ble_eq_true rfl) (Nat.le_of_ble_eq_true rfl)
set_option maxRecDepth 100000 in
set_option maxHeartbeats 4000000 in
theorem w_setVoice (l : Launch) (E : jE) (z zo : Nat) (f : Nat → Int64) {p0 : Int} {p1 : Int} {r : Int} {M M' : Mem} (hp0 : inR p0) (hp1 : inR p1) (h : f_X10_setVoice p0 p1 M = some (r, M')) : CtW l yL_setVoice cL_setVoice 5 [(0, 10, 13, 18)] { frames := 28, cells := 0, slots := 0, locals := 845 } E z zo (outL E f) [.ref (z + 0), .int (jI p0), .int (jI p1), .ref zo] M 0 (outL E (vp_updL f 0 (jI r).toInt64)) M' := by
  refine jmW (by decide +kernel) (Nat.le_of_ble_eq_true rfl) ?_
  intro p e sM m below meth c C hL hX hr hlk hml hex ls hl
  replace hl : lv_has ls 5 [(0, .ref (z + 0)), (1, .int (jI p0)), (2, .int (jI p1)), (3, .ref zo)] := hl
  refine r_aload_n C dL_setVoice_0 rfl hl 3 rfl ?_
  refine r_iconst C dL_setVoice_1 ?_
  refine r_aload_n C dL_setVoice_2 rfl hl 0 rfl ?_
  refine r_iload_n C dL_setVoice_3 rfl hl 1 rfl ?_
  refine r_iload_n C dL_setVoice_4 rfl hl 2 rfl ?_
  refine r_wI (As := [.int (jI p0), .int (jI p1)]) (rest := [.int (jI 0), .ref zo]) C hL (fun E' => c_X10_setVoice l E' z hp0 hp1 h) jy_X10_setVoice rfl lk_L_76 dL_setVoice_5 rfl rfl hl.1 (Nat.le_of_ble_eq_true rfl) ⟨Nat.le_of_ble_eq_true rfl, Nat.le_of_ble_eq_true rfl⟩ ⟨rfl, rfl⟩ (fun H locs hrr hL => ?_)
  refine lv_i2l C.1.1 C.1.2.1 dL_setVoice_8 rfl ?_
  refine r_last C hL dL_setVoice_9 (fun H locs hL => ?_)
  refine r_goto C 17 dL_setVoice_10 (by decide) ?_
  refine r_iconst C dL_setVoice_17 ?_
  exact r_wret C hL hr hlk ⟨by decide, by decide⟩ dL_setVoice_18 (Nat.le_of_ble_eq_true rfl) (Nat.le_of_ble_eq_true rfl)
set_option maxRecDepth 100000 in
set_option maxHeartbeats 4000000 in
theorem w1_setVoice (l : Launch) (hst : l.stackTraces = false) (E : jE) (z zo : Nat) (f : Nat → Int64) {p0 : Int} {p1 : Int} {M M' : Mem} (hp0 : inR p0) (hp1 : inR p1) (h : x_X10_setVoice p0 p1 M = some (2, M')) : CtW l yL_setVoice cL_setVoice 5 [(0, 10, 13, 18)] { frames := 9, cells := 1, slots := 6, locals := 165 } E z zo (outL E f) [.ref (z + 0), .int (jI p0), .int (jI p1), .ref zo] M 1 (outL E f) M' := by
  refine jmW (by decide +kernel) (Nat.le_of_ble_eq_true rfl) ?_
  intro p e sM m below meth c C hL hX hr hlk hml hex ls hl
  replace hl : lv_has ls 5 [(0, .ref (z + 0)), (1, .int (jI p0)), (2, .int (jI p1)), (3, .ref zo)] := hl
  refine r_aload_n C dL_setVoice_0 rfl hl 3 rfl ?_
  refine r_iconst C dL_setVoice_1 ?_
  refine r_aload_n C dL_setVoice_2 rfl hl 0 rfl ?_
  refine r_iload_n C dL_setVoice_3 rfl hl 1 rfl ?_
  refine r_iload_n C dL_setVoice_4 rfl hl 2 rfl ?_
  refine r_wXI (As := [.int (jI p0), .int (jI p1)]) (rest := [.int (jI 0), .ref zo]) C hL hX (fun E' => cx_X10_setVoice l hst E' z hp0 hp1 h) jy_X10_setVoice rfl lk_L_76 dL_setVoice_5 rfl rfl hl.1 (Nat.le_of_ble_eq_true rfl) ⟨Nat.le_of_ble_eq_true rfl, Nat.le_of_ble_eq_true rfl⟩ ⟨Nat.le_of_ble_eq_true rfl, Nat.le_of_ble_eq_true rfl⟩ (fun ce q9 H locs hL g1 g2 g3 => ?_)
  refine r_catch1 C hX hex (by decide) (by decide) (by decide) wl_2 g1 g2 g3 ?_
  refine lv_astore C.1.1 C.1.2.1 dL_setVoice_13 hl (by decide) (lv' := [(4, .ref q9), (0, .ref (z + 0)), (1, .int (jI p0)), (2, .int (jI p1)), (3, .ref zo)]) rfl (fun ls hl => ?_)
  refine r_iconst C dL_setVoice_15 ?_
  exact r_wret C hL hr hlk ⟨by decide, by decide⟩ dL_setVoice_16 (Nat.le_of_ble_eq_true rfl) (Nat.le_of_ble_eq_true rfl)
set_option maxRecDepth 100000 in
set_option maxHeartbeats 4000000 in
theorem w_setSlack (l : Launch) (E : jE) (z zo : Nat) (f : Nat → Int64) {p0 : Int} {r : Int} {M M' : Mem} (hp0 : inR p0) (h : f_X10_setSlack p0 M = some (r, M')) : CtW l yL_setSlack cL_setSlack 4 [(0, 9, 12, 18)] { frames := 28, cells := 0, slots := 0, locals := 845 } E z zo (outL E f) [.ref (z + 0), .int (jI p0), .ref zo] M 0 (outL E (vp_updL f 0 (jI r).toInt64)) M' := by
  refine jmW (by decide +kernel) (Nat.le_of_ble_eq_true rfl) ?_
  intro p e sM m below meth c C hL hX hr hlk hml hex ls hl
  replace hl : lv_has ls 4 [(0, .ref (z + 0)), (1, .int (jI p0)), (2, .ref zo)] := hl
  refine r_aload_n C dL_setSlack_0 rfl hl 2 rfl ?_
  refine r_iconst C dL_setSlack_1 ?_
  refine r_aload_n C dL_setSlack_2 rfl hl 0 rfl ?_
  refine r_iload_n C dL_setSlack_3 rfl hl 1 rfl ?_
  refine r_wI (As := [.int (jI p0)]) (rest := [.int (jI 0), .ref zo]) C hL (fun E' => c_X10_setSlack l E' z hp0 h) jy_X10_setSlack rfl lk_L_79 dL_setSlack_4 rfl rfl hl.1 (Nat.le_of_ble_eq_true rfl) ⟨Nat.le_of_ble_eq_true rfl, Nat.le_of_ble_eq_true rfl⟩ ⟨rfl, rfl⟩ (fun H locs hrr hL => ?_)
  refine lv_i2l C.1.1 C.1.2.1 dL_setSlack_7 rfl ?_
  refine r_last C hL dL_setSlack_8 (fun H locs hL => ?_)
  refine r_goto C 15 dL_setSlack_9 (by decide) ?_
  refine r_iconst C dL_setSlack_15 ?_
  exact r_wret C hL hr hlk ⟨by decide, by decide⟩ dL_setSlack_16 (Nat.le_of_ble_eq_true rfl) (Nat.le_of_ble_eq_true rfl)
set_option maxRecDepth 100000 in
set_option maxHeartbeats 4000000 in
theorem w1_setSlack (l : Launch) (hst : l.stackTraces = false) (E : jE) (z zo : Nat) (f : Nat → Int64) {p0 : Int} {M M' : Mem} (hp0 : inR p0) (h : x_X10_setSlack p0 M = some (2, M')) : CtW l yL_setSlack cL_setSlack 4 [(0, 9, 12, 18)] { frames := 9, cells := 1, slots := 6, locals := 165 } E z zo (outL E f) [.ref (z + 0), .int (jI p0), .ref zo] M 1 (outL E f) M' := by
  refine jmW (by decide +kernel) (Nat.le_of_ble_eq_true rfl) ?_
  intro p e sM m below meth c C hL hX hr hlk hml hex ls hl
  replace hl : lv_has ls 4 [(0, .ref (z + 0)), (1, .int (jI p0)), (2, .ref zo)] := hl
  refine r_aload_n C dL_setSlack_0 rfl hl 2 rfl ?_
  refine r_iconst C dL_setSlack_1 ?_
  refine r_aload_n C dL_setSlack_2 rfl hl 0 rfl ?_
  refine r_iload_n C dL_setSlack_3 rfl hl 1 rfl ?_
  refine r_wXI (As := [.int (jI p0)]) (rest := [.int (jI 0), .ref zo]) C hL hX (fun E' => cx_X10_setSlack l hst E' z hp0 h) jy_X10_setSlack rfl lk_L_79 dL_setSlack_4 rfl rfl hl.1 (Nat.le_of_ble_eq_true rfl) ⟨Nat.le_of_ble_eq_true rfl, Nat.le_of_ble_eq_true rfl⟩ ⟨Nat.le_of_ble_eq_true rfl, Nat.le_of_ble_eq_true rfl⟩ (fun ce q9 H locs hL g1 g2 g3 => ?_)
  refine r_catch1 C hX hex (by decide) (by decide) (by decide) wl_2 g1 g2 g3 ?_
  refine lv_astore_n C.1.1 C.1.2.1 dL_setSlack_12 rfl hl (by decide) (lv' := [(3, .ref q9), (0, .ref (z + 0)), (1, .int (jI p0)), (2, .ref zo)]) rfl (fun ls hl => ?_)
  refine r_iconst C dL_setSlack_13 ?_
  exact r_wret C hL hr hlk ⟨by decide, by decide⟩ dL_setSlack_14 (Nat.le_of_ble_eq_true rfl) (Nat.le_of_ble_eq_true rfl)
set_option maxRecDepth 100000 in
set_option maxHeartbeats 4000000 in
theorem w_save (l : Launch) (E : jE) (z zo : Nat) (x : va_E) {p0 : Int} {M M' : Mem} (hp0 : inR p0) (h : f_X10_save p0 M = some M') : CtW l yL_save cL_save 3 [(0, 5, 8, 18)] { frames := 4, cells := 0, slots := 0, locals := 81 } E z zo x [.ref (z + 0), .int (jI p0)] M 0 x M' := by
  refine jmW (by decide +kernel) (Nat.le_of_ble_eq_true rfl) ?_
  intro p e sM m below meth c C hL hX hr hlk hml hex ls hl
  replace hl : lv_has ls 3 [(0, .ref (z + 0)), (1, .int (jI p0))] := hl
  refine r_aload_n C dL_save_0 rfl hl 0 rfl ?_
  refine r_iload_n C dL_save_1 rfl hl 1 rfl ?_
  refine r_wV (As := [.int (jI p0)]) (rest := []) C hL (fun E' => c_X10_save l E' z hp0 h) jy_X10_save rfl lk_L_82 dL_save_2 rfl rfl hl.1 (Nat.le_of_ble_eq_true rfl) ⟨Nat.le_of_ble_eq_true rfl, Nat.le_of_ble_eq_true rfl⟩ ⟨rfl, rfl⟩ (fun H locs hL => ?_)
  refine r_goto C 11 dL_save_5 (by decide) ?_
  refine r_iconst C dL_save_11 ?_
  exact r_wret C hL hr hlk ⟨by decide, by decide⟩ dL_save_12 (Nat.le_of_ble_eq_true rfl) (Nat.le_of_ble_eq_true rfl)
set_option maxRecDepth 100000 in
set_option maxHeartbeats 4000000 in
theorem w1_save (l : Launch) (hst : l.stackTraces = false) (E : jE) (z zo : Nat) (x : va_E) {p0 : Int} {M M' : Mem} (hp0 : inR p0) (h : x_X10_save p0 M = some (2, M')) : CtW l yL_save cL_save 3 [(0, 5, 8, 18)] { frames := 8, cells := 1, slots := 6, locals := 143 } E z zo x [.ref (z + 0), .int (jI p0)] M 1 x M' := by
  refine jmW (by decide +kernel) (Nat.le_of_ble_eq_true rfl) ?_
  intro p e sM m below meth c C hL hX hr hlk hml hex ls hl
  replace hl : lv_has ls 3 [(0, .ref (z + 0)), (1, .int (jI p0))] := hl
  refine r_aload_n C dL_save_0 rfl hl 0 rfl ?_
  refine r_iload_n C dL_save_1 rfl hl 1 rfl ?_
  refine r_wXV (As := [.int (jI p0)]) (rest := []) C hL hX (fun E' => cx_X10_save l hst E' z hp0 h) jy_X10_save rfl lk_L_82 dL_save_2 rfl rfl hl.1 (Nat.le_of_ble_eq_true rfl) ⟨Nat.le_of_ble_eq_true rfl, Nat.le_of_ble_eq_true rfl⟩ ⟨Nat.le_of_ble_eq_true rfl, Nat.le_of_ble_eq_true rfl⟩ (fun ce q9 H locs hL g1 g2 g3 => ?_)
  refine r_catch1 C hX hex (by decide) (by decide) (by decide) wl_2 g1 g2 g3 ?_
  refine lv_astore_n C.1.1 C.1.2.1 dL_save_8 rfl hl (by decide) (lv' := [(2, .ref q9), (0, .ref (z + 0)), (1, .int (jI p0))]) rfl (fun ls hl => ?_)
  refine r_iconst C dL_save_9 ?_
  exact r_wret C hL hr hlk ⟨by decide, by decide⟩ dL_save_10 (Nat.le_of_ble_eq_true rfl) (Nat.le_of_ble_eq_true rfl)
set_option maxRecDepth 100000 in
set_option maxHeartbeats 4000000 in
theorem w_restore (l : Launch) (E : jE) (z zo : Nat) (x : va_E) {p0 : Int} {M M' : Mem} (hp0 : inR p0) (h : f_X10_restore p0 M = some M') : CtW l yL_restore cL_restore 3 [(0, 5, 8, 18), (0, 5, 11, 13)] { frames := 28, cells := 0, slots := 0, locals := 844 } E z zo x [.ref (z + 0), .int (jI p0)] M 0 x M' := by
  refine jmW (by decide +kernel) (Nat.le_of_ble_eq_true rfl) ?_
  intro p e sM m below meth c C hL hX hr hlk hml hex ls hl
  replace hl : lv_has ls 3 [(0, .ref (z + 0)), (1, .int (jI p0))] := hl
  refine r_aload_n C dL_restore_0 rfl hl 0 rfl ?_
  refine r_iload_n C dL_restore_1 rfl hl 1 rfl ?_
  refine r_wV (As := [.int (jI p0)]) (rest := []) C hL (fun E' => c_X10_restore l E' z hp0 h) jy_X10_restore rfl lk_L_86 dL_restore_2 rfl rfl hl.1 (Nat.le_of_ble_eq_true rfl) ⟨Nat.le_of_ble_eq_true rfl, Nat.le_of_ble_eq_true rfl⟩ ⟨rfl, rfl⟩ (fun H locs hL => ?_)
  refine r_goto C 14 dL_restore_5 (by decide) ?_
  refine r_iconst C dL_restore_14 ?_
  exact r_wret C hL hr hlk ⟨by decide, by decide⟩ dL_restore_15 (Nat.le_of_ble_eq_true rfl) (Nat.le_of_ble_eq_true rfl)
set_option maxRecDepth 100000 in
set_option maxHeartbeats 4000000 in
theorem w1_restore (l : Launch) (hst : l.stackTraces = false) (E : jE) (z zo : Nat) (x : va_E) {p0 : Int} {M M' : Mem} (hp0 : inR p0) (h : x_X10_restore p0 M = some (2, M')) : CtW l yL_restore cL_restore 3 [(0, 5, 8, 18), (0, 5, 11, 13)] { frames := 8, cells := 1, slots := 6, locals := 143 } E z zo x [.ref (z + 0), .int (jI p0)] M 1 x M' := by
  refine jmW (by decide +kernel) (Nat.le_of_ble_eq_true rfl) ?_
  intro p e sM m below meth c C hL hX hr hlk hml hex ls hl
  replace hl : lv_has ls 3 [(0, .ref (z + 0)), (1, .int (jI p0))] := hl
  refine r_aload_n C dL_restore_0 rfl hl 0 rfl ?_
  refine r_iload_n C dL_restore_1 rfl hl 1 rfl ?_
  refine r_wXV (As := [.int (jI p0)]) (rest := []) C hL hX (fun E' => cx_X10_restore l hst E' z hp0 h) jy_X10_restore rfl lk_L_86 dL_restore_2 rfl rfl hl.1 (Nat.le_of_ble_eq_true rfl) ⟨Nat.le_of_ble_eq_true rfl, Nat.le_of_ble_eq_true rfl⟩ ⟨Nat.le_of_ble_eq_true rfl, Nat.le_of_ble_eq_true rfl⟩ (fun ce q9 H locs hL g1 g2 g3 => ?_)
  refine r_catch1 C hX hex (by decide) (by decide) (by decide) wl_2 g1 g2 g3 ?_
  refine lv_astore_n C.1.1 C.1.2.1 dL_restore_8 rfl hl (by decide) (lv' := [(2, .ref q9), (0, .ref (z + 0)), (1, .int (jI p0))]) rfl (fun ls hl => ?_)
  refine r_iconst C dL_restore_9 ?_
  exact r_wret C hL hr hlk ⟨by decide, by decide⟩ dL_restore_10 (Nat.le_of_ble_eq_true rfl) (Nat.le_of_ble_eq_true rfl)
set_option maxRecDepth 100000 in
set_option maxHeartbeats 4000000 in
theorem w2_restore (l : Launch) (hst : l.stackTraces = false) (E : jE) (z zo : Nat) (x : va_E) {p0 : Int} {M M' : Mem} (hp0 : inR p0) (h : x_X10_restore p0 M = some (3, M')) : CtW l yL_restore cL_restore 3 [(0, 5, 8, 18), (0, 5, 11, 13)] { frames := 8, cells := 1, slots := 6, locals := 143 } E z zo x [.ref (z + 0), .int (jI p0)] M 2 x M' := by
  refine jmW (by decide +kernel) (Nat.le_of_ble_eq_true rfl) ?_
  intro p e sM m below meth c C hL hX hr hlk hml hex ls hl
  replace hl : lv_has ls 3 [(0, .ref (z + 0)), (1, .int (jI p0))] := hl
  refine r_aload_n C dL_restore_0 rfl hl 0 rfl ?_
  refine r_iload_n C dL_restore_1 rfl hl 1 rfl ?_
  refine r_wXV (As := [.int (jI p0)]) (rest := []) C hL hX (fun E' => cx_X10_restore l hst E' z hp0 h) jy_X10_restore rfl lk_L_86 dL_restore_2 rfl rfl hl.1 (Nat.le_of_ble_eq_true rfl) ⟨Nat.le_of_ble_eq_true rfl, Nat.le_of_ble_eq_true rfl⟩ ⟨Nat.le_of_ble_eq_true rfl, Nat.le_of_ble_eq_true rfl⟩ (fun ce q9 H locs hL g1 g2 g3 => ?_)
  refine r_catch2 C hX hex (by decide) wl_2 hX.2.2 (by decide) (by decide) (by decide) wl_3 g1 g2 g3 ?_
  refine lv_astore_n C.1.1 C.1.2.1 dL_restore_11 rfl hl (by decide) (lv' := [(2, .ref q9), (0, .ref (z + 0)), (1, .int (jI p0))]) rfl (fun ls hl => ?_)
  refine r_iconst C dL_restore_12 ?_
  exact r_wret C hL hr hlk ⟨by decide, by decide⟩ dL_restore_13 (Nat.le_of_ble_eq_true rfl) (Nat.le_of_ble_eq_true rfl)
