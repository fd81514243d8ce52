/-! ===== the law's words are the tables' ===== -/
set_option maxRecDepth 20000 in
theorem wsL_law_r7_in : ∀ w ∈ wsL_law_r7, w ∈ lw_tbl := fun w h => (goodIn_p wsL_law_r7 [246, 250, 254, 282, 287] (by decide +kernel) (by decide +kernel) w h).1
set_option maxRecDepth 20000 in
theorem wsL_law_r8_in : ∀ w ∈ wsL_law_r8, w ∈ lw_tbl := fun w h => (goodIn_p wsL_law_r8 [291, 296, 300, 304, 308, 312] (by decide +kernel) (by decide +kernel) w h).1
set_option maxRecDepth 20000 in
theorem wsL_law_r9_in : ∀ w ∈ wsL_law_r9, w ∈ lw_tbl := fun w h => (goodIn_p wsL_law_r9 [315, 318, 325, 329, 333] (by decide +kernel) (by decide +kernel) w h).1
set_option maxRecDepth 20000 in
theorem wsL_law_r10_in : ∀ w ∈ wsL_law_r10, w ∈ lw_tbl := fun w h => (goodIn_p wsL_law_r10 [337, 341, 346, 350, 353, 357] (by decide +kernel) (by decide +kernel) w h).1
set_option maxRecDepth 20000 in
theorem wsL_law_r11_in : ∀ w ∈ wsL_law_r11, w ∈ lw_tbl := fun w h => (goodIn_p wsL_law_r11 [360, 363, 259, 263, 266, 270, 274] (by decide +kernel) (by decide +kernel) w h).1
set_option maxRecDepth 100000 in
theorem wsL_law_r12_w0 : Cond.instanceMethod yX5_setHomeOf ∈ lw_tbl := by decide +kernel
set_option maxRecDepth 100000 in
theorem wsL_law_r12_w1 : Cond.selects RX5 yX5_setHomeOf yX5_setHomeOf ∈ lw_tbl := by decide +kernel
set_option maxRecDepth 100000 in
theorem wsL_law_r12_w2 : Cond.code yX5_setHomeOf cX5_setHomeOf 3 none ∈ lw_tbl := List.mem_of_getElem? (i := 278) rfl
set_option maxRecDepth 100000 in
theorem wsL_law_r12_w3 : Cond.methodLink RL 112 yL_isSo ∈ lw_tbl := by decide +kernel
set_option maxRecDepth 100000 in
theorem wsL_law_r12_w4 : Cond.static yL_isSo ∈ lw_tbl := by decide +kernel
set_option maxRecDepth 100000 in
theorem wsL_law_r12_w5 : Cond.code yL_isSo cL_isSo 20 (some .boolean) ∈ lw_tbl := List.mem_of_getElem? (i := 375) rfl
set_option maxRecDepth 100000 in
theorem wsL_law_r12_w6 : Cond.methodLink RL 27 yX7_count ∈ lw_tbl := by decide +kernel
set_option maxRecDepth 100000 in
theorem wsL_law_r12_w7 : Cond.instanceMethod yX7_count ∈ lw_tbl := by decide +kernel
set_option maxRecDepth 100000 in
theorem wsL_law_r12_w8 : Cond.selects RX7 yX7_count yX7_count ∈ lw_tbl := by decide +kernel
set_option maxRecDepth 100000 in
theorem wsL_law_r12_w9 : Cond.code yX7_count cX7_count 2 (some .int) ∈ lw_tbl := List.mem_of_getElem? (i := 379) rfl
set_option maxRecDepth 100000 in
theorem wsL_law_r12_w10 : Cond.methodLink RX7 117 yX5_writtenCount ∈ lw_tbl := by decide +kernel
set_option maxRecDepth 100000 in
theorem wsL_law_r12_w11 : Cond.instanceMethod yX5_writtenCount ∈ lw_tbl := by decide +kernel
set_option maxRecDepth 100000 in
theorem wsL_law_r12_w12 : Cond.selects RX5 yX5_writtenCount yX5_writtenCount ∈ lw_tbl := by decide +kernel
set_option maxRecDepth 100000 in
theorem wsL_law_r12_w13 : Cond.code yX5_writtenCount cX5_writtenCount 3 (some .int) ∈ lw_tbl := List.mem_of_getElem? (i := 383) rfl
set_option maxRecDepth 100000 in
theorem wsL_law_r12_w14 : Cond.methodLink RX5 93 yX5_writtenOf ∈ lw_tbl := by decide +kernel
set_option maxRecDepth 100000 in
theorem wsL_law_r12_w15 : Cond.methodLink RX7 132 yX1_savedCount ∈ lw_tbl := by decide +kernel
set_option maxRecDepth 100000 in
theorem wsL_law_r12_w16 : Cond.instanceMethod yX1_savedCount ∈ lw_tbl := by decide +kernel
set_option maxRecDepth 100000 in
theorem wsL_law_r12_w17 : Cond.selects RX1 yX1_savedCount yX1_savedCount ∈ lw_tbl := by decide +kernel
set_option maxRecDepth 100000 in
theorem wsL_law_r12_w18 : Cond.code yX1_savedCount cX1_savedCount 1 (some .int) ∈ lw_tbl := List.mem_of_getElem? (i := 388) rfl
set_option maxRecDepth 100000 in
theorem wsL_law_r12_w19 : Cond.methodLink RL 9 yL_serve ∈ lw_tbl := by decide +kernel
set_option maxRecDepth 100000 in
theorem wsL_law_r12_w20 : Cond.static yL_serve ∈ lw_tbl := by decide +kernel
set_option maxRecDepth 100000 in
theorem wsL_law_r12_w21 : Cond.code yL_serve cL_serve 9 none ∈ lw_tbl := List.mem_of_getElem? (i := 391) rfl
set_option maxRecDepth 100000 in
theorem wsL_law_r12_w22 : Cond.methodLink RL 33 yX7_served ∈ lw_tbl := by decide +kernel
set_option maxRecDepth 100000 in
theorem wsL_law_r12_w23 : Cond.instanceMethod yX7_served ∈ lw_tbl := by decide +kernel
theorem wsL_law_r12_in : ∀ w ∈ wsL_law_r12, w ∈ lw_tbl := List.forall_mem_cons.mpr ⟨wsL_law_r12_w0, List.forall_mem_cons.mpr ⟨wsL_law_r12_w1, List.forall_mem_cons.mpr ⟨wsL_law_r12_w2, List.forall_mem_cons.mpr ⟨wsL_law_r12_w3, List.forall_mem_cons.mpr ⟨wsL_law_r12_w4, List.forall_mem_cons.mpr ⟨wsL_law_r12_w5, List.forall_mem_cons.mpr ⟨wsL_law_r12_w6, List.forall_mem_cons.mpr ⟨wsL_law_r12_w7, List.forall_mem_cons.mpr ⟨wsL_law_r12_w8, List.forall_mem_cons.mpr ⟨wsL_law_r12_w9, List.forall_mem_cons.mpr ⟨wsL_law_r12_w10, List.forall_mem_cons.mpr ⟨wsL_law_r12_w11, List.forall_mem_cons.mpr ⟨wsL_law_r12_w12, List.forall_mem_cons.mpr ⟨wsL_law_r12_w13, List.forall_mem_cons.mpr ⟨wsL_law_r12_w14, List.forall_mem_cons.mpr ⟨wsL_law_r12_w15, List.forall_mem_cons.mpr ⟨wsL_law_r12_w16, List.forall_mem_cons.mpr ⟨wsL_law_r12_w17, List.forall_mem_cons.mpr ⟨wsL_law_r12_w18, List.forall_mem_cons.mpr ⟨wsL_law_r12_w19, List.forall_mem_cons.mpr ⟨wsL_law_r12_w20, List.forall_mem_cons.mpr ⟨wsL_law_r12_w21, List.forall_mem_cons.mpr ⟨wsL_law_r12_w22, List.forall_mem_cons.mpr ⟨wsL_law_r12_w23, fun _ h => absurd h List.not_mem_nil⟩⟩⟩⟩⟩⟩⟩⟩⟩⟩⟩⟩⟩⟩⟩⟩⟩⟩⟩⟩⟩⟩⟩⟩
