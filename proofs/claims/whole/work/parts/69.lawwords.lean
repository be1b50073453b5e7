/-! words of the law itself -/
set_option maxRecDepth 100000 in
theorem lq_inX8 : Cond.instantiable RX8 3 ∈ hz_T := hz_mT 73 (by decide +kernel) (by decide +kernel)
set_option maxRecDepth 100000 in
theorem lq_inX9 : Cond.instantiable RX9 35 ∈ hz_T := hz_mT 657 (by decide +kernel) (by decide +kernel)
set_option maxRecDepth 100000 in
theorem lq_cl7 : Cond.classLink RL 7 RX8 ∈ hz_T := hz_mT 72 (by decide +kernel) (by decide +kernel)
set_option maxRecDepth 100000 in
theorem lq_ml15 : Cond.methodLink RL 15 yX8_init ∈ hz_T := hz_mT 74 (by decide +kernel) (by decide +kernel)
set_option maxRecDepth 100000 in
theorem lq_ml21 : Cond.methodLink RL 21 yX8_submit ∈ hz_T := hz_mT 281 (by decide +kernel) (by decide +kernel)
set_option maxRecDepth 100000 in
theorem lq_ml26 : Cond.methodLink RL 26 yX8_deliver ∈ hz_T := hz_mT 432 (by decide +kernel) (by decide +kernel)
set_option maxRecDepth 100000 in
theorem lq_ml30 : Cond.methodLink RL 30 yX8_suspect ∈ hz_T := hz_mT 583 (by decide +kernel) (by decide +kernel)
set_option maxRecDepth 100000 in
theorem lq_ml34 : Cond.methodLink RL 34 yX8_crash ∈ hz_T := hz_mT 596 (by decide +kernel) (by decide +kernel)
set_option maxRecDepth 100000 in
theorem lq_ml39 : Cond.methodLink RL 39 yX8_timeout ∈ hz_T := hz_mT 600 (by decide +kernel) (by decide +kernel)
set_option maxRecDepth 100000 in
theorem lq_ml44 : Cond.methodLink RL 44 yX8_node ∈ hz_T := hz_mT 608 (by decide +kernel) (by decide +kernel)
set_option maxRecDepth 100000 in
theorem lq_ml48 : Cond.methodLink RL 48 yX8_held ∈ hz_T := hz_mT 616 (by decide +kernel) (by decide +kernel)
set_option maxRecDepth 100000 in
theorem lq_ml52 : Cond.methodLink RL 52 yX8_depth ∈ hz_T := hz_mT 621 (by decide +kernel) (by decide +kernel)
set_option maxRecDepth 100000 in
theorem lq_ml56 : Cond.methodLink RL 56 yX8_top ∈ hz_T := hz_mT 625 (by decide +kernel) (by decide +kernel)
set_option maxRecDepth 100000 in
theorem lq_ml60 : Cond.methodLink RL 60 yX8_flying ∈ hz_T := hz_mT 633 (by decide +kernel) (by decide +kernel)
set_option maxRecDepth 100000 in
theorem lq_ml64 : Cond.methodLink RL 64 yX8_letter ∈ hz_T := hz_mT 637 (by decide +kernel) (by decide +kernel)
set_option maxRecDepth 100000 in
theorem lq_ml69 : Cond.methodLink RL 69 yX8_count ∈ hz_T := hz_mT 645 (by decide +kernel) (by decide +kernel)
set_option maxRecDepth 100000 in
theorem lq_ml9 : Cond.methodLink RL 9 yL_cell ∈ hz_T := hz_mT 653 (by decide +kernel) (by decide +kernel)
set_option maxRecDepth 100000 in
theorem lq_cl18 : Cond.classLink RL 18 RX9 ∈ hz_T := hz_mT 656 (by decide +kernel) (by decide +kernel)
set_option maxRecDepth 100000 in
theorem lq_ml20 : Cond.methodLink RL 20 yX9_init ∈ hz_T := hz_mT 658 (by decide +kernel) (by decide +kernel)
set_option maxRecDepth 100000 in
theorem lq_ml25 : Cond.methodLink RL 25 yX9_submit ∈ hz_T := hz_mT 769 (by decide +kernel) (by decide +kernel)
set_option maxRecDepth 100000 in
theorem lq_ml29 : Cond.methodLink RL 29 yX9_deliver ∈ hz_T := hz_mT 819 (by decide +kernel) (by decide +kernel)
set_option maxRecDepth 100000 in
theorem lq_ml33 : Cond.methodLink RL 33 yX9_suspect ∈ hz_T := hz_mT 863 (by decide +kernel) (by decide +kernel)
set_option maxRecDepth 100000 in
theorem lq_ml38 : Cond.methodLink RL 38 yX9_crash ∈ hz_T := hz_mT 867 (by decide +kernel) (by decide +kernel)
set_option maxRecDepth 100000 in
theorem lq_ml43 : Cond.methodLink RL 43 yX9_timeout ∈ hz_T := hz_mT 871 (by decide +kernel) (by decide +kernel)
set_option maxRecDepth 100000 in
theorem lq_ml47 : Cond.methodLink RL 47 yX9_node ∈ hz_T := hz_mT 875 (by decide +kernel) (by decide +kernel)
set_option maxRecDepth 100000 in
theorem lq_ml51 : Cond.methodLink RL 51 yX9_held ∈ hz_T := hz_mT 879 (by decide +kernel) (by decide +kernel)
set_option maxRecDepth 100000 in
theorem lq_ml55 : Cond.methodLink RL 55 yX9_depth ∈ hz_T := hz_mT 884 (by decide +kernel) (by decide +kernel)
set_option maxRecDepth 100000 in
theorem lq_ml59 : Cond.methodLink RL 59 yX9_top ∈ hz_T := hz_mT 888 (by decide +kernel) (by decide +kernel)
set_option maxRecDepth 100000 in
theorem lq_ml63 : Cond.methodLink RL 63 yX9_flying ∈ hz_T := hz_mT 892 (by decide +kernel) (by decide +kernel)
set_option maxRecDepth 100000 in
theorem lq_ml68 : Cond.methodLink RL 68 yX9_letter ∈ hz_T := hz_mT 896 (by decide +kernel) (by decide +kernel)
set_option maxRecDepth 100000 in
theorem lq_ml72 : Cond.methodLink RL 72 yX9_count ∈ hz_T := hz_mT 900 (by decide +kernel) (by decide +kernel)
set_option maxRecDepth 100000 in
theorem lq_scell : Cond.static yL_cell ∈ hz_T := hz_mT 654 (by decide +kernel) (by decide +kernel)
set_option maxRecDepth 100000 in
theorem lq_iRL : Cond.initialized RL ∈ hz_T := hz_mT 57 (by decide +kernel) (by decide +kernel)
set_option maxRecDepth 100000 in
theorem lq_ccell : Cond.code yL_cell cL_cell 2 (some .int) ∈ hz_T := hz_mT 655 rfl (by decide +kernel)
set_option maxRecDepth 100000 in
theorem lq_imX8 : Cond.instanceMethod yX8_init ∈ hz_T := hz_mT 75 (by decide +kernel) (by decide +kernel)
set_option maxRecDepth 100000 in
theorem lq_imX9 : Cond.instanceMethod yX9_init ∈ hz_T := hz_mT 659 (by decide +kernel) (by decide +kernel)
set_option maxRecDepth 100000 in
theorem lq_aoChannel : Cond.arrayOver (.object "GroupCast$Channel") ∈ lw_tbl := List.mem_of_getElem? (i := 116) (by decide +kernel)
set_option maxRecDepth 100000 in
theorem lq_aoNode : Cond.arrayOver (.object "GroupCast$Node") ∈ lw_tbl := List.mem_of_getElem? (i := 149) (by decide +kernel)
set_option maxRecDepth 100000 in
theorem lq_ls : Cond.laysStatic "GroupCast" "NO_ACTS" "[I" ∈ lw_tbl := List.mem_of_getElem? (i := 194) (by decide +kernel)
