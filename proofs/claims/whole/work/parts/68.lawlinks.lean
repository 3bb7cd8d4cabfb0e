-- What the tables say of the law's calls; its two static methods with a handler (written by wip/whole/lawlinks.py).
theorem cv_RL_22 : x_cv RL 22 yX11_feed cX11_feed 6 (some .int) 5 := ⟨(x_tb (x_t3 (List.mem_of_getElem? (i := 89) rfl)) rfl), (x_tb (x_t3 (List.mem_of_getElem? (i := 90) rfl)) rfl), (x_tb (x_t3 (List.mem_of_getElem? (i := 91) rfl)) rfl), (x_tb (x_t1 (List.mem_of_getElem? (i := 1) rfl)) rfl), (x_tb (x_t3 (List.mem_of_getElem? (i := 92) rfl)) rfl), by decide, by decide, by decide +kernel⟩
theorem cv_RL_26 : x_cv RL 26 yX12_feed cX12_feed 6 (some .int) 5 := ⟨(x_tb (x_t6 (List.mem_of_getElem? (i := 190) rfl)) rfl), (x_tb (x_t6 (List.mem_of_getElem? (i := 191) rfl)) rfl), (x_tb (x_t6 (List.mem_of_getElem? (i := 192) rfl)) rfl), (x_tb (x_t1 (List.mem_of_getElem? (i := 17) rfl)) rfl), (x_tb (x_t6 (List.mem_of_getElem? (i := 193) rfl)) rfl), by decide, by decide, by decide +kernel⟩
theorem cv_RL_27 : x_cv RL 27 yX11_end cX11_end 2 (some .boolean) 1 := ⟨(x_tb (x_t3 (List.mem_of_getElem? (i := 101) rfl)) rfl), (x_tb (x_t3 (List.mem_of_getElem? (i := 102) rfl)) rfl), (x_tb (x_t3 (List.mem_of_getElem? (i := 103) rfl)) rfl), (x_tb (x_t1 (List.mem_of_getElem? (i := 1) rfl)) rfl), (x_tb (x_t3 (List.mem_of_getElem? (i := 104) rfl)) rfl), by decide, by decide, by decide +kernel⟩
theorem cv_RL_31 : x_cv RL 31 yX12_end cX12_end 2 (some .boolean) 1 := ⟨(x_tb (x_t6 (List.mem_of_getElem? (i := 199) rfl)) rfl), (x_tb (x_t6 (List.mem_of_getElem? (i := 200) rfl)) rfl), (x_tb (x_t6 (List.mem_of_getElem? (i := 201) rfl)) rfl), (x_tb (x_t1 (List.mem_of_getElem? (i := 17) rfl)) rfl), (x_tb (x_t6 (List.mem_of_getElem? (i := 202) rfl)) rfl), by decide, by decide, by decide +kernel⟩
theorem cv_RL_32 : x_cv RL 32 yX11_valley cX11_valley 2 (some .int) 0 := ⟨(x_tb (x_t3 (List.mem_of_getElem? (i := 105) rfl)) rfl), (x_tb (x_t3 (List.mem_of_getElem? (i := 106) rfl)) rfl), (x_tb (x_t3 (List.mem_of_getElem? (i := 107) rfl)) rfl), (x_tb (x_t1 (List.mem_of_getElem? (i := 1) rfl)) rfl), (x_tb (x_t3 (List.mem_of_getElem? (i := 108) rfl)) rfl), by decide, by decide, by decide +kernel⟩
theorem cv_RL_36 : x_cv RL 36 yX12_valley cX12_valley 3 (some .int) 0 := ⟨(x_tb (x_t7 (List.mem_of_getElem? (i := 115) rfl)) rfl), (x_tb (x_t7 (List.mem_of_getElem? (i := 116) rfl)) rfl), (x_tb (x_t7 (List.mem_of_getElem? (i := 117) rfl)) rfl), (x_tb (x_t1 (List.mem_of_getElem? (i := 17) rfl)) rfl), (x_tb (x_t7 (List.mem_of_getElem? (i := 118) rfl)) rfl), by decide, by decide, by decide +kernel⟩
theorem cv_RL_37 : x_cv RL 37 yX11_fault cX11_fault 1 (some .int) 0 := ⟨(x_tb (x_t4 (List.mem_of_getElem? (i := 22) rfl)) rfl), (x_tb (x_t4 (List.mem_of_getElem? (i := 23) rfl)) rfl), (x_tb (x_t4 (List.mem_of_getElem? (i := 24) rfl)) rfl), (x_tb (x_t1 (List.mem_of_getElem? (i := 1) rfl)) rfl), (x_tb (x_t4 (List.mem_of_getElem? (i := 25) rfl)) rfl), by decide, by decide, by decide +kernel⟩
theorem cv_RL_40 : x_cv RL 40 yX12_fault cX12_fault 1 (some .int) 0 := ⟨(x_tb (x_t7 (List.mem_of_getElem? (i := 235) rfl)) rfl), (x_tb (x_t7 (List.mem_of_getElem? (i := 236) rfl)) rfl), (x_tb (x_t7 (List.mem_of_getElem? (i := 237) rfl)) rfl), (x_tb (x_t1 (List.mem_of_getElem? (i := 17) rfl)) rfl), (x_tb (x_t7 (List.mem_of_getElem? (i := 238) rfl)) rfl), by decide, by decide, by decide +kernel⟩
theorem cw_RL_41 : Cond.methodLink RL 41 yL_walker ∈ x_TB ∧ Cond.static yL_walker ∈ x_TB ∧ Cond.initialized yL_walker.cls ∈ x_TB ∧ Cond.codeWith yL_walker cL_walker 5 (some .int) [(0, 10, 13, 13)] ∈ x_TB ∧ yL_walker.cls ≠ "java/lang/invoke/MethodHandle" ∧ yL_walker.cls ≠ "java/lang/invoke/VarHandle" ∧ (parseMethodDescriptor yL_walker.desc).map (fun d => d.parameters.length) = some 4 := ⟨(x_tb (x_t6 (List.mem_of_getElem? (i := 106) rfl)) rfl), (x_tb (x_t6 (List.mem_of_getElem? (i := 107) rfl)) rfl), (x_tb (x_t1 (List.mem_of_getElem? (i := 0) rfl)) rfl), (x_tb (x_t6 (List.mem_of_getElem? (i := 108) rfl)) rfl), by decide, by decide, by decide +kernel⟩
theorem cv_RL_46 : x_cv RL 46 yX12_walker cX12_walker 3 (some .int) 2 := ⟨(x_tb (x_t7 (List.mem_of_getElem? (i := 239) rfl)) rfl), (x_tb (x_t8 (List.mem_of_getElem? (i := 0) rfl)) rfl), (x_tb (x_t8 (List.mem_of_getElem? (i := 1) rfl)) rfl), (x_tb (x_t1 (List.mem_of_getElem? (i := 17) rfl)) rfl), (x_tb (x_t8 (List.mem_of_getElem? (i := 2) rfl)) rfl), by decide, by decide, by decide +kernel⟩
theorem cv_RL_47 : x_cv RL 47 yX12_thrown cX12_thrown 1 (some .int) 0 := ⟨(x_tb (x_t6 (List.mem_of_getElem? (i := 186) rfl)) rfl), (x_tb (x_t6 (List.mem_of_getElem? (i := 187) rfl)) rfl), (x_tb (x_t6 (List.mem_of_getElem? (i := 188) rfl)) rfl), (x_tb (x_t1 (List.mem_of_getElem? (i := 17) rfl)) rfl), (x_tb (x_t6 (List.mem_of_getElem? (i := 189) rfl)) rfl), by decide, by decide, by decide +kernel⟩
theorem cv_RL_50 : x_cv RL 50 yX11_fold cX11_fold 3 (some .int) 2 := ⟨(x_tb (x_t4 (List.mem_of_getElem? (i := 26) rfl)) rfl), (x_tb (x_t4 (List.mem_of_getElem? (i := 27) rfl)) rfl), (x_tb (x_t4 (List.mem_of_getElem? (i := 28) rfl)) rfl), (x_tb (x_t1 (List.mem_of_getElem? (i := 1) rfl)) rfl), (x_tb (x_t4 (List.mem_of_getElem? (i := 29) rfl)) rfl), by decide, by decide, by decide +kernel⟩
theorem cv_RL_53 : x_cv RL 53 yX12_fold cX12_fold 3 (some .int) 2 := ⟨(x_tb (x_t8 (List.mem_of_getElem? (i := 55) rfl)) rfl), (x_tb (x_t8 (List.mem_of_getElem? (i := 56) rfl)) rfl), (x_tb (x_t8 (List.mem_of_getElem? (i := 57) rfl)) rfl), (x_tb (x_t1 (List.mem_of_getElem? (i := 17) rfl)) rfl), (x_tb (x_t8 (List.mem_of_getElem? (i := 58) rfl)) rfl), by decide, by decide, by decide +kernel⟩
theorem cv_RL_54 : x_cv RL 54 yX11_spot cX11_spot 3 (some .int) 2 := ⟨(x_tb (x_t4 (List.mem_of_getElem? (i := 48) rfl)) rfl), (x_tb (x_t4 (List.mem_of_getElem? (i := 49) rfl)) rfl), (x_tb (x_t4 (List.mem_of_getElem? (i := 50) rfl)) rfl), (x_tb (x_t1 (List.mem_of_getElem? (i := 1) rfl)) rfl), (x_tb (x_t4 (List.mem_of_getElem? (i := 51) rfl)) rfl), by decide, by decide, by decide +kernel⟩
theorem cv_RL_57 : x_cv RL 57 yX12_spot cX12_spot 5 (some .int) 2 := ⟨(x_tb (x_t8 (List.mem_of_getElem? (i := 67) rfl)) rfl), (x_tb (x_t8 (List.mem_of_getElem? (i := 68) rfl)) rfl), (x_tb (x_t8 (List.mem_of_getElem? (i := 69) rfl)) rfl), (x_tb (x_t1 (List.mem_of_getElem? (i := 17) rfl)) rfl), (x_tb (x_t8 (List.mem_of_getElem? (i := 70) rfl)) rfl), by decide, by decide, by decide +kernel⟩
theorem cv_RL_58 : x_cv RL 58 yX11_now cX11_now 2 (some .int) 1 := ⟨(x_tb (x_t4 (List.mem_of_getElem? (i := 72) rfl)) rfl), (x_tb (x_t4 (List.mem_of_getElem? (i := 73) rfl)) rfl), (x_tb (x_t4 (List.mem_of_getElem? (i := 74) rfl)) rfl), (x_tb (x_t1 (List.mem_of_getElem? (i := 1) rfl)) rfl), (x_tb (x_t4 (List.mem_of_getElem? (i := 75) rfl)) rfl), by decide, by decide, by decide +kernel⟩
theorem cv_RL_62 : x_cv RL 62 yX12_now cX12_now 4 (some .int) 1 := ⟨(x_tb (x_t8 (List.mem_of_getElem? (i := 75) rfl)) rfl), (x_tb (x_t8 (List.mem_of_getElem? (i := 76) rfl)) rfl), (x_tb (x_t8 (List.mem_of_getElem? (i := 77) rfl)) rfl), (x_tb (x_t1 (List.mem_of_getElem? (i := 17) rfl)) rfl), (x_tb (x_t8 (List.mem_of_getElem? (i := 78) rfl)) rfl), by decide, by decide, by decide +kernel⟩
theorem cv_RL_63 : x_cv RL 63 yX11_walk cX11_walk 3 (some .int) 2 := ⟨(x_tb (x_t4 (List.mem_of_getElem? (i := 127) rfl)) rfl), (x_tb (x_t4 (List.mem_of_getElem? (i := 128) rfl)) rfl), (x_tb (x_t4 (List.mem_of_getElem? (i := 129) rfl)) rfl), (x_tb (x_t1 (List.mem_of_getElem? (i := 1) rfl)) rfl), (x_tb (x_t4 (List.mem_of_getElem? (i := 130) rfl)) rfl), by decide, by decide, by decide +kernel⟩
theorem cv_RL_66 : x_cv RL 66 yX12_walk cX12_walk 3 (some .int) 2 := ⟨(x_tb (x_t8 (List.mem_of_getElem? (i := 83) rfl)) rfl), (x_tb (x_t8 (List.mem_of_getElem? (i := 84) rfl)) rfl), (x_tb (x_t8 (List.mem_of_getElem? (i := 85) rfl)) rfl), (x_tb (x_t1 (List.mem_of_getElem? (i := 17) rfl)) rfl), (x_tb (x_t8 (List.mem_of_getElem? (i := 86) rfl)) rfl), by decide, by decide, by decide +kernel⟩
theorem cv_RL_67 : x_cv RL 67 yX11_learn cX11_learn 3 (some .int) 2 := ⟨(x_tb (x_t4 (List.mem_of_getElem? (i := 192) rfl)) rfl), (x_tb (x_t4 (List.mem_of_getElem? (i := 193) rfl)) rfl), (x_tb (x_t4 (List.mem_of_getElem? (i := 194) rfl)) rfl), (x_tb (x_t1 (List.mem_of_getElem? (i := 1) rfl)) rfl), (x_tb (x_t4 (List.mem_of_getElem? (i := 195) rfl)) rfl), by decide, by decide, by decide +kernel⟩
theorem cv_RL_70 : x_cv RL 70 yX12_learn cX12_learn 3 (some .int) 2 := ⟨(x_tb (x_t8 (List.mem_of_getElem? (i := 111) rfl)) rfl), (x_tb (x_t8 (List.mem_of_getElem? (i := 112) rfl)) rfl), (x_tb (x_t8 (List.mem_of_getElem? (i := 113) rfl)) rfl), (x_tb (x_t1 (List.mem_of_getElem? (i := 17) rfl)) rfl), (x_tb (x_t8 (List.mem_of_getElem? (i := 114) rfl)) rfl), by decide, by decide, by decide +kernel⟩
theorem cv_RL_71 : x_cv RL 71 yX11_tell cX11_tell 3 (some .int) 2 := ⟨(x_tb (x_t4 (List.mem_of_getElem? (i := 200) rfl)) rfl), (x_tb (x_t4 (List.mem_of_getElem? (i := 201) rfl)) rfl), (x_tb (x_t4 (List.mem_of_getElem? (i := 202) rfl)) rfl), (x_tb (x_t1 (List.mem_of_getElem? (i := 1) rfl)) rfl), (x_tb (x_t4 (List.mem_of_getElem? (i := 203) rfl)) rfl), by decide, by decide, by decide +kernel⟩
theorem cv_RL_74 : x_cv RL 74 yX12_tell cX12_tell 3 (some .int) 2 := ⟨(x_tb (x_t8 (List.mem_of_getElem? (i := 119) rfl)) rfl), (x_tb (x_t8 (List.mem_of_getElem? (i := 120) rfl)) rfl), (x_tb (x_t8 (List.mem_of_getElem? (i := 121) rfl)) rfl), (x_tb (x_t1 (List.mem_of_getElem? (i := 17) rfl)) rfl), (x_tb (x_t8 (List.mem_of_getElem? (i := 122) rfl)) rfl), by decide, by decide, by decide +kernel⟩
theorem cv_RL_75 : x_cv RL 75 yX11_rest cX11_rest 2 (some .int) 1 := ⟨(x_tb (x_t4 (List.mem_of_getElem? (i := 204) rfl)) rfl), (x_tb (x_t4 (List.mem_of_getElem? (i := 205) rfl)) rfl), (x_tb (x_t4 (List.mem_of_getElem? (i := 206) rfl)) rfl), (x_tb (x_t1 (List.mem_of_getElem? (i := 1) rfl)) rfl), (x_tb (x_t4 (List.mem_of_getElem? (i := 207) rfl)) rfl), by decide, by decide, by decide +kernel⟩
theorem cv_RL_78 : x_cv RL 78 yX12_rest cX12_rest 2 (some .int) 1 := ⟨(x_tb (x_t8 (List.mem_of_getElem? (i := 123) rfl)) rfl), (x_tb (x_t8 (List.mem_of_getElem? (i := 124) rfl)) rfl), (x_tb (x_t8 (List.mem_of_getElem? (i := 125) rfl)) rfl), (x_tb (x_t1 (List.mem_of_getElem? (i := 17) rfl)) rfl), (x_tb (x_t8 (List.mem_of_getElem? (i := 126) rfl)) rfl), by decide, by decide, by decide +kernel⟩
theorem cv_RL_79 : x_cv RL 79 yX11_cream cX11_cream 2 (some .int) 1 := ⟨(x_tb (x_t4 (List.mem_of_getElem? (i := 208) rfl)) rfl), (x_tb (x_t4 (List.mem_of_getElem? (i := 209) rfl)) rfl), (x_tb (x_t4 (List.mem_of_getElem? (i := 210) rfl)) rfl), (x_tb (x_t1 (List.mem_of_getElem? (i := 1) rfl)) rfl), (x_tb (x_t4 (List.mem_of_getElem? (i := 211) rfl)) rfl), by decide, by decide, by decide +kernel⟩
theorem cv_RL_82 : x_cv RL 82 yX12_cream cX12_cream 2 (some .int) 1 := ⟨(x_tb (x_t8 (List.mem_of_getElem? (i := 127) rfl)) rfl), (x_tb (x_t8 (List.mem_of_getElem? (i := 128) rfl)) rfl), (x_tb (x_t8 (List.mem_of_getElem? (i := 129) rfl)) rfl), (x_tb (x_t1 (List.mem_of_getElem? (i := 17) rfl)) rfl), (x_tb (x_t8 (List.mem_of_getElem? (i := 130) rfl)) rfl), by decide, by decide, by decide +kernel⟩
theorem cv_RL_83 : x_cv RL 83 yX11_slip cX11_slip 3 (some .int) 2 := ⟨(x_tb (x_t4 (List.mem_of_getElem? (i := 212) rfl)) rfl), (x_tb (x_t4 (List.mem_of_getElem? (i := 213) rfl)) rfl), (x_tb (x_t4 (List.mem_of_getElem? (i := 214) rfl)) rfl), (x_tb (x_t1 (List.mem_of_getElem? (i := 1) rfl)) rfl), (x_tb (x_t4 (List.mem_of_getElem? (i := 215) rfl)) rfl), by decide, by decide, by decide +kernel⟩
theorem cv_RL_86 : x_cv RL 86 yX12_slip cX12_slip 3 (some .int) 2 := ⟨(x_tb (x_t8 (List.mem_of_getElem? (i := 131) rfl)) rfl), (x_tb (x_t8 (List.mem_of_getElem? (i := 132) rfl)) rfl), (x_tb (x_t8 (List.mem_of_getElem? (i := 133) rfl)) rfl), (x_tb (x_t1 (List.mem_of_getElem? (i := 17) rfl)) rfl), (x_tb (x_t8 (List.mem_of_getElem? (i := 134) rfl)) rfl), by decide, by decide, by decide +kernel⟩
theorem cv_RL_87 : x_cv RL 87 yX11_mood cX11_mood 2 (some .int) 1 := ⟨(x_tb (x_t4 (List.mem_of_getElem? (i := 216) rfl)) rfl), (x_tb (x_t4 (List.mem_of_getElem? (i := 217) rfl)) rfl), (x_tb (x_t4 (List.mem_of_getElem? (i := 218) rfl)) rfl), (x_tb (x_t1 (List.mem_of_getElem? (i := 1) rfl)) rfl), (x_tb (x_t4 (List.mem_of_getElem? (i := 219) rfl)) rfl), by decide, by decide, by decide +kernel⟩
theorem cv_RL_90 : x_cv RL 90 yX12_mood cX12_mood 2 (some .int) 1 := ⟨(x_tb (x_t8 (List.mem_of_getElem? (i := 135) rfl)) rfl), (x_tb (x_t8 (List.mem_of_getElem? (i := 136) rfl)) rfl), (x_tb (x_t8 (List.mem_of_getElem? (i := 137) rfl)) rfl), (x_tb (x_t1 (List.mem_of_getElem? (i := 17) rfl)) rfl), (x_tb (x_t8 (List.mem_of_getElem? (i := 138) rfl)) rfl), by decide, by decide, by decide +kernel⟩
theorem cv_RL_91 : x_cv RL 91 yX11_hours cX11_hours 2 (some .int) 1 := ⟨(x_tb (x_t4 (List.mem_of_getElem? (i := 220) rfl)) rfl), (x_tb (x_t4 (List.mem_of_getElem? (i := 221) rfl)) rfl), (x_tb (x_t4 (List.mem_of_getElem? (i := 222) rfl)) rfl), (x_tb (x_t1 (List.mem_of_getElem? (i := 1) rfl)) rfl), (x_tb (x_t4 (List.mem_of_getElem? (i := 223) rfl)) rfl), by decide, by decide, by decide +kernel⟩
theorem cv_RL_94 : x_cv RL 94 yX12_hours cX12_hours 2 (some .int) 1 := ⟨(x_tb (x_t8 (List.mem_of_getElem? (i := 143) rfl)) rfl), (x_tb (x_t8 (List.mem_of_getElem? (i := 144) rfl)) rfl), (x_tb (x_t8 (List.mem_of_getElem? (i := 145) rfl)) rfl), (x_tb (x_t1 (List.mem_of_getElem? (i := 17) rfl)) rfl), (x_tb (x_t8 (List.mem_of_getElem? (i := 146) rfl)) rfl), by decide, by decide, by decide +kernel⟩
theorem cv_RL_95 : x_cv RL 95 yX11_undo cX11_undo 1 (some .int) 0 := ⟨(x_tb (x_t5 (List.mem_of_getElem? (i := 17) rfl)) rfl), (x_tb (x_t5 (List.mem_of_getElem? (i := 18) rfl)) rfl), (x_tb (x_t5 (List.mem_of_getElem? (i := 19) rfl)) rfl), (x_tb (x_t1 (List.mem_of_getElem? (i := 1) rfl)) rfl), (x_tb (x_t5 (List.mem_of_getElem? (i := 20) rfl)) rfl), by decide, by decide, by decide +kernel⟩
theorem cv_RL_98 : x_cv RL 98 yX12_undo cX12_undo 2 (some .int) 0 := ⟨(x_tb (x_t8 (List.mem_of_getElem? (i := 139) rfl)) rfl), (x_tb (x_t8 (List.mem_of_getElem? (i := 140) rfl)) rfl), (x_tb (x_t8 (List.mem_of_getElem? (i := 141) rfl)) rfl), (x_tb (x_t1 (List.mem_of_getElem? (i := 17) rfl)) rfl), (x_tb (x_t8 (List.mem_of_getElem? (i := 142) rfl)) rfl), by decide, by decide, by decide +kernel⟩
theorem cv_RL_99 : x_cv RL 99 yX11_takes cX11_takes 3 (some .int) 2 := ⟨(x_tb (x_t5 (List.mem_of_getElem? (i := 29) rfl)) rfl), (x_tb (x_t5 (List.mem_of_getElem? (i := 30) rfl)) rfl), (x_tb (x_t5 (List.mem_of_getElem? (i := 31) rfl)) rfl), (x_tb (x_t1 (List.mem_of_getElem? (i := 1) rfl)) rfl), (x_tb (x_t5 (List.mem_of_getElem? (i := 32) rfl)) rfl), by decide, by decide, by decide +kernel⟩
theorem cv_RL_102 : x_cv RL 102 yX12_takes cX12_takes 3 (some .int) 2 := ⟨(x_tb (x_t8 (List.mem_of_getElem? (i := 162) rfl)) rfl), (x_tb (x_t8 (List.mem_of_getElem? (i := 163) rfl)) rfl), (x_tb (x_t8 (List.mem_of_getElem? (i := 164) rfl)) rfl), (x_tb (x_t1 (List.mem_of_getElem? (i := 17) rfl)) rfl), (x_tb (x_t8 (List.mem_of_getElem? (i := 165) rfl)) rfl), by decide, by decide, by decide +kernel⟩
theorem cv_RL_103 : x_cv RL 103 yX11_way cX11_way 3 (some .int) 2 := ⟨(x_tb (x_t5 (List.mem_of_getElem? (i := 34) rfl)) rfl), (x_tb (x_t5 (List.mem_of_getElem? (i := 35) rfl)) rfl), (x_tb (x_t5 (List.mem_of_getElem? (i := 36) rfl)) rfl), (x_tb (x_t1 (List.mem_of_getElem? (i := 1) rfl)) rfl), (x_tb (x_t5 (List.mem_of_getElem? (i := 37) rfl)) rfl), by decide, by decide, by decide +kernel⟩
theorem cv_RL_106 : x_cv RL 106 yX12_way cX12_way 6 (some .int) 2 := ⟨(x_tb (x_t8 (List.mem_of_getElem? (i := 166) rfl)) rfl), (x_tb (x_t8 (List.mem_of_getElem? (i := 167) rfl)) rfl), (x_tb (x_t8 (List.mem_of_getElem? (i := 168) rfl)) rfl), (x_tb (x_t1 (List.mem_of_getElem? (i := 17) rfl)) rfl), (x_tb (x_t8 (List.mem_of_getElem? (i := 169) rfl)) rfl), by decide, by decide, by decide +kernel⟩
theorem cv_RL_107 : x_cv RL 107 yX11_wayAt cX11_wayAt 2 (some .int) 1 := ⟨(x_tb (x_t5 (List.mem_of_getElem? (i := 53) rfl)) rfl), (x_tb (x_t5 (List.mem_of_getElem? (i := 54) rfl)) rfl), (x_tb (x_t5 (List.mem_of_getElem? (i := 55) rfl)) rfl), (x_tb (x_t1 (List.mem_of_getElem? (i := 1) rfl)) rfl), (x_tb (x_t5 (List.mem_of_getElem? (i := 56) rfl)) rfl), by decide, by decide, by decide +kernel⟩
theorem cv_RL_110 : x_cv RL 110 yX12_wayAt cX12_wayAt 2 (some .int) 1 := ⟨(x_tb (x_t8 (List.mem_of_getElem? (i := 174) rfl)) rfl), (x_tb (x_t8 (List.mem_of_getElem? (i := 175) rfl)) rfl), (x_tb (x_t8 (List.mem_of_getElem? (i := 176) rfl)) rfl), (x_tb (x_t1 (List.mem_of_getElem? (i := 17) rfl)) rfl), (x_tb (x_t8 (List.mem_of_getElem? (i := 177) rfl)) rfl), by decide, by decide, by decide +kernel⟩
theorem cv_RL_111 : x_cv RL 111 yX11_reaches cX11_reaches 2 (some .int) 1 := ⟨(x_tb (x_t5 (List.mem_of_getElem? (i := 57) rfl)) rfl), (x_tb (x_t5 (List.mem_of_getElem? (i := 58) rfl)) rfl), (x_tb (x_t5 (List.mem_of_getElem? (i := 59) rfl)) rfl), (x_tb (x_t1 (List.mem_of_getElem? (i := 1) rfl)) rfl), (x_tb (x_t5 (List.mem_of_getElem? (i := 60) rfl)) rfl), by decide, by decide, by decide +kernel⟩
theorem cv_RL_114 : x_cv RL 114 yX12_reaches cX12_reaches 2 (some .int) 1 := ⟨(x_tb (x_t8 (List.mem_of_getElem? (i := 178) rfl)) rfl), (x_tb (x_t8 (List.mem_of_getElem? (i := 179) rfl)) rfl), (x_tb (x_t8 (List.mem_of_getElem? (i := 180) rfl)) rfl), (x_tb (x_t1 (List.mem_of_getElem? (i := 17) rfl)) rfl), (x_tb (x_t8 (List.mem_of_getElem? (i := 181) rfl)) rfl), by decide, by decide, by decide +kernel⟩
theorem cv_RL_115 : x_cv RL 115 yX11_gather cX11_gather 2 (some .int) 1 := ⟨(x_tb (x_t5 (List.mem_of_getElem? (i := 62) rfl)) rfl), (x_tb (x_t5 (List.mem_of_getElem? (i := 63) rfl)) rfl), (x_tb (x_t5 (List.mem_of_getElem? (i := 64) rfl)) rfl), (x_tb (x_t1 (List.mem_of_getElem? (i := 1) rfl)) rfl), (x_tb (x_t5 (List.mem_of_getElem? (i := 65) rfl)) rfl), by decide, by decide, by decide +kernel⟩
theorem cv_RL_118 : x_cv RL 118 yX12_gather cX12_gather 6 (some .int) 1 := ⟨(x_tb (x_t8 (List.mem_of_getElem? (i := 182) rfl)) rfl), (x_tb (x_t8 (List.mem_of_getElem? (i := 183) rfl)) rfl), (x_tb (x_t8 (List.mem_of_getElem? (i := 184) rfl)) rfl), (x_tb (x_t1 (List.mem_of_getElem? (i := 17) rfl)) rfl), (x_tb (x_t8 (List.mem_of_getElem? (i := 185) rfl)) rfl), by decide, by decide, by decide +kernel⟩
theorem cv_RL_119 : x_cv RL 119 yX11_gatherAt cX11_gatherAt 2 (some .int) 1 := ⟨(x_tb (x_t5 (List.mem_of_getElem? (i := 91) rfl)) rfl), (x_tb (x_t5 (List.mem_of_getElem? (i := 92) rfl)) rfl), (x_tb (x_t5 (List.mem_of_getElem? (i := 93) rfl)) rfl), (x_tb (x_t1 (List.mem_of_getElem? (i := 1) rfl)) rfl), (x_tb (x_t5 (List.mem_of_getElem? (i := 94) rfl)) rfl), by decide, by decide, by decide +kernel⟩
theorem cv_RL_122 : x_cv RL 122 yX12_gatherAt cX12_gatherAt 2 (some .int) 1 := ⟨(x_tb (x_t8 (List.mem_of_getElem? (i := 198) rfl)) rfl), (x_tb (x_t8 (List.mem_of_getElem? (i := 199) rfl)) rfl), (x_tb (x_t8 (List.mem_of_getElem? (i := 200) rfl)) rfl), (x_tb (x_t1 (List.mem_of_getElem? (i := 17) rfl)) rfl), (x_tb (x_t8 (List.mem_of_getElem? (i := 201) rfl)) rfl), by decide, by decide, by decide +kernel⟩
theorem cv_RL_123 : x_cv RL 123 yX11_meet cX11_meet 3 (some .int) 2 := ⟨(x_tb (x_t5 (List.mem_of_getElem? (i := 95) rfl)) rfl), (x_tb (x_t5 (List.mem_of_getElem? (i := 96) rfl)) rfl), (x_tb (x_t5 (List.mem_of_getElem? (i := 97) rfl)) rfl), (x_tb (x_t1 (List.mem_of_getElem? (i := 1) rfl)) rfl), (x_tb (x_t5 (List.mem_of_getElem? (i := 98) rfl)) rfl), by decide, by decide, by decide +kernel⟩
theorem cv_RL_126 : x_cv RL 126 yX12_meet cX12_meet 8 (some .int) 2 := ⟨(x_tb (x_t8 (List.mem_of_getElem? (i := 202) rfl)) rfl), (x_tb (x_t8 (List.mem_of_getElem? (i := 203) rfl)) rfl), (x_tb (x_t8 (List.mem_of_getElem? (i := 204) rfl)) rfl), (x_tb (x_t1 (List.mem_of_getElem? (i := 17) rfl)) rfl), (x_tb (x_t8 (List.mem_of_getElem? (i := 205) rfl)) rfl), by decide, by decide, by decide +kernel⟩
theorem cv_RL_127 : x_cv RL 127 yX11_meetAt cX11_meetAt 1 (some .int) 0 := ⟨(x_tb (x_t5 (List.mem_of_getElem? (i := 106) rfl)) rfl), (x_tb (x_t5 (List.mem_of_getElem? (i := 107) rfl)) rfl), (x_tb (x_t5 (List.mem_of_getElem? (i := 108) rfl)) rfl), (x_tb (x_t1 (List.mem_of_getElem? (i := 1) rfl)) rfl), (x_tb (x_t5 (List.mem_of_getElem? (i := 109) rfl)) rfl), by decide, by decide, by decide +kernel⟩
theorem cv_RL_130 : x_cv RL 130 yX12_meetAt cX12_meetAt 1 (some .int) 0 := ⟨(x_tb (x_t8 (List.mem_of_getElem? (i := 206) rfl)) rfl), (x_tb (x_t8 (List.mem_of_getElem? (i := 207) rfl)) rfl), (x_tb (x_t8 (List.mem_of_getElem? (i := 208) rfl)) rfl), (x_tb (x_t1 (List.mem_of_getElem? (i := 17) rfl)) rfl), (x_tb (x_t8 (List.mem_of_getElem? (i := 209) rfl)) rfl), by decide, by decide, by decide +kernel⟩
theorem cv_RL_131 : x_cv RL 131 yX11_inns cX11_inns 2 (some .int) 1 := ⟨(x_tb (x_t5 (List.mem_of_getElem? (i := 110) rfl)) rfl), (x_tb (x_t5 (List.mem_of_getElem? (i := 111) rfl)) rfl), (x_tb (x_t5 (List.mem_of_getElem? (i := 112) rfl)) rfl), (x_tb (x_t1 (List.mem_of_getElem? (i := 1) rfl)) rfl), (x_tb (x_t5 (List.mem_of_getElem? (i := 113) rfl)) rfl), by decide, by decide, by decide +kernel⟩
theorem cv_RL_134 : x_cv RL 134 yX12_inns cX12_inns 4 (some .int) 1 := ⟨(x_tb (x_t8 (List.mem_of_getElem? (i := 210) rfl)) rfl), (x_tb (x_t8 (List.mem_of_getElem? (i := 211) rfl)) rfl), (x_tb (x_t8 (List.mem_of_getElem? (i := 212) rfl)) rfl), (x_tb (x_t1 (List.mem_of_getElem? (i := 17) rfl)) rfl), (x_tb (x_t8 (List.mem_of_getElem? (i := 213) rfl)) rfl), by decide, by decide, by decide +kernel⟩
theorem cv_RL_135 : x_cv RL 135 yX11_innsAt cX11_innsAt 1 (some .int) 0 := ⟨(x_tb (x_t5 (List.mem_of_getElem? (i := 132) rfl)) rfl), (x_tb (x_t5 (List.mem_of_getElem? (i := 133) rfl)) rfl), (x_tb (x_t5 (List.mem_of_getElem? (i := 134) rfl)) rfl), (x_tb (x_t1 (List.mem_of_getElem? (i := 1) rfl)) rfl), (x_tb (x_t5 (List.mem_of_getElem? (i := 135) rfl)) rfl), by decide, by decide, by decide +kernel⟩
theorem cv_RL_138 : x_cv RL 138 yX12_innsAt cX12_innsAt 1 (some .int) 0 := ⟨(x_tb (x_t8 (List.mem_of_getElem? (i := 221) rfl)) rfl), (x_tb (x_t8 (List.mem_of_getElem? (i := 222) rfl)) rfl), (x_tb (x_t8 (List.mem_of_getElem? (i := 223) rfl)) rfl), (x_tb (x_t1 (List.mem_of_getElem? (i := 17) rfl)) rfl), (x_tb (x_t8 (List.mem_of_getElem? (i := 224) rfl)) rfl), by decide, by decide, by decide +kernel⟩
theorem cv_RL_139 : x_cv RL 139 yX11_came cX11_came 2 (some .int) 0 := ⟨(x_tb (x_t5 (List.mem_of_getElem? (i := 136) rfl)) rfl), (x_tb (x_t5 (List.mem_of_getElem? (i := 137) rfl)) rfl), (x_tb (x_t5 (List.mem_of_getElem? (i := 138) rfl)) rfl), (x_tb (x_t1 (List.mem_of_getElem? (i := 1) rfl)) rfl), (x_tb (x_t5 (List.mem_of_getElem? (i := 139) rfl)) rfl), by decide, by decide, by decide +kernel⟩
theorem cv_RL_142 : x_cv RL 142 yX12_came cX12_came 4 (some .int) 0 := ⟨(x_tb (x_t8 (List.mem_of_getElem? (i := 225) rfl)) rfl), (x_tb (x_t8 (List.mem_of_getElem? (i := 226) rfl)) rfl), (x_tb (x_t8 (List.mem_of_getElem? (i := 227) rfl)) rfl), (x_tb (x_t1 (List.mem_of_getElem? (i := 17) rfl)) rfl), (x_tb (x_t8 (List.mem_of_getElem? (i := 228) rfl)) rfl), by decide, by decide, by decide +kernel⟩
theorem cv_RL_143 : x_cv RL 143 yX11_ask cX11_ask 1 (some .int) 0 := ⟨(x_tb (x_t5 (List.mem_of_getElem? (i := 165) rfl)) rfl), (x_tb (x_t5 (List.mem_of_getElem? (i := 166) rfl)) rfl), (x_tb (x_t5 (List.mem_of_getElem? (i := 167) rfl)) rfl), (x_tb (x_t1 (List.mem_of_getElem? (i := 1) rfl)) rfl), (x_tb (x_t5 (List.mem_of_getElem? (i := 168) rfl)) rfl), by decide, by decide, by decide +kernel⟩
theorem cv_RL_146 : x_cv RL 146 yX12_ask cX12_ask 1 (some .int) 0 := ⟨(x_tb (x_t8 (List.mem_of_getElem? (i := 237) rfl)) rfl), (x_tb (x_t8 (List.mem_of_getElem? (i := 238) rfl)) rfl), (x_tb (x_t8 (List.mem_of_getElem? (i := 239) rfl)) rfl), (x_tb (x_t1 (List.mem_of_getElem? (i := 17) rfl)) rfl), (x_tb (x_t9 (List.mem_of_getElem? (i := 0) rfl)) rfl), by decide, by decide, by decide +kernel⟩
theorem cw_RL_147 : Cond.methodLink RL 147 yL_mean ∈ x_TB ∧ Cond.static yL_mean ∈ x_TB ∧ Cond.initialized yL_mean.cls ∈ x_TB ∧ Cond.codeWith yL_mean cL_mean 5 (some .int) [(0, 10, 13, 13)] ∈ x_TB ∧ yL_mean.cls ≠ "java/lang/invoke/MethodHandle" ∧ yL_mean.cls ≠ "java/lang/invoke/VarHandle" ∧ (parseMethodDescriptor yL_mean.desc).map (fun d => d.parameters.length) = some 4 := ⟨(x_tb (x_t6 (List.mem_of_getElem? (i := 175) rfl)) rfl), (x_tb (x_t6 (List.mem_of_getElem? (i := 176) rfl)) rfl), (x_tb (x_t1 (List.mem_of_getElem? (i := 0) rfl)) rfl), (x_tb (x_t6 (List.mem_of_getElem? (i := 177) rfl)) rfl), by decide, by decide, by decide +kernel⟩
theorem cv_RL_149 : x_cv RL 149 yX12_mean cX12_mean 6 (some .int) 2 := ⟨(x_tb (x_t9 (List.mem_of_getElem? (i := 1) rfl)) rfl), (x_tb (x_t9 (List.mem_of_getElem? (i := 2) rfl)) rfl), (x_tb (x_t9 (List.mem_of_getElem? (i := 3) rfl)) rfl), (x_tb (x_t1 (List.mem_of_getElem? (i := 17) rfl)) rfl), (x_tb (x_t9 (List.mem_of_getElem? (i := 4) rfl)) rfl), by decide, by decide, by decide +kernel⟩
theorem cv_RL_150 : x_cv RL 150 yX11_tag cX11_tag 2 (some .int) 1 := ⟨(x_tb (x_t5 (List.mem_of_getElem? (i := 169) rfl)) rfl), (x_tb (x_t5 (List.mem_of_getElem? (i := 170) rfl)) rfl), (x_tb (x_t5 (List.mem_of_getElem? (i := 171) rfl)) rfl), (x_tb (x_t1 (List.mem_of_getElem? (i := 1) rfl)) rfl), (x_tb (x_t5 (List.mem_of_getElem? (i := 172) rfl)) rfl), by decide, by decide, by decide +kernel⟩
theorem cv_RL_153 : x_cv RL 153 yX12_tag cX12_tag 2 (some .int) 1 := ⟨(x_tb (x_t9 (List.mem_of_getElem? (i := 8) rfl)) rfl), (x_tb (x_t9 (List.mem_of_getElem? (i := 9) rfl)) rfl), (x_tb (x_t9 (List.mem_of_getElem? (i := 10) rfl)) rfl), (x_tb (x_t1 (List.mem_of_getElem? (i := 17) rfl)) rfl), (x_tb (x_t9 (List.mem_of_getElem? (i := 11) rfl)) rfl), by decide, by decide, by decide +kernel⟩
theorem cv_RL_154 : x_cv RL 154 yX11_byteAt cX11_byteAt 2 (some .int) 1 := ⟨(x_tb (x_t5 (List.mem_of_getElem? (i := 204) rfl)) rfl), (x_tb (x_t5 (List.mem_of_getElem? (i := 205) rfl)) rfl), (x_tb (x_t5 (List.mem_of_getElem? (i := 206) rfl)) rfl), (x_tb (x_t1 (List.mem_of_getElem? (i := 1) rfl)) rfl), (x_tb (x_t5 (List.mem_of_getElem? (i := 207) rfl)) rfl), by decide, by decide, by decide +kernel⟩
theorem cv_RL_157 : x_cv RL 157 yX12_byteAt cX12_byteAt 2 (some .int) 1 := ⟨(x_tb (x_t9 (List.mem_of_getElem? (i := 28) rfl)) rfl), (x_tb (x_t9 (List.mem_of_getElem? (i := 29) rfl)) rfl), (x_tb (x_t9 (List.mem_of_getElem? (i := 30) rfl)) rfl), (x_tb (x_t1 (List.mem_of_getElem? (i := 17) rfl)) rfl), (x_tb (x_t9 (List.mem_of_getElem? (i := 31) rfl)) rfl), by decide, by decide, by decide +kernel⟩
theorem cv_RL_158 : x_cv RL 158 yX11_drawn cX11_drawn 3 (some .int) 2 := ⟨(x_tb (x_t5 (List.mem_of_getElem? (i := 0) rfl)) rfl), (x_tb (x_t5 (List.mem_of_getElem? (i := 1) rfl)) rfl), (x_tb (x_t5 (List.mem_of_getElem? (i := 2) rfl)) rfl), (x_tb (x_t1 (List.mem_of_getElem? (i := 1) rfl)) rfl), (x_tb (x_t5 (List.mem_of_getElem? (i := 3) rfl)) rfl), by decide, by decide, by decide +kernel⟩
theorem cv_RL_161 : x_cv RL 161 yX12_drawn cX12_drawn 3 (some .int) 2 := ⟨(x_tb (x_t9 (List.mem_of_getElem? (i := 32) rfl)) rfl), (x_tb (x_t9 (List.mem_of_getElem? (i := 33) rfl)) rfl), (x_tb (x_t9 (List.mem_of_getElem? (i := 34) rfl)) rfl), (x_tb (x_t1 (List.mem_of_getElem? (i := 17) rfl)) rfl), (x_tb (x_t9 (List.mem_of_getElem? (i := 35) rfl)) rfl), by decide, by decide, by decide +kernel⟩
theorem cv_RL_162 : x_cv RL 162 yX11_odds cX11_odds 6 (some .int) 3 := ⟨(x_tb (x_t5 (List.mem_of_getElem? (i := 25) rfl)) rfl), (x_tb (x_t5 (List.mem_of_getElem? (i := 26) rfl)) rfl), (x_tb (x_t5 (List.mem_of_getElem? (i := 27) rfl)) rfl), (x_tb (x_t1 (List.mem_of_getElem? (i := 1) rfl)) rfl), (x_tb (x_t5 (List.mem_of_getElem? (i := 28) rfl)) rfl), by decide, by decide, by decide +kernel⟩
theorem cv_RL_166 : x_cv RL 166 yX12_odds cX12_odds 6 (some .int) 3 := ⟨(x_tb (x_t9 (List.mem_of_getElem? (i := 53) rfl)) rfl), (x_tb (x_t9 (List.mem_of_getElem? (i := 54) rfl)) rfl), (x_tb (x_t9 (List.mem_of_getElem? (i := 55) rfl)) rfl), (x_tb (x_t1 (List.mem_of_getElem? (i := 17) rfl)) rfl), (x_tb (x_t9 (List.mem_of_getElem? (i := 56) rfl)) rfl), by decide, by decide, by decide +kernel⟩
theorem cv_RL_167 : x_cv RL 167 yX11_book cX11_book 4 (some .int) 1 := ⟨(x_tb (x_t5 (List.mem_of_getElem? (i := 208) rfl)) rfl), (x_tb (x_t5 (List.mem_of_getElem? (i := 209) rfl)) rfl), (x_tb (x_t5 (List.mem_of_getElem? (i := 210) rfl)) rfl), (x_tb (x_t1 (List.mem_of_getElem? (i := 1) rfl)) rfl), (x_tb (x_t5 (List.mem_of_getElem? (i := 211) rfl)) rfl), by decide, by decide, by decide +kernel⟩
theorem cv_RL_170 : x_cv RL 170 yX12_book cX12_book 4 (some .int) 1 := ⟨(x_tb (x_t9 (List.mem_of_getElem? (i := 65) rfl)) rfl), (x_tb (x_t9 (List.mem_of_getElem? (i := 66) rfl)) rfl), (x_tb (x_t9 (List.mem_of_getElem? (i := 67) rfl)) rfl), (x_tb (x_t1 (List.mem_of_getElem? (i := 17) rfl)) rfl), (x_tb (x_t9 (List.mem_of_getElem? (i := 68) rfl)) rfl), by decide, by decide, by decide +kernel⟩
theorem cv_RL_171 : x_cv RL 171 yX11_told cX11_told 2 (some .int) 1 := ⟨(x_tb (x_t6 (List.mem_of_getElem? (i := 5) rfl)) rfl), (x_tb (x_t6 (List.mem_of_getElem? (i := 6) rfl)) rfl), (x_tb (x_t6 (List.mem_of_getElem? (i := 7) rfl)) rfl), (x_tb (x_t1 (List.mem_of_getElem? (i := 1) rfl)) rfl), (x_tb (x_t6 (List.mem_of_getElem? (i := 8) rfl)) rfl), by decide, by decide, by decide +kernel⟩
theorem cv_RL_174 : x_cv RL 174 yX12_told cX12_told 2 (some .int) 1 := ⟨(x_tb (x_t9 (List.mem_of_getElem? (i := 97) rfl)) rfl), (x_tb (x_t9 (List.mem_of_getElem? (i := 98) rfl)) rfl), (x_tb (x_t9 (List.mem_of_getElem? (i := 99) rfl)) rfl), (x_tb (x_t1 (List.mem_of_getElem? (i := 17) rfl)) rfl), (x_tb (x_t9 (List.mem_of_getElem? (i := 100) rfl)) rfl), by decide, by decide, by decide +kernel⟩
theorem cv_RL_175 : x_cv RL 175 yX11_sentence cX11_sentence 2 (some .int) 0 := ⟨(x_tb (x_t6 (List.mem_of_getElem? (i := 9) rfl)) rfl), (x_tb (x_t6 (List.mem_of_getElem? (i := 10) rfl)) rfl), (x_tb (x_t6 (List.mem_of_getElem? (i := 11) rfl)) rfl), (x_tb (x_t1 (List.mem_of_getElem? (i := 1) rfl)) rfl), (x_tb (x_t6 (List.mem_of_getElem? (i := 12) rfl)) rfl), by decide, by decide, by decide +kernel⟩
theorem cv_RL_178 : x_cv RL 178 yX12_sentence cX12_sentence 2 (some .int) 0 := ⟨(x_tb (x_t9 (List.mem_of_getElem? (i := 101) rfl)) rfl), (x_tb (x_t9 (List.mem_of_getElem? (i := 102) rfl)) rfl), (x_tb (x_t9 (List.mem_of_getElem? (i := 103) rfl)) rfl), (x_tb (x_t1 (List.mem_of_getElem? (i := 17) rfl)) rfl), (x_tb (x_t9 (List.mem_of_getElem? (i := 104) rfl)) rfl), by decide, by decide, by decide +kernel⟩
theorem cv_RL_179 : x_cv RL 179 yX11_said cX11_said 3 (some .int) 1 := ⟨(x_tb (x_t6 (List.mem_of_getElem? (i := 62) rfl)) rfl), (x_tb (x_t6 (List.mem_of_getElem? (i := 63) rfl)) rfl), (x_tb (x_t6 (List.mem_of_getElem? (i := 64) rfl)) rfl), (x_tb (x_t1 (List.mem_of_getElem? (i := 1) rfl)) rfl), (x_tb (x_t6 (List.mem_of_getElem? (i := 65) rfl)) rfl), by decide, by decide, by decide +kernel⟩
theorem cv_RL_182 : x_cv RL 182 yX12_said cX12_said 4 (some .int) 1 := ⟨(x_tb (x_t9 (List.mem_of_getElem? (i := 137) rfl)) rfl), (x_tb (x_t9 (List.mem_of_getElem? (i := 138) rfl)) rfl), (x_tb (x_t9 (List.mem_of_getElem? (i := 139) rfl)) rfl), (x_tb (x_t1 (List.mem_of_getElem? (i := 17) rfl)) rfl), (x_tb (x_t9 (List.mem_of_getElem? (i := 140) rfl)) rfl), by decide, by decide, by decide +kernel⟩
theorem cv_RL_183 : x_cv RL 183 yX11_image cX11_image 3 (some .boolean) 1 := ⟨(x_tb (x_t6 (List.mem_of_getElem? (i := 88) rfl)) rfl), (x_tb (x_t6 (List.mem_of_getElem? (i := 89) rfl)) rfl), (x_tb (x_t6 (List.mem_of_getElem? (i := 90) rfl)) rfl), (x_tb (x_t1 (List.mem_of_getElem? (i := 1) rfl)) rfl), (x_tb (x_t6 (List.mem_of_getElem? (i := 91) rfl)) rfl), by decide, by decide, by decide +kernel⟩
theorem cv_RL_186 : x_cv RL 186 yX12_image cX12_image 3 (some .boolean) 1 := ⟨(x_tb (x_t9 (List.mem_of_getElem? (i := 145) rfl)) rfl), (x_tb (x_t9 (List.mem_of_getElem? (i := 146) rfl)) rfl), (x_tb (x_t9 (List.mem_of_getElem? (i := 147) rfl)) rfl), (x_tb (x_t1 (List.mem_of_getElem? (i := 17) rfl)) rfl), (x_tb (x_t9 (List.mem_of_getElem? (i := 148) rfl)) rfl), by decide, by decide, by decide +kernel⟩
theorem cv_RL_187 : x_cv RL 187 yX11_restore cX11_restore 3 (some .boolean) 1 := ⟨(x_tb (x_t6 (List.mem_of_getElem? (i := 102) rfl)) rfl), (x_tb (x_t6 (List.mem_of_getElem? (i := 103) rfl)) rfl), (x_tb (x_t6 (List.mem_of_getElem? (i := 104) rfl)) rfl), (x_tb (x_t1 (List.mem_of_getElem? (i := 1) rfl)) rfl), (x_tb (x_t6 (List.mem_of_getElem? (i := 105) rfl)) rfl), by decide, by decide, by decide +kernel⟩
theorem cv_RL_190 : x_cv RL 190 yX12_restore cX12_restore 3 (some .boolean) 1 := ⟨(x_tb (x_t9 (List.mem_of_getElem? (i := 149) rfl)) rfl), (x_tb (x_t9 (List.mem_of_getElem? (i := 150) rfl)) rfl), (x_tb (x_t9 (List.mem_of_getElem? (i := 151) rfl)) rfl), (x_tb (x_t1 (List.mem_of_getElem? (i := 17) rfl)) rfl), (x_tb (x_t9 (List.mem_of_getElem? (i := 152) rfl)) rfl), by decide, by decide, by decide +kernel⟩
theorem cv_RL_191 : x_cv RL 191 yX11_count cX11_count 2 (some .int) 1 := ⟨(x_tb (x_t4 (List.mem_of_getElem? (i := 123) rfl)) rfl), (x_tb (x_t4 (List.mem_of_getElem? (i := 124) rfl)) rfl), (x_tb (x_t4 (List.mem_of_getElem? (i := 125) rfl)) rfl), (x_tb (x_t1 (List.mem_of_getElem? (i := 1) rfl)) rfl), (x_tb (x_t4 (List.mem_of_getElem? (i := 126) rfl)) rfl), by decide, by decide, by decide +kernel⟩
theorem cv_RL_194 : x_cv RL 194 yX12_count cX12_count 2 (some .int) 1 := ⟨(x_tb (x_t9 (List.mem_of_getElem? (i := 153) rfl)) rfl), (x_tb (x_t9 (List.mem_of_getElem? (i := 154) rfl)) rfl), (x_tb (x_t9 (List.mem_of_getElem? (i := 155) rfl)) rfl), (x_tb (x_t1 (List.mem_of_getElem? (i := 17) rfl)) rfl), (x_tb (x_t9 (List.mem_of_getElem? (i := 156) rfl)) rfl), by decide, by decide, by decide +kernel⟩
theorem q_ic_6 : Int32.ofInt 6 = 6 := by decide
theorem cv_RL_7 : x_cv RL 7 yX11_walker cX11_walker 3 (some .int) 2 := ⟨(x_tb (x_t6 (List.mem_of_getElem? (i := 110) rfl)) rfl), (x_tb (x_t6 (List.mem_of_getElem? (i := 111) rfl)) rfl), (x_tb (x_t6 (List.mem_of_getElem? (i := 112) rfl)) rfl), (x_tb (x_t1 (List.mem_of_getElem? (i := 1) rfl)) rfl), (x_tb (x_t6 (List.mem_of_getElem? (i := 113) rfl)) rfl), by decide, by decide, by decide +kernel⟩
theorem cv_RL_15 : x_cv RL 15 yX11_mean cX11_mean 7 (some .int) 2 := ⟨(x_tb (x_t6 (List.mem_of_getElem? (i := 178) rfl)) rfl), (x_tb (x_t6 (List.mem_of_getElem? (i := 179) rfl)) rfl), (x_tb (x_t6 (List.mem_of_getElem? (i := 180) rfl)) rfl), (x_tb (x_t1 (List.mem_of_getElem? (i := 1) rfl)) rfl), (x_tb (x_t6 (List.mem_of_getElem? (i := 181) rfl)) rfl), by decide, by decide, by decide +kernel⟩
theorem k_lcl13 : Cond.classLink RL 13 "java/util/NoSuchElementException" ∈ x_TB := (x_tb (x_t6 (List.mem_of_getElem? (i := 109) rfl)) rfl)
theorem k_larr : Cond.arrayClass .long ∈ x_TB := (x_tb (x_t1 (List.mem_of_getElem? (i := 149) rfl)) rfl)
set_option maxRecDepth 100000 in
theorem nw_RL_8 : x_nw RL 8 11 11 [2, 2, 2, 2, 2, 2, 2, 2, 2, 2, 2] := ⟨RX11, TX11, tyX11, rfl, (x_tb (x_t1 (List.mem_of_getElem? (i := 24) rfl)) rfl), (x_tb (x_t1 (List.mem_of_getElem? (i := 25) rfl)) rfl), (x_tb (x_t1 (List.mem_of_getElem? (i := 1) rfl)) rfl), wsIn11, tyX11_ok, fun j hj => by
  match j, hj with
  | 0, _ => exact Or.inr (Or.inr ⟨rfl, rfl⟩)
  | 1, _ => exact Or.inr (Or.inr ⟨rfl, rfl⟩)
  | 2, _ => exact Or.inr (Or.inr ⟨rfl, rfl⟩)
  | 3, _ => exact Or.inr (Or.inr ⟨rfl, rfl⟩)
  | 4, _ => exact Or.inr (Or.inr ⟨rfl, rfl⟩)
  | 5, _ => exact Or.inr (Or.inr ⟨rfl, rfl⟩)
  | 6, _ => exact Or.inr (Or.inr ⟨rfl, rfl⟩)
  | 7, _ => exact Or.inr (Or.inr ⟨rfl, rfl⟩)
  | 8, _ => exact Or.inr (Or.inr ⟨rfl, rfl⟩)
  | 9, _ => exact Or.inr (Or.inr ⟨rfl, rfl⟩)
  | 10, _ => exact Or.inr (Or.inr ⟨rfl, rfl⟩)
  | j + 11, h => exact absurd h (by omega)⟩
set_option maxRecDepth 100000 in
theorem nw_RL_19 : x_nw RL 19 12 47 [0, 2, 0, 0, 0, 0, 0, 0, 0, 0, 0, 0, 1, 0, 2, 2, 2, 2, 2, 2, 2, 2, 2, 0, 0, 2, 2, 0, 2, 2, 2, 0, 0, 0, 0, 2, 0, 0, 2, 2, 0, 0, 2, 0, 0, 0, 0] := ⟨RX12, TX12, tyX12, rfl, (x_tb (x_t6 (List.mem_of_getElem? (i := 203) rfl)) rfl), (x_tb (x_t6 (List.mem_of_getElem? (i := 197) rfl)) rfl), (x_tb (x_t1 (List.mem_of_getElem? (i := 17) rfl)) rfl), wsIn12, tyX12_ok, fun j hj => by
  match j, hj with
  | 0, _ => exact Or.inl ⟨rfl, rfl⟩
  | 1, _ => exact Or.inr (Or.inr ⟨rfl, rfl⟩)
  | 2, _ => exact Or.inl ⟨rfl, rfl⟩
  | 3, _ => exact Or.inl ⟨rfl, rfl⟩
  | 4, _ => exact Or.inl ⟨rfl, rfl⟩
  | 5, _ => exact Or.inl ⟨rfl, rfl⟩
  | 6, _ => exact Or.inl ⟨rfl, rfl⟩
  | 7, _ => exact Or.inl ⟨rfl, rfl⟩
  | 8, _ => exact Or.inl ⟨rfl, rfl⟩
  | 9, _ => exact Or.inl ⟨rfl, rfl⟩
  | 10, _ => exact Or.inl ⟨rfl, rfl⟩
  | 11, _ => exact Or.inl ⟨rfl, rfl⟩
  | 12, _ => exact Or.inr (Or.inl ⟨rfl, rfl⟩)
  | 13, _ => exact Or.inl ⟨rfl, rfl⟩
  | 14, _ => exact Or.inr (Or.inr ⟨rfl, rfl⟩)
  | 15, _ => exact Or.inr (Or.inr ⟨rfl, rfl⟩)
  | 16, _ => exact Or.inr (Or.inr ⟨rfl, rfl⟩)
  | 17, _ => exact Or.inr (Or.inr ⟨rfl, rfl⟩)
  | 18, _ => exact Or.inr (Or.inr ⟨rfl, rfl⟩)
  | 19, _ => exact Or.inr (Or.inr ⟨rfl, rfl⟩)
  | 20, _ => exact Or.inr (Or.inr ⟨rfl, rfl⟩)
  | 21, _ => exact Or.inr (Or.inr ⟨rfl, rfl⟩)
  | 22, _ => exact Or.inr (Or.inr ⟨rfl, rfl⟩)
  | 23, _ => exact Or.inl ⟨rfl, rfl⟩
  | 24, _ => exact Or.inl ⟨rfl, rfl⟩
  | 25, _ => exact Or.inr (Or.inr ⟨rfl, rfl⟩)
  | 26, _ => exact Or.inr (Or.inr ⟨rfl, rfl⟩)
  | 27, _ => exact Or.inl ⟨rfl, rfl⟩
  | 28, _ => exact Or.inr (Or.inr ⟨rfl, rfl⟩)
  | 29, _ => exact Or.inr (Or.inr ⟨rfl, rfl⟩)
  | 30, _ => exact Or.inr (Or.inr ⟨rfl, rfl⟩)
  | 31, _ => exact Or.inl ⟨rfl, rfl⟩
  | 32, _ => exact Or.inl ⟨rfl, rfl⟩
  | 33, _ => exact Or.inl ⟨rfl, rfl⟩
  | 34, _ => exact Or.inl ⟨rfl, rfl⟩
  | 35, _ => exact Or.inr (Or.inr ⟨rfl, rfl⟩)
  | 36, _ => exact Or.inl ⟨rfl, rfl⟩
  | 37, _ => exact Or.inl ⟨rfl, rfl⟩
  | 38, _ => exact Or.inr (Or.inr ⟨rfl, rfl⟩)
  | 39, _ => exact Or.inr (Or.inr ⟨rfl, rfl⟩)
  | 40, _ => exact Or.inl ⟨rfl, rfl⟩
  | 41, _ => exact Or.inl ⟨rfl, rfl⟩
  | 42, _ => exact Or.inr (Or.inr ⟨rfl, rfl⟩)
  | 43, _ => exact Or.inl ⟨rfl, rfl⟩
  | 44, _ => exact Or.inl ⟨rfl, rfl⟩
  | 45, _ => exact Or.inl ⟨rfl, rfl⟩
  | 46, _ => exact Or.inl ⟨rfl, rfl⟩
  | j + 47, h => exact absurd h (by omega)⟩
theorem ci_RL_18 : x_ci RL 18 yX11_init cX11_init 1 0 := ⟨Or.inl (x_tb (x_t1 (List.mem_of_getElem? (i := 26) rfl)) rfl), (x_tb (x_t1 (List.mem_of_getElem? (i := 27) rfl)) rfl), (x_tb (x_t1 (List.mem_of_getElem? (i := 1) rfl)) rfl), (x_tb (x_t1 (List.mem_of_getElem? (i := 28) rfl)) rfl), by decide, by decide, by decide +kernel, rfl⟩
theorem ci_RL_21 : x_ci RL 21 yX12_init cX12_init 1 0 := ⟨Or.inl (x_tb (x_t6 (List.mem_of_getElem? (i := 204) rfl)) rfl), (x_tb (x_t6 (List.mem_of_getElem? (i := 205) rfl)) rfl), (x_tb (x_t1 (List.mem_of_getElem? (i := 17) rfl)) rfl), (x_tb (x_t6 (List.mem_of_getElem? (i := 206) rfl)) rfl), by decide, by decide, by decide +kernel, rfl⟩
theorem dL_walker_0 : decode cL_walker 0 = .ok (.aload_n 3, 1) := by decide +kernel
theorem dL_walker_1 : decode cL_walker 1 = .ok (.iconst 0, 1) := by decide +kernel
theorem dL_walker_2 : decode cL_walker 2 = .ok (.aload_n 0, 1) := by decide +kernel
theorem dL_walker_3 : decode cL_walker 3 = .ok (.iload_n 1, 1) := by decide +kernel
theorem dL_walker_4 : decode cL_walker 4 = .ok (.iload_n 2, 1) := by decide +kernel
theorem dL_walker_5 : decode cL_walker 5 = .ok (.invokevirtual 7, 3) := by decide +kernel
theorem dL_walker_8 : decode cL_walker 8 = .ok (.i2l, 1) := by decide +kernel
theorem dL_walker_9 : decode cL_walker 9 = .ok (.lastore, 1) := by decide +kernel
theorem dL_walker_10 : decode cL_walker 10 = .ok (.goto 7, 3) := by decide +kernel
theorem dL_walker_13 : decode cL_walker 13 = .ok (.astore 4, 2) := by decide +kernel
theorem dL_walker_15 : decode cL_walker 15 = .ok (.iconst 1, 1) := by decide +kernel
theorem dL_walker_16 : decode cL_walker 16 = .ok (.ireturn, 1) := by decide +kernel
theorem dL_walker_17 : decode cL_walker 17 = .ok (.iconst 0, 1) := by decide +kernel
theorem dL_walker_18 : decode cL_walker 18 = .ok (.ireturn, 1) := by decide +kernel
def f_L_walker (v0 v1 : XM) (x1 x2 : Int32) : Option (Int32 × XM × XM) :=
  x_bo (f_X11_walker v0 x1 x2) (fun y =>
  if y.1 = 0 then some ((0 : Int32), y.2.2, x_pl v1 0 (0 : Int32) ((y.2.1 : Int32).toInt64)) else some ((1 : Int32), y.2.2, v1))
set_option maxRecDepth 100000 in
set_option maxHeartbeats 4000000 in
theorem c_L_walker {l : Launch} (hl0 : l.stackTraces = false) {ad0 ad1 : Nat → Nat} {v0 v1 : XM} {x1 x2 : Int32} {o : Int32 × XM × XM} (h : f_L_walker v0 v1 x1 x2 = some o) : CTH l yL_walker cL_walker 5 (some .int) [(0, 10, 13, 13)] 8 [(shFoldRoads, ad0), ((shLongs 1), ad1)] [v0, v1] (fun aK => [.ref (ad0 0), .int x1, .int x2, .ref (ad1 0)]) (some (.int o.1)) [o.2.1, o.2.2] := by
  refine CTH_of (by decide) (fun _ => Nat.le_of_ble_eq_true rfl) ?_
  intro p e s m args below meth c D tc aK aV A X htab hNw
  have X : Cx p s m args meth c cL_walker 5 (some .int) RL D tc aK aV A [(shFoldRoads, ad0), ((shLongs 1), ad1)] := X
  unfold f_L_walker at h
  obtain ⟨y, e_y, h⟩ := x_bo_elim h
  show bW p l e (x_RmX 8) s m args below meth c D tc A 5 [(shFoldRoads, ad0), ((shLongs 1), ad1)] 0 0 (MQ below (x_Q (some (.int o.1)) True D tc [(shFoldRoads, ad0), ((shLongs 1), ad1)] [o.2.1, o.2.2] A) args s 1 6 A) 0 [(0, .ref (ad0 0)), (1, .int x1), (2, .int x2), (3, .ref (ad1 0))] [] [v0, v1]
  refine a_aload_n (pc := 0) X 3 dL_walker_0 rfl rfl ?_
  refine a_iconst (pc := 1) X dL_walker_1 q_ic_0 ?_
  refine a_aload_n (pc := 2) X 0 dL_walker_2 rfl rfl ?_
  refine a_iload_n (pc := 3) X 1 dL_walker_3 rfl rfl ?_
  refine a_iload_n (pc := 4) X 2 dL_walker_4 rfl rfl ?_
  refine a_callVX (pc := 5) (st2 := [.int (y.2.1), .int (0 : Int32), .ref (ad1 0)]) (vs2 := [y.2.2, v1]) X hNw [(0, 0, 318)] [some y.2.2] 0 0 11 [.int x1, .int x2] [.int (0 : Int32), .ref (ad1 0)] cv_RL_7 (c_X11_walker hl0 (ad0 := ad0) e_y) rfl rfl rfl rfl rfl rfl rfl rfl rfl rfl rfl rfl rfl rfl rfl (Nat.le_of_ble_eq_true rfl) ⟨Nat.le_of_ble_eq_true rfl, Nat.le_of_ble_eq_true rfl⟩ dL_walker_5 (fun hth => ?_) (fun hth => ?_) ⟨Nat.le_of_ble_eq_true rfl, Nat.le_of_ble_eq_true rfl⟩
  · have h := x_ifp hth h
    have h := Option.some.inj h; subst h
    refine a_i2l (pc := 8) X dL_walker_8 ?_
    refine a_last (pc := 9) X 1 rfl rfl rfl (x_inl (by decide)) dL_walker_9 ?_
    refine a_goto (pc := 10) X 17 dL_walker_10 rfl ?_
    refine a_iconst (pc := 17) X dL_walker_17 q_ic_0 ?_
    exact a_iret (pc := 18) X trivial dL_walker_18
  · have hne : ¬ y.1 = 0 := fun q => by rw [hth] at q; exact absurd q (by decide)
    have h := x_ifn hne h
    have h := Option.some.inj h; subst h
    refine a_catch1 X hNw htab (by decide) (by decide) k_lcl13 (fun q => ?_)
    refine a_astore (pc := 13) X [(4, .ref q), (0, .ref (ad0 0)), (1, .int x1), (2, .int x2), (3, .ref (ad1 0))] dL_walker_13 (by decide) rfl ?_
    refine a_iconst (pc := 15) X dL_walker_15 q_ic_1 ?_
    exact a_iret (pc := 16) X trivial dL_walker_16
theorem dL_mean_0 : decode cL_mean 0 = .ok (.aload_n 3, 1) := by decide +kernel
theorem dL_mean_1 : decode cL_mean 1 = .ok (.iconst 0, 1) := by decide +kernel
theorem dL_mean_2 : decode cL_mean 2 = .ok (.aload_n 0, 1) := by decide +kernel
theorem dL_mean_3 : decode cL_mean 3 = .ok (.iload_n 1, 1) := by decide +kernel
theorem dL_mean_4 : decode cL_mean 4 = .ok (.iload_n 2, 1) := by decide +kernel
theorem dL_mean_5 : decode cL_mean 5 = .ok (.invokevirtual 15, 3) := by decide +kernel
theorem dL_mean_8 : decode cL_mean 8 = .ok (.i2l, 1) := by decide +kernel
theorem dL_mean_9 : decode cL_mean 9 = .ok (.lastore, 1) := by decide +kernel
theorem dL_mean_10 : decode cL_mean 10 = .ok (.goto 7, 3) := by decide +kernel
theorem dL_mean_13 : decode cL_mean 13 = .ok (.astore 4, 2) := by decide +kernel
theorem dL_mean_15 : decode cL_mean 15 = .ok (.iconst 1, 1) := by decide +kernel
theorem dL_mean_16 : decode cL_mean 16 = .ok (.ireturn, 1) := by decide +kernel
theorem dL_mean_17 : decode cL_mean 17 = .ok (.iconst 0, 1) := by decide +kernel
theorem dL_mean_18 : decode cL_mean 18 = .ok (.ireturn, 1) := by decide +kernel
def f_L_mean (v0 v1 : XM) (x1 x2 : Int32) : Option (Int32 × XM × XM) :=
  x_bo (f_X11_mean v0 x1 x2) (fun y =>
  if y.1 = 0 then some ((0 : Int32), v0, x_pl v1 0 (0 : Int32) ((y.2 : Int32).toInt64)) else some ((1 : Int32), v0, v1))
set_option maxRecDepth 100000 in
set_option maxHeartbeats 4000000 in
theorem c_L_mean {l : Launch} (hl0 : l.stackTraces = false) {ad0 ad1 : Nat → Nat} {v0 v1 : XM} {x1 x2 : Int32} {o : Int32 × XM × XM} (h : f_L_mean v0 v1 x1 x2 = some o) : CTH l yL_mean cL_mean 5 (some .int) [(0, 10, 13, 13)] 7 [(shFoldRoads, ad0), ((shLongs 1), ad1)] [v0, v1] (fun aK => [.ref (ad0 0), .int x1, .int x2, .ref (ad1 0)]) (some (.int o.1)) [o.2.1, o.2.2] := by
  refine CTH_of (by decide) (fun _ => Nat.le_of_ble_eq_true rfl) ?_
  intro p e s m args below meth c D tc aK aV A X htab hNw
  have X : Cx p s m args meth c cL_mean 5 (some .int) RL D tc aK aV A [(shFoldRoads, ad0), ((shLongs 1), ad1)] := X
  unfold f_L_mean at h
  obtain ⟨y, e_y, h⟩ := x_bo_elim h
  show bW p l e (x_RmX 7) s m args below meth c D tc A 5 [(shFoldRoads, ad0), ((shLongs 1), ad1)] 0 0 (MQ below (x_Q (some (.int o.1)) True D tc [(shFoldRoads, ad0), ((shLongs 1), ad1)] [o.2.1, o.2.2] A) args s 1 6 A) 0 [(0, .ref (ad0 0)), (1, .int x1), (2, .int x2), (3, .ref (ad1 0))] [] [v0, v1]
  refine a_aload_n (pc := 0) X 3 dL_mean_0 rfl rfl ?_
  refine a_iconst (pc := 1) X dL_mean_1 q_ic_0 ?_
  refine a_aload_n (pc := 2) X 0 dL_mean_2 rfl rfl ?_
  refine a_iload_n (pc := 3) X 1 dL_mean_3 rfl rfl ?_
  refine a_iload_n (pc := 4) X 2 dL_mean_4 rfl rfl ?_
  refine a_callVX (pc := 5) (st2 := [.int (y.2), .int (0 : Int32), .ref (ad1 0)]) (vs2 := [v0, v1]) X hNw [(0, 0, 318)] [none] 0 0 11 [.int x1, .int x2] [.int (0 : Int32), .ref (ad1 0)] cv_RL_15 (c_X11_mean hl0 (ad0 := ad0) e_y) rfl rfl rfl rfl rfl rfl rfl rfl rfl rfl rfl rfl rfl rfl rfl (Nat.le_of_ble_eq_true rfl) ⟨Nat.le_of_ble_eq_true rfl, Nat.le_of_ble_eq_true rfl⟩ dL_mean_5 (fun hth => ?_) (fun hth => ?_) ⟨Nat.le_of_ble_eq_true rfl, Nat.le_of_ble_eq_true rfl⟩
  · have h := x_ifp hth h
    have h := Option.some.inj h; subst h
    refine a_i2l (pc := 8) X dL_mean_8 ?_
    refine a_last (pc := 9) X 1 rfl rfl rfl (x_inl (by decide)) dL_mean_9 ?_
    refine a_goto (pc := 10) X 17 dL_mean_10 rfl ?_
    refine a_iconst (pc := 17) X dL_mean_17 q_ic_0 ?_
    exact a_iret (pc := 18) X trivial dL_mean_18
  · have hne : ¬ y.1 = 0 := fun q => by rw [hth] at q; exact absurd q (by decide)
    have h := x_ifn hne h
    have h := Option.some.inj h; subst h
    refine a_catch1 X hNw htab (by decide) (by decide) k_lcl13 (fun q => ?_)
    refine a_astore (pc := 13) X [(4, .ref q), (0, .ref (ad0 0)), (1, .int x1), (2, .int x2), (3, .ref (ad1 0))] dL_mean_13 (by decide) rfl ?_
    refine a_iconst (pc := 15) X dL_mean_15 q_ic_1 ?_
    exact a_iret (pc := 16) X trivial dL_mean_16
