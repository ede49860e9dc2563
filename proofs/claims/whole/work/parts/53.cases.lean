/-! Part 53: the cases of the law. (Printed by wip/whole/mk53.py.) -/
theorem hwl_X6_write : Cond.methodLink "SignpostYardLaw" 13 yX6_write ∈ TB ∧ Cond.instanceMethod yX6_write ∈ TB ∧ Cond.selects RX6 yX6_write yX6_write ∈ TB ∧ Cond.initialized RX6 ∈ TB ∧ Cond.code yX6_write cX6_write 2 (some .int) ∈ TB := ⟨TBm 394 (by decide +kernel) (by decide +kernel), TBm 395 (by decide +kernel) (by decide +kernel), TBm 396 (by decide +kernel) (by decide +kernel), TBm 54 (by decide +kernel) (by decide +kernel), TBm 397 (by decide +kernel) (by decide +kernel)⟩
theorem hdl_X6_write : yX6_write.cls = RX6 ∧ yX6_write.cls ≠ "java/lang/invoke/MethodHandle" ∧ yX6_write.cls ≠ "java/lang/invoke/VarHandle" ∧ (parseMethodDescriptor yX6_write.desc).map (fun d => d.parameters.length) = some 1 := ⟨rfl, by decide +kernel, by decide +kernel, by decide +kernel⟩
theorem hwl_X7_write : Cond.methodLink "SignpostYardLaw" 17 yX7_write ∈ TB ∧ Cond.instanceMethod yX7_write ∈ TB ∧ Cond.selects RX7 yX7_write yX7_write ∈ TB ∧ Cond.initialized RX7 ∈ TB ∧ Cond.code yX7_write cX7_write 2 (some .int) ∈ TB := ⟨TBm 963 (by decide +kernel) (by decide +kernel), TBm 964 (by decide +kernel) (by decide +kernel), TBm 965 (by decide +kernel) (by decide +kernel), TBm 66 (by decide +kernel) (by decide +kernel), TBm 966 (by decide +kernel) (by decide +kernel)⟩
theorem hdl_X7_write : yX7_write.cls = RX7 ∧ yX7_write.cls ≠ "java/lang/invoke/MethodHandle" ∧ yX7_write.cls ≠ "java/lang/invoke/VarHandle" ∧ (parseMethodDescriptor yX7_write.desc).map (fun d => d.parameters.length) = some 1 := ⟨rfl, by decide +kernel, by decide +kernel, by decide +kernel⟩
theorem hwl_X6_wipe : Cond.methodLink "SignpostYardLaw" 18 yX6_wipe ∈ TB ∧ Cond.instanceMethod yX6_wipe ∈ TB ∧ Cond.selects RX6 yX6_wipe yX6_wipe ∈ TB ∧ Cond.initialized RX6 ∈ TB ∧ Cond.code yX6_wipe cX6_wipe 1 (some .int) ∈ TB := ⟨TBm 398 (by decide +kernel) (by decide +kernel), TBm 399 (by decide +kernel) (by decide +kernel), TBm 400 (by decide +kernel) (by decide +kernel), TBm 54 (by decide +kernel) (by decide +kernel), TBm 401 (by decide +kernel) (by decide +kernel)⟩
theorem hdl_X6_wipe : yX6_wipe.cls = RX6 ∧ yX6_wipe.cls ≠ "java/lang/invoke/MethodHandle" ∧ yX6_wipe.cls ≠ "java/lang/invoke/VarHandle" ∧ (parseMethodDescriptor yX6_wipe.desc).map (fun d => d.parameters.length) = some 0 := ⟨rfl, by decide +kernel, by decide +kernel, by decide +kernel⟩
theorem hwl_X7_wipe : Cond.methodLink "SignpostYardLaw" 22 yX7_wipe ∈ TB ∧ Cond.instanceMethod yX7_wipe ∈ TB ∧ Cond.selects RX7 yX7_wipe yX7_wipe ∈ TB ∧ Cond.initialized RX7 ∈ TB ∧ Cond.code yX7_wipe cX7_wipe 2 (some .int) ∈ TB := ⟨TBm 970 (by decide +kernel) (by decide +kernel), TBm 971 (by decide +kernel) (by decide +kernel), TBm 972 (by decide +kernel) (by decide +kernel), TBm 66 (by decide +kernel) (by decide +kernel), TBm 973 (by decide +kernel) (by decide +kernel)⟩
theorem hdl_X7_wipe : yX7_wipe.cls = RX7 ∧ yX7_wipe.cls ≠ "java/lang/invoke/MethodHandle" ∧ yX7_wipe.cls ≠ "java/lang/invoke/VarHandle" ∧ (parseMethodDescriptor yX7_wipe.desc).map (fun d => d.parameters.length) = some 0 := ⟨rfl, by decide +kernel, by decide +kernel, by decide +kernel⟩
theorem hwl_X6_fault : Cond.methodLink "SignpostYardLaw" 23 yX6_fault ∈ TB ∧ Cond.instanceMethod yX6_fault ∈ TB ∧ Cond.selects RX6 yX6_fault yX6_fault ∈ TB ∧ Cond.initialized RX6 ∈ TB ∧ Cond.code yX6_fault cX6_fault 1 (some .int) ∈ TB := ⟨TBm 402 (by decide +kernel) (by decide +kernel), TBm 403 (by decide +kernel) (by decide +kernel), TBm 404 (by decide +kernel) (by decide +kernel), TBm 54 (by decide +kernel) (by decide +kernel), TBm 405 (by decide +kernel) (by decide +kernel)⟩
theorem hdl_X6_fault : yX6_fault.cls = RX6 ∧ yX6_fault.cls ≠ "java/lang/invoke/MethodHandle" ∧ yX6_fault.cls ≠ "java/lang/invoke/VarHandle" ∧ (parseMethodDescriptor yX6_fault.desc).map (fun d => d.parameters.length) = some 0 := ⟨rfl, by decide +kernel, by decide +kernel, by decide +kernel⟩
theorem hwl_X7_fault : Cond.methodLink "SignpostYardLaw" 26 yX7_fault ∈ TB ∧ Cond.instanceMethod yX7_fault ∈ TB ∧ Cond.selects RX7 yX7_fault yX7_fault ∈ TB ∧ Cond.initialized RX7 ∈ TB ∧ Cond.code yX7_fault cX7_fault 1 (some .int) ∈ TB := ⟨TBm 974 (by decide +kernel) (by decide +kernel), TBm 975 (by decide +kernel) (by decide +kernel), TBm 976 (by decide +kernel) (by decide +kernel), TBm 66 (by decide +kernel) (by decide +kernel), TBm 977 (by decide +kernel) (by decide +kernel)⟩
theorem hdl_X7_fault : yX7_fault.cls = RX7 ∧ yX7_fault.cls ≠ "java/lang/invoke/MethodHandle" ∧ yX7_fault.cls ≠ "java/lang/invoke/VarHandle" ∧ (parseMethodDescriptor yX7_fault.desc).map (fun d => d.parameters.length) = some 0 := ⟨rfl, by decide +kernel, by decide +kernel, by decide +kernel⟩
theorem hwl_X6_lay : Cond.methodLink "SignpostYardLaw" 27 yX6_lay ∈ TB ∧ Cond.instanceMethod yX6_lay ∈ TB ∧ Cond.selects RX6 yX6_lay yX6_lay ∈ TB ∧ Cond.initialized RX6 ∈ TB ∧ Cond.code yX6_lay cX6_lay 1 (some .int) ∈ TB := ⟨TBm 406 (by decide +kernel) (by decide +kernel), TBm 407 (by decide +kernel) (by decide +kernel), TBm 408 (by decide +kernel) (by decide +kernel), TBm 54 (by decide +kernel) (by decide +kernel), TBm 409 (by decide +kernel) (by decide +kernel)⟩
theorem hdl_X6_lay : yX6_lay.cls = RX6 ∧ yX6_lay.cls ≠ "java/lang/invoke/MethodHandle" ∧ yX6_lay.cls ≠ "java/lang/invoke/VarHandle" ∧ (parseMethodDescriptor yX6_lay.desc).map (fun d => d.parameters.length) = some 0 := ⟨rfl, by decide +kernel, by decide +kernel, by decide +kernel⟩
theorem hwl_X7_lay : Cond.methodLink "SignpostYardLaw" 30 yX7_lay ∈ TB ∧ Cond.instanceMethod yX7_lay ∈ TB ∧ Cond.selects RX7 yX7_lay yX7_lay ∈ TB ∧ Cond.initialized RX7 ∈ TB ∧ Cond.code yX7_lay cX7_lay 1 (some .int) ∈ TB := ⟨TBm 1014 (by decide +kernel) (by decide +kernel), TBm 1015 (by decide +kernel) (by decide +kernel), TBm 1016 (by decide +kernel) (by decide +kernel), TBm 66 (by decide +kernel) (by decide +kernel), TBm 1017 (by decide +kernel) (by decide +kernel)⟩
theorem hdl_X7_lay : yX7_lay.cls = RX7 ∧ yX7_lay.cls ≠ "java/lang/invoke/MethodHandle" ∧ yX7_lay.cls ≠ "java/lang/invoke/VarHandle" ∧ (parseMethodDescriptor yX7_lay.desc).map (fun d => d.parameters.length) = some 0 := ⟨rfl, by decide +kernel, by decide +kernel, by decide +kernel⟩
theorem hwl_X6_road : Cond.methodLink "SignpostYardLaw" 31 yX6_road ∈ TB ∧ Cond.instanceMethod yX6_road ∈ TB ∧ Cond.selects RX6 yX6_road yX6_road ∈ TB ∧ Cond.initialized RX6 ∈ TB ∧ Cond.code yX6_road cX6_road 4 (some .int) ∈ TB := ⟨TBm 442 (by decide +kernel) (by decide +kernel), TBm 443 (by decide +kernel) (by decide +kernel), TBm 444 (by decide +kernel) (by decide +kernel), TBm 54 (by decide +kernel) (by decide +kernel), TBm 445 (by decide +kernel) (by decide +kernel)⟩
theorem hdl_X6_road : yX6_road.cls = RX6 ∧ yX6_road.cls ≠ "java/lang/invoke/MethodHandle" ∧ yX6_road.cls ≠ "java/lang/invoke/VarHandle" ∧ (parseMethodDescriptor yX6_road.desc).map (fun d => d.parameters.length) = some 2 := ⟨rfl, by decide +kernel, by decide +kernel, by decide +kernel⟩
theorem hwl_X7_road : Cond.methodLink "SignpostYardLaw" 35 yX7_road ∈ TB ∧ Cond.instanceMethod yX7_road ∈ TB ∧ Cond.selects RX7 yX7_road yX7_road ∈ TB ∧ Cond.initialized RX7 ∈ TB ∧ Cond.code yX7_road cX7_road 4 (some .int) ∈ TB := ⟨TBm 1018 (by decide +kernel) (by decide +kernel), TBm 1019 (by decide +kernel) (by decide +kernel), TBm 1020 (by decide +kernel) (by decide +kernel), TBm 66 (by decide +kernel) (by decide +kernel), TBm 1021 (by decide +kernel) (by decide +kernel)⟩
theorem hdl_X7_road : yX7_road.cls = RX7 ∧ yX7_road.cls ≠ "java/lang/invoke/MethodHandle" ∧ yX7_road.cls ≠ "java/lang/invoke/VarHandle" ∧ (parseMethodDescriptor yX7_road.desc).map (fun d => d.parameters.length) = some 2 := ⟨rfl, by decide +kernel, by decide +kernel, by decide +kernel⟩
theorem hwl_X6_post : Cond.methodLink "SignpostYardLaw" 36 yX6_post ∈ TB ∧ Cond.instanceMethod yX6_post ∈ TB ∧ Cond.selects RX6 yX6_post yX6_post ∈ TB ∧ Cond.initialized RX6 ∈ TB ∧ Cond.code yX6_post cX6_post 3 (some .int) ∈ TB := ⟨TBm 455 (by decide +kernel) (by decide +kernel), TBm 456 (by decide +kernel) (by decide +kernel), TBm 457 (by decide +kernel) (by decide +kernel), TBm 54 (by decide +kernel) (by decide +kernel), TBm 458 (by decide +kernel) (by decide +kernel)⟩
theorem hdl_X6_post : yX6_post.cls = RX6 ∧ yX6_post.cls ≠ "java/lang/invoke/MethodHandle" ∧ yX6_post.cls ≠ "java/lang/invoke/VarHandle" ∧ (parseMethodDescriptor yX6_post.desc).map (fun d => d.parameters.length) = some 2 := ⟨rfl, by decide +kernel, by decide +kernel, by decide +kernel⟩
theorem hwl_X7_post : Cond.methodLink "SignpostYardLaw" 39 yX7_post ∈ TB ∧ Cond.instanceMethod yX7_post ∈ TB ∧ Cond.selects RX7 yX7_post yX7_post ∈ TB ∧ Cond.initialized RX7 ∈ TB ∧ Cond.code yX7_post cX7_post 3 (some .int) ∈ TB := ⟨TBm 1026 (by decide +kernel) (by decide +kernel), TBm 1027 (by decide +kernel) (by decide +kernel), TBm 1028 (by decide +kernel) (by decide +kernel), TBm 66 (by decide +kernel) (by decide +kernel), TBm 1029 (by decide +kernel) (by decide +kernel)⟩
theorem hdl_X7_post : yX7_post.cls = RX7 ∧ yX7_post.cls ≠ "java/lang/invoke/MethodHandle" ∧ yX7_post.cls ≠ "java/lang/invoke/VarHandle" ∧ (parseMethodDescriptor yX7_post.desc).map (fun d => d.parameters.length) = some 2 := ⟨rfl, by decide +kernel, by decide +kernel, by decide +kernel⟩
theorem hwl_X6_arm : Cond.methodLink "SignpostYardLaw" 40 yX6_arm ∈ TB ∧ Cond.instanceMethod yX6_arm ∈ TB ∧ Cond.selects RX6 yX6_arm yX6_arm ∈ TB ∧ Cond.initialized RX6 ∈ TB ∧ Cond.code yX6_arm cX6_arm 4 (some .int) ∈ TB := ⟨TBm 475 (by decide +kernel) (by decide +kernel), TBm 476 (by decide +kernel) (by decide +kernel), TBm 477 (by decide +kernel) (by decide +kernel), TBm 54 (by decide +kernel) (by decide +kernel), TBm 478 (by decide +kernel) (by decide +kernel)⟩
theorem hdl_X6_arm : yX6_arm.cls = RX6 ∧ yX6_arm.cls ≠ "java/lang/invoke/MethodHandle" ∧ yX6_arm.cls ≠ "java/lang/invoke/VarHandle" ∧ (parseMethodDescriptor yX6_arm.desc).map (fun d => d.parameters.length) = some 3 := ⟨rfl, by decide +kernel, by decide +kernel, by decide +kernel⟩
theorem hwl_X7_arm : Cond.methodLink "SignpostYardLaw" 44 yX7_arm ∈ TB ∧ Cond.instanceMethod yX7_arm ∈ TB ∧ Cond.selects RX7 yX7_arm yX7_arm ∈ TB ∧ Cond.initialized RX7 ∈ TB ∧ Cond.code yX7_arm cX7_arm 4 (some .int) ∈ TB := ⟨TBm 1034 (by decide +kernel) (by decide +kernel), TBm 1035 (by decide +kernel) (by decide +kernel), TBm 1036 (by decide +kernel) (by decide +kernel), TBm 66 (by decide +kernel) (by decide +kernel), TBm 1037 (by decide +kernel) (by decide +kernel)⟩
theorem hdl_X7_arm : yX7_arm.cls = RX7 ∧ yX7_arm.cls ≠ "java/lang/invoke/MethodHandle" ∧ yX7_arm.cls ≠ "java/lang/invoke/VarHandle" ∧ (parseMethodDescriptor yX7_arm.desc).map (fun d => d.parameters.length) = some 3 := ⟨rfl, by decide +kernel, by decide +kernel, by decide +kernel⟩
theorem hwl_X6_walker : Cond.methodLink "SignpostYardLaw" 45 yX6_walker ∈ TB ∧ Cond.instanceMethod yX6_walker ∈ TB ∧ Cond.selects RX6 yX6_walker yX6_walker ∈ TB ∧ Cond.initialized RX6 ∈ TB ∧ Cond.code yX6_walker cX6_walker 3 (some .int) ∈ TB := ⟨TBm 503 (by decide +kernel) (by decide +kernel), TBm 504 (by decide +kernel) (by decide +kernel), TBm 505 (by decide +kernel) (by decide +kernel), TBm 54 (by decide +kernel) (by decide +kernel), TBm 506 (by decide +kernel) (by decide +kernel)⟩
theorem hdl_X6_walker : yX6_walker.cls = RX6 ∧ yX6_walker.cls ≠ "java/lang/invoke/MethodHandle" ∧ yX6_walker.cls ≠ "java/lang/invoke/VarHandle" ∧ (parseMethodDescriptor yX6_walker.desc).map (fun d => d.parameters.length) = some 2 := ⟨rfl, by decide +kernel, by decide +kernel, by decide +kernel⟩
theorem hwl_X7_walker : Cond.methodLink "SignpostYardLaw" 48 yX7_walker ∈ TB ∧ Cond.instanceMethod yX7_walker ∈ TB ∧ Cond.selects RX7 yX7_walker yX7_walker ∈ TB ∧ Cond.initialized RX7 ∈ TB ∧ Cond.code yX7_walker cX7_walker 3 (some .int) ∈ TB := ⟨TBm 1049 (by decide +kernel) (by decide +kernel), TBm 1050 (by decide +kernel) (by decide +kernel), TBm 1051 (by decide +kernel) (by decide +kernel), TBm 66 (by decide +kernel) (by decide +kernel), TBm 1052 (by decide +kernel) (by decide +kernel)⟩
theorem hdl_X7_walker : yX7_walker.cls = RX7 ∧ yX7_walker.cls ≠ "java/lang/invoke/MethodHandle" ∧ yX7_walker.cls ≠ "java/lang/invoke/VarHandle" ∧ (parseMethodDescriptor yX7_walker.desc).map (fun d => d.parameters.length) = some 2 := ⟨rfl, by decide +kernel, by decide +kernel, by decide +kernel⟩
theorem hwl_X6_pass : Cond.methodLink "SignpostYardLaw" 49 yX6_pass ∈ TB ∧ Cond.instanceMethod yX6_pass ∈ TB ∧ Cond.selects RX6 yX6_pass yX6_pass ∈ TB ∧ Cond.initialized RX6 ∈ TB ∧ Cond.code yX6_pass cX6_pass 2 (some .int) ∈ TB := ⟨TBm 523 (by decide +kernel) (by decide +kernel), TBm 524 (by decide +kernel) (by decide +kernel), TBm 525 (by decide +kernel) (by decide +kernel), TBm 54 (by decide +kernel) (by decide +kernel), TBm 526 (by decide +kernel) (by decide +kernel)⟩
theorem hdl_X6_pass : yX6_pass.cls = RX6 ∧ yX6_pass.cls ≠ "java/lang/invoke/MethodHandle" ∧ yX6_pass.cls ≠ "java/lang/invoke/VarHandle" ∧ (parseMethodDescriptor yX6_pass.desc).map (fun d => d.parameters.length) = some 1 := ⟨rfl, by decide +kernel, by decide +kernel, by decide +kernel⟩
theorem hwl_X7_pass : Cond.methodLink "SignpostYardLaw" 52 yX7_pass ∈ TB ∧ Cond.instanceMethod yX7_pass ∈ TB ∧ Cond.selects RX7 yX7_pass yX7_pass ∈ TB ∧ Cond.initialized RX7 ∈ TB ∧ Cond.code yX7_pass cX7_pass 3 (some .int) ∈ TB := ⟨TBm 1057 (by decide +kernel) (by decide +kernel), TBm 1058 (by decide +kernel) (by decide +kernel), TBm 1059 (by decide +kernel) (by decide +kernel), TBm 66 (by decide +kernel) (by decide +kernel), TBm 1060 (by decide +kernel) (by decide +kernel)⟩
theorem hdl_X7_pass : yX7_pass.cls = RX7 ∧ yX7_pass.cls ≠ "java/lang/invoke/MethodHandle" ∧ yX7_pass.cls ≠ "java/lang/invoke/VarHandle" ∧ (parseMethodDescriptor yX7_pass.desc).map (fun d => d.parameters.length) = some 1 := ⟨rfl, by decide +kernel, by decide +kernel, by decide +kernel⟩
theorem hwl_X6_year : Cond.methodLink "SignpostYardLaw" 53 yX6_year ∈ TB ∧ Cond.instanceMethod yX6_year ∈ TB ∧ Cond.selects RX6 yX6_year yX6_year ∈ TB ∧ Cond.initialized RX6 ∈ TB ∧ Cond.code yX6_year cX6_year 1 (some .int) ∈ TB := ⟨TBm 554 (by decide +kernel) (by decide +kernel), TBm 555 (by decide +kernel) (by decide +kernel), TBm 556 (by decide +kernel) (by decide +kernel), TBm 54 (by decide +kernel) (by decide +kernel), TBm 557 (by decide +kernel) (by decide +kernel)⟩
theorem hdl_X6_year : yX6_year.cls = RX6 ∧ yX6_year.cls ≠ "java/lang/invoke/MethodHandle" ∧ yX6_year.cls ≠ "java/lang/invoke/VarHandle" ∧ (parseMethodDescriptor yX6_year.desc).map (fun d => d.parameters.length) = some 0 := ⟨rfl, by decide +kernel, by decide +kernel, by decide +kernel⟩
theorem hwl_X7_year : Cond.methodLink "SignpostYardLaw" 56 yX7_year ∈ TB ∧ Cond.instanceMethod yX7_year ∈ TB ∧ Cond.selects RX7 yX7_year yX7_year ∈ TB ∧ Cond.initialized RX7 ∈ TB ∧ Cond.code yX7_year cX7_year 1 (some .int) ∈ TB := ⟨TBm 1077 (by decide +kernel) (by decide +kernel), TBm 1078 (by decide +kernel) (by decide +kernel), TBm 1079 (by decide +kernel) (by decide +kernel), TBm 66 (by decide +kernel) (by decide +kernel), TBm 1080 (by decide +kernel) (by decide +kernel)⟩
theorem hdl_X7_year : yX7_year.cls = RX7 ∧ yX7_year.cls ≠ "java/lang/invoke/MethodHandle" ∧ yX7_year.cls ≠ "java/lang/invoke/VarHandle" ∧ (parseMethodDescriptor yX7_year.desc).map (fun d => d.parameters.length) = some 0 := ⟨rfl, by decide +kernel, by decide +kernel, by decide +kernel⟩
theorem hwl_X6_lays : Cond.methodLink "SignpostYardLaw" 57 yX6_lays ∈ TB ∧ Cond.instanceMethod yX6_lays ∈ TB ∧ Cond.selects RX6 yX6_lays yX6_lays ∈ TB ∧ Cond.initialized RX6 ∈ TB ∧ Cond.code yX6_lays cX6_lays 5 (some .int) ∈ TB := ⟨TBm 570 (by decide +kernel) (by decide +kernel), TBm 571 (by decide +kernel) (by decide +kernel), TBm 572 (by decide +kernel) (by decide +kernel), TBm 54 (by decide +kernel) (by decide +kernel), TBm 573 (by decide +kernel) (by decide +kernel)⟩
theorem hdl_X6_lays : yX6_lays.cls = RX6 ∧ yX6_lays.cls ≠ "java/lang/invoke/MethodHandle" ∧ yX6_lays.cls ≠ "java/lang/invoke/VarHandle" ∧ (parseMethodDescriptor yX6_lays.desc).map (fun d => d.parameters.length) = some 3 := ⟨rfl, by decide +kernel, by decide +kernel, by decide +kernel⟩
theorem hwl_X7_lays : Cond.methodLink "SignpostYardLaw" 60 yX7_lays ∈ TB ∧ Cond.instanceMethod yX7_lays ∈ TB ∧ Cond.selects RX7 yX7_lays yX7_lays ∈ TB ∧ Cond.initialized RX7 ∈ TB ∧ Cond.code yX7_lays cX7_lays 5 (some .int) ∈ TB := ⟨TBm 1085 (by decide +kernel) (by decide +kernel), TBm 1086 (by decide +kernel) (by decide +kernel), TBm 1087 (by decide +kernel) (by decide +kernel), TBm 66 (by decide +kernel) (by decide +kernel), TBm 1088 (by decide +kernel) (by decide +kernel)⟩
theorem hdl_X7_lays : yX7_lays.cls = RX7 ∧ yX7_lays.cls ≠ "java/lang/invoke/MethodHandle" ∧ yX7_lays.cls ≠ "java/lang/invoke/VarHandle" ∧ (parseMethodDescriptor yX7_lays.desc).map (fun d => d.parameters.length) = some 3 := ⟨rfl, by decide +kernel, by decide +kernel, by decide +kernel⟩
theorem hwl_X6_paint : Cond.methodLink "SignpostYardLaw" 61 yX6_paint ∈ TB ∧ Cond.instanceMethod yX6_paint ∈ TB ∧ Cond.selects RX6 yX6_paint yX6_paint ∈ TB ∧ Cond.initialized RX6 ∈ TB ∧ Cond.code yX6_paint cX6_paint 2 (some .int) ∈ TB := ⟨TBm 580 (by decide +kernel) (by decide +kernel), TBm 581 (by decide +kernel) (by decide +kernel), TBm 582 (by decide +kernel) (by decide +kernel), TBm 54 (by decide +kernel) (by decide +kernel), TBm 583 (by decide +kernel) (by decide +kernel)⟩
theorem hdl_X6_paint : yX6_paint.cls = RX6 ∧ yX6_paint.cls ≠ "java/lang/invoke/MethodHandle" ∧ yX6_paint.cls ≠ "java/lang/invoke/VarHandle" ∧ (parseMethodDescriptor yX6_paint.desc).map (fun d => d.parameters.length) = some 1 := ⟨rfl, by decide +kernel, by decide +kernel, by decide +kernel⟩
theorem hwl_X7_paint : Cond.methodLink "SignpostYardLaw" 64 yX7_paint ∈ TB ∧ Cond.instanceMethod yX7_paint ∈ TB ∧ Cond.selects RX7 yX7_paint yX7_paint ∈ TB ∧ Cond.initialized RX7 ∈ TB ∧ Cond.code yX7_paint cX7_paint 4 (some .int) ∈ TB := ⟨TBm 1092 (by decide +kernel) (by decide +kernel), TBm 1093 (by decide +kernel) (by decide +kernel), TBm 1094 (by decide +kernel) (by decide +kernel), TBm 66 (by decide +kernel) (by decide +kernel), TBm 1095 (by decide +kernel) (by decide +kernel)⟩
theorem hdl_X7_paint : yX7_paint.cls = RX7 ∧ yX7_paint.cls ≠ "java/lang/invoke/MethodHandle" ∧ yX7_paint.cls ≠ "java/lang/invoke/VarHandle" ∧ (parseMethodDescriptor yX7_paint.desc).map (fun d => d.parameters.length) = some 1 := ⟨rfl, by decide +kernel, by decide +kernel, by decide +kernel⟩
theorem hwl_X6_move : Cond.methodLink "SignpostYardLaw" 65 yX6_move ∈ TB ∧ Cond.instanceMethod yX6_move ∈ TB ∧ Cond.selects RX6 yX6_move yX6_move ∈ TB ∧ Cond.initialized RX6 ∈ TB ∧ Cond.code yX6_move cX6_move 4 (some .int) ∈ TB := ⟨TBm 586 (by decide +kernel) (by decide +kernel), TBm 587 (by decide +kernel) (by decide +kernel), TBm 588 (by decide +kernel) (by decide +kernel), TBm 54 (by decide +kernel) (by decide +kernel), TBm 589 (by decide +kernel) (by decide +kernel)⟩
theorem hdl_X6_move : yX6_move.cls = RX6 ∧ yX6_move.cls ≠ "java/lang/invoke/MethodHandle" ∧ yX6_move.cls ≠ "java/lang/invoke/VarHandle" ∧ (parseMethodDescriptor yX6_move.desc).map (fun d => d.parameters.length) = some 2 := ⟨rfl, by decide +kernel, by decide +kernel, by decide +kernel⟩
theorem hwl_X7_move : Cond.methodLink "SignpostYardLaw" 68 yX7_move ∈ TB ∧ Cond.instanceMethod yX7_move ∈ TB ∧ Cond.selects RX7 yX7_move yX7_move ∈ TB ∧ Cond.initialized RX7 ∈ TB ∧ Cond.code yX7_move cX7_move 4 (some .int) ∈ TB := ⟨TBm 1096 (by decide +kernel) (by decide +kernel), TBm 1097 (by decide +kernel) (by decide +kernel), TBm 1098 (by decide +kernel) (by decide +kernel), TBm 66 (by decide +kernel) (by decide +kernel), TBm 1099 (by decide +kernel) (by decide +kernel)⟩
theorem hdl_X7_move : yX7_move.cls = RX7 ∧ yX7_move.cls ≠ "java/lang/invoke/MethodHandle" ∧ yX7_move.cls ≠ "java/lang/invoke/VarHandle" ∧ (parseMethodDescriptor yX7_move.desc).map (fun d => d.parameters.length) = some 2 := ⟨rfl, by decide +kernel, by decide +kernel, by decide +kernel⟩
theorem hwl_X6_retire : Cond.methodLink "SignpostYardLaw" 69 yX6_retire ∈ TB ∧ Cond.instanceMethod yX6_retire ∈ TB ∧ Cond.selects RX6 yX6_retire yX6_retire ∈ TB ∧ Cond.initialized RX6 ∈ TB ∧ Cond.code yX6_retire cX6_retire 3 (some .int) ∈ TB := ⟨TBm 594 (by decide +kernel) (by decide +kernel), TBm 595 (by decide +kernel) (by decide +kernel), TBm 596 (by decide +kernel) (by decide +kernel), TBm 54 (by decide +kernel) (by decide +kernel), TBm 597 (by decide +kernel) (by decide +kernel)⟩
theorem hdl_X6_retire : yX6_retire.cls = RX6 ∧ yX6_retire.cls ≠ "java/lang/invoke/MethodHandle" ∧ yX6_retire.cls ≠ "java/lang/invoke/VarHandle" ∧ (parseMethodDescriptor yX6_retire.desc).map (fun d => d.parameters.length) = some 1 := ⟨rfl, by decide +kernel, by decide +kernel, by decide +kernel⟩
theorem hwl_X7_retire : Cond.methodLink "SignpostYardLaw" 72 yX7_retire ∈ TB ∧ Cond.instanceMethod yX7_retire ∈ TB ∧ Cond.selects RX7 yX7_retire yX7_retire ∈ TB ∧ Cond.initialized RX7 ∈ TB ∧ Cond.code yX7_retire cX7_retire 3 (some .int) ∈ TB := ⟨TBm 1100 (by decide +kernel) (by decide +kernel), TBm 1101 (by decide +kernel) (by decide +kernel), TBm 1102 (by decide +kernel) (by decide +kernel), TBm 66 (by decide +kernel) (by decide +kernel), TBm 1103 (by decide +kernel) (by decide +kernel)⟩
theorem hdl_X7_retire : yX7_retire.cls = RX7 ∧ yX7_retire.cls ≠ "java/lang/invoke/MethodHandle" ∧ yX7_retire.cls ≠ "java/lang/invoke/VarHandle" ∧ (parseMethodDescriptor yX7_retire.desc).map (fun d => d.parameters.length) = some 1 := ⟨rfl, by decide +kernel, by decide +kernel, by decide +kernel⟩
theorem hwl_X6_undo : Cond.methodLink "SignpostYardLaw" 73 yX6_undo ∈ TB ∧ Cond.instanceMethod yX6_undo ∈ TB ∧ Cond.selects RX6 yX6_undo yX6_undo ∈ TB ∧ Cond.initialized RX6 ∈ TB ∧ Cond.code yX6_undo cX6_undo 1 (some .int) ∈ TB := ⟨TBm 599 (by decide +kernel) (by decide +kernel), TBm 600 (by decide +kernel) (by decide +kernel), TBm 601 (by decide +kernel) (by decide +kernel), TBm 54 (by decide +kernel) (by decide +kernel), TBm 602 (by decide +kernel) (by decide +kernel)⟩
theorem hdl_X6_undo : yX6_undo.cls = RX6 ∧ yX6_undo.cls ≠ "java/lang/invoke/MethodHandle" ∧ yX6_undo.cls ≠ "java/lang/invoke/VarHandle" ∧ (parseMethodDescriptor yX6_undo.desc).map (fun d => d.parameters.length) = some 0 := ⟨rfl, by decide +kernel, by decide +kernel, by decide +kernel⟩
theorem hwl_X7_undo : Cond.methodLink "SignpostYardLaw" 76 yX7_undo ∈ TB ∧ Cond.instanceMethod yX7_undo ∈ TB ∧ Cond.selects RX7 yX7_undo yX7_undo ∈ TB ∧ Cond.initialized RX7 ∈ TB ∧ Cond.code yX7_undo cX7_undo 2 (some .int) ∈ TB := ⟨TBm 1104 (by decide +kernel) (by decide +kernel), TBm 1105 (by decide +kernel) (by decide +kernel), TBm 1106 (by decide +kernel) (by decide +kernel), TBm 66 (by decide +kernel) (by decide +kernel), TBm 1107 (by decide +kernel) (by decide +kernel)⟩
theorem hdl_X7_undo : yX7_undo.cls = RX7 ∧ yX7_undo.cls ≠ "java/lang/invoke/MethodHandle" ∧ yX7_undo.cls ≠ "java/lang/invoke/VarHandle" ∧ (parseMethodDescriptor yX7_undo.desc).map (fun d => d.parameters.length) = some 0 := ⟨rfl, by decide +kernel, by decide +kernel, by decide +kernel⟩
theorem hwl_X6_comes : Cond.methodLink "SignpostYardLaw" 77 yX6_comes ∈ TB ∧ Cond.instanceMethod yX6_comes ∈ TB ∧ Cond.selects RX6 yX6_comes yX6_comes ∈ TB ∧ Cond.initialized RX6 ∈ TB ∧ Cond.code yX6_comes cX6_comes 3 (some .int) ∈ TB := ⟨TBm 611 (by decide +kernel) (by decide +kernel), TBm 612 (by decide +kernel) (by decide +kernel), TBm 613 (by decide +kernel) (by decide +kernel), TBm 54 (by decide +kernel) (by decide +kernel), TBm 614 (by decide +kernel) (by decide +kernel)⟩
theorem hdl_X6_comes : yX6_comes.cls = RX6 ∧ yX6_comes.cls ≠ "java/lang/invoke/MethodHandle" ∧ yX6_comes.cls ≠ "java/lang/invoke/VarHandle" ∧ (parseMethodDescriptor yX6_comes.desc).map (fun d => d.parameters.length) = some 1 := ⟨rfl, by decide +kernel, by decide +kernel, by decide +kernel⟩
theorem hwl_X7_comes : Cond.methodLink "SignpostYardLaw" 80 yX7_comes ∈ TB ∧ Cond.instanceMethod yX7_comes ∈ TB ∧ Cond.selects RX7 yX7_comes yX7_comes ∈ TB ∧ Cond.initialized RX7 ∈ TB ∧ Cond.code yX7_comes cX7_comes 3 (some .int) ∈ TB := ⟨TBm 1108 (by decide +kernel) (by decide +kernel), TBm 1109 (by decide +kernel) (by decide +kernel), TBm 1110 (by decide +kernel) (by decide +kernel), TBm 66 (by decide +kernel) (by decide +kernel), TBm 1111 (by decide +kernel) (by decide +kernel)⟩
theorem hdl_X7_comes : yX7_comes.cls = RX7 ∧ yX7_comes.cls ≠ "java/lang/invoke/MethodHandle" ∧ yX7_comes.cls ≠ "java/lang/invoke/VarHandle" ∧ (parseMethodDescriptor yX7_comes.desc).map (fun d => d.parameters.length) = some 1 := ⟨rfl, by decide +kernel, by decide +kernel, by decide +kernel⟩
theorem hwl_X6_trail : Cond.methodLink "SignpostYardLaw" 81 yX6_trail ∈ TB ∧ Cond.instanceMethod yX6_trail ∈ TB ∧ Cond.selects RX6 yX6_trail yX6_trail ∈ TB ∧ Cond.initialized RX6 ∈ TB ∧ Cond.code yX6_trail cX6_trail 3 (some .int) ∈ TB := ⟨TBm 615 (by decide +kernel) (by decide +kernel), TBm 616 (by decide +kernel) (by decide +kernel), TBm 617 (by decide +kernel) (by decide +kernel), TBm 54 (by decide +kernel) (by decide +kernel), TBm 618 (by decide +kernel) (by decide +kernel)⟩
theorem hdl_X6_trail : yX6_trail.cls = RX6 ∧ yX6_trail.cls ≠ "java/lang/invoke/MethodHandle" ∧ yX6_trail.cls ≠ "java/lang/invoke/VarHandle" ∧ (parseMethodDescriptor yX6_trail.desc).map (fun d => d.parameters.length) = some 2 := ⟨rfl, by decide +kernel, by decide +kernel, by decide +kernel⟩
theorem hwl_X7_trail : Cond.methodLink "SignpostYardLaw" 84 yX7_trail ∈ TB ∧ Cond.instanceMethod yX7_trail ∈ TB ∧ Cond.selects RX7 yX7_trail yX7_trail ∈ TB ∧ Cond.initialized RX7 ∈ TB ∧ Cond.code yX7_trail cX7_trail 4 (some .int) ∈ TB := ⟨TBm 1116 (by decide +kernel) (by decide +kernel), TBm 1117 (by decide +kernel) (by decide +kernel), TBm 1118 (by decide +kernel) (by decide +kernel), TBm 66 (by decide +kernel) (by decide +kernel), TBm 1119 (by decide +kernel) (by decide +kernel)⟩
theorem hdl_X7_trail : yX7_trail.cls = RX7 ∧ yX7_trail.cls ≠ "java/lang/invoke/MethodHandle" ∧ yX7_trail.cls ≠ "java/lang/invoke/VarHandle" ∧ (parseMethodDescriptor yX7_trail.desc).map (fun d => d.parameters.length) = some 2 := ⟨rfl, by decide +kernel, by decide +kernel, by decide +kernel⟩
theorem hwl_X6_lost : Cond.methodLink "SignpostYardLaw" 85 yX6_lost ∈ TB ∧ Cond.instanceMethod yX6_lost ∈ TB ∧ Cond.selects RX6 yX6_lost yX6_lost ∈ TB ∧ Cond.initialized RX6 ∈ TB ∧ Cond.code yX6_lost cX6_lost 3 (some .int) ∈ TB := ⟨TBm 619 (by decide +kernel) (by decide +kernel), TBm 620 (by decide +kernel) (by decide +kernel), TBm 621 (by decide +kernel) (by decide +kernel), TBm 54 (by decide +kernel) (by decide +kernel), TBm 622 (by decide +kernel) (by decide +kernel)⟩
theorem hdl_X6_lost : yX6_lost.cls = RX6 ∧ yX6_lost.cls ≠ "java/lang/invoke/MethodHandle" ∧ yX6_lost.cls ≠ "java/lang/invoke/VarHandle" ∧ (parseMethodDescriptor yX6_lost.desc).map (fun d => d.parameters.length) = some 0 := ⟨rfl, by decide +kernel, by decide +kernel, by decide +kernel⟩
theorem hwl_X7_lost : Cond.methodLink "SignpostYardLaw" 88 yX7_lost ∈ TB ∧ Cond.instanceMethod yX7_lost ∈ TB ∧ Cond.selects RX7 yX7_lost yX7_lost ∈ TB ∧ Cond.initialized RX7 ∈ TB ∧ Cond.code yX7_lost cX7_lost 3 (some .int) ∈ TB := ⟨TBm 1120 (by decide +kernel) (by decide +kernel), TBm 1121 (by decide +kernel) (by decide +kernel), TBm 1122 (by decide +kernel) (by decide +kernel), TBm 66 (by decide +kernel) (by decide +kernel), TBm 1123 (by decide +kernel) (by decide +kernel)⟩
theorem hdl_X7_lost : yX7_lost.cls = RX7 ∧ yX7_lost.cls ≠ "java/lang/invoke/MethodHandle" ∧ yX7_lost.cls ≠ "java/lang/invoke/VarHandle" ∧ (parseMethodDescriptor yX7_lost.desc).map (fun d => d.parameters.length) = some 0 := ⟨rfl, by decide +kernel, by decide +kernel, by decide +kernel⟩
theorem hwl_X6_helps : Cond.methodLink "SignpostYardLaw" 89 yX6_helps ∈ TB ∧ Cond.instanceMethod yX6_helps ∈ TB ∧ Cond.selects RX6 yX6_helps yX6_helps ∈ TB ∧ Cond.initialized RX6 ∈ TB ∧ Cond.code yX6_helps cX6_helps 6 (some .int) ∈ TB := ⟨TBm 623 (by decide +kernel) (by decide +kernel), TBm 624 (by decide +kernel) (by decide +kernel), TBm 625 (by decide +kernel) (by decide +kernel), TBm 54 (by decide +kernel) (by decide +kernel), TBm 626 (by decide +kernel) (by decide +kernel)⟩
theorem hdl_X6_helps : yX6_helps.cls = RX6 ∧ yX6_helps.cls ≠ "java/lang/invoke/MethodHandle" ∧ yX6_helps.cls ≠ "java/lang/invoke/VarHandle" ∧ (parseMethodDescriptor yX6_helps.desc).map (fun d => d.parameters.length) = some 1 := ⟨rfl, by decide +kernel, by decide +kernel, by decide +kernel⟩
theorem hwl_X7_helps : Cond.methodLink "SignpostYardLaw" 92 yX7_helps ∈ TB ∧ Cond.instanceMethod yX7_helps ∈ TB ∧ Cond.selects RX7 yX7_helps yX7_helps ∈ TB ∧ Cond.initialized RX7 ∈ TB ∧ Cond.code yX7_helps cX7_helps 6 (some .int) ∈ TB := ⟨TBm 1132 (by decide +kernel) (by decide +kernel), TBm 1133 (by decide +kernel) (by decide +kernel), TBm 1134 (by decide +kernel) (by decide +kernel), TBm 66 (by decide +kernel) (by decide +kernel), TBm 1135 (by decide +kernel) (by decide +kernel)⟩
theorem hdl_X7_helps : yX7_helps.cls = RX7 ∧ yX7_helps.cls ≠ "java/lang/invoke/MethodHandle" ∧ yX7_helps.cls ≠ "java/lang/invoke/VarHandle" ∧ (parseMethodDescriptor yX7_helps.desc).map (fun d => d.parameters.length) = some 1 := ⟨rfl, by decide +kernel, by decide +kernel, by decide +kernel⟩
theorem hwl_X6_paints : Cond.methodLink "SignpostYardLaw" 93 yX6_paints ∈ TB ∧ Cond.instanceMethod yX6_paints ∈ TB ∧ Cond.selects RX6 yX6_paints yX6_paints ∈ TB ∧ Cond.initialized RX6 ∈ TB ∧ Cond.code yX6_paints cX6_paints 8 (some .int) ∈ TB := ⟨TBm 645 (by decide +kernel) (by decide +kernel), TBm 646 (by decide +kernel) (by decide +kernel), TBm 647 (by decide +kernel) (by decide +kernel), TBm 54 (by decide +kernel) (by decide +kernel), TBm 648 (by decide +kernel) (by decide +kernel)⟩
theorem hdl_X6_paints : yX6_paints.cls = RX6 ∧ yX6_paints.cls ≠ "java/lang/invoke/MethodHandle" ∧ yX6_paints.cls ≠ "java/lang/invoke/VarHandle" ∧ (parseMethodDescriptor yX6_paints.desc).map (fun d => d.parameters.length) = some 1 := ⟨rfl, by decide +kernel, by decide +kernel, by decide +kernel⟩
theorem hwl_X7_paints : Cond.methodLink "SignpostYardLaw" 96 yX7_paints ∈ TB ∧ Cond.instanceMethod yX7_paints ∈ TB ∧ Cond.selects RX7 yX7_paints yX7_paints ∈ TB ∧ Cond.initialized RX7 ∈ TB ∧ Cond.code yX7_paints cX7_paints 7 (some .int) ∈ TB := ⟨TBm 1136 (by decide +kernel) (by decide +kernel), TBm 1137 (by decide +kernel) (by decide +kernel), TBm 1138 (by decide +kernel) (by decide +kernel), TBm 66 (by decide +kernel) (by decide +kernel), TBm 1139 (by decide +kernel) (by decide +kernel)⟩
theorem hdl_X7_paints : yX7_paints.cls = RX7 ∧ yX7_paints.cls ≠ "java/lang/invoke/MethodHandle" ∧ yX7_paints.cls ≠ "java/lang/invoke/VarHandle" ∧ (parseMethodDescriptor yX7_paints.desc).map (fun d => d.parameters.length) = some 1 := ⟨rfl, by decide +kernel, by decide +kernel, by decide +kernel⟩
theorem hwl_X6_cover : Cond.methodLink "SignpostYardLaw" 97 yX6_cover ∈ TB ∧ Cond.instanceMethod yX6_cover ∈ TB ∧ Cond.selects RX6 yX6_cover yX6_cover ∈ TB ∧ Cond.initialized RX6 ∈ TB ∧ Cond.code yX6_cover cX6_cover 6 (some .int) ∈ TB := ⟨TBm 664 (by decide +kernel) (by decide +kernel), TBm 665 (by decide +kernel) (by decide +kernel), TBm 666 (by decide +kernel) (by decide +kernel), TBm 54 (by decide +kernel) (by decide +kernel), TBm 667 (by decide +kernel) (by decide +kernel)⟩
theorem hdl_X6_cover : yX6_cover.cls = RX6 ∧ yX6_cover.cls ≠ "java/lang/invoke/MethodHandle" ∧ yX6_cover.cls ≠ "java/lang/invoke/VarHandle" ∧ (parseMethodDescriptor yX6_cover.desc).map (fun d => d.parameters.length) = some 1 := ⟨rfl, by decide +kernel, by decide +kernel, by decide +kernel⟩
theorem hwl_X7_cover : Cond.methodLink "SignpostYardLaw" 100 yX7_cover ∈ TB ∧ Cond.instanceMethod yX7_cover ∈ TB ∧ Cond.selects RX7 yX7_cover yX7_cover ∈ TB ∧ Cond.initialized RX7 ∈ TB ∧ Cond.code yX7_cover cX7_cover 4 (some .int) ∈ TB := ⟨TBm 1143 (by decide +kernel) (by decide +kernel), TBm 1144 (by decide +kernel) (by decide +kernel), TBm 1145 (by decide +kernel) (by decide +kernel), TBm 66 (by decide +kernel) (by decide +kernel), TBm 1146 (by decide +kernel) (by decide +kernel)⟩
theorem hdl_X7_cover : yX7_cover.cls = RX7 ∧ yX7_cover.cls ≠ "java/lang/invoke/MethodHandle" ∧ yX7_cover.cls ≠ "java/lang/invoke/VarHandle" ∧ (parseMethodDescriptor yX7_cover.desc).map (fun d => d.parameters.length) = some 1 := ⟨rfl, by decide +kernel, by decide +kernel, by decide +kernel⟩
theorem hwl_X6_far : Cond.methodLink "SignpostYardLaw" 101 yX6_far ∈ TB ∧ Cond.instanceMethod yX6_far ∈ TB ∧ Cond.selects RX6 yX6_far yX6_far ∈ TB ∧ Cond.initialized RX6 ∈ TB ∧ Cond.code yX6_far cX6_far 3 (some .int) ∈ TB := ⟨TBm 676 (by decide +kernel) (by decide +kernel), TBm 677 (by decide +kernel) (by decide +kernel), TBm 678 (by decide +kernel) (by decide +kernel), TBm 54 (by decide +kernel) (by decide +kernel), TBm 679 (by decide +kernel) (by decide +kernel)⟩
theorem hdl_X6_far : yX6_far.cls = RX6 ∧ yX6_far.cls ≠ "java/lang/invoke/MethodHandle" ∧ yX6_far.cls ≠ "java/lang/invoke/VarHandle" ∧ (parseMethodDescriptor yX6_far.desc).map (fun d => d.parameters.length) = some 2 := ⟨rfl, by decide +kernel, by decide +kernel, by decide +kernel⟩
theorem hwl_X7_far : Cond.methodLink "SignpostYardLaw" 104 yX7_far ∈ TB ∧ Cond.instanceMethod yX7_far ∈ TB ∧ Cond.selects RX7 yX7_far yX7_far ∈ TB ∧ Cond.initialized RX7 ∈ TB ∧ Cond.code yX7_far cX7_far 4 (some .int) ∈ TB := ⟨TBm 1147 (by decide +kernel) (by decide +kernel), TBm 1148 (by decide +kernel) (by decide +kernel), TBm 1149 (by decide +kernel) (by decide +kernel), TBm 66 (by decide +kernel) (by decide +kernel), TBm 1150 (by decide +kernel) (by decide +kernel)⟩
theorem hdl_X7_far : yX7_far.cls = RX7 ∧ yX7_far.cls ≠ "java/lang/invoke/MethodHandle" ∧ yX7_far.cls ≠ "java/lang/invoke/VarHandle" ∧ (parseMethodDescriptor yX7_far.desc).map (fun d => d.parameters.length) = some 2 := ⟨rfl, by decide +kernel, by decide +kernel, by decide +kernel⟩
theorem hwl_X6_told : Cond.methodLink "SignpostYardLaw" 105 yX6_told ∈ TB ∧ Cond.instanceMethod yX6_told ∈ TB ∧ Cond.selects RX6 yX6_told yX6_told ∈ TB ∧ Cond.initialized RX6 ∈ TB ∧ Cond.code yX6_told cX6_told 4 (some .int) ∈ TB := ⟨TBm 681 (by decide +kernel) (by decide +kernel), TBm 682 (by decide +kernel) (by decide +kernel), TBm 683 (by decide +kernel) (by decide +kernel), TBm 54 (by decide +kernel) (by decide +kernel), TBm 684 (by decide +kernel) (by decide +kernel)⟩
theorem hdl_X6_told : yX6_told.cls = RX6 ∧ yX6_told.cls ≠ "java/lang/invoke/MethodHandle" ∧ yX6_told.cls ≠ "java/lang/invoke/VarHandle" ∧ (parseMethodDescriptor yX6_told.desc).map (fun d => d.parameters.length) = some 3 := ⟨rfl, by decide +kernel, by decide +kernel, by decide +kernel⟩
theorem hwl_X7_told : Cond.methodLink "SignpostYardLaw" 108 yX7_told ∈ TB ∧ Cond.instanceMethod yX7_told ∈ TB ∧ Cond.selects RX7 yX7_told yX7_told ∈ TB ∧ Cond.initialized RX7 ∈ TB ∧ Cond.code yX7_told cX7_told 4 (some .int) ∈ TB := ⟨TBm 1151 (by decide +kernel) (by decide +kernel), TBm 1152 (by decide +kernel) (by decide +kernel), TBm 1153 (by decide +kernel) (by decide +kernel), TBm 66 (by decide +kernel) (by decide +kernel), TBm 1154 (by decide +kernel) (by decide +kernel)⟩
theorem hdl_X7_told : yX7_told.cls = RX7 ∧ yX7_told.cls ≠ "java/lang/invoke/MethodHandle" ∧ yX7_told.cls ≠ "java/lang/invoke/VarHandle" ∧ (parseMethodDescriptor yX7_told.desc).map (fun d => d.parameters.length) = some 3 := ⟨rfl, by decide +kernel, by decide +kernel, by decide +kernel⟩
theorem hwl_X6_stood : Cond.methodLink "SignpostYardLaw" 109 yX6_stood ∈ TB ∧ Cond.instanceMethod yX6_stood ∈ TB ∧ Cond.selects RX6 yX6_stood yX6_stood ∈ TB ∧ Cond.initialized RX6 ∈ TB ∧ Cond.code yX6_stood cX6_stood 3 (some .int) ∈ TB := ⟨TBm 690 (by decide +kernel) (by decide +kernel), TBm 691 (by decide +kernel) (by decide +kernel), TBm 692 (by decide +kernel) (by decide +kernel), TBm 54 (by decide +kernel) (by decide +kernel), TBm 693 (by decide +kernel) (by decide +kernel)⟩
theorem hdl_X6_stood : yX6_stood.cls = RX6 ∧ yX6_stood.cls ≠ "java/lang/invoke/MethodHandle" ∧ yX6_stood.cls ≠ "java/lang/invoke/VarHandle" ∧ (parseMethodDescriptor yX6_stood.desc).map (fun d => d.parameters.length) = some 0 := ⟨rfl, by decide +kernel, by decide +kernel, by decide +kernel⟩
theorem hwl_X7_stood : Cond.methodLink "SignpostYardLaw" 112 yX7_stood ∈ TB ∧ Cond.instanceMethod yX7_stood ∈ TB ∧ Cond.selects RX7 yX7_stood yX7_stood ∈ TB ∧ Cond.initialized RX7 ∈ TB ∧ Cond.code yX7_stood cX7_stood 5 (some .int) ∈ TB := ⟨TBm 1155 (by decide +kernel) (by decide +kernel), TBm 1156 (by decide +kernel) (by decide +kernel), TBm 1157 (by decide +kernel) (by decide +kernel), TBm 66 (by decide +kernel) (by decide +kernel), TBm 1158 (by decide +kernel) (by decide +kernel)⟩
theorem hdl_X7_stood : yX7_stood.cls = RX7 ∧ yX7_stood.cls ≠ "java/lang/invoke/MethodHandle" ∧ yX7_stood.cls ≠ "java/lang/invoke/VarHandle" ∧ (parseMethodDescriptor yX7_stood.desc).map (fun d => d.parameters.length) = some 0 := ⟨rfl, by decide +kernel, by decide +kernel, by decide +kernel⟩
theorem hwl_X6_next : Cond.methodLink "SignpostYardLaw" 113 yX6_next ∈ TB ∧ Cond.instanceMethod yX6_next ∈ TB ∧ Cond.selects RX6 yX6_next yX6_next ∈ TB ∧ Cond.initialized RX6 ∈ TB ∧ Cond.code yX6_next cX6_next 6 (some .int) ∈ TB := ⟨TBm 708 (by decide +kernel) (by decide +kernel), TBm 709 (by decide +kernel) (by decide +kernel), TBm 710 (by decide +kernel) (by decide +kernel), TBm 54 (by decide +kernel) (by decide +kernel), TBm 711 (by decide +kernel) (by decide +kernel)⟩
theorem hdl_X6_next : yX6_next.cls = RX6 ∧ yX6_next.cls ≠ "java/lang/invoke/MethodHandle" ∧ yX6_next.cls ≠ "java/lang/invoke/VarHandle" ∧ (parseMethodDescriptor yX6_next.desc).map (fun d => d.parameters.length) = some 0 := ⟨rfl, by decide +kernel, by decide +kernel, by decide +kernel⟩
theorem hwl_X7_next : Cond.methodLink "SignpostYardLaw" 116 yX7_next ∈ TB ∧ Cond.instanceMethod yX7_next ∈ TB ∧ Cond.selects RX7 yX7_next yX7_next ∈ TB ∧ Cond.initialized RX7 ∈ TB ∧ Cond.code yX7_next cX7_next 9 (some .int) ∈ TB := ⟨TBm 1159 (by decide +kernel) (by decide +kernel), TBm 1160 (by decide +kernel) (by decide +kernel), TBm 1161 (by decide +kernel) (by decide +kernel), TBm 66 (by decide +kernel) (by decide +kernel), TBm 1162 (by decide +kernel) (by decide +kernel)⟩
theorem hdl_X7_next : yX7_next.cls = RX7 ∧ yX7_next.cls ≠ "java/lang/invoke/MethodHandle" ∧ yX7_next.cls ≠ "java/lang/invoke/VarHandle" ∧ (parseMethodDescriptor yX7_next.desc).map (fun d => d.parameters.length) = some 0 := ⟨rfl, by decide +kernel, by decide +kernel, by decide +kernel⟩
theorem hwl_X6_seen : Cond.methodLink "SignpostYardLaw" 117 yX6_seen ∈ TB ∧ Cond.instanceMethod yX6_seen ∈ TB ∧ Cond.selects RX6 yX6_seen yX6_seen ∈ TB ∧ Cond.initialized RX6 ∈ TB ∧ Cond.code yX6_seen cX6_seen 4 (some .int) ∈ TB := ⟨TBm 726 (by decide +kernel) (by decide +kernel), TBm 727 (by decide +kernel) (by decide +kernel), TBm 728 (by decide +kernel) (by decide +kernel), TBm 54 (by decide +kernel) (by decide +kernel), TBm 729 (by decide +kernel) (by decide +kernel)⟩
theorem hdl_X6_seen : yX6_seen.cls = RX6 ∧ yX6_seen.cls ≠ "java/lang/invoke/MethodHandle" ∧ yX6_seen.cls ≠ "java/lang/invoke/VarHandle" ∧ (parseMethodDescriptor yX6_seen.desc).map (fun d => d.parameters.length) = some 3 := ⟨rfl, by decide +kernel, by decide +kernel, by decide +kernel⟩
theorem hwl_X7_seen : Cond.methodLink "SignpostYardLaw" 120 yX7_seen ∈ TB ∧ Cond.instanceMethod yX7_seen ∈ TB ∧ Cond.selects RX7 yX7_seen yX7_seen ∈ TB ∧ Cond.initialized RX7 ∈ TB ∧ Cond.code yX7_seen cX7_seen 4 (some .int) ∈ TB := ⟨TBm 1168 (by decide +kernel) (by decide +kernel), TBm 1169 (by decide +kernel) (by decide +kernel), TBm 1170 (by decide +kernel) (by decide +kernel), TBm 66 (by decide +kernel) (by decide +kernel), TBm 1171 (by decide +kernel) (by decide +kernel)⟩
theorem hdl_X7_seen : yX7_seen.cls = RX7 ∧ yX7_seen.cls ≠ "java/lang/invoke/MethodHandle" ∧ yX7_seen.cls ≠ "java/lang/invoke/VarHandle" ∧ (parseMethodDescriptor yX7_seen.desc).map (fun d => d.parameters.length) = some 3 := ⟨rfl, by decide +kernel, by decide +kernel, by decide +kernel⟩
theorem hwl_X6_kinds : Cond.methodLink "SignpostYardLaw" 121 yX6_kinds ∈ TB ∧ Cond.instanceMethod yX6_kinds ∈ TB ∧ Cond.selects RX6 yX6_kinds yX6_kinds ∈ TB ∧ Cond.initialized RX6 ∈ TB ∧ Cond.code yX6_kinds cX6_kinds 4 (some .int) ∈ TB := ⟨TBm 730 (by decide +kernel) (by decide +kernel), TBm 731 (by decide +kernel) (by decide +kernel), TBm 732 (by decide +kernel) (by decide +kernel), TBm 54 (by decide +kernel) (by decide +kernel), TBm 733 (by decide +kernel) (by decide +kernel)⟩
theorem hdl_X6_kinds : yX6_kinds.cls = RX6 ∧ yX6_kinds.cls ≠ "java/lang/invoke/MethodHandle" ∧ yX6_kinds.cls ≠ "java/lang/invoke/VarHandle" ∧ (parseMethodDescriptor yX6_kinds.desc).map (fun d => d.parameters.length) = some 1 := ⟨rfl, by decide +kernel, by decide +kernel, by decide +kernel⟩
theorem hwl_X7_kinds : Cond.methodLink "SignpostYardLaw" 124 yX7_kinds ∈ TB ∧ Cond.instanceMethod yX7_kinds ∈ TB ∧ Cond.selects RX7 yX7_kinds yX7_kinds ∈ TB ∧ Cond.initialized RX7 ∈ TB ∧ Cond.code yX7_kinds cX7_kinds 6 (some .int) ∈ TB := ⟨TBm 1172 (by decide +kernel) (by decide +kernel), TBm 1173 (by decide +kernel) (by decide +kernel), TBm 1174 (by decide +kernel) (by decide +kernel), TBm 66 (by decide +kernel) (by decide +kernel), TBm 1175 (by decide +kernel) (by decide +kernel)⟩
theorem hdl_X7_kinds : yX7_kinds.cls = RX7 ∧ yX7_kinds.cls ≠ "java/lang/invoke/MethodHandle" ∧ yX7_kinds.cls ≠ "java/lang/invoke/VarHandle" ∧ (parseMethodDescriptor yX7_kinds.desc).map (fun d => d.parameters.length) = some 1 := ⟨rfl, by decide +kernel, by decide +kernel, by decide +kernel⟩
theorem hwl_X6_forget : Cond.methodLink "SignpostYardLaw" 125 yX6_forget ∈ TB ∧ Cond.instanceMethod yX6_forget ∈ TB ∧ Cond.selects RX6 yX6_forget yX6_forget ∈ TB ∧ Cond.initialized RX6 ∈ TB ∧ Cond.code yX6_forget cX6_forget 1 (some .int) ∈ TB := ⟨TBm 742 (by decide +kernel) (by decide +kernel), TBm 743 (by decide +kernel) (by decide +kernel), TBm 744 (by decide +kernel) (by decide +kernel), TBm 54 (by decide +kernel) (by decide +kernel), TBm 745 (by decide +kernel) (by decide +kernel)⟩
theorem hdl_X6_forget : yX6_forget.cls = RX6 ∧ yX6_forget.cls ≠ "java/lang/invoke/MethodHandle" ∧ yX6_forget.cls ≠ "java/lang/invoke/VarHandle" ∧ (parseMethodDescriptor yX6_forget.desc).map (fun d => d.parameters.length) = some 0 := ⟨rfl, by decide +kernel, by decide +kernel, by decide +kernel⟩
theorem hwl_X7_forget : Cond.methodLink "SignpostYardLaw" 128 yX7_forget ∈ TB ∧ Cond.instanceMethod yX7_forget ∈ TB ∧ Cond.selects RX7 yX7_forget yX7_forget ∈ TB ∧ Cond.initialized RX7 ∈ TB ∧ Cond.code yX7_forget cX7_forget 2 (some .int) ∈ TB := ⟨TBm 1176 (by decide +kernel) (by decide +kernel), TBm 1177 (by decide +kernel) (by decide +kernel), TBm 1178 (by decide +kernel) (by decide +kernel), TBm 66 (by decide +kernel) (by decide +kernel), TBm 1179 (by decide +kernel) (by decide +kernel)⟩
theorem hdl_X7_forget : yX7_forget.cls = RX7 ∧ yX7_forget.cls ≠ "java/lang/invoke/MethodHandle" ∧ yX7_forget.cls ≠ "java/lang/invoke/VarHandle" ∧ (parseMethodDescriptor yX7_forget.desc).map (fun d => d.parameters.length) = some 0 := ⟨rfl, by decide +kernel, by decide +kernel, by decide +kernel⟩
theorem hwl_X6_likely : Cond.methodLink "SignpostYardLaw" 129 yX6_likely ∈ TB ∧ Cond.instanceMethod yX6_likely ∈ TB ∧ Cond.selects RX6 yX6_likely yX6_likely ∈ TB ∧ Cond.initialized RX6 ∈ TB ∧ Cond.code yX6_likely cX6_likely 9 (some .int) ∈ TB := ⟨TBm 746 (by decide +kernel) (by decide +kernel), TBm 747 (by decide +kernel) (by decide +kernel), TBm 748 (by decide +kernel) (by decide +kernel), TBm 54 (by decide +kernel) (by decide +kernel), TBm 749 (by decide +kernel) (by decide +kernel)⟩
theorem hdl_X6_likely : yX6_likely.cls = RX6 ∧ yX6_likely.cls ≠ "java/lang/invoke/MethodHandle" ∧ yX6_likely.cls ≠ "java/lang/invoke/VarHandle" ∧ (parseMethodDescriptor yX6_likely.desc).map (fun d => d.parameters.length) = some 3 := ⟨rfl, by decide +kernel, by decide +kernel, by decide +kernel⟩
theorem hwl_X7_likely : Cond.methodLink "SignpostYardLaw" 132 yX7_likely ∈ TB ∧ Cond.instanceMethod yX7_likely ∈ TB ∧ Cond.selects RX7 yX7_likely yX7_likely ∈ TB ∧ Cond.initialized RX7 ∈ TB ∧ Cond.code yX7_likely cX7_likely 9 (some .int) ∈ TB := ⟨TBm 1180 (by decide +kernel) (by decide +kernel), TBm 1181 (by decide +kernel) (by decide +kernel), TBm 1182 (by decide +kernel) (by decide +kernel), TBm 66 (by decide +kernel) (by decide +kernel), TBm 1183 (by decide +kernel) (by decide +kernel)⟩
theorem hdl_X7_likely : yX7_likely.cls = RX7 ∧ yX7_likely.cls ≠ "java/lang/invoke/MethodHandle" ∧ yX7_likely.cls ≠ "java/lang/invoke/VarHandle" ∧ (parseMethodDescriptor yX7_likely.desc).map (fun d => d.parameters.length) = some 3 := ⟨rfl, by decide +kernel, by decide +kernel, by decide +kernel⟩
theorem hwl_X6_century : Cond.methodLink "SignpostYardLaw" 133 yX6_century ∈ TB ∧ Cond.instanceMethod yX6_century ∈ TB ∧ Cond.selects RX6 yX6_century yX6_century ∈ TB ∧ Cond.initialized RX6 ∈ TB ∧ Cond.code yX6_century cX6_century 5 (some .int) ∈ TB := ⟨TBm 765 (by decide +kernel) (by decide +kernel), TBm 766 (by decide +kernel) (by decide +kernel), TBm 767 (by decide +kernel) (by decide +kernel), TBm 54 (by decide +kernel) (by decide +kernel), TBm 768 (by decide +kernel) (by decide +kernel)⟩
theorem hdl_X6_century : yX6_century.cls = RX6 ∧ yX6_century.cls ≠ "java/lang/invoke/MethodHandle" ∧ yX6_century.cls ≠ "java/lang/invoke/VarHandle" ∧ (parseMethodDescriptor yX6_century.desc).map (fun d => d.parameters.length) = some 3 := ⟨rfl, by decide +kernel, by decide +kernel, by decide +kernel⟩
theorem hwl_X7_century : Cond.methodLink "SignpostYardLaw" 136 yX7_century ∈ TB ∧ Cond.instanceMethod yX7_century ∈ TB ∧ Cond.selects RX7 yX7_century yX7_century ∈ TB ∧ Cond.initialized RX7 ∈ TB ∧ Cond.code yX7_century cX7_century 7 (some .int) ∈ TB := ⟨TBm 1185 (by decide +kernel) (by decide +kernel), TBm 1186 (by decide +kernel) (by decide +kernel), TBm 1187 (by decide +kernel) (by decide +kernel), TBm 66 (by decide +kernel) (by decide +kernel), TBm 1188 (by decide +kernel) (by decide +kernel)⟩
theorem hdl_X7_century : yX7_century.cls = RX7 ∧ yX7_century.cls ≠ "java/lang/invoke/MethodHandle" ∧ yX7_century.cls ≠ "java/lang/invoke/VarHandle" ∧ (parseMethodDescriptor yX7_century.desc).map (fun d => d.parameters.length) = some 3 := ⟨rfl, by decide +kernel, by decide +kernel, by decide +kernel⟩
theorem hwl_X6_keep : Cond.methodLink "SignpostYardLaw" 137 yX6_keep ∈ TB ∧ Cond.instanceMethod yX6_keep ∈ TB ∧ Cond.selects RX6 yX6_keep yX6_keep ∈ TB ∧ Cond.initialized RX6 ∈ TB ∧ Cond.code yX6_keep cX6_keep 1 (some .int) ∈ TB := ⟨TBm 796 (by decide +kernel) (by decide +kernel), TBm 797 (by decide +kernel) (by decide +kernel), TBm 798 (by decide +kernel) (by decide +kernel), TBm 54 (by decide +kernel) (by decide +kernel), TBm 799 (by decide +kernel) (by decide +kernel)⟩
theorem hdl_X6_keep : yX6_keep.cls = RX6 ∧ yX6_keep.cls ≠ "java/lang/invoke/MethodHandle" ∧ yX6_keep.cls ≠ "java/lang/invoke/VarHandle" ∧ (parseMethodDescriptor yX6_keep.desc).map (fun d => d.parameters.length) = some 0 := ⟨rfl, by decide +kernel, by decide +kernel, by decide +kernel⟩
theorem hwl_X7_keep : Cond.methodLink "SignpostYardLaw" 140 yX7_keep ∈ TB ∧ Cond.instanceMethod yX7_keep ∈ TB ∧ Cond.selects RX7 yX7_keep yX7_keep ∈ TB ∧ Cond.initialized RX7 ∈ TB ∧ Cond.code yX7_keep cX7_keep 2 (some .int) ∈ TB := ⟨TBm 1203 (by decide +kernel) (by decide +kernel), TBm 1204 (by decide +kernel) (by decide +kernel), TBm 1205 (by decide +kernel) (by decide +kernel), TBm 66 (by decide +kernel) (by decide +kernel), TBm 1206 (by decide +kernel) (by decide +kernel)⟩
theorem hdl_X7_keep : yX7_keep.cls = RX7 ∧ yX7_keep.cls ≠ "java/lang/invoke/MethodHandle" ∧ yX7_keep.cls ≠ "java/lang/invoke/VarHandle" ∧ (parseMethodDescriptor yX7_keep.desc).map (fun d => d.parameters.length) = some 0 := ⟨rfl, by decide +kernel, by decide +kernel, by decide +kernel⟩
theorem hwl_X6_back : Cond.methodLink "SignpostYardLaw" 141 yX6_back ∈ TB ∧ Cond.instanceMethod yX6_back ∈ TB ∧ Cond.selects RX6 yX6_back yX6_back ∈ TB ∧ Cond.initialized RX6 ∈ TB ∧ Cond.code yX6_back cX6_back 1 (some .int) ∈ TB := ⟨TBm 800 (by decide +kernel) (by decide +kernel), TBm 801 (by decide +kernel) (by decide +kernel), TBm 802 (by decide +kernel) (by decide +kernel), TBm 54 (by decide +kernel) (by decide +kernel), TBm 803 (by decide +kernel) (by decide +kernel)⟩
theorem hdl_X6_back : yX6_back.cls = RX6 ∧ yX6_back.cls ≠ "java/lang/invoke/MethodHandle" ∧ yX6_back.cls ≠ "java/lang/invoke/VarHandle" ∧ (parseMethodDescriptor yX6_back.desc).map (fun d => d.parameters.length) = some 0 := ⟨rfl, by decide +kernel, by decide +kernel, by decide +kernel⟩
theorem hwl_X7_back : Cond.methodLink "SignpostYardLaw" 144 yX7_back ∈ TB ∧ Cond.instanceMethod yX7_back ∈ TB ∧ Cond.selects RX7 yX7_back yX7_back ∈ TB ∧ Cond.initialized RX7 ∈ TB ∧ Cond.code yX7_back cX7_back 2 (some .int) ∈ TB := ⟨TBm 1207 (by decide +kernel) (by decide +kernel), TBm 1208 (by decide +kernel) (by decide +kernel), TBm 1209 (by decide +kernel) (by decide +kernel), TBm 66 (by decide +kernel) (by decide +kernel), TBm 1210 (by decide +kernel) (by decide +kernel)⟩
theorem hdl_X7_back : yX7_back.cls = RX7 ∧ yX7_back.cls ≠ "java/lang/invoke/MethodHandle" ∧ yX7_back.cls ≠ "java/lang/invoke/VarHandle" ∧ (parseMethodDescriptor yX7_back.desc).map (fun d => d.parameters.length) = some 0 := ⟨rfl, by decide +kernel, by decide +kernel, by decide +kernel⟩
theorem hwl_X6_count : Cond.methodLink "SignpostYardLaw" 145 yX6_count ∈ TB ∧ Cond.instanceMethod yX6_count ∈ TB ∧ Cond.selects RX6 yX6_count yX6_count ∈ TB ∧ Cond.initialized RX6 ∈ TB ∧ Cond.code yX6_count cX6_count 2 (some .int) ∈ TB := ⟨TBm 804 (by decide +kernel) (by decide +kernel), TBm 805 (by decide +kernel) (by decide +kernel), TBm 806 (by decide +kernel) (by decide +kernel), TBm 54 (by decide +kernel) (by decide +kernel), TBm 807 (by decide +kernel) (by decide +kernel)⟩
theorem hdl_X6_count : yX6_count.cls = RX6 ∧ yX6_count.cls ≠ "java/lang/invoke/MethodHandle" ∧ yX6_count.cls ≠ "java/lang/invoke/VarHandle" ∧ (parseMethodDescriptor yX6_count.desc).map (fun d => d.parameters.length) = some 1 := ⟨rfl, by decide +kernel, by decide +kernel, by decide +kernel⟩
theorem hwl_X7_count : Cond.methodLink "SignpostYardLaw" 148 yX7_count ∈ TB ∧ Cond.instanceMethod yX7_count ∈ TB ∧ Cond.selects RX7 yX7_count yX7_count ∈ TB ∧ Cond.initialized RX7 ∈ TB ∧ Cond.code yX7_count cX7_count 2 (some .int) ∈ TB := ⟨TBm 1211 (by decide +kernel) (by decide +kernel), TBm 1212 (by decide +kernel) (by decide +kernel), TBm 1213 (by decide +kernel) (by decide +kernel), TBm 66 (by decide +kernel) (by decide +kernel), TBm 1214 (by decide +kernel) (by decide +kernel)⟩
theorem hdl_X7_count : yX7_count.cls = RX7 ∧ yX7_count.cls ≠ "java/lang/invoke/MethodHandle" ∧ yX7_count.cls ≠ "java/lang/invoke/VarHandle" ∧ (parseMethodDescriptor yX7_count.desc).map (fun d => d.parameters.length) = some 1 := ⟨rfl, by decide +kernel, by decide +kernel, by decide +kernel⟩
/-- what stands all along the law's loop -/
def LC (p : Program) (s : State) (m : MethodId) (args : Array Value) (c : Code) (b L : Nat) (xs : Nat → Int32) (D : va_G) (w : Wv) (A : Nat → Prop) : Prop := p.tables.exec = Jvm.exec ∧ c.code = code ∧ c.maxLocals = 4 ∧ s.vm.findClass "SignpostYardLaw" = some m.cls ∧ (∀ x ∈ TB, x.before args s = true) ∧ va_X b L xs s s.heap ∧ b < s.heap.size ∧ ¬ A b ∧ KN D w s ∧ Inj w ∧ ∀ q, AL w q → A q
section LW
variable {p : Program} {l : Launch} {e : Env} {s : State} {m : MethodId} {args : Array Value} {below : List Frame} {meth : Method} {c : Code} {b L : Nat} {xs : Nat → Int32} {D : va_G} {w : Wv} {A : Nat → Prop} {σ : Sg} {H : Heap} {locs : List Loc} {ls : Array Slot} {N : Nat} {Q : State → Prop}
theorem law_0 (C : LC p s m args c b L xs D w A) (hR : Rel N σ) (hN : N < 512) (hi : 4 * N + 4 ≤ L) (hL : L ≤ 2048) (hP : va_P D vwCl (WL w σ) H) (hS : va_S A s.heap H locs) (hl : lv_has ls 4 [(3, .int (nI (4 * N))), (0, .ref b), (1, .ref (w.1 0)), (2, .ref (w.1 184))])
    (kk : ∀ (σ' : Sg) (H : Heap) (locs : List Loc), Rel (N + 1) σ' → va_P D vwCl (WL w σ') H → va_S A s.heap H locs → W p l e room_1 s m args below meth c H locs 600000 7302250 Q (F0 m 1009 ls [])) : W p l e room_1 s m args below meth c H locs 600000 7302250 Q (F0 m 180 ls []) := by
  obtain ⟨hx, hb, hml, hown, hts, hX, hbl, hbA, hK, hJ, hAA⟩ := C
  have h1 : vp_in (nI (4 * N) + 1) L := by rw [show nI (4 * N) + (1 : Int32) = nI (4 * N + 1) from nI_add (4 * N) 1]; exact vp_in_nI (by omega) (by omega)
  obtain ⟨r, σ1, σ2, e1, e2, hR2⟩ := eq_write hR hN (xs (nI (4 * N) + 1).toNatClampNeg)
  refine lv_aload_n hx hb dL_law_180 rfl (lv_at hl 2 rfl) ?_
  refine lv_aload_n hx hb dL_law_181 rfl (lv_at hl 1 rfl) ?_
  refine lv_iload_n hx hb dL_law_182 rfl (lv_at hl 0 rfl) ?_
  refine lv_iconst (v := (1 : Int32)) hx hb dL_law_183 (by decide) ?_
  refine lv_iadd hx hb dL_law_184 ?_
  refine va_sld hx hb hX hbl hbA hS h1 dL_law_185 ?_
  refine qa_cVi (w := w) (i := 0) (As := [.int (xs (nI (4 * N) + 1).toNatClampNeg)]) (rest := []) hx hb hts hml hown hK hP hS hAA (c_X6_write l D w σ (xs (nI (4 * N) + 1).toNatClampNeg) r σ1 hJ e1) hwl_X6_write hdl_X6_write ⟨rfl, rfl, rfl⟩ (by decide) (ce6 kd0) rfl ⟨Nat.le_of_ble_eq_true rfl, Nat.le_of_ble_eq_true rfl⟩ ⟨Nat.le_refl _, Nat.le_refl _⟩ hl.1 rfl (Nat.le_of_ble_eq_true rfl) dL_law_186 (fun H locs hP hS => ?_)
  refine lv_aload_n hx hb dL_law_189 rfl (lv_at hl 3 rfl) ?_
  refine lv_aload_n hx hb dL_law_190 rfl (lv_at hl 1 rfl) ?_
  refine lv_iload_n hx hb dL_law_191 rfl (lv_at hl 0 rfl) ?_
  refine lv_iconst (v := (1 : Int32)) hx hb dL_law_192 (by decide) ?_
  refine lv_iadd hx hb dL_law_193 ?_
  refine va_sld hx hb hX hbl hbA hS h1 dL_law_194 ?_
  refine qa_cVi (w := w) (i := 184) (As := [.int (xs (nI (4 * N) + 1).toNatClampNeg)]) (rest := [.int r]) hx hb hts hml hown hK hP hS hAA (c_X7_write l D w σ1 (xs (nI (4 * N) + 1).toNatClampNeg) r σ2 hJ e2) hwl_X7_write hdl_X7_write ⟨rfl, rfl, rfl⟩ (by decide) (ce7 kd184) rfl ⟨Nat.le_of_ble_eq_true rfl, Nat.le_of_ble_eq_true rfl⟩ ⟨Nat.le_refl _, Nat.le_refl _⟩ hl.1 rfl (Nat.le_of_ble_eq_true rfl) dL_law_195 (fun H locs hP hS => ?_)
  exact lv_icmp_eq (tgt := 1009) hx hb dL_law_198 (by decide) (fun _ => kk σ2 H locs hR2 hP hS) (fun hc => absurd rfl hc)
theorem law_1 (C : LC p s m args c b L xs D w A) (hR : Rel N σ) (hN : N < 512) (hi : 4 * N + 4 ≤ L) (hL : L ≤ 2048) (hP : va_P D vwCl (WL w σ) H) (hS : va_S A s.heap H locs) (hl : lv_has ls 4 [(3, .int (nI (4 * N))), (0, .ref b), (1, .ref (w.1 0)), (2, .ref (w.1 184))])
    (kk : ∀ (σ' : Sg) (H : Heap) (locs : List Loc), Rel (N + 1) σ' → va_P D vwCl (WL w σ') H → va_S A s.heap H locs → W p l e room_1 s m args below meth c H locs 600000 7302250 Q (F0 m 1009 ls [])) : W p l e room_1 s m args below meth c H locs 600000 7302250 Q (F0 m 203 ls []) := by
  obtain ⟨hx, hb, hml, hown, hts, hX, hbl, hbA, hK, hJ, hAA⟩ := C
  obtain ⟨r, σ1, σ2, e1, e2, hR2⟩ := eq_wipe hR hN
  refine lv_aload_n hx hb dL_law_203 rfl (lv_at hl 2 rfl) ?_
  refine qa_cVi (w := w) (i := 0) (As := []) (rest := []) hx hb hts hml hown hK hP hS hAA (c_X6_wipe l D w σ r σ1 hJ e1) hwl_X6_wipe hdl_X6_wipe ⟨rfl, rfl, rfl⟩ (by decide) (ce6 kd0) rfl ⟨Nat.le_of_ble_eq_true rfl, Nat.le_of_ble_eq_true rfl⟩ ⟨Nat.le_refl _, Nat.le_refl _⟩ hl.1 rfl (Nat.le_of_ble_eq_true rfl) dL_law_204 (fun H locs hP hS => ?_)
  refine lv_aload_n hx hb dL_law_207 rfl (lv_at hl 3 rfl) ?_
  refine qa_cVi (w := w) (i := 184) (As := []) (rest := [.int r]) hx hb hts hml hown hK hP hS hAA (c_X7_wipe l D w σ1 r σ2 hJ e2) hwl_X7_wipe hdl_X7_wipe ⟨rfl, rfl, rfl⟩ (by decide) (ce7 kd184) rfl ⟨Nat.le_of_ble_eq_true rfl, Nat.le_of_ble_eq_true rfl⟩ ⟨Nat.le_refl _, Nat.le_refl _⟩ hl.1 rfl (Nat.le_of_ble_eq_true rfl) dL_law_208 (fun H locs hP hS => ?_)
  exact lv_icmp_eq (tgt := 1009) hx hb dL_law_211 (by decide) (fun _ => kk σ2 H locs hR2 hP hS) (fun hc => absurd rfl hc)
theorem law_2 (C : LC p s m args c b L xs D w A) (hR : Rel N σ) (hN : N < 512) (hi : 4 * N + 4 ≤ L) (hL : L ≤ 2048) (hP : va_P D vwCl (WL w σ) H) (hS : va_S A s.heap H locs) (hl : lv_has ls 4 [(3, .int (nI (4 * N))), (0, .ref b), (1, .ref (w.1 0)), (2, .ref (w.1 184))])
    (kk : ∀ (σ' : Sg) (H : Heap) (locs : List Loc), Rel (N + 1) σ' → va_P D vwCl (WL w σ') H → va_S A s.heap H locs → W p l e room_1 s m args below meth c H locs 600000 7302250 Q (F0 m 1009 ls [])) : W p l e room_1 s m args below meth c H locs 600000 7302250 Q (F0 m 216 ls []) := by
  obtain ⟨hx, hb, hml, hown, hts, hX, hbl, hbA, hK, hJ, hAA⟩ := C
  obtain ⟨r, σ1, σ2, e1, e2, hR2⟩ := eq_fault hR hN
  refine lv_aload_n hx hb dL_law_216 rfl (lv_at hl 2 rfl) ?_
  refine qa_cVi (w := w) (i := 0) (As := []) (rest := []) hx hb hts hml hown hK hP hS hAA (c_X6_fault l D w σ r σ1 hJ e1) hwl_X6_fault hdl_X6_fault ⟨rfl, rfl, rfl⟩ (by decide) (ce6 kd0) rfl ⟨Nat.le_of_ble_eq_true rfl, Nat.le_of_ble_eq_true rfl⟩ ⟨Nat.le_refl _, Nat.le_refl _⟩ hl.1 rfl (Nat.le_of_ble_eq_true rfl) dL_law_217 (fun H locs hP hS => ?_)
  refine lv_aload_n hx hb dL_law_220 rfl (lv_at hl 3 rfl) ?_
  refine qa_cVi (w := w) (i := 184) (As := []) (rest := [.int r]) hx hb hts hml hown hK hP hS hAA (c_X7_fault l D w σ1 r σ2 hJ e2) hwl_X7_fault hdl_X7_fault ⟨rfl, rfl, rfl⟩ (by decide) (ce7 kd184) rfl ⟨Nat.le_of_ble_eq_true rfl, Nat.le_of_ble_eq_true rfl⟩ ⟨Nat.le_refl _, Nat.le_refl _⟩ hl.1 rfl (Nat.le_of_ble_eq_true rfl) dL_law_221 (fun H locs hP hS => ?_)
  exact lv_icmp_eq (tgt := 1009) hx hb dL_law_224 (by decide) (fun _ => kk σ2 H locs hR2 hP hS) (fun hc => absurd rfl hc)
theorem law_3 (C : LC p s m args c b L xs D w A) (hR : Rel N σ) (hN : N < 512) (hi : 4 * N + 4 ≤ L) (hL : L ≤ 2048) (hP : va_P D vwCl (WL w σ) H) (hS : va_S A s.heap H locs) (hl : lv_has ls 4 [(3, .int (nI (4 * N))), (0, .ref b), (1, .ref (w.1 0)), (2, .ref (w.1 184))])
    (kk : ∀ (σ' : Sg) (H : Heap) (locs : List Loc), Rel (N + 1) σ' → va_P D vwCl (WL w σ') H → va_S A s.heap H locs → W p l e room_1 s m args below meth c H locs 600000 7302250 Q (F0 m 1009 ls [])) : W p l e room_1 s m args below meth c H locs 600000 7302250 Q (F0 m 229 ls []) := by
  obtain ⟨hx, hb, hml, hown, hts, hX, hbl, hbA, hK, hJ, hAA⟩ := C
  obtain ⟨r, σ1, σ2, e1, e2, hR2⟩ := eq_lay hR hN
  refine lv_aload_n hx hb dL_law_229 rfl (lv_at hl 2 rfl) ?_
  refine qa_cVi (w := w) (i := 0) (As := []) (rest := []) hx hb hts hml hown hK hP hS hAA (c_X6_lay l D w σ r σ1 hJ e1) hwl_X6_lay hdl_X6_lay ⟨rfl, rfl, rfl⟩ (by decide) (ce6 kd0) rfl ⟨Nat.le_of_ble_eq_true rfl, Nat.le_of_ble_eq_true rfl⟩ ⟨Nat.le_refl _, Nat.le_refl _⟩ hl.1 rfl (Nat.le_of_ble_eq_true rfl) dL_law_230 (fun H locs hP hS => ?_)
  refine lv_aload_n hx hb dL_law_233 rfl (lv_at hl 3 rfl) ?_
  refine qa_cVi (w := w) (i := 184) (As := []) (rest := [.int r]) hx hb hts hml hown hK hP hS hAA (c_X7_lay l D w σ1 r σ2 hJ e2) hwl_X7_lay hdl_X7_lay ⟨rfl, rfl, rfl⟩ (by decide) (ce7 kd184) rfl ⟨Nat.le_of_ble_eq_true rfl, Nat.le_of_ble_eq_true rfl⟩ ⟨Nat.le_refl _, Nat.le_refl _⟩ hl.1 rfl (Nat.le_of_ble_eq_true rfl) dL_law_234 (fun H locs hP hS => ?_)
  exact lv_icmp_eq (tgt := 1009) hx hb dL_law_237 (by decide) (fun _ => kk σ2 H locs hR2 hP hS) (fun hc => absurd rfl hc)
theorem law_4 (C : LC p s m args c b L xs D w A) (hR : Rel N σ) (hN : N < 512) (hi : 4 * N + 4 ≤ L) (hL : L ≤ 2048) (hP : va_P D vwCl (WL w σ) H) (hS : va_S A s.heap H locs) (hl : lv_has ls 4 [(3, .int (nI (4 * N))), (0, .ref b), (1, .ref (w.1 0)), (2, .ref (w.1 184))])
    (kk : ∀ (σ' : Sg) (H : Heap) (locs : List Loc), Rel (N + 1) σ' → va_P D vwCl (WL w σ') H → va_S A s.heap H locs → W p l e room_1 s m args below meth c H locs 600000 7302250 Q (F0 m 1009 ls [])) : W p l e room_1 s m args below meth c H locs 600000 7302250 Q (F0 m 242 ls []) := by
  obtain ⟨hx, hb, hml, hown, hts, hX, hbl, hbA, hK, hJ, hAA⟩ := C
  have h1 : vp_in (nI (4 * N) + 1) L := by rw [show nI (4 * N) + (1 : Int32) = nI (4 * N + 1) from nI_add (4 * N) 1]; exact vp_in_nI (by omega) (by omega)
  have h2 : vp_in (nI (4 * N) + 2) L := by rw [show nI (4 * N) + (2 : Int32) = nI (4 * N + 2) from nI_add (4 * N) 2]; exact vp_in_nI (by omega) (by omega)
  obtain ⟨r, e1, e2⟩ := eq_road hR (xs (nI (4 * N) + 1).toNatClampNeg) (xs (nI (4 * N) + 2).toNatClampNeg)
  have hR2 : Rel (N + 1) σ := Rel_fr hR (by omega) (by omega) hR.1 (fun _ _ _ _ _ => rfl)
  refine lv_aload_n hx hb dL_law_242 rfl (lv_at hl 2 rfl) ?_
  refine lv_aload_n hx hb dL_law_243 rfl (lv_at hl 1 rfl) ?_
  refine lv_iload_n hx hb dL_law_244 rfl (lv_at hl 0 rfl) ?_
  refine lv_iconst (v := (1 : Int32)) hx hb dL_law_245 (by decide) ?_
  refine lv_iadd hx hb dL_law_246 ?_
  refine va_sld hx hb hX hbl hbA hS h1 dL_law_247 ?_
  refine lv_aload_n hx hb dL_law_248 rfl (lv_at hl 1 rfl) ?_
  refine lv_iload_n hx hb dL_law_249 rfl (lv_at hl 0 rfl) ?_
  refine lv_iconst (v := (2 : Int32)) hx hb dL_law_250 (by decide) ?_
  refine lv_iadd hx hb dL_law_251 ?_
  refine va_sld hx hb hX hbl hbA hS h2 dL_law_252 ?_
  refine qa_cVi (w := w) (i := 0) (As := [.int (xs (nI (4 * N) + 1).toNatClampNeg), .int (xs (nI (4 * N) + 2).toNatClampNeg)]) (rest := []) hx hb hts hml hown hK hP hS hAA (c_X6_road l D w σ (xs (nI (4 * N) + 1).toNatClampNeg) (xs (nI (4 * N) + 2).toNatClampNeg) r e1) hwl_X6_road hdl_X6_road ⟨rfl, rfl, rfl⟩ (by decide) (ce6 kd0) rfl ⟨Nat.le_of_ble_eq_true rfl, Nat.le_of_ble_eq_true rfl⟩ ⟨Nat.le_refl _, Nat.le_refl _⟩ hl.1 rfl (Nat.le_of_ble_eq_true rfl) dL_law_253 (fun H locs hP hS => ?_)
  refine lv_aload_n hx hb dL_law_256 rfl (lv_at hl 3 rfl) ?_
  refine lv_aload_n hx hb dL_law_257 rfl (lv_at hl 1 rfl) ?_
  refine lv_iload_n hx hb dL_law_258 rfl (lv_at hl 0 rfl) ?_
  refine lv_iconst (v := (1 : Int32)) hx hb dL_law_259 (by decide) ?_
  refine lv_iadd hx hb dL_law_260 ?_
  refine va_sld hx hb hX hbl hbA hS h1 dL_law_261 ?_
  refine lv_aload_n hx hb dL_law_262 rfl (lv_at hl 1 rfl) ?_
  refine lv_iload_n hx hb dL_law_263 rfl (lv_at hl 0 rfl) ?_
  refine lv_iconst (v := (2 : Int32)) hx hb dL_law_264 (by decide) ?_
  refine lv_iadd hx hb dL_law_265 ?_
  refine va_sld hx hb hX hbl hbA hS h2 dL_law_266 ?_
  refine qa_cVi (w := w) (i := 184) (As := [.int (xs (nI (4 * N) + 1).toNatClampNeg), .int (xs (nI (4 * N) + 2).toNatClampNeg)]) (rest := [.int r]) hx hb hts hml hown hK hP hS hAA (c_X7_road l D w σ (xs (nI (4 * N) + 1).toNatClampNeg) (xs (nI (4 * N) + 2).toNatClampNeg) r e2) hwl_X7_road hdl_X7_road ⟨rfl, rfl, rfl⟩ (by decide) (ce7 kd184) rfl ⟨Nat.le_of_ble_eq_true rfl, Nat.le_of_ble_eq_true rfl⟩ ⟨Nat.le_refl _, Nat.le_refl _⟩ hl.1 rfl (Nat.le_of_ble_eq_true rfl) dL_law_267 (fun H locs hP hS => ?_)
  exact lv_icmp_eq (tgt := 1009) hx hb dL_law_270 (by decide) (fun _ => kk σ H locs hR2 hP hS) (fun hc => absurd rfl hc)
theorem law_5 (C : LC p s m args c b L xs D w A) (hR : Rel N σ) (hN : N < 512) (hi : 4 * N + 4 ≤ L) (hL : L ≤ 2048) (hP : va_P D vwCl (WL w σ) H) (hS : va_S A s.heap H locs) (hl : lv_has ls 4 [(3, .int (nI (4 * N))), (0, .ref b), (1, .ref (w.1 0)), (2, .ref (w.1 184))])
    (kk : ∀ (σ' : Sg) (H : Heap) (locs : List Loc), Rel (N + 1) σ' → va_P D vwCl (WL w σ') H → va_S A s.heap H locs → W p l e room_1 s m args below meth c H locs 600000 7302250 Q (F0 m 1009 ls [])) : W p l e room_1 s m args below meth c H locs 600000 7302250 Q (F0 m 275 ls []) := by
  obtain ⟨hx, hb, hml, hown, hts, hX, hbl, hbA, hK, hJ, hAA⟩ := C
  have h1 : vp_in (nI (4 * N) + 1) L := by rw [show nI (4 * N) + (1 : Int32) = nI (4 * N + 1) from nI_add (4 * N) 1]; exact vp_in_nI (by omega) (by omega)
  have h2 : vp_in (nI (4 * N) + 2) L := by rw [show nI (4 * N) + (2 : Int32) = nI (4 * N + 2) from nI_add (4 * N) 2]; exact vp_in_nI (by omega) (by omega)
  obtain ⟨r, e1, e2⟩ := eq_post hR (xs (nI (4 * N) + 1).toNatClampNeg) (xs (nI (4 * N) + 2).toNatClampNeg)
  have hR2 : Rel (N + 1) σ := Rel_fr hR (by omega) (by omega) hR.1 (fun _ _ _ _ _ => rfl)
  refine lv_aload_n hx hb dL_law_275 rfl (lv_at hl 2 rfl) ?_
  refine lv_aload_n hx hb dL_law_276 rfl (lv_at hl 1 rfl) ?_
  refine lv_iload_n hx hb dL_law_277 rfl (lv_at hl 0 rfl) ?_
  refine lv_iconst (v := (1 : Int32)) hx hb dL_law_278 (by decide) ?_
  refine lv_iadd hx hb dL_law_279 ?_
  refine va_sld hx hb hX hbl hbA hS h1 dL_law_280 ?_
  refine lv_aload_n hx hb dL_law_281 rfl (lv_at hl 1 rfl) ?_
  refine lv_iload_n hx hb dL_law_282 rfl (lv_at hl 0 rfl) ?_
  refine lv_iconst (v := (2 : Int32)) hx hb dL_law_283 (by decide) ?_
  refine lv_iadd hx hb dL_law_284 ?_
  refine va_sld hx hb hX hbl hbA hS h2 dL_law_285 ?_
  refine qa_cVi (w := w) (i := 0) (As := [.int (xs (nI (4 * N) + 1).toNatClampNeg), .int (xs (nI (4 * N) + 2).toNatClampNeg)]) (rest := []) hx hb hts hml hown hK hP hS hAA (c_X6_post l D w σ (xs (nI (4 * N) + 1).toNatClampNeg) (xs (nI (4 * N) + 2).toNatClampNeg) r e1) hwl_X6_post hdl_X6_post ⟨rfl, rfl, rfl⟩ (by decide) (ce6 kd0) rfl ⟨Nat.le_of_ble_eq_true rfl, Nat.le_of_ble_eq_true rfl⟩ ⟨Nat.le_refl _, Nat.le_refl _⟩ hl.1 rfl (Nat.le_of_ble_eq_true rfl) dL_law_286 (fun H locs hP hS => ?_)
  refine lv_aload_n hx hb dL_law_289 rfl (lv_at hl 3 rfl) ?_
  refine lv_aload_n hx hb dL_law_290 rfl (lv_at hl 1 rfl) ?_
  refine lv_iload_n hx hb dL_law_291 rfl (lv_at hl 0 rfl) ?_
  refine lv_iconst (v := (1 : Int32)) hx hb dL_law_292 (by decide) ?_
  refine lv_iadd hx hb dL_law_293 ?_
  refine va_sld hx hb hX hbl hbA hS h1 dL_law_294 ?_
  refine lv_aload_n hx hb dL_law_295 rfl (lv_at hl 1 rfl) ?_
  refine lv_iload_n hx hb dL_law_296 rfl (lv_at hl 0 rfl) ?_
  refine lv_iconst (v := (2 : Int32)) hx hb dL_law_297 (by decide) ?_
  refine lv_iadd hx hb dL_law_298 ?_
  refine va_sld hx hb hX hbl hbA hS h2 dL_law_299 ?_
  refine qa_cVi (w := w) (i := 184) (As := [.int (xs (nI (4 * N) + 1).toNatClampNeg), .int (xs (nI (4 * N) + 2).toNatClampNeg)]) (rest := [.int r]) hx hb hts hml hown hK hP hS hAA (c_X7_post l D w σ (xs (nI (4 * N) + 1).toNatClampNeg) (xs (nI (4 * N) + 2).toNatClampNeg) r e2) hwl_X7_post hdl_X7_post ⟨rfl, rfl, rfl⟩ (by decide) (ce7 kd184) rfl ⟨Nat.le_of_ble_eq_true rfl, Nat.le_of_ble_eq_true rfl⟩ ⟨Nat.le_refl _, Nat.le_refl _⟩ hl.1 rfl (Nat.le_of_ble_eq_true rfl) dL_law_300 (fun H locs hP hS => ?_)
  exact lv_icmp_eq (tgt := 1009) hx hb dL_law_303 (by decide) (fun _ => kk σ H locs hR2 hP hS) (fun hc => absurd rfl hc)
theorem law_6 (C : LC p s m args c b L xs D w A) (hR : Rel N σ) (hN : N < 512) (hi : 4 * N + 4 ≤ L) (hL : L ≤ 2048) (hP : va_P D vwCl (WL w σ) H) (hS : va_S A s.heap H locs) (hl : lv_has ls 4 [(3, .int (nI (4 * N))), (0, .ref b), (1, .ref (w.1 0)), (2, .ref (w.1 184))])
    (kk : ∀ (σ' : Sg) (H : Heap) (locs : List Loc), Rel (N + 1) σ' → va_P D vwCl (WL w σ') H → va_S A s.heap H locs → W p l e room_1 s m args below meth c H locs 600000 7302250 Q (F0 m 1009 ls [])) : W p l e room_1 s m args below meth c H locs 600000 7302250 Q (F0 m 308 ls []) := by
  obtain ⟨hx, hb, hml, hown, hts, hX, hbl, hbA, hK, hJ, hAA⟩ := C
  have h1 : vp_in (nI (4 * N) + 1) L := by rw [show nI (4 * N) + (1 : Int32) = nI (4 * N + 1) from nI_add (4 * N) 1]; exact vp_in_nI (by omega) (by omega)
  have h2 : vp_in (nI (4 * N) + 2) L := by rw [show nI (4 * N) + (2 : Int32) = nI (4 * N + 2) from nI_add (4 * N) 2]; exact vp_in_nI (by omega) (by omega)
  have h3 : vp_in (nI (4 * N) + 3) L := by rw [show nI (4 * N) + (3 : Int32) = nI (4 * N + 3) from nI_add (4 * N) 3]; exact vp_in_nI (by omega) (by omega)
  obtain ⟨r, e1, e2⟩ := eq_arm hR (xs (nI (4 * N) + 1).toNatClampNeg) (xs (nI (4 * N) + 2).toNatClampNeg) (xs (nI (4 * N) + 3).toNatClampNeg)
  have hR2 : Rel (N + 1) σ := Rel_fr hR (by omega) (by omega) hR.1 (fun _ _ _ _ _ => rfl)
  refine lv_aload_n hx hb dL_law_308 rfl (lv_at hl 2 rfl) ?_
  refine lv_aload_n hx hb dL_law_309 rfl (lv_at hl 1 rfl) ?_
  refine lv_iload_n hx hb dL_law_310 rfl (lv_at hl 0 rfl) ?_
  refine lv_iconst (v := (1 : Int32)) hx hb dL_law_311 (by decide) ?_
  refine lv_iadd hx hb dL_law_312 ?_
  refine va_sld hx hb hX hbl hbA hS h1 dL_law_313 ?_
  refine lv_aload_n hx hb dL_law_314 rfl (lv_at hl 1 rfl) ?_
  refine lv_iload_n hx hb dL_law_315 rfl (lv_at hl 0 rfl) ?_
  refine lv_iconst (v := (2 : Int32)) hx hb dL_law_316 (by decide) ?_
  refine lv_iadd hx hb dL_law_317 ?_
  refine va_sld hx hb hX hbl hbA hS h2 dL_law_318 ?_
  refine lv_aload_n hx hb dL_law_319 rfl (lv_at hl 1 rfl) ?_
  refine lv_iload_n hx hb dL_law_320 rfl (lv_at hl 0 rfl) ?_
  refine lv_iconst (v := (3 : Int32)) hx hb dL_law_321 (by decide) ?_
  refine lv_iadd hx hb dL_law_322 ?_
  refine va_sld hx hb hX hbl hbA hS h3 dL_law_323 ?_
  refine qa_cVi (w := w) (i := 0) (As := [.int (xs (nI (4 * N) + 1).toNatClampNeg), .int (xs (nI (4 * N) + 2).toNatClampNeg), .int (xs (nI (4 * N) + 3).toNatClampNeg)]) (rest := []) hx hb hts hml hown hK hP hS hAA (c_X6_arm l D w σ (xs (nI (4 * N) + 1).toNatClampNeg) (xs (nI (4 * N) + 2).toNatClampNeg) (xs (nI (4 * N) + 3).toNatClampNeg) r e1) hwl_X6_arm hdl_X6_arm ⟨rfl, rfl, rfl⟩ (by decide) (ce6 kd0) rfl ⟨Nat.le_of_ble_eq_true rfl, Nat.le_of_ble_eq_true rfl⟩ ⟨Nat.le_refl _, Nat.le_refl _⟩ hl.1 rfl (Nat.le_of_ble_eq_true rfl) dL_law_324 (fun H locs hP hS => ?_)
  refine lv_aload_n hx hb dL_law_327 rfl (lv_at hl 3 rfl) ?_
  refine lv_aload_n hx hb dL_law_328 rfl (lv_at hl 1 rfl) ?_
  refine lv_iload_n hx hb dL_law_329 rfl (lv_at hl 0 rfl) ?_
  refine lv_iconst (v := (1 : Int32)) hx hb dL_law_330 (by decide) ?_
  refine lv_iadd hx hb dL_law_331 ?_
  refine va_sld hx hb hX hbl hbA hS h1 dL_law_332 ?_
  refine lv_aload_n hx hb dL_law_333 rfl (lv_at hl 1 rfl) ?_
  refine lv_iload_n hx hb dL_law_334 rfl (lv_at hl 0 rfl) ?_
  refine lv_iconst (v := (2 : Int32)) hx hb dL_law_335 (by decide) ?_
  refine lv_iadd hx hb dL_law_336 ?_
  refine va_sld hx hb hX hbl hbA hS h2 dL_law_337 ?_
  refine lv_aload_n hx hb dL_law_338 rfl (lv_at hl 1 rfl) ?_
  refine lv_iload_n hx hb dL_law_339 rfl (lv_at hl 0 rfl) ?_
  refine lv_iconst (v := (3 : Int32)) hx hb dL_law_340 (by decide) ?_
  refine lv_iadd hx hb dL_law_341 ?_
  refine va_sld hx hb hX hbl hbA hS h3 dL_law_342 ?_
  refine qa_cVi (w := w) (i := 184) (As := [.int (xs (nI (4 * N) + 1).toNatClampNeg), .int (xs (nI (4 * N) + 2).toNatClampNeg), .int (xs (nI (4 * N) + 3).toNatClampNeg)]) (rest := [.int r]) hx hb hts hml hown hK hP hS hAA (c_X7_arm l D w σ (xs (nI (4 * N) + 1).toNatClampNeg) (xs (nI (4 * N) + 2).toNatClampNeg) (xs (nI (4 * N) + 3).toNatClampNeg) r e2) hwl_X7_arm hdl_X7_arm ⟨rfl, rfl, rfl⟩ (by decide) (ce7 kd184) rfl ⟨Nat.le_of_ble_eq_true rfl, Nat.le_of_ble_eq_true rfl⟩ ⟨Nat.le_refl _, Nat.le_refl _⟩ hl.1 rfl (Nat.le_of_ble_eq_true rfl) dL_law_343 (fun H locs hP hS => ?_)
  exact lv_icmp_eq (tgt := 1009) hx hb dL_law_346 (by decide) (fun _ => kk σ H locs hR2 hP hS) (fun hc => absurd rfl hc)
theorem law_7 (C : LC p s m args c b L xs D w A) (hR : Rel N σ) (hN : N < 512) (hi : 4 * N + 4 ≤ L) (hL : L ≤ 2048) (hP : va_P D vwCl (WL w σ) H) (hS : va_S A s.heap H locs) (hl : lv_has ls 4 [(3, .int (nI (4 * N))), (0, .ref b), (1, .ref (w.1 0)), (2, .ref (w.1 184))])
    (kk : ∀ (σ' : Sg) (H : Heap) (locs : List Loc), Rel (N + 1) σ' → va_P D vwCl (WL w σ') H → va_S A s.heap H locs → W p l e room_1 s m args below meth c H locs 600000 7302250 Q (F0 m 1009 ls [])) : W p l e room_1 s m args below meth c H locs 600000 7302250 Q (F0 m 351 ls []) := by
  obtain ⟨hx, hb, hml, hown, hts, hX, hbl, hbA, hK, hJ, hAA⟩ := C
  have h1 : vp_in (nI (4 * N) + 1) L := by rw [show nI (4 * N) + (1 : Int32) = nI (4 * N + 1) from nI_add (4 * N) 1]; exact vp_in_nI (by omega) (by omega)
  have h2 : vp_in (nI (4 * N) + 2) L := by rw [show nI (4 * N) + (2 : Int32) = nI (4 * N + 2) from nI_add (4 * N) 2]; exact vp_in_nI (by omega) (by omega)
  obtain ⟨r, e1, e2⟩ := eq_walker hR (xs (nI (4 * N) + 1).toNatClampNeg) (xs (nI (4 * N) + 2).toNatClampNeg)
  have hR2 : Rel (N + 1) σ := Rel_fr hR (by omega) (by omega) hR.1 (fun _ _ _ _ _ => rfl)
  refine lv_aload_n hx hb dL_law_351 rfl (lv_at hl 2 rfl) ?_
  refine lv_aload_n hx hb dL_law_352 rfl (lv_at hl 1 rfl) ?_
  refine lv_iload_n hx hb dL_law_353 rfl (lv_at hl 0 rfl) ?_
  refine lv_iconst (v := (1 : Int32)) hx hb dL_law_354 (by decide) ?_
  refine lv_iadd hx hb dL_law_355 ?_
  refine va_sld hx hb hX hbl hbA hS h1 dL_law_356 ?_
  refine lv_aload_n hx hb dL_law_357 rfl (lv_at hl 1 rfl) ?_
  refine lv_iload_n hx hb dL_law_358 rfl (lv_at hl 0 rfl) ?_
  refine lv_iconst (v := (2 : Int32)) hx hb dL_law_359 (by decide) ?_
  refine lv_iadd hx hb dL_law_360 ?_
  refine va_sld hx hb hX hbl hbA hS h2 dL_law_361 ?_
  refine qa_cVi (w := w) (i := 0) (As := [.int (xs (nI (4 * N) + 1).toNatClampNeg), .int (xs (nI (4 * N) + 2).toNatClampNeg)]) (rest := []) hx hb hts hml hown hK hP hS hAA (c_X6_walker l D w σ (xs (nI (4 * N) + 1).toNatClampNeg) (xs (nI (4 * N) + 2).toNatClampNeg) r e1) hwl_X6_walker hdl_X6_walker ⟨rfl, rfl, rfl⟩ (by decide) (ce6 kd0) rfl ⟨Nat.le_of_ble_eq_true rfl, Nat.le_of_ble_eq_true rfl⟩ ⟨Nat.le_refl _, Nat.le_refl _⟩ hl.1 rfl (Nat.le_of_ble_eq_true rfl) dL_law_362 (fun H locs hP hS => ?_)
  refine lv_aload_n hx hb dL_law_365 rfl (lv_at hl 3 rfl) ?_
  refine lv_aload_n hx hb dL_law_366 rfl (lv_at hl 1 rfl) ?_
  refine lv_iload_n hx hb dL_law_367 rfl (lv_at hl 0 rfl) ?_
  refine lv_iconst (v := (1 : Int32)) hx hb dL_law_368 (by decide) ?_
  refine lv_iadd hx hb dL_law_369 ?_
  refine va_sld hx hb hX hbl hbA hS h1 dL_law_370 ?_
  refine lv_aload_n hx hb dL_law_371 rfl (lv_at hl 1 rfl) ?_
  refine lv_iload_n hx hb dL_law_372 rfl (lv_at hl 0 rfl) ?_
  refine lv_iconst (v := (2 : Int32)) hx hb dL_law_373 (by decide) ?_
  refine lv_iadd hx hb dL_law_374 ?_
  refine va_sld hx hb hX hbl hbA hS h2 dL_law_375 ?_
  refine qa_cVi (w := w) (i := 184) (As := [.int (xs (nI (4 * N) + 1).toNatClampNeg), .int (xs (nI (4 * N) + 2).toNatClampNeg)]) (rest := [.int r]) hx hb hts hml hown hK hP hS hAA (c_X7_walker l D w σ (xs (nI (4 * N) + 1).toNatClampNeg) (xs (nI (4 * N) + 2).toNatClampNeg) r e2) hwl_X7_walker hdl_X7_walker ⟨rfl, rfl, rfl⟩ (by decide) (ce7 kd184) rfl ⟨Nat.le_of_ble_eq_true rfl, Nat.le_of_ble_eq_true rfl⟩ ⟨Nat.le_refl _, Nat.le_refl _⟩ hl.1 rfl (Nat.le_of_ble_eq_true rfl) dL_law_376 (fun H locs hP hS => ?_)
  exact lv_icmp_eq (tgt := 1009) hx hb dL_law_379 (by decide) (fun _ => kk σ H locs hR2 hP hS) (fun hc => absurd rfl hc)
theorem law_8 (C : LC p s m args c b L xs D w A) (hR : Rel N σ) (hN : N < 512) (hi : 4 * N + 4 ≤ L) (hL : L ≤ 2048) (hP : va_P D vwCl (WL w σ) H) (hS : va_S A s.heap H locs) (hl : lv_has ls 4 [(3, .int (nI (4 * N))), (0, .ref b), (1, .ref (w.1 0)), (2, .ref (w.1 184))])
    (kk : ∀ (σ' : Sg) (H : Heap) (locs : List Loc), Rel (N + 1) σ' → va_P D vwCl (WL w σ') H → va_S A s.heap H locs → W p l e room_1 s m args below meth c H locs 600000 7302250 Q (F0 m 1009 ls [])) : W p l e room_1 s m args below meth c H locs 600000 7302250 Q (F0 m 384 ls []) := by
  obtain ⟨hx, hb, hml, hown, hts, hX, hbl, hbA, hK, hJ, hAA⟩ := C
  have h1 : vp_in (nI (4 * N) + 1) L := by rw [show nI (4 * N) + (1 : Int32) = nI (4 * N + 1) from nI_add (4 * N) 1]; exact vp_in_nI (by omega) (by omega)
  obtain ⟨r, σ1, σ2, e1, e2, hR2⟩ := eq_pass hR hN (xs (nI (4 * N) + 1).toNatClampNeg)
  refine lv_aload_n hx hb dL_law_384 rfl (lv_at hl 2 rfl) ?_
  refine lv_aload_n hx hb dL_law_385 rfl (lv_at hl 1 rfl) ?_
  refine lv_iload_n hx hb dL_law_386 rfl (lv_at hl 0 rfl) ?_
  refine lv_iconst (v := (1 : Int32)) hx hb dL_law_387 (by decide) ?_
  refine lv_iadd hx hb dL_law_388 ?_
  refine va_sld hx hb hX hbl hbA hS h1 dL_law_389 ?_
  refine qa_cVi (w := w) (i := 0) (As := [.int (xs (nI (4 * N) + 1).toNatClampNeg)]) (rest := []) hx hb hts hml hown hK hP hS hAA (c_X6_pass l D w σ (xs (nI (4 * N) + 1).toNatClampNeg) r σ1 hJ e1) hwl_X6_pass hdl_X6_pass ⟨rfl, rfl, rfl⟩ (by decide) (ce6 kd0) rfl ⟨Nat.le_of_ble_eq_true rfl, Nat.le_of_ble_eq_true rfl⟩ ⟨Nat.le_refl _, Nat.le_refl _⟩ hl.1 rfl (Nat.le_of_ble_eq_true rfl) dL_law_390 (fun H locs hP hS => ?_)
  refine lv_aload_n hx hb dL_law_393 rfl (lv_at hl 3 rfl) ?_
  refine lv_aload_n hx hb dL_law_394 rfl (lv_at hl 1 rfl) ?_
  refine lv_iload_n hx hb dL_law_395 rfl (lv_at hl 0 rfl) ?_
  refine lv_iconst (v := (1 : Int32)) hx hb dL_law_396 (by decide) ?_
  refine lv_iadd hx hb dL_law_397 ?_
  refine va_sld hx hb hX hbl hbA hS h1 dL_law_398 ?_
  refine qa_cVi (w := w) (i := 184) (As := [.int (xs (nI (4 * N) + 1).toNatClampNeg)]) (rest := [.int r]) hx hb hts hml hown hK hP hS hAA (c_X7_pass l D w σ1 (xs (nI (4 * N) + 1).toNatClampNeg) r σ2 hJ e2) hwl_X7_pass hdl_X7_pass ⟨rfl, rfl, rfl⟩ (by decide) (ce7 kd184) rfl ⟨Nat.le_of_ble_eq_true rfl, Nat.le_of_ble_eq_true rfl⟩ ⟨Nat.le_refl _, Nat.le_refl _⟩ hl.1 rfl (Nat.le_of_ble_eq_true rfl) dL_law_399 (fun H locs hP hS => ?_)
  exact lv_icmp_eq (tgt := 1009) hx hb dL_law_402 (by decide) (fun _ => kk σ2 H locs hR2 hP hS) (fun hc => absurd rfl hc)
theorem law_9 (C : LC p s m args c b L xs D w A) (hR : Rel N σ) (hN : N < 512) (hi : 4 * N + 4 ≤ L) (hL : L ≤ 2048) (hP : va_P D vwCl (WL w σ) H) (hS : va_S A s.heap H locs) (hl : lv_has ls 4 [(3, .int (nI (4 * N))), (0, .ref b), (1, .ref (w.1 0)), (2, .ref (w.1 184))])
    (kk : ∀ (σ' : Sg) (H : Heap) (locs : List Loc), Rel (N + 1) σ' → va_P D vwCl (WL w σ') H → va_S A s.heap H locs → W p l e room_1 s m args below meth c H locs 600000 7302250 Q (F0 m 1009 ls [])) : W p l e room_1 s m args below meth c H locs 600000 7302250 Q (F0 m 407 ls []) := by
  obtain ⟨hx, hb, hml, hown, hts, hX, hbl, hbA, hK, hJ, hAA⟩ := C
  obtain ⟨r, σ1, σ2, e1, e2, hR2⟩ := eq_year hR hN
  refine lv_aload_n hx hb dL_law_407 rfl (lv_at hl 2 rfl) ?_
  refine qa_cVi (w := w) (i := 0) (As := []) (rest := []) hx hb hts hml hown hK hP hS hAA (c_X6_year l D w σ r σ1 hJ e1) hwl_X6_year hdl_X6_year ⟨rfl, rfl, rfl⟩ (by decide) (ce6 kd0) rfl ⟨Nat.le_of_ble_eq_true rfl, Nat.le_of_ble_eq_true rfl⟩ ⟨Nat.le_refl _, Nat.le_refl _⟩ hl.1 rfl (Nat.le_of_ble_eq_true rfl) dL_law_408 (fun H locs hP hS => ?_)
  refine lv_aload_n hx hb dL_law_411 rfl (lv_at hl 3 rfl) ?_
  refine qa_cVi (w := w) (i := 184) (As := []) (rest := [.int r]) hx hb hts hml hown hK hP hS hAA (c_X7_year l D w σ1 r σ2 hJ e2) hwl_X7_year hdl_X7_year ⟨rfl, rfl, rfl⟩ (by decide) (ce7 kd184) rfl ⟨Nat.le_of_ble_eq_true rfl, Nat.le_of_ble_eq_true rfl⟩ ⟨Nat.le_refl _, Nat.le_refl _⟩ hl.1 rfl (Nat.le_of_ble_eq_true rfl) dL_law_412 (fun H locs hP hS => ?_)
  exact lv_icmp_eq (tgt := 1009) hx hb dL_law_415 (by decide) (fun _ => kk σ2 H locs hR2 hP hS) (fun hc => absurd rfl hc)
theorem law_10 (C : LC p s m args c b L xs D w A) (hR : Rel N σ) (hN : N < 512) (hi : 4 * N + 4 ≤ L) (hL : L ≤ 2048) (hP : va_P D vwCl (WL w σ) H) (hS : va_S A s.heap H locs) (hl : lv_has ls 4 [(3, .int (nI (4 * N))), (0, .ref b), (1, .ref (w.1 0)), (2, .ref (w.1 184))])
    (kk : ∀ (σ' : Sg) (H : Heap) (locs : List Loc), Rel (N + 1) σ' → va_P D vwCl (WL w σ') H → va_S A s.heap H locs → W p l e room_1 s m args below meth c H locs 600000 7302250 Q (F0 m 1009 ls [])) : W p l e room_1 s m args below meth c H locs 600000 7302250 Q (F0 m 420 ls []) := by
  obtain ⟨hx, hb, hml, hown, hts, hX, hbl, hbA, hK, hJ, hAA⟩ := C
  have h1 : vp_in (nI (4 * N) + 1) L := by rw [show nI (4 * N) + (1 : Int32) = nI (4 * N + 1) from nI_add (4 * N) 1]; exact vp_in_nI (by omega) (by omega)
  have h2 : vp_in (nI (4 * N) + 2) L := by rw [show nI (4 * N) + (2 : Int32) = nI (4 * N + 2) from nI_add (4 * N) 2]; exact vp_in_nI (by omega) (by omega)
  have h3 : vp_in (nI (4 * N) + 3) L := by rw [show nI (4 * N) + (3 : Int32) = nI (4 * N + 3) from nI_add (4 * N) 3]; exact vp_in_nI (by omega) (by omega)
  obtain ⟨r, σ1, σ2, e1, e2, hR2⟩ := eq_lays hR hN (xs (nI (4 * N) + 1).toNatClampNeg) (xs (nI (4 * N) + 2).toNatClampNeg) (xs (nI (4 * N) + 3).toNatClampNeg)
  refine lv_aload_n hx hb dL_law_420 rfl (lv_at hl 2 rfl) ?_
  refine lv_aload_n hx hb dL_law_421 rfl (lv_at hl 1 rfl) ?_
  refine lv_iload_n hx hb dL_law_422 rfl (lv_at hl 0 rfl) ?_
  refine lv_iconst (v := (1 : Int32)) hx hb dL_law_423 (by decide) ?_
  refine lv_iadd hx hb dL_law_424 ?_
  refine va_sld hx hb hX hbl hbA hS h1 dL_law_425 ?_
  refine lv_aload_n hx hb dL_law_426 rfl (lv_at hl 1 rfl) ?_
  refine lv_iload_n hx hb dL_law_427 rfl (lv_at hl 0 rfl) ?_
  refine lv_iconst (v := (2 : Int32)) hx hb dL_law_428 (by decide) ?_
  refine lv_iadd hx hb dL_law_429 ?_
  refine va_sld hx hb hX hbl hbA hS h2 dL_law_430 ?_
  refine lv_aload_n hx hb dL_law_431 rfl (lv_at hl 1 rfl) ?_
  refine lv_iload_n hx hb dL_law_432 rfl (lv_at hl 0 rfl) ?_
  refine lv_iconst (v := (3 : Int32)) hx hb dL_law_433 (by decide) ?_
  refine lv_iadd hx hb dL_law_434 ?_
  refine va_sld hx hb hX hbl hbA hS h3 dL_law_435 ?_
  refine qa_cVi (w := w) (i := 0) (As := [.int (xs (nI (4 * N) + 1).toNatClampNeg), .int (xs (nI (4 * N) + 2).toNatClampNeg), .int (xs (nI (4 * N) + 3).toNatClampNeg)]) (rest := []) hx hb hts hml hown hK hP hS hAA (c_X6_lays l D w σ (xs (nI (4 * N) + 1).toNatClampNeg) (xs (nI (4 * N) + 2).toNatClampNeg) (xs (nI (4 * N) + 3).toNatClampNeg) r σ1 hJ e1) hwl_X6_lays hdl_X6_lays ⟨rfl, rfl, rfl⟩ (by decide) (ce6 kd0) rfl ⟨Nat.le_of_ble_eq_true rfl, Nat.le_of_ble_eq_true rfl⟩ ⟨Nat.le_refl _, Nat.le_refl _⟩ hl.1 rfl (Nat.le_of_ble_eq_true rfl) dL_law_436 (fun H locs hP hS => ?_)
  refine lv_aload_n hx hb dL_law_439 rfl (lv_at hl 3 rfl) ?_
  refine lv_aload_n hx hb dL_law_440 rfl (lv_at hl 1 rfl) ?_
  refine lv_iload_n hx hb dL_law_441 rfl (lv_at hl 0 rfl) ?_
  refine lv_iconst (v := (1 : Int32)) hx hb dL_law_442 (by decide) ?_
  refine lv_iadd hx hb dL_law_443 ?_
  refine va_sld hx hb hX hbl hbA hS h1 dL_law_444 ?_
  refine lv_aload_n hx hb dL_law_445 rfl (lv_at hl 1 rfl) ?_
  refine lv_iload_n hx hb dL_law_446 rfl (lv_at hl 0 rfl) ?_
  refine lv_iconst (v := (2 : Int32)) hx hb dL_law_447 (by decide) ?_
  refine lv_iadd hx hb dL_law_448 ?_
  refine va_sld hx hb hX hbl hbA hS h2 dL_law_449 ?_
  refine lv_aload_n hx hb dL_law_450 rfl (lv_at hl 1 rfl) ?_
  refine lv_iload_n hx hb dL_law_451 rfl (lv_at hl 0 rfl) ?_
  refine lv_iconst (v := (3 : Int32)) hx hb dL_law_452 (by decide) ?_
  refine lv_iadd hx hb dL_law_453 ?_
  refine va_sld hx hb hX hbl hbA hS h3 dL_law_454 ?_
  refine qa_cVi (w := w) (i := 184) (As := [.int (xs (nI (4 * N) + 1).toNatClampNeg), .int (xs (nI (4 * N) + 2).toNatClampNeg), .int (xs (nI (4 * N) + 3).toNatClampNeg)]) (rest := [.int r]) hx hb hts hml hown hK hP hS hAA (c_X7_lays l D w σ1 (xs (nI (4 * N) + 1).toNatClampNeg) (xs (nI (4 * N) + 2).toNatClampNeg) (xs (nI (4 * N) + 3).toNatClampNeg) r σ2 hJ e2) hwl_X7_lays hdl_X7_lays ⟨rfl, rfl, rfl⟩ (by decide) (ce7 kd184) rfl ⟨Nat.le_of_ble_eq_true rfl, Nat.le_of_ble_eq_true rfl⟩ ⟨Nat.le_refl _, Nat.le_refl _⟩ hl.1 rfl (Nat.le_of_ble_eq_true rfl) dL_law_455 (fun H locs hP hS => ?_)
  exact lv_icmp_eq (tgt := 1009) hx hb dL_law_458 (by decide) (fun _ => kk σ2 H locs hR2 hP hS) (fun hc => absurd rfl hc)
theorem law_11 (C : LC p s m args c b L xs D w A) (hR : Rel N σ) (hN : N < 512) (hi : 4 * N + 4 ≤ L) (hL : L ≤ 2048) (hP : va_P D vwCl (WL w σ) H) (hS : va_S A s.heap H locs) (hl : lv_has ls 4 [(3, .int (nI (4 * N))), (0, .ref b), (1, .ref (w.1 0)), (2, .ref (w.1 184))])
    (kk : ∀ (σ' : Sg) (H : Heap) (locs : List Loc), Rel (N + 1) σ' → va_P D vwCl (WL w σ') H → va_S A s.heap H locs → W p l e room_1 s m args below meth c H locs 600000 7302250 Q (F0 m 1009 ls [])) : W p l e room_1 s m args below meth c H locs 600000 7302250 Q (F0 m 463 ls []) := by
  obtain ⟨hx, hb, hml, hown, hts, hX, hbl, hbA, hK, hJ, hAA⟩ := C
  have h1 : vp_in (nI (4 * N) + 1) L := by rw [show nI (4 * N) + (1 : Int32) = nI (4 * N + 1) from nI_add (4 * N) 1]; exact vp_in_nI (by omega) (by omega)
  obtain ⟨r, σ1, σ2, e1, e2, hR2⟩ := eq_paint hR hN (xs (nI (4 * N) + 1).toNatClampNeg)
  refine lv_aload_n hx hb dL_law_463 rfl (lv_at hl 2 rfl) ?_
  refine lv_aload_n hx hb dL_law_464 rfl (lv_at hl 1 rfl) ?_
  refine lv_iload_n hx hb dL_law_465 rfl (lv_at hl 0 rfl) ?_
  refine lv_iconst (v := (1 : Int32)) hx hb dL_law_466 (by decide) ?_
  refine lv_iadd hx hb dL_law_467 ?_
  refine va_sld hx hb hX hbl hbA hS h1 dL_law_468 ?_
  refine qa_cVi (w := w) (i := 0) (As := [.int (xs (nI (4 * N) + 1).toNatClampNeg)]) (rest := []) hx hb hts hml hown hK hP hS hAA (c_X6_paint l D w σ (xs (nI (4 * N) + 1).toNatClampNeg) r σ1 hJ e1) hwl_X6_paint hdl_X6_paint ⟨rfl, rfl, rfl⟩ (by decide) (ce6 kd0) rfl ⟨Nat.le_of_ble_eq_true rfl, Nat.le_of_ble_eq_true rfl⟩ ⟨Nat.le_refl _, Nat.le_refl _⟩ hl.1 rfl (Nat.le_of_ble_eq_true rfl) dL_law_469 (fun H locs hP hS => ?_)
  refine lv_aload_n hx hb dL_law_472 rfl (lv_at hl 3 rfl) ?_
  refine lv_aload_n hx hb dL_law_473 rfl (lv_at hl 1 rfl) ?_
  refine lv_iload_n hx hb dL_law_474 rfl (lv_at hl 0 rfl) ?_
  refine lv_iconst (v := (1 : Int32)) hx hb dL_law_475 (by decide) ?_
  refine lv_iadd hx hb dL_law_476 ?_
  refine va_sld hx hb hX hbl hbA hS h1 dL_law_477 ?_
  refine qa_cVi (w := w) (i := 184) (As := [.int (xs (nI (4 * N) + 1).toNatClampNeg)]) (rest := [.int r]) hx hb hts hml hown hK hP hS hAA (c_X7_paint l D w σ1 (xs (nI (4 * N) + 1).toNatClampNeg) r σ2 hJ e2) hwl_X7_paint hdl_X7_paint ⟨rfl, rfl, rfl⟩ (by decide) (ce7 kd184) rfl ⟨Nat.le_of_ble_eq_true rfl, Nat.le_of_ble_eq_true rfl⟩ ⟨Nat.le_refl _, Nat.le_refl _⟩ hl.1 rfl (Nat.le_of_ble_eq_true rfl) dL_law_478 (fun H locs hP hS => ?_)
  exact lv_icmp_eq (tgt := 1009) hx hb dL_law_481 (by decide) (fun _ => kk σ2 H locs hR2 hP hS) (fun hc => absurd rfl hc)
theorem law_12 (C : LC p s m args c b L xs D w A) (hR : Rel N σ) (hN : N < 512) (hi : 4 * N + 4 ≤ L) (hL : L ≤ 2048) (hP : va_P D vwCl (WL w σ) H) (hS : va_S A s.heap H locs) (hl : lv_has ls 4 [(3, .int (nI (4 * N))), (0, .ref b), (1, .ref (w.1 0)), (2, .ref (w.1 184))])
    (kk : ∀ (σ' : Sg) (H : Heap) (locs : List Loc), Rel (N + 1) σ' → va_P D vwCl (WL w σ') H → va_S A s.heap H locs → W p l e room_1 s m args below meth c H locs 600000 7302250 Q (F0 m 1009 ls [])) : W p l e room_1 s m args below meth c H locs 600000 7302250 Q (F0 m 486 ls []) := by
  obtain ⟨hx, hb, hml, hown, hts, hX, hbl, hbA, hK, hJ, hAA⟩ := C
  have h1 : vp_in (nI (4 * N) + 1) L := by rw [show nI (4 * N) + (1 : Int32) = nI (4 * N + 1) from nI_add (4 * N) 1]; exact vp_in_nI (by omega) (by omega)
  have h2 : vp_in (nI (4 * N) + 2) L := by rw [show nI (4 * N) + (2 : Int32) = nI (4 * N + 2) from nI_add (4 * N) 2]; exact vp_in_nI (by omega) (by omega)
  obtain ⟨r, σ1, σ2, e1, e2, hR2⟩ := eq_move hR hN (xs (nI (4 * N) + 1).toNatClampNeg) (xs (nI (4 * N) + 2).toNatClampNeg)
  refine lv_aload_n hx hb dL_law_486 rfl (lv_at hl 2 rfl) ?_
  refine lv_aload_n hx hb dL_law_487 rfl (lv_at hl 1 rfl) ?_
  refine lv_iload_n hx hb dL_law_488 rfl (lv_at hl 0 rfl) ?_
  refine lv_iconst (v := (1 : Int32)) hx hb dL_law_489 (by decide) ?_
  refine lv_iadd hx hb dL_law_490 ?_
  refine va_sld hx hb hX hbl hbA hS h1 dL_law_491 ?_
  refine lv_aload_n hx hb dL_law_492 rfl (lv_at hl 1 rfl) ?_
  refine lv_iload_n hx hb dL_law_493 rfl (lv_at hl 0 rfl) ?_
  refine lv_iconst (v := (2 : Int32)) hx hb dL_law_494 (by decide) ?_
  refine lv_iadd hx hb dL_law_495 ?_
  refine va_sld hx hb hX hbl hbA hS h2 dL_law_496 ?_
  refine qa_cVi (w := w) (i := 0) (As := [.int (xs (nI (4 * N) + 1).toNatClampNeg), .int (xs (nI (4 * N) + 2).toNatClampNeg)]) (rest := []) hx hb hts hml hown hK hP hS hAA (c_X6_move l D w σ (xs (nI (4 * N) + 1).toNatClampNeg) (xs (nI (4 * N) + 2).toNatClampNeg) r σ1 hJ e1) hwl_X6_move hdl_X6_move ⟨rfl, rfl, rfl⟩ (by decide) (ce6 kd0) rfl ⟨Nat.le_of_ble_eq_true rfl, Nat.le_of_ble_eq_true rfl⟩ ⟨Nat.le_refl _, Nat.le_refl _⟩ hl.1 rfl (Nat.le_of_ble_eq_true rfl) dL_law_497 (fun H locs hP hS => ?_)
  refine lv_aload_n hx hb dL_law_500 rfl (lv_at hl 3 rfl) ?_
  refine lv_aload_n hx hb dL_law_501 rfl (lv_at hl 1 rfl) ?_
  refine lv_iload_n hx hb dL_law_502 rfl (lv_at hl 0 rfl) ?_
  refine lv_iconst (v := (1 : Int32)) hx hb dL_law_503 (by decide) ?_
  refine lv_iadd hx hb dL_law_504 ?_
  refine va_sld hx hb hX hbl hbA hS h1 dL_law_505 ?_
  refine lv_aload_n hx hb dL_law_506 rfl (lv_at hl 1 rfl) ?_
  refine lv_iload_n hx hb dL_law_507 rfl (lv_at hl 0 rfl) ?_
  refine lv_iconst (v := (2 : Int32)) hx hb dL_law_508 (by decide) ?_
  refine lv_iadd hx hb dL_law_509 ?_
  refine va_sld hx hb hX hbl hbA hS h2 dL_law_510 ?_
  refine qa_cVi (w := w) (i := 184) (As := [.int (xs (nI (4 * N) + 1).toNatClampNeg), .int (xs (nI (4 * N) + 2).toNatClampNeg)]) (rest := [.int r]) hx hb hts hml hown hK hP hS hAA (c_X7_move l D w σ1 (xs (nI (4 * N) + 1).toNatClampNeg) (xs (nI (4 * N) + 2).toNatClampNeg) r σ2 hJ e2) hwl_X7_move hdl_X7_move ⟨rfl, rfl, rfl⟩ (by decide) (ce7 kd184) rfl ⟨Nat.le_of_ble_eq_true rfl, Nat.le_of_ble_eq_true rfl⟩ ⟨Nat.le_refl _, Nat.le_refl _⟩ hl.1 rfl (Nat.le_of_ble_eq_true rfl) dL_law_511 (fun H locs hP hS => ?_)
  exact lv_icmp_eq (tgt := 1009) hx hb dL_law_514 (by decide) (fun _ => kk σ2 H locs hR2 hP hS) (fun hc => absurd rfl hc)
theorem law_13 (C : LC p s m args c b L xs D w A) (hR : Rel N σ) (hN : N < 512) (hi : 4 * N + 4 ≤ L) (hL : L ≤ 2048) (hP : va_P D vwCl (WL w σ) H) (hS : va_S A s.heap H locs) (hl : lv_has ls 4 [(3, .int (nI (4 * N))), (0, .ref b), (1, .ref (w.1 0)), (2, .ref (w.1 184))])
    (kk : ∀ (σ' : Sg) (H : Heap) (locs : List Loc), Rel (N + 1) σ' → va_P D vwCl (WL w σ') H → va_S A s.heap H locs → W p l e room_1 s m args below meth c H locs 600000 7302250 Q (F0 m 1009 ls [])) : W p l e room_1 s m args below meth c H locs 600000 7302250 Q (F0 m 519 ls []) := by
  obtain ⟨hx, hb, hml, hown, hts, hX, hbl, hbA, hK, hJ, hAA⟩ := C
  have h1 : vp_in (nI (4 * N) + 1) L := by rw [show nI (4 * N) + (1 : Int32) = nI (4 * N + 1) from nI_add (4 * N) 1]; exact vp_in_nI (by omega) (by omega)
  obtain ⟨r, σ1, σ2, e1, e2, hR2⟩ := eq_retire hR hN (xs (nI (4 * N) + 1).toNatClampNeg)
  refine lv_aload_n hx hb dL_law_519 rfl (lv_at hl 2 rfl) ?_
  refine lv_aload_n hx hb dL_law_520 rfl (lv_at hl 1 rfl) ?_
  refine lv_iload_n hx hb dL_law_521 rfl (lv_at hl 0 rfl) ?_
  refine lv_iconst (v := (1 : Int32)) hx hb dL_law_522 (by decide) ?_
  refine lv_iadd hx hb dL_law_523 ?_
  refine va_sld hx hb hX hbl hbA hS h1 dL_law_524 ?_
  refine qa_cVi (w := w) (i := 0) (As := [.int (xs (nI (4 * N) + 1).toNatClampNeg)]) (rest := []) hx hb hts hml hown hK hP hS hAA (c_X6_retire l D w σ (xs (nI (4 * N) + 1).toNatClampNeg) r σ1 hJ e1) hwl_X6_retire hdl_X6_retire ⟨rfl, rfl, rfl⟩ (by decide) (ce6 kd0) rfl ⟨Nat.le_of_ble_eq_true rfl, Nat.le_of_ble_eq_true rfl⟩ ⟨Nat.le_refl _, Nat.le_refl _⟩ hl.1 rfl (Nat.le_of_ble_eq_true rfl) dL_law_525 (fun H locs hP hS => ?_)
  refine lv_aload_n hx hb dL_law_528 rfl (lv_at hl 3 rfl) ?_
  refine lv_aload_n hx hb dL_law_529 rfl (lv_at hl 1 rfl) ?_
  refine lv_iload_n hx hb dL_law_530 rfl (lv_at hl 0 rfl) ?_
  refine lv_iconst (v := (1 : Int32)) hx hb dL_law_531 (by decide) ?_
  refine lv_iadd hx hb dL_law_532 ?_
  refine va_sld hx hb hX hbl hbA hS h1 dL_law_533 ?_
  refine qa_cVi (w := w) (i := 184) (As := [.int (xs (nI (4 * N) + 1).toNatClampNeg)]) (rest := [.int r]) hx hb hts hml hown hK hP hS hAA (c_X7_retire l D w σ1 (xs (nI (4 * N) + 1).toNatClampNeg) r σ2 hJ e2) hwl_X7_retire hdl_X7_retire ⟨rfl, rfl, rfl⟩ (by decide) (ce7 kd184) rfl ⟨Nat.le_of_ble_eq_true rfl, Nat.le_of_ble_eq_true rfl⟩ ⟨Nat.le_refl _, Nat.le_refl _⟩ hl.1 rfl (Nat.le_of_ble_eq_true rfl) dL_law_534 (fun H locs hP hS => ?_)
  exact lv_icmp_eq (tgt := 1009) hx hb dL_law_537 (by decide) (fun _ => kk σ2 H locs hR2 hP hS) (fun hc => absurd rfl hc)
theorem law_14 (C : LC p s m args c b L xs D w A) (hR : Rel N σ) (hN : N < 512) (hi : 4 * N + 4 ≤ L) (hL : L ≤ 2048) (hP : va_P D vwCl (WL w σ) H) (hS : va_S A s.heap H locs) (hl : lv_has ls 4 [(3, .int (nI (4 * N))), (0, .ref b), (1, .ref (w.1 0)), (2, .ref (w.1 184))])
    (kk : ∀ (σ' : Sg) (H : Heap) (locs : List Loc), Rel (N + 1) σ' → va_P D vwCl (WL w σ') H → va_S A s.heap H locs → W p l e room_1 s m args below meth c H locs 600000 7302250 Q (F0 m 1009 ls [])) : W p l e room_1 s m args below meth c H locs 600000 7302250 Q (F0 m 542 ls []) := by
  obtain ⟨hx, hb, hml, hown, hts, hX, hbl, hbA, hK, hJ, hAA⟩ := C
  obtain ⟨r, σ1, σ2, e1, e2, hR2⟩ := eq_undo hR hN
  refine lv_aload_n hx hb dL_law_542 rfl (lv_at hl 2 rfl) ?_
  refine qa_cVi (w := w) (i := 0) (As := []) (rest := []) hx hb hts hml hown hK hP hS hAA (c_X6_undo l D w σ r σ1 hJ e1) hwl_X6_undo hdl_X6_undo ⟨rfl, rfl, rfl⟩ (by decide) (ce6 kd0) rfl ⟨Nat.le_of_ble_eq_true rfl, Nat.le_of_ble_eq_true rfl⟩ ⟨Nat.le_refl _, Nat.le_refl _⟩ hl.1 rfl (Nat.le_of_ble_eq_true rfl) dL_law_543 (fun H locs hP hS => ?_)
  refine lv_aload_n hx hb dL_law_546 rfl (lv_at hl 3 rfl) ?_
  refine qa_cVi (w := w) (i := 184) (As := []) (rest := [.int r]) hx hb hts hml hown hK hP hS hAA (c_X7_undo l D w σ1 r σ2 hJ e2) hwl_X7_undo hdl_X7_undo ⟨rfl, rfl, rfl⟩ (by decide) (ce7 kd184) rfl ⟨Nat.le_of_ble_eq_true rfl, Nat.le_of_ble_eq_true rfl⟩ ⟨Nat.le_refl _, Nat.le_refl _⟩ hl.1 rfl (Nat.le_of_ble_eq_true rfl) dL_law_547 (fun H locs hP hS => ?_)
  exact lv_icmp_eq (tgt := 1009) hx hb dL_law_550 (by decide) (fun _ => kk σ2 H locs hR2 hP hS) (fun hc => absurd rfl hc)
theorem law_15 (C : LC p s m args c b L xs D w A) (hR : Rel N σ) (hN : N < 512) (hi : 4 * N + 4 ≤ L) (hL : L ≤ 2048) (hP : va_P D vwCl (WL w σ) H) (hS : va_S A s.heap H locs) (hl : lv_has ls 4 [(3, .int (nI (4 * N))), (0, .ref b), (1, .ref (w.1 0)), (2, .ref (w.1 184))])
    (kk : ∀ (σ' : Sg) (H : Heap) (locs : List Loc), Rel (N + 1) σ' → va_P D vwCl (WL w σ') H → va_S A s.heap H locs → W p l e room_1 s m args below meth c H locs 600000 7302250 Q (F0 m 1009 ls [])) : W p l e room_1 s m args below meth c H locs 600000 7302250 Q (F0 m 555 ls []) := by
  obtain ⟨hx, hb, hml, hown, hts, hX, hbl, hbA, hK, hJ, hAA⟩ := C
  have h1 : vp_in (nI (4 * N) + 1) L := by rw [show nI (4 * N) + (1 : Int32) = nI (4 * N + 1) from nI_add (4 * N) 1]; exact vp_in_nI (by omega) (by omega)
  obtain ⟨r, σ1, σ2, e1, e2, hR2⟩ := eq_comes hR hN (xs (nI (4 * N) + 1).toNatClampNeg)
  refine lv_aload_n hx hb dL_law_555 rfl (lv_at hl 2 rfl) ?_
  refine lv_aload_n hx hb dL_law_556 rfl (lv_at hl 1 rfl) ?_
  refine lv_iload_n hx hb dL_law_557 rfl (lv_at hl 0 rfl) ?_
  refine lv_iconst (v := (1 : Int32)) hx hb dL_law_558 (by decide) ?_
  refine lv_iadd hx hb dL_law_559 ?_
  refine va_sld hx hb hX hbl hbA hS h1 dL_law_560 ?_
  refine qa_cVi (w := w) (i := 0) (As := [.int (xs (nI (4 * N) + 1).toNatClampNeg)]) (rest := []) hx hb hts hml hown hK hP hS hAA (c_X6_comes l D w σ (xs (nI (4 * N) + 1).toNatClampNeg) r σ1 hJ e1) hwl_X6_comes hdl_X6_comes ⟨rfl, rfl, rfl⟩ (by decide) (ce6 kd0) rfl ⟨Nat.le_of_ble_eq_true rfl, Nat.le_of_ble_eq_true rfl⟩ ⟨Nat.le_refl _, Nat.le_refl _⟩ hl.1 rfl (Nat.le_of_ble_eq_true rfl) dL_law_561 (fun H locs hP hS => ?_)
  refine lv_aload_n hx hb dL_law_564 rfl (lv_at hl 3 rfl) ?_
  refine lv_aload_n hx hb dL_law_565 rfl (lv_at hl 1 rfl) ?_
  refine lv_iload_n hx hb dL_law_566 rfl (lv_at hl 0 rfl) ?_
  refine lv_iconst (v := (1 : Int32)) hx hb dL_law_567 (by decide) ?_
  refine lv_iadd hx hb dL_law_568 ?_
  refine va_sld hx hb hX hbl hbA hS h1 dL_law_569 ?_
  refine qa_cVi (w := w) (i := 184) (As := [.int (xs (nI (4 * N) + 1).toNatClampNeg)]) (rest := [.int r]) hx hb hts hml hown hK hP hS hAA (c_X7_comes l D w σ1 (xs (nI (4 * N) + 1).toNatClampNeg) r σ2 hJ e2) hwl_X7_comes hdl_X7_comes ⟨rfl, rfl, rfl⟩ (by decide) (ce7 kd184) rfl ⟨Nat.le_of_ble_eq_true rfl, Nat.le_of_ble_eq_true rfl⟩ ⟨Nat.le_refl _, Nat.le_refl _⟩ hl.1 rfl (Nat.le_of_ble_eq_true rfl) dL_law_570 (fun H locs hP hS => ?_)
  exact lv_icmp_eq (tgt := 1009) hx hb dL_law_573 (by decide) (fun _ => kk σ2 H locs hR2 hP hS) (fun hc => absurd rfl hc)
theorem law_16 (C : LC p s m args c b L xs D w A) (hR : Rel N σ) (hN : N < 512) (hi : 4 * N + 4 ≤ L) (hL : L ≤ 2048) (hP : va_P D vwCl (WL w σ) H) (hS : va_S A s.heap H locs) (hl : lv_has ls 4 [(3, .int (nI (4 * N))), (0, .ref b), (1, .ref (w.1 0)), (2, .ref (w.1 184))])
    (kk : ∀ (σ' : Sg) (H : Heap) (locs : List Loc), Rel (N + 1) σ' → va_P D vwCl (WL w σ') H → va_S A s.heap H locs → W p l e room_1 s m args below meth c H locs 600000 7302250 Q (F0 m 1009 ls [])) : W p l e room_1 s m args below meth c H locs 600000 7302250 Q (F0 m 578 ls []) := by
  obtain ⟨hx, hb, hml, hown, hts, hX, hbl, hbA, hK, hJ, hAA⟩ := C
  have h1 : vp_in (nI (4 * N) + 1) L := by rw [show nI (4 * N) + (1 : Int32) = nI (4 * N + 1) from nI_add (4 * N) 1]; exact vp_in_nI (by omega) (by omega)
  have h2 : vp_in (nI (4 * N) + 2) L := by rw [show nI (4 * N) + (2 : Int32) = nI (4 * N + 2) from nI_add (4 * N) 2]; exact vp_in_nI (by omega) (by omega)
  obtain ⟨r, σ1, σ2, e1, e2, hR2⟩ := eq_trail hR hN (xs (nI (4 * N) + 1).toNatClampNeg) (xs (nI (4 * N) + 2).toNatClampNeg)
  refine lv_aload_n hx hb dL_law_578 rfl (lv_at hl 2 rfl) ?_
  refine lv_aload_n hx hb dL_law_579 rfl (lv_at hl 1 rfl) ?_
  refine lv_iload_n hx hb dL_law_580 rfl (lv_at hl 0 rfl) ?_
  refine lv_iconst (v := (1 : Int32)) hx hb dL_law_581 (by decide) ?_
  refine lv_iadd hx hb dL_law_582 ?_
  refine va_sld hx hb hX hbl hbA hS h1 dL_law_583 ?_
  refine lv_aload_n hx hb dL_law_584 rfl (lv_at hl 1 rfl) ?_
  refine lv_iload_n hx hb dL_law_585 rfl (lv_at hl 0 rfl) ?_
  refine lv_iconst (v := (2 : Int32)) hx hb dL_law_586 (by decide) ?_
  refine lv_iadd hx hb dL_law_587 ?_
  refine va_sld hx hb hX hbl hbA hS h2 dL_law_588 ?_
  refine qa_cVi (w := w) (i := 0) (As := [.int (xs (nI (4 * N) + 1).toNatClampNeg), .int (xs (nI (4 * N) + 2).toNatClampNeg)]) (rest := []) hx hb hts hml hown hK hP hS hAA (c_X6_trail l D w σ (xs (nI (4 * N) + 1).toNatClampNeg) (xs (nI (4 * N) + 2).toNatClampNeg) r σ1 hJ e1) hwl_X6_trail hdl_X6_trail ⟨rfl, rfl, rfl⟩ (by decide) (ce6 kd0) rfl ⟨Nat.le_of_ble_eq_true rfl, Nat.le_of_ble_eq_true rfl⟩ ⟨Nat.le_refl _, Nat.le_refl _⟩ hl.1 rfl (Nat.le_of_ble_eq_true rfl) dL_law_589 (fun H locs hP hS => ?_)
  refine lv_aload_n hx hb dL_law_592 rfl (lv_at hl 3 rfl) ?_
  refine lv_aload_n hx hb dL_law_593 rfl (lv_at hl 1 rfl) ?_
  refine lv_iload_n hx hb dL_law_594 rfl (lv_at hl 0 rfl) ?_
  refine lv_iconst (v := (1 : Int32)) hx hb dL_law_595 (by decide) ?_
  refine lv_iadd hx hb dL_law_596 ?_
  refine va_sld hx hb hX hbl hbA hS h1 dL_law_597 ?_
  refine lv_aload_n hx hb dL_law_598 rfl (lv_at hl 1 rfl) ?_
  refine lv_iload_n hx hb dL_law_599 rfl (lv_at hl 0 rfl) ?_
  refine lv_iconst (v := (2 : Int32)) hx hb dL_law_600 (by decide) ?_
  refine lv_iadd hx hb dL_law_601 ?_
  refine va_sld hx hb hX hbl hbA hS h2 dL_law_602 ?_
  refine qa_cVi (w := w) (i := 184) (As := [.int (xs (nI (4 * N) + 1).toNatClampNeg), .int (xs (nI (4 * N) + 2).toNatClampNeg)]) (rest := [.int r]) hx hb hts hml hown hK hP hS hAA (c_X7_trail l D w σ1 (xs (nI (4 * N) + 1).toNatClampNeg) (xs (nI (4 * N) + 2).toNatClampNeg) r σ2 hJ e2) hwl_X7_trail hdl_X7_trail ⟨rfl, rfl, rfl⟩ (by decide) (ce7 kd184) rfl ⟨Nat.le_of_ble_eq_true rfl, Nat.le_of_ble_eq_true rfl⟩ ⟨Nat.le_refl _, Nat.le_refl _⟩ hl.1 rfl (Nat.le_of_ble_eq_true rfl) dL_law_603 (fun H locs hP hS => ?_)
  exact lv_icmp_eq (tgt := 1009) hx hb dL_law_606 (by decide) (fun _ => kk σ2 H locs hR2 hP hS) (fun hc => absurd rfl hc)
theorem law_17 (C : LC p s m args c b L xs D w A) (hR : Rel N σ) (hN : N < 512) (hi : 4 * N + 4 ≤ L) (hL : L ≤ 2048) (hP : va_P D vwCl (WL w σ) H) (hS : va_S A s.heap H locs) (hl : lv_has ls 4 [(3, .int (nI (4 * N))), (0, .ref b), (1, .ref (w.1 0)), (2, .ref (w.1 184))])
    (kk : ∀ (σ' : Sg) (H : Heap) (locs : List Loc), Rel (N + 1) σ' → va_P D vwCl (WL w σ') H → va_S A s.heap H locs → W p l e room_1 s m args below meth c H locs 600000 7302250 Q (F0 m 1009 ls [])) : W p l e room_1 s m args below meth c H locs 600000 7302250 Q (F0 m 611 ls []) := by
  obtain ⟨hx, hb, hml, hown, hts, hX, hbl, hbA, hK, hJ, hAA⟩ := C
  obtain ⟨r, σ1, σ2, e1, e2, hR2⟩ := eq_lost hR hN
  refine lv_aload_n hx hb dL_law_611 rfl (lv_at hl 2 rfl) ?_
  refine qa_cVi (w := w) (i := 0) (As := []) (rest := []) hx hb hts hml hown hK hP hS hAA (c_X6_lost l D w σ r σ1 hJ e1) hwl_X6_lost hdl_X6_lost ⟨rfl, rfl, rfl⟩ (by decide) (ce6 kd0) rfl ⟨Nat.le_of_ble_eq_true rfl, Nat.le_of_ble_eq_true rfl⟩ ⟨Nat.le_refl _, Nat.le_refl _⟩ hl.1 rfl (Nat.le_of_ble_eq_true rfl) dL_law_612 (fun H locs hP hS => ?_)
  refine lv_aload_n hx hb dL_law_615 rfl (lv_at hl 3 rfl) ?_
  refine qa_cVi (w := w) (i := 184) (As := []) (rest := [.int r]) hx hb hts hml hown hK hP hS hAA (c_X7_lost l D w σ1 r σ2 hJ e2) hwl_X7_lost hdl_X7_lost ⟨rfl, rfl, rfl⟩ (by decide) (ce7 kd184) rfl ⟨Nat.le_of_ble_eq_true rfl, Nat.le_of_ble_eq_true rfl⟩ ⟨Nat.le_refl _, Nat.le_refl _⟩ hl.1 rfl (Nat.le_of_ble_eq_true rfl) dL_law_616 (fun H locs hP hS => ?_)
  exact lv_icmp_eq (tgt := 1009) hx hb dL_law_619 (by decide) (fun _ => kk σ2 H locs hR2 hP hS) (fun hc => absurd rfl hc)
theorem law_18 (C : LC p s m args c b L xs D w A) (hR : Rel N σ) (hN : N < 512) (hi : 4 * N + 4 ≤ L) (hL : L ≤ 2048) (hP : va_P D vwCl (WL w σ) H) (hS : va_S A s.heap H locs) (hl : lv_has ls 4 [(3, .int (nI (4 * N))), (0, .ref b), (1, .ref (w.1 0)), (2, .ref (w.1 184))])
    (kk : ∀ (σ' : Sg) (H : Heap) (locs : List Loc), Rel (N + 1) σ' → va_P D vwCl (WL w σ') H → va_S A s.heap H locs → W p l e room_1 s m args below meth c H locs 600000 7302250 Q (F0 m 1009 ls [])) : W p l e room_1 s m args below meth c H locs 600000 7302250 Q (F0 m 624 ls []) := by
  obtain ⟨hx, hb, hml, hown, hts, hX, hbl, hbA, hK, hJ, hAA⟩ := C
  have h1 : vp_in (nI (4 * N) + 1) L := by rw [show nI (4 * N) + (1 : Int32) = nI (4 * N + 1) from nI_add (4 * N) 1]; exact vp_in_nI (by omega) (by omega)
  obtain ⟨r, σ1, σ2, e1, e2, hR2⟩ := eq_helps hR hN (xs (nI (4 * N) + 1).toNatClampNeg)
  refine lv_aload_n hx hb dL_law_624 rfl (lv_at hl 2 rfl) ?_
  refine lv_aload_n hx hb dL_law_625 rfl (lv_at hl 1 rfl) ?_
  refine lv_iload_n hx hb dL_law_626 rfl (lv_at hl 0 rfl) ?_
  refine lv_iconst (v := (1 : Int32)) hx hb dL_law_627 (by decide) ?_
  refine lv_iadd hx hb dL_law_628 ?_
  refine va_sld hx hb hX hbl hbA hS h1 dL_law_629 ?_
  refine qa_cVi (w := w) (i := 0) (As := [.int (xs (nI (4 * N) + 1).toNatClampNeg)]) (rest := []) hx hb hts hml hown hK hP hS hAA (c_X6_helps l D w σ (xs (nI (4 * N) + 1).toNatClampNeg) r σ1 hJ e1) hwl_X6_helps hdl_X6_helps ⟨rfl, rfl, rfl⟩ (by decide) (ce6 kd0) rfl ⟨Nat.le_of_ble_eq_true rfl, Nat.le_of_ble_eq_true rfl⟩ ⟨Nat.le_refl _, Nat.le_refl _⟩ hl.1 rfl (Nat.le_of_ble_eq_true rfl) dL_law_630 (fun H locs hP hS => ?_)
  refine lv_aload_n hx hb dL_law_633 rfl (lv_at hl 3 rfl) ?_
  refine lv_aload_n hx hb dL_law_634 rfl (lv_at hl 1 rfl) ?_
  refine lv_iload_n hx hb dL_law_635 rfl (lv_at hl 0 rfl) ?_
  refine lv_iconst (v := (1 : Int32)) hx hb dL_law_636 (by decide) ?_
  refine lv_iadd hx hb dL_law_637 ?_
  refine va_sld hx hb hX hbl hbA hS h1 dL_law_638 ?_
  refine qa_cVi (w := w) (i := 184) (As := [.int (xs (nI (4 * N) + 1).toNatClampNeg)]) (rest := [.int r]) hx hb hts hml hown hK hP hS hAA (c_X7_helps l D w σ1 (xs (nI (4 * N) + 1).toNatClampNeg) r σ2 hJ e2) hwl_X7_helps hdl_X7_helps ⟨rfl, rfl, rfl⟩ (by decide) (ce7 kd184) rfl ⟨Nat.le_of_ble_eq_true rfl, Nat.le_of_ble_eq_true rfl⟩ ⟨Nat.le_refl _, Nat.le_refl _⟩ hl.1 rfl (Nat.le_of_ble_eq_true rfl) dL_law_639 (fun H locs hP hS => ?_)
  exact lv_icmp_eq (tgt := 1009) hx hb dL_law_642 (by decide) (fun _ => kk σ2 H locs hR2 hP hS) (fun hc => absurd rfl hc)
theorem law_19 (C : LC p s m args c b L xs D w A) (hR : Rel N σ) (hN : N < 512) (hi : 4 * N + 4 ≤ L) (hL : L ≤ 2048) (hP : va_P D vwCl (WL w σ) H) (hS : va_S A s.heap H locs) (hl : lv_has ls 4 [(3, .int (nI (4 * N))), (0, .ref b), (1, .ref (w.1 0)), (2, .ref (w.1 184))])
    (kk : ∀ (σ' : Sg) (H : Heap) (locs : List Loc), Rel (N + 1) σ' → va_P D vwCl (WL w σ') H → va_S A s.heap H locs → W p l e room_1 s m args below meth c H locs 600000 7302250 Q (F0 m 1009 ls [])) : W p l e room_1 s m args below meth c H locs 600000 7302250 Q (F0 m 647 ls []) := by
  obtain ⟨hx, hb, hml, hown, hts, hX, hbl, hbA, hK, hJ, hAA⟩ := C
  have h1 : vp_in (nI (4 * N) + 1) L := by rw [show nI (4 * N) + (1 : Int32) = nI (4 * N + 1) from nI_add (4 * N) 1]; exact vp_in_nI (by omega) (by omega)
  obtain ⟨r, σ1, σ2, e1, e2, hR2⟩ := eq_paints hR hN (xs (nI (4 * N) + 1).toNatClampNeg)
  refine lv_aload_n hx hb dL_law_647 rfl (lv_at hl 2 rfl) ?_
  refine lv_aload_n hx hb dL_law_648 rfl (lv_at hl 1 rfl) ?_
  refine lv_iload_n hx hb dL_law_649 rfl (lv_at hl 0 rfl) ?_
  refine lv_iconst (v := (1 : Int32)) hx hb dL_law_650 (by decide) ?_
  refine lv_iadd hx hb dL_law_651 ?_
  refine va_sld hx hb hX hbl hbA hS h1 dL_law_652 ?_
  refine qa_cVi (w := w) (i := 0) (As := [.int (xs (nI (4 * N) + 1).toNatClampNeg)]) (rest := []) hx hb hts hml hown hK hP hS hAA (c_X6_paints l D w σ (xs (nI (4 * N) + 1).toNatClampNeg) r σ1 hJ e1) hwl_X6_paints hdl_X6_paints ⟨rfl, rfl, rfl⟩ (by decide) (ce6 kd0) rfl ⟨Nat.le_of_ble_eq_true rfl, Nat.le_of_ble_eq_true rfl⟩ ⟨Nat.le_refl _, Nat.le_refl _⟩ hl.1 rfl (Nat.le_of_ble_eq_true rfl) dL_law_653 (fun H locs hP hS => ?_)
  refine lv_aload_n hx hb dL_law_656 rfl (lv_at hl 3 rfl) ?_
  refine lv_aload_n hx hb dL_law_657 rfl (lv_at hl 1 rfl) ?_
  refine lv_iload_n hx hb dL_law_658 rfl (lv_at hl 0 rfl) ?_
  refine lv_iconst (v := (1 : Int32)) hx hb dL_law_659 (by decide) ?_
  refine lv_iadd hx hb dL_law_660 ?_
  refine va_sld hx hb hX hbl hbA hS h1 dL_law_661 ?_
  refine qa_cVi (w := w) (i := 184) (As := [.int (xs (nI (4 * N) + 1).toNatClampNeg)]) (rest := [.int r]) hx hb hts hml hown hK hP hS hAA (c_X7_paints l D w σ1 (xs (nI (4 * N) + 1).toNatClampNeg) r σ2 hJ e2) hwl_X7_paints hdl_X7_paints ⟨rfl, rfl, rfl⟩ (by decide) (ce7 kd184) rfl ⟨Nat.le_of_ble_eq_true rfl, Nat.le_of_ble_eq_true rfl⟩ ⟨Nat.le_refl _, Nat.le_refl _⟩ hl.1 rfl (Nat.le_of_ble_eq_true rfl) dL_law_662 (fun H locs hP hS => ?_)
  exact lv_icmp_eq (tgt := 1009) hx hb dL_law_665 (by decide) (fun _ => kk σ2 H locs hR2 hP hS) (fun hc => absurd rfl hc)
theorem law_20 (C : LC p s m args c b L xs D w A) (hR : Rel N σ) (hN : N < 512) (hi : 4 * N + 4 ≤ L) (hL : L ≤ 2048) (hP : va_P D vwCl (WL w σ) H) (hS : va_S A s.heap H locs) (hl : lv_has ls 4 [(3, .int (nI (4 * N))), (0, .ref b), (1, .ref (w.1 0)), (2, .ref (w.1 184))])
    (kk : ∀ (σ' : Sg) (H : Heap) (locs : List Loc), Rel (N + 1) σ' → va_P D vwCl (WL w σ') H → va_S A s.heap H locs → W p l e room_1 s m args below meth c H locs 600000 7302250 Q (F0 m 1009 ls [])) : W p l e room_1 s m args below meth c H locs 600000 7302250 Q (F0 m 670 ls []) := by
  obtain ⟨hx, hb, hml, hown, hts, hX, hbl, hbA, hK, hJ, hAA⟩ := C
  have h1 : vp_in (nI (4 * N) + 1) L := by rw [show nI (4 * N) + (1 : Int32) = nI (4 * N + 1) from nI_add (4 * N) 1]; exact vp_in_nI (by omega) (by omega)
  obtain ⟨r, σ1, σ2, e1, e2, hR2⟩ := eq_cover hR hN (xs (nI (4 * N) + 1).toNatClampNeg)
  refine lv_aload_n hx hb dL_law_670 rfl (lv_at hl 2 rfl) ?_
  refine lv_aload_n hx hb dL_law_671 rfl (lv_at hl 1 rfl) ?_
  refine lv_iload_n hx hb dL_law_672 rfl (lv_at hl 0 rfl) ?_
  refine lv_iconst (v := (1 : Int32)) hx hb dL_law_673 (by decide) ?_
  refine lv_iadd hx hb dL_law_674 ?_
  refine va_sld hx hb hX hbl hbA hS h1 dL_law_675 ?_
  refine qa_cVi (w := w) (i := 0) (As := [.int (xs (nI (4 * N) + 1).toNatClampNeg)]) (rest := []) hx hb hts hml hown hK hP hS hAA (c_X6_cover l D w σ (xs (nI (4 * N) + 1).toNatClampNeg) r σ1 hJ e1) hwl_X6_cover hdl_X6_cover ⟨rfl, rfl, rfl⟩ (by decide) (ce6 kd0) rfl ⟨Nat.le_of_ble_eq_true rfl, Nat.le_of_ble_eq_true rfl⟩ ⟨Nat.le_refl _, Nat.le_refl _⟩ hl.1 rfl (Nat.le_of_ble_eq_true rfl) dL_law_676 (fun H locs hP hS => ?_)
  refine lv_aload_n hx hb dL_law_679 rfl (lv_at hl 3 rfl) ?_
  refine lv_aload_n hx hb dL_law_680 rfl (lv_at hl 1 rfl) ?_
  refine lv_iload_n hx hb dL_law_681 rfl (lv_at hl 0 rfl) ?_
  refine lv_iconst (v := (1 : Int32)) hx hb dL_law_682 (by decide) ?_
  refine lv_iadd hx hb dL_law_683 ?_
  refine va_sld hx hb hX hbl hbA hS h1 dL_law_684 ?_
  refine qa_cVi (w := w) (i := 184) (As := [.int (xs (nI (4 * N) + 1).toNatClampNeg)]) (rest := [.int r]) hx hb hts hml hown hK hP hS hAA (c_X7_cover l D w σ1 (xs (nI (4 * N) + 1).toNatClampNeg) r σ2 hJ e2) hwl_X7_cover hdl_X7_cover ⟨rfl, rfl, rfl⟩ (by decide) (ce7 kd184) rfl ⟨Nat.le_of_ble_eq_true rfl, Nat.le_of_ble_eq_true rfl⟩ ⟨Nat.le_refl _, Nat.le_refl _⟩ hl.1 rfl (Nat.le_of_ble_eq_true rfl) dL_law_685 (fun H locs hP hS => ?_)
  exact lv_icmp_eq (tgt := 1009) hx hb dL_law_688 (by decide) (fun _ => kk σ2 H locs hR2 hP hS) (fun hc => absurd rfl hc)
theorem law_21 (C : LC p s m args c b L xs D w A) (hR : Rel N σ) (hN : N < 512) (hi : 4 * N + 4 ≤ L) (hL : L ≤ 2048) (hP : va_P D vwCl (WL w σ) H) (hS : va_S A s.heap H locs) (hl : lv_has ls 4 [(3, .int (nI (4 * N))), (0, .ref b), (1, .ref (w.1 0)), (2, .ref (w.1 184))])
    (kk : ∀ (σ' : Sg) (H : Heap) (locs : List Loc), Rel (N + 1) σ' → va_P D vwCl (WL w σ') H → va_S A s.heap H locs → W p l e room_1 s m args below meth c H locs 600000 7302250 Q (F0 m 1009 ls [])) : W p l e room_1 s m args below meth c H locs 600000 7302250 Q (F0 m 693 ls []) := by
  obtain ⟨hx, hb, hml, hown, hts, hX, hbl, hbA, hK, hJ, hAA⟩ := C
  have h1 : vp_in (nI (4 * N) + 1) L := by rw [show nI (4 * N) + (1 : Int32) = nI (4 * N + 1) from nI_add (4 * N) 1]; exact vp_in_nI (by omega) (by omega)
  have h2 : vp_in (nI (4 * N) + 2) L := by rw [show nI (4 * N) + (2 : Int32) = nI (4 * N + 2) from nI_add (4 * N) 2]; exact vp_in_nI (by omega) (by omega)
  obtain ⟨r, σ2, e1, e2, hR2⟩ := eq_far hR hN (xs (nI (4 * N) + 1).toNatClampNeg) (xs (nI (4 * N) + 2).toNatClampNeg)
  refine lv_aload_n hx hb dL_law_693 rfl (lv_at hl 2 rfl) ?_
  refine lv_aload_n hx hb dL_law_694 rfl (lv_at hl 1 rfl) ?_
  refine lv_iload_n hx hb dL_law_695 rfl (lv_at hl 0 rfl) ?_
  refine lv_iconst (v := (1 : Int32)) hx hb dL_law_696 (by decide) ?_
  refine lv_iadd hx hb dL_law_697 ?_
  refine va_sld hx hb hX hbl hbA hS h1 dL_law_698 ?_
  refine lv_aload_n hx hb dL_law_699 rfl (lv_at hl 1 rfl) ?_
  refine lv_iload_n hx hb dL_law_700 rfl (lv_at hl 0 rfl) ?_
  refine lv_iconst (v := (2 : Int32)) hx hb dL_law_701 (by decide) ?_
  refine lv_iadd hx hb dL_law_702 ?_
  refine va_sld hx hb hX hbl hbA hS h2 dL_law_703 ?_
  refine qa_cVi (w := w) (i := 0) (As := [.int (xs (nI (4 * N) + 1).toNatClampNeg), .int (xs (nI (4 * N) + 2).toNatClampNeg)]) (rest := []) hx hb hts hml hown hK hP hS hAA (c_X6_far l D w σ (xs (nI (4 * N) + 1).toNatClampNeg) (xs (nI (4 * N) + 2).toNatClampNeg) r e1) hwl_X6_far hdl_X6_far ⟨rfl, rfl, rfl⟩ (by decide) (ce6 kd0) rfl ⟨Nat.le_of_ble_eq_true rfl, Nat.le_of_ble_eq_true rfl⟩ ⟨Nat.le_refl _, Nat.le_refl _⟩ hl.1 rfl (Nat.le_of_ble_eq_true rfl) dL_law_704 (fun H locs hP hS => ?_)
  refine lv_aload_n hx hb dL_law_707 rfl (lv_at hl 3 rfl) ?_
  refine lv_aload_n hx hb dL_law_708 rfl (lv_at hl 1 rfl) ?_
  refine lv_iload_n hx hb dL_law_709 rfl (lv_at hl 0 rfl) ?_
  refine lv_iconst (v := (1 : Int32)) hx hb dL_law_710 (by decide) ?_
  refine lv_iadd hx hb dL_law_711 ?_
  refine va_sld hx hb hX hbl hbA hS h1 dL_law_712 ?_
  refine lv_aload_n hx hb dL_law_713 rfl (lv_at hl 1 rfl) ?_
  refine lv_iload_n hx hb dL_law_714 rfl (lv_at hl 0 rfl) ?_
  refine lv_iconst (v := (2 : Int32)) hx hb dL_law_715 (by decide) ?_
  refine lv_iadd hx hb dL_law_716 ?_
  refine va_sld hx hb hX hbl hbA hS h2 dL_law_717 ?_
  refine qa_cVi (w := w) (i := 184) (As := [.int (xs (nI (4 * N) + 1).toNatClampNeg), .int (xs (nI (4 * N) + 2).toNatClampNeg)]) (rest := [.int r]) hx hb hts hml hown hK hP hS hAA (c_X7_far l D w σ (xs (nI (4 * N) + 1).toNatClampNeg) (xs (nI (4 * N) + 2).toNatClampNeg) r σ2 hJ e2) hwl_X7_far hdl_X7_far ⟨rfl, rfl, rfl⟩ (by decide) (ce7 kd184) rfl ⟨Nat.le_of_ble_eq_true rfl, Nat.le_of_ble_eq_true rfl⟩ ⟨Nat.le_refl _, Nat.le_refl _⟩ hl.1 rfl (Nat.le_of_ble_eq_true rfl) dL_law_718 (fun H locs hP hS => ?_)
  exact lv_icmp_eq (tgt := 1009) hx hb dL_law_721 (by decide) (fun _ => kk σ2 H locs hR2 hP hS) (fun hc => absurd rfl hc)
theorem law_22 (C : LC p s m args c b L xs D w A) (hR : Rel N σ) (hN : N < 512) (hi : 4 * N + 4 ≤ L) (hL : L ≤ 2048) (hP : va_P D vwCl (WL w σ) H) (hS : va_S A s.heap H locs) (hl : lv_has ls 4 [(3, .int (nI (4 * N))), (0, .ref b), (1, .ref (w.1 0)), (2, .ref (w.1 184))])
    (kk : ∀ (σ' : Sg) (H : Heap) (locs : List Loc), Rel (N + 1) σ' → va_P D vwCl (WL w σ') H → va_S A s.heap H locs → W p l e room_1 s m args below meth c H locs 600000 7302250 Q (F0 m 1009 ls [])) : W p l e room_1 s m args below meth c H locs 600000 7302250 Q (F0 m 726 ls []) := by
  obtain ⟨hx, hb, hml, hown, hts, hX, hbl, hbA, hK, hJ, hAA⟩ := C
  have h1 : vp_in (nI (4 * N) + 1) L := by rw [show nI (4 * N) + (1 : Int32) = nI (4 * N + 1) from nI_add (4 * N) 1]; exact vp_in_nI (by omega) (by omega)
  have h2 : vp_in (nI (4 * N) + 2) L := by rw [show nI (4 * N) + (2 : Int32) = nI (4 * N + 2) from nI_add (4 * N) 2]; exact vp_in_nI (by omega) (by omega)
  have h3 : vp_in (nI (4 * N) + 3) L := by rw [show nI (4 * N) + (3 : Int32) = nI (4 * N + 3) from nI_add (4 * N) 3]; exact vp_in_nI (by omega) (by omega)
  obtain ⟨r, σ1, σ2, e1, e2, hR2⟩ := eq_told hR hN (xs (nI (4 * N) + 1).toNatClampNeg) (xs (nI (4 * N) + 2).toNatClampNeg) (xs (nI (4 * N) + 3).toNatClampNeg)
  refine lv_aload_n hx hb dL_law_726 rfl (lv_at hl 2 rfl) ?_
  refine lv_aload_n hx hb dL_law_727 rfl (lv_at hl 1 rfl) ?_
  refine lv_iload_n hx hb dL_law_728 rfl (lv_at hl 0 rfl) ?_
  refine lv_iconst (v := (1 : Int32)) hx hb dL_law_729 (by decide) ?_
  refine lv_iadd hx hb dL_law_730 ?_
  refine va_sld hx hb hX hbl hbA hS h1 dL_law_731 ?_
  refine lv_aload_n hx hb dL_law_732 rfl (lv_at hl 1 rfl) ?_
  refine lv_iload_n hx hb dL_law_733 rfl (lv_at hl 0 rfl) ?_
  refine lv_iconst (v := (2 : Int32)) hx hb dL_law_734 (by decide) ?_
  refine lv_iadd hx hb dL_law_735 ?_
  refine va_sld hx hb hX hbl hbA hS h2 dL_law_736 ?_
  refine lv_aload_n hx hb dL_law_737 rfl (lv_at hl 1 rfl) ?_
  refine lv_iload_n hx hb dL_law_738 rfl (lv_at hl 0 rfl) ?_
  refine lv_iconst (v := (3 : Int32)) hx hb dL_law_739 (by decide) ?_
  refine lv_iadd hx hb dL_law_740 ?_
  refine va_sld hx hb hX hbl hbA hS h3 dL_law_741 ?_
  refine qa_cVi (w := w) (i := 0) (As := [.int (xs (nI (4 * N) + 1).toNatClampNeg), .int (xs (nI (4 * N) + 2).toNatClampNeg), .int (xs (nI (4 * N) + 3).toNatClampNeg)]) (rest := []) hx hb hts hml hown hK hP hS hAA (c_X6_told l D w σ (xs (nI (4 * N) + 1).toNatClampNeg) (xs (nI (4 * N) + 2).toNatClampNeg) (xs (nI (4 * N) + 3).toNatClampNeg) r σ1 hJ e1) hwl_X6_told hdl_X6_told ⟨rfl, rfl, rfl⟩ (by decide) (ce6 kd0) rfl ⟨Nat.le_of_ble_eq_true rfl, Nat.le_of_ble_eq_true rfl⟩ ⟨Nat.le_refl _, Nat.le_refl _⟩ hl.1 rfl (Nat.le_of_ble_eq_true rfl) dL_law_742 (fun H locs hP hS => ?_)
  refine lv_aload_n hx hb dL_law_745 rfl (lv_at hl 3 rfl) ?_
  refine lv_aload_n hx hb dL_law_746 rfl (lv_at hl 1 rfl) ?_
  refine lv_iload_n hx hb dL_law_747 rfl (lv_at hl 0 rfl) ?_
  refine lv_iconst (v := (1 : Int32)) hx hb dL_law_748 (by decide) ?_
  refine lv_iadd hx hb dL_law_749 ?_
  refine va_sld hx hb hX hbl hbA hS h1 dL_law_750 ?_
  refine lv_aload_n hx hb dL_law_751 rfl (lv_at hl 1 rfl) ?_
  refine lv_iload_n hx hb dL_law_752 rfl (lv_at hl 0 rfl) ?_
  refine lv_iconst (v := (2 : Int32)) hx hb dL_law_753 (by decide) ?_
  refine lv_iadd hx hb dL_law_754 ?_
  refine va_sld hx hb hX hbl hbA hS h2 dL_law_755 ?_
  refine lv_aload_n hx hb dL_law_756 rfl (lv_at hl 1 rfl) ?_
  refine lv_iload_n hx hb dL_law_757 rfl (lv_at hl 0 rfl) ?_
  refine lv_iconst (v := (3 : Int32)) hx hb dL_law_758 (by decide) ?_
  refine lv_iadd hx hb dL_law_759 ?_
  refine va_sld hx hb hX hbl hbA hS h3 dL_law_760 ?_
  refine qa_cVi (w := w) (i := 184) (As := [.int (xs (nI (4 * N) + 1).toNatClampNeg), .int (xs (nI (4 * N) + 2).toNatClampNeg), .int (xs (nI (4 * N) + 3).toNatClampNeg)]) (rest := [.int r]) hx hb hts hml hown hK hP hS hAA (c_X7_told l D w σ1 (xs (nI (4 * N) + 1).toNatClampNeg) (xs (nI (4 * N) + 2).toNatClampNeg) (xs (nI (4 * N) + 3).toNatClampNeg) r σ2 hJ e2) hwl_X7_told hdl_X7_told ⟨rfl, rfl, rfl⟩ (by decide) (ce7 kd184) rfl ⟨Nat.le_of_ble_eq_true rfl, Nat.le_of_ble_eq_true rfl⟩ ⟨Nat.le_refl _, Nat.le_refl _⟩ hl.1 rfl (Nat.le_of_ble_eq_true rfl) dL_law_761 (fun H locs hP hS => ?_)
  exact lv_icmp_eq (tgt := 1009) hx hb dL_law_764 (by decide) (fun _ => kk σ2 H locs hR2 hP hS) (fun hc => absurd rfl hc)
theorem law_23 (C : LC p s m args c b L xs D w A) (hR : Rel N σ) (hN : N < 512) (hi : 4 * N + 4 ≤ L) (hL : L ≤ 2048) (hP : va_P D vwCl (WL w σ) H) (hS : va_S A s.heap H locs) (hl : lv_has ls 4 [(3, .int (nI (4 * N))), (0, .ref b), (1, .ref (w.1 0)), (2, .ref (w.1 184))])
    (kk : ∀ (σ' : Sg) (H : Heap) (locs : List Loc), Rel (N + 1) σ' → va_P D vwCl (WL w σ') H → va_S A s.heap H locs → W p l e room_1 s m args below meth c H locs 600000 7302250 Q (F0 m 1009 ls [])) : W p l e room_1 s m args below meth c H locs 600000 7302250 Q (F0 m 769 ls []) := by
  obtain ⟨hx, hb, hml, hown, hts, hX, hbl, hbA, hK, hJ, hAA⟩ := C
  obtain ⟨r, σ2, e1, e2, hR2⟩ := eq_stood hR hN
  refine lv_aload_n hx hb dL_law_769 rfl (lv_at hl 2 rfl) ?_
  refine qa_cVi (w := w) (i := 0) (As := []) (rest := []) hx hb hts hml hown hK hP hS hAA (c_X6_stood l D w σ r e1) hwl_X6_stood hdl_X6_stood ⟨rfl, rfl, rfl⟩ (by decide) (ce6 kd0) rfl ⟨Nat.le_of_ble_eq_true rfl, Nat.le_of_ble_eq_true rfl⟩ ⟨Nat.le_refl _, Nat.le_refl _⟩ hl.1 rfl (Nat.le_of_ble_eq_true rfl) dL_law_770 (fun H locs hP hS => ?_)
  refine lv_aload_n hx hb dL_law_773 rfl (lv_at hl 3 rfl) ?_
  refine qa_cVi (w := w) (i := 184) (As := []) (rest := [.int r]) hx hb hts hml hown hK hP hS hAA (c_X7_stood l D w σ r σ2 hJ e2) hwl_X7_stood hdl_X7_stood ⟨rfl, rfl, rfl⟩ (by decide) (ce7 kd184) rfl ⟨Nat.le_of_ble_eq_true rfl, Nat.le_of_ble_eq_true rfl⟩ ⟨Nat.le_refl _, Nat.le_refl _⟩ hl.1 rfl (Nat.le_of_ble_eq_true rfl) dL_law_774 (fun H locs hP hS => ?_)
  exact lv_icmp_eq (tgt := 1009) hx hb dL_law_777 (by decide) (fun _ => kk σ2 H locs hR2 hP hS) (fun hc => absurd rfl hc)
theorem law_24 (C : LC p s m args c b L xs D w A) (hR : Rel N σ) (hN : N < 512) (hi : 4 * N + 4 ≤ L) (hL : L ≤ 2048) (hP : va_P D vwCl (WL w σ) H) (hS : va_S A s.heap H locs) (hl : lv_has ls 4 [(3, .int (nI (4 * N))), (0, .ref b), (1, .ref (w.1 0)), (2, .ref (w.1 184))])
    (kk : ∀ (σ' : Sg) (H : Heap) (locs : List Loc), Rel (N + 1) σ' → va_P D vwCl (WL w σ') H → va_S A s.heap H locs → W p l e room_1 s m args below meth c H locs 600000 7302250 Q (F0 m 1009 ls [])) : W p l e room_1 s m args below meth c H locs 600000 7302250 Q (F0 m 782 ls []) := by
  obtain ⟨hx, hb, hml, hown, hts, hX, hbl, hbA, hK, hJ, hAA⟩ := C
  obtain ⟨r, σ2, e1, e2, hR2⟩ := eq_next hR hN
  refine lv_aload_n hx hb dL_law_782 rfl (lv_at hl 2 rfl) ?_
  refine qa_cVi (w := w) (i := 0) (As := []) (rest := []) hx hb hts hml hown hK hP hS hAA (c_X6_next l D w σ r e1) hwl_X6_next hdl_X6_next ⟨rfl, rfl, rfl⟩ (by decide) (ce6 kd0) rfl ⟨Nat.le_of_ble_eq_true rfl, Nat.le_of_ble_eq_true rfl⟩ ⟨Nat.le_refl _, Nat.le_refl _⟩ hl.1 rfl (Nat.le_of_ble_eq_true rfl) dL_law_783 (fun H locs hP hS => ?_)
  refine lv_aload_n hx hb dL_law_786 rfl (lv_at hl 3 rfl) ?_
  refine qa_cVi (w := w) (i := 184) (As := []) (rest := [.int r]) hx hb hts hml hown hK hP hS hAA (c_X7_next l D w σ r σ2 hJ e2) hwl_X7_next hdl_X7_next ⟨rfl, rfl, rfl⟩ (by decide) (ce7 kd184) rfl ⟨Nat.le_of_ble_eq_true rfl, Nat.le_of_ble_eq_true rfl⟩ ⟨Nat.le_refl _, Nat.le_refl _⟩ hl.1 rfl (Nat.le_of_ble_eq_true rfl) dL_law_787 (fun H locs hP hS => ?_)
  exact lv_icmp_eq (tgt := 1009) hx hb dL_law_790 (by decide) (fun _ => kk σ2 H locs hR2 hP hS) (fun hc => absurd rfl hc)
theorem law_25 (C : LC p s m args c b L xs D w A) (hR : Rel N σ) (hN : N < 512) (hi : 4 * N + 4 ≤ L) (hL : L ≤ 2048) (hP : va_P D vwCl (WL w σ) H) (hS : va_S A s.heap H locs) (hl : lv_has ls 4 [(3, .int (nI (4 * N))), (0, .ref b), (1, .ref (w.1 0)), (2, .ref (w.1 184))])
    (kk : ∀ (σ' : Sg) (H : Heap) (locs : List Loc), Rel (N + 1) σ' → va_P D vwCl (WL w σ') H → va_S A s.heap H locs → W p l e room_1 s m args below meth c H locs 600000 7302250 Q (F0 m 1009 ls [])) : W p l e room_1 s m args below meth c H locs 600000 7302250 Q (F0 m 795 ls []) := by
  obtain ⟨hx, hb, hml, hown, hts, hX, hbl, hbA, hK, hJ, hAA⟩ := C
  have h1 : vp_in (nI (4 * N) + 1) L := by rw [show nI (4 * N) + (1 : Int32) = nI (4 * N + 1) from nI_add (4 * N) 1]; exact vp_in_nI (by omega) (by omega)
  have h2 : vp_in (nI (4 * N) + 2) L := by rw [show nI (4 * N) + (2 : Int32) = nI (4 * N + 2) from nI_add (4 * N) 2]; exact vp_in_nI (by omega) (by omega)
  have h3 : vp_in (nI (4 * N) + 3) L := by rw [show nI (4 * N) + (3 : Int32) = nI (4 * N + 3) from nI_add (4 * N) 3]; exact vp_in_nI (by omega) (by omega)
  obtain ⟨r, σ1, σ2, e1, e2, hR2⟩ := eq_seen hR hN (xs (nI (4 * N) + 1).toNatClampNeg) (xs (nI (4 * N) + 2).toNatClampNeg) (xs (nI (4 * N) + 3).toNatClampNeg)
  refine lv_aload_n hx hb dL_law_795 rfl (lv_at hl 2 rfl) ?_
  refine lv_aload_n hx hb dL_law_796 rfl (lv_at hl 1 rfl) ?_
  refine lv_iload_n hx hb dL_law_797 rfl (lv_at hl 0 rfl) ?_
  refine lv_iconst (v := (1 : Int32)) hx hb dL_law_798 (by decide) ?_
  refine lv_iadd hx hb dL_law_799 ?_
  refine va_sld hx hb hX hbl hbA hS h1 dL_law_800 ?_
  refine lv_aload_n hx hb dL_law_801 rfl (lv_at hl 1 rfl) ?_
  refine lv_iload_n hx hb dL_law_802 rfl (lv_at hl 0 rfl) ?_
  refine lv_iconst (v := (2 : Int32)) hx hb dL_law_803 (by decide) ?_
  refine lv_iadd hx hb dL_law_804 ?_
  refine va_sld hx hb hX hbl hbA hS h2 dL_law_805 ?_
  refine lv_aload_n hx hb dL_law_806 rfl (lv_at hl 1 rfl) ?_
  refine lv_iload_n hx hb dL_law_807 rfl (lv_at hl 0 rfl) ?_
  refine lv_iconst (v := (3 : Int32)) hx hb dL_law_808 (by decide) ?_
  refine lv_iadd hx hb dL_law_809 ?_
  refine va_sld hx hb hX hbl hbA hS h3 dL_law_810 ?_
  refine qa_cVi (w := w) (i := 0) (As := [.int (xs (nI (4 * N) + 1).toNatClampNeg), .int (xs (nI (4 * N) + 2).toNatClampNeg), .int (xs (nI (4 * N) + 3).toNatClampNeg)]) (rest := []) hx hb hts hml hown hK hP hS hAA (c_X6_seen l D w σ (xs (nI (4 * N) + 1).toNatClampNeg) (xs (nI (4 * N) + 2).toNatClampNeg) (xs (nI (4 * N) + 3).toNatClampNeg) r σ1 hJ e1) hwl_X6_seen hdl_X6_seen ⟨rfl, rfl, rfl⟩ (by decide) (ce6 kd0) rfl ⟨Nat.le_of_ble_eq_true rfl, Nat.le_of_ble_eq_true rfl⟩ ⟨Nat.le_refl _, Nat.le_refl _⟩ hl.1 rfl (Nat.le_of_ble_eq_true rfl) dL_law_811 (fun H locs hP hS => ?_)
  refine lv_aload_n hx hb dL_law_814 rfl (lv_at hl 3 rfl) ?_
  refine lv_aload_n hx hb dL_law_815 rfl (lv_at hl 1 rfl) ?_
  refine lv_iload_n hx hb dL_law_816 rfl (lv_at hl 0 rfl) ?_
  refine lv_iconst (v := (1 : Int32)) hx hb dL_law_817 (by decide) ?_
  refine lv_iadd hx hb dL_law_818 ?_
  refine va_sld hx hb hX hbl hbA hS h1 dL_law_819 ?_
  refine lv_aload_n hx hb dL_law_820 rfl (lv_at hl 1 rfl) ?_
  refine lv_iload_n hx hb dL_law_821 rfl (lv_at hl 0 rfl) ?_
  refine lv_iconst (v := (2 : Int32)) hx hb dL_law_822 (by decide) ?_
  refine lv_iadd hx hb dL_law_823 ?_
  refine va_sld hx hb hX hbl hbA hS h2 dL_law_824 ?_
  refine lv_aload_n hx hb dL_law_825 rfl (lv_at hl 1 rfl) ?_
  refine lv_iload_n hx hb dL_law_826 rfl (lv_at hl 0 rfl) ?_
  refine lv_iconst (v := (3 : Int32)) hx hb dL_law_827 (by decide) ?_
  refine lv_iadd hx hb dL_law_828 ?_
  refine va_sld hx hb hX hbl hbA hS h3 dL_law_829 ?_
  refine qa_cVi (w := w) (i := 184) (As := [.int (xs (nI (4 * N) + 1).toNatClampNeg), .int (xs (nI (4 * N) + 2).toNatClampNeg), .int (xs (nI (4 * N) + 3).toNatClampNeg)]) (rest := [.int r]) hx hb hts hml hown hK hP hS hAA (c_X7_seen l D w σ1 (xs (nI (4 * N) + 1).toNatClampNeg) (xs (nI (4 * N) + 2).toNatClampNeg) (xs (nI (4 * N) + 3).toNatClampNeg) r σ2 hJ e2) hwl_X7_seen hdl_X7_seen ⟨rfl, rfl, rfl⟩ (by decide) (ce7 kd184) rfl ⟨Nat.le_of_ble_eq_true rfl, Nat.le_of_ble_eq_true rfl⟩ ⟨Nat.le_refl _, Nat.le_refl _⟩ hl.1 rfl (Nat.le_of_ble_eq_true rfl) dL_law_830 (fun H locs hP hS => ?_)
  exact lv_icmp_eq (tgt := 1009) hx hb dL_law_833 (by decide) (fun _ => kk σ2 H locs hR2 hP hS) (fun hc => absurd rfl hc)
theorem law_26 (C : LC p s m args c b L xs D w A) (hR : Rel N σ) (hN : N < 512) (hi : 4 * N + 4 ≤ L) (hL : L ≤ 2048) (hP : va_P D vwCl (WL w σ) H) (hS : va_S A s.heap H locs) (hl : lv_has ls 4 [(3, .int (nI (4 * N))), (0, .ref b), (1, .ref (w.1 0)), (2, .ref (w.1 184))])
    (kk : ∀ (σ' : Sg) (H : Heap) (locs : List Loc), Rel (N + 1) σ' → va_P D vwCl (WL w σ') H → va_S A s.heap H locs → W p l e room_1 s m args below meth c H locs 600000 7302250 Q (F0 m 1009 ls [])) : W p l e room_1 s m args below meth c H locs 600000 7302250 Q (F0 m 838 ls []) := by
  obtain ⟨hx, hb, hml, hown, hts, hX, hbl, hbA, hK, hJ, hAA⟩ := C
  have h1 : vp_in (nI (4 * N) + 1) L := by rw [show nI (4 * N) + (1 : Int32) = nI (4 * N + 1) from nI_add (4 * N) 1]; exact vp_in_nI (by omega) (by omega)
  obtain ⟨r, σ1, e1, e2, hR2⟩ := eq_kinds hR hN (xs (nI (4 * N) + 1).toNatClampNeg)
  refine lv_aload_n hx hb dL_law_838 rfl (lv_at hl 2 rfl) ?_
  refine lv_aload_n hx hb dL_law_839 rfl (lv_at hl 1 rfl) ?_
  refine lv_iload_n hx hb dL_law_840 rfl (lv_at hl 0 rfl) ?_
  refine lv_iconst (v := (1 : Int32)) hx hb dL_law_841 (by decide) ?_
  refine lv_iadd hx hb dL_law_842 ?_
  refine va_sld hx hb hX hbl hbA hS h1 dL_law_843 ?_
  refine qa_cVi (w := w) (i := 0) (As := [.int (xs (nI (4 * N) + 1).toNatClampNeg)]) (rest := []) hx hb hts hml hown hK hP hS hAA (c_X6_kinds l D w σ (xs (nI (4 * N) + 1).toNatClampNeg) r σ1 hJ e1) hwl_X6_kinds hdl_X6_kinds ⟨rfl, rfl, rfl⟩ (by decide) (ce6 kd0) rfl ⟨Nat.le_of_ble_eq_true rfl, Nat.le_of_ble_eq_true rfl⟩ ⟨Nat.le_refl _, Nat.le_refl _⟩ hl.1 rfl (Nat.le_of_ble_eq_true rfl) dL_law_844 (fun H locs hP hS => ?_)
  refine lv_aload_n hx hb dL_law_847 rfl (lv_at hl 3 rfl) ?_
  refine lv_aload_n hx hb dL_law_848 rfl (lv_at hl 1 rfl) ?_
  refine lv_iload_n hx hb dL_law_849 rfl (lv_at hl 0 rfl) ?_
  refine lv_iconst (v := (1 : Int32)) hx hb dL_law_850 (by decide) ?_
  refine lv_iadd hx hb dL_law_851 ?_
  refine va_sld hx hb hX hbl hbA hS h1 dL_law_852 ?_
  refine qa_cVi (w := w) (i := 184) (As := [.int (xs (nI (4 * N) + 1).toNatClampNeg)]) (rest := [.int r]) hx hb hts hml hown hK hP hS hAA (c_X7_kinds l D w σ1 (xs (nI (4 * N) + 1).toNatClampNeg) r e2) hwl_X7_kinds hdl_X7_kinds ⟨rfl, rfl, rfl⟩ (by decide) (ce7 kd184) rfl ⟨Nat.le_of_ble_eq_true rfl, Nat.le_of_ble_eq_true rfl⟩ ⟨Nat.le_refl _, Nat.le_refl _⟩ hl.1 rfl (Nat.le_of_ble_eq_true rfl) dL_law_853 (fun H locs hP hS => ?_)
  exact lv_icmp_eq (tgt := 1009) hx hb dL_law_856 (by decide) (fun _ => kk σ1 H locs hR2 hP hS) (fun hc => absurd rfl hc)
theorem law_27 (C : LC p s m args c b L xs D w A) (hR : Rel N σ) (hN : N < 512) (hi : 4 * N + 4 ≤ L) (hL : L ≤ 2048) (hP : va_P D vwCl (WL w σ) H) (hS : va_S A s.heap H locs) (hl : lv_has ls 4 [(3, .int (nI (4 * N))), (0, .ref b), (1, .ref (w.1 0)), (2, .ref (w.1 184))])
    (kk : ∀ (σ' : Sg) (H : Heap) (locs : List Loc), Rel (N + 1) σ' → va_P D vwCl (WL w σ') H → va_S A s.heap H locs → W p l e room_1 s m args below meth c H locs 600000 7302250 Q (F0 m 1009 ls [])) : W p l e room_1 s m args below meth c H locs 600000 7302250 Q (F0 m 861 ls []) := by
  obtain ⟨hx, hb, hml, hown, hts, hX, hbl, hbA, hK, hJ, hAA⟩ := C
  obtain ⟨r, σ1, σ2, e1, e2, hR2⟩ := eq_forget hR hN
  refine lv_aload_n hx hb dL_law_861 rfl (lv_at hl 2 rfl) ?_
  refine qa_cVi (w := w) (i := 0) (As := []) (rest := []) hx hb hts hml hown hK hP hS hAA (c_X6_forget l D w σ r σ1 hJ e1) hwl_X6_forget hdl_X6_forget ⟨rfl, rfl, rfl⟩ (by decide) (ce6 kd0) rfl ⟨Nat.le_of_ble_eq_true rfl, Nat.le_of_ble_eq_true rfl⟩ ⟨Nat.le_refl _, Nat.le_refl _⟩ hl.1 rfl (Nat.le_of_ble_eq_true rfl) dL_law_862 (fun H locs hP hS => ?_)
  refine lv_aload_n hx hb dL_law_865 rfl (lv_at hl 3 rfl) ?_
  refine qa_cVi (w := w) (i := 184) (As := []) (rest := [.int r]) hx hb hts hml hown hK hP hS hAA (c_X7_forget l D w σ1 r σ2 hJ e2) hwl_X7_forget hdl_X7_forget ⟨rfl, rfl, rfl⟩ (by decide) (ce7 kd184) rfl ⟨Nat.le_of_ble_eq_true rfl, Nat.le_of_ble_eq_true rfl⟩ ⟨Nat.le_refl _, Nat.le_refl _⟩ hl.1 rfl (Nat.le_of_ble_eq_true rfl) dL_law_866 (fun H locs hP hS => ?_)
  exact lv_icmp_eq (tgt := 1009) hx hb dL_law_869 (by decide) (fun _ => kk σ2 H locs hR2 hP hS) (fun hc => absurd rfl hc)
theorem law_28 (C : LC p s m args c b L xs D w A) (hR : Rel N σ) (hN : N < 512) (hi : 4 * N + 4 ≤ L) (hL : L ≤ 2048) (hP : va_P D vwCl (WL w σ) H) (hS : va_S A s.heap H locs) (hl : lv_has ls 4 [(3, .int (nI (4 * N))), (0, .ref b), (1, .ref (w.1 0)), (2, .ref (w.1 184))])
    (kk : ∀ (σ' : Sg) (H : Heap) (locs : List Loc), Rel (N + 1) σ' → va_P D vwCl (WL w σ') H → va_S A s.heap H locs → W p l e room_1 s m args below meth c H locs 600000 7302250 Q (F0 m 1009 ls [])) : W p l e room_1 s m args below meth c H locs 600000 7302250 Q (F0 m 874 ls []) := by
  obtain ⟨hx, hb, hml, hown, hts, hX, hbl, hbA, hK, hJ, hAA⟩ := C
  have h1 : vp_in (nI (4 * N) + 1) L := by rw [show nI (4 * N) + (1 : Int32) = nI (4 * N + 1) from nI_add (4 * N) 1]; exact vp_in_nI (by omega) (by omega)
  have h2 : vp_in (nI (4 * N) + 2) L := by rw [show nI (4 * N) + (2 : Int32) = nI (4 * N + 2) from nI_add (4 * N) 2]; exact vp_in_nI (by omega) (by omega)
  have h3 : vp_in (nI (4 * N) + 3) L := by rw [show nI (4 * N) + (3 : Int32) = nI (4 * N + 3) from nI_add (4 * N) 3]; exact vp_in_nI (by omega) (by omega)
  obtain ⟨r, σ1, σ2, e1, e2, hR2⟩ := eq_likely hR hN (xs (nI (4 * N) + 1).toNatClampNeg) (xs (nI (4 * N) + 2).toNatClampNeg) (xs (nI (4 * N) + 3).toNatClampNeg)
  refine lv_aload_n hx hb dL_law_874 rfl (lv_at hl 2 rfl) ?_
  refine lv_aload_n hx hb dL_law_875 rfl (lv_at hl 1 rfl) ?_
  refine lv_iload_n hx hb dL_law_876 rfl (lv_at hl 0 rfl) ?_
  refine lv_iconst (v := (1 : Int32)) hx hb dL_law_877 (by decide) ?_
  refine lv_iadd hx hb dL_law_878 ?_
  refine va_sld hx hb hX hbl hbA hS h1 dL_law_879 ?_
  refine lv_aload_n hx hb dL_law_880 rfl (lv_at hl 1 rfl) ?_
  refine lv_iload_n hx hb dL_law_881 rfl (lv_at hl 0 rfl) ?_
  refine lv_iconst (v := (2 : Int32)) hx hb dL_law_882 (by decide) ?_
  refine lv_iadd hx hb dL_law_883 ?_
  refine va_sld hx hb hX hbl hbA hS h2 dL_law_884 ?_
  refine lv_aload_n hx hb dL_law_885 rfl (lv_at hl 1 rfl) ?_
  refine lv_iload_n hx hb dL_law_886 rfl (lv_at hl 0 rfl) ?_
  refine lv_iconst (v := (3 : Int32)) hx hb dL_law_887 (by decide) ?_
  refine lv_iadd hx hb dL_law_888 ?_
  refine va_sld hx hb hX hbl hbA hS h3 dL_law_889 ?_
  refine qa_cVi (w := w) (i := 0) (As := [.int (xs (nI (4 * N) + 1).toNatClampNeg), .int (xs (nI (4 * N) + 2).toNatClampNeg), .int (xs (nI (4 * N) + 3).toNatClampNeg)]) (rest := []) hx hb hts hml hown hK hP hS hAA (c_X6_likely l D w σ (xs (nI (4 * N) + 1).toNatClampNeg) (xs (nI (4 * N) + 2).toNatClampNeg) (xs (nI (4 * N) + 3).toNatClampNeg) r σ1 hJ e1) hwl_X6_likely hdl_X6_likely ⟨rfl, rfl, rfl⟩ (by decide) (ce6 kd0) rfl ⟨Nat.le_of_ble_eq_true rfl, Nat.le_of_ble_eq_true rfl⟩ ⟨Nat.le_refl _, Nat.le_refl _⟩ hl.1 rfl (Nat.le_of_ble_eq_true rfl) dL_law_890 (fun H locs hP hS => ?_)
  refine lv_aload_n hx hb dL_law_893 rfl (lv_at hl 3 rfl) ?_
  refine lv_aload_n hx hb dL_law_894 rfl (lv_at hl 1 rfl) ?_
  refine lv_iload_n hx hb dL_law_895 rfl (lv_at hl 0 rfl) ?_
  refine lv_iconst (v := (1 : Int32)) hx hb dL_law_896 (by decide) ?_
  refine lv_iadd hx hb dL_law_897 ?_
  refine va_sld hx hb hX hbl hbA hS h1 dL_law_898 ?_
  refine lv_aload_n hx hb dL_law_899 rfl (lv_at hl 1 rfl) ?_
  refine lv_iload_n hx hb dL_law_900 rfl (lv_at hl 0 rfl) ?_
  refine lv_iconst (v := (2 : Int32)) hx hb dL_law_901 (by decide) ?_
  refine lv_iadd hx hb dL_law_902 ?_
  refine va_sld hx hb hX hbl hbA hS h2 dL_law_903 ?_
  refine lv_aload_n hx hb dL_law_904 rfl (lv_at hl 1 rfl) ?_
  refine lv_iload_n hx hb dL_law_905 rfl (lv_at hl 0 rfl) ?_
  refine lv_iconst (v := (3 : Int32)) hx hb dL_law_906 (by decide) ?_
  refine lv_iadd hx hb dL_law_907 ?_
  refine va_sld hx hb hX hbl hbA hS h3 dL_law_908 ?_
  refine qa_cVi (w := w) (i := 184) (As := [.int (xs (nI (4 * N) + 1).toNatClampNeg), .int (xs (nI (4 * N) + 2).toNatClampNeg), .int (xs (nI (4 * N) + 3).toNatClampNeg)]) (rest := [.int r]) hx hb hts hml hown hK hP hS hAA (c_X7_likely l D w σ1 (xs (nI (4 * N) + 1).toNatClampNeg) (xs (nI (4 * N) + 2).toNatClampNeg) (xs (nI (4 * N) + 3).toNatClampNeg) r σ2 hJ e2) hwl_X7_likely hdl_X7_likely ⟨rfl, rfl, rfl⟩ (by decide) (ce7 kd184) rfl ⟨Nat.le_of_ble_eq_true rfl, Nat.le_of_ble_eq_true rfl⟩ ⟨Nat.le_refl _, Nat.le_refl _⟩ hl.1 rfl (Nat.le_of_ble_eq_true rfl) dL_law_909 (fun H locs hP hS => ?_)
  exact lv_icmp_eq (tgt := 1009) hx hb dL_law_912 (by decide) (fun _ => kk σ2 H locs hR2 hP hS) (fun hc => absurd rfl hc)
theorem law_29 (C : LC p s m args c b L xs D w A) (hR : Rel N σ) (hN : N < 512) (hi : 4 * N + 4 ≤ L) (hL : L ≤ 2048) (hP : va_P D vwCl (WL w σ) H) (hS : va_S A s.heap H locs) (hl : lv_has ls 4 [(3, .int (nI (4 * N))), (0, .ref b), (1, .ref (w.1 0)), (2, .ref (w.1 184))])
    (kk : ∀ (σ' : Sg) (H : Heap) (locs : List Loc), Rel (N + 1) σ' → va_P D vwCl (WL w σ') H → va_S A s.heap H locs → W p l e room_1 s m args below meth c H locs 600000 7302250 Q (F0 m 1009 ls [])) : W p l e room_1 s m args below meth c H locs 600000 7302250 Q (F0 m 917 ls []) := by
  obtain ⟨hx, hb, hml, hown, hts, hX, hbl, hbA, hK, hJ, hAA⟩ := C
  have h1 : vp_in (nI (4 * N) + 1) L := by rw [show nI (4 * N) + (1 : Int32) = nI (4 * N + 1) from nI_add (4 * N) 1]; exact vp_in_nI (by omega) (by omega)
  have h2 : vp_in (nI (4 * N) + 2) L := by rw [show nI (4 * N) + (2 : Int32) = nI (4 * N + 2) from nI_add (4 * N) 2]; exact vp_in_nI (by omega) (by omega)
  have h3 : vp_in (nI (4 * N) + 3) L := by rw [show nI (4 * N) + (3 : Int32) = nI (4 * N + 3) from nI_add (4 * N) 3]; exact vp_in_nI (by omega) (by omega)
  obtain ⟨r, σ1, σ2, e1, e2, hR2⟩ := eq_century hR hN (xs (nI (4 * N) + 1).toNatClampNeg) (xs (nI (4 * N) + 2).toNatClampNeg) (xs (nI (4 * N) + 3).toNatClampNeg)
  refine lv_aload_n hx hb dL_law_917 rfl (lv_at hl 2 rfl) ?_
  refine lv_aload_n hx hb dL_law_918 rfl (lv_at hl 1 rfl) ?_
  refine lv_iload_n hx hb dL_law_919 rfl (lv_at hl 0 rfl) ?_
  refine lv_iconst (v := (1 : Int32)) hx hb dL_law_920 (by decide) ?_
  refine lv_iadd hx hb dL_law_921 ?_
  refine va_sld hx hb hX hbl hbA hS h1 dL_law_922 ?_
  refine lv_aload_n hx hb dL_law_923 rfl (lv_at hl 1 rfl) ?_
  refine lv_iload_n hx hb dL_law_924 rfl (lv_at hl 0 rfl) ?_
  refine lv_iconst (v := (2 : Int32)) hx hb dL_law_925 (by decide) ?_
  refine lv_iadd hx hb dL_law_926 ?_
  refine va_sld hx hb hX hbl hbA hS h2 dL_law_927 ?_
  refine lv_aload_n hx hb dL_law_928 rfl (lv_at hl 1 rfl) ?_
  refine lv_iload_n hx hb dL_law_929 rfl (lv_at hl 0 rfl) ?_
  refine lv_iconst (v := (3 : Int32)) hx hb dL_law_930 (by decide) ?_
  refine lv_iadd hx hb dL_law_931 ?_
  refine va_sld hx hb hX hbl hbA hS h3 dL_law_932 ?_
  refine qa_cVi (w := w) (i := 0) (As := [.int (xs (nI (4 * N) + 1).toNatClampNeg), .int (xs (nI (4 * N) + 2).toNatClampNeg), .int (xs (nI (4 * N) + 3).toNatClampNeg)]) (rest := []) hx hb hts hml hown hK hP hS hAA (c_X6_century l D w σ (xs (nI (4 * N) + 1).toNatClampNeg) (xs (nI (4 * N) + 2).toNatClampNeg) (xs (nI (4 * N) + 3).toNatClampNeg) r σ1 hJ e1) hwl_X6_century hdl_X6_century ⟨rfl, rfl, rfl⟩ (by decide) (ce6 kd0) rfl ⟨Nat.le_of_ble_eq_true rfl, Nat.le_of_ble_eq_true rfl⟩ ⟨Nat.le_refl _, Nat.le_refl _⟩ hl.1 rfl (Nat.le_of_ble_eq_true rfl) dL_law_933 (fun H locs hP hS => ?_)
  refine lv_aload_n hx hb dL_law_936 rfl (lv_at hl 3 rfl) ?_
  refine lv_aload_n hx hb dL_law_937 rfl (lv_at hl 1 rfl) ?_
  refine lv_iload_n hx hb dL_law_938 rfl (lv_at hl 0 rfl) ?_
  refine lv_iconst (v := (1 : Int32)) hx hb dL_law_939 (by decide) ?_
  refine lv_iadd hx hb dL_law_940 ?_
  refine va_sld hx hb hX hbl hbA hS h1 dL_law_941 ?_
  refine lv_aload_n hx hb dL_law_942 rfl (lv_at hl 1 rfl) ?_
  refine lv_iload_n hx hb dL_law_943 rfl (lv_at hl 0 rfl) ?_
  refine lv_iconst (v := (2 : Int32)) hx hb dL_law_944 (by decide) ?_
  refine lv_iadd hx hb dL_law_945 ?_
  refine va_sld hx hb hX hbl hbA hS h2 dL_law_946 ?_
  refine lv_aload_n hx hb dL_law_947 rfl (lv_at hl 1 rfl) ?_
  refine lv_iload_n hx hb dL_law_948 rfl (lv_at hl 0 rfl) ?_
  refine lv_iconst (v := (3 : Int32)) hx hb dL_law_949 (by decide) ?_
  refine lv_iadd hx hb dL_law_950 ?_
  refine va_sld hx hb hX hbl hbA hS h3 dL_law_951 ?_
  refine qa_cVi (w := w) (i := 184) (As := [.int (xs (nI (4 * N) + 1).toNatClampNeg), .int (xs (nI (4 * N) + 2).toNatClampNeg), .int (xs (nI (4 * N) + 3).toNatClampNeg)]) (rest := [.int r]) hx hb hts hml hown hK hP hS hAA (c_X7_century l D w σ1 (xs (nI (4 * N) + 1).toNatClampNeg) (xs (nI (4 * N) + 2).toNatClampNeg) (xs (nI (4 * N) + 3).toNatClampNeg) r σ2 hJ e2) hwl_X7_century hdl_X7_century ⟨rfl, rfl, rfl⟩ (by decide) (ce7 kd184) rfl ⟨Nat.le_of_ble_eq_true rfl, Nat.le_of_ble_eq_true rfl⟩ ⟨Nat.le_refl _, Nat.le_refl _⟩ hl.1 rfl (Nat.le_of_ble_eq_true rfl) dL_law_952 (fun H locs hP hS => ?_)
  exact lv_icmp_eq (tgt := 1009) hx hb dL_law_955 (by decide) (fun _ => kk σ2 H locs hR2 hP hS) (fun hc => absurd rfl hc)
theorem law_30 (C : LC p s m args c b L xs D w A) (hR : Rel N σ) (hN : N < 512) (hi : 4 * N + 4 ≤ L) (hL : L ≤ 2048) (hP : va_P D vwCl (WL w σ) H) (hS : va_S A s.heap H locs) (hl : lv_has ls 4 [(3, .int (nI (4 * N))), (0, .ref b), (1, .ref (w.1 0)), (2, .ref (w.1 184))])
    (kk : ∀ (σ' : Sg) (H : Heap) (locs : List Loc), Rel (N + 1) σ' → va_P D vwCl (WL w σ') H → va_S A s.heap H locs → W p l e room_1 s m args below meth c H locs 600000 7302250 Q (F0 m 1009 ls [])) : W p l e room_1 s m args below meth c H locs 600000 7302250 Q (F0 m 960 ls []) := by
  obtain ⟨hx, hb, hml, hown, hts, hX, hbl, hbA, hK, hJ, hAA⟩ := C
  obtain ⟨r, σ1, σ2, e1, e2, hR2⟩ := eq_keep hR hN
  refine lv_aload_n hx hb dL_law_960 rfl (lv_at hl 2 rfl) ?_
  refine qa_cVi (w := w) (i := 0) (As := []) (rest := []) hx hb hts hml hown hK hP hS hAA (c_X6_keep l D w σ r σ1 hJ e1) hwl_X6_keep hdl_X6_keep ⟨rfl, rfl, rfl⟩ (by decide) (ce6 kd0) rfl ⟨Nat.le_of_ble_eq_true rfl, Nat.le_of_ble_eq_true rfl⟩ ⟨Nat.le_refl _, Nat.le_refl _⟩ hl.1 rfl (Nat.le_of_ble_eq_true rfl) dL_law_961 (fun H locs hP hS => ?_)
  refine lv_aload_n hx hb dL_law_964 rfl (lv_at hl 3 rfl) ?_
  refine qa_cVi (w := w) (i := 184) (As := []) (rest := [.int r]) hx hb hts hml hown hK hP hS hAA (c_X7_keep l D w σ1 r σ2 hJ e2) hwl_X7_keep hdl_X7_keep ⟨rfl, rfl, rfl⟩ (by decide) (ce7 kd184) rfl ⟨Nat.le_of_ble_eq_true rfl, Nat.le_of_ble_eq_true rfl⟩ ⟨Nat.le_refl _, Nat.le_refl _⟩ hl.1 rfl (Nat.le_of_ble_eq_true rfl) dL_law_965 (fun H locs hP hS => ?_)
  exact lv_icmp_eq (tgt := 1009) hx hb dL_law_968 (by decide) (fun _ => kk σ2 H locs hR2 hP hS) (fun hc => absurd rfl hc)
theorem law_31 (C : LC p s m args c b L xs D w A) (hR : Rel N σ) (hN : N < 512) (hi : 4 * N + 4 ≤ L) (hL : L ≤ 2048) (hP : va_P D vwCl (WL w σ) H) (hS : va_S A s.heap H locs) (hl : lv_has ls 4 [(3, .int (nI (4 * N))), (0, .ref b), (1, .ref (w.1 0)), (2, .ref (w.1 184))])
    (kk : ∀ (σ' : Sg) (H : Heap) (locs : List Loc), Rel (N + 1) σ' → va_P D vwCl (WL w σ') H → va_S A s.heap H locs → W p l e room_1 s m args below meth c H locs 600000 7302250 Q (F0 m 1009 ls [])) : W p l e room_1 s m args below meth c H locs 600000 7302250 Q (F0 m 973 ls []) := by
  obtain ⟨hx, hb, hml, hown, hts, hX, hbl, hbA, hK, hJ, hAA⟩ := C
  obtain ⟨r, σ1, σ2, e1, e2, hR2⟩ := eq_back hR hN
  refine lv_aload_n hx hb dL_law_973 rfl (lv_at hl 2 rfl) ?_
  refine qa_cVi (w := w) (i := 0) (As := []) (rest := []) hx hb hts hml hown hK hP hS hAA (c_X6_back l D w σ r σ1 hJ e1) hwl_X6_back hdl_X6_back ⟨rfl, rfl, rfl⟩ (by decide) (ce6 kd0) rfl ⟨Nat.le_of_ble_eq_true rfl, Nat.le_of_ble_eq_true rfl⟩ ⟨Nat.le_refl _, Nat.le_refl _⟩ hl.1 rfl (Nat.le_of_ble_eq_true rfl) dL_law_974 (fun H locs hP hS => ?_)
  refine lv_aload_n hx hb dL_law_977 rfl (lv_at hl 3 rfl) ?_
  refine qa_cVi (w := w) (i := 184) (As := []) (rest := [.int r]) hx hb hts hml hown hK hP hS hAA (c_X7_back l D w σ1 r σ2 hJ e2) hwl_X7_back hdl_X7_back ⟨rfl, rfl, rfl⟩ (by decide) (ce7 kd184) rfl ⟨Nat.le_of_ble_eq_true rfl, Nat.le_of_ble_eq_true rfl⟩ ⟨Nat.le_refl _, Nat.le_refl _⟩ hl.1 rfl (Nat.le_of_ble_eq_true rfl) dL_law_978 (fun H locs hP hS => ?_)
  exact lv_icmp_eq (tgt := 1009) hx hb dL_law_981 (by decide) (fun _ => kk σ2 H locs hR2 hP hS) (fun hc => absurd rfl hc)
theorem law_32 (C : LC p s m args c b L xs D w A) (hR : Rel N σ) (hN : N < 512) (hi : 4 * N + 4 ≤ L) (hL : L ≤ 2048) (hP : va_P D vwCl (WL w σ) H) (hS : va_S A s.heap H locs) (hl : lv_has ls 4 [(3, .int (nI (4 * N))), (0, .ref b), (1, .ref (w.1 0)), (2, .ref (w.1 184))])
    (kk : ∀ (σ' : Sg) (H : Heap) (locs : List Loc), Rel (N + 1) σ' → va_P D vwCl (WL w σ') H → va_S A s.heap H locs → W p l e room_1 s m args below meth c H locs 600000 7302250 Q (F0 m 1009 ls [])) : W p l e room_1 s m args below meth c H locs 600000 7302250 Q (F0 m 986 ls []) := by
  obtain ⟨hx, hb, hml, hown, hts, hX, hbl, hbA, hK, hJ, hAA⟩ := C
  have h1 : vp_in (nI (4 * N) + 1) L := by rw [show nI (4 * N) + (1 : Int32) = nI (4 * N + 1) from nI_add (4 * N) 1]; exact vp_in_nI (by omega) (by omega)
  obtain ⟨r, e1, e2⟩ := eq_count hR (xs (nI (4 * N) + 1).toNatClampNeg)
  have hR2 : Rel (N + 1) σ := Rel_fr hR (by omega) (by omega) hR.1 (fun _ _ _ _ _ => rfl)
  refine lv_aload_n hx hb dL_law_986 rfl (lv_at hl 2 rfl) ?_
  refine lv_aload_n hx hb dL_law_987 rfl (lv_at hl 1 rfl) ?_
  refine lv_iload_n hx hb dL_law_988 rfl (lv_at hl 0 rfl) ?_
  refine lv_iconst (v := (1 : Int32)) hx hb dL_law_989 (by decide) ?_
  refine lv_iadd hx hb dL_law_990 ?_
  refine va_sld hx hb hX hbl hbA hS h1 dL_law_991 ?_
  refine qa_cVi (w := w) (i := 0) (As := [.int (xs (nI (4 * N) + 1).toNatClampNeg)]) (rest := []) hx hb hts hml hown hK hP hS hAA (c_X6_count l D w σ (xs (nI (4 * N) + 1).toNatClampNeg) r e1) hwl_X6_count hdl_X6_count ⟨rfl, rfl, rfl⟩ (by decide) (ce6 kd0) rfl ⟨Nat.le_of_ble_eq_true rfl, Nat.le_of_ble_eq_true rfl⟩ ⟨Nat.le_refl _, Nat.le_refl _⟩ hl.1 rfl (Nat.le_of_ble_eq_true rfl) dL_law_992 (fun H locs hP hS => ?_)
  refine lv_aload_n hx hb dL_law_995 rfl (lv_at hl 3 rfl) ?_
  refine lv_aload_n hx hb dL_law_996 rfl (lv_at hl 1 rfl) ?_
  refine lv_iload_n hx hb dL_law_997 rfl (lv_at hl 0 rfl) ?_
  refine lv_iconst (v := (1 : Int32)) hx hb dL_law_998 (by decide) ?_
  refine lv_iadd hx hb dL_law_999 ?_
  refine va_sld hx hb hX hbl hbA hS h1 dL_law_1000 ?_
  refine qa_cVi (w := w) (i := 184) (As := [.int (xs (nI (4 * N) + 1).toNatClampNeg)]) (rest := [.int r]) hx hb hts hml hown hK hP hS hAA (c_X7_count l D w σ (xs (nI (4 * N) + 1).toNatClampNeg) r e2) hwl_X7_count hdl_X7_count ⟨rfl, rfl, rfl⟩ (by decide) (ce7 kd184) rfl ⟨Nat.le_of_ble_eq_true rfl, Nat.le_of_ble_eq_true rfl⟩ ⟨Nat.le_refl _, Nat.le_refl _⟩ hl.1 rfl (Nat.le_of_ble_eq_true rfl) dL_law_1001 (fun H locs hP hS => ?_)
  exact lv_icmp_eq (tgt := 1009) hx hb dL_law_1004 (by decide) (fun _ => kk σ H locs hR2 hP hS) (fun hc => absurd rfl hc)
theorem law_sw (C : LC p s m args c b L xs D w A) (hR : Rel N σ) (hN : N < 512) (hi : 4 * N + 4 ≤ L) (hL : L ≤ 2048) (hP : va_P D vwCl (WL w σ) H) (hS : va_S A s.heap H locs) (hl : lv_has ls 4 [(3, .int (nI (4 * N))), (0, .ref b), (1, .ref (w.1 0)), (2, .ref (w.1 184))])
    (kk : ∀ (σ' : Sg) (H : Heap) (locs : List Loc), Rel (N + 1) σ' → va_P D vwCl (WL w σ') H → va_S A s.heap H locs → W p l e room_1 s m args below meth c H locs 600000 7302250 Q (F0 m 1009 ls [])) {x : Int32} : W p l e room_1 s m args below meth c H locs 600000 7302250 Q (F0 m 32 ls [.int (x &&& 63)]) := by
  have hx := C.1
  have hb := C.2.1
  obtain ⟨j, hj, ej⟩ := pk_andE x (m := 63) 6 (by decide)
  rw [ej]
  by_cases c : j ≤ 32
  · rcases (show j = 0 ∨ j = 1 ∨ j = 2 ∨ j = 3 ∨ j = 4 ∨ j = 5 ∨ j = 6 ∨ j = 7 ∨ j = 8 ∨ j = 9 ∨ j = 10 ∨ j = 11 ∨ j = 12 ∨ j = 13 ∨ j = 14 ∨ j = 15 ∨ j = 16 ∨ j = 17 ∨ j = 18 ∨ j = 19 ∨ j = 20 ∨ j = 21 ∨ j = 22 ∨ j = 23 ∨ j = 24 ∨ j = 25 ∨ j = 26 ∨ j = 27 ∨ j = 28 ∨ j = 29 ∨ j = 30 ∨ j = 31 ∨ j = 32 by omega) with rfl | rfl | rfl | rfl | rfl | rfl | rfl | rfl | rfl | rfl | rfl | rfl | rfl | rfl | rfl | rfl | rfl | rfl | rfl | rfl | rfl | rfl | rfl | rfl | rfl | rfl | rfl | rfl | rfl | rfl | rfl | rfl | rfl
    · exact lv_tableIn (off := 148) (tgt := 180) hx hb dL_law_32 (by decide) (by decide) (by rfl) (by decide) (law_0 C hR hN hi hL hP hS hl kk)
    · exact lv_tableIn (off := 171) (tgt := 203) hx hb dL_law_32 (by decide) (by decide) (by rfl) (by decide) (law_1 C hR hN hi hL hP hS hl kk)
    · exact lv_tableIn (off := 184) (tgt := 216) hx hb dL_law_32 (by decide) (by decide) (by rfl) (by decide) (law_2 C hR hN hi hL hP hS hl kk)
    · exact lv_tableIn (off := 197) (tgt := 229) hx hb dL_law_32 (by decide) (by decide) (by rfl) (by decide) (law_3 C hR hN hi hL hP hS hl kk)
    · exact lv_tableIn (off := 210) (tgt := 242) hx hb dL_law_32 (by decide) (by decide) (by rfl) (by decide) (law_4 C hR hN hi hL hP hS hl kk)
    · exact lv_tableIn (off := 243) (tgt := 275) hx hb dL_law_32 (by decide) (by decide) (by rfl) (by decide) (law_5 C hR hN hi hL hP hS hl kk)
    · exact lv_tableIn (off := 276) (tgt := 308) hx hb dL_law_32 (by decide) (by decide) (by rfl) (by decide) (law_6 C hR hN hi hL hP hS hl kk)
    · exact lv_tableIn (off := 319) (tgt := 351) hx hb dL_law_32 (by decide) (by decide) (by rfl) (by decide) (law_7 C hR hN hi hL hP hS hl kk)
    · exact lv_tableIn (off := 352) (tgt := 384) hx hb dL_law_32 (by decide) (by decide) (by rfl) (by decide) (law_8 C hR hN hi hL hP hS hl kk)
    · exact lv_tableIn (off := 375) (tgt := 407) hx hb dL_law_32 (by decide) (by decide) (by rfl) (by decide) (law_9 C hR hN hi hL hP hS hl kk)
    · exact lv_tableIn (off := 388) (tgt := 420) hx hb dL_law_32 (by decide) (by decide) (by rfl) (by decide) (law_10 C hR hN hi hL hP hS hl kk)
    · exact lv_tableIn (off := 431) (tgt := 463) hx hb dL_law_32 (by decide) (by decide) (by rfl) (by decide) (law_11 C hR hN hi hL hP hS hl kk)
    · exact lv_tableIn (off := 454) (tgt := 486) hx hb dL_law_32 (by decide) (by decide) (by rfl) (by decide) (law_12 C hR hN hi hL hP hS hl kk)
    · exact lv_tableIn (off := 487) (tgt := 519) hx hb dL_law_32 (by decide) (by decide) (by rfl) (by decide) (law_13 C hR hN hi hL hP hS hl kk)
    · exact lv_tableIn (off := 510) (tgt := 542) hx hb dL_law_32 (by decide) (by decide) (by rfl) (by decide) (law_14 C hR hN hi hL hP hS hl kk)
    · exact lv_tableIn (off := 523) (tgt := 555) hx hb dL_law_32 (by decide) (by decide) (by rfl) (by decide) (law_15 C hR hN hi hL hP hS hl kk)
    · exact lv_tableIn (off := 546) (tgt := 578) hx hb dL_law_32 (by decide) (by decide) (by rfl) (by decide) (law_16 C hR hN hi hL hP hS hl kk)
    · exact lv_tableIn (off := 579) (tgt := 611) hx hb dL_law_32 (by decide) (by decide) (by rfl) (by decide) (law_17 C hR hN hi hL hP hS hl kk)
    · exact lv_tableIn (off := 592) (tgt := 624) hx hb dL_law_32 (by decide) (by decide) (by rfl) (by decide) (law_18 C hR hN hi hL hP hS hl kk)
    · exact lv_tableIn (off := 615) (tgt := 647) hx hb dL_law_32 (by decide) (by decide) (by rfl) (by decide) (law_19 C hR hN hi hL hP hS hl kk)
    · exact lv_tableIn (off := 638) (tgt := 670) hx hb dL_law_32 (by decide) (by decide) (by rfl) (by decide) (law_20 C hR hN hi hL hP hS hl kk)
    · exact lv_tableIn (off := 661) (tgt := 693) hx hb dL_law_32 (by decide) (by decide) (by rfl) (by decide) (law_21 C hR hN hi hL hP hS hl kk)
    · exact lv_tableIn (off := 694) (tgt := 726) hx hb dL_law_32 (by decide) (by decide) (by rfl) (by decide) (law_22 C hR hN hi hL hP hS hl kk)
    · exact lv_tableIn (off := 737) (tgt := 769) hx hb dL_law_32 (by decide) (by decide) (by rfl) (by decide) (law_23 C hR hN hi hL hP hS hl kk)
    · exact lv_tableIn (off := 750) (tgt := 782) hx hb dL_law_32 (by decide) (by decide) (by rfl) (by decide) (law_24 C hR hN hi hL hP hS hl kk)
    · exact lv_tableIn (off := 763) (tgt := 795) hx hb dL_law_32 (by decide) (by decide) (by rfl) (by decide) (law_25 C hR hN hi hL hP hS hl kk)
    · exact lv_tableIn (off := 806) (tgt := 838) hx hb dL_law_32 (by decide) (by decide) (by rfl) (by decide) (law_26 C hR hN hi hL hP hS hl kk)
    · exact lv_tableIn (off := 829) (tgt := 861) hx hb dL_law_32 (by decide) (by decide) (by rfl) (by decide) (law_27 C hR hN hi hL hP hS hl kk)
    · exact lv_tableIn (off := 842) (tgt := 874) hx hb dL_law_32 (by decide) (by decide) (by rfl) (by decide) (law_28 C hR hN hi hL hP hS hl kk)
    · exact lv_tableIn (off := 885) (tgt := 917) hx hb dL_law_32 (by decide) (by decide) (by rfl) (by decide) (law_29 C hR hN hi hL hP hS hl kk)
    · exact lv_tableIn (off := 928) (tgt := 960) hx hb dL_law_32 (by decide) (by decide) (by rfl) (by decide) (law_30 C hR hN hi hL hP hS hl kk)
    · exact lv_tableIn (off := 941) (tgt := 973) hx hb dL_law_32 (by decide) (by decide) (by rfl) (by decide) (law_31 C hR hN hi hL hP hS hl kk)
    · exact lv_tableIn (off := 954) (tgt := 986) hx hb dL_law_32 (by decide) (by decide) (by rfl) (by decide) (law_32 C hR hN hi hL hP hS hl kk)
  · refine lv_tableOut (tgt := 1009) hx hb dL_law_32 (Or.inr ?_) (by decide) (kk σ H locs (Rel_fr hR (by omega) (by omega) hR.1 (fun _ _ _ _ _ => rfl)) hP hS)
    rw [nI_toInt (by omega)]
    omega
end LW
