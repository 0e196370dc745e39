noncomputable def wsX2_make : List Cond := .code yX2_make cX2_make 4 (some .int) :: ([.fieldLink RX2 34 "SharedLambda$Graph" "spares" "I", .fieldLink RX2 21 "SharedLambda$Graph" "spare" "[I", .fieldLink RX2 11 "SharedLambda$Graph" "kinds" "[I", .fieldLink RX2 15 "SharedLambda$Graph" "indexes" "[I", .fieldLink RX2 24 "SharedLambda$Graph" "populations" "[I"] ++ wsX20)
noncomputable def wsX7_portOf : List Cond := .code yX7_portOf cX7_portOf 2 (some .int) :: ([])
noncomputable def wsX7_nodeAt : List Cond := .code yX7_nodeAt cX7_nodeAt 1 (some .int) :: ([])
noncomputable def wsX2_rouse : List Cond := .code yX2_rouse cX2_rouse 2 none :: ([.fieldLink RX2 38 "SharedLambda$Graph" "restlessCount" "I", .fieldLink RX2 11 "SharedLambda$Graph" "kinds" "[I", .fieldLink RX2 30 "SharedLambda$Graph" "isRestless" "[Z", .fieldLink RX2 27 "SharedLambda$Graph" "restless" "[I"] ++ wsX20)
noncomputable def wsX2_link : List Cond := .code yX2_link cX2_link 3 none :: ([.fieldLink RX2 18 "SharedLambda$Graph" "wires" "[I", .static yX7_nodeAt, .initialized RX7, .code yX7_nodeAt cX7_nodeAt 1 (some .int), .methodLink RX2 51 yX2_rouse, .instanceMethod yX2_rouse, .selects RX2 yX2_rouse yX2_rouse, .initialized RX2, .code yX2_rouse cX2_rouse 2 none, .fieldLink RX2 38 "SharedLambda$Graph" "restlessCount" "I", .fieldLink RX2 11 "SharedLambda$Graph" "kinds" "[I", .fieldLink RX2 30 "SharedLambda$Graph" "isRestless" "[Z", .fieldLink RX2 27 "SharedLambda$Graph" "restless" "[I"] ++ wsX20)
noncomputable def wsX2_init : List Cond := .code yX2_init cX2_init 1 none :: ([.methodLink RX2 3 objectInit, .instanceMethod objectInit, .code objectInit ⟨#[0xb1]⟩ 1 none, .arrayClass .int, .fieldLink RX2 11 "SharedLambda$Graph" "kinds" "[I", .fieldLink RX2 15 "SharedLambda$Graph" "indexes" "[I", .fieldLink RX2 18 "SharedLambda$Graph" "wires" "[I", .fieldLink RX2 21 "SharedLambda$Graph" "spare" "[I", .fieldLink RX2 24 "SharedLambda$Graph" "populations" "[I", .fieldLink RX2 27 "SharedLambda$Graph" "restless" "[I", .arrayClass .boolean, .fieldLink RX2 30 "SharedLambda$Graph" "isRestless" "[Z"] ++ wsX20)
noncomputable def wsX2_clear : List Cond := .code yX2_clear cX2_clear 2 none :: ([.fieldLink RX2 11 "SharedLambda$Graph" "kinds" "[I", .fieldLink RX2 30 "SharedLambda$Graph" "isRestless" "[Z", .fieldLink RX2 21 "SharedLambda$Graph" "spare" "[I", .fieldLink RX2 24 "SharedLambda$Graph" "populations" "[I", .fieldLink RX2 34 "SharedLambda$Graph" "spares" "I", .fieldLink RX2 38 "SharedLambda$Graph" "restlessCount" "I", .fieldLink RX2 41 "SharedLambda$Graph" "erased" "I"] ++ wsX20)
noncomputable def wsX2_size : List Cond := .code yX2_size cX2_size 1 (some .int) :: ([.fieldLink RX2 34 "SharedLambda$Graph" "spares" "I"] ++ wsX20)
noncomputable def wsX2_erasedNodes : List Cond := .code yX2_erasedNodes cX2_erasedNodes 1 (some .int) :: ([.fieldLink RX2 41 "SharedLambda$Graph" "erased" "I"] ++ wsX20)
noncomputable def wsX2_population : List Cond := .code yX2_population cX2_population 2 (some .int) :: ([.fieldLink RX2 24 "SharedLambda$Graph" "populations" "[I"] ++ wsX20)
noncomputable def wsX2_kindOf : List Cond := .code yX2_kindOf cX2_kindOf 2 (some .int) :: ([.fieldLink RX2 11 "SharedLambda$Graph" "kinds" "[I"] ++ wsX20)
noncomputable def wsX2_indexOf : List Cond := .code yX2_indexOf cX2_indexOf 2 (some .int) :: ([.fieldLink RX2 15 "SharedLambda$Graph" "indexes" "[I"] ++ wsX20)
noncomputable def wsX2_across : List Cond := .code yX2_across cX2_across 2 (some .int) :: ([.fieldLink RX2 18 "SharedLambda$Graph" "wires" "[I"] ++ wsX20)
noncomputable def wsX2_discard : List Cond := .code yX2_discard cX2_discard 3 none :: ([.fieldLink RX2 34 "SharedLambda$Graph" "spares" "I", .fieldLink RX2 24 "SharedLambda$Graph" "populations" "[I", .fieldLink RX2 11 "SharedLambda$Graph" "kinds" "[I", .fieldLink RX2 21 "SharedLambda$Graph" "spare" "[I", .methodLink RX2 44 yX2_kindOf, .instanceMethod yX2_kindOf, .selects RX2 yX2_kindOf yX2_kindOf, .initialized RX2, .code yX2_kindOf cX2_kindOf 2 (some .int)] ++ wsX20)
noncomputable def wsX2_replace : List Cond := .code yX2_replace cX2_replace 3 none :: ([.methodLink RX2 55 yX2_across, .instanceMethod yX2_across, .selects RX2 yX2_across yX2_across, .initialized RX2, .code yX2_across cX2_across 2 (some .int), .fieldLink RX2 18 "SharedLambda$Graph" "wires" "[I", .methodLink RX2 58 yX2_link, .instanceMethod yX2_link, .selects RX2 yX2_link yX2_link, .code yX2_link cX2_link 3 none, .static yX7_nodeAt, .initialized RX7, .code yX7_nodeAt cX7_nodeAt 1 (some .int), .methodLink RX2 51 yX2_rouse, .instanceMethod yX2_rouse, .selects RX2 yX2_rouse yX2_rouse, .code yX2_rouse cX2_rouse 2 none, .fieldLink RX2 38 "SharedLambda$Graph" "restlessCount" "I", .fieldLink RX2 11 "SharedLambda$Graph" "kinds" "[I", .fieldLink RX2 30 "SharedLambda$Graph" "isRestless" "[Z", .fieldLink RX2 27 "SharedLambda$Graph" "restless" "[I"] ++ wsX20)
noncomputable def wsX2_join : List Cond := .code yX2_join cX2_join 3 none :: ([.methodLink RX2 55 yX2_across, .instanceMethod yX2_across, .selects RX2 yX2_across yX2_across, .initialized RX2, .code yX2_across cX2_across 2 (some .int), .fieldLink RX2 18 "SharedLambda$Graph" "wires" "[I", .methodLink RX2 58 yX2_link, .instanceMethod yX2_link, .selects RX2 yX2_link yX2_link, .code yX2_link cX2_link 3 none, .static yX7_nodeAt, .initialized RX7, .code yX7_nodeAt cX7_nodeAt 1 (some .int), .methodLink RX2 51 yX2_rouse, .instanceMethod yX2_rouse, .selects RX2 yX2_rouse yX2_rouse, .code yX2_rouse cX2_rouse 2 none, .fieldLink RX2 38 "SharedLambda$Graph" "restlessCount" "I", .fieldLink RX2 11 "SharedLambda$Graph" "kinds" "[I", .fieldLink RX2 30 "SharedLambda$Graph" "isRestless" "[Z", .fieldLink RX2 27 "SharedLambda$Graph" "restless" "[I"] ++ wsX20)
noncomputable def wsX7_whichAt : List Cond := .code yX7_whichAt cX7_whichAt 1 (some .int) :: ([])
noncomputable def wsX2_isErased : List Cond := .code yX2_isErased cX2_isErased 2 (some .boolean) :: ([.methodLink RX2 55 yX2_across, .instanceMethod yX2_across, .selects RX2 yX2_across yX2_across, .initialized RX2, .code yX2_across cX2_across 2 (some .int), .fieldLink RX2 18 "SharedLambda$Graph" "wires" "[I", .static yX7_nodeAt, .initialized RX7, .code yX7_nodeAt cX7_nodeAt 1 (some .int), .methodLink RX2 44 yX2_kindOf, .instanceMethod yX2_kindOf, .selects RX2 yX2_kindOf yX2_kindOf, .code yX2_kindOf cX2_kindOf 2 (some .int), .fieldLink RX2 11 "SharedLambda$Graph" "kinds" "[I"] ++ wsX20)
noncomputable def wsX2_yields : List Cond := .code yX2_yields cX2_yields 4 (some .boolean) :: ([.methodLink RX2 44 yX2_kindOf, .instanceMethod yX2_kindOf, .selects RX2 yX2_kindOf yX2_kindOf, .initialized RX2, .code yX2_kindOf cX2_kindOf 2 (some .int), .fieldLink RX2 11 "SharedLambda$Graph" "kinds" "[I", .static yX7_portOf, .initialized RX7, .code yX7_portOf cX7_portOf 2 (some .int), .methodLink RX2 83 yX2_isErased, .instanceMethod yX2_isErased, .selects RX2 yX2_isErased yX2_isErased, .code yX2_isErased cX2_isErased 2 (some .boolean), .methodLink RX2 55 yX2_across, .instanceMethod yX2_across, .selects RX2 yX2_across yX2_across, .code yX2_across cX2_across 2 (some .int), .fieldLink RX2 18 "SharedLambda$Graph" "wires" "[I", .static yX7_nodeAt, .code yX7_nodeAt cX7_nodeAt 1 (some .int)] ++ wsX20)
noncomputable def wsX7_otherPorts : List Cond := .code yX7_otherPorts cX7_otherPorts 1 (some .int) :: ([])
noncomputable def wsX2_erase_r1 : List Cond := [Cond.fieldLink RX2 41 "SharedLambda$Graph" "erased" "I", Cond.methodLink RX2 44 yX2_kindOf, Cond.instanceMethod yX2_kindOf, Cond.selects RX2 yX2_kindOf yX2_kindOf, Cond.initialized RX2, Cond.code yX2_kindOf cX2_kindOf 2 (some .int), Cond.fieldLink RX2 11 "SharedLambda$Graph" "kinds" "[I", Cond.static yX7_otherPorts, Cond.initialized RX7, Cond.code yX7_otherPorts cX7_otherPorts 1 (some .int), Cond.static yX7_portOf, Cond.code yX7_portOf cX7_portOf 2 (some .int), Cond.methodLink RX2 83 yX2_isErased, Cond.instanceMethod yX2_isErased, Cond.selects RX2 yX2_isErased yX2_isErased, Cond.code yX2_isErased cX2_isErased 2 (some .boolean), Cond.methodLink RX2 55 yX2_across, Cond.instanceMethod yX2_across, Cond.selects RX2 yX2_across yX2_across, Cond.code yX2_across cX2_across 2 (some .int), Cond.fieldLink RX2 18 "SharedLambda$Graph" "wires" "[I", Cond.static yX7_nodeAt, Cond.code yX7_nodeAt cX7_nodeAt 1 (some .int), Cond.methodLink RX2 70 yX2_discard]
noncomputable def wsX2_erase_r2 : List Cond := [Cond.instanceMethod yX2_discard, Cond.selects RX2 yX2_discard yX2_discard, Cond.code yX2_discard cX2_discard 3 none, Cond.fieldLink RX2 34 "SharedLambda$Graph" "spares" "I", Cond.fieldLink RX2 24 "SharedLambda$Graph" "populations" "[I", Cond.fieldLink RX2 21 "SharedLambda$Graph" "spare" "[I", Cond.methodLink RX2 90 yX2_make, Cond.instanceMethod yX2_make, Cond.selects RX2 yX2_make yX2_make, Cond.code yX2_make cX2_make 4 (some .int), Cond.fieldLink RX2 15 "SharedLambda$Graph" "indexes" "[I", Cond.methodLink RX2 93 yX2_replace, Cond.instanceMethod yX2_replace, Cond.selects RX2 yX2_replace yX2_replace, Cond.code yX2_replace cX2_replace 3 none, Cond.methodLink RX2 58 yX2_link, Cond.instanceMethod yX2_link, Cond.selects RX2 yX2_link yX2_link, Cond.code yX2_link cX2_link 3 none, Cond.methodLink RX2 51 yX2_rouse, Cond.instanceMethod yX2_rouse, Cond.selects RX2 yX2_rouse yX2_rouse, Cond.code yX2_rouse cX2_rouse 2 none, Cond.fieldLink RX2 38 "SharedLambda$Graph" "restlessCount" "I"]
noncomputable def wsX2_erase_r3 : List Cond := [Cond.fieldLink RX2 30 "SharedLambda$Graph" "isRestless" "[Z", Cond.fieldLink RX2 27 "SharedLambda$Graph" "restless" "[I"]
noncomputable def wsX2_erase : List Cond := .code yX2_erase cX2_erase 5 none :: ((wsX2_erase_r1 ++ (wsX2_erase_r2 ++ wsX2_erase_r3)) ++ wsX20)
noncomputable def wsX2_calm_r1 : List Cond := [Cond.fieldLink RX2 30 "SharedLambda$Graph" "isRestless" "[Z", Cond.fieldLink RX2 11 "SharedLambda$Graph" "kinds" "[I", Cond.static yX7_portOf, Cond.initialized RX7, Cond.code yX7_portOf cX7_portOf 2 (some .int), Cond.methodLink RX2 55 yX2_across, Cond.instanceMethod yX2_across, Cond.selects RX2 yX2_across yX2_across, Cond.initialized RX2, Cond.code yX2_across cX2_across 2 (some .int), Cond.fieldLink RX2 18 "SharedLambda$Graph" "wires" "[I", Cond.static yX7_nodeAt, Cond.code yX7_nodeAt cX7_nodeAt 1 (some .int), Cond.methodLink RX2 44 yX2_kindOf, Cond.instanceMethod yX2_kindOf, Cond.selects RX2 yX2_kindOf yX2_kindOf, Cond.code yX2_kindOf cX2_kindOf 2 (some .int), Cond.methodLink RX2 70 yX2_discard, Cond.instanceMethod yX2_discard, Cond.selects RX2 yX2_discard yX2_discard, Cond.code yX2_discard cX2_discard 3 none, Cond.fieldLink RX2 34 "SharedLambda$Graph" "spares" "I", Cond.fieldLink RX2 24 "SharedLambda$Graph" "populations" "[I", Cond.fieldLink RX2 21 "SharedLambda$Graph" "spare" "[I"]
noncomputable def wsX2_calm_r2 : List Cond := [Cond.static yX7_whichAt, Cond.code yX7_whichAt cX7_whichAt 1 (some .int), Cond.methodLink RX2 76 yX2_yields, Cond.instanceMethod yX2_yields, Cond.selects RX2 yX2_yields yX2_yields, Cond.code yX2_yields cX2_yields 4 (some .boolean), Cond.methodLink RX2 83 yX2_isErased, Cond.instanceMethod yX2_isErased, Cond.selects RX2 yX2_isErased yX2_isErased, Cond.code yX2_isErased cX2_isErased 2 (some .boolean), Cond.methodLink RX2 80 yX2_erase, Cond.instanceMethod yX2_erase, Cond.selects RX2 yX2_erase yX2_erase, Cond.code yX2_erase cX2_erase 5 none, Cond.fieldLink RX2 41 "SharedLambda$Graph" "erased" "I", Cond.static yX7_otherPorts, Cond.code yX7_otherPorts cX7_otherPorts 1 (some .int), Cond.methodLink RX2 90 yX2_make, Cond.instanceMethod yX2_make, Cond.selects RX2 yX2_make yX2_make, Cond.code yX2_make cX2_make 4 (some .int), Cond.fieldLink RX2 15 "SharedLambda$Graph" "indexes" "[I", Cond.methodLink RX2 93 yX2_replace, Cond.instanceMethod yX2_replace]
noncomputable def wsX2_calm_r3 : List Cond := [Cond.selects RX2 yX2_replace yX2_replace, Cond.code yX2_replace cX2_replace 3 none, Cond.methodLink RX2 58 yX2_link, Cond.instanceMethod yX2_link, Cond.selects RX2 yX2_link yX2_link, Cond.code yX2_link cX2_link 3 none, Cond.methodLink RX2 51 yX2_rouse, Cond.instanceMethod yX2_rouse, Cond.selects RX2 yX2_rouse yX2_rouse, Cond.code yX2_rouse cX2_rouse 2 none, Cond.fieldLink RX2 38 "SharedLambda$Graph" "restlessCount" "I", Cond.fieldLink RX2 27 "SharedLambda$Graph" "restless" "[I"]
noncomputable def wsX2_calm : List Cond := .code yX2_calm cX2_calm 4 none :: ((wsX2_calm_r1 ++ (wsX2_calm_r2 ++ wsX2_calm_r3)) ++ wsX20)
noncomputable def wsX2_eraseAll_r1 : List Cond := [Cond.constant RX2 62 (1000000), Cond.fieldLink RX2 38 "SharedLambda$Graph" "restlessCount" "I", Cond.fieldLink RX2 27 "SharedLambda$Graph" "restless" "[I", Cond.methodLink RX2 63 yX2_calm, Cond.instanceMethod yX2_calm, Cond.selects RX2 yX2_calm yX2_calm, Cond.initialized RX2, Cond.code yX2_calm cX2_calm 4 none, Cond.fieldLink RX2 30 "SharedLambda$Graph" "isRestless" "[Z", Cond.fieldLink RX2 11 "SharedLambda$Graph" "kinds" "[I", Cond.static yX7_portOf, Cond.initialized RX7, Cond.code yX7_portOf cX7_portOf 2 (some .int), Cond.methodLink RX2 55 yX2_across, Cond.instanceMethod yX2_across, Cond.selects RX2 yX2_across yX2_across, Cond.code yX2_across cX2_across 2 (some .int), Cond.fieldLink RX2 18 "SharedLambda$Graph" "wires" "[I", Cond.static yX7_nodeAt, Cond.code yX7_nodeAt cX7_nodeAt 1 (some .int), Cond.methodLink RX2 44 yX2_kindOf, Cond.instanceMethod yX2_kindOf, Cond.selects RX2 yX2_kindOf yX2_kindOf, Cond.code yX2_kindOf cX2_kindOf 2 (some .int)]
noncomputable def wsX2_eraseAll_r2 : List Cond := [Cond.methodLink RX2 70 yX2_discard, Cond.instanceMethod yX2_discard, Cond.selects RX2 yX2_discard yX2_discard, Cond.code yX2_discard cX2_discard 3 none, Cond.fieldLink RX2 34 "SharedLambda$Graph" "spares" "I", Cond.fieldLink RX2 24 "SharedLambda$Graph" "populations" "[I", Cond.fieldLink RX2 21 "SharedLambda$Graph" "spare" "[I", Cond.static yX7_whichAt, Cond.code yX7_whichAt cX7_whichAt 1 (some .int), Cond.methodLink RX2 76 yX2_yields, Cond.instanceMethod yX2_yields, Cond.selects RX2 yX2_yields yX2_yields, Cond.code yX2_yields cX2_yields 4 (some .boolean), Cond.methodLink RX2 83 yX2_isErased, Cond.instanceMethod yX2_isErased, Cond.selects RX2 yX2_isErased yX2_isErased, Cond.code yX2_isErased cX2_isErased 2 (some .boolean), Cond.methodLink RX2 80 yX2_erase, Cond.instanceMethod yX2_erase, Cond.selects RX2 yX2_erase yX2_erase, Cond.code yX2_erase cX2_erase 5 none, Cond.fieldLink RX2 41 "SharedLambda$Graph" "erased" "I", Cond.static yX7_otherPorts, Cond.code yX7_otherPorts cX7_otherPorts 1 (some .int)]
noncomputable def wsX2_eraseAll_r3 : List Cond := [Cond.methodLink RX2 90 yX2_make, Cond.instanceMethod yX2_make, Cond.selects RX2 yX2_make yX2_make, Cond.code yX2_make cX2_make 4 (some .int), Cond.fieldLink RX2 15 "SharedLambda$Graph" "indexes" "[I", Cond.methodLink RX2 93 yX2_replace, Cond.instanceMethod yX2_replace, Cond.selects RX2 yX2_replace yX2_replace, Cond.code yX2_replace cX2_replace 3 none, Cond.methodLink RX2 58 yX2_link, Cond.instanceMethod yX2_link, Cond.selects RX2 yX2_link yX2_link, Cond.code yX2_link cX2_link 3 none, Cond.methodLink RX2 51 yX2_rouse, Cond.instanceMethod yX2_rouse, Cond.selects RX2 yX2_rouse yX2_rouse, Cond.code yX2_rouse cX2_rouse 2 none]
noncomputable def wsX2_eraseAll : List Cond := .code yX2_eraseAll cX2_eraseAll 2 none :: ((wsX2_eraseAll_r1 ++ (wsX2_eraseAll_r2 ++ wsX2_eraseAll_r3)) ++ wsX20)
noncomputable def wsX7_isControl : List Cond := .code yX7_isControl cX7_isControl 1 (some .boolean) :: ([])
theorem dX2_make_0 : decode cX2_make 0 = .ok (.aload_n 0, 1) := by decide +kernel
theorem dX2_make_1 : decode cX2_make 1 = .ok (.getfield 34, 3) := by decide +kernel
theorem dX2_make_4 : decode cX2_make 4 = .ok (.iconst 1, 1) := by decide +kernel
theorem dX2_make_5 : decode cX2_make 5 = .ok (.if_icmp .lt 23, 3) := by decide +kernel
theorem dX2_make_8 : decode cX2_make 8 = .ok (.aload_n 0, 1) := by decide +kernel
theorem dX2_make_9 : decode cX2_make 9 = .ok (.getfield 34, 3) := by decide +kernel
theorem dX2_make_12 : decode cX2_make 12 = .ok (.sipush 3002, 3) := by decide +kernel
theorem dX2_make_15 : decode cX2_make 15 = .ok (.if_icmp .gt 13, 3) := by decide +kernel
theorem dX2_make_18 : decode cX2_make 18 = .ok (.iload_n 1, 1) := by decide +kernel
theorem dX2_make_19 : decode cX2_make 19 = .ok (.ifCond .lt 9, 3) := by decide +kernel
theorem dX2_make_22 : decode cX2_make 22 = .ok (.iload_n 1, 1) := by decide +kernel
theorem dX2_make_23 : decode cX2_make 23 = .ok (.bipush 7, 2) := by decide +kernel
theorem dX2_make_25 : decode cX2_make 25 = .ok (.if_icmp .lt 5, 3) := by decide +kernel
theorem dX2_make_28 : decode cX2_make 28 = .ok (.iconst (-1), 1) := by decide +kernel
theorem dX2_make_29 : decode cX2_make 29 = .ok (.ireturn, 1) := by decide +kernel
theorem dX2_make_30 : decode cX2_make 30 = .ok (.aload_n 0, 1) := by decide +kernel
theorem dX2_make_31 : decode cX2_make 31 = .ok (.getfield 21, 3) := by decide +kernel
theorem dX2_make_34 : decode cX2_make 34 = .ok (.aload_n 0, 1) := by decide +kernel
theorem dX2_make_35 : decode cX2_make 35 = .ok (.getfield 34, 3) := by decide +kernel
theorem dX2_make_38 : decode cX2_make 38 = .ok (.iconst 1, 1) := by decide +kernel
theorem dX2_make_39 : decode cX2_make 39 = .ok (.isub, 1) := by decide +kernel
theorem dX2_make_40 : decode cX2_make 40 = .ok (.iaload, 1) := by decide +kernel
theorem dX2_make_41 : decode cX2_make 41 = .ok (.istore_n 3, 1) := by decide +kernel
theorem dX2_make_42 : decode cX2_make 42 = .ok (.iload_n 3, 1) := by decide +kernel
theorem dX2_make_43 : decode cX2_make 43 = .ok (.ifCond .lt 10, 3) := by decide +kernel
theorem dX2_make_46 : decode cX2_make 46 = .ok (.iload_n 3, 1) := by decide +kernel
theorem dX2_make_47 : decode cX2_make 47 = .ok (.sipush 3002, 3) := by decide +kernel
theorem dX2_make_50 : decode cX2_make 50 = .ok (.if_icmp .lt 5, 3) := by decide +kernel
theorem dX2_make_53 : decode cX2_make 53 = .ok (.iconst (-1), 1) := by decide +kernel
theorem dX2_make_54 : decode cX2_make 54 = .ok (.ireturn, 1) := by decide +kernel
theorem dX2_make_55 : decode cX2_make 55 = .ok (.aload_n 0, 1) := by decide +kernel
theorem dX2_make_56 : decode cX2_make 56 = .ok (.dup, 1) := by decide +kernel
theorem dX2_make_57 : decode cX2_make 57 = .ok (.getfield 34, 3) := by decide +kernel
theorem dX2_make_60 : decode cX2_make 60 = .ok (.iconst 1, 1) := by decide +kernel
theorem dX2_make_61 : decode cX2_make 61 = .ok (.isub, 1) := by decide +kernel
theorem dX2_make_62 : decode cX2_make 62 = .ok (.putfield 34, 3) := by decide +kernel
theorem dX2_make_65 : decode cX2_make 65 = .ok (.aload_n 0, 1) := by decide +kernel
theorem dX2_make_66 : decode cX2_make 66 = .ok (.getfield 11, 3) := by decide +kernel
theorem dX2_make_69 : decode cX2_make 69 = .ok (.iload_n 3, 1) := by decide +kernel
theorem dX2_make_70 : decode cX2_make 70 = .ok (.iload_n 1, 1) := by decide +kernel
theorem dX2_make_71 : decode cX2_make 71 = .ok (.iastore, 1) := by decide +kernel
theorem dX2_make_72 : decode cX2_make 72 = .ok (.aload_n 0, 1) := by decide +kernel
theorem dX2_make_73 : decode cX2_make 73 = .ok (.getfield 15, 3) := by decide +kernel
theorem dX2_make_76 : decode cX2_make 76 = .ok (.iload_n 3, 1) := by decide +kernel
theorem dX2_make_77 : decode cX2_make 77 = .ok (.iload_n 2, 1) := by decide +kernel
theorem dX2_make_78 : decode cX2_make 78 = .ok (.iastore, 1) := by decide +kernel
theorem dX2_make_79 : decode cX2_make 79 = .ok (.aload_n 0, 1) := by decide +kernel
theorem dX2_make_80 : decode cX2_make 80 = .ok (.getfield 24, 3) := by decide +kernel
theorem dX2_make_83 : decode cX2_make 83 = .ok (.iload_n 1, 1) := by decide +kernel
theorem dX2_make_84 : decode cX2_make 84 = .ok (.dup2, 1) := by decide +kernel
theorem dX2_make_85 : decode cX2_make 85 = .ok (.iaload, 1) := by decide +kernel
theorem dX2_make_86 : decode cX2_make 86 = .ok (.iconst 1, 1) := by decide +kernel
theorem dX2_make_87 : decode cX2_make 87 = .ok (.iadd, 1) := by decide +kernel
theorem dX2_make_88 : decode cX2_make 88 = .ok (.iastore, 1) := by decide +kernel
theorem dX2_make_89 : decode cX2_make 89 = .ok (.iload_n 3, 1) := by decide +kernel
theorem dX2_make_90 : decode cX2_make 90 = .ok (.ireturn, 1) := by decide +kernel
theorem dX7_portOf_0 : decode cX7_portOf 0 = .ok (.iload_n 0, 1) := by decide +kernel
theorem dX7_portOf_1 : decode cX7_portOf 1 = .ok (.iconst 4, 1) := by decide +kernel
theorem dX7_portOf_2 : decode cX7_portOf 2 = .ok (.imul, 1) := by decide +kernel
theorem dX7_portOf_3 : decode cX7_portOf 3 = .ok (.iload_n 1, 1) := by decide +kernel
theorem dX7_portOf_4 : decode cX7_portOf 4 = .ok (.iadd, 1) := by decide +kernel
theorem dX7_portOf_5 : decode cX7_portOf 5 = .ok (.ireturn, 1) := by decide +kernel
theorem dX7_nodeAt_0 : decode cX7_nodeAt 0 = .ok (.iload_n 0, 1) := by decide +kernel
theorem dX7_nodeAt_1 : decode cX7_nodeAt 1 = .ok (.iconst 2, 1) := by decide +kernel
theorem dX7_nodeAt_2 : decode cX7_nodeAt 2 = .ok (.ishr, 1) := by decide +kernel
theorem dX7_nodeAt_3 : decode cX7_nodeAt 3 = .ok (.ireturn, 1) := by decide +kernel
theorem dX2_rouse_0 : decode cX2_rouse 0 = .ok (.iload_n 1, 1) := by decide +kernel
theorem dX2_rouse_1 : decode cX2_rouse 1 = .ok (.ifCond .lt 20, 3) := by decide +kernel
theorem dX2_rouse_4 : decode cX2_rouse 4 = .ok (.iload_n 1, 1) := by decide +kernel
theorem dX2_rouse_5 : decode cX2_rouse 5 = .ok (.sipush 3002, 3) := by decide +kernel
theorem dX2_rouse_8 : decode cX2_rouse 8 = .ok (.if_icmp .ge 13, 3) := by decide +kernel
theorem dX2_rouse_11 : decode cX2_rouse 11 = .ok (.aload_n 0, 1) := by decide +kernel
theorem dX2_rouse_12 : decode cX2_rouse 12 = .ok (.getfield 38, 3) := by decide +kernel
theorem dX2_rouse_15 : decode cX2_rouse 15 = .ok (.sipush 3002, 3) := by decide +kernel
theorem dX2_rouse_18 : decode cX2_rouse 18 = .ok (.if_icmp .lt 4, 3) := by decide +kernel
theorem dX2_rouse_21 : decode cX2_rouse 21 = .ok (.return_, 1) := by decide +kernel
theorem dX2_rouse_22 : decode cX2_rouse 22 = .ok (.aload_n 0, 1) := by decide +kernel
theorem dX2_rouse_23 : decode cX2_rouse 23 = .ok (.getfield 11, 3) := by decide +kernel
theorem dX2_rouse_26 : decode cX2_rouse 26 = .ok (.iload_n 1, 1) := by decide +kernel
theorem dX2_rouse_27 : decode cX2_rouse 27 = .ok (.iaload, 1) := by decide +kernel
theorem dX2_rouse_28 : decode cX2_rouse 28 = .ok (.iconst 5, 1) := by decide +kernel
theorem dX2_rouse_29 : decode cX2_rouse 29 = .ok (.if_icmp .ne 39, 3) := by decide +kernel
theorem dX2_rouse_32 : decode cX2_rouse 32 = .ok (.aload_n 0, 1) := by decide +kernel
theorem dX2_rouse_33 : decode cX2_rouse 33 = .ok (.getfield 30, 3) := by decide +kernel
theorem dX2_rouse_36 : decode cX2_rouse 36 = .ok (.iload_n 1, 1) := by decide +kernel
theorem dX2_rouse_37 : decode cX2_rouse 37 = .ok (.baload, 1) := by decide +kernel
theorem dX2_rouse_38 : decode cX2_rouse 38 = .ok (.ifCond .ne 30, 3) := by decide +kernel
theorem dX2_rouse_41 : decode cX2_rouse 41 = .ok (.aload_n 0, 1) := by decide +kernel
theorem dX2_rouse_42 : decode cX2_rouse 42 = .ok (.getfield 30, 3) := by decide +kernel
theorem dX2_rouse_45 : decode cX2_rouse 45 = .ok (.iload_n 1, 1) := by decide +kernel
theorem dX2_rouse_46 : decode cX2_rouse 46 = .ok (.iconst 1, 1) := by decide +kernel
theorem dX2_rouse_47 : decode cX2_rouse 47 = .ok (.bastore, 1) := by decide +kernel
theorem dX2_rouse_48 : decode cX2_rouse 48 = .ok (.aload_n 0, 1) := by decide +kernel
theorem dX2_rouse_49 : decode cX2_rouse 49 = .ok (.getfield 27, 3) := by decide +kernel
theorem dX2_rouse_52 : decode cX2_rouse 52 = .ok (.aload_n 0, 1) := by decide +kernel
theorem dX2_rouse_53 : decode cX2_rouse 53 = .ok (.getfield 38, 3) := by decide +kernel
theorem dX2_rouse_56 : decode cX2_rouse 56 = .ok (.iload_n 1, 1) := by decide +kernel
theorem dX2_rouse_57 : decode cX2_rouse 57 = .ok (.iastore, 1) := by decide +kernel
theorem dX2_rouse_58 : decode cX2_rouse 58 = .ok (.aload_n 0, 1) := by decide +kernel
theorem dX2_rouse_59 : decode cX2_rouse 59 = .ok (.dup, 1) := by decide +kernel
theorem dX2_rouse_60 : decode cX2_rouse 60 = .ok (.getfield 38, 3) := by decide +kernel
theorem dX2_rouse_63 : decode cX2_rouse 63 = .ok (.iconst 1, 1) := by decide +kernel
theorem dX2_rouse_64 : decode cX2_rouse 64 = .ok (.iadd, 1) := by decide +kernel
theorem dX2_rouse_65 : decode cX2_rouse 65 = .ok (.putfield 38, 3) := by decide +kernel
theorem dX2_rouse_68 : decode cX2_rouse 68 = .ok (.return_, 1) := by decide +kernel
set_option maxRecDepth 20000 in
theorem ggX2_link_X7_nodeAt : GoodIn wsX2_link wsX7_nodeAt := goodIn_r _ [4] (by decide +kernel) (by decide +kernel)
set_option maxRecDepth 20000 in
theorem gX2_link_X7_nodeAt_n48 : GoodIn wsX2_link (wsX7_nodeAt) := ggX2_link_X7_nodeAt
set_option maxRecDepth 20000 in
theorem ggX2_link_X2_rouse : GoodIn wsX2_link wsX2_rouse := goodIn_r _ [9, 10, 11, 12, 13, 14, 15, 16, 17, 18, 19, 20, 21, 22, 23] (by decide +kernel) (by decide +kernel)
set_option maxRecDepth 20000 in
theorem gX2_link_X2_rouse : GoodIn wsX2_link (wsV RX2 51 RX2 yX2_rouse wsX2_rouse) := goodIn_app (goodIn_of _ (by decide +kernel)) ggX2_link_X2_rouse
theorem dX2_link_0 : decode cX2_link 0 = .ok (.iload_n 1, 1) := by decide +kernel
theorem dX2_link_1 : decode cX2_link 1 = .ok (.ifCond .lt 25, 3) := by decide +kernel
theorem dX2_link_4 : decode cX2_link 4 = .ok (.iload_n 1, 1) := by decide +kernel
theorem dX2_link_5 : decode cX2_link 5 = .ok (.aload_n 0, 1) := by decide +kernel
theorem dX2_link_6 : decode cX2_link 6 = .ok (.getfield 18, 3) := by decide +kernel
theorem dX2_link_9 : decode cX2_link 9 = .ok (.arraylength, 1) := by decide +kernel
theorem dX2_link_10 : decode cX2_link 10 = .ok (.if_icmp .ge 16, 3) := by decide +kernel
theorem dX2_link_13 : decode cX2_link 13 = .ok (.iload_n 2, 1) := by decide +kernel
theorem dX2_link_14 : decode cX2_link 14 = .ok (.ifCond .lt 12, 3) := by decide +kernel
theorem dX2_link_17 : decode cX2_link 17 = .ok (.iload_n 2, 1) := by decide +kernel
theorem dX2_link_18 : decode cX2_link 18 = .ok (.aload_n 0, 1) := by decide +kernel
theorem dX2_link_19 : decode cX2_link 19 = .ok (.getfield 18, 3) := by decide +kernel
theorem dX2_link_22 : decode cX2_link 22 = .ok (.arraylength, 1) := by decide +kernel
theorem dX2_link_23 : decode cX2_link 23 = .ok (.if_icmp .lt 4, 3) := by decide +kernel
theorem dX2_link_26 : decode cX2_link 26 = .ok (.return_, 1) := by decide +kernel
theorem dX2_link_27 : decode cX2_link 27 = .ok (.aload_n 0, 1) := by decide +kernel
theorem dX2_link_28 : decode cX2_link 28 = .ok (.getfield 18, 3) := by decide +kernel
theorem dX2_link_31 : decode cX2_link 31 = .ok (.iload_n 1, 1) := by decide +kernel
theorem dX2_link_32 : decode cX2_link 32 = .ok (.iload_n 2, 1) := by decide +kernel
theorem dX2_link_33 : decode cX2_link 33 = .ok (.iastore, 1) := by decide +kernel
theorem dX2_link_34 : decode cX2_link 34 = .ok (.aload_n 0, 1) := by decide +kernel
theorem dX2_link_35 : decode cX2_link 35 = .ok (.getfield 18, 3) := by decide +kernel
theorem dX2_link_38 : decode cX2_link 38 = .ok (.iload_n 2, 1) := by decide +kernel
theorem dX2_link_39 : decode cX2_link 39 = .ok (.iload_n 1, 1) := by decide +kernel
theorem dX2_link_40 : decode cX2_link 40 = .ok (.iastore, 1) := by decide +kernel
theorem dX2_link_41 : decode cX2_link 41 = .ok (.aload_n 0, 1) := by decide +kernel
theorem dX2_link_42 : decode cX2_link 42 = .ok (.iload_n 1, 1) := by decide +kernel
theorem dX2_link_43 : decode cX2_link 43 = .ok (.invokestatic 48, 3) := by decide +kernel
theorem dX2_link_46 : decode cX2_link 46 = .ok (.invokevirtual 51, 3) := by decide +kernel
theorem dX2_link_49 : decode cX2_link 49 = .ok (.aload_n 0, 1) := by decide +kernel
theorem dX2_link_50 : decode cX2_link 50 = .ok (.iload_n 2, 1) := by decide +kernel
theorem dX2_link_51 : decode cX2_link 51 = .ok (.invokestatic 48, 3) := by decide +kernel
theorem dX2_link_54 : decode cX2_link 54 = .ok (.invokevirtual 51, 3) := by decide +kernel
theorem dX2_link_57 : decode cX2_link 57 = .ok (.return_, 1) := by decide +kernel
theorem dX2_init_0 : decode cX2_init 0 = .ok (.aload_n 0, 1) := by decide +kernel
theorem dX2_init_1 : decode cX2_init 1 = .ok (.invokespecial 3, 3) := by decide +kernel
theorem dX2_init_4 : decode cX2_init 4 = .ok (.aload_n 0, 1) := by decide +kernel
theorem dX2_init_5 : decode cX2_init 5 = .ok (.sipush 3002, 3) := by decide +kernel
theorem dX2_init_8 : decode cX2_init 8 = .ok (.newarray .int, 2) := by decide +kernel
theorem dX2_init_10 : decode cX2_init 10 = .ok (.putfield 11, 3) := by decide +kernel
theorem dX2_init_13 : decode cX2_init 13 = .ok (.aload_n 0, 1) := by decide +kernel
theorem dX2_init_14 : decode cX2_init 14 = .ok (.sipush 3002, 3) := by decide +kernel
theorem dX2_init_17 : decode cX2_init 17 = .ok (.newarray .int, 2) := by decide +kernel
theorem dX2_init_19 : decode cX2_init 19 = .ok (.putfield 15, 3) := by decide +kernel
theorem dX2_init_22 : decode cX2_init 22 = .ok (.aload_n 0, 1) := by decide +kernel
theorem dX2_init_23 : decode cX2_init 23 = .ok (.sipush 12008, 3) := by decide +kernel
theorem dX2_init_26 : decode cX2_init 26 = .ok (.newarray .int, 2) := by decide +kernel
theorem dX2_init_28 : decode cX2_init 28 = .ok (.putfield 18, 3) := by decide +kernel
theorem dX2_init_31 : decode cX2_init 31 = .ok (.aload_n 0, 1) := by decide +kernel
theorem dX2_init_32 : decode cX2_init 32 = .ok (.sipush 3002, 3) := by decide +kernel
theorem dX2_init_35 : decode cX2_init 35 = .ok (.newarray .int, 2) := by decide +kernel
theorem dX2_init_37 : decode cX2_init 37 = .ok (.putfield 21, 3) := by decide +kernel
theorem dX2_init_40 : decode cX2_init 40 = .ok (.aload_n 0, 1) := by decide +kernel
theorem dX2_init_41 : decode cX2_init 41 = .ok (.bipush 7, 2) := by decide +kernel
theorem dX2_init_43 : decode cX2_init 43 = .ok (.newarray .int, 2) := by decide +kernel
theorem dX2_init_45 : decode cX2_init 45 = .ok (.putfield 24, 3) := by decide +kernel
theorem dX2_init_48 : decode cX2_init 48 = .ok (.aload_n 0, 1) := by decide +kernel
theorem dX2_init_49 : decode cX2_init 49 = .ok (.sipush 3002, 3) := by decide +kernel
theorem dX2_init_52 : decode cX2_init 52 = .ok (.newarray .int, 2) := by decide +kernel
theorem dX2_init_54 : decode cX2_init 54 = .ok (.putfield 27, 3) := by decide +kernel
theorem dX2_init_57 : decode cX2_init 57 = .ok (.aload_n 0, 1) := by decide +kernel
theorem dX2_init_58 : decode cX2_init 58 = .ok (.sipush 3002, 3) := by decide +kernel
theorem dX2_init_61 : decode cX2_init 61 = .ok (.newarray .boolean, 2) := by decide +kernel
theorem dX2_init_63 : decode cX2_init 63 = .ok (.putfield 30, 3) := by decide +kernel
theorem dX2_init_66 : decode cX2_init 66 = .ok (.return_, 1) := by decide +kernel
theorem dX2_clear_0 : decode cX2_clear 0 = .ok (.iconst 0, 1) := by decide +kernel
theorem dX2_clear_1 : decode cX2_clear 1 = .ok (.istore_n 1, 1) := by decide +kernel
theorem dX2_clear_2 : decode cX2_clear 2 = .ok (.iload_n 1, 1) := by decide +kernel
theorem dX2_clear_3 : decode cX2_clear 3 = .ok (.sipush 3002, 3) := by decide +kernel
theorem dX2_clear_6 : decode cX2_clear 6 = .ok (.if_icmp .ge 34, 3) := by decide +kernel
theorem dX2_clear_9 : decode cX2_clear 9 = .ok (.aload_n 0, 1) := by decide +kernel
theorem dX2_clear_10 : decode cX2_clear 10 = .ok (.getfield 11, 3) := by decide +kernel
theorem dX2_clear_13 : decode cX2_clear 13 = .ok (.iload_n 1, 1) := by decide +kernel
theorem dX2_clear_14 : decode cX2_clear 14 = .ok (.iconst (-1), 1) := by decide +kernel
theorem dX2_clear_15 : decode cX2_clear 15 = .ok (.iastore, 1) := by decide +kernel
theorem dX2_clear_16 : decode cX2_clear 16 = .ok (.aload_n 0, 1) := by decide +kernel
theorem dX2_clear_17 : decode cX2_clear 17 = .ok (.getfield 30, 3) := by decide +kernel
theorem dX2_clear_20 : decode cX2_clear 20 = .ok (.iload_n 1, 1) := by decide +kernel
theorem dX2_clear_21 : decode cX2_clear 21 = .ok (.iconst 0, 1) := by decide +kernel
theorem dX2_clear_22 : decode cX2_clear 22 = .ok (.bastore, 1) := by decide +kernel
theorem dX2_clear_23 : decode cX2_clear 23 = .ok (.aload_n 0, 1) := by decide +kernel
theorem dX2_clear_24 : decode cX2_clear 24 = .ok (.getfield 21, 3) := by decide +kernel
theorem dX2_clear_27 : decode cX2_clear 27 = .ok (.iload_n 1, 1) := by decide +kernel
theorem dX2_clear_28 : decode cX2_clear 28 = .ok (.sipush 3001, 3) := by decide +kernel
theorem dX2_clear_31 : decode cX2_clear 31 = .ok (.iload_n 1, 1) := by decide +kernel
theorem dX2_clear_32 : decode cX2_clear 32 = .ok (.isub, 1) := by decide +kernel
theorem dX2_clear_33 : decode cX2_clear 33 = .ok (.iastore, 1) := by decide +kernel
theorem dX2_clear_34 : decode cX2_clear 34 = .ok (.iinc 1 1, 3) := by decide +kernel
theorem dX2_clear_37 : decode cX2_clear 37 = .ok (.goto (-35), 3) := by decide +kernel
theorem dX2_clear_40 : decode cX2_clear 40 = .ok (.iconst 0, 1) := by decide +kernel
theorem dX2_clear_41 : decode cX2_clear 41 = .ok (.istore_n 1, 1) := by decide +kernel
theorem dX2_clear_42 : decode cX2_clear 42 = .ok (.iload_n 1, 1) := by decide +kernel
theorem dX2_clear_43 : decode cX2_clear 43 = .ok (.bipush 7, 2) := by decide +kernel
theorem dX2_clear_45 : decode cX2_clear 45 = .ok (.if_icmp .ge 16, 3) := by decide +kernel
theorem dX2_clear_48 : decode cX2_clear 48 = .ok (.aload_n 0, 1) := by decide +kernel
theorem dX2_clear_49 : decode cX2_clear 49 = .ok (.getfield 24, 3) := by decide +kernel
theorem dX2_clear_52 : decode cX2_clear 52 = .ok (.iload_n 1, 1) := by decide +kernel
theorem dX2_clear_53 : decode cX2_clear 53 = .ok (.iconst 0, 1) := by decide +kernel
theorem dX2_clear_54 : decode cX2_clear 54 = .ok (.iastore, 1) := by decide +kernel
theorem dX2_clear_55 : decode cX2_clear 55 = .ok (.iinc 1 1, 3) := by decide +kernel
theorem dX2_clear_58 : decode cX2_clear 58 = .ok (.goto (-16), 3) := by decide +kernel
theorem dX2_clear_61 : decode cX2_clear 61 = .ok (.aload_n 0, 1) := by decide +kernel
theorem dX2_clear_62 : decode cX2_clear 62 = .ok (.sipush 3002, 3) := by decide +kernel
theorem dX2_clear_65 : decode cX2_clear 65 = .ok (.putfield 34, 3) := by decide +kernel
theorem dX2_clear_68 : decode cX2_clear 68 = .ok (.aload_n 0, 1) := by decide +kernel
theorem dX2_clear_69 : decode cX2_clear 69 = .ok (.iconst 0, 1) := by decide +kernel
theorem dX2_clear_70 : decode cX2_clear 70 = .ok (.putfield 38, 3) := by decide +kernel
theorem dX2_clear_73 : decode cX2_clear 73 = .ok (.aload_n 0, 1) := by decide +kernel
theorem dX2_clear_74 : decode cX2_clear 74 = .ok (.iconst 0, 1) := by decide +kernel
theorem dX2_clear_75 : decode cX2_clear 75 = .ok (.putfield 41, 3) := by decide +kernel
theorem dX2_clear_78 : decode cX2_clear 78 = .ok (.return_, 1) := by decide +kernel
theorem dX2_size_0 : decode cX2_size 0 = .ok (.sipush 3002, 3) := by decide +kernel
theorem dX2_size_3 : decode cX2_size 3 = .ok (.aload_n 0, 1) := by decide +kernel
theorem dX2_size_4 : decode cX2_size 4 = .ok (.getfield 34, 3) := by decide +kernel
theorem dX2_size_7 : decode cX2_size 7 = .ok (.isub, 1) := by decide +kernel
theorem dX2_size_8 : decode cX2_size 8 = .ok (.ireturn, 1) := by decide +kernel
theorem dX2_erasedNodes_0 : decode cX2_erasedNodes 0 = .ok (.aload_n 0, 1) := by decide +kernel
theorem dX2_erasedNodes_1 : decode cX2_erasedNodes 1 = .ok (.getfield 41, 3) := by decide +kernel
theorem dX2_erasedNodes_4 : decode cX2_erasedNodes 4 = .ok (.ireturn, 1) := by decide +kernel
theorem dX2_population_0 : decode cX2_population 0 = .ok (.iload_n 1, 1) := by decide +kernel
theorem dX2_population_1 : decode cX2_population 1 = .ok (.ifCond .lt 18, 3) := by decide +kernel
theorem dX2_population_4 : decode cX2_population 4 = .ok (.iload_n 1, 1) := by decide +kernel
theorem dX2_population_5 : decode cX2_population 5 = .ok (.bipush 7, 2) := by decide +kernel
theorem dX2_population_7 : decode cX2_population 7 = .ok (.if_icmp .ge 12, 3) := by decide +kernel
theorem dX2_population_10 : decode cX2_population 10 = .ok (.aload_n 0, 1) := by decide +kernel
theorem dX2_population_11 : decode cX2_population 11 = .ok (.getfield 24, 3) := by decide +kernel
theorem dX2_population_14 : decode cX2_population 14 = .ok (.iload_n 1, 1) := by decide +kernel
theorem dX2_population_15 : decode cX2_population 15 = .ok (.iaload, 1) := by decide +kernel
theorem dX2_population_16 : decode cX2_population 16 = .ok (.goto 4, 3) := by decide +kernel
theorem dX2_population_19 : decode cX2_population 19 = .ok (.iconst 0, 1) := by decide +kernel
theorem dX2_population_20 : decode cX2_population 20 = .ok (.ireturn, 1) := by decide +kernel
theorem dX2_kindOf_0 : decode cX2_kindOf 0 = .ok (.iload_n 1, 1) := by decide +kernel
theorem dX2_kindOf_1 : decode cX2_kindOf 1 = .ok (.ifCond .lt 19, 3) := by decide +kernel
theorem dX2_kindOf_4 : decode cX2_kindOf 4 = .ok (.iload_n 1, 1) := by decide +kernel
theorem dX2_kindOf_5 : decode cX2_kindOf 5 = .ok (.sipush 3002, 3) := by decide +kernel
theorem dX2_kindOf_8 : decode cX2_kindOf 8 = .ok (.if_icmp .ge 12, 3) := by decide +kernel
theorem dX2_kindOf_11 : decode cX2_kindOf 11 = .ok (.aload_n 0, 1) := by decide +kernel
theorem dX2_kindOf_12 : decode cX2_kindOf 12 = .ok (.getfield 11, 3) := by decide +kernel
theorem dX2_kindOf_15 : decode cX2_kindOf 15 = .ok (.iload_n 1, 1) := by decide +kernel
theorem dX2_kindOf_16 : decode cX2_kindOf 16 = .ok (.iaload, 1) := by decide +kernel
theorem dX2_kindOf_17 : decode cX2_kindOf 17 = .ok (.goto 4, 3) := by decide +kernel
theorem dX2_kindOf_20 : decode cX2_kindOf 20 = .ok (.iconst (-1), 1) := by decide +kernel
theorem dX2_kindOf_21 : decode cX2_kindOf 21 = .ok (.ireturn, 1) := by decide +kernel
theorem dX2_indexOf_0 : decode cX2_indexOf 0 = .ok (.iload_n 1, 1) := by decide +kernel
theorem dX2_indexOf_1 : decode cX2_indexOf 1 = .ok (.ifCond .lt 19, 3) := by decide +kernel
theorem dX2_indexOf_4 : decode cX2_indexOf 4 = .ok (.iload_n 1, 1) := by decide +kernel
theorem dX2_indexOf_5 : decode cX2_indexOf 5 = .ok (.sipush 3002, 3) := by decide +kernel
theorem dX2_indexOf_8 : decode cX2_indexOf 8 = .ok (.if_icmp .ge 12, 3) := by decide +kernel
theorem dX2_indexOf_11 : decode cX2_indexOf 11 = .ok (.aload_n 0, 1) := by decide +kernel
theorem dX2_indexOf_12 : decode cX2_indexOf 12 = .ok (.getfield 15, 3) := by decide +kernel
theorem dX2_indexOf_15 : decode cX2_indexOf 15 = .ok (.iload_n 1, 1) := by decide +kernel
theorem dX2_indexOf_16 : decode cX2_indexOf 16 = .ok (.iaload, 1) := by decide +kernel
theorem dX2_indexOf_17 : decode cX2_indexOf 17 = .ok (.goto 4, 3) := by decide +kernel
theorem dX2_indexOf_20 : decode cX2_indexOf 20 = .ok (.iconst (-1), 1) := by decide +kernel
theorem dX2_indexOf_21 : decode cX2_indexOf 21 = .ok (.ireturn, 1) := by decide +kernel
theorem dX2_across_0 : decode cX2_across 0 = .ok (.iload_n 1, 1) := by decide +kernel
theorem dX2_across_1 : decode cX2_across 1 = .ok (.ifCond .lt 21, 3) := by decide +kernel
theorem dX2_across_4 : decode cX2_across 4 = .ok (.iload_n 1, 1) := by decide +kernel
theorem dX2_across_5 : decode cX2_across 5 = .ok (.aload_n 0, 1) := by decide +kernel
theorem dX2_across_6 : decode cX2_across 6 = .ok (.getfield 18, 3) := by decide +kernel
theorem dX2_across_9 : decode cX2_across 9 = .ok (.arraylength, 1) := by decide +kernel
theorem dX2_across_10 : decode cX2_across 10 = .ok (.if_icmp .ge 12, 3) := by decide +kernel
theorem dX2_across_13 : decode cX2_across 13 = .ok (.aload_n 0, 1) := by decide +kernel
theorem dX2_across_14 : decode cX2_across 14 = .ok (.getfield 18, 3) := by decide +kernel
theorem dX2_across_17 : decode cX2_across 17 = .ok (.iload_n 1, 1) := by decide +kernel
theorem dX2_across_18 : decode cX2_across 18 = .ok (.iaload, 1) := by decide +kernel
theorem dX2_across_19 : decode cX2_across 19 = .ok (.goto 4, 3) := by decide +kernel
theorem dX2_across_22 : decode cX2_across 22 = .ok (.iconst (-1), 1) := by decide +kernel
theorem dX2_across_23 : decode cX2_across 23 = .ok (.ireturn, 1) := by decide +kernel
set_option maxRecDepth 20000 in
theorem ggX2_discard_X2_kindOf : GoodIn wsX2_discard wsX2_kindOf := goodIn_r _ [9, 3, 10, 11, 12, 13, 14, 15, 16, 17, 18, 19] (by decide +kernel) (by decide +kernel)
set_option maxRecDepth 20000 in
theorem gX2_discard_X2_kindOf : GoodIn wsX2_discard (wsV RX2 44 RX2 yX2_kindOf wsX2_kindOf) := goodIn_app (goodIn_of _ (by decide +kernel)) ggX2_discard_X2_kindOf
theorem dX2_discard_0 : decode cX2_discard 0 = .ok (.aload_n 0, 1) := by decide +kernel
theorem dX2_discard_1 : decode cX2_discard 1 = .ok (.iload_n 1, 1) := by decide +kernel
theorem dX2_discard_2 : decode cX2_discard 2 = .ok (.invokevirtual 44, 3) := by decide +kernel
theorem dX2_discard_5 : decode cX2_discard 5 = .ok (.istore_n 2, 1) := by decide +kernel
theorem dX2_discard_6 : decode cX2_discard 6 = .ok (.iload_n 2, 1) := by decide +kernel
theorem dX2_discard_7 : decode cX2_discard 7 = .ok (.ifCond .lt 19, 3) := by decide +kernel
theorem dX2_discard_10 : decode cX2_discard 10 = .ok (.iload_n 2, 1) := by decide +kernel
theorem dX2_discard_11 : decode cX2_discard 11 = .ok (.bipush 7, 2) := by decide +kernel
theorem dX2_discard_13 : decode cX2_discard 13 = .ok (.if_icmp .ge 13, 3) := by decide +kernel
theorem dX2_discard_16 : decode cX2_discard 16 = .ok (.aload_n 0, 1) := by decide +kernel
theorem dX2_discard_17 : decode cX2_discard 17 = .ok (.getfield 34, 3) := by decide +kernel
theorem dX2_discard_20 : decode cX2_discard 20 = .ok (.sipush 3002, 3) := by decide +kernel
theorem dX2_discard_23 : decode cX2_discard 23 = .ok (.if_icmp .lt 4, 3) := by decide +kernel
theorem dX2_discard_26 : decode cX2_discard 26 = .ok (.return_, 1) := by decide +kernel
theorem dX2_discard_27 : decode cX2_discard 27 = .ok (.aload_n 0, 1) := by decide +kernel
theorem dX2_discard_28 : decode cX2_discard 28 = .ok (.getfield 24, 3) := by decide +kernel
theorem dX2_discard_31 : decode cX2_discard 31 = .ok (.iload_n 2, 1) := by decide +kernel
theorem dX2_discard_32 : decode cX2_discard 32 = .ok (.dup2, 1) := by decide +kernel
theorem dX2_discard_33 : decode cX2_discard 33 = .ok (.iaload, 1) := by decide +kernel
theorem dX2_discard_34 : decode cX2_discard 34 = .ok (.iconst 1, 1) := by decide +kernel
theorem dX2_discard_35 : decode cX2_discard 35 = .ok (.isub, 1) := by decide +kernel
theorem dX2_discard_36 : decode cX2_discard 36 = .ok (.iastore, 1) := by decide +kernel
theorem dX2_discard_37 : decode cX2_discard 37 = .ok (.aload_n 0, 1) := by decide +kernel
theorem dX2_discard_38 : decode cX2_discard 38 = .ok (.getfield 11, 3) := by decide +kernel
theorem dX2_discard_41 : decode cX2_discard 41 = .ok (.iload_n 1, 1) := by decide +kernel
theorem dX2_discard_42 : decode cX2_discard 42 = .ok (.iconst (-1), 1) := by decide +kernel
theorem dX2_discard_43 : decode cX2_discard 43 = .ok (.iastore, 1) := by decide +kernel
theorem dX2_discard_44 : decode cX2_discard 44 = .ok (.aload_n 0, 1) := by decide +kernel
theorem dX2_discard_45 : decode cX2_discard 45 = .ok (.getfield 21, 3) := by decide +kernel
theorem dX2_discard_48 : decode cX2_discard 48 = .ok (.aload_n 0, 1) := by decide +kernel
theorem dX2_discard_49 : decode cX2_discard 49 = .ok (.getfield 34, 3) := by decide +kernel
theorem dX2_discard_52 : decode cX2_discard 52 = .ok (.iload_n 1, 1) := by decide +kernel
theorem dX2_discard_53 : decode cX2_discard 53 = .ok (.iastore, 1) := by decide +kernel
theorem dX2_discard_54 : decode cX2_discard 54 = .ok (.aload_n 0, 1) := by decide +kernel
theorem dX2_discard_55 : decode cX2_discard 55 = .ok (.dup, 1) := by decide +kernel
theorem dX2_discard_56 : decode cX2_discard 56 = .ok (.getfield 34, 3) := by decide +kernel
theorem dX2_discard_59 : decode cX2_discard 59 = .ok (.iconst 1, 1) := by decide +kernel
theorem dX2_discard_60 : decode cX2_discard 60 = .ok (.iadd, 1) := by decide +kernel
theorem dX2_discard_61 : decode cX2_discard 61 = .ok (.putfield 34, 3) := by decide +kernel
theorem dX2_discard_64 : decode cX2_discard 64 = .ok (.return_, 1) := by decide +kernel
set_option maxRecDepth 20000 in
theorem ggX2_replace_X2_across : GoodIn wsX2_replace wsX2_across := goodIn_r _ [5, 6, 22, 23, 24, 25, 26, 27, 28, 29, 30, 31] (by decide +kernel) (by decide +kernel)
set_option maxRecDepth 20000 in
theorem gX2_replace_X2_across : GoodIn wsX2_replace (wsV RX2 55 RX2 yX2_across wsX2_across) := goodIn_app (goodIn_of _ (by decide +kernel)) ggX2_replace_X2_across
set_option maxRecDepth 20000 in
theorem ggX2_replace_X2_link : GoodIn wsX2_replace wsX2_link := goodIn_r _ [10, 6, 11, 12, 13, 14, 15, 16, 4, 17, 18, 19, 20, 21, 22, 23, 24, 25, 26, 27, 28, 29, 30, 31] (by decide +kernel) (by decide +kernel)
set_option maxRecDepth 20000 in
theorem gX2_replace_X2_link : GoodIn wsX2_replace (wsV RX2 58 RX2 yX2_link wsX2_link) := goodIn_app (goodIn_of _ (by decide +kernel)) ggX2_replace_X2_link
theorem dX2_replace_0 : decode cX2_replace 0 = .ok (.aload_n 0, 1) := by decide +kernel
theorem dX2_replace_1 : decode cX2_replace 1 = .ok (.iload_n 2, 1) := by decide +kernel
theorem dX2_replace_2 : decode cX2_replace 2 = .ok (.aload_n 0, 1) := by decide +kernel
theorem dX2_replace_3 : decode cX2_replace 3 = .ok (.iload_n 1, 1) := by decide +kernel
theorem dX2_replace_4 : decode cX2_replace 4 = .ok (.invokevirtual 55, 3) := by decide +kernel
theorem dX2_replace_7 : decode cX2_replace 7 = .ok (.invokevirtual 58, 3) := by decide +kernel
theorem dX2_replace_10 : decode cX2_replace 10 = .ok (.return_, 1) := by decide +kernel
set_option maxRecDepth 20000 in
theorem ggX2_join_X2_across : GoodIn wsX2_join wsX2_across := goodIn_r _ [5, 6, 22, 23, 24, 25, 26, 27, 28, 29, 30, 31] (by decide +kernel) (by decide +kernel)
set_option maxRecDepth 20000 in
theorem gX2_join_X2_across : GoodIn wsX2_join (wsV RX2 55 RX2 yX2_across wsX2_across) := goodIn_app (goodIn_of _ (by decide +kernel)) ggX2_join_X2_across
set_option maxRecDepth 20000 in
theorem ggX2_join_X2_link : GoodIn wsX2_join wsX2_link := goodIn_r _ [10, 6, 11, 12, 13, 14, 15, 16, 4, 17, 18, 19, 20, 21, 22, 23, 24, 25, 26, 27, 28, 29, 30, 31] (by decide +kernel) (by decide +kernel)
set_option maxRecDepth 20000 in
theorem gX2_join_X2_link : GoodIn wsX2_join (wsV RX2 58 RX2 yX2_link wsX2_link) := goodIn_app (goodIn_of _ (by decide +kernel)) ggX2_join_X2_link
theorem dX2_join_0 : decode cX2_join 0 = .ok (.aload_n 0, 1) := by decide +kernel
theorem dX2_join_1 : decode cX2_join 1 = .ok (.aload_n 0, 1) := by decide +kernel
theorem dX2_join_2 : decode cX2_join 2 = .ok (.iload_n 1, 1) := by decide +kernel
theorem dX2_join_3 : decode cX2_join 3 = .ok (.invokevirtual 55, 3) := by decide +kernel
theorem dX2_join_6 : decode cX2_join 6 = .ok (.aload_n 0, 1) := by decide +kernel
theorem dX2_join_7 : decode cX2_join 7 = .ok (.iload_n 2, 1) := by decide +kernel
theorem dX2_join_8 : decode cX2_join 8 = .ok (.invokevirtual 55, 3) := by decide +kernel
theorem dX2_join_11 : decode cX2_join 11 = .ok (.invokevirtual 58, 3) := by decide +kernel
theorem dX2_join_14 : decode cX2_join 14 = .ok (.return_, 1) := by decide +kernel
theorem dX7_whichAt_0 : decode cX7_whichAt 0 = .ok (.iload_n 0, 1) := by decide +kernel
theorem dX7_whichAt_1 : decode cX7_whichAt 1 = .ok (.iconst 3, 1) := by decide +kernel
theorem dX7_whichAt_2 : decode cX7_whichAt 2 = .ok (.iand, 1) := by decide +kernel
theorem dX7_whichAt_3 : decode cX7_whichAt 3 = .ok (.ireturn, 1) := by decide +kernel
set_option maxRecDepth 20000 in
theorem ggX2_isErased_X2_across : GoodIn wsX2_isErased wsX2_across := goodIn_r _ [5, 6, 15, 16, 17, 18, 19, 20, 21, 22, 23, 24] (by decide +kernel) (by decide +kernel)
set_option maxRecDepth 20000 in
theorem gX2_isErased_X2_across : GoodIn wsX2_isErased (wsV RX2 55 RX2 yX2_across wsX2_across) := goodIn_app (goodIn_of _ (by decide +kernel)) ggX2_isErased_X2_across
set_option maxRecDepth 20000 in
theorem ggX2_isErased_X7_nodeAt : GoodIn wsX2_isErased wsX7_nodeAt := goodIn_r _ [9] (by decide +kernel) (by decide +kernel)
set_option maxRecDepth 20000 in
theorem gX2_isErased_X7_nodeAt_n48 : GoodIn wsX2_isErased (wsX7_nodeAt) := ggX2_isErased_X7_nodeAt
set_option maxRecDepth 20000 in
theorem ggX2_isErased_X2_kindOf : GoodIn wsX2_isErased wsX2_kindOf := goodIn_r _ [13, 14, 15, 16, 17, 18, 19, 20, 21, 22, 23, 24] (by decide +kernel) (by decide +kernel)
set_option maxRecDepth 20000 in
theorem gX2_isErased_X2_kindOf : GoodIn wsX2_isErased (wsV RX2 44 RX2 yX2_kindOf wsX2_kindOf) := goodIn_app (goodIn_of _ (by decide +kernel)) ggX2_isErased_X2_kindOf
theorem dX2_isErased_0 : decode cX2_isErased 0 = .ok (.aload_n 0, 1) := by decide +kernel
theorem dX2_isErased_1 : decode cX2_isErased 1 = .ok (.aload_n 0, 1) := by decide +kernel
theorem dX2_isErased_2 : decode cX2_isErased 2 = .ok (.iload_n 1, 1) := by decide +kernel
theorem dX2_isErased_3 : decode cX2_isErased 3 = .ok (.invokevirtual 55, 3) := by decide +kernel
theorem dX2_isErased_6 : decode cX2_isErased 6 = .ok (.invokestatic 48, 3) := by decide +kernel
theorem dX2_isErased_9 : decode cX2_isErased 9 = .ok (.invokevirtual 44, 3) := by decide +kernel
theorem dX2_isErased_12 : decode cX2_isErased 12 = .ok (.iconst 5, 1) := by decide +kernel
theorem dX2_isErased_13 : decode cX2_isErased 13 = .ok (.if_icmp .ne 7, 3) := by decide +kernel
theorem dX2_isErased_16 : decode cX2_isErased 16 = .ok (.iconst 1, 1) := by decide +kernel
theorem dX2_isErased_17 : decode cX2_isErased 17 = .ok (.goto 4, 3) := by decide +kernel
theorem dX2_isErased_20 : decode cX2_isErased 20 = .ok (.iconst 0, 1) := by decide +kernel
theorem dX2_isErased_21 : decode cX2_isErased 21 = .ok (.ireturn, 1) := by decide +kernel
set_option maxRecDepth 20000 in
theorem ggX2_yields_X2_kindOf : GoodIn wsX2_yields wsX2_kindOf := goodIn_r _ [5, 6, 21, 22, 23, 24, 25, 26, 27, 28, 29, 30] (by decide +kernel) (by decide +kernel)
set_option maxRecDepth 20000 in
theorem gX2_yields_X2_kindOf : GoodIn wsX2_yields (wsV RX2 44 RX2 yX2_kindOf wsX2_kindOf) := goodIn_app (goodIn_of _ (by decide +kernel)) ggX2_yields_X2_kindOf
set_option maxRecDepth 20000 in
theorem ggX2_yields_X7_portOf : GoodIn wsX2_yields wsX7_portOf := goodIn_r _ [9] (by decide +kernel) (by decide +kernel)
set_option maxRecDepth 20000 in
theorem gX2_yields_X7_portOf_n66 : GoodIn wsX2_yields (wsX7_portOf) := ggX2_yields_X7_portOf
set_option maxRecDepth 20000 in
theorem ggX2_yields_X2_isErased : GoodIn wsX2_yields wsX2_isErased := goodIn_r _ [13, 14, 15, 16, 4, 17, 18, 19, 8, 20, 1, 2, 3, 5, 6, 21, 22, 23, 24, 25, 26, 27, 28, 29, 30] (by decide +kernel) (by decide +kernel)
set_option maxRecDepth 20000 in
theorem gX2_yields_X2_isErased : GoodIn wsX2_yields (wsV RX2 83 RX2 yX2_isErased wsX2_isErased) := goodIn_app (goodIn_of _ (by decide +kernel)) ggX2_yields_X2_isErased
theorem dX2_yields_0 : decode cX2_yields 0 = .ok (.aload_n 0, 1) := by decide +kernel
theorem dX2_yields_1 : decode cX2_yields 1 = .ok (.iload_n 1, 1) := by decide +kernel
theorem dX2_yields_2 : decode cX2_yields 2 = .ok (.invokevirtual 44, 3) := by decide +kernel
theorem dX2_yields_5 : decode cX2_yields 5 = .ok (.istore_n 3, 1) := by decide +kernel
theorem dX2_yields_6 : decode cX2_yields 6 = .ok (.iload_n 3, 1) := by decide +kernel
theorem dX2_yields_7 : decode cX2_yields 7 = .ok (.iconst (-1), 1) := by decide +kernel
theorem dX2_yields_8 : decode cX2_yields 8 = .ok (.if_icmp .eq 9, 3) := by decide +kernel
theorem dX2_yields_11 : decode cX2_yields 11 = .ok (.iload_n 3, 1) := by decide +kernel
theorem dX2_yields_12 : decode cX2_yields 12 = .ok (.bipush 6, 2) := by decide +kernel
theorem dX2_yields_14 : decode cX2_yields 14 = .ok (.if_icmp .ne 5, 3) := by decide +kernel
theorem dX2_yields_17 : decode cX2_yields 17 = .ok (.iconst 0, 1) := by decide +kernel
theorem dX2_yields_18 : decode cX2_yields 18 = .ok (.ireturn, 1) := by decide +kernel
theorem dX2_yields_19 : decode cX2_yields 19 = .ok (.iload_n 2, 1) := by decide +kernel
theorem dX2_yields_20 : decode cX2_yields 20 = .ok (.ifCond .ne 5, 3) := by decide +kernel
theorem dX2_yields_23 : decode cX2_yields 23 = .ok (.iconst 1, 1) := by decide +kernel
theorem dX2_yields_24 : decode cX2_yields 24 = .ok (.ireturn, 1) := by decide +kernel
theorem dX2_yields_25 : decode cX2_yields 25 = .ok (.iload_n 3, 1) := by decide +kernel
theorem dX2_yields_26 : decode cX2_yields 26 = .ok (.iconst 2, 1) := by decide +kernel
theorem dX2_yields_27 : decode cX2_yields 27 = .ok (.if_icmp .ne 33, 3) := by decide +kernel
theorem dX2_yields_30 : decode cX2_yields 30 = .ok (.aload_n 0, 1) := by decide +kernel
theorem dX2_yields_31 : decode cX2_yields 31 = .ok (.iload_n 1, 1) := by decide +kernel
theorem dX2_yields_32 : decode cX2_yields 32 = .ok (.iconst 1, 1) := by decide +kernel
theorem dX2_yields_33 : decode cX2_yields 33 = .ok (.invokestatic 66, 3) := by decide +kernel
theorem dX2_yields_36 : decode cX2_yields 36 = .ok (.invokevirtual 83, 3) := by decide +kernel
theorem dX2_yields_39 : decode cX2_yields 39 = .ok (.ifCond .eq 19, 3) := by decide +kernel
theorem dX2_yields_42 : decode cX2_yields 42 = .ok (.aload_n 0, 1) := by decide +kernel
theorem dX2_yields_43 : decode cX2_yields 43 = .ok (.iload_n 1, 1) := by decide +kernel
theorem dX2_yields_44 : decode cX2_yields 44 = .ok (.iconst 2, 1) := by decide +kernel
theorem dX2_yields_45 : decode cX2_yields 45 = .ok (.invokestatic 66, 3) := by decide +kernel
theorem dX2_yields_48 : decode cX2_yields 48 = .ok (.invokevirtual 83, 3) := by decide +kernel
theorem dX2_yields_51 : decode cX2_yields 51 = .ok (.ifCond .eq 7, 3) := by decide +kernel
theorem dX2_yields_54 : decode cX2_yields 54 = .ok (.iconst 1, 1) := by decide +kernel
theorem dX2_yields_55 : decode cX2_yields 55 = .ok (.goto 4, 3) := by decide +kernel
theorem dX2_yields_58 : decode cX2_yields 58 = .ok (.iconst 0, 1) := by decide +kernel
theorem dX2_yields_59 : decode cX2_yields 59 = .ok (.ireturn, 1) := by decide +kernel
theorem dX2_yields_60 : decode cX2_yields 60 = .ok (.iload_n 2, 1) := by decide +kernel
theorem dX2_yields_61 : decode cX2_yields 61 = .ok (.iconst 1, 1) := by decide +kernel
theorem dX2_yields_62 : decode cX2_yields 62 = .ok (.if_icmp .ne 22, 3) := by decide +kernel
theorem dX2_yields_65 : decode cX2_yields 65 = .ok (.iload_n 3, 1) := by decide +kernel
theorem dX2_yields_66 : decode cX2_yields 66 = .ok (.iconst 3, 1) := by decide +kernel
theorem dX2_yields_67 : decode cX2_yields 67 = .ok (.if_icmp .eq 13, 3) := by decide +kernel
theorem dX2_yields_70 : decode cX2_yields 70 = .ok (.iload_n 3, 1) := by decide +kernel
theorem dX2_yields_71 : decode cX2_yields 71 = .ok (.iconst 4, 1) := by decide +kernel
theorem dX2_yields_72 : decode cX2_yields 72 = .ok (.if_icmp .eq 8, 3) := by decide +kernel
theorem dX2_yields_75 : decode cX2_yields 75 = .ok (.iload_n 3, 1) := by decide +kernel
theorem dX2_yields_76 : decode cX2_yields 76 = .ok (.iconst 1, 1) := by decide +kernel
theorem dX2_yields_77 : decode cX2_yields 77 = .ok (.if_icmp .ne 7, 3) := by decide +kernel
theorem dX2_yields_80 : decode cX2_yields 80 = .ok (.iconst 1, 1) := by decide +kernel
theorem dX2_yields_81 : decode cX2_yields 81 = .ok (.goto 4, 3) := by decide +kernel
theorem dX2_yields_84 : decode cX2_yields 84 = .ok (.iconst 0, 1) := by decide +kernel
theorem dX2_yields_85 : decode cX2_yields 85 = .ok (.ireturn, 1) := by decide +kernel
theorem dX7_otherPorts_0 : decode cX7_otherPorts 0 = .ok (.iload_n 0, 1) := by decide +kernel
theorem dX7_otherPorts_1 : decode cX7_otherPorts 1 = .ok (.tableswitch 39 0 4 #[35, 35, 35, 37, 37], 35) := by decide +kernel
theorem dX7_otherPorts_36 : decode cX7_otherPorts 36 = .ok (.iconst 2, 1) := by decide +kernel
theorem dX7_otherPorts_37 : decode cX7_otherPorts 37 = .ok (.ireturn, 1) := by decide +kernel
theorem dX7_otherPorts_38 : decode cX7_otherPorts 38 = .ok (.iconst 1, 1) := by decide +kernel
theorem dX7_otherPorts_39 : decode cX7_otherPorts 39 = .ok (.ireturn, 1) := by decide +kernel
theorem dX7_otherPorts_40 : decode cX7_otherPorts 40 = .ok (.iconst 0, 1) := by decide +kernel
theorem dX7_otherPorts_41 : decode cX7_otherPorts 41 = .ok (.ireturn, 1) := by decide +kernel
set_option maxRecDepth 20000 in
theorem ggX2_erase_X2_kindOf : GoodIn wsX2_erase wsX2_kindOf := goodIn_r _ [6, 7, 51, 52, 53, 54, 55, 56, 57, 58, 59, 60] (by decide +kernel) (by decide +kernel)
set_option maxRecDepth 20000 in
theorem gX2_erase_X2_kindOf : GoodIn wsX2_erase (wsV RX2 44 RX2 yX2_kindOf wsX2_kindOf) := goodIn_app (goodIn_of _ (by decide +kernel)) ggX2_erase_X2_kindOf
set_option maxRecDepth 20000 in
theorem ggX2_erase_X7_otherPorts : GoodIn wsX2_erase wsX7_otherPorts := goodIn_r _ [10] (by decide +kernel) (by decide +kernel)
set_option maxRecDepth 20000 in
theorem gX2_erase_X7_otherPorts_n87 : GoodIn wsX2_erase (wsX7_otherPorts) := ggX2_erase_X7_otherPorts
set_option maxRecDepth 20000 in
theorem ggX2_erase_X7_portOf : GoodIn wsX2_erase wsX7_portOf := goodIn_r _ [12] (by decide +kernel) (by decide +kernel)
set_option maxRecDepth 20000 in
theorem gX2_erase_X7_portOf_n66 : GoodIn wsX2_erase (wsX7_portOf) := ggX2_erase_X7_portOf
set_option maxRecDepth 20000 in
theorem ggX2_erase_X2_isErased : GoodIn wsX2_erase wsX2_isErased := goodIn_r _ [16, 17, 18, 19, 5, 20, 21, 22, 9, 23, 2, 3, 4, 6, 7, 51, 52, 53, 54, 55, 56, 57, 58, 59, 60] (by decide +kernel) (by decide +kernel)
set_option maxRecDepth 20000 in
theorem gX2_erase_X2_isErased : GoodIn wsX2_erase (wsV RX2 83 RX2 yX2_isErased wsX2_isErased) := goodIn_app (goodIn_of _ (by decide +kernel)) ggX2_erase_X2_isErased
set_option maxRecDepth 20000 in
theorem ggX2_erase_X2_across : GoodIn wsX2_erase wsX2_across := goodIn_r _ [20, 21, 51, 52, 53, 54, 55, 56, 57, 58, 59, 60] (by decide +kernel) (by decide +kernel)
set_option maxRecDepth 20000 in
theorem gX2_erase_X2_across : GoodIn wsX2_erase (wsV RX2 55 RX2 yX2_across wsX2_across) := goodIn_app (goodIn_of _ (by decide +kernel)) ggX2_erase_X2_across
set_option maxRecDepth 20000 in
theorem ggX2_erase_X7_nodeAt : GoodIn wsX2_erase wsX7_nodeAt := goodIn_r _ [23] (by decide +kernel) (by decide +kernel)
set_option maxRecDepth 20000 in
theorem gX2_erase_X7_nodeAt_n48 : GoodIn wsX2_erase (wsX7_nodeAt) := ggX2_erase_X7_nodeAt
set_option maxRecDepth 20000 in
theorem ggX2_erase_X2_discard : GoodIn wsX2_erase wsX2_discard := goodIn_r _ [27, 28, 29, 7, 30, 2, 3, 4, 5, 6, 51, 52, 53, 54, 55, 56, 57, 58, 59, 60] (by decide +kernel) (by decide +kernel)
set_option maxRecDepth 20000 in
theorem gX2_erase_X2_discard : GoodIn wsX2_erase (wsV RX2 70 RX2 yX2_discard wsX2_discard) := goodIn_app (goodIn_of _ (by decide +kernel)) ggX2_erase_X2_discard
set_option maxRecDepth 20000 in
theorem ggX2_erase_X2_make : GoodIn wsX2_erase wsX2_make := goodIn_r _ [34, 28, 30, 7, 35, 29, 51, 52, 53, 54, 55, 56, 57, 58, 59, 60] (by decide +kernel) (by decide +kernel)
set_option maxRecDepth 20000 in
theorem gX2_erase_X2_make : GoodIn wsX2_erase (wsV RX2 90 RX2 yX2_make wsX2_make) := goodIn_app (goodIn_of _ (by decide +kernel)) ggX2_erase_X2_make
set_option maxRecDepth 20000 in
theorem ggX2_erase_X2_replace : GoodIn wsX2_erase wsX2_replace := goodIn_r _ [39, 17, 18, 19, 5, 20, 21, 40, 41, 42, 43, 22, 9, 23, 44, 45, 46, 47, 48, 7, 49, 50, 51, 52, 53, 54, 55, 56, 57, 58, 59, 60] (by decide +kernel) (by decide +kernel)
set_option maxRecDepth 20000 in
theorem gX2_erase_X2_replace : GoodIn wsX2_erase (wsV RX2 93 RX2 yX2_replace wsX2_replace) := goodIn_app (goodIn_of _ (by decide +kernel)) ggX2_erase_X2_replace
theorem dX2_erase_0 : decode cX2_erase 0 = .ok (.aload_n 0, 1) := by decide +kernel
theorem dX2_erase_1 : decode cX2_erase 1 = .ok (.iload_n 1, 1) := by decide +kernel
theorem dX2_erase_2 : decode cX2_erase 2 = .ok (.invokevirtual 44, 3) := by decide +kernel
theorem dX2_erase_5 : decode cX2_erase 5 = .ok (.invokestatic 87, 3) := by decide +kernel
theorem dX2_erase_8 : decode cX2_erase 8 = .ok (.istore_n 2, 1) := by decide +kernel
theorem dX2_erase_9 : decode cX2_erase 9 = .ok (.iconst 0, 1) := by decide +kernel
theorem dX2_erase_10 : decode cX2_erase 10 = .ok (.istore_n 3, 1) := by decide +kernel
theorem dX2_erase_11 : decode cX2_erase 11 = .ok (.iload_n 3, 1) := by decide +kernel
theorem dX2_erase_12 : decode cX2_erase 12 = .ok (.iload_n 2, 1) := by decide +kernel
theorem dX2_erase_13 : decode cX2_erase 13 = .ok (.if_icmp .gt 57, 3) := by decide +kernel
theorem dX2_erase_16 : decode cX2_erase 16 = .ok (.iload_n 1, 1) := by decide +kernel
theorem dX2_erase_17 : decode cX2_erase 17 = .ok (.iload_n 3, 1) := by decide +kernel
theorem dX2_erase_18 : decode cX2_erase 18 = .ok (.invokestatic 66, 3) := by decide +kernel
theorem dX2_erase_21 : decode cX2_erase 21 = .ok (.istore 4, 2) := by decide +kernel
theorem dX2_erase_23 : decode cX2_erase 23 = .ok (.aload_n 0, 1) := by decide +kernel
theorem dX2_erase_24 : decode cX2_erase 24 = .ok (.iload 4, 2) := by decide +kernel
theorem dX2_erase_26 : decode cX2_erase 26 = .ok (.invokevirtual 83, 3) := by decide +kernel
theorem dX2_erase_29 : decode cX2_erase 29 = .ok (.ifCond .eq 19, 3) := by decide +kernel
theorem dX2_erase_32 : decode cX2_erase 32 = .ok (.aload_n 0, 1) := by decide +kernel
theorem dX2_erase_33 : decode cX2_erase 33 = .ok (.aload_n 0, 1) := by decide +kernel
theorem dX2_erase_34 : decode cX2_erase 34 = .ok (.iload 4, 2) := by decide +kernel
theorem dX2_erase_36 : decode cX2_erase 36 = .ok (.invokevirtual 55, 3) := by decide +kernel
theorem dX2_erase_39 : decode cX2_erase 39 = .ok (.invokestatic 48, 3) := by decide +kernel
theorem dX2_erase_42 : decode cX2_erase 42 = .ok (.invokevirtual 70, 3) := by decide +kernel
theorem dX2_erase_45 : decode cX2_erase 45 = .ok (.goto 19, 3) := by decide +kernel
theorem dX2_erase_48 : decode cX2_erase 48 = .ok (.aload_n 0, 1) := by decide +kernel
theorem dX2_erase_49 : decode cX2_erase 49 = .ok (.iload 4, 2) := by decide +kernel
theorem dX2_erase_51 : decode cX2_erase 51 = .ok (.aload_n 0, 1) := by decide +kernel
theorem dX2_erase_52 : decode cX2_erase 52 = .ok (.iconst 5, 1) := by decide +kernel
theorem dX2_erase_53 : decode cX2_erase 53 = .ok (.iconst (-1), 1) := by decide +kernel
theorem dX2_erase_54 : decode cX2_erase 54 = .ok (.invokevirtual 90, 3) := by decide +kernel
theorem dX2_erase_57 : decode cX2_erase 57 = .ok (.iconst 0, 1) := by decide +kernel
theorem dX2_erase_58 : decode cX2_erase 58 = .ok (.invokestatic 66, 3) := by decide +kernel
theorem dX2_erase_61 : decode cX2_erase 61 = .ok (.invokevirtual 93, 3) := by decide +kernel
theorem dX2_erase_64 : decode cX2_erase 64 = .ok (.iinc 3 1, 3) := by decide +kernel
theorem dX2_erase_67 : decode cX2_erase 67 = .ok (.goto (-56), 3) := by decide +kernel
theorem dX2_erase_70 : decode cX2_erase 70 = .ok (.aload_n 0, 1) := by decide +kernel
theorem dX2_erase_71 : decode cX2_erase 71 = .ok (.iload_n 1, 1) := by decide +kernel
theorem dX2_erase_72 : decode cX2_erase 72 = .ok (.invokevirtual 70, 3) := by decide +kernel
theorem dX2_erase_75 : decode cX2_erase 75 = .ok (.aload_n 0, 1) := by decide +kernel
theorem dX2_erase_76 : decode cX2_erase 76 = .ok (.dup, 1) := by decide +kernel
theorem dX2_erase_77 : decode cX2_erase 77 = .ok (.getfield 41, 3) := by decide +kernel
theorem dX2_erase_80 : decode cX2_erase 80 = .ok (.iconst 1, 1) := by decide +kernel
theorem dX2_erase_81 : decode cX2_erase 81 = .ok (.iadd, 1) := by decide +kernel
theorem dX2_erase_82 : decode cX2_erase 82 = .ok (.putfield 41, 3) := by decide +kernel
theorem dX2_erase_85 : decode cX2_erase 85 = .ok (.return_, 1) := by decide +kernel
set_option maxRecDepth 20000 in
theorem ggX2_calm_X7_portOf : GoodIn wsX2_calm wsX7_portOf := goodIn_r _ [5] (by decide +kernel) (by decide +kernel)
set_option maxRecDepth 20000 in
theorem gX2_calm_X7_portOf_n66 : GoodIn wsX2_calm (wsX7_portOf) := ggX2_calm_X7_portOf
set_option maxRecDepth 20000 in
theorem ggX2_calm_X2_across : GoodIn wsX2_calm wsX2_across := goodIn_r _ [10, 11, 61, 62, 63, 64, 65, 66, 67, 68, 69, 70] (by decide +kernel) (by decide +kernel)
set_option maxRecDepth 20000 in
theorem gX2_calm_X2_across : GoodIn wsX2_calm (wsV RX2 55 RX2 yX2_across wsX2_across) := goodIn_app (goodIn_of _ (by decide +kernel)) ggX2_calm_X2_across
set_option maxRecDepth 20000 in
theorem ggX2_calm_X7_nodeAt : GoodIn wsX2_calm wsX7_nodeAt := goodIn_r _ [13] (by decide +kernel) (by decide +kernel)
set_option maxRecDepth 20000 in
theorem gX2_calm_X7_nodeAt_n48 : GoodIn wsX2_calm (wsX7_nodeAt) := ggX2_calm_X7_nodeAt
set_option maxRecDepth 20000 in
theorem ggX2_calm_X2_kindOf : GoodIn wsX2_calm wsX2_kindOf := goodIn_r _ [17, 2, 61, 62, 63, 64, 65, 66, 67, 68, 69, 70] (by decide +kernel) (by decide +kernel)
set_option maxRecDepth 20000 in
theorem gX2_calm_X2_kindOf : GoodIn wsX2_calm (wsV RX2 44 RX2 yX2_kindOf wsX2_kindOf) := goodIn_app (goodIn_of _ (by decide +kernel)) ggX2_calm_X2_kindOf
set_option maxRecDepth 20000 in
theorem ggX2_calm_X2_discard : GoodIn wsX2_calm wsX2_discard := goodIn_r _ [21, 22, 23, 2, 24, 14, 15, 16, 9, 17, 61, 62, 63, 64, 65, 66, 67, 68, 69, 70] (by decide +kernel) (by decide +kernel)
set_option maxRecDepth 20000 in
theorem gX2_calm_X2_discard : GoodIn wsX2_calm (wsV RX2 70 RX2 yX2_discard wsX2_discard) := goodIn_app (goodIn_of _ (by decide +kernel)) ggX2_calm_X2_discard
set_option maxRecDepth 20000 in
theorem ggX2_calm_X7_whichAt : GoodIn wsX2_calm wsX7_whichAt := goodIn_r _ [26] (by decide +kernel) (by decide +kernel)
set_option maxRecDepth 20000 in
theorem gX2_calm_X7_whichAt_n73 : GoodIn wsX2_calm (wsX7_whichAt) := ggX2_calm_X7_whichAt
set_option maxRecDepth 20000 in
theorem ggX2_calm_X2_yields : GoodIn wsX2_calm wsX2_yields := goodIn_r _ [30, 14, 15, 16, 9, 17, 2, 3, 4, 5, 31, 32, 33, 34, 6, 7, 8, 10, 11, 12, 13, 61, 62, 63, 64, 65, 66, 67, 68, 69, 70] (by decide +kernel) (by decide +kernel)
set_option maxRecDepth 20000 in
theorem gX2_calm_X2_yields : GoodIn wsX2_calm (wsV RX2 76 RX2 yX2_yields wsX2_yields) := goodIn_app (goodIn_of _ (by decide +kernel)) ggX2_calm_X2_yields
set_option maxRecDepth 20000 in
theorem ggX2_calm_X2_erase : GoodIn wsX2_calm wsX2_erase := goodIn_r _ [38, 39, 14, 15, 16, 9, 17, 2, 40, 4, 41, 3, 5, 31, 32, 33, 34, 6, 7, 8, 10, 11, 12, 13, 18, 19, 20, 21, 22, 23, 24, 42, 43, 44, 45, 46, 47, 48, 49, 50, 51, 52, 53, 54, 55, 56, 57, 58, 59, 1, 60, 61, 62, 63, 64, 65, 66, 67, 68, 69, 70] (by decide +kernel) (by decide +kernel)
set_option maxRecDepth 20000 in
theorem gX2_calm_X2_erase : GoodIn wsX2_calm (wsV RX2 80 RX2 yX2_erase wsX2_erase) := goodIn_app (goodIn_of _ (by decide +kernel)) ggX2_calm_X2_erase
theorem dX2_calm_0 : decode cX2_calm 0 = .ok (.iload_n 1, 1) := by decide +kernel
theorem dX2_calm_1 : decode cX2_calm 1 = .ok (.ifCond .lt 10, 3) := by decide +kernel
theorem dX2_calm_4 : decode cX2_calm 4 = .ok (.iload_n 1, 1) := by decide +kernel
theorem dX2_calm_5 : decode cX2_calm 5 = .ok (.sipush 3002, 3) := by decide +kernel
theorem dX2_calm_8 : decode cX2_calm 8 = .ok (.if_icmp .lt 4, 3) := by decide +kernel
theorem dX2_calm_11 : decode cX2_calm 11 = .ok (.return_, 1) := by decide +kernel
theorem dX2_calm_12 : decode cX2_calm 12 = .ok (.aload_n 0, 1) := by decide +kernel
theorem dX2_calm_13 : decode cX2_calm 13 = .ok (.getfield 30, 3) := by decide +kernel
theorem dX2_calm_16 : decode cX2_calm 16 = .ok (.iload_n 1, 1) := by decide +kernel
theorem dX2_calm_17 : decode cX2_calm 17 = .ok (.iconst 0, 1) := by decide +kernel
theorem dX2_calm_18 : decode cX2_calm 18 = .ok (.bastore, 1) := by decide +kernel
theorem dX2_calm_19 : decode cX2_calm 19 = .ok (.aload_n 0, 1) := by decide +kernel
theorem dX2_calm_20 : decode cX2_calm 20 = .ok (.getfield 11, 3) := by decide +kernel
theorem dX2_calm_23 : decode cX2_calm 23 = .ok (.iload_n 1, 1) := by decide +kernel
theorem dX2_calm_24 : decode cX2_calm 24 = .ok (.iaload, 1) := by decide +kernel
theorem dX2_calm_25 : decode cX2_calm 25 = .ok (.iconst 5, 1) := by decide +kernel
theorem dX2_calm_26 : decode cX2_calm 26 = .ok (.if_icmp .eq 4, 3) := by decide +kernel
theorem dX2_calm_29 : decode cX2_calm 29 = .ok (.return_, 1) := by decide +kernel
theorem dX2_calm_30 : decode cX2_calm 30 = .ok (.aload_n 0, 1) := by decide +kernel
theorem dX2_calm_31 : decode cX2_calm 31 = .ok (.iload_n 1, 1) := by decide +kernel
theorem dX2_calm_32 : decode cX2_calm 32 = .ok (.iconst 0, 1) := by decide +kernel
theorem dX2_calm_33 : decode cX2_calm 33 = .ok (.invokestatic 66, 3) := by decide +kernel
theorem dX2_calm_36 : decode cX2_calm 36 = .ok (.invokevirtual 55, 3) := by decide +kernel
theorem dX2_calm_39 : decode cX2_calm 39 = .ok (.istore_n 2, 1) := by decide +kernel
theorem dX2_calm_40 : decode cX2_calm 40 = .ok (.iload_n 2, 1) := by decide +kernel
theorem dX2_calm_41 : decode cX2_calm 41 = .ok (.invokestatic 48, 3) := by decide +kernel
theorem dX2_calm_44 : decode cX2_calm 44 = .ok (.istore_n 3, 1) := by decide +kernel
theorem dX2_calm_45 : decode cX2_calm 45 = .ok (.aload_n 0, 1) := by decide +kernel
theorem dX2_calm_46 : decode cX2_calm 46 = .ok (.iload_n 3, 1) := by decide +kernel
theorem dX2_calm_47 : decode cX2_calm 47 = .ok (.invokevirtual 44, 3) := by decide +kernel
theorem dX2_calm_50 : decode cX2_calm 50 = .ok (.iconst 5, 1) := by decide +kernel
theorem dX2_calm_51 : decode cX2_calm 51 = .ok (.if_icmp .ne 16, 3) := by decide +kernel
theorem dX2_calm_54 : decode cX2_calm 54 = .ok (.aload_n 0, 1) := by decide +kernel
theorem dX2_calm_55 : decode cX2_calm 55 = .ok (.iload_n 1, 1) := by decide +kernel
theorem dX2_calm_56 : decode cX2_calm 56 = .ok (.invokevirtual 70, 3) := by decide +kernel
theorem dX2_calm_59 : decode cX2_calm 59 = .ok (.aload_n 0, 1) := by decide +kernel
theorem dX2_calm_60 : decode cX2_calm 60 = .ok (.iload_n 3, 1) := by decide +kernel
theorem dX2_calm_61 : decode cX2_calm 61 = .ok (.invokevirtual 70, 3) := by decide +kernel
theorem dX2_calm_64 : decode cX2_calm 64 = .ok (.goto 20, 3) := by decide +kernel
theorem dX2_calm_67 : decode cX2_calm 67 = .ok (.aload_n 0, 1) := by decide +kernel
theorem dX2_calm_68 : decode cX2_calm 68 = .ok (.iload_n 3, 1) := by decide +kernel
theorem dX2_calm_69 : decode cX2_calm 69 = .ok (.iload_n 2, 1) := by decide +kernel
theorem dX2_calm_70 : decode cX2_calm 70 = .ok (.invokestatic 73, 3) := by decide +kernel
theorem dX2_calm_73 : decode cX2_calm 73 = .ok (.invokevirtual 76, 3) := by decide +kernel
theorem dX2_calm_76 : decode cX2_calm 76 = .ok (.ifCond .eq 8, 3) := by decide +kernel
theorem dX2_calm_79 : decode cX2_calm 79 = .ok (.aload_n 0, 1) := by decide +kernel
theorem dX2_calm_80 : decode cX2_calm 80 = .ok (.iload_n 3, 1) := by decide +kernel
theorem dX2_calm_81 : decode cX2_calm 81 = .ok (.invokevirtual 80, 3) := by decide +kernel
theorem dX2_calm_84 : decode cX2_calm 84 = .ok (.return_, 1) := by decide +kernel
set_option maxRecDepth 20000 in
theorem ggX2_eraseAll_X2_calm : GoodIn wsX2_eraseAll wsX2_calm := goodIn_r _ [8, 9, 10, 11, 12, 13, 14, 15, 16, 7, 17, 18, 19, 20, 21, 22, 23, 24, 25, 26, 27, 28, 29, 30, 31, 32, 33, 34, 35, 36, 37, 38, 39, 40, 41, 42, 43, 44, 45, 46, 47, 48, 49, 50, 51, 52, 53, 54, 55, 56, 57, 58, 59, 60, 61, 62, 63, 64, 65, 2, 3, 66, 67, 68, 69, 70, 71, 72, 73, 74, 75] (by decide +kernel) (by decide +kernel)
set_option maxRecDepth 20000 in
theorem gX2_eraseAll_X2_calm : GoodIn wsX2_eraseAll (wsV RX2 63 RX2 yX2_calm wsX2_calm) := goodIn_app (goodIn_of _ (by decide +kernel)) ggX2_eraseAll_X2_calm
theorem dX2_eraseAll_0 : decode cX2_eraseAll 0 = .ok (.iconst 0, 1) := by decide +kernel
theorem dX2_eraseAll_1 : decode cX2_eraseAll 1 = .ok (.istore_n 1, 1) := by decide +kernel
theorem dX2_eraseAll_2 : decode cX2_eraseAll 2 = .ok (.iload_n 1, 1) := by decide +kernel
theorem dX2_eraseAll_3 : decode cX2_eraseAll 3 = .ok (.ldc 62, 2) := by decide +kernel
theorem dX2_eraseAll_5 : decode cX2_eraseAll 5 = .ok (.if_icmp .ge 49, 3) := by decide +kernel
theorem dX2_eraseAll_8 : decode cX2_eraseAll 8 = .ok (.aload_n 0, 1) := by decide +kernel
theorem dX2_eraseAll_9 : decode cX2_eraseAll 9 = .ok (.getfield 38, 3) := by decide +kernel
theorem dX2_eraseAll_12 : decode cX2_eraseAll 12 = .ok (.ifCond .le 42, 3) := by decide +kernel
theorem dX2_eraseAll_15 : decode cX2_eraseAll 15 = .ok (.aload_n 0, 1) := by decide +kernel
theorem dX2_eraseAll_16 : decode cX2_eraseAll 16 = .ok (.getfield 38, 3) := by decide +kernel
theorem dX2_eraseAll_19 : decode cX2_eraseAll 19 = .ok (.sipush 3002, 3) := by decide +kernel
theorem dX2_eraseAll_22 : decode cX2_eraseAll 22 = .ok (.if_icmp .gt 32, 3) := by decide +kernel
theorem dX2_eraseAll_25 : decode cX2_eraseAll 25 = .ok (.aload_n 0, 1) := by decide +kernel
theorem dX2_eraseAll_26 : decode cX2_eraseAll 26 = .ok (.dup, 1) := by decide +kernel
theorem dX2_eraseAll_27 : decode cX2_eraseAll 27 = .ok (.getfield 38, 3) := by decide +kernel
theorem dX2_eraseAll_30 : decode cX2_eraseAll 30 = .ok (.iconst 1, 1) := by decide +kernel
theorem dX2_eraseAll_31 : decode cX2_eraseAll 31 = .ok (.isub, 1) := by decide +kernel
theorem dX2_eraseAll_32 : decode cX2_eraseAll 32 = .ok (.putfield 38, 3) := by decide +kernel
theorem dX2_eraseAll_35 : decode cX2_eraseAll 35 = .ok (.aload_n 0, 1) := by decide +kernel
theorem dX2_eraseAll_36 : decode cX2_eraseAll 36 = .ok (.aload_n 0, 1) := by decide +kernel
theorem dX2_eraseAll_37 : decode cX2_eraseAll 37 = .ok (.getfield 27, 3) := by decide +kernel
theorem dX2_eraseAll_40 : decode cX2_eraseAll 40 = .ok (.aload_n 0, 1) := by decide +kernel
theorem dX2_eraseAll_41 : decode cX2_eraseAll 41 = .ok (.getfield 38, 3) := by decide +kernel
theorem dX2_eraseAll_44 : decode cX2_eraseAll 44 = .ok (.iaload, 1) := by decide +kernel
theorem dX2_eraseAll_45 : decode cX2_eraseAll 45 = .ok (.invokevirtual 63, 3) := by decide +kernel
theorem dX2_eraseAll_48 : decode cX2_eraseAll 48 = .ok (.iinc 1 1, 3) := by decide +kernel
theorem dX2_eraseAll_51 : decode cX2_eraseAll 51 = .ok (.goto (-49), 3) := by decide +kernel
theorem dX2_eraseAll_54 : decode cX2_eraseAll 54 = .ok (.return_, 1) := by decide +kernel
theorem dX7_isControl_0 : decode cX7_isControl 0 = .ok (.iload_n 0, 1) := by decide +kernel
theorem dX7_isControl_1 : decode cX7_isControl 1 = .ok (.iconst 2, 1) := by decide +kernel
theorem dX7_isControl_2 : decode cX7_isControl 2 = .ok (.if_icmp .eq 13, 3) := by decide +kernel
theorem dX7_isControl_5 : decode cX7_isControl 5 = .ok (.iload_n 0, 1) := by decide +kernel
theorem dX7_isControl_6 : decode cX7_isControl 6 = .ok (.iconst 3, 1) := by decide +kernel
theorem dX7_isControl_7 : decode cX7_isControl 7 = .ok (.if_icmp .eq 8, 3) := by decide +kernel
theorem dX7_isControl_10 : decode cX7_isControl 10 = .ok (.iload_n 0, 1) := by decide +kernel
theorem dX7_isControl_11 : decode cX7_isControl 11 = .ok (.iconst 4, 1) := by decide +kernel
theorem dX7_isControl_12 : decode cX7_isControl 12 = .ok (.if_icmp .ne 7, 3) := by decide +kernel
theorem dX7_isControl_15 : decode cX7_isControl 15 = .ok (.iconst 1, 1) := by decide +kernel
theorem dX7_isControl_16 : decode cX7_isControl 16 = .ok (.goto 4, 3) := by decide +kernel
theorem dX7_isControl_19 : decode cX7_isControl 19 = .ok (.iconst 0, 1) := by decide +kernel
theorem dX7_isControl_20 : decode cX7_isControl 20 = .ok (.ireturn, 1) := by decide +kernel
