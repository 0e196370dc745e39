noncomputable def wsX6_init_r1 : List Cond := [Cond.methodLink RX6 3 objectInit, Cond.instanceMethod objectInit, Cond.code objectInit ⟨#[0xb1]⟩ 1 none, Cond.classLink RX6 9 RX1, Cond.instantiable RX1 8, Cond.initialized RX1, Cond.fieldLink RX6 12 "SharedLambda$Walk" "context" "LSharedLambda$Context;", Cond.arrayClass .char, Cond.fieldLink RX6 18 "SharedLambda$Walk" "letters" "[C", Cond.arrayClass .int, Cond.fieldLink RX6 22 "SharedLambda$Walk" "leftBefore" "[I", Cond.fieldLink RX6 26 "SharedLambda$Walk" "stages" "[I", Cond.fieldLink RX6 29 "SharedLambda$Walk" "stageNodes" "[I", Cond.fieldLink RX6 32 "SharedLambda$Walk" "stageMarks" "[I", Cond.fieldLink RX6 35 "SharedLambda$Walk" "binders" "[I", Cond.fieldLink RX6 38 "SharedLambda$Walk" "binderStarts" "[I", Cond.fieldLink RX6 41 "SharedLambda$Walk" "binderLevels" "[I", Cond.fieldLink RX6 44 "SharedLambda$Walk" "graph" "LSharedLambda$Graph;", Cond.instanceMethod yX1_init, Cond.code yX1_init cX1_init 1 none, Cond.methodLink RX1 3 objectInit, Cond.classLink RX1 9 RX5, Cond.instantiable RX5 6, Cond.initialized RX5]
noncomputable def wsX6_init_r2 : List Cond := [Cond.fieldLink RX1 12 "SharedLambda$Context" "trees" "LSharedLambda$Trees;", Cond.fieldLink RX1 18 "SharedLambda$Context" "levels" "[I", Cond.fieldLink RX1 22 "SharedLambda$Context" "trailForms" "[I", Cond.fieldLink RX1 25 "SharedLambda$Context" "trailLevels" "[I", Cond.fieldLink RX1 28 "SharedLambda$Context" "trailTrees" "[I", Cond.fieldLink RX1 31 "SharedLambda$Context" "trailCounts" "[I", Cond.instanceMethod yX5_init, Cond.code yX5_init cX5_init 1 none, Cond.methodLink RX5 3 objectInit, Cond.fieldLink RX5 11 "SharedLambda$Trees" "forms" "[I", Cond.fieldLink RX5 15 "SharedLambda$Trees" "lefts" "[I", Cond.fieldLink RX5 18 "SharedLambda$Trees" "rights" "[I", Cond.fieldLink RX5 21 "SharedLambda$Trees" "olders" "[I", Cond.fieldLink RX5 24 "SharedLambda$Trees" "newest" "[I", Cond.fieldLink RX5 27 "SharedLambda$Trees" "count" "I"]
noncomputable def wsX6_init : List Cond := .code yX6_init cX6_init 2 none :: ((wsX6_init_r1 ++ wsX6_init_r2) ++ wsX10 ++ wsX60 ++ wsX50)
noncomputable def wsX6_begin_r1 : List Cond := [Cond.fieldLink RX6 12 "SharedLambda$Walk" "context" "LSharedLambda$Context;", Cond.fieldLink RX6 51 "SharedLambda$Walk" "told" "I", Cond.fieldLink RX6 55 "SharedLambda$Walk" "steps" "I", Cond.fieldLink RX6 58 "SharedLambda$Walk" "depth" "I", Cond.fieldLink RX6 61 "SharedLambda$Walk" "binderCount" "I", Cond.fieldLink RX6 64 "SharedLambda$Walk" "binderLevelCount" "I", Cond.fieldLink RX6 71 "SharedLambda$Walk" "leaving" "I", Cond.methodLink RX6 48 yX1_clear, Cond.instanceMethod yX1_clear, Cond.selects RX1 yX1_clear yX1_clear, Cond.initialized RX1, Cond.code yX1_clear cX1_clear 1 none, Cond.fieldLink RX1 34 "SharedLambda$Context" "depth" "I", Cond.fieldLink RX1 38 "SharedLambda$Context" "changes" "I", Cond.fieldLink RX1 12 "SharedLambda$Context" "trees" "LSharedLambda$Trees;", Cond.methodLink RX1 41 yX5_cut, Cond.instanceMethod yX5_cut, Cond.selects RX5 yX5_cut yX5_cut, Cond.initialized RX5, Cond.code yX5_cut cX5_cut 2 none, Cond.fieldLink RX5 27 "SharedLambda$Trees" "count" "I", Cond.fieldLink RX5 24 "SharedLambda$Trees" "newest" "[I", Cond.fieldLink RX5 11 "SharedLambda$Trees" "forms" "[I", Cond.fieldLink RX5 15 "SharedLambda$Trees" "lefts" "[I"]
noncomputable def wsX6_begin_r2 : List Cond := [Cond.fieldLink RX5 18 "SharedLambda$Trees" "rights" "[I", Cond.fieldLink RX5 21 "SharedLambda$Trees" "olders" "[I", Cond.methodLink RX5 31 yX5_bucketOf, Cond.static yX5_bucketOf, Cond.code yX5_bucketOf cX5_bucketOf 3 (some .int), Cond.static yX7_portOf, Cond.initialized RX7, Cond.code yX7_portOf cX7_portOf 2 (some .int)]
noncomputable def wsX6_begin : List Cond := .code yX6_begin cX6_begin 1 none :: ((wsX6_begin_r1 ++ wsX6_begin_r2) ++ wsX60 ++ wsX10 ++ wsX50)
noncomputable def wsX6_told : List Cond := .code yX6_told cX6_told 1 (some .int) :: ([.fieldLink RX6 51 "SharedLambda$Walk" "told" "I"] ++ wsX60)
noncomputable def wsX6_letterAt : List Cond := .code yX6_letterAt cX6_letterAt 2 (some .int) :: ([.fieldLink RX6 51 "SharedLambda$Walk" "told" "I", .fieldLink RX6 18 "SharedLambda$Walk" "letters" "[C"] ++ wsX60)
noncomputable def wsX6_nodeLeft : List Cond := .code yX6_nodeLeft cX6_nodeLeft 1 (some .int) :: ([.fieldLink RX6 71 "SharedLambda$Walk" "leaving" "I", .static yX7_nodeAt, .initialized RX7, .code yX7_nodeAt cX7_nodeAt 1 (some .int)] ++ wsX60)
noncomputable def wsX6_nodeAhead : List Cond := .code yX6_nodeAhead cX6_nodeAhead 1 (some .int) :: ([.fieldLink RX6 44 "SharedLambda$Walk" "graph" "LSharedLambda$Graph;", .fieldLink RX6 71 "SharedLambda$Walk" "leaving" "I", .methodLink RX6 78 yX2_across, .instanceMethod yX2_across, .selects RX2 yX2_across yX2_across, .initialized RX2, .code yX2_across cX2_across 2 (some .int), .fieldLink RX2 18 "SharedLambda$Graph" "wires" "[I", .static yX7_nodeAt, .initialized RX7, .code yX7_nodeAt cX7_nodeAt 1 (some .int)] ++ wsX60 ++ wsX20)
noncomputable def wsX6_isMeeting : List Cond := .code yX6_isMeeting cX6_isMeeting 2 (some .boolean) :: ([.fieldLink RX6 71 "SharedLambda$Walk" "leaving" "I", .fieldLink RX6 44 "SharedLambda$Walk" "graph" "LSharedLambda$Graph;", .static yX7_whichAt, .initialized RX7, .code yX7_whichAt cX7_whichAt 1 (some .int), .static yX7_nodeAt, .code yX7_nodeAt cX7_nodeAt 1 (some .int), .methodLink RX6 97 yX2_kindOf, .instanceMethod yX2_kindOf, .selects RX2 yX2_kindOf yX2_kindOf, .initialized RX2, .code yX2_kindOf cX2_kindOf 2 (some .int), .fieldLink RX2 11 "SharedLambda$Graph" "kinds" "[I"] ++ wsX60 ++ wsX20)
noncomputable def wsX6_tell : List Cond := .code yX6_tell cX6_tell 2 (some .boolean) :: ([.fieldLink RX6 51 "SharedLambda$Walk" "told" "I", .fieldLink RX6 18 "SharedLambda$Walk" "letters" "[C"] ++ wsX60)
noncomputable def wsX6_growLevels : List Cond := .code yX6_growLevels cX6_growLevels 4 none :: ([.fieldLink RX6 41 "SharedLambda$Walk" "binderLevels" "[I", .constant RX6 180 (252000), .arrayClass .int] ++ wsX60)
noncomputable def wsX6_keepLevels : List Cond := .code yX6_keepLevels cX6_keepLevels 3 none :: ([.fieldLink RX6 64 "SharedLambda$Walk" "binderLevelCount" "I", .fieldLink RX6 41 "SharedLambda$Walk" "binderLevels" "[I", .fieldLink RX6 12 "SharedLambda$Walk" "context" "LSharedLambda$Context;", .methodLink RX6 174 yX6_growLevels, .instanceMethod yX6_growLevels, .selects RX6 yX6_growLevels yX6_growLevels, .initialized RX6, .code yX6_growLevels cX6_growLevels 4 none, .constant RX6 180 (252000), .arrayClass .int, .methodLink RX6 177 yX1_level, .instanceMethod yX1_level, .selects RX1 yX1_level yX1_level, .initialized RX1, .code yX1_level cX1_level 2 (some .int), .fieldLink RX1 34 "SharedLambda$Context" "depth" "I", .fieldLink RX1 18 "SharedLambda$Context" "levels" "[I"] ++ wsX60 ++ wsX10)
noncomputable def wsX6_push : List Cond := .code yX6_push cX6_push 3 none :: ([.fieldLink RX6 58 "SharedLambda$Walk" "depth" "I", .fieldLink RX6 26 "SharedLambda$Walk" "stages" "[I", .fieldLink RX6 29 "SharedLambda$Walk" "stageNodes" "[I", .fieldLink RX6 32 "SharedLambda$Walk" "stageMarks" "[I", .fieldLink RX6 12 "SharedLambda$Walk" "context" "LSharedLambda$Context;", .methodLink RX6 171 yX1_changes, .instanceMethod yX1_changes, .selects RX1 yX1_changes yX1_changes, .initialized RX1, .code yX1_changes cX1_changes 1 (some .int), .fieldLink RX1 38 "SharedLambda$Context" "changes" "I"] ++ wsX60 ++ wsX10)
noncomputable def wsX6_leaveBy : List Cond := .code yX6_leaveBy cX6_leaveBy 3 (some .int) :: ([.fieldLink RX6 71 "SharedLambda$Walk" "leaving" "I", .static yX7_portOf, .initialized RX7, .code yX7_portOf cX7_portOf 2 (some .int)] ++ wsX60)
noncomputable def wsX6_readAbstraction_r1 : List Cond := [Cond.fieldLink RX6 61 "SharedLambda$Walk" "binderCount" "I", Cond.fieldLink RX6 35 "SharedLambda$Walk" "binders" "[I", Cond.fieldLink RX6 38 "SharedLambda$Walk" "binderStarts" "[I", Cond.fieldLink RX6 64 "SharedLambda$Walk" "binderLevelCount" "I", Cond.fieldLink RX6 44 "SharedLambda$Walk" "graph" "LSharedLambda$Graph;", Cond.methodLink RX6 148 yX6_tell, Cond.instanceMethod yX6_tell, Cond.selects RX6 yX6_tell yX6_tell, Cond.initialized RX6, Cond.code yX6_tell cX6_tell 2 (some .boolean), Cond.fieldLink RX6 51 "SharedLambda$Walk" "told" "I", Cond.fieldLink RX6 18 "SharedLambda$Walk" "letters" "[C", Cond.methodLink RX6 103 yX2_indexOf, Cond.instanceMethod yX2_indexOf, Cond.selects RX2 yX2_indexOf yX2_indexOf, Cond.initialized RX2, Cond.code yX2_indexOf cX2_indexOf 2 (some .int), Cond.fieldLink RX2 15 "SharedLambda$Graph" "indexes" "[I", Cond.methodLink RX6 152 yX6_keepLevels, Cond.instanceMethod yX6_keepLevels, Cond.selects RX6 yX6_keepLevels yX6_keepLevels, Cond.code yX6_keepLevels cX6_keepLevels 3 none, Cond.fieldLink RX6 41 "SharedLambda$Walk" "binderLevels" "[I", Cond.fieldLink RX6 12 "SharedLambda$Walk" "context" "LSharedLambda$Context;"]
noncomputable def wsX6_readAbstraction_r2 : List Cond := [Cond.methodLink RX6 174 yX6_growLevels, Cond.instanceMethod yX6_growLevels, Cond.selects RX6 yX6_growLevels yX6_growLevels, Cond.code yX6_growLevels cX6_growLevels 4 none, Cond.constant RX6 180 (252000), Cond.arrayClass .int, Cond.methodLink RX6 177 yX1_level, Cond.instanceMethod yX1_level, Cond.selects RX1 yX1_level yX1_level, Cond.initialized RX1, Cond.code yX1_level cX1_level 2 (some .int), Cond.fieldLink RX1 34 "SharedLambda$Context" "depth" "I", Cond.fieldLink RX1 18 "SharedLambda$Context" "levels" "[I", Cond.methodLink RX6 155 yX6_push, Cond.instanceMethod yX6_push, Cond.selects RX6 yX6_push yX6_push, Cond.code yX6_push cX6_push 3 none, Cond.fieldLink RX6 58 "SharedLambda$Walk" "depth" "I", Cond.fieldLink RX6 26 "SharedLambda$Walk" "stages" "[I", Cond.fieldLink RX6 29 "SharedLambda$Walk" "stageNodes" "[I", Cond.fieldLink RX6 32 "SharedLambda$Walk" "stageMarks" "[I", Cond.methodLink RX6 171 yX1_changes, Cond.instanceMethod yX1_changes, Cond.selects RX1 yX1_changes yX1_changes]
noncomputable def wsX6_readAbstraction_r3 : List Cond := [Cond.code yX1_changes cX1_changes 1 (some .int), Cond.fieldLink RX1 38 "SharedLambda$Context" "changes" "I", Cond.methodLink RX6 119 yX6_leaveBy, Cond.instanceMethod yX6_leaveBy, Cond.selects RX6 yX6_leaveBy yX6_leaveBy, Cond.code yX6_leaveBy cX6_leaveBy 3 (some .int), Cond.fieldLink RX6 71 "SharedLambda$Walk" "leaving" "I", Cond.static yX7_portOf, Cond.initialized RX7, Cond.code yX7_portOf cX7_portOf 2 (some .int)]
noncomputable def wsX6_readAbstraction : List Cond := .code yX6_readAbstraction cX6_readAbstraction 2 (some .int) :: ((wsX6_readAbstraction_r1 ++ (wsX6_readAbstraction_r2 ++ wsX6_readAbstraction_r3)) ++ wsX60 ++ wsX20 ++ wsX10)
noncomputable def wsX6_hasLevels : List Cond := .code yX6_hasLevels cX6_hasLevels 4 (some .boolean) :: ([.fieldLink RX6 41 "SharedLambda$Walk" "binderLevels" "[I", .fieldLink RX6 12 "SharedLambda$Walk" "context" "LSharedLambda$Context;", .methodLink RX6 177 yX1_level, .instanceMethod yX1_level, .selects RX1 yX1_level yX1_level, .initialized RX1, .code yX1_level cX1_level 2 (some .int), .fieldLink RX1 34 "SharedLambda$Context" "depth" "I", .fieldLink RX1 18 "SharedLambda$Context" "levels" "[I"] ++ wsX60 ++ wsX10)
noncomputable def wsX6_tellNumber : List Cond := .code yX6_tellNumber cX6_tellNumber 5 (some .boolean) :: ([.methodLink RX6 148 yX6_tell, .instanceMethod yX6_tell, .selects RX6 yX6_tell yX6_tell, .initialized RX6, .code yX6_tell cX6_tell 2 (some .boolean), .fieldLink RX6 51 "SharedLambda$Walk" "told" "I", .fieldLink RX6 18 "SharedLambda$Walk" "letters" "[C"] ++ wsX60)
noncomputable def wsX6_readVariable_r1 : List Cond := [Cond.fieldLink RX6 44 "SharedLambda$Walk" "graph" "LSharedLambda$Graph;", Cond.fieldLink RX6 61 "SharedLambda$Walk" "binderCount" "I", Cond.fieldLink RX6 35 "SharedLambda$Walk" "binders" "[I", Cond.fieldLink RX6 38 "SharedLambda$Walk" "binderStarts" "[I", Cond.methodLink RX6 103 yX2_indexOf, Cond.instanceMethod yX2_indexOf, Cond.selects RX2 yX2_indexOf yX2_indexOf, Cond.initialized RX2, Cond.code yX2_indexOf cX2_indexOf 2 (some .int), Cond.fieldLink RX2 15 "SharedLambda$Graph" "indexes" "[I", Cond.methodLink RX6 158 yX6_hasLevels, Cond.instanceMethod yX6_hasLevels, Cond.selects RX6 yX6_hasLevels yX6_hasLevels, Cond.initialized RX6, Cond.code yX6_hasLevels cX6_hasLevels 4 (some .boolean), Cond.fieldLink RX6 41 "SharedLambda$Walk" "binderLevels" "[I", Cond.fieldLink RX6 12 "SharedLambda$Walk" "context" "LSharedLambda$Context;", Cond.methodLink RX6 177 yX1_level, Cond.instanceMethod yX1_level, Cond.selects RX1 yX1_level yX1_level, Cond.initialized RX1, Cond.code yX1_level cX1_level 2 (some .int), Cond.fieldLink RX1 34 "SharedLambda$Context" "depth" "I", Cond.fieldLink RX1 18 "SharedLambda$Context" "levels" "[I"]
noncomputable def wsX6_readVariable_r2 : List Cond := [Cond.methodLink RX6 162 yX6_tellNumber, Cond.instanceMethod yX6_tellNumber, Cond.selects RX6 yX6_tellNumber yX6_tellNumber, Cond.code yX6_tellNumber cX6_tellNumber 5 (some .boolean), Cond.methodLink RX6 148 yX6_tell, Cond.instanceMethod yX6_tell, Cond.selects RX6 yX6_tell yX6_tell, Cond.code yX6_tell cX6_tell 2 (some .boolean), Cond.fieldLink RX6 51 "SharedLambda$Walk" "told" "I", Cond.fieldLink RX6 18 "SharedLambda$Walk" "letters" "[C"]
noncomputable def wsX6_readVariable : List Cond := .code yX6_readVariable cX6_readVariable 4 (some .int) :: ((wsX6_readVariable_r1 ++ wsX6_readVariable_r2) ++ wsX60 ++ wsX20 ++ wsX10)
noncomputable def wsX6_atLambda_r1 : List Cond := [Cond.methodLink RX6 142 yX6_readAbstraction, Cond.instanceMethod yX6_readAbstraction, Cond.selects RX6 yX6_readAbstraction yX6_readAbstraction, Cond.initialized RX6, Cond.code yX6_readAbstraction cX6_readAbstraction 2 (some .int), Cond.fieldLink RX6 61 "SharedLambda$Walk" "binderCount" "I", Cond.fieldLink RX6 35 "SharedLambda$Walk" "binders" "[I", Cond.fieldLink RX6 38 "SharedLambda$Walk" "binderStarts" "[I", Cond.fieldLink RX6 64 "SharedLambda$Walk" "binderLevelCount" "I", Cond.fieldLink RX6 44 "SharedLambda$Walk" "graph" "LSharedLambda$Graph;", Cond.methodLink RX6 148 yX6_tell, Cond.instanceMethod yX6_tell, Cond.selects RX6 yX6_tell yX6_tell, Cond.code yX6_tell cX6_tell 2 (some .boolean), Cond.fieldLink RX6 51 "SharedLambda$Walk" "told" "I", Cond.fieldLink RX6 18 "SharedLambda$Walk" "letters" "[C", Cond.methodLink RX6 103 yX2_indexOf, Cond.instanceMethod yX2_indexOf, Cond.selects RX2 yX2_indexOf yX2_indexOf, Cond.initialized RX2, Cond.code yX2_indexOf cX2_indexOf 2 (some .int), Cond.fieldLink RX2 15 "SharedLambda$Graph" "indexes" "[I", Cond.methodLink RX6 152 yX6_keepLevels, Cond.instanceMethod yX6_keepLevels]
noncomputable def wsX6_atLambda_r2 : List Cond := [Cond.selects RX6 yX6_keepLevels yX6_keepLevels, Cond.code yX6_keepLevels cX6_keepLevels 3 none, Cond.fieldLink RX6 41 "SharedLambda$Walk" "binderLevels" "[I", Cond.fieldLink RX6 12 "SharedLambda$Walk" "context" "LSharedLambda$Context;", Cond.methodLink RX6 174 yX6_growLevels, Cond.instanceMethod yX6_growLevels, Cond.selects RX6 yX6_growLevels yX6_growLevels, Cond.code yX6_growLevels cX6_growLevels 4 none, Cond.constant RX6 180 (252000), Cond.arrayClass .int, Cond.methodLink RX6 177 yX1_level, Cond.instanceMethod yX1_level, Cond.selects RX1 yX1_level yX1_level, Cond.initialized RX1, Cond.code yX1_level cX1_level 2 (some .int), Cond.fieldLink RX1 34 "SharedLambda$Context" "depth" "I", Cond.fieldLink RX1 18 "SharedLambda$Context" "levels" "[I", Cond.methodLink RX6 155 yX6_push, Cond.instanceMethod yX6_push, Cond.selects RX6 yX6_push yX6_push, Cond.code yX6_push cX6_push 3 none, Cond.fieldLink RX6 58 "SharedLambda$Walk" "depth" "I", Cond.fieldLink RX6 26 "SharedLambda$Walk" "stages" "[I", Cond.fieldLink RX6 29 "SharedLambda$Walk" "stageNodes" "[I"]
noncomputable def wsX6_atLambda_r3 : List Cond := [Cond.fieldLink RX6 32 "SharedLambda$Walk" "stageMarks" "[I", Cond.methodLink RX6 171 yX1_changes, Cond.instanceMethod yX1_changes, Cond.selects RX1 yX1_changes yX1_changes, Cond.code yX1_changes cX1_changes 1 (some .int), Cond.fieldLink RX1 38 "SharedLambda$Context" "changes" "I", Cond.methodLink RX6 119 yX6_leaveBy, Cond.instanceMethod yX6_leaveBy, Cond.selects RX6 yX6_leaveBy yX6_leaveBy, Cond.code yX6_leaveBy cX6_leaveBy 3 (some .int), Cond.fieldLink RX6 71 "SharedLambda$Walk" "leaving" "I", Cond.static yX7_portOf, Cond.initialized RX7, Cond.code yX7_portOf cX7_portOf 2 (some .int), Cond.methodLink RX6 145 yX6_readVariable, Cond.instanceMethod yX6_readVariable, Cond.selects RX6 yX6_readVariable yX6_readVariable, Cond.code yX6_readVariable cX6_readVariable 4 (some .int), Cond.methodLink RX6 158 yX6_hasLevels, Cond.instanceMethod yX6_hasLevels, Cond.selects RX6 yX6_hasLevels yX6_hasLevels, Cond.code yX6_hasLevels cX6_hasLevels 4 (some .boolean), Cond.methodLink RX6 162 yX6_tellNumber, Cond.instanceMethod yX6_tellNumber]
noncomputable def wsX6_atLambda_r4 : List Cond := [Cond.selects RX6 yX6_tellNumber yX6_tellNumber, Cond.code yX6_tellNumber cX6_tellNumber 5 (some .boolean)]
noncomputable def wsX6_atLambda : List Cond := .code yX6_atLambda cX6_atLambda 3 (some .int) :: ((wsX6_atLambda_r1 ++ (wsX6_atLambda_r2 ++ (wsX6_atLambda_r3 ++ wsX6_atLambda_r4))) ++ wsX60 ++ wsX20 ++ wsX10)
noncomputable def wsX6_readApplication_r1 : List Cond := [Cond.methodLink RX6 148 yX6_tell, Cond.instanceMethod yX6_tell, Cond.selects RX6 yX6_tell yX6_tell, Cond.initialized RX6, Cond.code yX6_tell cX6_tell 2 (some .boolean), Cond.fieldLink RX6 51 "SharedLambda$Walk" "told" "I", Cond.fieldLink RX6 18 "SharedLambda$Walk" "letters" "[C", Cond.methodLink RX6 155 yX6_push, Cond.instanceMethod yX6_push, Cond.selects RX6 yX6_push yX6_push, Cond.code yX6_push cX6_push 3 none, Cond.fieldLink RX6 58 "SharedLambda$Walk" "depth" "I", Cond.fieldLink RX6 26 "SharedLambda$Walk" "stages" "[I", Cond.fieldLink RX6 29 "SharedLambda$Walk" "stageNodes" "[I", Cond.fieldLink RX6 32 "SharedLambda$Walk" "stageMarks" "[I", Cond.fieldLink RX6 12 "SharedLambda$Walk" "context" "LSharedLambda$Context;", Cond.methodLink RX6 171 yX1_changes, Cond.instanceMethod yX1_changes, Cond.selects RX1 yX1_changes yX1_changes, Cond.initialized RX1, Cond.code yX1_changes cX1_changes 1 (some .int), Cond.fieldLink RX1 38 "SharedLambda$Context" "changes" "I", Cond.methodLink RX6 119 yX6_leaveBy, Cond.instanceMethod yX6_leaveBy]
noncomputable def wsX6_readApplication_r2 : List Cond := [Cond.selects RX6 yX6_leaveBy yX6_leaveBy, Cond.code yX6_leaveBy cX6_leaveBy 3 (some .int), Cond.fieldLink RX6 71 "SharedLambda$Walk" "leaving" "I", Cond.static yX7_portOf, Cond.initialized RX7, Cond.code yX7_portOf cX7_portOf 2 (some .int)]
noncomputable def wsX6_readApplication : List Cond := .code yX6_readApplication cX6_readApplication 2 (some .int) :: ((wsX6_readApplication_r1 ++ wsX6_readApplication_r2) ++ wsX60 ++ wsX10)
noncomputable def wsX6_atBracket_r1 : List Cond := [Cond.fieldLink RX6 12 "SharedLambda$Walk" "context" "LSharedLambda$Context;", Cond.methodLink RX6 129 yX1_split, Cond.instanceMethod yX1_split, Cond.selects RX1 yX1_split yX1_split, Cond.initialized RX1, Cond.code yX1_split cX1_split 3 (some .boolean), Cond.fieldLink RX1 12 "SharedLambda$Context" "trees" "LSharedLambda$Trees;", Cond.methodLink RX1 55 yX1_level, Cond.instanceMethod yX1_level, Cond.selects RX1 yX1_level yX1_level, Cond.code yX1_level cX1_level 2 (some .int), Cond.fieldLink RX1 34 "SharedLambda$Context" "depth" "I", Cond.fieldLink RX1 18 "SharedLambda$Context" "levels" "[I", Cond.methodLink RX1 66 yX5_form, Cond.instanceMethod yX5_form, Cond.selects RX5 yX5_form yX5_form, Cond.initialized RX5, Cond.code yX5_form cX5_form 2 (some .int), Cond.fieldLink RX5 27 "SharedLambda$Trees" "count" "I", Cond.fieldLink RX5 11 "SharedLambda$Trees" "forms" "[I", Cond.methodLink RX1 45 yX1_note, Cond.instanceMethod yX1_note, Cond.selects RX1 yX1_note yX1_note, Cond.code yX1_note cX1_note 3 none]
noncomputable def wsX6_atBracket_r2 : List Cond := [Cond.fieldLink RX1 38 "SharedLambda$Context" "changes" "I", Cond.fieldLink RX1 22 "SharedLambda$Context" "trailForms" "[I", Cond.fieldLink RX1 25 "SharedLambda$Context" "trailLevels" "[I", Cond.fieldLink RX1 28 "SharedLambda$Context" "trailTrees" "[I", Cond.fieldLink RX1 31 "SharedLambda$Context" "trailCounts" "[I", Cond.methodLink RX1 78 yX5_size, Cond.instanceMethod yX5_size, Cond.selects RX5 yX5_size yX5_size, Cond.code yX5_size cX5_size 1 (some .int), Cond.methodLink RX1 69 yX5_left, Cond.instanceMethod yX5_left, Cond.selects RX5 yX5_left yX5_left, Cond.code yX5_left cX5_left 2 (some .int), Cond.fieldLink RX5 15 "SharedLambda$Trees" "lefts" "[I", Cond.methodLink RX1 63 yX1_set, Cond.instanceMethod yX1_set, Cond.selects RX1 yX1_set yX1_set, Cond.code yX1_set cX1_set 3 none, Cond.methodLink RX1 72 yX5_right, Cond.instanceMethod yX5_right, Cond.selects RX5 yX5_right yX5_right, Cond.code yX5_right cX5_right 2 (some .int), Cond.fieldLink RX5 18 "SharedLambda$Trees" "rights" "[I", Cond.methodLink RX1 49 yX1_insert]
noncomputable def wsX6_atBracket_r3 : List Cond := [Cond.instanceMethod yX1_insert, Cond.selects RX1 yX1_insert yX1_insert, Cond.code yX1_insert cX1_insert 3 none, Cond.methodLink RX1 82 arraycopyName, Cond.native arraycopyName, Cond.static arraycopyName, Cond.initialized "java/lang/System", Cond.methodLink RX6 119 yX6_leaveBy, Cond.instanceMethod yX6_leaveBy, Cond.selects RX6 yX6_leaveBy yX6_leaveBy, Cond.initialized RX6, Cond.code yX6_leaveBy cX6_leaveBy 3 (some .int), Cond.fieldLink RX6 71 "SharedLambda$Walk" "leaving" "I", Cond.static yX7_portOf, Cond.initialized RX7, Cond.code yX7_portOf cX7_portOf 2 (some .int), Cond.methodLink RX6 132 yX1_pairUp, Cond.instanceMethod yX1_pairUp, Cond.selects RX1 yX1_pairUp yX1_pairUp, Cond.code yX1_pairUp cX1_pairUp 2 none, Cond.methodLink RX1 59 yX5_tree, Cond.instanceMethod yX5_tree, Cond.selects RX5 yX5_tree yX5_tree, Cond.code yX5_tree cX5_tree 7 (some .int)]
noncomputable def wsX6_atBracket_r4 : List Cond := [Cond.fieldLink RX5 24 "SharedLambda$Trees" "newest" "[I", Cond.fieldLink RX5 21 "SharedLambda$Trees" "olders" "[I", Cond.methodLink RX5 31 yX5_bucketOf, Cond.static yX5_bucketOf, Cond.code yX5_bucketOf cX5_bucketOf 3 (some .int), Cond.methodLink RX5 35 yX5_add, Cond.instanceMethod yX5_add, Cond.selects RX5 yX5_add yX5_add, Cond.code yX5_add cX5_add 6 (some .int), Cond.methodLink RX1 52 yX1_delete, Cond.instanceMethod yX1_delete, Cond.selects RX1 yX1_delete yX1_delete, Cond.code yX1_delete cX1_delete 2 none]
noncomputable def wsX6_atBracket : List Cond := .code yX6_atBracket cX6_atBracket 4 (some .int) :: ((wsX6_atBracket_r1 ++ (wsX6_atBracket_r2 ++ (wsX6_atBracket_r3 ++ wsX6_atBracket_r4))) ++ wsX60 ++ wsX10 ++ wsX50)
noncomputable def wsX6_atFan_r1 : List Cond := [Cond.fieldLink RX6 12 "SharedLambda$Walk" "context" "LSharedLambda$Context;", Cond.methodLink RX6 135 yX1_leaveFan, Cond.instanceMethod yX1_leaveFan, Cond.selects RX1 yX1_leaveFan yX1_leaveFan, Cond.initialized RX1, Cond.code yX1_leaveFan cX1_leaveFan 4 (some .int), Cond.fieldLink RX1 12 "SharedLambda$Context" "trees" "LSharedLambda$Trees;", Cond.methodLink RX1 55 yX1_level, Cond.instanceMethod yX1_level, Cond.selects RX1 yX1_level yX1_level, Cond.code yX1_level cX1_level 2 (some .int), Cond.fieldLink RX1 34 "SharedLambda$Context" "depth" "I", Cond.fieldLink RX1 18 "SharedLambda$Context" "levels" "[I", Cond.methodLink RX1 66 yX5_form, Cond.instanceMethod yX5_form, Cond.selects RX5 yX5_form yX5_form, Cond.initialized RX5, Cond.code yX5_form cX5_form 2 (some .int), Cond.fieldLink RX5 27 "SharedLambda$Trees" "count" "I", Cond.fieldLink RX5 11 "SharedLambda$Trees" "forms" "[I", Cond.methodLink RX1 45 yX1_note, Cond.instanceMethod yX1_note, Cond.selects RX1 yX1_note yX1_note, Cond.code yX1_note cX1_note 3 none]
noncomputable def wsX6_atFan_r2 : List Cond := [Cond.fieldLink RX1 38 "SharedLambda$Context" "changes" "I", Cond.fieldLink RX1 22 "SharedLambda$Context" "trailForms" "[I", Cond.fieldLink RX1 25 "SharedLambda$Context" "trailLevels" "[I", Cond.fieldLink RX1 28 "SharedLambda$Context" "trailTrees" "[I", Cond.fieldLink RX1 31 "SharedLambda$Context" "trailCounts" "[I", Cond.methodLink RX1 78 yX5_size, Cond.instanceMethod yX5_size, Cond.selects RX5 yX5_size yX5_size, Cond.code yX5_size cX5_size 1 (some .int), Cond.methodLink RX1 69 yX5_left, Cond.instanceMethod yX5_left, Cond.selects RX5 yX5_left yX5_left, Cond.code yX5_left cX5_left 2 (some .int), Cond.fieldLink RX5 15 "SharedLambda$Trees" "lefts" "[I", Cond.methodLink RX1 63 yX1_set, Cond.instanceMethod yX1_set, Cond.selects RX1 yX1_set yX1_set, Cond.code yX1_set cX1_set 3 none, Cond.methodLink RX6 119 yX6_leaveBy, Cond.instanceMethod yX6_leaveBy, Cond.selects RX6 yX6_leaveBy yX6_leaveBy, Cond.initialized RX6, Cond.code yX6_leaveBy cX6_leaveBy 3 (some .int), Cond.fieldLink RX6 71 "SharedLambda$Walk" "leaving" "I"]
noncomputable def wsX6_atFan_r3 : List Cond := [Cond.static yX7_portOf, Cond.initialized RX7, Cond.code yX7_portOf cX7_portOf 2 (some .int), Cond.methodLink RX6 138 yX1_enterFan, Cond.instanceMethod yX1_enterFan, Cond.selects RX1 yX1_enterFan yX1_enterFan, Cond.code yX1_enterFan cX1_enterFan 3 none, Cond.methodLink RX1 59 yX5_tree, Cond.instanceMethod yX5_tree, Cond.selects RX5 yX5_tree yX5_tree, Cond.code yX5_tree cX5_tree 7 (some .int), Cond.fieldLink RX5 24 "SharedLambda$Trees" "newest" "[I", Cond.fieldLink RX5 18 "SharedLambda$Trees" "rights" "[I", Cond.fieldLink RX5 21 "SharedLambda$Trees" "olders" "[I", Cond.methodLink RX5 31 yX5_bucketOf, Cond.static yX5_bucketOf, Cond.code yX5_bucketOf cX5_bucketOf 3 (some .int), Cond.methodLink RX5 35 yX5_add, Cond.instanceMethod yX5_add, Cond.selects RX5 yX5_add yX5_add, Cond.code yX5_add cX5_add 6 (some .int)]
noncomputable def wsX6_atFan : List Cond := .code yX6_atFan cX6_atFan 5 (some .int) :: ((wsX6_atFan_r1 ++ (wsX6_atFan_r2 ++ wsX6_atFan_r3)) ++ wsX60 ++ wsX10 ++ wsX50)
noncomputable def wsX6_arrive_r1 : List Cond := [Cond.fieldLink RX6 44 "SharedLambda$Walk" "graph" "LSharedLambda$Graph;", Cond.fieldLink RX6 12 "SharedLambda$Walk" "context" "LSharedLambda$Context;", Cond.methodLink RX6 103 yX2_indexOf, Cond.instanceMethod yX2_indexOf, Cond.selects RX2 yX2_indexOf yX2_indexOf, Cond.initialized RX2, Cond.code yX2_indexOf cX2_indexOf 2 (some .int), Cond.fieldLink RX2 15 "SharedLambda$Graph" "indexes" "[I", Cond.methodLink RX6 97 yX2_kindOf, Cond.instanceMethod yX2_kindOf, Cond.selects RX2 yX2_kindOf yX2_kindOf, Cond.code yX2_kindOf cX2_kindOf 2 (some .int), Cond.fieldLink RX2 11 "SharedLambda$Graph" "kinds" "[I", Cond.methodLink RX6 106 yX6_atLambda, Cond.instanceMethod yX6_atLambda, Cond.selects RX6 yX6_atLambda yX6_atLambda, Cond.initialized RX6, Cond.code yX6_atLambda cX6_atLambda 3 (some .int), Cond.methodLink RX6 142 yX6_readAbstraction, Cond.instanceMethod yX6_readAbstraction, Cond.selects RX6 yX6_readAbstraction yX6_readAbstraction, Cond.code yX6_readAbstraction cX6_readAbstraction 2 (some .int), Cond.fieldLink RX6 61 "SharedLambda$Walk" "binderCount" "I", Cond.fieldLink RX6 35 "SharedLambda$Walk" "binders" "[I"]
noncomputable def wsX6_arrive_r2 : List Cond := [Cond.fieldLink RX6 38 "SharedLambda$Walk" "binderStarts" "[I", Cond.fieldLink RX6 64 "SharedLambda$Walk" "binderLevelCount" "I", Cond.methodLink RX6 148 yX6_tell, Cond.instanceMethod yX6_tell, Cond.selects RX6 yX6_tell yX6_tell, Cond.code yX6_tell cX6_tell 2 (some .boolean), Cond.fieldLink RX6 51 "SharedLambda$Walk" "told" "I", Cond.fieldLink RX6 18 "SharedLambda$Walk" "letters" "[C", Cond.methodLink RX6 152 yX6_keepLevels, Cond.instanceMethod yX6_keepLevels, Cond.selects RX6 yX6_keepLevels yX6_keepLevels, Cond.code yX6_keepLevels cX6_keepLevels 3 none, Cond.fieldLink RX6 41 "SharedLambda$Walk" "binderLevels" "[I", Cond.methodLink RX6 174 yX6_growLevels, Cond.instanceMethod yX6_growLevels, Cond.selects RX6 yX6_growLevels yX6_growLevels, Cond.code yX6_growLevels cX6_growLevels 4 none, Cond.constant RX6 180 (252000), Cond.arrayClass .int, Cond.methodLink RX6 177 yX1_level, Cond.instanceMethod yX1_level, Cond.selects RX1 yX1_level yX1_level, Cond.initialized RX1, Cond.code yX1_level cX1_level 2 (some .int)]
noncomputable def wsX6_arrive_r3 : List Cond := [Cond.fieldLink RX1 34 "SharedLambda$Context" "depth" "I", Cond.fieldLink RX1 18 "SharedLambda$Context" "levels" "[I", Cond.methodLink RX6 155 yX6_push, Cond.instanceMethod yX6_push, Cond.selects RX6 yX6_push yX6_push, Cond.code yX6_push cX6_push 3 none, Cond.fieldLink RX6 58 "SharedLambda$Walk" "depth" "I", Cond.fieldLink RX6 26 "SharedLambda$Walk" "stages" "[I", Cond.fieldLink RX6 29 "SharedLambda$Walk" "stageNodes" "[I", Cond.fieldLink RX6 32 "SharedLambda$Walk" "stageMarks" "[I", Cond.methodLink RX6 171 yX1_changes, Cond.instanceMethod yX1_changes, Cond.selects RX1 yX1_changes yX1_changes, Cond.code yX1_changes cX1_changes 1 (some .int), Cond.fieldLink RX1 38 "SharedLambda$Context" "changes" "I", Cond.methodLink RX6 119 yX6_leaveBy, Cond.instanceMethod yX6_leaveBy, Cond.selects RX6 yX6_leaveBy yX6_leaveBy, Cond.code yX6_leaveBy cX6_leaveBy 3 (some .int), Cond.fieldLink RX6 71 "SharedLambda$Walk" "leaving" "I", Cond.static yX7_portOf, Cond.initialized RX7, Cond.code yX7_portOf cX7_portOf 2 (some .int), Cond.methodLink RX6 145 yX6_readVariable]
noncomputable def wsX6_arrive_r4 : List Cond := [Cond.instanceMethod yX6_readVariable, Cond.selects RX6 yX6_readVariable yX6_readVariable, Cond.code yX6_readVariable cX6_readVariable 4 (some .int), Cond.methodLink RX6 158 yX6_hasLevels, Cond.instanceMethod yX6_hasLevels, Cond.selects RX6 yX6_hasLevels yX6_hasLevels, Cond.code yX6_hasLevels cX6_hasLevels 4 (some .boolean), Cond.methodLink RX6 162 yX6_tellNumber, Cond.instanceMethod yX6_tellNumber, Cond.selects RX6 yX6_tellNumber yX6_tellNumber, Cond.code yX6_tellNumber cX6_tellNumber 5 (some .boolean), Cond.methodLink RX6 109 yX6_readApplication, Cond.instanceMethod yX6_readApplication, Cond.selects RX6 yX6_readApplication yX6_readApplication, Cond.code yX6_readApplication cX6_readApplication 2 (some .int), Cond.methodLink RX6 112 yX1_drop, Cond.instanceMethod yX1_drop, Cond.selects RX1 yX1_drop yX1_drop, Cond.code yX1_drop cX1_drop 2 none, Cond.methodLink RX1 45 yX1_note, Cond.instanceMethod yX1_note, Cond.selects RX1 yX1_note yX1_note, Cond.code yX1_note cX1_note 3 none, Cond.fieldLink RX1 22 "SharedLambda$Context" "trailForms" "[I"]
noncomputable def wsX6_arrive_r5 : List Cond := [Cond.fieldLink RX1 25 "SharedLambda$Context" "trailLevels" "[I", Cond.fieldLink RX1 28 "SharedLambda$Context" "trailTrees" "[I", Cond.fieldLink RX1 31 "SharedLambda$Context" "trailCounts" "[I", Cond.fieldLink RX1 12 "SharedLambda$Context" "trees" "LSharedLambda$Trees;", Cond.methodLink RX1 55 yX1_level, Cond.methodLink RX1 78 yX5_size, Cond.instanceMethod yX5_size, Cond.selects RX5 yX5_size yX5_size, Cond.initialized RX5, Cond.code yX5_size cX5_size 1 (some .int), Cond.fieldLink RX5 27 "SharedLambda$Trees" "count" "I", Cond.methodLink RX1 52 yX1_delete, Cond.instanceMethod yX1_delete, Cond.selects RX1 yX1_delete yX1_delete, Cond.code yX1_delete cX1_delete 2 none, Cond.methodLink RX1 82 arraycopyName, Cond.native arraycopyName, Cond.static arraycopyName, Cond.initialized "java/lang/System", Cond.methodLink RX6 116 yX1_addBox, Cond.instanceMethod yX1_addBox, Cond.selects RX1 yX1_addBox yX1_addBox, Cond.code yX1_addBox cX1_addBox 2 none, Cond.methodLink RX1 49 yX1_insert]
noncomputable def wsX6_arrive_r6 : List Cond := [Cond.instanceMethod yX1_insert, Cond.selects RX1 yX1_insert yX1_insert, Cond.code yX1_insert cX1_insert 3 none, Cond.methodLink RX1 63 yX1_set, Cond.instanceMethod yX1_set, Cond.selects RX1 yX1_set yX1_set, Cond.code yX1_set cX1_set 3 none, Cond.methodLink RX6 122 yX6_atBracket, Cond.instanceMethod yX6_atBracket, Cond.selects RX6 yX6_atBracket yX6_atBracket, Cond.code yX6_atBracket cX6_atBracket 4 (some .int), Cond.methodLink RX6 129 yX1_split, Cond.instanceMethod yX1_split, Cond.selects RX1 yX1_split yX1_split, Cond.code yX1_split cX1_split 3 (some .boolean), Cond.methodLink RX1 66 yX5_form, Cond.instanceMethod yX5_form, Cond.selects RX5 yX5_form yX5_form, Cond.code yX5_form cX5_form 2 (some .int), Cond.fieldLink RX5 11 "SharedLambda$Trees" "forms" "[I", Cond.methodLink RX1 69 yX5_left, Cond.instanceMethod yX5_left, Cond.selects RX5 yX5_left yX5_left, Cond.code yX5_left cX5_left 2 (some .int)]
noncomputable def wsX6_arrive_r7 : List Cond := [Cond.fieldLink RX5 15 "SharedLambda$Trees" "lefts" "[I", Cond.methodLink RX1 72 yX5_right, Cond.instanceMethod yX5_right, Cond.selects RX5 yX5_right yX5_right, Cond.code yX5_right cX5_right 2 (some .int), Cond.fieldLink RX5 18 "SharedLambda$Trees" "rights" "[I", Cond.methodLink RX6 132 yX1_pairUp, Cond.instanceMethod yX1_pairUp, Cond.selects RX1 yX1_pairUp yX1_pairUp, Cond.code yX1_pairUp cX1_pairUp 2 none, Cond.methodLink RX1 59 yX5_tree, Cond.instanceMethod yX5_tree, Cond.selects RX5 yX5_tree yX5_tree, Cond.code yX5_tree cX5_tree 7 (some .int), Cond.fieldLink RX5 24 "SharedLambda$Trees" "newest" "[I", Cond.fieldLink RX5 21 "SharedLambda$Trees" "olders" "[I", Cond.methodLink RX5 31 yX5_bucketOf, Cond.static yX5_bucketOf, Cond.code yX5_bucketOf cX5_bucketOf 3 (some .int), Cond.methodLink RX5 35 yX5_add, Cond.instanceMethod yX5_add, Cond.selects RX5 yX5_add yX5_add, Cond.code yX5_add cX5_add 6 (some .int), Cond.methodLink RX6 126 yX6_atFan]
noncomputable def wsX6_arrive_r8 : List Cond := [Cond.instanceMethod yX6_atFan, Cond.selects RX6 yX6_atFan yX6_atFan, Cond.code yX6_atFan cX6_atFan 5 (some .int), Cond.methodLink RX6 135 yX1_leaveFan, Cond.instanceMethod yX1_leaveFan, Cond.selects RX1 yX1_leaveFan yX1_leaveFan, Cond.code yX1_leaveFan cX1_leaveFan 4 (some .int), Cond.methodLink RX6 138 yX1_enterFan, Cond.instanceMethod yX1_enterFan, Cond.selects RX1 yX1_enterFan yX1_enterFan, Cond.code yX1_enterFan cX1_enterFan 3 none]
noncomputable def wsX6_arrive : List Cond := .code yX6_arrive cX6_arrive 4 (some .int) :: ((wsX6_arrive_r1 ++ (wsX6_arrive_r2 ++ (wsX6_arrive_r3 ++ (wsX6_arrive_r4 ++ (wsX6_arrive_r5 ++ (wsX6_arrive_r6 ++ (wsX6_arrive_r7 ++ wsX6_arrive_r8))))))) ++ wsX60 ++ wsX20 ++ wsX10 ++ wsX50)
noncomputable def wsX6_forgetBinder : List Cond := .code yX6_forgetBinder cX6_forgetBinder 1 none :: ([.fieldLink RX6 61 "SharedLambda$Walk" "binderCount" "I", .fieldLink RX6 38 "SharedLambda$Walk" "binderStarts" "[I", .fieldLink RX6 64 "SharedLambda$Walk" "binderLevelCount" "I"] ++ wsX60)
noncomputable def wsX6_endTerm_r1 : List Cond := [Cond.fieldLink RX6 58 "SharedLambda$Walk" "depth" "I", Cond.fieldLink RX6 26 "SharedLambda$Walk" "stages" "[I", Cond.fieldLink RX6 12 "SharedLambda$Walk" "context" "LSharedLambda$Context;", Cond.fieldLink RX6 32 "SharedLambda$Walk" "stageMarks" "[I", Cond.fieldLink RX6 29 "SharedLambda$Walk" "stageNodes" "[I", Cond.fieldLink RX6 71 "SharedLambda$Walk" "leaving" "I", Cond.methodLink RX6 165 yX1_undoTo, Cond.instanceMethod yX1_undoTo, Cond.selects RX1 yX1_undoTo yX1_undoTo, Cond.initialized RX1, Cond.code yX1_undoTo cX1_undoTo 3 none, Cond.fieldLink RX1 38 "SharedLambda$Context" "changes" "I", Cond.methodLink RX1 75 yX1_undo, Cond.instanceMethod yX1_undo, Cond.selects RX1 yX1_undo yX1_undo, Cond.code yX1_undo cX1_undo 3 none, Cond.fieldLink RX1 25 "SharedLambda$Context" "trailLevels" "[I", Cond.fieldLink RX1 28 "SharedLambda$Context" "trailTrees" "[I", Cond.fieldLink RX1 22 "SharedLambda$Context" "trailForms" "[I", Cond.fieldLink RX1 12 "SharedLambda$Context" "trees" "LSharedLambda$Trees;", Cond.fieldLink RX1 31 "SharedLambda$Context" "trailCounts" "[I", Cond.methodLink RX1 52 yX1_delete, Cond.instanceMethod yX1_delete, Cond.selects RX1 yX1_delete yX1_delete]
noncomputable def wsX6_endTerm_r2 : List Cond := [Cond.code yX1_delete cX1_delete 2 none, Cond.fieldLink RX1 34 "SharedLambda$Context" "depth" "I", Cond.fieldLink RX1 18 "SharedLambda$Context" "levels" "[I", Cond.methodLink RX1 82 arraycopyName, Cond.native arraycopyName, Cond.static arraycopyName, Cond.initialized "java/lang/System", Cond.methodLink RX1 49 yX1_insert, Cond.instanceMethod yX1_insert, Cond.selects RX1 yX1_insert yX1_insert, Cond.code yX1_insert cX1_insert 3 none, Cond.methodLink RX1 63 yX1_set, Cond.instanceMethod yX1_set, Cond.selects RX1 yX1_set yX1_set, Cond.code yX1_set cX1_set 3 none, Cond.methodLink RX1 55 yX1_level, Cond.instanceMethod yX1_level, Cond.selects RX1 yX1_level yX1_level, Cond.code yX1_level cX1_level 2 (some .int), Cond.methodLink RX1 72 yX5_right, Cond.instanceMethod yX5_right, Cond.selects RX5 yX5_right yX5_right, Cond.initialized RX5, Cond.code yX5_right cX5_right 2 (some .int)]
noncomputable def wsX6_endTerm_r3 : List Cond := [Cond.fieldLink RX5 27 "SharedLambda$Trees" "count" "I", Cond.fieldLink RX5 18 "SharedLambda$Trees" "rights" "[I", Cond.methodLink RX1 41 yX5_cut, Cond.instanceMethod yX5_cut, Cond.selects RX5 yX5_cut yX5_cut, Cond.code yX5_cut cX5_cut 2 none, Cond.fieldLink RX5 24 "SharedLambda$Trees" "newest" "[I", Cond.fieldLink RX5 11 "SharedLambda$Trees" "forms" "[I", Cond.fieldLink RX5 15 "SharedLambda$Trees" "lefts" "[I", Cond.fieldLink RX5 21 "SharedLambda$Trees" "olders" "[I", Cond.methodLink RX5 31 yX5_bucketOf, Cond.static yX5_bucketOf, Cond.code yX5_bucketOf cX5_bucketOf 3 (some .int), Cond.static yX7_portOf, Cond.initialized RX7, Cond.code yX7_portOf cX7_portOf 2 (some .int), Cond.methodLink RX6 148 yX6_tell, Cond.instanceMethod yX6_tell, Cond.selects RX6 yX6_tell yX6_tell, Cond.initialized RX6, Cond.code yX6_tell cX6_tell 2 (some .boolean), Cond.fieldLink RX6 51 "SharedLambda$Walk" "told" "I", Cond.fieldLink RX6 18 "SharedLambda$Walk" "letters" "[C", Cond.methodLink RX6 168 yX6_forgetBinder]
noncomputable def wsX6_endTerm_r4 : List Cond := [Cond.instanceMethod yX6_forgetBinder, Cond.selects RX6 yX6_forgetBinder yX6_forgetBinder, Cond.code yX6_forgetBinder cX6_forgetBinder 1 none, Cond.fieldLink RX6 61 "SharedLambda$Walk" "binderCount" "I", Cond.fieldLink RX6 38 "SharedLambda$Walk" "binderStarts" "[I", Cond.fieldLink RX6 64 "SharedLambda$Walk" "binderLevelCount" "I"]
noncomputable def wsX6_endTerm : List Cond := .code yX6_endTerm cX6_endTerm 2 (some .int) :: ((wsX6_endTerm_r1 ++ (wsX6_endTerm_r2 ++ (wsX6_endTerm_r3 ++ wsX6_endTerm_r4))) ++ wsX60 ++ wsX10 ++ wsX50)
noncomputable def wsX6_advance_r1 : List Cond := [Cond.fieldLink RX6 55 "SharedLambda$Walk" "steps" "I", Cond.fieldLink RX6 44 "SharedLambda$Walk" "graph" "LSharedLambda$Graph;", Cond.fieldLink RX6 71 "SharedLambda$Walk" "leaving" "I", Cond.fieldLink RX6 22 "SharedLambda$Walk" "leftBefore" "[I", Cond.methodLink RX6 78 yX2_across, Cond.instanceMethod yX2_across, Cond.selects RX2 yX2_across yX2_across, Cond.initialized RX2, Cond.code yX2_across cX2_across 2 (some .int), Cond.fieldLink RX2 18 "SharedLambda$Graph" "wires" "[I", Cond.methodLink RX6 83 yX6_isMeeting, Cond.instanceMethod yX6_isMeeting, Cond.selects RX6 yX6_isMeeting yX6_isMeeting, Cond.initialized RX6, Cond.code yX6_isMeeting cX6_isMeeting 2 (some .boolean), Cond.static yX7_whichAt, Cond.initialized RX7, Cond.code yX7_whichAt cX7_whichAt 1 (some .int), Cond.static yX7_nodeAt, Cond.code yX7_nodeAt cX7_nodeAt 1 (some .int), Cond.methodLink RX6 97 yX2_kindOf, Cond.instanceMethod yX2_kindOf, Cond.selects RX2 yX2_kindOf yX2_kindOf, Cond.code yX2_kindOf cX2_kindOf 2 (some .int)]
noncomputable def wsX6_advance_r2 : List Cond := [Cond.fieldLink RX2 11 "SharedLambda$Graph" "kinds" "[I", Cond.methodLink RX6 90 yX6_arrive, Cond.instanceMethod yX6_arrive, Cond.selects RX6 yX6_arrive yX6_arrive, Cond.code yX6_arrive cX6_arrive 4 (some .int), Cond.fieldLink RX6 12 "SharedLambda$Walk" "context" "LSharedLambda$Context;", Cond.methodLink RX6 103 yX2_indexOf, Cond.instanceMethod yX2_indexOf, Cond.selects RX2 yX2_indexOf yX2_indexOf, Cond.code yX2_indexOf cX2_indexOf 2 (some .int), Cond.fieldLink RX2 15 "SharedLambda$Graph" "indexes" "[I", Cond.methodLink RX6 106 yX6_atLambda, Cond.instanceMethod yX6_atLambda, Cond.selects RX6 yX6_atLambda yX6_atLambda, Cond.code yX6_atLambda cX6_atLambda 3 (some .int), Cond.methodLink RX6 142 yX6_readAbstraction, Cond.instanceMethod yX6_readAbstraction, Cond.selects RX6 yX6_readAbstraction yX6_readAbstraction, Cond.code yX6_readAbstraction cX6_readAbstraction 2 (some .int), Cond.fieldLink RX6 61 "SharedLambda$Walk" "binderCount" "I", Cond.fieldLink RX6 35 "SharedLambda$Walk" "binders" "[I", Cond.fieldLink RX6 38 "SharedLambda$Walk" "binderStarts" "[I", Cond.fieldLink RX6 64 "SharedLambda$Walk" "binderLevelCount" "I", Cond.methodLink RX6 148 yX6_tell]
noncomputable def wsX6_advance_r3 : List Cond := [Cond.instanceMethod yX6_tell, Cond.selects RX6 yX6_tell yX6_tell, Cond.code yX6_tell cX6_tell 2 (some .boolean), Cond.fieldLink RX6 51 "SharedLambda$Walk" "told" "I", Cond.fieldLink RX6 18 "SharedLambda$Walk" "letters" "[C", Cond.methodLink RX6 152 yX6_keepLevels, Cond.instanceMethod yX6_keepLevels, Cond.selects RX6 yX6_keepLevels yX6_keepLevels, Cond.code yX6_keepLevels cX6_keepLevels 3 none, Cond.fieldLink RX6 41 "SharedLambda$Walk" "binderLevels" "[I", Cond.methodLink RX6 174 yX6_growLevels, Cond.instanceMethod yX6_growLevels, Cond.selects RX6 yX6_growLevels yX6_growLevels, Cond.code yX6_growLevels cX6_growLevels 4 none, Cond.constant RX6 180 (252000), Cond.arrayClass .int, Cond.methodLink RX6 177 yX1_level, Cond.instanceMethod yX1_level, Cond.selects RX1 yX1_level yX1_level, Cond.initialized RX1, Cond.code yX1_level cX1_level 2 (some .int), Cond.fieldLink RX1 34 "SharedLambda$Context" "depth" "I", Cond.fieldLink RX1 18 "SharedLambda$Context" "levels" "[I", Cond.methodLink RX6 155 yX6_push]
noncomputable def wsX6_advance_r4 : List Cond := [Cond.instanceMethod yX6_push, Cond.selects RX6 yX6_push yX6_push, Cond.code yX6_push cX6_push 3 none, Cond.fieldLink RX6 58 "SharedLambda$Walk" "depth" "I", Cond.fieldLink RX6 26 "SharedLambda$Walk" "stages" "[I", Cond.fieldLink RX6 29 "SharedLambda$Walk" "stageNodes" "[I", Cond.fieldLink RX6 32 "SharedLambda$Walk" "stageMarks" "[I", Cond.methodLink RX6 171 yX1_changes, Cond.instanceMethod yX1_changes, Cond.selects RX1 yX1_changes yX1_changes, Cond.code yX1_changes cX1_changes 1 (some .int), Cond.fieldLink RX1 38 "SharedLambda$Context" "changes" "I", Cond.methodLink RX6 119 yX6_leaveBy, Cond.instanceMethod yX6_leaveBy, Cond.selects RX6 yX6_leaveBy yX6_leaveBy, Cond.code yX6_leaveBy cX6_leaveBy 3 (some .int), Cond.static yX7_portOf, Cond.code yX7_portOf cX7_portOf 2 (some .int), Cond.methodLink RX6 145 yX6_readVariable, Cond.instanceMethod yX6_readVariable, Cond.selects RX6 yX6_readVariable yX6_readVariable, Cond.code yX6_readVariable cX6_readVariable 4 (some .int), Cond.methodLink RX6 158 yX6_hasLevels, Cond.instanceMethod yX6_hasLevels]
noncomputable def wsX6_advance_r5 : List Cond := [Cond.selects RX6 yX6_hasLevels yX6_hasLevels, Cond.code yX6_hasLevels cX6_hasLevels 4 (some .boolean), Cond.methodLink RX6 162 yX6_tellNumber, Cond.instanceMethod yX6_tellNumber, Cond.selects RX6 yX6_tellNumber yX6_tellNumber, Cond.code yX6_tellNumber cX6_tellNumber 5 (some .boolean), Cond.methodLink RX6 109 yX6_readApplication, Cond.instanceMethod yX6_readApplication, Cond.selects RX6 yX6_readApplication yX6_readApplication, Cond.code yX6_readApplication cX6_readApplication 2 (some .int), Cond.methodLink RX6 112 yX1_drop, Cond.instanceMethod yX1_drop, Cond.selects RX1 yX1_drop yX1_drop, Cond.code yX1_drop cX1_drop 2 none, Cond.methodLink RX1 45 yX1_note, Cond.instanceMethod yX1_note, Cond.selects RX1 yX1_note yX1_note, Cond.code yX1_note cX1_note 3 none, Cond.fieldLink RX1 22 "SharedLambda$Context" "trailForms" "[I", Cond.fieldLink RX1 25 "SharedLambda$Context" "trailLevels" "[I", Cond.fieldLink RX1 28 "SharedLambda$Context" "trailTrees" "[I", Cond.fieldLink RX1 31 "SharedLambda$Context" "trailCounts" "[I", Cond.fieldLink RX1 12 "SharedLambda$Context" "trees" "LSharedLambda$Trees;", Cond.methodLink RX1 55 yX1_level]
noncomputable def wsX6_advance_r6 : List Cond := [Cond.methodLink RX1 78 yX5_size, Cond.instanceMethod yX5_size, Cond.selects RX5 yX5_size yX5_size, Cond.initialized RX5, Cond.code yX5_size cX5_size 1 (some .int), Cond.fieldLink RX5 27 "SharedLambda$Trees" "count" "I", Cond.methodLink RX1 52 yX1_delete, Cond.instanceMethod yX1_delete, Cond.selects RX1 yX1_delete yX1_delete, Cond.code yX1_delete cX1_delete 2 none, Cond.methodLink RX1 82 arraycopyName, Cond.native arraycopyName, Cond.static arraycopyName, Cond.initialized "java/lang/System", Cond.methodLink RX6 116 yX1_addBox, Cond.instanceMethod yX1_addBox, Cond.selects RX1 yX1_addBox yX1_addBox, Cond.code yX1_addBox cX1_addBox 2 none, Cond.methodLink RX1 49 yX1_insert, Cond.instanceMethod yX1_insert, Cond.selects RX1 yX1_insert yX1_insert, Cond.code yX1_insert cX1_insert 3 none, Cond.methodLink RX1 63 yX1_set, Cond.instanceMethod yX1_set]
noncomputable def wsX6_advance_r7 : List Cond := [Cond.selects RX1 yX1_set yX1_set, Cond.code yX1_set cX1_set 3 none, Cond.methodLink RX6 122 yX6_atBracket, Cond.instanceMethod yX6_atBracket, Cond.selects RX6 yX6_atBracket yX6_atBracket, Cond.code yX6_atBracket cX6_atBracket 4 (some .int), Cond.methodLink RX6 129 yX1_split, Cond.instanceMethod yX1_split, Cond.selects RX1 yX1_split yX1_split, Cond.code yX1_split cX1_split 3 (some .boolean), Cond.methodLink RX1 66 yX5_form, Cond.instanceMethod yX5_form, Cond.selects RX5 yX5_form yX5_form, Cond.code yX5_form cX5_form 2 (some .int), Cond.fieldLink RX5 11 "SharedLambda$Trees" "forms" "[I", Cond.methodLink RX1 69 yX5_left, Cond.instanceMethod yX5_left, Cond.selects RX5 yX5_left yX5_left, Cond.code yX5_left cX5_left 2 (some .int), Cond.fieldLink RX5 15 "SharedLambda$Trees" "lefts" "[I", Cond.methodLink RX1 72 yX5_right, Cond.instanceMethod yX5_right, Cond.selects RX5 yX5_right yX5_right, Cond.code yX5_right cX5_right 2 (some .int)]
noncomputable def wsX6_advance_r8 : List Cond := [Cond.fieldLink RX5 18 "SharedLambda$Trees" "rights" "[I", Cond.methodLink RX6 132 yX1_pairUp, Cond.instanceMethod yX1_pairUp, Cond.selects RX1 yX1_pairUp yX1_pairUp, Cond.code yX1_pairUp cX1_pairUp 2 none, Cond.methodLink RX1 59 yX5_tree, Cond.instanceMethod yX5_tree, Cond.selects RX5 yX5_tree yX5_tree, Cond.code yX5_tree cX5_tree 7 (some .int), Cond.fieldLink RX5 24 "SharedLambda$Trees" "newest" "[I", Cond.fieldLink RX5 21 "SharedLambda$Trees" "olders" "[I", Cond.methodLink RX5 31 yX5_bucketOf, Cond.static yX5_bucketOf, Cond.code yX5_bucketOf cX5_bucketOf 3 (some .int), Cond.methodLink RX5 35 yX5_add, Cond.instanceMethod yX5_add, Cond.selects RX5 yX5_add yX5_add, Cond.code yX5_add cX5_add 6 (some .int), Cond.methodLink RX6 126 yX6_atFan, Cond.instanceMethod yX6_atFan, Cond.selects RX6 yX6_atFan yX6_atFan, Cond.code yX6_atFan cX6_atFan 5 (some .int), Cond.methodLink RX6 135 yX1_leaveFan, Cond.instanceMethod yX1_leaveFan]
noncomputable def wsX6_advance_r9 : List Cond := [Cond.selects RX1 yX1_leaveFan yX1_leaveFan, Cond.code yX1_leaveFan cX1_leaveFan 4 (some .int), Cond.methodLink RX6 138 yX1_enterFan, Cond.instanceMethod yX1_enterFan, Cond.selects RX1 yX1_enterFan yX1_enterFan, Cond.code yX1_enterFan cX1_enterFan 3 none, Cond.methodLink RX6 93 yX6_endTerm, Cond.instanceMethod yX6_endTerm, Cond.selects RX6 yX6_endTerm yX6_endTerm, Cond.code yX6_endTerm cX6_endTerm 2 (some .int), Cond.methodLink RX6 165 yX1_undoTo, Cond.instanceMethod yX1_undoTo, Cond.selects RX1 yX1_undoTo yX1_undoTo, Cond.code yX1_undoTo cX1_undoTo 3 none, Cond.methodLink RX1 75 yX1_undo, Cond.instanceMethod yX1_undo, Cond.selects RX1 yX1_undo yX1_undo, Cond.code yX1_undo cX1_undo 3 none, Cond.methodLink RX1 41 yX5_cut, Cond.instanceMethod yX5_cut, Cond.selects RX5 yX5_cut yX5_cut, Cond.code yX5_cut cX5_cut 2 none, Cond.methodLink RX6 168 yX6_forgetBinder, Cond.instanceMethod yX6_forgetBinder]
noncomputable def wsX6_advance_r10 : List Cond := [Cond.selects RX6 yX6_forgetBinder yX6_forgetBinder, Cond.code yX6_forgetBinder cX6_forgetBinder 1 none]
noncomputable def wsX6_advance : List Cond := .code yX6_advance cX6_advance 3 (some .int) :: ((wsX6_advance_r1 ++ (wsX6_advance_r2 ++ (wsX6_advance_r3 ++ (wsX6_advance_r4 ++ (wsX6_advance_r5 ++ (wsX6_advance_r6 ++ (wsX6_advance_r7 ++ (wsX6_advance_r8 ++ (wsX6_advance_r9 ++ wsX6_advance_r10))))))))) ++ wsX60 ++ wsX20 ++ wsX10 ++ wsX50)
noncomputable def wsX6_stepBack_r1 : List Cond := [Cond.fieldLink RX6 55 "SharedLambda$Walk" "steps" "I", Cond.fieldLink RX6 44 "SharedLambda$Walk" "graph" "LSharedLambda$Graph;", Cond.fieldLink RX6 71 "SharedLambda$Walk" "leaving" "I", Cond.fieldLink RX6 12 "SharedLambda$Walk" "context" "LSharedLambda$Context;", Cond.fieldLink RX6 58 "SharedLambda$Walk" "depth" "I", Cond.fieldLink RX6 51 "SharedLambda$Walk" "told" "I", Cond.fieldLink RX6 22 "SharedLambda$Walk" "leftBefore" "[I", Cond.static yX7_nodeAt, Cond.initialized RX7, Cond.code yX7_nodeAt cX7_nodeAt 1 (some .int), Cond.methodLink RX6 97 yX2_kindOf, Cond.instanceMethod yX2_kindOf, Cond.selects RX2 yX2_kindOf yX2_kindOf, Cond.initialized RX2, Cond.code yX2_kindOf cX2_kindOf 2 (some .int), Cond.fieldLink RX2 11 "SharedLambda$Graph" "kinds" "[I", Cond.methodLink RX6 100 yX1_undo, Cond.instanceMethod yX1_undo, Cond.selects RX1 yX1_undo yX1_undo, Cond.initialized RX1, Cond.code yX1_undo cX1_undo 3 none, Cond.fieldLink RX1 38 "SharedLambda$Context" "changes" "I", Cond.fieldLink RX1 25 "SharedLambda$Context" "trailLevels" "[I", Cond.fieldLink RX1 28 "SharedLambda$Context" "trailTrees" "[I"]
noncomputable def wsX6_stepBack_r2 : List Cond := [Cond.fieldLink RX1 22 "SharedLambda$Context" "trailForms" "[I", Cond.fieldLink RX1 12 "SharedLambda$Context" "trees" "LSharedLambda$Trees;", Cond.fieldLink RX1 31 "SharedLambda$Context" "trailCounts" "[I", Cond.methodLink RX1 52 yX1_delete, Cond.instanceMethod yX1_delete, Cond.selects RX1 yX1_delete yX1_delete, Cond.code yX1_delete cX1_delete 2 none, Cond.fieldLink RX1 34 "SharedLambda$Context" "depth" "I", Cond.fieldLink RX1 18 "SharedLambda$Context" "levels" "[I", Cond.methodLink RX1 82 arraycopyName, Cond.native arraycopyName, Cond.static arraycopyName, Cond.initialized "java/lang/System", Cond.methodLink RX1 49 yX1_insert, Cond.instanceMethod yX1_insert, Cond.selects RX1 yX1_insert yX1_insert, Cond.code yX1_insert cX1_insert 3 none, Cond.methodLink RX1 63 yX1_set, Cond.instanceMethod yX1_set, Cond.selects RX1 yX1_set yX1_set, Cond.code yX1_set cX1_set 3 none, Cond.methodLink RX1 55 yX1_level, Cond.instanceMethod yX1_level, Cond.selects RX1 yX1_level yX1_level]
noncomputable def wsX6_stepBack_r3 : List Cond := [Cond.code yX1_level cX1_level 2 (some .int), Cond.methodLink RX1 72 yX5_right, Cond.instanceMethod yX5_right, Cond.selects RX5 yX5_right yX5_right, Cond.initialized RX5, Cond.code yX5_right cX5_right 2 (some .int), Cond.fieldLink RX5 27 "SharedLambda$Trees" "count" "I", Cond.fieldLink RX5 18 "SharedLambda$Trees" "rights" "[I", Cond.methodLink RX1 41 yX5_cut, Cond.instanceMethod yX5_cut, Cond.selects RX5 yX5_cut yX5_cut, Cond.code yX5_cut cX5_cut 2 none, Cond.fieldLink RX5 24 "SharedLambda$Trees" "newest" "[I", Cond.fieldLink RX5 11 "SharedLambda$Trees" "forms" "[I", Cond.fieldLink RX5 15 "SharedLambda$Trees" "lefts" "[I", Cond.fieldLink RX5 21 "SharedLambda$Trees" "olders" "[I", Cond.methodLink RX5 31 yX5_bucketOf, Cond.static yX5_bucketOf, Cond.code yX5_bucketOf cX5_bucketOf 3 (some .int)]
noncomputable def wsX6_stepBack : List Cond := .code yX6_stepBack cX6_stepBack 1 none :: ((wsX6_stepBack_r1 ++ (wsX6_stepBack_r2 ++ wsX6_stepBack_r3)) ++ wsX60 ++ wsX20 ++ wsX10 ++ wsX50)
set_option maxRecDepth 20000 in
theorem ggX6_init_X1_init : GoodIn wsX6_init wsX1_init := goodIn_r _ [20, 21, 2, 3, 22, 23, 24, 25, 10, 26, 27, 28, 29, 30, 31, 32, 33, 34, 35, 36, 37, 38, 39, 64, 65, 66, 67, 68, 69, 40, 41, 42, 43, 44, 45, 46, 47] (by decide +kernel) (by decide +kernel)
set_option maxRecDepth 20000 in
theorem gX6_init_X1_init_n11 : GoodIn wsX6_init (wsX1_init) := ggX6_init_X1_init
theorem dX6_init_0 : decode cX6_init 0 = .ok (.aload_n 0, 1) := by decide +kernel
theorem dX6_init_1 : decode cX6_init 1 = .ok (.invokespecial 3, 3) := by decide +kernel
theorem dX6_init_4 : decode cX6_init 4 = .ok (.aload_n 0, 1) := by decide +kernel
theorem dX6_init_5 : decode cX6_init 5 = .ok (.new 9, 3) := by decide +kernel
theorem dX6_init_8 : decode cX6_init 8 = .ok (.dup, 1) := by decide +kernel
theorem dX6_init_9 : decode cX6_init 9 = .ok (.invokespecial 11, 3) := by decide +kernel
theorem dX6_init_12 : decode cX6_init 12 = .ok (.putfield 12, 3) := by decide +kernel
theorem dX6_init_15 : decode cX6_init 15 = .ok (.aload_n 0, 1) := by decide +kernel
theorem dX6_init_16 : decode cX6_init 16 = .ok (.sipush 4000, 3) := by decide +kernel
theorem dX6_init_19 : decode cX6_init 19 = .ok (.newarray .char, 2) := by decide +kernel
theorem dX6_init_21 : decode cX6_init 21 = .ok (.putfield 18, 3) := by decide +kernel
theorem dX6_init_24 : decode cX6_init 24 = .ok (.aload_n 0, 1) := by decide +kernel
theorem dX6_init_25 : decode cX6_init 25 = .ok (.sipush 4000, 3) := by decide +kernel
theorem dX6_init_28 : decode cX6_init 28 = .ok (.newarray .int, 2) := by decide +kernel
theorem dX6_init_30 : decode cX6_init 30 = .ok (.putfield 22, 3) := by decide +kernel
theorem dX6_init_33 : decode cX6_init 33 = .ok (.aload_n 0, 1) := by decide +kernel
theorem dX6_init_34 : decode cX6_init 34 = .ok (.sipush 4000, 3) := by decide +kernel
theorem dX6_init_37 : decode cX6_init 37 = .ok (.newarray .int, 2) := by decide +kernel
theorem dX6_init_39 : decode cX6_init 39 = .ok (.putfield 26, 3) := by decide +kernel
theorem dX6_init_42 : decode cX6_init 42 = .ok (.aload_n 0, 1) := by decide +kernel
theorem dX6_init_43 : decode cX6_init 43 = .ok (.sipush 4000, 3) := by decide +kernel
theorem dX6_init_46 : decode cX6_init 46 = .ok (.newarray .int, 2) := by decide +kernel
theorem dX6_init_48 : decode cX6_init 48 = .ok (.putfield 29, 3) := by decide +kernel
theorem dX6_init_51 : decode cX6_init 51 = .ok (.aload_n 0, 1) := by decide +kernel
theorem dX6_init_52 : decode cX6_init 52 = .ok (.sipush 4000, 3) := by decide +kernel
theorem dX6_init_55 : decode cX6_init 55 = .ok (.newarray .int, 2) := by decide +kernel
theorem dX6_init_57 : decode cX6_init 57 = .ok (.putfield 32, 3) := by decide +kernel
theorem dX6_init_60 : decode cX6_init 60 = .ok (.aload_n 0, 1) := by decide +kernel
theorem dX6_init_61 : decode cX6_init 61 = .ok (.sipush 4000, 3) := by decide +kernel
theorem dX6_init_64 : decode cX6_init 64 = .ok (.newarray .int, 2) := by decide +kernel
theorem dX6_init_66 : decode cX6_init 66 = .ok (.putfield 35, 3) := by decide +kernel
theorem dX6_init_69 : decode cX6_init 69 = .ok (.aload_n 0, 1) := by decide +kernel
theorem dX6_init_70 : decode cX6_init 70 = .ok (.sipush 4000, 3) := by decide +kernel
theorem dX6_init_73 : decode cX6_init 73 = .ok (.newarray .int, 2) := by decide +kernel
theorem dX6_init_75 : decode cX6_init 75 = .ok (.putfield 38, 3) := by decide +kernel
theorem dX6_init_78 : decode cX6_init 78 = .ok (.aload_n 0, 1) := by decide +kernel
theorem dX6_init_79 : decode cX6_init 79 = .ok (.sipush 2048, 3) := by decide +kernel
theorem dX6_init_82 : decode cX6_init 82 = .ok (.newarray .int, 2) := by decide +kernel
theorem dX6_init_84 : decode cX6_init 84 = .ok (.putfield 41, 3) := by decide +kernel
theorem dX6_init_87 : decode cX6_init 87 = .ok (.aload_n 0, 1) := by decide +kernel
theorem dX6_init_88 : decode cX6_init 88 = .ok (.aload_n 1, 1) := by decide +kernel
theorem dX6_init_89 : decode cX6_init 89 = .ok (.putfield 44, 3) := by decide +kernel
theorem dX6_init_92 : decode cX6_init 92 = .ok (.return_, 1) := by decide +kernel
set_option maxRecDepth 20000 in
theorem ggX6_begin_X1_clear : GoodIn wsX6_begin wsX1_clear := goodIn_r _ [12, 13, 14, 15, 16, 17, 18, 19, 20, 21, 22, 23, 24, 25, 26, 27, 28, 29, 49, 50, 51, 52, 53, 54, 55, 56, 57, 58, 59, 60, 61, 62] (by decide +kernel) (by decide +kernel)
set_option maxRecDepth 20000 in
theorem gX6_begin_X1_clear : GoodIn wsX6_begin (wsV RX6 48 RX1 yX1_clear wsX1_clear) := goodIn_app (goodIn_of _ (by decide +kernel)) ggX6_begin_X1_clear
set_option maxRecDepth 20000 in
theorem ggX6_begin_X7_portOf : GoodIn wsX6_begin wsX7_portOf := goodIn_r _ [32] (by decide +kernel) (by decide +kernel)
set_option maxRecDepth 20000 in
theorem gX6_begin_X7_portOf_n67 : GoodIn wsX6_begin (wsX7_portOf) := ggX6_begin_X7_portOf
theorem dX6_begin_0 : decode cX6_begin 0 = .ok (.aload_n 0, 1) := by decide +kernel
theorem dX6_begin_1 : decode cX6_begin 1 = .ok (.getfield 12, 3) := by decide +kernel
theorem dX6_begin_4 : decode cX6_begin 4 = .ok (.invokevirtual 48, 3) := by decide +kernel
theorem dX6_begin_7 : decode cX6_begin 7 = .ok (.aload_n 0, 1) := by decide +kernel
theorem dX6_begin_8 : decode cX6_begin 8 = .ok (.iconst 0, 1) := by decide +kernel
theorem dX6_begin_9 : decode cX6_begin 9 = .ok (.putfield 51, 3) := by decide +kernel
theorem dX6_begin_12 : decode cX6_begin 12 = .ok (.aload_n 0, 1) := by decide +kernel
theorem dX6_begin_13 : decode cX6_begin 13 = .ok (.iconst 0, 1) := by decide +kernel
theorem dX6_begin_14 : decode cX6_begin 14 = .ok (.putfield 55, 3) := by decide +kernel
theorem dX6_begin_17 : decode cX6_begin 17 = .ok (.aload_n 0, 1) := by decide +kernel
theorem dX6_begin_18 : decode cX6_begin 18 = .ok (.iconst 0, 1) := by decide +kernel
theorem dX6_begin_19 : decode cX6_begin 19 = .ok (.putfield 58, 3) := by decide +kernel
theorem dX6_begin_22 : decode cX6_begin 22 = .ok (.aload_n 0, 1) := by decide +kernel
theorem dX6_begin_23 : decode cX6_begin 23 = .ok (.iconst 0, 1) := by decide +kernel
theorem dX6_begin_24 : decode cX6_begin 24 = .ok (.putfield 61, 3) := by decide +kernel
theorem dX6_begin_27 : decode cX6_begin 27 = .ok (.aload_n 0, 1) := by decide +kernel
theorem dX6_begin_28 : decode cX6_begin 28 = .ok (.iconst 0, 1) := by decide +kernel
theorem dX6_begin_29 : decode cX6_begin 29 = .ok (.putfield 64, 3) := by decide +kernel
theorem dX6_begin_32 : decode cX6_begin 32 = .ok (.aload_n 0, 1) := by decide +kernel
theorem dX6_begin_33 : decode cX6_begin 33 = .ok (.iconst 0, 1) := by decide +kernel
theorem dX6_begin_34 : decode cX6_begin 34 = .ok (.iconst 0, 1) := by decide +kernel
theorem dX6_begin_35 : decode cX6_begin 35 = .ok (.invokestatic 67, 3) := by decide +kernel
theorem dX6_begin_38 : decode cX6_begin 38 = .ok (.putfield 71, 3) := by decide +kernel
theorem dX6_begin_41 : decode cX6_begin 41 = .ok (.return_, 1) := by decide +kernel
theorem dX6_told_0 : decode cX6_told 0 = .ok (.aload_n 0, 1) := by decide +kernel
theorem dX6_told_1 : decode cX6_told 1 = .ok (.getfield 51, 3) := by decide +kernel
theorem dX6_told_4 : decode cX6_told 4 = .ok (.ireturn, 1) := by decide +kernel
theorem dX6_letterAt_0 : decode cX6_letterAt 0 = .ok (.iload_n 1, 1) := by decide +kernel
theorem dX6_letterAt_1 : decode cX6_letterAt 1 = .ok (.ifCond .lt 27, 3) := by decide +kernel
theorem dX6_letterAt_4 : decode cX6_letterAt 4 = .ok (.iload_n 1, 1) := by decide +kernel
theorem dX6_letterAt_5 : decode cX6_letterAt 5 = .ok (.aload_n 0, 1) := by decide +kernel
theorem dX6_letterAt_6 : decode cX6_letterAt 6 = .ok (.getfield 51, 3) := by decide +kernel
theorem dX6_letterAt_9 : decode cX6_letterAt 9 = .ok (.if_icmp .ge 19, 3) := by decide +kernel
theorem dX6_letterAt_12 : decode cX6_letterAt 12 = .ok (.iload_n 1, 1) := by decide +kernel
theorem dX6_letterAt_13 : decode cX6_letterAt 13 = .ok (.sipush 4000, 3) := by decide +kernel
theorem dX6_letterAt_16 : decode cX6_letterAt 16 = .ok (.if_icmp .ge 12, 3) := by decide +kernel
theorem dX6_letterAt_19 : decode cX6_letterAt 19 = .ok (.aload_n 0, 1) := by decide +kernel
theorem dX6_letterAt_20 : decode cX6_letterAt 20 = .ok (.getfield 18, 3) := by decide +kernel
theorem dX6_letterAt_23 : decode cX6_letterAt 23 = .ok (.iload_n 1, 1) := by decide +kernel
theorem dX6_letterAt_24 : decode cX6_letterAt 24 = .ok (.caload, 1) := by decide +kernel
theorem dX6_letterAt_25 : decode cX6_letterAt 25 = .ok (.goto 4, 3) := by decide +kernel
theorem dX6_letterAt_28 : decode cX6_letterAt 28 = .ok (.iconst (-1), 1) := by decide +kernel
theorem dX6_letterAt_29 : decode cX6_letterAt 29 = .ok (.ireturn, 1) := by decide +kernel
set_option maxRecDepth 20000 in
theorem ggX6_nodeLeft_X7_nodeAt : GoodIn wsX6_nodeLeft wsX7_nodeAt := goodIn_r _ [4] (by decide +kernel) (by decide +kernel)
set_option maxRecDepth 20000 in
theorem gX6_nodeLeft_X7_nodeAt_n74 : GoodIn wsX6_nodeLeft (wsX7_nodeAt) := ggX6_nodeLeft_X7_nodeAt
theorem dX6_nodeLeft_0 : decode cX6_nodeLeft 0 = .ok (.aload_n 0, 1) := by decide +kernel
theorem dX6_nodeLeft_1 : decode cX6_nodeLeft 1 = .ok (.getfield 71, 3) := by decide +kernel
theorem dX6_nodeLeft_4 : decode cX6_nodeLeft 4 = .ok (.invokestatic 74, 3) := by decide +kernel
theorem dX6_nodeLeft_7 : decode cX6_nodeLeft 7 = .ok (.ireturn, 1) := by decide +kernel
set_option maxRecDepth 20000 in
theorem ggX6_nodeAhead_X2_across : GoodIn wsX6_nodeAhead wsX2_across := goodIn_r _ [7, 8, 28, 29, 30, 31, 32, 33, 34, 35, 36, 37] (by decide +kernel) (by decide +kernel)
set_option maxRecDepth 20000 in
theorem gX6_nodeAhead_X2_across : GoodIn wsX6_nodeAhead (wsV RX6 78 RX2 yX2_across wsX2_across) := goodIn_app (goodIn_of _ (by decide +kernel)) ggX6_nodeAhead_X2_across
set_option maxRecDepth 20000 in
theorem ggX6_nodeAhead_X7_nodeAt : GoodIn wsX6_nodeAhead wsX7_nodeAt := goodIn_r _ [11] (by decide +kernel) (by decide +kernel)
set_option maxRecDepth 20000 in
theorem gX6_nodeAhead_X7_nodeAt_n74 : GoodIn wsX6_nodeAhead (wsX7_nodeAt) := ggX6_nodeAhead_X7_nodeAt
theorem dX6_nodeAhead_0 : decode cX6_nodeAhead 0 = .ok (.aload_n 0, 1) := by decide +kernel
theorem dX6_nodeAhead_1 : decode cX6_nodeAhead 1 = .ok (.getfield 44, 3) := by decide +kernel
theorem dX6_nodeAhead_4 : decode cX6_nodeAhead 4 = .ok (.aload_n 0, 1) := by decide +kernel
theorem dX6_nodeAhead_5 : decode cX6_nodeAhead 5 = .ok (.getfield 71, 3) := by decide +kernel
theorem dX6_nodeAhead_8 : decode cX6_nodeAhead 8 = .ok (.invokevirtual 78, 3) := by decide +kernel
theorem dX6_nodeAhead_11 : decode cX6_nodeAhead 11 = .ok (.invokestatic 74, 3) := by decide +kernel
theorem dX6_nodeAhead_14 : decode cX6_nodeAhead 14 = .ok (.ireturn, 1) := by decide +kernel
set_option maxRecDepth 20000 in
theorem ggX6_isMeeting_X7_whichAt : GoodIn wsX6_isMeeting wsX7_whichAt := goodIn_r _ [5] (by decide +kernel) (by decide +kernel)
set_option maxRecDepth 20000 in
theorem gX6_isMeeting_X7_whichAt_n87 : GoodIn wsX6_isMeeting (wsX7_whichAt) := ggX6_isMeeting_X7_whichAt
set_option maxRecDepth 20000 in
theorem ggX6_isMeeting_X7_nodeAt : GoodIn wsX6_isMeeting wsX7_nodeAt := goodIn_r _ [7] (by decide +kernel) (by decide +kernel)
set_option maxRecDepth 20000 in
theorem gX6_isMeeting_X7_nodeAt_n74 : GoodIn wsX6_isMeeting (wsX7_nodeAt) := ggX6_isMeeting_X7_nodeAt
set_option maxRecDepth 20000 in
theorem ggX6_isMeeting_X2_kindOf : GoodIn wsX6_isMeeting wsX2_kindOf := goodIn_r _ [12, 13, 30, 31, 32, 33, 34, 35, 36, 37, 38, 39] (by decide +kernel) (by decide +kernel)
set_option maxRecDepth 20000 in
theorem gX6_isMeeting_X2_kindOf : GoodIn wsX6_isMeeting (wsV RX6 97 RX2 yX2_kindOf wsX2_kindOf) := goodIn_app (goodIn_of _ (by decide +kernel)) ggX6_isMeeting_X2_kindOf
theorem dX6_isMeeting_0 : decode cX6_isMeeting 0 = .ok (.aload_n 0, 1) := by decide +kernel
theorem dX6_isMeeting_1 : decode cX6_isMeeting 1 = .ok (.getfield 71, 3) := by decide +kernel
theorem dX6_isMeeting_4 : decode cX6_isMeeting 4 = .ok (.invokestatic 87, 3) := by decide +kernel
theorem dX6_isMeeting_7 : decode cX6_isMeeting 7 = .ok (.ifCond .ne 33, 3) := by decide +kernel
theorem dX6_isMeeting_10 : decode cX6_isMeeting 10 = .ok (.aload_n 0, 1) := by decide +kernel
theorem dX6_isMeeting_11 : decode cX6_isMeeting 11 = .ok (.getfield 44, 3) := by decide +kernel
theorem dX6_isMeeting_14 : decode cX6_isMeeting 14 = .ok (.aload_n 0, 1) := by decide +kernel
theorem dX6_isMeeting_15 : decode cX6_isMeeting 15 = .ok (.getfield 71, 3) := by decide +kernel
theorem dX6_isMeeting_18 : decode cX6_isMeeting 18 = .ok (.invokestatic 74, 3) := by decide +kernel
theorem dX6_isMeeting_21 : decode cX6_isMeeting 21 = .ok (.invokevirtual 97, 3) := by decide +kernel
theorem dX6_isMeeting_24 : decode cX6_isMeeting 24 = .ok (.bipush 6, 2) := by decide +kernel
theorem dX6_isMeeting_26 : decode cX6_isMeeting 26 = .ok (.if_icmp .eq 14, 3) := by decide +kernel
theorem dX6_isMeeting_29 : decode cX6_isMeeting 29 = .ok (.iload_n 1, 1) := by decide +kernel
theorem dX6_isMeeting_30 : decode cX6_isMeeting 30 = .ok (.invokestatic 87, 3) := by decide +kernel
theorem dX6_isMeeting_33 : decode cX6_isMeeting 33 = .ok (.ifCond .ne 7, 3) := by decide +kernel
theorem dX6_isMeeting_36 : decode cX6_isMeeting 36 = .ok (.iconst 1, 1) := by decide +kernel
theorem dX6_isMeeting_37 : decode cX6_isMeeting 37 = .ok (.goto 4, 3) := by decide +kernel
theorem dX6_isMeeting_40 : decode cX6_isMeeting 40 = .ok (.iconst 0, 1) := by decide +kernel
theorem dX6_isMeeting_41 : decode cX6_isMeeting 41 = .ok (.ireturn, 1) := by decide +kernel
theorem dX6_tell_0 : decode cX6_tell 0 = .ok (.aload_n 0, 1) := by decide +kernel
theorem dX6_tell_1 : decode cX6_tell 1 = .ok (.getfield 51, 3) := by decide +kernel
theorem dX6_tell_4 : decode cX6_tell 4 = .ok (.sipush 4000, 3) := by decide +kernel
theorem dX6_tell_7 : decode cX6_tell 7 = .ok (.if_icmp .lt 5, 3) := by decide +kernel
theorem dX6_tell_10 : decode cX6_tell 10 = .ok (.iconst 0, 1) := by decide +kernel
theorem dX6_tell_11 : decode cX6_tell 11 = .ok (.ireturn, 1) := by decide +kernel
theorem dX6_tell_12 : decode cX6_tell 12 = .ok (.aload_n 0, 1) := by decide +kernel
theorem dX6_tell_13 : decode cX6_tell 13 = .ok (.getfield 18, 3) := by decide +kernel
theorem dX6_tell_16 : decode cX6_tell 16 = .ok (.aload_n 0, 1) := by decide +kernel
theorem dX6_tell_17 : decode cX6_tell 17 = .ok (.getfield 51, 3) := by decide +kernel
theorem dX6_tell_20 : decode cX6_tell 20 = .ok (.iload_n 1, 1) := by decide +kernel
theorem dX6_tell_21 : decode cX6_tell 21 = .ok (.castore, 1) := by decide +kernel
theorem dX6_tell_22 : decode cX6_tell 22 = .ok (.aload_n 0, 1) := by decide +kernel
theorem dX6_tell_23 : decode cX6_tell 23 = .ok (.dup, 1) := by decide +kernel
theorem dX6_tell_24 : decode cX6_tell 24 = .ok (.getfield 51, 3) := by decide +kernel
theorem dX6_tell_27 : decode cX6_tell 27 = .ok (.iconst 1, 1) := by decide +kernel
theorem dX6_tell_28 : decode cX6_tell 28 = .ok (.iadd, 1) := by decide +kernel
theorem dX6_tell_29 : decode cX6_tell 29 = .ok (.putfield 51, 3) := by decide +kernel
theorem dX6_tell_32 : decode cX6_tell 32 = .ok (.iconst 1, 1) := by decide +kernel
theorem dX6_tell_33 : decode cX6_tell 33 = .ok (.ireturn, 1) := by decide +kernel
theorem dX6_growLevels_0 : decode cX6_growLevels 0 = .ok (.iload_n 1, 1) := by decide +kernel
theorem dX6_growLevels_1 : decode cX6_growLevels 1 = .ok (.aload_n 0, 1) := by decide +kernel
theorem dX6_growLevels_2 : decode cX6_growLevels 2 = .ok (.getfield 41, 3) := by decide +kernel
theorem dX6_growLevels_5 : decode cX6_growLevels 5 = .ok (.arraylength, 1) := by decide +kernel
theorem dX6_growLevels_6 : decode cX6_growLevels 6 = .ok (.if_icmp .le 65, 3) := by decide +kernel
theorem dX6_growLevels_9 : decode cX6_growLevels 9 = .ok (.iload_n 1, 1) := by decide +kernel
theorem dX6_growLevels_10 : decode cX6_growLevels 10 = .ok (.ldc 180, 2) := by decide +kernel
theorem dX6_growLevels_12 : decode cX6_growLevels 12 = .ok (.if_icmp .gt 59, 3) := by decide +kernel
theorem dX6_growLevels_15 : decode cX6_growLevels 15 = .ok (.iload_n 1, 1) := by decide +kernel
theorem dX6_growLevels_16 : decode cX6_growLevels 16 = .ok (.iconst 2, 1) := by decide +kernel
theorem dX6_growLevels_17 : decode cX6_growLevels 17 = .ok (.imul, 1) := by decide +kernel
theorem dX6_growLevels_18 : decode cX6_growLevels 18 = .ok (.ldc 180, 2) := by decide +kernel
theorem dX6_growLevels_20 : decode cX6_growLevels 20 = .ok (.if_icmp .ge 9, 3) := by decide +kernel
theorem dX6_growLevels_23 : decode cX6_growLevels 23 = .ok (.iload_n 1, 1) := by decide +kernel
theorem dX6_growLevels_24 : decode cX6_growLevels 24 = .ok (.iconst 2, 1) := by decide +kernel
theorem dX6_growLevels_25 : decode cX6_growLevels 25 = .ok (.imul, 1) := by decide +kernel
theorem dX6_growLevels_26 : decode cX6_growLevels 26 = .ok (.goto 5, 3) := by decide +kernel
theorem dX6_growLevels_29 : decode cX6_growLevels 29 = .ok (.ldc 180, 2) := by decide +kernel
theorem dX6_growLevels_31 : decode cX6_growLevels 31 = .ok (.newarray .int, 2) := by decide +kernel
theorem dX6_growLevels_33 : decode cX6_growLevels 33 = .ok (.astore_n 2, 1) := by decide +kernel
theorem dX6_growLevels_34 : decode cX6_growLevels 34 = .ok (.iconst 0, 1) := by decide +kernel
theorem dX6_growLevels_35 : decode cX6_growLevels 35 = .ok (.istore_n 3, 1) := by decide +kernel
theorem dX6_growLevels_36 : decode cX6_growLevels 36 = .ok (.iload_n 3, 1) := by decide +kernel
theorem dX6_growLevels_37 : decode cX6_growLevels 37 = .ok (.aload_n 0, 1) := by decide +kernel
theorem dX6_growLevels_38 : decode cX6_growLevels 38 = .ok (.getfield 41, 3) := by decide +kernel
theorem dX6_growLevels_41 : decode cX6_growLevels 41 = .ok (.arraylength, 1) := by decide +kernel
theorem dX6_growLevels_42 : decode cX6_growLevels 42 = .ok (.if_icmp .ge 24, 3) := by decide +kernel
theorem dX6_growLevels_45 : decode cX6_growLevels 45 = .ok (.iload_n 3, 1) := by decide +kernel
theorem dX6_growLevels_46 : decode cX6_growLevels 46 = .ok (.aload_n 2, 1) := by decide +kernel
theorem dX6_growLevels_47 : decode cX6_growLevels 47 = .ok (.arraylength, 1) := by decide +kernel
theorem dX6_growLevels_48 : decode cX6_growLevels 48 = .ok (.if_icmp .ge 18, 3) := by decide +kernel
theorem dX6_growLevels_51 : decode cX6_growLevels 51 = .ok (.aload_n 2, 1) := by decide +kernel
theorem dX6_growLevels_52 : decode cX6_growLevels 52 = .ok (.iload_n 3, 1) := by decide +kernel
theorem dX6_growLevels_53 : decode cX6_growLevels 53 = .ok (.aload_n 0, 1) := by decide +kernel
theorem dX6_growLevels_54 : decode cX6_growLevels 54 = .ok (.getfield 41, 3) := by decide +kernel
theorem dX6_growLevels_57 : decode cX6_growLevels 57 = .ok (.iload_n 3, 1) := by decide +kernel
theorem dX6_growLevels_58 : decode cX6_growLevels 58 = .ok (.iaload, 1) := by decide +kernel
theorem dX6_growLevels_59 : decode cX6_growLevels 59 = .ok (.iastore, 1) := by decide +kernel
theorem dX6_growLevels_60 : decode cX6_growLevels 60 = .ok (.iinc 3 1, 3) := by decide +kernel
theorem dX6_growLevels_63 : decode cX6_growLevels 63 = .ok (.goto (-27), 3) := by decide +kernel
theorem dX6_growLevels_66 : decode cX6_growLevels 66 = .ok (.aload_n 0, 1) := by decide +kernel
theorem dX6_growLevels_67 : decode cX6_growLevels 67 = .ok (.aload_n 2, 1) := by decide +kernel
theorem dX6_growLevels_68 : decode cX6_growLevels 68 = .ok (.putfield 41, 3) := by decide +kernel
theorem dX6_growLevels_71 : decode cX6_growLevels 71 = .ok (.return_, 1) := by decide +kernel
set_option maxRecDepth 20000 in
theorem ggX6_keepLevels_X6_growLevels : GoodIn wsX6_keepLevels wsX6_growLevels := goodIn_r _ [8, 2, 9, 10, 18, 19, 20, 21, 22, 23, 24, 25, 26, 27, 28, 29, 30, 31, 32, 33] (by decide +kernel) (by decide +kernel)
set_option maxRecDepth 20000 in
theorem gX6_keepLevels_X6_growLevels : GoodIn wsX6_keepLevels (wsV RX6 174 RX6 yX6_growLevels wsX6_growLevels) := goodIn_app (goodIn_of _ (by decide +kernel)) ggX6_keepLevels_X6_growLevels
set_option maxRecDepth 20000 in
theorem ggX6_keepLevels_X1_level : GoodIn wsX6_keepLevels wsX1_level := goodIn_r _ [15, 16, 17, 34, 35, 36, 37, 38, 39, 40, 41] (by decide +kernel) (by decide +kernel)
set_option maxRecDepth 20000 in
theorem gX6_keepLevels_X1_level : GoodIn wsX6_keepLevels (wsV RX6 177 RX1 yX1_level wsX1_level) := goodIn_app (goodIn_of _ (by decide +kernel)) ggX6_keepLevels_X1_level
theorem dX6_keepLevels_0 : decode cX6_keepLevels 0 = .ok (.aload_n 0, 1) := by decide +kernel
theorem dX6_keepLevels_1 : decode cX6_keepLevels 1 = .ok (.aload_n 0, 1) := by decide +kernel
theorem dX6_keepLevels_2 : decode cX6_keepLevels 2 = .ok (.getfield 64, 3) := by decide +kernel
theorem dX6_keepLevels_5 : decode cX6_keepLevels 5 = .ok (.iload_n 1, 1) := by decide +kernel
theorem dX6_keepLevels_6 : decode cX6_keepLevels 6 = .ok (.iadd, 1) := by decide +kernel
theorem dX6_keepLevels_7 : decode cX6_keepLevels 7 = .ok (.invokevirtual 174, 3) := by decide +kernel
theorem dX6_keepLevels_10 : decode cX6_keepLevels 10 = .ok (.iconst 0, 1) := by decide +kernel
theorem dX6_keepLevels_11 : decode cX6_keepLevels 11 = .ok (.istore_n 2, 1) := by decide +kernel
theorem dX6_keepLevels_12 : decode cX6_keepLevels 12 = .ok (.iload_n 2, 1) := by decide +kernel
theorem dX6_keepLevels_13 : decode cX6_keepLevels 13 = .ok (.iload_n 1, 1) := by decide +kernel
theorem dX6_keepLevels_14 : decode cX6_keepLevels 14 = .ok (.if_icmp .ge 48, 3) := by decide +kernel
theorem dX6_keepLevels_17 : decode cX6_keepLevels 17 = .ok (.aload_n 0, 1) := by decide +kernel
theorem dX6_keepLevels_18 : decode cX6_keepLevels 18 = .ok (.getfield 64, 3) := by decide +kernel
theorem dX6_keepLevels_21 : decode cX6_keepLevels 21 = .ok (.aload_n 0, 1) := by decide +kernel
theorem dX6_keepLevels_22 : decode cX6_keepLevels 22 = .ok (.getfield 41, 3) := by decide +kernel
theorem dX6_keepLevels_25 : decode cX6_keepLevels 25 = .ok (.arraylength, 1) := by decide +kernel
theorem dX6_keepLevels_26 : decode cX6_keepLevels 26 = .ok (.if_icmp .ge 36, 3) := by decide +kernel
theorem dX6_keepLevels_29 : decode cX6_keepLevels 29 = .ok (.aload_n 0, 1) := by decide +kernel
theorem dX6_keepLevels_30 : decode cX6_keepLevels 30 = .ok (.getfield 41, 3) := by decide +kernel
theorem dX6_keepLevels_33 : decode cX6_keepLevels 33 = .ok (.aload_n 0, 1) := by decide +kernel
theorem dX6_keepLevels_34 : decode cX6_keepLevels 34 = .ok (.getfield 64, 3) := by decide +kernel
theorem dX6_keepLevels_37 : decode cX6_keepLevels 37 = .ok (.aload_n 0, 1) := by decide +kernel
theorem dX6_keepLevels_38 : decode cX6_keepLevels 38 = .ok (.getfield 12, 3) := by decide +kernel
theorem dX6_keepLevels_41 : decode cX6_keepLevels 41 = .ok (.iload_n 2, 1) := by decide +kernel
theorem dX6_keepLevels_42 : decode cX6_keepLevels 42 = .ok (.invokevirtual 177, 3) := by decide +kernel
theorem dX6_keepLevels_45 : decode cX6_keepLevels 45 = .ok (.iastore, 1) := by decide +kernel
theorem dX6_keepLevels_46 : decode cX6_keepLevels 46 = .ok (.aload_n 0, 1) := by decide +kernel
theorem dX6_keepLevels_47 : decode cX6_keepLevels 47 = .ok (.dup, 1) := by decide +kernel
theorem dX6_keepLevels_48 : decode cX6_keepLevels 48 = .ok (.getfield 64, 3) := by decide +kernel
theorem dX6_keepLevels_51 : decode cX6_keepLevels 51 = .ok (.iconst 1, 1) := by decide +kernel
theorem dX6_keepLevels_52 : decode cX6_keepLevels 52 = .ok (.iadd, 1) := by decide +kernel
theorem dX6_keepLevels_53 : decode cX6_keepLevels 53 = .ok (.putfield 64, 3) := by decide +kernel
theorem dX6_keepLevels_56 : decode cX6_keepLevels 56 = .ok (.iinc 2 1, 3) := by decide +kernel
theorem dX6_keepLevels_59 : decode cX6_keepLevels 59 = .ok (.goto (-47), 3) := by decide +kernel
theorem dX6_keepLevels_62 : decode cX6_keepLevels 62 = .ok (.return_, 1) := by decide +kernel
set_option maxRecDepth 20000 in
theorem ggX6_push_X1_changes : GoodIn wsX6_push wsX1_changes := goodIn_r _ [10, 11, 28, 29, 30, 31, 32, 33, 34, 35] (by decide +kernel) (by decide +kernel)
set_option maxRecDepth 20000 in
theorem gX6_push_X1_changes : GoodIn wsX6_push (wsV RX6 171 RX1 yX1_changes wsX1_changes) := goodIn_app (goodIn_of _ (by decide +kernel)) ggX6_push_X1_changes
theorem dX6_push_0 : decode cX6_push 0 = .ok (.aload_n 0, 1) := by decide +kernel
theorem dX6_push_1 : decode cX6_push 1 = .ok (.getfield 58, 3) := by decide +kernel
theorem dX6_push_4 : decode cX6_push 4 = .ok (.sipush 4000, 3) := by decide +kernel
theorem dX6_push_7 : decode cX6_push 7 = .ok (.if_icmp .ge 49, 3) := by decide +kernel
theorem dX6_push_10 : decode cX6_push 10 = .ok (.aload_n 0, 1) := by decide +kernel
theorem dX6_push_11 : decode cX6_push 11 = .ok (.getfield 26, 3) := by decide +kernel
theorem dX6_push_14 : decode cX6_push 14 = .ok (.aload_n 0, 1) := by decide +kernel
theorem dX6_push_15 : decode cX6_push 15 = .ok (.getfield 58, 3) := by decide +kernel
theorem dX6_push_18 : decode cX6_push 18 = .ok (.iload_n 1, 1) := by decide +kernel
theorem dX6_push_19 : decode cX6_push 19 = .ok (.iastore, 1) := by decide +kernel
theorem dX6_push_20 : decode cX6_push 20 = .ok (.aload_n 0, 1) := by decide +kernel
theorem dX6_push_21 : decode cX6_push 21 = .ok (.getfield 29, 3) := by decide +kernel
theorem dX6_push_24 : decode cX6_push 24 = .ok (.aload_n 0, 1) := by decide +kernel
theorem dX6_push_25 : decode cX6_push 25 = .ok (.getfield 58, 3) := by decide +kernel
theorem dX6_push_28 : decode cX6_push 28 = .ok (.iload_n 2, 1) := by decide +kernel
theorem dX6_push_29 : decode cX6_push 29 = .ok (.iastore, 1) := by decide +kernel
theorem dX6_push_30 : decode cX6_push 30 = .ok (.aload_n 0, 1) := by decide +kernel
theorem dX6_push_31 : decode cX6_push 31 = .ok (.getfield 32, 3) := by decide +kernel
theorem dX6_push_34 : decode cX6_push 34 = .ok (.aload_n 0, 1) := by decide +kernel
theorem dX6_push_35 : decode cX6_push 35 = .ok (.getfield 58, 3) := by decide +kernel
theorem dX6_push_38 : decode cX6_push 38 = .ok (.aload_n 0, 1) := by decide +kernel
theorem dX6_push_39 : decode cX6_push 39 = .ok (.getfield 12, 3) := by decide +kernel
theorem dX6_push_42 : decode cX6_push 42 = .ok (.invokevirtual 171, 3) := by decide +kernel
theorem dX6_push_45 : decode cX6_push 45 = .ok (.iastore, 1) := by decide +kernel
theorem dX6_push_46 : decode cX6_push 46 = .ok (.aload_n 0, 1) := by decide +kernel
theorem dX6_push_47 : decode cX6_push 47 = .ok (.dup, 1) := by decide +kernel
theorem dX6_push_48 : decode cX6_push 48 = .ok (.getfield 58, 3) := by decide +kernel
theorem dX6_push_51 : decode cX6_push 51 = .ok (.iconst 1, 1) := by decide +kernel
theorem dX6_push_52 : decode cX6_push 52 = .ok (.iadd, 1) := by decide +kernel
theorem dX6_push_53 : decode cX6_push 53 = .ok (.putfield 58, 3) := by decide +kernel
theorem dX6_push_56 : decode cX6_push 56 = .ok (.return_, 1) := by decide +kernel
set_option maxRecDepth 20000 in
theorem ggX6_leaveBy_X7_portOf : GoodIn wsX6_leaveBy wsX7_portOf := goodIn_r _ [4] (by decide +kernel) (by decide +kernel)
set_option maxRecDepth 20000 in
theorem gX6_leaveBy_X7_portOf_n67 : GoodIn wsX6_leaveBy (wsX7_portOf) := ggX6_leaveBy_X7_portOf
theorem dX6_leaveBy_0 : decode cX6_leaveBy 0 = .ok (.aload_n 0, 1) := by decide +kernel
theorem dX6_leaveBy_1 : decode cX6_leaveBy 1 = .ok (.iload_n 1, 1) := by decide +kernel
theorem dX6_leaveBy_2 : decode cX6_leaveBy 2 = .ok (.iload_n 2, 1) := by decide +kernel
theorem dX6_leaveBy_3 : decode cX6_leaveBy 3 = .ok (.invokestatic 67, 3) := by decide +kernel
theorem dX6_leaveBy_6 : decode cX6_leaveBy 6 = .ok (.putfield 71, 3) := by decide +kernel
theorem dX6_leaveBy_9 : decode cX6_leaveBy 9 = .ok (.bipush 6, 2) := by decide +kernel
theorem dX6_leaveBy_11 : decode cX6_leaveBy 11 = .ok (.ireturn, 1) := by decide +kernel
set_option maxRecDepth 20000 in
theorem ggX6_readAbstraction_X6_tell : GoodIn wsX6_readAbstraction wsX6_tell := goodIn_r _ [10, 11, 12, 59, 60, 61, 62, 63, 64, 65, 66, 67, 68, 69, 70, 71, 72, 73, 74] (by decide +kernel) (by decide +kernel)
set_option maxRecDepth 20000 in
theorem gX6_readAbstraction_X6_tell : GoodIn wsX6_readAbstraction (wsV RX6 148 RX6 yX6_tell wsX6_tell) := goodIn_app (goodIn_of _ (by decide +kernel)) ggX6_readAbstraction_X6_tell
set_option maxRecDepth 20000 in
theorem ggX6_readAbstraction_X2_indexOf : GoodIn wsX6_readAbstraction wsX2_indexOf := goodIn_r _ [17, 18, 75, 76, 77, 78, 79, 80, 81, 82, 83, 84] (by decide +kernel) (by decide +kernel)
set_option maxRecDepth 20000 in
theorem gX6_readAbstraction_X2_indexOf : GoodIn wsX6_readAbstraction (wsV RX6 103 RX2 yX2_indexOf wsX2_indexOf) := goodIn_app (goodIn_of _ (by decide +kernel)) ggX6_readAbstraction_X2_indexOf
set_option maxRecDepth 20000 in
theorem ggX6_readAbstraction_X6_keepLevels : GoodIn wsX6_readAbstraction wsX6_keepLevels := goodIn_r _ [22, 4, 23, 24, 25, 26, 27, 9, 28, 29, 30, 31, 32, 33, 34, 35, 36, 37, 59, 60, 61, 62, 63, 64, 65, 66, 67, 68, 69, 70, 71, 72, 73, 74, 85, 86, 87, 88, 89, 90, 91, 92] (by decide +kernel) (by decide +kernel)
set_option maxRecDepth 20000 in
theorem gX6_readAbstraction_X6_keepLevels : GoodIn wsX6_readAbstraction (wsV RX6 152 RX6 yX6_keepLevels wsX6_keepLevels) := goodIn_app (goodIn_of _ (by decide +kernel)) ggX6_readAbstraction_X6_keepLevels
set_option maxRecDepth 20000 in
theorem ggX6_readAbstraction_X6_push : GoodIn wsX6_readAbstraction wsX6_push := goodIn_r _ [41, 42, 43, 44, 45, 24, 46, 47, 48, 34, 49, 50, 59, 60, 61, 62, 63, 64, 65, 66, 67, 68, 69, 70, 71, 72, 73, 74, 85, 86, 87, 88, 89, 90, 91, 92] (by decide +kernel) (by decide +kernel)
set_option maxRecDepth 20000 in
theorem gX6_readAbstraction_X6_push : GoodIn wsX6_readAbstraction (wsV RX6 155 RX6 yX6_push wsX6_push) := goodIn_app (goodIn_of _ (by decide +kernel)) ggX6_readAbstraction_X6_push
set_option maxRecDepth 20000 in
theorem ggX6_readAbstraction_X6_leaveBy : GoodIn wsX6_readAbstraction wsX6_leaveBy := goodIn_r _ [54, 55, 56, 57, 58, 59, 60, 61, 62, 63, 64, 65, 66, 67, 68, 69, 70, 71, 72, 73, 74] (by decide +kernel) (by decide +kernel)
set_option maxRecDepth 20000 in
theorem gX6_readAbstraction_X6_leaveBy : GoodIn wsX6_readAbstraction (wsV RX6 119 RX6 yX6_leaveBy wsX6_leaveBy) := goodIn_app (goodIn_of _ (by decide +kernel)) ggX6_readAbstraction_X6_leaveBy
theorem dX6_readAbstraction_0 : decode cX6_readAbstraction 0 = .ok (.aload_n 0, 1) := by decide +kernel
theorem dX6_readAbstraction_1 : decode cX6_readAbstraction 1 = .ok (.bipush 92, 2) := by decide +kernel
theorem dX6_readAbstraction_3 : decode cX6_readAbstraction 3 = .ok (.invokevirtual 148, 3) := by decide +kernel
theorem dX6_readAbstraction_6 : decode cX6_readAbstraction 6 = .ok (.ifCond .eq 13, 3) := by decide +kernel
theorem dX6_readAbstraction_9 : decode cX6_readAbstraction 9 = .ok (.aload_n 0, 1) := by decide +kernel
theorem dX6_readAbstraction_10 : decode cX6_readAbstraction 10 = .ok (.getfield 61, 3) := by decide +kernel
theorem dX6_readAbstraction_13 : decode cX6_readAbstraction 13 = .ok (.sipush 4000, 3) := by decide +kernel
theorem dX6_readAbstraction_16 : decode cX6_readAbstraction 16 = .ok (.if_icmp .lt 5, 3) := by decide +kernel
theorem dX6_readAbstraction_19 : decode cX6_readAbstraction 19 = .ok (.iconst 3, 1) := by decide +kernel
theorem dX6_readAbstraction_20 : decode cX6_readAbstraction 20 = .ok (.ireturn, 1) := by decide +kernel
theorem dX6_readAbstraction_21 : decode cX6_readAbstraction 21 = .ok (.aload_n 0, 1) := by decide +kernel
theorem dX6_readAbstraction_22 : decode cX6_readAbstraction 22 = .ok (.getfield 35, 3) := by decide +kernel
theorem dX6_readAbstraction_25 : decode cX6_readAbstraction 25 = .ok (.aload_n 0, 1) := by decide +kernel
theorem dX6_readAbstraction_26 : decode cX6_readAbstraction 26 = .ok (.getfield 61, 3) := by decide +kernel
theorem dX6_readAbstraction_29 : decode cX6_readAbstraction 29 = .ok (.iload_n 1, 1) := by decide +kernel
theorem dX6_readAbstraction_30 : decode cX6_readAbstraction 30 = .ok (.iastore, 1) := by decide +kernel
theorem dX6_readAbstraction_31 : decode cX6_readAbstraction 31 = .ok (.aload_n 0, 1) := by decide +kernel
theorem dX6_readAbstraction_32 : decode cX6_readAbstraction 32 = .ok (.getfield 38, 3) := by decide +kernel
theorem dX6_readAbstraction_35 : decode cX6_readAbstraction 35 = .ok (.aload_n 0, 1) := by decide +kernel
theorem dX6_readAbstraction_36 : decode cX6_readAbstraction 36 = .ok (.getfield 61, 3) := by decide +kernel
theorem dX6_readAbstraction_39 : decode cX6_readAbstraction 39 = .ok (.aload_n 0, 1) := by decide +kernel
theorem dX6_readAbstraction_40 : decode cX6_readAbstraction 40 = .ok (.getfield 64, 3) := by decide +kernel
theorem dX6_readAbstraction_43 : decode cX6_readAbstraction 43 = .ok (.iastore, 1) := by decide +kernel
theorem dX6_readAbstraction_44 : decode cX6_readAbstraction 44 = .ok (.aload_n 0, 1) := by decide +kernel
theorem dX6_readAbstraction_45 : decode cX6_readAbstraction 45 = .ok (.dup, 1) := by decide +kernel
theorem dX6_readAbstraction_46 : decode cX6_readAbstraction 46 = .ok (.getfield 61, 3) := by decide +kernel
theorem dX6_readAbstraction_49 : decode cX6_readAbstraction 49 = .ok (.iconst 1, 1) := by decide +kernel
theorem dX6_readAbstraction_50 : decode cX6_readAbstraction 50 = .ok (.iadd, 1) := by decide +kernel
theorem dX6_readAbstraction_51 : decode cX6_readAbstraction 51 = .ok (.putfield 61, 3) := by decide +kernel
theorem dX6_readAbstraction_54 : decode cX6_readAbstraction 54 = .ok (.aload_n 0, 1) := by decide +kernel
theorem dX6_readAbstraction_55 : decode cX6_readAbstraction 55 = .ok (.aload_n 0, 1) := by decide +kernel
theorem dX6_readAbstraction_56 : decode cX6_readAbstraction 56 = .ok (.getfield 44, 3) := by decide +kernel
theorem dX6_readAbstraction_59 : decode cX6_readAbstraction 59 = .ok (.iload_n 1, 1) := by decide +kernel
theorem dX6_readAbstraction_60 : decode cX6_readAbstraction 60 = .ok (.invokevirtual 103, 3) := by decide +kernel
theorem dX6_readAbstraction_63 : decode cX6_readAbstraction 63 = .ok (.invokevirtual 152, 3) := by decide +kernel
theorem dX6_readAbstraction_66 : decode cX6_readAbstraction 66 = .ok (.aload_n 0, 1) := by decide +kernel
theorem dX6_readAbstraction_67 : decode cX6_readAbstraction 67 = .ok (.iconst 0, 1) := by decide +kernel
theorem dX6_readAbstraction_68 : decode cX6_readAbstraction 68 = .ok (.iload_n 1, 1) := by decide +kernel
theorem dX6_readAbstraction_69 : decode cX6_readAbstraction 69 = .ok (.invokevirtual 155, 3) := by decide +kernel
theorem dX6_readAbstraction_72 : decode cX6_readAbstraction 72 = .ok (.aload_n 0, 1) := by decide +kernel
theorem dX6_readAbstraction_73 : decode cX6_readAbstraction 73 = .ok (.iload_n 1, 1) := by decide +kernel
theorem dX6_readAbstraction_74 : decode cX6_readAbstraction 74 = .ok (.iconst 1, 1) := by decide +kernel
theorem dX6_readAbstraction_75 : decode cX6_readAbstraction 75 = .ok (.invokevirtual 119, 3) := by decide +kernel
theorem dX6_readAbstraction_78 : decode cX6_readAbstraction 78 = .ok (.ireturn, 1) := by decide +kernel
set_option maxRecDepth 20000 in
theorem ggX6_hasLevels_X1_level : GoodIn wsX6_hasLevels wsX1_level := goodIn_r _ [7, 8, 9, 26, 27, 28, 29, 30, 31, 32, 33] (by decide +kernel) (by decide +kernel)
set_option maxRecDepth 20000 in
theorem gX6_hasLevels_X1_level : GoodIn wsX6_hasLevels (wsV RX6 177 RX1 yX1_level wsX1_level) := goodIn_app (goodIn_of _ (by decide +kernel)) ggX6_hasLevels_X1_level
theorem dX6_hasLevels_0 : decode cX6_hasLevels 0 = .ok (.iload_n 1, 1) := by decide +kernel
theorem dX6_hasLevels_1 : decode cX6_hasLevels 1 = .ok (.ifCond .lt 14, 3) := by decide +kernel
theorem dX6_hasLevels_4 : decode cX6_hasLevels 4 = .ok (.iload_n 1, 1) := by decide +kernel
theorem dX6_hasLevels_5 : decode cX6_hasLevels 5 = .ok (.iload_n 2, 1) := by decide +kernel
theorem dX6_hasLevels_6 : decode cX6_hasLevels 6 = .ok (.iadd, 1) := by decide +kernel
theorem dX6_hasLevels_7 : decode cX6_hasLevels 7 = .ok (.aload_n 0, 1) := by decide +kernel
theorem dX6_hasLevels_8 : decode cX6_hasLevels 8 = .ok (.getfield 41, 3) := by decide +kernel
theorem dX6_hasLevels_11 : decode cX6_hasLevels 11 = .ok (.arraylength, 1) := by decide +kernel
theorem dX6_hasLevels_12 : decode cX6_hasLevels 12 = .ok (.if_icmp .le 5, 3) := by decide +kernel
theorem dX6_hasLevels_15 : decode cX6_hasLevels 15 = .ok (.iconst 0, 1) := by decide +kernel
theorem dX6_hasLevels_16 : decode cX6_hasLevels 16 = .ok (.ireturn, 1) := by decide +kernel
theorem dX6_hasLevels_17 : decode cX6_hasLevels 17 = .ok (.iconst 0, 1) := by decide +kernel
theorem dX6_hasLevels_18 : decode cX6_hasLevels 18 = .ok (.istore_n 3, 1) := by decide +kernel
theorem dX6_hasLevels_19 : decode cX6_hasLevels 19 = .ok (.iload_n 3, 1) := by decide +kernel
theorem dX6_hasLevels_20 : decode cX6_hasLevels 20 = .ok (.iload_n 2, 1) := by decide +kernel
theorem dX6_hasLevels_21 : decode cX6_hasLevels 21 = .ok (.if_icmp .ge 30, 3) := by decide +kernel
theorem dX6_hasLevels_24 : decode cX6_hasLevels 24 = .ok (.aload_n 0, 1) := by decide +kernel
theorem dX6_hasLevels_25 : decode cX6_hasLevels 25 = .ok (.getfield 41, 3) := by decide +kernel
theorem dX6_hasLevels_28 : decode cX6_hasLevels 28 = .ok (.iload_n 1, 1) := by decide +kernel
theorem dX6_hasLevels_29 : decode cX6_hasLevels 29 = .ok (.iload_n 3, 1) := by decide +kernel
theorem dX6_hasLevels_30 : decode cX6_hasLevels 30 = .ok (.iadd, 1) := by decide +kernel
theorem dX6_hasLevels_31 : decode cX6_hasLevels 31 = .ok (.iaload, 1) := by decide +kernel
theorem dX6_hasLevels_32 : decode cX6_hasLevels 32 = .ok (.aload_n 0, 1) := by decide +kernel
theorem dX6_hasLevels_33 : decode cX6_hasLevels 33 = .ok (.getfield 12, 3) := by decide +kernel
theorem dX6_hasLevels_36 : decode cX6_hasLevels 36 = .ok (.iload_n 3, 1) := by decide +kernel
theorem dX6_hasLevels_37 : decode cX6_hasLevels 37 = .ok (.invokevirtual 177, 3) := by decide +kernel
theorem dX6_hasLevels_40 : decode cX6_hasLevels 40 = .ok (.if_icmp .eq 5, 3) := by decide +kernel
theorem dX6_hasLevels_43 : decode cX6_hasLevels 43 = .ok (.iconst 0, 1) := by decide +kernel
theorem dX6_hasLevels_44 : decode cX6_hasLevels 44 = .ok (.ireturn, 1) := by decide +kernel
theorem dX6_hasLevels_45 : decode cX6_hasLevels 45 = .ok (.iinc 3 1, 3) := by decide +kernel
theorem dX6_hasLevels_48 : decode cX6_hasLevels 48 = .ok (.goto (-29), 3) := by decide +kernel
theorem dX6_hasLevels_51 : decode cX6_hasLevels 51 = .ok (.iconst 1, 1) := by decide +kernel
theorem dX6_hasLevels_52 : decode cX6_hasLevels 52 = .ok (.ireturn, 1) := by decide +kernel
set_option maxRecDepth 20000 in
theorem ggX6_tellNumber_X6_tell : GoodIn wsX6_tellNumber wsX6_tell := goodIn_r _ [5, 6, 7, 8, 9, 10, 11, 12, 13, 14, 15, 16, 17, 18, 19, 20, 21, 22, 23] (by decide +kernel) (by decide +kernel)
set_option maxRecDepth 20000 in
theorem gX6_tellNumber_X6_tell : GoodIn wsX6_tellNumber (wsV RX6 148 RX6 yX6_tell wsX6_tell) := goodIn_app (goodIn_of _ (by decide +kernel)) ggX6_tellNumber_X6_tell
theorem dX6_tellNumber_0 : decode cX6_tellNumber 0 = .ok (.iconst 1, 1) := by decide +kernel
theorem dX6_tellNumber_1 : decode cX6_tellNumber 1 = .ok (.istore_n 2, 1) := by decide +kernel
theorem dX6_tellNumber_2 : decode cX6_tellNumber 2 = .ok (.iload_n 2, 1) := by decide +kernel
theorem dX6_tellNumber_3 : decode cX6_tellNumber 3 = .ok (.sipush 1000, 3) := by decide +kernel
theorem dX6_tellNumber_6 : decode cX6_tellNumber 6 = .ok (.if_icmp .ge 19, 3) := by decide +kernel
theorem dX6_tellNumber_9 : decode cX6_tellNumber 9 = .ok (.iload_n 2, 1) := by decide +kernel
theorem dX6_tellNumber_10 : decode cX6_tellNumber 10 = .ok (.bipush 10, 2) := by decide +kernel
theorem dX6_tellNumber_12 : decode cX6_tellNumber 12 = .ok (.imul, 1) := by decide +kernel
theorem dX6_tellNumber_13 : decode cX6_tellNumber 13 = .ok (.iload_n 1, 1) := by decide +kernel
theorem dX6_tellNumber_14 : decode cX6_tellNumber 14 = .ok (.if_icmp .gt 11, 3) := by decide +kernel
theorem dX6_tellNumber_17 : decode cX6_tellNumber 17 = .ok (.iload_n 2, 1) := by decide +kernel
theorem dX6_tellNumber_18 : decode cX6_tellNumber 18 = .ok (.bipush 10, 2) := by decide +kernel
theorem dX6_tellNumber_20 : decode cX6_tellNumber 20 = .ok (.imul, 1) := by decide +kernel
theorem dX6_tellNumber_21 : decode cX6_tellNumber 21 = .ok (.istore_n 2, 1) := by decide +kernel
theorem dX6_tellNumber_22 : decode cX6_tellNumber 22 = .ok (.goto (-20), 3) := by decide +kernel
theorem dX6_tellNumber_25 : decode cX6_tellNumber 25 = .ok (.iconst 1, 1) := by decide +kernel
theorem dX6_tellNumber_26 : decode cX6_tellNumber 26 = .ok (.istore_n 3, 1) := by decide +kernel
theorem dX6_tellNumber_27 : decode cX6_tellNumber 27 = .ok (.iload_n 2, 1) := by decide +kernel
theorem dX6_tellNumber_28 : decode cX6_tellNumber 28 = .ok (.istore 4, 2) := by decide +kernel
theorem dX6_tellNumber_30 : decode cX6_tellNumber 30 = .ok (.iload 4, 2) := by decide +kernel
theorem dX6_tellNumber_32 : decode cX6_tellNumber 32 = .ok (.ifCond .le 41, 3) := by decide +kernel
theorem dX6_tellNumber_35 : decode cX6_tellNumber 35 = .ok (.aload_n 0, 1) := by decide +kernel
theorem dX6_tellNumber_36 : decode cX6_tellNumber 36 = .ok (.bipush 48, 2) := by decide +kernel
theorem dX6_tellNumber_38 : decode cX6_tellNumber 38 = .ok (.iload_n 1, 1) := by decide +kernel
theorem dX6_tellNumber_39 : decode cX6_tellNumber 39 = .ok (.iload 4, 2) := by decide +kernel
theorem dX6_tellNumber_41 : decode cX6_tellNumber 41 = .ok (.idiv, 1) := by decide +kernel
theorem dX6_tellNumber_42 : decode cX6_tellNumber 42 = .ok (.bipush 10, 2) := by decide +kernel
theorem dX6_tellNumber_44 : decode cX6_tellNumber 44 = .ok (.irem, 1) := by decide +kernel
theorem dX6_tellNumber_45 : decode cX6_tellNumber 45 = .ok (.iadd, 1) := by decide +kernel
theorem dX6_tellNumber_46 : decode cX6_tellNumber 46 = .ok (.i2c, 1) := by decide +kernel
theorem dX6_tellNumber_47 : decode cX6_tellNumber 47 = .ok (.invokevirtual 148, 3) := by decide +kernel
theorem dX6_tellNumber_50 : decode cX6_tellNumber 50 = .ok (.ifCond .eq 11, 3) := by decide +kernel
theorem dX6_tellNumber_53 : decode cX6_tellNumber 53 = .ok (.iload_n 3, 1) := by decide +kernel
theorem dX6_tellNumber_54 : decode cX6_tellNumber 54 = .ok (.ifCond .eq 7, 3) := by decide +kernel
theorem dX6_tellNumber_57 : decode cX6_tellNumber 57 = .ok (.iconst 1, 1) := by decide +kernel
theorem dX6_tellNumber_58 : decode cX6_tellNumber 58 = .ok (.goto 4, 3) := by decide +kernel
theorem dX6_tellNumber_61 : decode cX6_tellNumber 61 = .ok (.iconst 0, 1) := by decide +kernel
theorem dX6_tellNumber_62 : decode cX6_tellNumber 62 = .ok (.istore_n 3, 1) := by decide +kernel
theorem dX6_tellNumber_63 : decode cX6_tellNumber 63 = .ok (.iload 4, 2) := by decide +kernel
theorem dX6_tellNumber_65 : decode cX6_tellNumber 65 = .ok (.bipush 10, 2) := by decide +kernel
theorem dX6_tellNumber_67 : decode cX6_tellNumber 67 = .ok (.idiv, 1) := by decide +kernel
theorem dX6_tellNumber_68 : decode cX6_tellNumber 68 = .ok (.istore 4, 2) := by decide +kernel
theorem dX6_tellNumber_70 : decode cX6_tellNumber 70 = .ok (.goto (-40), 3) := by decide +kernel
theorem dX6_tellNumber_73 : decode cX6_tellNumber 73 = .ok (.iload_n 3, 1) := by decide +kernel
theorem dX6_tellNumber_74 : decode cX6_tellNumber 74 = .ok (.ireturn, 1) := by decide +kernel
set_option maxRecDepth 20000 in
theorem ggX6_readVariable_X2_indexOf : GoodIn wsX6_readVariable wsX2_indexOf := goodIn_r _ [9, 10, 51, 52, 53, 54, 55, 56, 57, 58, 59, 60] (by decide +kernel) (by decide +kernel)
set_option maxRecDepth 20000 in
theorem gX6_readVariable_X2_indexOf : GoodIn wsX6_readVariable (wsV RX6 103 RX2 yX2_indexOf wsX2_indexOf) := goodIn_app (goodIn_of _ (by decide +kernel)) ggX6_readVariable_X2_indexOf
set_option maxRecDepth 20000 in
theorem ggX6_readVariable_X6_hasLevels : GoodIn wsX6_readVariable wsX6_hasLevels := goodIn_r _ [15, 16, 17, 18, 19, 20, 21, 22, 23, 24, 35, 36, 37, 38, 39, 40, 41, 42, 43, 44, 45, 46, 47, 48, 49, 50, 61, 62, 63, 64, 65, 66, 67, 68] (by decide +kernel) (by decide +kernel)
set_option maxRecDepth 20000 in
theorem gX6_readVariable_X6_hasLevels : GoodIn wsX6_readVariable (wsV RX6 158 RX6 yX6_hasLevels wsX6_hasLevels) := goodIn_app (goodIn_of _ (by decide +kernel)) ggX6_readVariable_X6_hasLevels
set_option maxRecDepth 20000 in
theorem ggX6_readVariable_X6_tellNumber : GoodIn wsX6_readVariable wsX6_tellNumber := goodIn_r _ [28, 29, 30, 31, 14, 32, 33, 34, 35, 36, 37, 38, 39, 40, 41, 42, 43, 44, 45, 46, 47, 48, 49, 50] (by decide +kernel) (by decide +kernel)
set_option maxRecDepth 20000 in
theorem gX6_readVariable_X6_tellNumber : GoodIn wsX6_readVariable (wsV RX6 162 RX6 yX6_tellNumber wsX6_tellNumber) := goodIn_app (goodIn_of _ (by decide +kernel)) ggX6_readVariable_X6_tellNumber
theorem dX6_readVariable_0 : decode cX6_readVariable 0 = .ok (.aload_n 0, 1) := by decide +kernel
theorem dX6_readVariable_1 : decode cX6_readVariable 1 = .ok (.getfield 44, 3) := by decide +kernel
theorem dX6_readVariable_4 : decode cX6_readVariable 4 = .ok (.iload_n 1, 1) := by decide +kernel
theorem dX6_readVariable_5 : decode cX6_readVariable 5 = .ok (.invokevirtual 103, 3) := by decide +kernel
theorem dX6_readVariable_8 : decode cX6_readVariable 8 = .ok (.istore_n 2, 1) := by decide +kernel
theorem dX6_readVariable_9 : decode cX6_readVariable 9 = .ok (.aload_n 0, 1) := by decide +kernel
theorem dX6_readVariable_10 : decode cX6_readVariable 10 = .ok (.getfield 61, 3) := by decide +kernel
theorem dX6_readVariable_13 : decode cX6_readVariable 13 = .ok (.iconst 1, 1) := by decide +kernel
theorem dX6_readVariable_14 : decode cX6_readVariable 14 = .ok (.isub, 1) := by decide +kernel
theorem dX6_readVariable_15 : decode cX6_readVariable 15 = .ok (.istore_n 3, 1) := by decide +kernel
theorem dX6_readVariable_16 : decode cX6_readVariable 16 = .ok (.iload_n 3, 1) := by decide +kernel
theorem dX6_readVariable_17 : decode cX6_readVariable 17 = .ok (.ifCond .lt 55, 3) := by decide +kernel
theorem dX6_readVariable_20 : decode cX6_readVariable 20 = .ok (.aload_n 0, 1) := by decide +kernel
theorem dX6_readVariable_21 : decode cX6_readVariable 21 = .ok (.getfield 35, 3) := by decide +kernel
theorem dX6_readVariable_24 : decode cX6_readVariable 24 = .ok (.iload_n 3, 1) := by decide +kernel
theorem dX6_readVariable_25 : decode cX6_readVariable 25 = .ok (.iaload, 1) := by decide +kernel
theorem dX6_readVariable_26 : decode cX6_readVariable 26 = .ok (.iload_n 1, 1) := by decide +kernel
theorem dX6_readVariable_27 : decode cX6_readVariable 27 = .ok (.if_icmp .ne 39, 3) := by decide +kernel
theorem dX6_readVariable_30 : decode cX6_readVariable 30 = .ok (.aload_n 0, 1) := by decide +kernel
theorem dX6_readVariable_31 : decode cX6_readVariable 31 = .ok (.aload_n 0, 1) := by decide +kernel
theorem dX6_readVariable_32 : decode cX6_readVariable 32 = .ok (.getfield 38, 3) := by decide +kernel
theorem dX6_readVariable_35 : decode cX6_readVariable 35 = .ok (.iload_n 3, 1) := by decide +kernel
theorem dX6_readVariable_36 : decode cX6_readVariable 36 = .ok (.iaload, 1) := by decide +kernel
theorem dX6_readVariable_37 : decode cX6_readVariable 37 = .ok (.iload_n 2, 1) := by decide +kernel
theorem dX6_readVariable_38 : decode cX6_readVariable 38 = .ok (.invokevirtual 158, 3) := by decide +kernel
theorem dX6_readVariable_41 : decode cX6_readVariable 41 = .ok (.ifCond .eq 25, 3) := by decide +kernel
theorem dX6_readVariable_44 : decode cX6_readVariable 44 = .ok (.aload_n 0, 1) := by decide +kernel
theorem dX6_readVariable_45 : decode cX6_readVariable 45 = .ok (.aload_n 0, 1) := by decide +kernel
theorem dX6_readVariable_46 : decode cX6_readVariable 46 = .ok (.getfield 61, 3) := by decide +kernel
theorem dX6_readVariable_49 : decode cX6_readVariable 49 = .ok (.iconst 1, 1) := by decide +kernel
theorem dX6_readVariable_50 : decode cX6_readVariable 50 = .ok (.isub, 1) := by decide +kernel
theorem dX6_readVariable_51 : decode cX6_readVariable 51 = .ok (.iload_n 3, 1) := by decide +kernel
theorem dX6_readVariable_52 : decode cX6_readVariable 52 = .ok (.isub, 1) := by decide +kernel
theorem dX6_readVariable_53 : decode cX6_readVariable 53 = .ok (.invokevirtual 162, 3) := by decide +kernel
theorem dX6_readVariable_56 : decode cX6_readVariable 56 = .ok (.ifCond .eq 8, 3) := by decide +kernel
theorem dX6_readVariable_59 : decode cX6_readVariable 59 = .ok (.bipush 7, 2) := by decide +kernel
theorem dX6_readVariable_61 : decode cX6_readVariable 61 = .ok (.goto 4, 3) := by decide +kernel
theorem dX6_readVariable_64 : decode cX6_readVariable 64 = .ok (.iconst 3, 1) := by decide +kernel
theorem dX6_readVariable_65 : decode cX6_readVariable 65 = .ok (.ireturn, 1) := by decide +kernel
theorem dX6_readVariable_66 : decode cX6_readVariable 66 = .ok (.iinc 3 (-1), 3) := by decide +kernel
theorem dX6_readVariable_69 : decode cX6_readVariable 69 = .ok (.goto (-53), 3) := by decide +kernel
theorem dX6_readVariable_72 : decode cX6_readVariable 72 = .ok (.iconst 4, 1) := by decide +kernel
theorem dX6_readVariable_73 : decode cX6_readVariable 73 = .ok (.ireturn, 1) := by decide +kernel
set_option maxRecDepth 20000 in
theorem ggX6_atLambda_X6_readAbstraction : GoodIn wsX6_atLambda wsX6_readAbstraction := goodIn_r _ [5, 6, 7, 8, 9, 10, 11, 12, 13, 4, 14, 15, 16, 17, 18, 19, 20, 21, 22, 23, 24, 25, 26, 27, 28, 29, 30, 31, 32, 33, 34, 35, 36, 37, 38, 39, 40, 41, 42, 43, 44, 45, 46, 47, 48, 49, 50, 51, 52, 53, 54, 55, 56, 57, 58, 59, 60, 61, 62, 75, 76, 77, 78, 79, 80, 81, 82, 83, 84, 85, 86, 87, 88, 89, 90, 91, 92, 93, 94, 95, 96, 97, 98, 99, 100, 101, 102, 103, 104, 105, 106, 107, 108] (by decide +kernel) (by decide +kernel)
set_option maxRecDepth 20000 in
theorem gX6_atLambda_X6_readAbstraction : GoodIn wsX6_atLambda (wsV RX6 142 RX6 yX6_readAbstraction wsX6_readAbstraction) := goodIn_app (goodIn_of _ (by decide +kernel)) ggX6_atLambda_X6_readAbstraction
set_option maxRecDepth 20000 in
theorem ggX6_atLambda_X6_readVariable : GoodIn wsX6_atLambda wsX6_readVariable := goodIn_r _ [66, 10, 6, 7, 8, 17, 18, 19, 20, 21, 22, 67, 68, 69, 4, 70, 27, 28, 35, 36, 37, 38, 39, 40, 41, 71, 72, 73, 74, 11, 12, 13, 14, 15, 16, 75, 76, 77, 78, 79, 80, 81, 82, 83, 84, 85, 86, 87, 88, 89, 90, 91, 92, 93, 94, 95, 96, 97, 98, 99, 100, 101, 102, 103, 104, 105, 106, 107, 108] (by decide +kernel) (by decide +kernel)
set_option maxRecDepth 20000 in
theorem gX6_atLambda_X6_readVariable : GoodIn wsX6_atLambda (wsV RX6 145 RX6 yX6_readVariable wsX6_readVariable) := goodIn_app (goodIn_of _ (by decide +kernel)) ggX6_atLambda_X6_readVariable
theorem dX6_atLambda_0 : decode cX6_atLambda 0 = .ok (.iload_n 2, 1) := by decide +kernel
theorem dX6_atLambda_1 : decode cX6_atLambda 1 = .ok (.lookupswitch 39 #[(0, 27), (2, 33)], 27) := by decide +kernel
theorem dX6_atLambda_28 : decode cX6_atLambda 28 = .ok (.aload_n 0, 1) := by decide +kernel
theorem dX6_atLambda_29 : decode cX6_atLambda 29 = .ok (.iload_n 1, 1) := by decide +kernel
theorem dX6_atLambda_30 : decode cX6_atLambda 30 = .ok (.invokevirtual 142, 3) := by decide +kernel
theorem dX6_atLambda_33 : decode cX6_atLambda 33 = .ok (.ireturn, 1) := by decide +kernel
theorem dX6_atLambda_34 : decode cX6_atLambda 34 = .ok (.aload_n 0, 1) := by decide +kernel
theorem dX6_atLambda_35 : decode cX6_atLambda 35 = .ok (.iload_n 1, 1) := by decide +kernel
theorem dX6_atLambda_36 : decode cX6_atLambda 36 = .ok (.invokevirtual 145, 3) := by decide +kernel
theorem dX6_atLambda_39 : decode cX6_atLambda 39 = .ok (.ireturn, 1) := by decide +kernel
theorem dX6_atLambda_40 : decode cX6_atLambda 40 = .ok (.iconst 4, 1) := by decide +kernel
theorem dX6_atLambda_41 : decode cX6_atLambda 41 = .ok (.ireturn, 1) := by decide +kernel
set_option maxRecDepth 20000 in
theorem ggX6_readApplication_X6_tell : GoodIn wsX6_readApplication wsX6_tell := goodIn_r _ [5, 6, 7, 31, 32, 33, 34, 35, 36, 37, 38, 39, 40, 41, 42, 43, 44, 45, 46] (by decide +kernel) (by decide +kernel)
set_option maxRecDepth 20000 in
theorem gX6_readApplication_X6_tell : GoodIn wsX6_readApplication (wsV RX6 148 RX6 yX6_tell wsX6_tell) := goodIn_app (goodIn_of _ (by decide +kernel)) ggX6_readApplication_X6_tell
set_option maxRecDepth 20000 in
theorem ggX6_readApplication_X6_push : GoodIn wsX6_readApplication wsX6_push := goodIn_r _ [11, 12, 13, 14, 15, 16, 17, 18, 19, 20, 21, 22, 31, 32, 33, 34, 35, 36, 37, 38, 39, 40, 41, 42, 43, 44, 45, 46, 47, 48, 49, 50, 51, 52, 53, 54] (by decide +kernel) (by decide +kernel)
set_option maxRecDepth 20000 in
theorem gX6_readApplication_X6_push : GoodIn wsX6_readApplication (wsV RX6 155 RX6 yX6_push wsX6_push) := goodIn_app (goodIn_of _ (by decide +kernel)) ggX6_readApplication_X6_push
set_option maxRecDepth 20000 in
theorem ggX6_readApplication_X6_leaveBy : GoodIn wsX6_readApplication wsX6_leaveBy := goodIn_r _ [26, 27, 28, 29, 30, 31, 32, 33, 34, 35, 36, 37, 38, 39, 40, 41, 42, 43, 44, 45, 46] (by decide +kernel) (by decide +kernel)
set_option maxRecDepth 20000 in
theorem gX6_readApplication_X6_leaveBy : GoodIn wsX6_readApplication (wsV RX6 119 RX6 yX6_leaveBy wsX6_leaveBy) := goodIn_app (goodIn_of _ (by decide +kernel)) ggX6_readApplication_X6_leaveBy
theorem dX6_readApplication_0 : decode cX6_readApplication 0 = .ok (.aload_n 0, 1) := by decide +kernel
theorem dX6_readApplication_1 : decode cX6_readApplication 1 = .ok (.bipush 40, 2) := by decide +kernel
theorem dX6_readApplication_3 : decode cX6_readApplication 3 = .ok (.invokevirtual 148, 3) := by decide +kernel
theorem dX6_readApplication_6 : decode cX6_readApplication 6 = .ok (.ifCond .ne 5, 3) := by decide +kernel
theorem dX6_readApplication_9 : decode cX6_readApplication 9 = .ok (.iconst 3, 1) := by decide +kernel
theorem dX6_readApplication_10 : decode cX6_readApplication 10 = .ok (.ireturn, 1) := by decide +kernel
theorem dX6_readApplication_11 : decode cX6_readApplication 11 = .ok (.aload_n 0, 1) := by decide +kernel
theorem dX6_readApplication_12 : decode cX6_readApplication 12 = .ok (.iconst 1, 1) := by decide +kernel
theorem dX6_readApplication_13 : decode cX6_readApplication 13 = .ok (.iload_n 1, 1) := by decide +kernel
theorem dX6_readApplication_14 : decode cX6_readApplication 14 = .ok (.invokevirtual 155, 3) := by decide +kernel
theorem dX6_readApplication_17 : decode cX6_readApplication 17 = .ok (.aload_n 0, 1) := by decide +kernel
theorem dX6_readApplication_18 : decode cX6_readApplication 18 = .ok (.iload_n 1, 1) := by decide +kernel
theorem dX6_readApplication_19 : decode cX6_readApplication 19 = .ok (.iconst 0, 1) := by decide +kernel
theorem dX6_readApplication_20 : decode cX6_readApplication 20 = .ok (.invokevirtual 119, 3) := by decide +kernel
theorem dX6_readApplication_23 : decode cX6_readApplication 23 = .ok (.ireturn, 1) := by decide +kernel
set_option maxRecDepth 20000 in
theorem ggX6_atBracket_X1_split : GoodIn wsX6_atBracket wsX1_split := goodIn_r _ [6, 7, 8, 9, 10, 5, 11, 12, 13, 14, 15, 16, 17, 18, 19, 20, 21, 22, 23, 24, 25, 26, 27, 28, 29, 30, 31, 32, 33, 34, 35, 36, 37, 38, 39, 40, 41, 42, 43, 44, 45, 46, 47, 48, 49, 50, 51, 52, 53, 54, 55, 102, 103, 104, 105, 106, 107, 108, 109, 110, 111, 112, 113, 114, 115] (by decide +kernel) (by decide +kernel)
set_option maxRecDepth 20000 in
theorem gX6_atBracket_X1_split : GoodIn wsX6_atBracket (wsV RX6 129 RX1 yX1_split wsX1_split) := goodIn_app (goodIn_of _ (by decide +kernel)) ggX6_atBracket_X1_split
set_option maxRecDepth 20000 in
theorem ggX6_atBracket_X6_leaveBy : GoodIn wsX6_atBracket wsX6_leaveBy := goodIn_r _ [60, 61, 62, 63, 64, 86, 87, 88, 89, 90, 91, 92, 93, 94, 95, 96, 97, 98, 99, 100, 101] (by decide +kernel) (by decide +kernel)
set_option maxRecDepth 20000 in
theorem gX6_atBracket_X6_leaveBy : GoodIn wsX6_atBracket (wsV RX6 119 RX6 yX6_leaveBy wsX6_leaveBy) := goodIn_app (goodIn_of _ (by decide +kernel)) ggX6_atBracket_X6_leaveBy
set_option maxRecDepth 20000 in
theorem ggX6_atBracket_X1_pairUp : GoodIn wsX6_atBracket wsX1_pairUp := goodIn_r _ [68, 7, 21, 22, 23, 5, 24, 25, 26, 27, 28, 29, 8, 9, 10, 11, 12, 13, 30, 31, 32, 17, 33, 19, 69, 70, 71, 72, 73, 20, 38, 47, 74, 75, 76, 77, 78, 79, 80, 81, 39, 40, 41, 42, 82, 83, 84, 85, 52, 53, 54, 55, 102, 103, 104, 105, 106, 107, 108, 109, 110, 111, 112, 113, 114, 115] (by decide +kernel) (by decide +kernel)
set_option maxRecDepth 20000 in
theorem gX6_atBracket_X1_pairUp : GoodIn wsX6_atBracket (wsV RX6 132 RX1 yX1_pairUp wsX1_pairUp) := goodIn_app (goodIn_of _ (by decide +kernel)) ggX6_atBracket_X1_pairUp
theorem dX6_atBracket_0 : decode cX6_atBracket 0 = .ok (.iload_n 3, 1) := by decide +kernel
theorem dX6_atBracket_1 : decode cX6_atBracket 1 = .ok (.ifCond .ne 25, 3) := by decide +kernel
theorem dX6_atBracket_4 : decode cX6_atBracket 4 = .ok (.aload_n 0, 1) := by decide +kernel
theorem dX6_atBracket_5 : decode cX6_atBracket 5 = .ok (.getfield 12, 3) := by decide +kernel
theorem dX6_atBracket_8 : decode cX6_atBracket 8 = .ok (.iload_n 2, 1) := by decide +kernel
theorem dX6_atBracket_9 : decode cX6_atBracket 9 = .ok (.invokevirtual 129, 3) := by decide +kernel
theorem dX6_atBracket_12 : decode cX6_atBracket 12 = .ok (.ifCond .eq 12, 3) := by decide +kernel
theorem dX6_atBracket_15 : decode cX6_atBracket 15 = .ok (.aload_n 0, 1) := by decide +kernel
theorem dX6_atBracket_16 : decode cX6_atBracket 16 = .ok (.iload_n 1, 1) := by decide +kernel
theorem dX6_atBracket_17 : decode cX6_atBracket 17 = .ok (.iconst 1, 1) := by decide +kernel
theorem dX6_atBracket_18 : decode cX6_atBracket 18 = .ok (.invokevirtual 119, 3) := by decide +kernel
theorem dX6_atBracket_21 : decode cX6_atBracket 21 = .ok (.goto 4, 3) := by decide +kernel
theorem dX6_atBracket_24 : decode cX6_atBracket 24 = .ok (.iconst 4, 1) := by decide +kernel
theorem dX6_atBracket_25 : decode cX6_atBracket 25 = .ok (.ireturn, 1) := by decide +kernel
theorem dX6_atBracket_26 : decode cX6_atBracket 26 = .ok (.aload_n 0, 1) := by decide +kernel
theorem dX6_atBracket_27 : decode cX6_atBracket 27 = .ok (.getfield 12, 3) := by decide +kernel
theorem dX6_atBracket_30 : decode cX6_atBracket 30 = .ok (.iload_n 2, 1) := by decide +kernel
theorem dX6_atBracket_31 : decode cX6_atBracket 31 = .ok (.invokevirtual 132, 3) := by decide +kernel
theorem dX6_atBracket_34 : decode cX6_atBracket 34 = .ok (.aload_n 0, 1) := by decide +kernel
theorem dX6_atBracket_35 : decode cX6_atBracket 35 = .ok (.iload_n 1, 1) := by decide +kernel
theorem dX6_atBracket_36 : decode cX6_atBracket 36 = .ok (.iconst 0, 1) := by decide +kernel
theorem dX6_atBracket_37 : decode cX6_atBracket 37 = .ok (.invokevirtual 119, 3) := by decide +kernel
theorem dX6_atBracket_40 : decode cX6_atBracket 40 = .ok (.ireturn, 1) := by decide +kernel
set_option maxRecDepth 20000 in
theorem ggX6_atFan_X1_leaveFan : GoodIn wsX6_atFan wsX1_leaveFan := goodIn_r _ [6, 7, 8, 9, 10, 5, 11, 12, 13, 14, 15, 16, 17, 18, 19, 20, 21, 22, 23, 24, 25, 26, 27, 28, 29, 30, 31, 32, 33, 34, 35, 36, 37, 38, 39, 40, 41, 42, 86, 87, 88, 89, 90, 91, 92, 93, 94, 95, 96, 97, 98, 99] (by decide +kernel) (by decide +kernel)
set_option maxRecDepth 20000 in
theorem gX6_atFan_X1_leaveFan : GoodIn wsX6_atFan (wsV RX6 135 RX1 yX1_leaveFan wsX1_leaveFan) := goodIn_app (goodIn_of _ (by decide +kernel)) ggX6_atFan_X1_leaveFan
set_option maxRecDepth 20000 in
theorem ggX6_atFan_X6_leaveBy : GoodIn wsX6_atFan wsX6_leaveBy := goodIn_r _ [47, 48, 49, 50, 51, 70, 71, 72, 73, 74, 75, 76, 77, 78, 79, 80, 81, 82, 83, 84, 85] (by decide +kernel) (by decide +kernel)
set_option maxRecDepth 20000 in
theorem gX6_atFan_X6_leaveBy : GoodIn wsX6_atFan (wsV RX6 119 RX6 yX6_leaveBy wsX6_leaveBy) := goodIn_app (goodIn_of _ (by decide +kernel)) ggX6_atFan_X6_leaveBy
set_option maxRecDepth 20000 in
theorem ggX6_atFan_X1_enterFan : GoodIn wsX6_atFan wsX1_enterFan := goodIn_r _ [55, 7, 21, 22, 23, 5, 24, 25, 26, 27, 28, 29, 8, 9, 10, 11, 12, 13, 30, 31, 32, 17, 33, 19, 56, 57, 58, 59, 60, 20, 38, 61, 62, 63, 64, 65, 66, 67, 68, 69, 39, 40, 41, 42, 86, 87, 88, 89, 90, 91, 92, 93, 94, 95, 96, 97, 98, 99] (by decide +kernel) (by decide +kernel)
set_option maxRecDepth 20000 in
theorem gX6_atFan_X1_enterFan : GoodIn wsX6_atFan (wsV RX6 138 RX1 yX1_enterFan wsX1_enterFan) := goodIn_app (goodIn_of _ (by decide +kernel)) ggX6_atFan_X1_enterFan
theorem dX6_atFan_0 : decode cX6_atFan 0 = .ok (.iload_n 3, 1) := by decide +kernel
theorem dX6_atFan_1 : decode cX6_atFan 1 = .ok (.ifCond .ne 31, 3) := by decide +kernel
theorem dX6_atFan_4 : decode cX6_atFan 4 = .ok (.aload_n 0, 1) := by decide +kernel
theorem dX6_atFan_5 : decode cX6_atFan 5 = .ok (.getfield 12, 3) := by decide +kernel
theorem dX6_atFan_8 : decode cX6_atFan 8 = .ok (.iload_n 2, 1) := by decide +kernel
theorem dX6_atFan_9 : decode cX6_atFan 9 = .ok (.invokevirtual 135, 3) := by decide +kernel
theorem dX6_atFan_12 : decode cX6_atFan 12 = .ok (.istore 4, 2) := by decide +kernel
theorem dX6_atFan_14 : decode cX6_atFan 14 = .ok (.iload 4, 2) := by decide +kernel
theorem dX6_atFan_16 : decode cX6_atFan 16 = .ok (.iconst (-1), 1) := by decide +kernel
theorem dX6_atFan_17 : decode cX6_atFan 17 = .ok (.if_icmp .ne 7, 3) := by decide +kernel
theorem dX6_atFan_20 : decode cX6_atFan 20 = .ok (.iconst 4, 1) := by decide +kernel
theorem dX6_atFan_21 : decode cX6_atFan 21 = .ok (.goto 10, 3) := by decide +kernel
theorem dX6_atFan_24 : decode cX6_atFan 24 = .ok (.aload_n 0, 1) := by decide +kernel
theorem dX6_atFan_25 : decode cX6_atFan 25 = .ok (.iload_n 1, 1) := by decide +kernel
theorem dX6_atFan_26 : decode cX6_atFan 26 = .ok (.iload 4, 2) := by decide +kernel
theorem dX6_atFan_28 : decode cX6_atFan 28 = .ok (.invokevirtual 119, 3) := by decide +kernel
theorem dX6_atFan_31 : decode cX6_atFan 31 = .ok (.ireturn, 1) := by decide +kernel
theorem dX6_atFan_32 : decode cX6_atFan 32 = .ok (.aload_n 0, 1) := by decide +kernel
theorem dX6_atFan_33 : decode cX6_atFan 33 = .ok (.getfield 12, 3) := by decide +kernel
theorem dX6_atFan_36 : decode cX6_atFan 36 = .ok (.iload_n 2, 1) := by decide +kernel
theorem dX6_atFan_37 : decode cX6_atFan 37 = .ok (.iload_n 3, 1) := by decide +kernel
theorem dX6_atFan_38 : decode cX6_atFan 38 = .ok (.invokevirtual 138, 3) := by decide +kernel
theorem dX6_atFan_41 : decode cX6_atFan 41 = .ok (.aload_n 0, 1) := by decide +kernel
theorem dX6_atFan_42 : decode cX6_atFan 42 = .ok (.iload_n 1, 1) := by decide +kernel
theorem dX6_atFan_43 : decode cX6_atFan 43 = .ok (.iconst 0, 1) := by decide +kernel
theorem dX6_atFan_44 : decode cX6_atFan 44 = .ok (.invokevirtual 119, 3) := by decide +kernel
theorem dX6_atFan_47 : decode cX6_atFan 47 = .ok (.ireturn, 1) := by decide +kernel
set_option maxRecDepth 20000 in
theorem ggX6_arrive_X2_indexOf : GoodIn wsX6_arrive wsX2_indexOf := goodIn_r _ [7, 8, 196, 197, 198, 199, 200, 201, 202, 203, 204, 205] (by decide +kernel) (by decide +kernel)
set_option maxRecDepth 20000 in
theorem gX6_arrive_X2_indexOf : GoodIn wsX6_arrive (wsV RX6 103 RX2 yX2_indexOf wsX2_indexOf) := goodIn_app (goodIn_of _ (by decide +kernel)) ggX6_arrive_X2_indexOf
set_option maxRecDepth 20000 in
theorem ggX6_arrive_X2_kindOf : GoodIn wsX6_arrive wsX2_kindOf := goodIn_r _ [12, 13, 196, 197, 198, 199, 200, 201, 202, 203, 204, 205] (by decide +kernel) (by decide +kernel)
set_option maxRecDepth 20000 in
theorem gX6_arrive_X2_kindOf : GoodIn wsX6_arrive (wsV RX6 97 RX2 yX2_kindOf wsX2_kindOf) := goodIn_app (goodIn_of _ (by decide +kernel)) ggX6_arrive_X2_kindOf
set_option maxRecDepth 20000 in
theorem ggX6_arrive_X6_atLambda : GoodIn wsX6_arrive wsX6_atLambda := goodIn_r _ [18, 19, 20, 21, 17, 22, 23, 24, 25, 26, 1, 27, 28, 29, 30, 31, 32, 3, 4, 5, 6, 7, 8, 33, 34, 35, 36, 37, 2, 38, 39, 40, 41, 42, 43, 44, 45, 46, 47, 48, 49, 50, 51, 52, 53, 54, 55, 56, 57, 58, 59, 60, 61, 62, 63, 64, 65, 66, 67, 68, 69, 70, 71, 72, 73, 74, 75, 76, 77, 78, 79, 80, 81, 82, 83, 180, 181, 182, 183, 184, 185, 186, 187, 188, 189, 190, 191, 192, 193, 194, 195, 196, 197, 198, 199, 200, 201, 202, 203, 204, 205, 206, 207, 208, 209, 210, 211, 212, 213] (by decide +kernel) (by decide +kernel)
set_option maxRecDepth 20000 in
theorem gX6_arrive_X6_atLambda : GoodIn wsX6_arrive (wsV RX6 106 RX6 yX6_atLambda wsX6_atLambda) := goodIn_app (goodIn_of _ (by decide +kernel)) ggX6_arrive_X6_atLambda
set_option maxRecDepth 20000 in
theorem ggX6_arrive_X6_readApplication : GoodIn wsX6_arrive wsX6_readApplication := goodIn_r _ [87, 27, 28, 29, 17, 30, 31, 32, 51, 52, 53, 54, 55, 56, 57, 58, 2, 59, 60, 61, 47, 62, 63, 64, 65, 66, 67, 68, 69, 70, 71, 180, 181, 182, 183, 184, 185, 186, 187, 188, 189, 190, 191, 192, 193, 194, 195, 206, 207, 208, 209, 210, 211, 212, 213] (by decide +kernel) (by decide +kernel)
set_option maxRecDepth 20000 in
theorem gX6_arrive_X6_readApplication : GoodIn wsX6_arrive (wsV RX6 109 RX6 yX6_readApplication wsX6_readApplication) := goodIn_app (goodIn_of _ (by decide +kernel)) ggX6_arrive_X6_readApplication
set_option maxRecDepth 20000 in
theorem ggX6_arrive_X1_drop : GoodIn wsX6_arrive wsX1_drop := goodIn_r _ [91, 92, 93, 94, 47, 95, 63, 96, 97, 98, 99, 100, 101, 45, 46, 48, 49, 50, 102, 103, 104, 105, 106, 107, 108, 109, 110, 111, 112, 113, 114, 115, 206, 207, 208, 209, 210, 211, 212, 213, 214, 215, 216, 217, 218, 219] (by decide +kernel) (by decide +kernel)
set_option maxRecDepth 20000 in
theorem gX6_arrive_X1_drop : GoodIn wsX6_arrive (wsV RX6 112 RX1 yX1_drop wsX1_drop) := goodIn_app (goodIn_of _ (by decide +kernel)) ggX6_arrive_X1_drop
set_option maxRecDepth 20000 in
theorem ggX6_arrive_X1_addBox : GoodIn wsX6_arrive wsX1_addBox := goodIn_r _ [119, 92, 93, 94, 47, 95, 63, 96, 97, 98, 99, 100, 101, 45, 46, 48, 49, 50, 102, 103, 104, 105, 106, 107, 120, 121, 122, 123, 112, 113, 114, 115, 124, 125, 126, 127, 206, 207, 208, 209, 210, 211, 212, 213, 214, 215, 216, 217, 218, 219] (by decide +kernel) (by decide +kernel)
set_option maxRecDepth 20000 in
theorem gX6_arrive_X1_addBox : GoodIn wsX6_arrive (wsV RX6 116 RX1 yX1_addBox wsX1_addBox) := goodIn_app (goodIn_of _ (by decide +kernel)) ggX6_arrive_X1_addBox
set_option maxRecDepth 20000 in
theorem ggX6_arrive_X6_leaveBy : GoodIn wsX6_arrive wsX6_leaveBy := goodIn_r _ [67, 68, 69, 70, 71, 180, 181, 182, 183, 184, 185, 186, 187, 188, 189, 190, 191, 192, 193, 194, 195] (by decide +kernel) (by decide +kernel)
set_option maxRecDepth 20000 in
theorem gX6_arrive_X6_leaveBy : GoodIn wsX6_arrive (wsV RX6 119 RX6 yX6_leaveBy wsX6_leaveBy) := goodIn_app (goodIn_of _ (by decide +kernel)) ggX6_arrive_X6_leaveBy
set_option maxRecDepth 20000 in
theorem ggX6_arrive_X6_atBracket : GoodIn wsX6_arrive wsX6_atBracket := goodIn_r _ [131, 2, 132, 133, 134, 47, 135, 100, 101, 45, 46, 48, 49, 50, 136, 137, 138, 105, 139, 107, 140, 92, 93, 94, 95, 63, 96, 97, 98, 99, 102, 103, 104, 106, 141, 142, 143, 144, 145, 124, 125, 126, 127, 146, 147, 148, 149, 150, 120, 121, 122, 123, 112, 113, 114, 115, 64, 65, 66, 17, 67, 68, 69, 70, 71, 151, 152, 153, 154, 155, 156, 157, 158, 159, 160, 161, 162, 163, 164, 165, 166, 167, 108, 109, 110, 111, 180, 181, 182, 183, 184, 185, 186, 187, 188, 189, 190, 191, 192, 193, 194, 195, 206, 207, 208, 209, 210, 211, 212, 213, 214, 215, 216, 217, 218, 219] (by decide +kernel) (by decide +kernel)
set_option maxRecDepth 20000 in
theorem gX6_arrive_X6_atBracket : GoodIn wsX6_arrive (wsV RX6 122 RX6 yX6_atBracket wsX6_atBracket) := goodIn_app (goodIn_of _ (by decide +kernel)) ggX6_arrive_X6_atBracket
set_option maxRecDepth 20000 in
theorem ggX6_arrive_X6_atFan : GoodIn wsX6_arrive wsX6_atFan := goodIn_r _ [171, 2, 172, 173, 174, 47, 175, 100, 101, 45, 46, 48, 49, 50, 136, 137, 138, 105, 139, 107, 140, 92, 93, 94, 95, 63, 96, 97, 98, 99, 102, 103, 104, 106, 141, 142, 143, 144, 145, 124, 125, 126, 127, 64, 65, 66, 17, 67, 68, 69, 70, 71, 176, 177, 178, 179, 155, 156, 157, 158, 159, 150, 160, 161, 162, 163, 164, 165, 166, 167, 180, 181, 182, 183, 184, 185, 186, 187, 188, 189, 190, 191, 192, 193, 194, 195, 206, 207, 208, 209, 210, 211, 212, 213, 214, 215, 216, 217, 218, 219] (by decide +kernel) (by decide +kernel)
set_option maxRecDepth 20000 in
theorem gX6_arrive_X6_atFan : GoodIn wsX6_arrive (wsV RX6 126 RX6 yX6_atFan wsX6_atFan) := goodIn_app (goodIn_of _ (by decide +kernel)) ggX6_arrive_X6_atFan
theorem dX6_arrive_0 : decode cX6_arrive 0 = .ok (.aload_n 0, 1) := by decide +kernel
theorem dX6_arrive_1 : decode cX6_arrive 1 = .ok (.getfield 44, 3) := by decide +kernel
theorem dX6_arrive_4 : decode cX6_arrive 4 = .ok (.iload_n 1, 1) := by decide +kernel
theorem dX6_arrive_5 : decode cX6_arrive 5 = .ok (.invokevirtual 103, 3) := by decide +kernel
theorem dX6_arrive_8 : decode cX6_arrive 8 = .ok (.istore_n 3, 1) := by decide +kernel
theorem dX6_arrive_9 : decode cX6_arrive 9 = .ok (.aload_n 0, 1) := by decide +kernel
theorem dX6_arrive_10 : decode cX6_arrive 10 = .ok (.getfield 44, 3) := by decide +kernel
theorem dX6_arrive_13 : decode cX6_arrive 13 = .ok (.iload_n 1, 1) := by decide +kernel
theorem dX6_arrive_14 : decode cX6_arrive 14 = .ok (.invokevirtual 97, 3) := by decide +kernel
theorem dX6_arrive_17 : decode cX6_arrive 17 = .ok (.tableswitch 105 0 4 #[35, 42, 97, 57, 89], 35) := by decide +kernel
theorem dX6_arrive_52 : decode cX6_arrive 52 = .ok (.aload_n 0, 1) := by decide +kernel
theorem dX6_arrive_53 : decode cX6_arrive 53 = .ok (.iload_n 1, 1) := by decide +kernel
theorem dX6_arrive_54 : decode cX6_arrive 54 = .ok (.iload_n 2, 1) := by decide +kernel
theorem dX6_arrive_55 : decode cX6_arrive 55 = .ok (.invokevirtual 106, 3) := by decide +kernel
theorem dX6_arrive_58 : decode cX6_arrive 58 = .ok (.ireturn, 1) := by decide +kernel
theorem dX6_arrive_59 : decode cX6_arrive 59 = .ok (.iload_n 2, 1) := by decide +kernel
theorem dX6_arrive_60 : decode cX6_arrive 60 = .ok (.iconst 1, 1) := by decide +kernel
theorem dX6_arrive_61 : decode cX6_arrive 61 = .ok (.if_icmp .ne 11, 3) := by decide +kernel
theorem dX6_arrive_64 : decode cX6_arrive 64 = .ok (.aload_n 0, 1) := by decide +kernel
theorem dX6_arrive_65 : decode cX6_arrive 65 = .ok (.iload_n 1, 1) := by decide +kernel
theorem dX6_arrive_66 : decode cX6_arrive 66 = .ok (.invokevirtual 109, 3) := by decide +kernel
theorem dX6_arrive_69 : decode cX6_arrive 69 = .ok (.goto 4, 3) := by decide +kernel
theorem dX6_arrive_72 : decode cX6_arrive 72 = .ok (.iconst 4, 1) := by decide +kernel
theorem dX6_arrive_73 : decode cX6_arrive 73 = .ok (.ireturn, 1) := by decide +kernel
theorem dX6_arrive_74 : decode cX6_arrive 74 = .ok (.iload_n 2, 1) := by decide +kernel
theorem dX6_arrive_75 : decode cX6_arrive 75 = .ok (.ifCond .ne 14, 3) := by decide +kernel
theorem dX6_arrive_78 : decode cX6_arrive 78 = .ok (.aload_n 0, 1) := by decide +kernel
theorem dX6_arrive_79 : decode cX6_arrive 79 = .ok (.getfield 12, 3) := by decide +kernel
theorem dX6_arrive_82 : decode cX6_arrive 82 = .ok (.iload_n 3, 1) := by decide +kernel
theorem dX6_arrive_83 : decode cX6_arrive 83 = .ok (.invokevirtual 112, 3) := by decide +kernel
theorem dX6_arrive_86 : decode cX6_arrive 86 = .ok (.goto 11, 3) := by decide +kernel
theorem dX6_arrive_89 : decode cX6_arrive 89 = .ok (.aload_n 0, 1) := by decide +kernel
theorem dX6_arrive_90 : decode cX6_arrive 90 = .ok (.getfield 12, 3) := by decide +kernel
theorem dX6_arrive_93 : decode cX6_arrive 93 = .ok (.iload_n 3, 1) := by decide +kernel
theorem dX6_arrive_94 : decode cX6_arrive 94 = .ok (.invokevirtual 116, 3) := by decide +kernel
theorem dX6_arrive_97 : decode cX6_arrive 97 = .ok (.aload_n 0, 1) := by decide +kernel
theorem dX6_arrive_98 : decode cX6_arrive 98 = .ok (.iload_n 1, 1) := by decide +kernel
theorem dX6_arrive_99 : decode cX6_arrive 99 = .ok (.iconst 1, 1) := by decide +kernel
theorem dX6_arrive_100 : decode cX6_arrive 100 = .ok (.iload_n 2, 1) := by decide +kernel
theorem dX6_arrive_101 : decode cX6_arrive 101 = .ok (.isub, 1) := by decide +kernel
theorem dX6_arrive_102 : decode cX6_arrive 102 = .ok (.invokevirtual 119, 3) := by decide +kernel
theorem dX6_arrive_105 : decode cX6_arrive 105 = .ok (.ireturn, 1) := by decide +kernel
theorem dX6_arrive_106 : decode cX6_arrive 106 = .ok (.aload_n 0, 1) := by decide +kernel
theorem dX6_arrive_107 : decode cX6_arrive 107 = .ok (.iload_n 1, 1) := by decide +kernel
theorem dX6_arrive_108 : decode cX6_arrive 108 = .ok (.iload_n 3, 1) := by decide +kernel
theorem dX6_arrive_109 : decode cX6_arrive 109 = .ok (.iload_n 2, 1) := by decide +kernel
theorem dX6_arrive_110 : decode cX6_arrive 110 = .ok (.invokevirtual 122, 3) := by decide +kernel
theorem dX6_arrive_113 : decode cX6_arrive 113 = .ok (.ireturn, 1) := by decide +kernel
theorem dX6_arrive_114 : decode cX6_arrive 114 = .ok (.aload_n 0, 1) := by decide +kernel
theorem dX6_arrive_115 : decode cX6_arrive 115 = .ok (.iload_n 1, 1) := by decide +kernel
theorem dX6_arrive_116 : decode cX6_arrive 116 = .ok (.iload_n 3, 1) := by decide +kernel
theorem dX6_arrive_117 : decode cX6_arrive 117 = .ok (.iload_n 2, 1) := by decide +kernel
theorem dX6_arrive_118 : decode cX6_arrive 118 = .ok (.invokevirtual 126, 3) := by decide +kernel
theorem dX6_arrive_121 : decode cX6_arrive 121 = .ok (.ireturn, 1) := by decide +kernel
theorem dX6_arrive_122 : decode cX6_arrive 122 = .ok (.iconst 4, 1) := by decide +kernel
theorem dX6_arrive_123 : decode cX6_arrive 123 = .ok (.ireturn, 1) := by decide +kernel
theorem dX6_forgetBinder_0 : decode cX6_forgetBinder 0 = .ok (.aload_n 0, 1) := by decide +kernel
theorem dX6_forgetBinder_1 : decode cX6_forgetBinder 1 = .ok (.getfield 61, 3) := by decide +kernel
theorem dX6_forgetBinder_4 : decode cX6_forgetBinder 4 = .ok (.ifCond .le 36, 3) := by decide +kernel
theorem dX6_forgetBinder_7 : decode cX6_forgetBinder 7 = .ok (.aload_n 0, 1) := by decide +kernel
theorem dX6_forgetBinder_8 : decode cX6_forgetBinder 8 = .ok (.getfield 61, 3) := by decide +kernel
theorem dX6_forgetBinder_11 : decode cX6_forgetBinder 11 = .ok (.sipush 4000, 3) := by decide +kernel
theorem dX6_forgetBinder_14 : decode cX6_forgetBinder 14 = .ok (.if_icmp .gt 26, 3) := by decide +kernel
theorem dX6_forgetBinder_17 : decode cX6_forgetBinder 17 = .ok (.aload_n 0, 1) := by decide +kernel
theorem dX6_forgetBinder_18 : decode cX6_forgetBinder 18 = .ok (.dup, 1) := by decide +kernel
theorem dX6_forgetBinder_19 : decode cX6_forgetBinder 19 = .ok (.getfield 61, 3) := by decide +kernel
theorem dX6_forgetBinder_22 : decode cX6_forgetBinder 22 = .ok (.iconst 1, 1) := by decide +kernel
theorem dX6_forgetBinder_23 : decode cX6_forgetBinder 23 = .ok (.isub, 1) := by decide +kernel
theorem dX6_forgetBinder_24 : decode cX6_forgetBinder 24 = .ok (.putfield 61, 3) := by decide +kernel
theorem dX6_forgetBinder_27 : decode cX6_forgetBinder 27 = .ok (.aload_n 0, 1) := by decide +kernel
theorem dX6_forgetBinder_28 : decode cX6_forgetBinder 28 = .ok (.aload_n 0, 1) := by decide +kernel
theorem dX6_forgetBinder_29 : decode cX6_forgetBinder 29 = .ok (.getfield 38, 3) := by decide +kernel
theorem dX6_forgetBinder_32 : decode cX6_forgetBinder 32 = .ok (.aload_n 0, 1) := by decide +kernel
theorem dX6_forgetBinder_33 : decode cX6_forgetBinder 33 = .ok (.getfield 61, 3) := by decide +kernel
theorem dX6_forgetBinder_36 : decode cX6_forgetBinder 36 = .ok (.iaload, 1) := by decide +kernel
theorem dX6_forgetBinder_37 : decode cX6_forgetBinder 37 = .ok (.putfield 64, 3) := by decide +kernel
theorem dX6_forgetBinder_40 : decode cX6_forgetBinder 40 = .ok (.return_, 1) := by decide +kernel
set_option maxRecDepth 20000 in
theorem ggX6_endTerm_X1_undoTo : GoodIn wsX6_endTerm wsX1_undoTo := goodIn_r _ [11, 12, 13, 14, 15, 10, 16, 17, 18, 19, 20, 21, 22, 23, 24, 25, 26, 27, 28, 29, 30, 31, 32, 33, 34, 35, 36, 37, 38, 39, 40, 41, 42, 43, 44, 45, 46, 47, 48, 49, 50, 51, 52, 53, 54, 55, 56, 57, 58, 59, 60, 61, 95, 96, 97, 98, 99, 100, 101, 102, 103, 104, 105, 106, 107, 108] (by decide +kernel) (by decide +kernel)
set_option maxRecDepth 20000 in
theorem gX6_endTerm_X1_undoTo : GoodIn wsX6_endTerm (wsV RX6 165 RX1 yX1_undoTo wsX1_undoTo) := goodIn_app (goodIn_of _ (by decide +kernel)) ggX6_endTerm_X1_undoTo
set_option maxRecDepth 20000 in
theorem ggX6_endTerm_X7_portOf : GoodIn wsX6_endTerm wsX7_portOf := goodIn_r _ [64] (by decide +kernel) (by decide +kernel)
set_option maxRecDepth 20000 in
theorem gX6_endTerm_X7_portOf_n67 : GoodIn wsX6_endTerm (wsX7_portOf) := ggX6_endTerm_X7_portOf
set_option maxRecDepth 20000 in
theorem ggX6_endTerm_X6_tell : GoodIn wsX6_endTerm wsX6_tell := goodIn_r _ [69, 70, 71, 79, 80, 81, 82, 83, 84, 85, 86, 87, 88, 89, 90, 91, 92, 93, 94] (by decide +kernel) (by decide +kernel)
set_option maxRecDepth 20000 in
theorem gX6_endTerm_X6_tell : GoodIn wsX6_endTerm (wsV RX6 148 RX6 yX6_tell wsX6_tell) := goodIn_app (goodIn_of _ (by decide +kernel)) ggX6_endTerm_X6_tell
set_option maxRecDepth 20000 in
theorem ggX6_endTerm_X6_forgetBinder : GoodIn wsX6_endTerm wsX6_forgetBinder := goodIn_r _ [75, 76, 77, 78, 79, 80, 81, 82, 83, 84, 85, 86, 87, 88, 89, 90, 91, 92, 93, 94] (by decide +kernel) (by decide +kernel)
set_option maxRecDepth 20000 in
theorem gX6_endTerm_X6_forgetBinder : GoodIn wsX6_endTerm (wsV RX6 168 RX6 yX6_forgetBinder wsX6_forgetBinder) := goodIn_app (goodIn_of _ (by decide +kernel)) ggX6_endTerm_X6_forgetBinder
theorem dX6_endTerm_0 : decode cX6_endTerm 0 = .ok (.aload_n 0, 1) := by decide +kernel
theorem dX6_endTerm_1 : decode cX6_endTerm 1 = .ok (.getfield 58, 3) := by decide +kernel
theorem dX6_endTerm_4 : decode cX6_endTerm 4 = .ok (.iconst 1, 1) := by decide +kernel
theorem dX6_endTerm_5 : decode cX6_endTerm 5 = .ok (.isub, 1) := by decide +kernel
theorem dX6_endTerm_6 : decode cX6_endTerm 6 = .ok (.istore_n 1, 1) := by decide +kernel
theorem dX6_endTerm_7 : decode cX6_endTerm 7 = .ok (.iload_n 1, 1) := by decide +kernel
theorem dX6_endTerm_8 : decode cX6_endTerm 8 = .ok (.ifCond .lt 115, 3) := by decide +kernel
theorem dX6_endTerm_11 : decode cX6_endTerm 11 = .ok (.iload_n 1, 1) := by decide +kernel
theorem dX6_endTerm_12 : decode cX6_endTerm 12 = .ok (.sipush 4000, 3) := by decide +kernel
theorem dX6_endTerm_15 : decode cX6_endTerm 15 = .ok (.if_icmp .ge 108, 3) := by decide +kernel
theorem dX6_endTerm_18 : decode cX6_endTerm 18 = .ok (.aload_n 0, 1) := by decide +kernel
theorem dX6_endTerm_19 : decode cX6_endTerm 19 = .ok (.getfield 26, 3) := by decide +kernel
theorem dX6_endTerm_22 : decode cX6_endTerm 22 = .ok (.iload_n 1, 1) := by decide +kernel
theorem dX6_endTerm_23 : decode cX6_endTerm 23 = .ok (.iaload, 1) := by decide +kernel
theorem dX6_endTerm_24 : decode cX6_endTerm 24 = .ok (.iconst 1, 1) := by decide +kernel
theorem dX6_endTerm_25 : decode cX6_endTerm 25 = .ok (.if_icmp .ne 53, 3) := by decide +kernel
theorem dX6_endTerm_28 : decode cX6_endTerm 28 = .ok (.aload_n 0, 1) := by decide +kernel
theorem dX6_endTerm_29 : decode cX6_endTerm 29 = .ok (.getfield 12, 3) := by decide +kernel
theorem dX6_endTerm_32 : decode cX6_endTerm 32 = .ok (.aload_n 0, 1) := by decide +kernel
theorem dX6_endTerm_33 : decode cX6_endTerm 33 = .ok (.getfield 32, 3) := by decide +kernel
theorem dX6_endTerm_36 : decode cX6_endTerm 36 = .ok (.iload_n 1, 1) := by decide +kernel
theorem dX6_endTerm_37 : decode cX6_endTerm 37 = .ok (.iaload, 1) := by decide +kernel
theorem dX6_endTerm_38 : decode cX6_endTerm 38 = .ok (.invokevirtual 165, 3) := by decide +kernel
theorem dX6_endTerm_41 : decode cX6_endTerm 41 = .ok (.aload_n 0, 1) := by decide +kernel
theorem dX6_endTerm_42 : decode cX6_endTerm 42 = .ok (.getfield 26, 3) := by decide +kernel
theorem dX6_endTerm_45 : decode cX6_endTerm 45 = .ok (.iload_n 1, 1) := by decide +kernel
theorem dX6_endTerm_46 : decode cX6_endTerm 46 = .ok (.iconst 2, 1) := by decide +kernel
theorem dX6_endTerm_47 : decode cX6_endTerm 47 = .ok (.iastore, 1) := by decide +kernel
theorem dX6_endTerm_48 : decode cX6_endTerm 48 = .ok (.aload_n 0, 1) := by decide +kernel
theorem dX6_endTerm_49 : decode cX6_endTerm 49 = .ok (.aload_n 0, 1) := by decide +kernel
theorem dX6_endTerm_50 : decode cX6_endTerm 50 = .ok (.getfield 29, 3) := by decide +kernel
theorem dX6_endTerm_53 : decode cX6_endTerm 53 = .ok (.iload_n 1, 1) := by decide +kernel
theorem dX6_endTerm_54 : decode cX6_endTerm 54 = .ok (.iaload, 1) := by decide +kernel
theorem dX6_endTerm_55 : decode cX6_endTerm 55 = .ok (.iconst 2, 1) := by decide +kernel
theorem dX6_endTerm_56 : decode cX6_endTerm 56 = .ok (.invokestatic 67, 3) := by decide +kernel
theorem dX6_endTerm_59 : decode cX6_endTerm 59 = .ok (.putfield 71, 3) := by decide +kernel
theorem dX6_endTerm_62 : decode cX6_endTerm 62 = .ok (.aload_n 0, 1) := by decide +kernel
theorem dX6_endTerm_63 : decode cX6_endTerm 63 = .ok (.bipush 32, 2) := by decide +kernel
theorem dX6_endTerm_65 : decode cX6_endTerm 65 = .ok (.invokevirtual 148, 3) := by decide +kernel
theorem dX6_endTerm_68 : decode cX6_endTerm 68 = .ok (.ifCond .eq 8, 3) := by decide +kernel
theorem dX6_endTerm_71 : decode cX6_endTerm 71 = .ok (.bipush 6, 2) := by decide +kernel
theorem dX6_endTerm_73 : decode cX6_endTerm 73 = .ok (.goto 4, 3) := by decide +kernel
theorem dX6_endTerm_76 : decode cX6_endTerm 76 = .ok (.iconst 3, 1) := by decide +kernel
theorem dX6_endTerm_77 : decode cX6_endTerm 77 = .ok (.ireturn, 1) := by decide +kernel
theorem dX6_endTerm_78 : decode cX6_endTerm 78 = .ok (.aload_n 0, 1) := by decide +kernel
theorem dX6_endTerm_79 : decode cX6_endTerm 79 = .ok (.getfield 26, 3) := by decide +kernel
theorem dX6_endTerm_82 : decode cX6_endTerm 82 = .ok (.iload_n 1, 1) := by decide +kernel
theorem dX6_endTerm_83 : decode cX6_endTerm 83 = .ok (.iaload, 1) := by decide +kernel
theorem dX6_endTerm_84 : decode cX6_endTerm 84 = .ok (.iconst 2, 1) := by decide +kernel
theorem dX6_endTerm_85 : decode cX6_endTerm 85 = .ok (.if_icmp .ne 14, 3) := by decide +kernel
theorem dX6_endTerm_88 : decode cX6_endTerm 88 = .ok (.aload_n 0, 1) := by decide +kernel
theorem dX6_endTerm_89 : decode cX6_endTerm 89 = .ok (.bipush 41, 2) := by decide +kernel
theorem dX6_endTerm_91 : decode cX6_endTerm 91 = .ok (.invokevirtual 148, 3) := by decide +kernel
theorem dX6_endTerm_94 : decode cX6_endTerm 94 = .ok (.ifCond .ne 5, 3) := by decide +kernel
theorem dX6_endTerm_97 : decode cX6_endTerm 97 = .ok (.iconst 3, 1) := by decide +kernel
theorem dX6_endTerm_98 : decode cX6_endTerm 98 = .ok (.ireturn, 1) := by decide +kernel
theorem dX6_endTerm_99 : decode cX6_endTerm 99 = .ok (.aload_n 0, 1) := by decide +kernel
theorem dX6_endTerm_100 : decode cX6_endTerm 100 = .ok (.getfield 26, 3) := by decide +kernel
theorem dX6_endTerm_103 : decode cX6_endTerm 103 = .ok (.iload_n 1, 1) := by decide +kernel
theorem dX6_endTerm_104 : decode cX6_endTerm 104 = .ok (.iaload, 1) := by decide +kernel
theorem dX6_endTerm_105 : decode cX6_endTerm 105 = .ok (.ifCond .ne 7, 3) := by decide +kernel
theorem dX6_endTerm_108 : decode cX6_endTerm 108 = .ok (.aload_n 0, 1) := by decide +kernel
theorem dX6_endTerm_109 : decode cX6_endTerm 109 = .ok (.invokevirtual 168, 3) := by decide +kernel
theorem dX6_endTerm_112 : decode cX6_endTerm 112 = .ok (.aload_n 0, 1) := by decide +kernel
theorem dX6_endTerm_113 : decode cX6_endTerm 113 = .ok (.iload_n 1, 1) := by decide +kernel
theorem dX6_endTerm_114 : decode cX6_endTerm 114 = .ok (.putfield 58, 3) := by decide +kernel
theorem dX6_endTerm_117 : decode cX6_endTerm 117 = .ok (.iinc 1 (-1), 3) := by decide +kernel
theorem dX6_endTerm_120 : decode cX6_endTerm 120 = .ok (.goto (-113), 3) := by decide +kernel
theorem dX6_endTerm_123 : decode cX6_endTerm 123 = .ok (.iconst 0, 1) := by decide +kernel
theorem dX6_endTerm_124 : decode cX6_endTerm 124 = .ok (.ireturn, 1) := by decide +kernel
set_option maxRecDepth 20000 in
theorem ggX6_advance_X2_across : GoodIn wsX6_advance wsX2_across := goodIn_r _ [9, 10, 235, 236, 237, 238, 239, 240, 241, 242, 243, 244] (by decide +kernel) (by decide +kernel)
set_option maxRecDepth 20000 in
theorem gX6_advance_X2_across : GoodIn wsX6_advance (wsV RX6 78 RX2 yX2_across wsX2_across) := goodIn_app (goodIn_of _ (by decide +kernel)) ggX6_advance_X2_across
set_option maxRecDepth 20000 in
theorem ggX6_advance_X6_isMeeting : GoodIn wsX6_advance wsX6_isMeeting := goodIn_r _ [15, 3, 2, 16, 17, 18, 19, 20, 21, 22, 23, 8, 24, 25, 219, 220, 221, 222, 223, 224, 225, 226, 227, 228, 229, 230, 231, 232, 233, 234, 235, 236, 237, 238, 239, 240, 241, 242, 243, 244] (by decide +kernel) (by decide +kernel)
set_option maxRecDepth 20000 in
theorem gX6_advance_X6_isMeeting : GoodIn wsX6_advance (wsV RX6 83 RX6 yX6_isMeeting wsX6_isMeeting) := goodIn_app (goodIn_of _ (by decide +kernel)) ggX6_advance_X6_isMeeting
set_option maxRecDepth 20000 in
theorem ggX6_advance_X7_nodeAt : GoodIn wsX6_advance wsX7_nodeAt := goodIn_r _ [20] (by decide +kernel) (by decide +kernel)
set_option maxRecDepth 20000 in
theorem gX6_advance_X7_nodeAt_n74 : GoodIn wsX6_advance (wsX7_nodeAt) := ggX6_advance_X7_nodeAt
set_option maxRecDepth 20000 in
theorem ggX6_advance_X7_whichAt : GoodIn wsX6_advance wsX7_whichAt := goodIn_r _ [18] (by decide +kernel) (by decide +kernel)
set_option maxRecDepth 20000 in
theorem gX6_advance_X7_whichAt_n87 : GoodIn wsX6_advance (wsX7_whichAt) := ggX6_advance_X7_whichAt
set_option maxRecDepth 20000 in
theorem ggX6_advance_X6_arrive : GoodIn wsX6_advance wsX6_arrive := goodIn_r _ [29, 2, 30, 31, 32, 33, 8, 34, 35, 21, 22, 23, 24, 25, 36, 37, 38, 14, 39, 40, 41, 42, 43, 44, 45, 46, 47, 48, 49, 50, 51, 52, 53, 54, 55, 56, 57, 58, 59, 60, 61, 62, 63, 64, 65, 66, 67, 68, 69, 70, 71, 72, 73, 74, 75, 76, 77, 78, 79, 80, 81, 82, 83, 84, 85, 86, 87, 88, 3, 89, 17, 90, 91, 92, 93, 94, 95, 96, 97, 98, 99, 100, 101, 102, 103, 104, 105, 106, 107, 108, 109, 110, 111, 112, 113, 114, 115, 116, 117, 118, 119, 120, 121, 122, 123, 124, 125, 126, 127, 128, 129, 130, 131, 132, 133, 134, 135, 136, 137, 138, 139, 140, 141, 142, 143, 144, 145, 146, 147, 148, 149, 150, 151, 152, 153, 154, 155, 156, 157, 158, 159, 160, 161, 162, 163, 164, 165, 166, 167, 168, 169, 170, 171, 172, 173, 174, 175, 176, 177, 178, 179, 180, 181, 182, 183, 184, 185, 186, 187, 188, 189, 190, 191, 192, 193, 194, 195, 196, 197, 198, 219, 220, 221, 222, 223, 224, 225, 226, 227, 228, 229, 230, 231, 232, 233, 234, 235, 236, 237, 238, 239, 240, 241, 242, 243, 244, 245, 246, 247, 248, 249, 250, 251, 252, 253, 254, 255, 256, 257, 258] (by decide +kernel) (by decide +kernel)
set_option maxRecDepth 20000 in
theorem gX6_advance_X6_arrive : GoodIn wsX6_advance (wsV RX6 90 RX6 yX6_arrive wsX6_arrive) := goodIn_app (goodIn_of _ (by decide +kernel)) ggX6_advance_X6_arrive
set_option maxRecDepth 20000 in
theorem ggX6_advance_X6_endTerm : GoodIn wsX6_advance wsX6_endTerm := goodIn_r _ [202, 76, 77, 30, 79, 78, 3, 203, 204, 205, 68, 206, 84, 207, 208, 209, 210, 116, 117, 115, 119, 118, 127, 128, 129, 130, 70, 71, 131, 132, 133, 134, 139, 140, 141, 142, 143, 144, 145, 146, 120, 66, 67, 69, 165, 166, 167, 124, 168, 126, 169, 211, 212, 213, 214, 178, 159, 164, 179, 180, 181, 182, 89, 17, 90, 48, 49, 50, 14, 51, 52, 53, 215, 216, 217, 218, 44, 46, 47, 219, 220, 221, 222, 223, 224, 225, 226, 227, 228, 229, 230, 231, 232, 233, 234, 245, 246, 247, 248, 249, 250, 251, 252, 253, 254, 255, 256, 257, 258] (by decide +kernel) (by decide +kernel)
set_option maxRecDepth 20000 in
theorem gX6_advance_X6_endTerm : GoodIn wsX6_advance (wsV RX6 93 RX6 yX6_endTerm wsX6_endTerm) := goodIn_app (goodIn_of _ (by decide +kernel)) ggX6_advance_X6_endTerm
theorem dX6_advance_0 : decode cX6_advance 0 = .ok (.aload_n 0, 1) := by decide +kernel
theorem dX6_advance_1 : decode cX6_advance 1 = .ok (.getfield 55, 3) := by decide +kernel
theorem dX6_advance_4 : decode cX6_advance 4 = .ok (.sipush 4000, 3) := by decide +kernel
theorem dX6_advance_7 : decode cX6_advance 7 = .ok (.if_icmp .ge 83, 3) := by decide +kernel
theorem dX6_advance_10 : decode cX6_advance 10 = .ok (.aload_n 0, 1) := by decide +kernel
theorem dX6_advance_11 : decode cX6_advance 11 = .ok (.getfield 44, 3) := by decide +kernel
theorem dX6_advance_14 : decode cX6_advance 14 = .ok (.aload_n 0, 1) := by decide +kernel
theorem dX6_advance_15 : decode cX6_advance 15 = .ok (.getfield 71, 3) := by decide +kernel
theorem dX6_advance_18 : decode cX6_advance 18 = .ok (.invokevirtual 78, 3) := by decide +kernel
theorem dX6_advance_21 : decode cX6_advance 21 = .ok (.istore_n 1, 1) := by decide +kernel
theorem dX6_advance_22 : decode cX6_advance 22 = .ok (.aload_n 0, 1) := by decide +kernel
theorem dX6_advance_23 : decode cX6_advance 23 = .ok (.iload_n 1, 1) := by decide +kernel
theorem dX6_advance_24 : decode cX6_advance 24 = .ok (.invokevirtual 83, 3) := by decide +kernel
theorem dX6_advance_27 : decode cX6_advance 27 = .ok (.ifCond .eq 5, 3) := by decide +kernel
theorem dX6_advance_30 : decode cX6_advance 30 = .ok (.iconst 5, 1) := by decide +kernel
theorem dX6_advance_31 : decode cX6_advance 31 = .ok (.ireturn, 1) := by decide +kernel
theorem dX6_advance_32 : decode cX6_advance 32 = .ok (.aload_n 0, 1) := by decide +kernel
theorem dX6_advance_33 : decode cX6_advance 33 = .ok (.getfield 22, 3) := by decide +kernel
theorem dX6_advance_36 : decode cX6_advance 36 = .ok (.aload_n 0, 1) := by decide +kernel
theorem dX6_advance_37 : decode cX6_advance 37 = .ok (.getfield 55, 3) := by decide +kernel
theorem dX6_advance_40 : decode cX6_advance 40 = .ok (.aload_n 0, 1) := by decide +kernel
theorem dX6_advance_41 : decode cX6_advance 41 = .ok (.getfield 71, 3) := by decide +kernel
theorem dX6_advance_44 : decode cX6_advance 44 = .ok (.iastore, 1) := by decide +kernel
theorem dX6_advance_45 : decode cX6_advance 45 = .ok (.aload_n 0, 1) := by decide +kernel
theorem dX6_advance_46 : decode cX6_advance 46 = .ok (.dup, 1) := by decide +kernel
theorem dX6_advance_47 : decode cX6_advance 47 = .ok (.getfield 55, 3) := by decide +kernel
theorem dX6_advance_50 : decode cX6_advance 50 = .ok (.iconst 1, 1) := by decide +kernel
theorem dX6_advance_51 : decode cX6_advance 51 = .ok (.iadd, 1) := by decide +kernel
theorem dX6_advance_52 : decode cX6_advance 52 = .ok (.putfield 55, 3) := by decide +kernel
theorem dX6_advance_55 : decode cX6_advance 55 = .ok (.aload_n 0, 1) := by decide +kernel
theorem dX6_advance_56 : decode cX6_advance 56 = .ok (.iload_n 1, 1) := by decide +kernel
theorem dX6_advance_57 : decode cX6_advance 57 = .ok (.invokestatic 74, 3) := by decide +kernel
theorem dX6_advance_60 : decode cX6_advance 60 = .ok (.iload_n 1, 1) := by decide +kernel
theorem dX6_advance_61 : decode cX6_advance 61 = .ok (.invokestatic 87, 3) := by decide +kernel
theorem dX6_advance_64 : decode cX6_advance 64 = .ok (.invokevirtual 90, 3) := by decide +kernel
theorem dX6_advance_67 : decode cX6_advance 67 = .ok (.istore_n 2, 1) := by decide +kernel
theorem dX6_advance_68 : decode cX6_advance 68 = .ok (.iload_n 2, 1) := by decide +kernel
theorem dX6_advance_69 : decode cX6_advance 69 = .ok (.bipush 7, 2) := by decide +kernel
theorem dX6_advance_71 : decode cX6_advance 71 = .ok (.if_icmp .ne 8, 3) := by decide +kernel
theorem dX6_advance_74 : decode cX6_advance 74 = .ok (.aload_n 0, 1) := by decide +kernel
theorem dX6_advance_75 : decode cX6_advance 75 = .ok (.invokevirtual 93, 3) := by decide +kernel
theorem dX6_advance_78 : decode cX6_advance 78 = .ok (.istore_n 2, 1) := by decide +kernel
theorem dX6_advance_79 : decode cX6_advance 79 = .ok (.iload_n 2, 1) := by decide +kernel
theorem dX6_advance_80 : decode cX6_advance 80 = .ok (.bipush 6, 2) := by decide +kernel
theorem dX6_advance_82 : decode cX6_advance 82 = .ok (.if_icmp .eq 5, 3) := by decide +kernel
theorem dX6_advance_85 : decode cX6_advance 85 = .ok (.iload_n 2, 1) := by decide +kernel
theorem dX6_advance_86 : decode cX6_advance 86 = .ok (.ireturn, 1) := by decide +kernel
theorem dX6_advance_87 : decode cX6_advance 87 = .ok (.goto (-87), 3) := by decide +kernel
theorem dX6_advance_90 : decode cX6_advance 90 = .ok (.iconst 3, 1) := by decide +kernel
theorem dX6_advance_91 : decode cX6_advance 91 = .ok (.ireturn, 1) := by decide +kernel
set_option maxRecDepth 20000 in
theorem ggX6_stepBack_X7_nodeAt : GoodIn wsX6_stepBack wsX7_nodeAt := goodIn_r _ [10] (by decide +kernel) (by decide +kernel)
set_option maxRecDepth 20000 in
theorem gX6_stepBack_X7_nodeAt_n74 : GoodIn wsX6_stepBack (wsX7_nodeAt) := ggX6_stepBack_X7_nodeAt
set_option maxRecDepth 20000 in
theorem ggX6_stepBack_X2_kindOf : GoodIn wsX6_stepBack wsX2_kindOf := goodIn_r _ [15, 16, 84, 85, 86, 87, 88, 89, 90, 91, 92, 93] (by decide +kernel) (by decide +kernel)
set_option maxRecDepth 20000 in
theorem gX6_stepBack_X2_kindOf : GoodIn wsX6_stepBack (wsV RX6 97 RX2 yX2_kindOf wsX2_kindOf) := goodIn_app (goodIn_of _ (by decide +kernel)) ggX6_stepBack_X2_kindOf
set_option maxRecDepth 20000 in
theorem ggX6_stepBack_X1_undo : GoodIn wsX6_stepBack wsX1_undo := goodIn_r _ [21, 22, 23, 24, 25, 26, 27, 28, 29, 30, 20, 31, 32, 33, 34, 35, 36, 37, 38, 39, 40, 41, 42, 43, 44, 45, 46, 47, 48, 49, 50, 51, 52, 53, 54, 55, 56, 57, 58, 59, 60, 61, 62, 63, 64, 65, 66, 67, 94, 95, 96, 97, 98, 99, 100, 101, 102, 103, 104, 105, 106, 107] (by decide +kernel) (by decide +kernel)
set_option maxRecDepth 20000 in
theorem gX6_stepBack_X1_undo : GoodIn wsX6_stepBack (wsV RX6 100 RX1 yX1_undo wsX1_undo) := goodIn_app (goodIn_of _ (by decide +kernel)) ggX6_stepBack_X1_undo
theorem dX6_stepBack_0 : decode cX6_stepBack 0 = .ok (.aload_n 0, 1) := by decide +kernel
theorem dX6_stepBack_1 : decode cX6_stepBack 1 = .ok (.getfield 55, 3) := by decide +kernel
theorem dX6_stepBack_4 : decode cX6_stepBack 4 = .ok (.iconst 1, 1) := by decide +kernel
theorem dX6_stepBack_5 : decode cX6_stepBack 5 = .ok (.if_icmp .lt 13, 3) := by decide +kernel
theorem dX6_stepBack_8 : decode cX6_stepBack 8 = .ok (.aload_n 0, 1) := by decide +kernel
theorem dX6_stepBack_9 : decode cX6_stepBack 9 = .ok (.getfield 55, 3) := by decide +kernel
theorem dX6_stepBack_12 : decode cX6_stepBack 12 = .ok (.sipush 4000, 3) := by decide +kernel
theorem dX6_stepBack_15 : decode cX6_stepBack 15 = .ok (.if_icmp .le 4, 3) := by decide +kernel
theorem dX6_stepBack_18 : decode cX6_stepBack 18 = .ok (.return_, 1) := by decide +kernel
theorem dX6_stepBack_19 : decode cX6_stepBack 19 = .ok (.aload_n 0, 1) := by decide +kernel
theorem dX6_stepBack_20 : decode cX6_stepBack 20 = .ok (.getfield 44, 3) := by decide +kernel
theorem dX6_stepBack_23 : decode cX6_stepBack 23 = .ok (.aload_n 0, 1) := by decide +kernel
theorem dX6_stepBack_24 : decode cX6_stepBack 24 = .ok (.getfield 71, 3) := by decide +kernel
theorem dX6_stepBack_27 : decode cX6_stepBack 27 = .ok (.invokestatic 74, 3) := by decide +kernel
theorem dX6_stepBack_30 : decode cX6_stepBack 30 = .ok (.invokevirtual 97, 3) := by decide +kernel
theorem dX6_stepBack_33 : decode cX6_stepBack 33 = .ok (.iconst 1, 1) := by decide +kernel
theorem dX6_stepBack_34 : decode cX6_stepBack 34 = .ok (.if_icmp .eq 13, 3) := by decide +kernel
theorem dX6_stepBack_37 : decode cX6_stepBack 37 = .ok (.aload_n 0, 1) := by decide +kernel
theorem dX6_stepBack_38 : decode cX6_stepBack 38 = .ok (.getfield 12, 3) := by decide +kernel
theorem dX6_stepBack_41 : decode cX6_stepBack 41 = .ok (.invokevirtual 100, 3) := by decide +kernel
theorem dX6_stepBack_44 : decode cX6_stepBack 44 = .ok (.goto 37, 3) := by decide +kernel
theorem dX6_stepBack_47 : decode cX6_stepBack 47 = .ok (.aload_n 0, 1) := by decide +kernel
theorem dX6_stepBack_48 : decode cX6_stepBack 48 = .ok (.getfield 58, 3) := by decide +kernel
theorem dX6_stepBack_51 : decode cX6_stepBack 51 = .ok (.ifCond .le 30, 3) := by decide +kernel
theorem dX6_stepBack_54 : decode cX6_stepBack 54 = .ok (.aload_n 0, 1) := by decide +kernel
theorem dX6_stepBack_55 : decode cX6_stepBack 55 = .ok (.getfield 51, 3) := by decide +kernel
theorem dX6_stepBack_58 : decode cX6_stepBack 58 = .ok (.ifCond .le 23, 3) := by decide +kernel
theorem dX6_stepBack_61 : decode cX6_stepBack 61 = .ok (.aload_n 0, 1) := by decide +kernel
theorem dX6_stepBack_62 : decode cX6_stepBack 62 = .ok (.dup, 1) := by decide +kernel
theorem dX6_stepBack_63 : decode cX6_stepBack 63 = .ok (.getfield 58, 3) := by decide +kernel
theorem dX6_stepBack_66 : decode cX6_stepBack 66 = .ok (.iconst 1, 1) := by decide +kernel
theorem dX6_stepBack_67 : decode cX6_stepBack 67 = .ok (.isub, 1) := by decide +kernel
theorem dX6_stepBack_68 : decode cX6_stepBack 68 = .ok (.putfield 58, 3) := by decide +kernel
theorem dX6_stepBack_71 : decode cX6_stepBack 71 = .ok (.aload_n 0, 1) := by decide +kernel
theorem dX6_stepBack_72 : decode cX6_stepBack 72 = .ok (.dup, 1) := by decide +kernel
theorem dX6_stepBack_73 : decode cX6_stepBack 73 = .ok (.getfield 51, 3) := by decide +kernel
theorem dX6_stepBack_76 : decode cX6_stepBack 76 = .ok (.iconst 1, 1) := by decide +kernel
theorem dX6_stepBack_77 : decode cX6_stepBack 77 = .ok (.isub, 1) := by decide +kernel
theorem dX6_stepBack_78 : decode cX6_stepBack 78 = .ok (.putfield 51, 3) := by decide +kernel
theorem dX6_stepBack_81 : decode cX6_stepBack 81 = .ok (.aload_n 0, 1) := by decide +kernel
theorem dX6_stepBack_82 : decode cX6_stepBack 82 = .ok (.dup, 1) := by decide +kernel
theorem dX6_stepBack_83 : decode cX6_stepBack 83 = .ok (.getfield 55, 3) := by decide +kernel
theorem dX6_stepBack_86 : decode cX6_stepBack 86 = .ok (.iconst 1, 1) := by decide +kernel
theorem dX6_stepBack_87 : decode cX6_stepBack 87 = .ok (.isub, 1) := by decide +kernel
theorem dX6_stepBack_88 : decode cX6_stepBack 88 = .ok (.putfield 55, 3) := by decide +kernel
theorem dX6_stepBack_91 : decode cX6_stepBack 91 = .ok (.aload_n 0, 1) := by decide +kernel
theorem dX6_stepBack_92 : decode cX6_stepBack 92 = .ok (.aload_n 0, 1) := by decide +kernel
theorem dX6_stepBack_93 : decode cX6_stepBack 93 = .ok (.getfield 22, 3) := by decide +kernel
theorem dX6_stepBack_96 : decode cX6_stepBack 96 = .ok (.aload_n 0, 1) := by decide +kernel
theorem dX6_stepBack_97 : decode cX6_stepBack 97 = .ok (.getfield 55, 3) := by decide +kernel
theorem dX6_stepBack_100 : decode cX6_stepBack 100 = .ok (.iaload, 1) := by decide +kernel
theorem dX6_stepBack_101 : decode cX6_stepBack 101 = .ok (.putfield 71, 3) := by decide +kernel
theorem dX6_stepBack_104 : decode cX6_stepBack 104 = .ok (.return_, 1) := by decide +kernel
