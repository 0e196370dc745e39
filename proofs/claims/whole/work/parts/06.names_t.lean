noncomputable def wsX0_init : List Cond := .code yX0_init cX0_init 2 none :: ([.methodLink RX0 3 objectInit, .instanceMethod objectInit, .code objectInit ⟨#[0xb1]⟩ 1 none, .arrayClass .int, .fieldLink RX0 11 "SharedLambda$Builder" "rootPorts" "[I", .classLink RX0 15 "[[I", .fieldLink RX0 17 "SharedLambda$Builder" "freePorts" "[[I", .fieldLink RX0 20 "SharedLambda$Builder" "graph" "LSharedLambda$Graph;"] ++ wsX00)
noncomputable def wsX4_wordCount : List Cond := .code yX4_wordCount cX4_wordCount 1 (some .int) :: ([.fieldLink RX4 53 "SharedLambda$TermReader" "words" "I"] ++ wsX40)
noncomputable def wsX4_wordIndex : List Cond := .code yX4_wordIndex cX4_wordIndex 2 (some .int) :: ([.fieldLink RX4 53 "SharedLambda$TermReader" "words" "I", .fieldLink RX4 15 "SharedLambda$TermReader" "wordIndexes" "[I"] ++ wsX40)
noncomputable def wsX4_wordSlot : List Cond := .code yX4_wordSlot cX4_wordSlot 2 (some .int) :: ([.fieldLink RX4 53 "SharedLambda$TermReader" "words" "I", .fieldLink RX4 18 "SharedLambda$TermReader" "wordSlots" "[I"] ++ wsX40)
noncomputable def wsX4_wordKind : List Cond := .code yX4_wordKind cX4_wordKind 2 (some .int) :: ([.fieldLink RX4 53 "SharedLambda$TermReader" "words" "I", .fieldLink RX4 11 "SharedLambda$TermReader" "wordKinds" "[I"] ++ wsX40)
noncomputable def wsX0_buildName : List Cond := .code yX0_buildName cX0_buildName 5 none :: ([.fieldLink RX0 24 "SharedLambda$Builder" "height" "I", .fieldLink RX0 20 "SharedLambda$Builder" "graph" "LSharedLambda$Graph;", .fieldLink RX0 17 "SharedLambda$Builder" "freePorts" "[[I", .fieldLink RX0 11 "SharedLambda$Builder" "rootPorts" "[I", .methodLink RX0 28 yX2_make, .instanceMethod yX2_make, .selects RX2 yX2_make yX2_make, .initialized RX2, .code yX2_make cX2_make 4 (some .int), .fieldLink RX2 34 "SharedLambda$Graph" "spares" "I", .fieldLink RX2 21 "SharedLambda$Graph" "spare" "[I", .fieldLink RX2 11 "SharedLambda$Graph" "kinds" "[I", .fieldLink RX2 15 "SharedLambda$Graph" "indexes" "[I", .fieldLink RX2 24 "SharedLambda$Graph" "populations" "[I", .static yX7_portOf, .initialized RX7, .code yX7_portOf cX7_portOf 2 (some .int)] ++ wsX00 ++ wsX20)
noncomputable def wsX0_buildLambda_r1 : List Cond := [Cond.fieldLink RX0 24 "SharedLambda$Builder" "height" "I", Cond.fieldLink RX0 20 "SharedLambda$Builder" "graph" "LSharedLambda$Graph;", Cond.fieldLink RX0 17 "SharedLambda$Builder" "freePorts" "[[I", Cond.fieldLink RX0 11 "SharedLambda$Builder" "rootPorts" "[I", Cond.methodLink RX0 28 yX2_make, Cond.instanceMethod yX2_make, Cond.selects RX2 yX2_make yX2_make, Cond.initialized RX2, Cond.code yX2_make cX2_make 4 (some .int), Cond.fieldLink RX2 34 "SharedLambda$Graph" "spares" "I", Cond.fieldLink RX2 21 "SharedLambda$Graph" "spare" "[I", Cond.fieldLink RX2 11 "SharedLambda$Graph" "kinds" "[I", Cond.fieldLink RX2 15 "SharedLambda$Graph" "indexes" "[I", Cond.fieldLink RX2 24 "SharedLambda$Graph" "populations" "[I", Cond.static yX7_portOf, Cond.initialized RX7, Cond.code yX7_portOf cX7_portOf 2 (some .int), Cond.methodLink RX0 64 yX2_link, Cond.instanceMethod yX2_link, Cond.selects RX2 yX2_link yX2_link, Cond.code yX2_link cX2_link 3 none, Cond.fieldLink RX2 18 "SharedLambda$Graph" "wires" "[I", Cond.static yX7_nodeAt, Cond.code yX7_nodeAt cX7_nodeAt 1 (some .int)]
noncomputable def wsX0_buildLambda_r2 : List Cond := [Cond.methodLink RX2 51 yX2_rouse, Cond.instanceMethod yX2_rouse, Cond.selects RX2 yX2_rouse yX2_rouse, Cond.code yX2_rouse cX2_rouse 2 none, Cond.fieldLink RX2 38 "SharedLambda$Graph" "restlessCount" "I", Cond.fieldLink RX2 30 "SharedLambda$Graph" "isRestless" "[Z", Cond.fieldLink RX2 27 "SharedLambda$Graph" "restless" "[I"]
noncomputable def wsX0_buildLambda : List Cond := .code yX0_buildLambda cX0_buildLambda 6 none :: ((wsX0_buildLambda_r1 ++ wsX0_buildLambda_r2) ++ wsX00 ++ wsX20)
noncomputable def wsX0_bracket_r1 : List Cond := [Cond.fieldLink RX0 20 "SharedLambda$Builder" "graph" "LSharedLambda$Graph;", Cond.methodLink RX0 28 yX2_make, Cond.instanceMethod yX2_make, Cond.selects RX2 yX2_make yX2_make, Cond.initialized RX2, Cond.code yX2_make cX2_make 4 (some .int), Cond.fieldLink RX2 34 "SharedLambda$Graph" "spares" "I", Cond.fieldLink RX2 21 "SharedLambda$Graph" "spare" "[I", Cond.fieldLink RX2 11 "SharedLambda$Graph" "kinds" "[I", Cond.fieldLink RX2 15 "SharedLambda$Graph" "indexes" "[I", Cond.fieldLink RX2 24 "SharedLambda$Graph" "populations" "[I", Cond.static yX7_portOf, Cond.initialized RX7, Cond.code yX7_portOf cX7_portOf 2 (some .int), Cond.methodLink RX0 64 yX2_link, Cond.instanceMethod yX2_link, Cond.selects RX2 yX2_link yX2_link, Cond.code yX2_link cX2_link 3 none, Cond.fieldLink RX2 18 "SharedLambda$Graph" "wires" "[I", Cond.static yX7_nodeAt, Cond.code yX7_nodeAt cX7_nodeAt 1 (some .int), Cond.methodLink RX2 51 yX2_rouse, Cond.instanceMethod yX2_rouse, Cond.selects RX2 yX2_rouse yX2_rouse]
noncomputable def wsX0_bracket_r2 : List Cond := [Cond.code yX2_rouse cX2_rouse 2 none, Cond.fieldLink RX2 38 "SharedLambda$Graph" "restlessCount" "I", Cond.fieldLink RX2 30 "SharedLambda$Graph" "isRestless" "[Z", Cond.fieldLink RX2 27 "SharedLambda$Graph" "restless" "[I"]
noncomputable def wsX0_bracket : List Cond := .code yX0_bracket cX0_bracket 4 (some .int) :: ((wsX0_bracket_r1 ++ wsX0_bracket_r2) ++ wsX00 ++ wsX20)
noncomputable def wsX0_share_r1 : List Cond := [Cond.fieldLink RX0 20 "SharedLambda$Builder" "graph" "LSharedLambda$Graph;", Cond.methodLink RX0 28 yX2_make, Cond.instanceMethod yX2_make, Cond.selects RX2 yX2_make yX2_make, Cond.initialized RX2, Cond.code yX2_make cX2_make 4 (some .int), Cond.fieldLink RX2 34 "SharedLambda$Graph" "spares" "I", Cond.fieldLink RX2 21 "SharedLambda$Graph" "spare" "[I", Cond.fieldLink RX2 11 "SharedLambda$Graph" "kinds" "[I", Cond.fieldLink RX2 15 "SharedLambda$Graph" "indexes" "[I", Cond.fieldLink RX2 24 "SharedLambda$Graph" "populations" "[I", Cond.static yX7_portOf, Cond.initialized RX7, Cond.code yX7_portOf cX7_portOf 2 (some .int), Cond.methodLink RX0 64 yX2_link, Cond.instanceMethod yX2_link, Cond.selects RX2 yX2_link yX2_link, Cond.code yX2_link cX2_link 3 none, Cond.fieldLink RX2 18 "SharedLambda$Graph" "wires" "[I", Cond.static yX7_nodeAt, Cond.code yX7_nodeAt cX7_nodeAt 1 (some .int), Cond.methodLink RX2 51 yX2_rouse, Cond.instanceMethod yX2_rouse, Cond.selects RX2 yX2_rouse yX2_rouse]
noncomputable def wsX0_share_r2 : List Cond := [Cond.code yX2_rouse cX2_rouse 2 none, Cond.fieldLink RX2 38 "SharedLambda$Graph" "restlessCount" "I", Cond.fieldLink RX2 30 "SharedLambda$Graph" "isRestless" "[Z", Cond.fieldLink RX2 27 "SharedLambda$Graph" "restless" "[I"]
noncomputable def wsX0_share : List Cond := .code yX0_share cX0_share 5 (some .int) :: ((wsX0_share_r1 ++ wsX0_share_r2) ++ wsX00 ++ wsX20)
noncomputable def wsX0_buildApplication_r1 : List Cond := [Cond.fieldLink RX0 24 "SharedLambda$Builder" "height" "I", Cond.fieldLink RX0 20 "SharedLambda$Builder" "graph" "LSharedLambda$Graph;", Cond.fieldLink RX0 11 "SharedLambda$Builder" "rootPorts" "[I", Cond.fieldLink RX0 17 "SharedLambda$Builder" "freePorts" "[[I", Cond.methodLink RX0 28 yX2_make, Cond.instanceMethod yX2_make, Cond.selects RX2 yX2_make yX2_make, Cond.initialized RX2, Cond.code yX2_make cX2_make 4 (some .int), Cond.fieldLink RX2 34 "SharedLambda$Graph" "spares" "I", Cond.fieldLink RX2 21 "SharedLambda$Graph" "spare" "[I", Cond.fieldLink RX2 11 "SharedLambda$Graph" "kinds" "[I", Cond.fieldLink RX2 15 "SharedLambda$Graph" "indexes" "[I", Cond.fieldLink RX2 24 "SharedLambda$Graph" "populations" "[I", Cond.static yX7_portOf, Cond.initialized RX7, Cond.code yX7_portOf cX7_portOf 2 (some .int), Cond.methodLink RX0 64 yX2_link, Cond.instanceMethod yX2_link, Cond.selects RX2 yX2_link yX2_link, Cond.code yX2_link cX2_link 3 none, Cond.fieldLink RX2 18 "SharedLambda$Graph" "wires" "[I", Cond.static yX7_nodeAt, Cond.code yX7_nodeAt cX7_nodeAt 1 (some .int)]
noncomputable def wsX0_buildApplication_r2 : List Cond := [Cond.methodLink RX2 51 yX2_rouse, Cond.instanceMethod yX2_rouse, Cond.selects RX2 yX2_rouse yX2_rouse, Cond.code yX2_rouse cX2_rouse 2 none, Cond.fieldLink RX2 38 "SharedLambda$Graph" "restlessCount" "I", Cond.fieldLink RX2 30 "SharedLambda$Graph" "isRestless" "[Z", Cond.fieldLink RX2 27 "SharedLambda$Graph" "restless" "[I", Cond.methodLink RX0 67 yX0_bracket, Cond.instanceMethod yX0_bracket, Cond.selects RX0 yX0_bracket yX0_bracket, Cond.initialized RX0, Cond.code yX0_bracket cX0_bracket 4 (some .int), Cond.methodLink RX0 70 yX0_share, Cond.instanceMethod yX0_share, Cond.selects RX0 yX0_share yX0_share, Cond.code yX0_share cX0_share 5 (some .int)]
noncomputable def wsX0_buildApplication : List Cond := .code yX0_buildApplication cX0_buildApplication 7 none :: ((wsX0_buildApplication_r1 ++ wsX0_buildApplication_r2) ++ wsX00 ++ wsX20)
noncomputable def wsX0_build_r1 : List Cond := [Cond.fieldLink RX0 24 "SharedLambda$Builder" "height" "I", Cond.fieldLink RX0 20 "SharedLambda$Builder" "graph" "LSharedLambda$Graph;", Cond.fieldLink RX0 11 "SharedLambda$Builder" "rootPorts" "[I", Cond.methodLink RX0 28 yX2_make, Cond.instanceMethod yX2_make, Cond.selects RX2 yX2_make yX2_make, Cond.initialized RX2, Cond.code yX2_make cX2_make 4 (some .int), Cond.fieldLink RX2 34 "SharedLambda$Graph" "spares" "I", Cond.fieldLink RX2 21 "SharedLambda$Graph" "spare" "[I", Cond.fieldLink RX2 11 "SharedLambda$Graph" "kinds" "[I", Cond.fieldLink RX2 15 "SharedLambda$Graph" "indexes" "[I", Cond.fieldLink RX2 24 "SharedLambda$Graph" "populations" "[I", Cond.methodLink RX0 34 yX4_wordCount, Cond.instanceMethod yX4_wordCount, Cond.selects RX4 yX4_wordCount yX4_wordCount, Cond.initialized RX4, Cond.code yX4_wordCount cX4_wordCount 1 (some .int), Cond.fieldLink RX4 53 "SharedLambda$TermReader" "words" "I", Cond.methodLink RX0 40 yX4_wordIndex, Cond.instanceMethod yX4_wordIndex, Cond.selects RX4 yX4_wordIndex yX4_wordIndex, Cond.code yX4_wordIndex cX4_wordIndex 2 (some .int), Cond.fieldLink RX4 15 "SharedLambda$TermReader" "wordIndexes" "[I"]
noncomputable def wsX0_build_r2 : List Cond := [Cond.methodLink RX0 44 yX4_wordSlot, Cond.instanceMethod yX4_wordSlot, Cond.selects RX4 yX4_wordSlot yX4_wordSlot, Cond.code yX4_wordSlot cX4_wordSlot 2 (some .int), Cond.fieldLink RX4 18 "SharedLambda$TermReader" "wordSlots" "[I", Cond.methodLink RX0 47 yX4_wordKind, Cond.instanceMethod yX4_wordKind, Cond.selects RX4 yX4_wordKind yX4_wordKind, Cond.code yX4_wordKind cX4_wordKind 2 (some .int), Cond.fieldLink RX4 11 "SharedLambda$TermReader" "wordKinds" "[I", Cond.methodLink RX0 50 yX0_buildName, Cond.instanceMethod yX0_buildName, Cond.selects RX0 yX0_buildName yX0_buildName, Cond.initialized RX0, Cond.code yX0_buildName cX0_buildName 5 none, Cond.fieldLink RX0 17 "SharedLambda$Builder" "freePorts" "[[I", Cond.static yX7_portOf, Cond.initialized RX7, Cond.code yX7_portOf cX7_portOf 2 (some .int), Cond.methodLink RX0 54 yX0_buildLambda, Cond.instanceMethod yX0_buildLambda, Cond.selects RX0 yX0_buildLambda yX0_buildLambda, Cond.code yX0_buildLambda cX0_buildLambda 6 none, Cond.methodLink RX0 64 yX2_link]
noncomputable def wsX0_build_r3 : List Cond := [Cond.instanceMethod yX2_link, Cond.selects RX2 yX2_link yX2_link, Cond.code yX2_link cX2_link 3 none, Cond.fieldLink RX2 18 "SharedLambda$Graph" "wires" "[I", Cond.static yX7_nodeAt, Cond.code yX7_nodeAt cX7_nodeAt 1 (some .int), Cond.methodLink RX2 51 yX2_rouse, Cond.instanceMethod yX2_rouse, Cond.selects RX2 yX2_rouse yX2_rouse, Cond.code yX2_rouse cX2_rouse 2 none, Cond.fieldLink RX2 38 "SharedLambda$Graph" "restlessCount" "I", Cond.fieldLink RX2 30 "SharedLambda$Graph" "isRestless" "[Z", Cond.fieldLink RX2 27 "SharedLambda$Graph" "restless" "[I", Cond.methodLink RX0 57 yX0_buildApplication, Cond.instanceMethod yX0_buildApplication, Cond.selects RX0 yX0_buildApplication yX0_buildApplication, Cond.code yX0_buildApplication cX0_buildApplication 7 none, Cond.methodLink RX0 67 yX0_bracket, Cond.instanceMethod yX0_bracket, Cond.selects RX0 yX0_bracket yX0_bracket, Cond.code yX0_bracket cX0_bracket 4 (some .int), Cond.methodLink RX0 70 yX0_share, Cond.instanceMethod yX0_share, Cond.selects RX0 yX0_share yX0_share]
noncomputable def wsX0_build_r4 : List Cond := [Cond.code yX0_share cX0_share 5 (some .int)]
noncomputable def wsX0_build : List Cond := .code yX0_build cX0_build 6 none :: ((wsX0_build_r1 ++ (wsX0_build_r2 ++ (wsX0_build_r3 ++ wsX0_build_r4))) ++ wsX00 ++ wsX20 ++ wsX40)
noncomputable def wsX4_init : List Cond := .code yX4_init cX4_init 1 none :: ([.methodLink RX4 3 objectInit, .instanceMethod objectInit, .code objectInit ⟨#[0xb1]⟩ 1 none, .arrayClass .int, .fieldLink RX4 11 "SharedLambda$TermReader" "wordKinds" "[I", .fieldLink RX4 15 "SharedLambda$TermReader" "wordIndexes" "[I", .fieldLink RX4 18 "SharedLambda$TermReader" "wordSlots" "[I", .fieldLink RX4 21 "SharedLambda$TermReader" "openNames" "[I", .fieldLink RX4 24 "SharedLambda$TermReader" "outerIndexes" "[I", .fieldLink RX4 27 "SharedLambda$TermReader" "outerParts" "[I", .fieldLink RX4 30 "SharedLambda$TermReader" "text" "[I"] ++ wsX40)
noncomputable def wsX4_begin : List Cond := .code yX4_begin cX4_begin 3 none :: ([.fieldLink RX4 30 "SharedLambda$TermReader" "text" "[I", .fieldLink RX4 37 "SharedLambda$TermReader" "length" "I", .fieldLink RX4 41 "SharedLambda$TermReader" "at" "I", .fieldLink RX4 53 "SharedLambda$TermReader" "words" "I", .fieldLink RX4 56 "SharedLambda$TermReader" "open" "I", .fieldLink RX4 59 "SharedLambda$TermReader" "names" "I", .fieldLink RX4 62 "SharedLambda$TermReader" "index" "I", .fieldLink RX4 65 "SharedLambda$TermReader" "parts" "I", .fieldLink RX4 44 "SharedLambda$TermReader" "fault" "I"] ++ wsX40)
noncomputable def wsX4_byteAt : List Cond := .code yX4_byteAt cX4_byteAt 2 (some .int) :: ([.fieldLink RX4 37 "SharedLambda$TermReader" "length" "I", .fieldLink RX4 30 "SharedLambda$TermReader" "text" "[I"] ++ wsX40)
noncomputable def wsX4_isBlank : List Cond := .code yX4_isBlank cX4_isBlank 1 (some .boolean) :: ([])
noncomputable def wsX4_skipBlanks : List Cond := .code yX4_skipBlanks cX4_skipBlanks 1 none :: ([.fieldLink RX4 41 "SharedLambda$TermReader" "at" "I", .fieldLink RX4 37 "SharedLambda$TermReader" "length" "I", .methodLink RX4 68 yX4_byteAt, .instanceMethod yX4_byteAt, .selects RX4 yX4_byteAt yX4_byteAt, .initialized RX4, .code yX4_byteAt cX4_byteAt 2 (some .int), .fieldLink RX4 30 "SharedLambda$TermReader" "text" "[I", .methodLink RX4 72 yX4_isBlank, .static yX4_isBlank, .code yX4_isBlank cX4_isBlank 1 (some .boolean)] ++ wsX40)
noncomputable def wsX4_isLetter : List Cond := .code yX4_isLetter cX4_isLetter 1 (some .boolean) :: ([])
noncomputable def wsX4_isDigit : List Cond := .code yX4_isDigit cX4_isDigit 1 (some .boolean) :: ([])
noncomputable def wsX4_nameSize : List Cond := .code yX4_nameSize cX4_nameSize 2 (some .int) :: ([.fieldLink RX4 41 "SharedLambda$TermReader" "at" "I", .fieldLink RX4 37 "SharedLambda$TermReader" "length" "I", .methodLink RX4 68 yX4_byteAt, .instanceMethod yX4_byteAt, .selects RX4 yX4_byteAt yX4_byteAt, .initialized RX4, .code yX4_byteAt cX4_byteAt 2 (some .int), .fieldLink RX4 30 "SharedLambda$TermReader" "text" "[I", .methodLink RX4 85 yX4_isLetter, .static yX4_isLetter, .code yX4_isLetter cX4_isLetter 1 (some .boolean), .methodLink RX4 124 yX4_isDigit, .static yX4_isDigit, .code yX4_isDigit cX4_isDigit 1 (some .boolean)] ++ wsX40)
noncomputable def wsX4_countName : List Cond := .code yX4_countName cX4_countName 1 (some .int) :: ([.fieldLink RX4 59 "SharedLambda$TermReader" "names" "I"] ++ wsX40)
noncomputable def wsX4_nameOf : List Cond := .code yX4_nameOf cX4_nameOf 4 (some .int) :: ([.fieldLink RX4 41 "SharedLambda$TermReader" "at" "I", .methodLink RX4 68 yX4_byteAt, .instanceMethod yX4_byteAt, .selects RX4 yX4_byteAt yX4_byteAt, .initialized RX4, .code yX4_byteAt cX4_byteAt 2 (some .int), .fieldLink RX4 37 "SharedLambda$TermReader" "length" "I", .fieldLink RX4 30 "SharedLambda$TermReader" "text" "[I"] ++ wsX40)
noncomputable def wsX4_push : List Cond := .code yX4_push cX4_push 2 none :: ([.fieldLink RX4 56 "SharedLambda$TermReader" "open" "I", .fieldLink RX4 21 "SharedLambda$TermReader" "openNames" "[I", .fieldLink RX4 24 "SharedLambda$TermReader" "outerIndexes" "[I", .fieldLink RX4 62 "SharedLambda$TermReader" "index" "I", .fieldLink RX4 27 "SharedLambda$TermReader" "outerParts" "[I", .fieldLink RX4 65 "SharedLambda$TermReader" "parts" "I"] ++ wsX40)
noncomputable def wsX4_openLambda_r1 : List Cond := [Cond.fieldLink RX4 65 "SharedLambda$TermReader" "parts" "I", Cond.fieldLink RX4 44 "SharedLambda$TermReader" "fault" "I", Cond.fieldLink RX4 56 "SharedLambda$TermReader" "open" "I", Cond.fieldLink RX4 41 "SharedLambda$TermReader" "at" "I", Cond.methodLink RX4 91 yX4_skipBlanks, Cond.instanceMethod yX4_skipBlanks, Cond.selects RX4 yX4_skipBlanks yX4_skipBlanks, Cond.initialized RX4, Cond.code yX4_skipBlanks cX4_skipBlanks 1 none, Cond.fieldLink RX4 37 "SharedLambda$TermReader" "length" "I", Cond.methodLink RX4 68 yX4_byteAt, Cond.instanceMethod yX4_byteAt, Cond.selects RX4 yX4_byteAt yX4_byteAt, Cond.code yX4_byteAt cX4_byteAt 2 (some .int), Cond.fieldLink RX4 30 "SharedLambda$TermReader" "text" "[I", Cond.methodLink RX4 72 yX4_isBlank, Cond.static yX4_isBlank, Cond.code yX4_isBlank cX4_isBlank 1 (some .boolean), Cond.methodLink RX4 94 yX4_nameSize, Cond.instanceMethod yX4_nameSize, Cond.selects RX4 yX4_nameSize yX4_nameSize, Cond.code yX4_nameSize cX4_nameSize 2 (some .int), Cond.methodLink RX4 85 yX4_isLetter, Cond.static yX4_isLetter]
noncomputable def wsX4_openLambda_r2 : List Cond := [Cond.code yX4_isLetter cX4_isLetter 1 (some .boolean), Cond.methodLink RX4 124 yX4_isDigit, Cond.static yX4_isDigit, Cond.code yX4_isDigit cX4_isDigit 1 (some .boolean), Cond.methodLink RX4 98 yX4_countName, Cond.instanceMethod yX4_countName, Cond.selects RX4 yX4_countName yX4_countName, Cond.code yX4_countName cX4_countName 1 (some .int), Cond.fieldLink RX4 59 "SharedLambda$TermReader" "names" "I", Cond.methodLink RX4 101 yX4_nameOf, Cond.instanceMethod yX4_nameOf, Cond.selects RX4 yX4_nameOf yX4_nameOf, Cond.code yX4_nameOf cX4_nameOf 4 (some .int), Cond.methodLink RX4 104 yX4_push, Cond.instanceMethod yX4_push, Cond.selects RX4 yX4_push yX4_push, Cond.code yX4_push cX4_push 2 none, Cond.fieldLink RX4 21 "SharedLambda$TermReader" "openNames" "[I", Cond.fieldLink RX4 24 "SharedLambda$TermReader" "outerIndexes" "[I", Cond.fieldLink RX4 62 "SharedLambda$TermReader" "index" "I", Cond.fieldLink RX4 27 "SharedLambda$TermReader" "outerParts" "[I"]
noncomputable def wsX4_openLambda : List Cond := .code yX4_openLambda cX4_openLambda 3 none :: ((wsX4_openLambda_r1 ++ wsX4_openLambda_r2) ++ wsX40)
noncomputable def wsX4_partIndex : List Cond := .code yX4_partIndex cX4_partIndex 1 (some .int) :: ([.fieldLink RX4 65 "SharedLambda$TermReader" "parts" "I", .fieldLink RX4 62 "SharedLambda$TermReader" "index" "I"] ++ wsX40)
noncomputable def wsX4_openParenthesis : List Cond := .code yX4_openParenthesis cX4_openParenthesis 1 none :: ([.fieldLink RX4 56 "SharedLambda$TermReader" "open" "I", .fieldLink RX4 44 "SharedLambda$TermReader" "fault" "I", .fieldLink RX4 41 "SharedLambda$TermReader" "at" "I", .fieldLink RX4 62 "SharedLambda$TermReader" "index" "I", .fieldLink RX4 65 "SharedLambda$TermReader" "parts" "I", .methodLink RX4 104 yX4_push, .instanceMethod yX4_push, .selects RX4 yX4_push yX4_push, .initialized RX4, .code yX4_push cX4_push 2 none, .fieldLink RX4 21 "SharedLambda$TermReader" "openNames" "[I", .fieldLink RX4 24 "SharedLambda$TermReader" "outerIndexes" "[I", .fieldLink RX4 27 "SharedLambda$TermReader" "outerParts" "[I", .methodLink RX4 108 yX4_partIndex, .instanceMethod yX4_partIndex, .selects RX4 yX4_partIndex yX4_partIndex, .code yX4_partIndex cX4_partIndex 1 (some .int)] ++ wsX40)
noncomputable def wsX4_addWord : List Cond := .code yX4_addWord cX4_addWord 4 none :: ([.fieldLink RX4 53 "SharedLambda$TermReader" "words" "I", .fieldLink RX4 11 "SharedLambda$TermReader" "wordKinds" "[I", .fieldLink RX4 15 "SharedLambda$TermReader" "wordIndexes" "[I", .fieldLink RX4 18 "SharedLambda$TermReader" "wordSlots" "[I"] ++ wsX40)
noncomputable def wsX4_closeLambdas : List Cond := .code yX4_closeLambdas cX4_closeLambdas 1 none :: ([.fieldLink RX4 56 "SharedLambda$TermReader" "open" "I", .fieldLink RX4 21 "SharedLambda$TermReader" "openNames" "[I", .fieldLink RX4 62 "SharedLambda$TermReader" "index" "I", .methodLink RX4 120 yX4_addWord, .instanceMethod yX4_addWord, .selects RX4 yX4_addWord yX4_addWord, .initialized RX4, .code yX4_addWord cX4_addWord 4 none, .fieldLink RX4 53 "SharedLambda$TermReader" "words" "I", .fieldLink RX4 11 "SharedLambda$TermReader" "wordKinds" "[I", .fieldLink RX4 15 "SharedLambda$TermReader" "wordIndexes" "[I", .fieldLink RX4 18 "SharedLambda$TermReader" "wordSlots" "[I"] ++ wsX40)
noncomputable def wsX4_endPart : List Cond := .code yX4_endPart cX4_endPart 1 none :: ([.fieldLink RX4 65 "SharedLambda$TermReader" "parts" "I", .fieldLink RX4 62 "SharedLambda$TermReader" "index" "I", .methodLink RX4 120 yX4_addWord, .instanceMethod yX4_addWord, .selects RX4 yX4_addWord yX4_addWord, .initialized RX4, .code yX4_addWord cX4_addWord 4 none, .fieldLink RX4 53 "SharedLambda$TermReader" "words" "I", .fieldLink RX4 11 "SharedLambda$TermReader" "wordKinds" "[I", .fieldLink RX4 15 "SharedLambda$TermReader" "wordIndexes" "[I", .fieldLink RX4 18 "SharedLambda$TermReader" "wordSlots" "[I"] ++ wsX40)
noncomputable def wsX4_closeParenthesis_r1 : List Cond := [Cond.fieldLink RX4 65 "SharedLambda$TermReader" "parts" "I", Cond.fieldLink RX4 44 "SharedLambda$TermReader" "fault" "I", Cond.fieldLink RX4 56 "SharedLambda$TermReader" "open" "I", Cond.fieldLink RX4 41 "SharedLambda$TermReader" "at" "I", Cond.fieldLink RX4 24 "SharedLambda$TermReader" "outerIndexes" "[I", Cond.fieldLink RX4 62 "SharedLambda$TermReader" "index" "I", Cond.fieldLink RX4 27 "SharedLambda$TermReader" "outerParts" "[I", Cond.methodLink RX4 111 yX4_closeLambdas, Cond.instanceMethod yX4_closeLambdas, Cond.selects RX4 yX4_closeLambdas yX4_closeLambdas, Cond.initialized RX4, Cond.code yX4_closeLambdas cX4_closeLambdas 1 none, Cond.fieldLink RX4 21 "SharedLambda$TermReader" "openNames" "[I", Cond.methodLink RX4 120 yX4_addWord, Cond.instanceMethod yX4_addWord, Cond.selects RX4 yX4_addWord yX4_addWord, Cond.code yX4_addWord cX4_addWord 4 none, Cond.fieldLink RX4 53 "SharedLambda$TermReader" "words" "I", Cond.fieldLink RX4 11 "SharedLambda$TermReader" "wordKinds" "[I", Cond.fieldLink RX4 15 "SharedLambda$TermReader" "wordIndexes" "[I", Cond.fieldLink RX4 18 "SharedLambda$TermReader" "wordSlots" "[I", Cond.methodLink RX4 114 yX4_endPart, Cond.instanceMethod yX4_endPart, Cond.selects RX4 yX4_endPart yX4_endPart]
noncomputable def wsX4_closeParenthesis_r2 : List Cond := [Cond.code yX4_endPart cX4_endPart 1 none]
noncomputable def wsX4_closeParenthesis : List Cond := .code yX4_closeParenthesis cX4_closeParenthesis 1 none :: ((wsX4_closeParenthesis_r1 ++ wsX4_closeParenthesis_r2) ++ wsX40)
noncomputable def wsX4_slotOf : List Cond := .code yX4_slotOf cX4_slotOf 3 (some .int) :: ([.fieldLink RX4 56 "SharedLambda$TermReader" "open" "I", .fieldLink RX4 21 "SharedLambda$TermReader" "openNames" "[I"] ++ wsX40)
noncomputable def wsX4_takeVariable_r1 : List Cond := [Cond.fieldLink RX4 44 "SharedLambda$TermReader" "fault" "I", Cond.fieldLink RX4 41 "SharedLambda$TermReader" "at" "I", Cond.methodLink RX4 94 yX4_nameSize, Cond.instanceMethod yX4_nameSize, Cond.selects RX4 yX4_nameSize yX4_nameSize, Cond.initialized RX4, Cond.code yX4_nameSize cX4_nameSize 2 (some .int), Cond.fieldLink RX4 37 "SharedLambda$TermReader" "length" "I", Cond.methodLink RX4 68 yX4_byteAt, Cond.instanceMethod yX4_byteAt, Cond.selects RX4 yX4_byteAt yX4_byteAt, Cond.code yX4_byteAt cX4_byteAt 2 (some .int), Cond.fieldLink RX4 30 "SharedLambda$TermReader" "text" "[I", Cond.methodLink RX4 85 yX4_isLetter, Cond.static yX4_isLetter, Cond.code yX4_isLetter cX4_isLetter 1 (some .boolean), Cond.methodLink RX4 124 yX4_isDigit, Cond.static yX4_isDigit, Cond.code yX4_isDigit cX4_isDigit 1 (some .boolean), Cond.methodLink RX4 101 yX4_nameOf, Cond.instanceMethod yX4_nameOf, Cond.selects RX4 yX4_nameOf yX4_nameOf, Cond.code yX4_nameOf cX4_nameOf 4 (some .int), Cond.methodLink RX4 117 yX4_slotOf]
noncomputable def wsX4_takeVariable_r2 : List Cond := [Cond.instanceMethod yX4_slotOf, Cond.selects RX4 yX4_slotOf yX4_slotOf, Cond.code yX4_slotOf cX4_slotOf 3 (some .int), Cond.fieldLink RX4 56 "SharedLambda$TermReader" "open" "I", Cond.fieldLink RX4 21 "SharedLambda$TermReader" "openNames" "[I", Cond.methodLink RX4 98 yX4_countName, Cond.instanceMethod yX4_countName, Cond.selects RX4 yX4_countName yX4_countName, Cond.code yX4_countName cX4_countName 1 (some .int), Cond.fieldLink RX4 59 "SharedLambda$TermReader" "names" "I", Cond.methodLink RX4 108 yX4_partIndex, Cond.instanceMethod yX4_partIndex, Cond.selects RX4 yX4_partIndex yX4_partIndex, Cond.code yX4_partIndex cX4_partIndex 1 (some .int), Cond.fieldLink RX4 65 "SharedLambda$TermReader" "parts" "I", Cond.fieldLink RX4 62 "SharedLambda$TermReader" "index" "I", Cond.methodLink RX4 120 yX4_addWord, Cond.instanceMethod yX4_addWord, Cond.selects RX4 yX4_addWord yX4_addWord, Cond.code yX4_addWord cX4_addWord 4 none, Cond.fieldLink RX4 53 "SharedLambda$TermReader" "words" "I", Cond.fieldLink RX4 11 "SharedLambda$TermReader" "wordKinds" "[I", Cond.fieldLink RX4 15 "SharedLambda$TermReader" "wordIndexes" "[I", Cond.fieldLink RX4 18 "SharedLambda$TermReader" "wordSlots" "[I"]
noncomputable def wsX4_takeVariable_r3 : List Cond := [Cond.methodLink RX4 114 yX4_endPart, Cond.instanceMethod yX4_endPart, Cond.selects RX4 yX4_endPart yX4_endPart, Cond.code yX4_endPart cX4_endPart 1 none]
noncomputable def wsX4_takeVariable : List Cond := .code yX4_takeVariable cX4_takeVariable 3 none :: ((wsX4_takeVariable_r1 ++ (wsX4_takeVariable_r2 ++ wsX4_takeVariable_r3)) ++ wsX40)
noncomputable def wsX4_takeNext_r1 : List Cond := [Cond.fieldLink RX4 41 "SharedLambda$TermReader" "at" "I", Cond.fieldLink RX4 44 "SharedLambda$TermReader" "fault" "I", Cond.methodLink RX4 68 yX4_byteAt, Cond.instanceMethod yX4_byteAt, Cond.selects RX4 yX4_byteAt yX4_byteAt, Cond.initialized RX4, Cond.code yX4_byteAt cX4_byteAt 2 (some .int), Cond.fieldLink RX4 37 "SharedLambda$TermReader" "length" "I", Cond.fieldLink RX4 30 "SharedLambda$TermReader" "text" "[I", Cond.methodLink RX4 72 yX4_isBlank, Cond.static yX4_isBlank, Cond.code yX4_isBlank cX4_isBlank 1 (some .boolean), Cond.methodLink RX4 76 yX4_openLambda, Cond.instanceMethod yX4_openLambda, Cond.selects RX4 yX4_openLambda yX4_openLambda, Cond.code yX4_openLambda cX4_openLambda 3 none, Cond.fieldLink RX4 65 "SharedLambda$TermReader" "parts" "I", Cond.fieldLink RX4 56 "SharedLambda$TermReader" "open" "I", Cond.methodLink RX4 91 yX4_skipBlanks, Cond.instanceMethod yX4_skipBlanks, Cond.selects RX4 yX4_skipBlanks yX4_skipBlanks, Cond.code yX4_skipBlanks cX4_skipBlanks 1 none, Cond.methodLink RX4 94 yX4_nameSize, Cond.instanceMethod yX4_nameSize]
noncomputable def wsX4_takeNext_r2 : List Cond := [Cond.selects RX4 yX4_nameSize yX4_nameSize, Cond.code yX4_nameSize cX4_nameSize 2 (some .int), Cond.methodLink RX4 85 yX4_isLetter, Cond.static yX4_isLetter, Cond.code yX4_isLetter cX4_isLetter 1 (some .boolean), Cond.methodLink RX4 124 yX4_isDigit, Cond.static yX4_isDigit, Cond.code yX4_isDigit cX4_isDigit 1 (some .boolean), Cond.methodLink RX4 98 yX4_countName, Cond.instanceMethod yX4_countName, Cond.selects RX4 yX4_countName yX4_countName, Cond.code yX4_countName cX4_countName 1 (some .int), Cond.fieldLink RX4 59 "SharedLambda$TermReader" "names" "I", Cond.methodLink RX4 101 yX4_nameOf, Cond.instanceMethod yX4_nameOf, Cond.selects RX4 yX4_nameOf yX4_nameOf, Cond.code yX4_nameOf cX4_nameOf 4 (some .int), Cond.methodLink RX4 104 yX4_push, Cond.instanceMethod yX4_push, Cond.selects RX4 yX4_push yX4_push, Cond.code yX4_push cX4_push 2 none, Cond.fieldLink RX4 21 "SharedLambda$TermReader" "openNames" "[I", Cond.fieldLink RX4 24 "SharedLambda$TermReader" "outerIndexes" "[I", Cond.fieldLink RX4 62 "SharedLambda$TermReader" "index" "I"]
noncomputable def wsX4_takeNext_r3 : List Cond := [Cond.fieldLink RX4 27 "SharedLambda$TermReader" "outerParts" "[I", Cond.methodLink RX4 79 yX4_openParenthesis, Cond.instanceMethod yX4_openParenthesis, Cond.selects RX4 yX4_openParenthesis yX4_openParenthesis, Cond.code yX4_openParenthesis cX4_openParenthesis 1 none, Cond.methodLink RX4 108 yX4_partIndex, Cond.instanceMethod yX4_partIndex, Cond.selects RX4 yX4_partIndex yX4_partIndex, Cond.code yX4_partIndex cX4_partIndex 1 (some .int), Cond.methodLink RX4 82 yX4_closeParenthesis, Cond.instanceMethod yX4_closeParenthesis, Cond.selects RX4 yX4_closeParenthesis yX4_closeParenthesis, Cond.code yX4_closeParenthesis cX4_closeParenthesis 1 none, Cond.methodLink RX4 111 yX4_closeLambdas, Cond.instanceMethod yX4_closeLambdas, Cond.selects RX4 yX4_closeLambdas yX4_closeLambdas, Cond.code yX4_closeLambdas cX4_closeLambdas 1 none, Cond.methodLink RX4 120 yX4_addWord, Cond.instanceMethod yX4_addWord, Cond.selects RX4 yX4_addWord yX4_addWord, Cond.code yX4_addWord cX4_addWord 4 none, Cond.fieldLink RX4 53 "SharedLambda$TermReader" "words" "I", Cond.fieldLink RX4 11 "SharedLambda$TermReader" "wordKinds" "[I", Cond.fieldLink RX4 15 "SharedLambda$TermReader" "wordIndexes" "[I"]
noncomputable def wsX4_takeNext_r4 : List Cond := [Cond.fieldLink RX4 18 "SharedLambda$TermReader" "wordSlots" "[I", Cond.methodLink RX4 114 yX4_endPart, Cond.instanceMethod yX4_endPart, Cond.selects RX4 yX4_endPart yX4_endPart, Cond.code yX4_endPart cX4_endPart 1 none, Cond.methodLink RX4 88 yX4_takeVariable, Cond.instanceMethod yX4_takeVariable, Cond.selects RX4 yX4_takeVariable yX4_takeVariable, Cond.code yX4_takeVariable cX4_takeVariable 3 none, Cond.methodLink RX4 117 yX4_slotOf, Cond.instanceMethod yX4_slotOf, Cond.selects RX4 yX4_slotOf yX4_slotOf, Cond.code yX4_slotOf cX4_slotOf 3 (some .int)]
noncomputable def wsX4_takeNext : List Cond := .code yX4_takeNext cX4_takeNext 2 none :: ((wsX4_takeNext_r1 ++ (wsX4_takeNext_r2 ++ (wsX4_takeNext_r3 ++ wsX4_takeNext_r4))) ++ wsX40)
noncomputable def wsX4_endText : List Cond := .code yX4_endText cX4_endText 1 none :: ([.fieldLink RX4 65 "SharedLambda$TermReader" "parts" "I", .fieldLink RX4 44 "SharedLambda$TermReader" "fault" "I", .fieldLink RX4 56 "SharedLambda$TermReader" "open" "I", .methodLink RX4 111 yX4_closeLambdas, .instanceMethod yX4_closeLambdas, .selects RX4 yX4_closeLambdas yX4_closeLambdas, .initialized RX4, .code yX4_closeLambdas cX4_closeLambdas 1 none, .fieldLink RX4 21 "SharedLambda$TermReader" "openNames" "[I", .fieldLink RX4 62 "SharedLambda$TermReader" "index" "I", .methodLink RX4 120 yX4_addWord, .instanceMethod yX4_addWord, .selects RX4 yX4_addWord yX4_addWord, .code yX4_addWord cX4_addWord 4 none, .fieldLink RX4 53 "SharedLambda$TermReader" "words" "I", .fieldLink RX4 11 "SharedLambda$TermReader" "wordKinds" "[I", .fieldLink RX4 15 "SharedLambda$TermReader" "wordIndexes" "[I", .fieldLink RX4 18 "SharedLambda$TermReader" "wordSlots" "[I"] ++ wsX40)
noncomputable def wsX4_scan_r1 : List Cond := [Cond.fieldLink RX4 37 "SharedLambda$TermReader" "length" "I", Cond.fieldLink RX4 41 "SharedLambda$TermReader" "at" "I", Cond.fieldLink RX4 44 "SharedLambda$TermReader" "fault" "I", Cond.methodLink RX4 33 yX4_begin, Cond.instanceMethod yX4_begin, Cond.selects RX4 yX4_begin yX4_begin, Cond.initialized RX4, Cond.code yX4_begin cX4_begin 3 none, Cond.fieldLink RX4 30 "SharedLambda$TermReader" "text" "[I", Cond.fieldLink RX4 53 "SharedLambda$TermReader" "words" "I", Cond.fieldLink RX4 56 "SharedLambda$TermReader" "open" "I", Cond.fieldLink RX4 59 "SharedLambda$TermReader" "names" "I", Cond.fieldLink RX4 62 "SharedLambda$TermReader" "index" "I", Cond.fieldLink RX4 65 "SharedLambda$TermReader" "parts" "I", Cond.methodLink RX4 47 yX4_takeNext, Cond.instanceMethod yX4_takeNext, Cond.selects RX4 yX4_takeNext yX4_takeNext, Cond.code yX4_takeNext cX4_takeNext 2 none, Cond.methodLink RX4 68 yX4_byteAt, Cond.instanceMethod yX4_byteAt, Cond.selects RX4 yX4_byteAt yX4_byteAt, Cond.code yX4_byteAt cX4_byteAt 2 (some .int), Cond.methodLink RX4 72 yX4_isBlank, Cond.static yX4_isBlank]
noncomputable def wsX4_scan_r2 : List Cond := [Cond.code yX4_isBlank cX4_isBlank 1 (some .boolean), Cond.methodLink RX4 76 yX4_openLambda, Cond.instanceMethod yX4_openLambda, Cond.selects RX4 yX4_openLambda yX4_openLambda, Cond.code yX4_openLambda cX4_openLambda 3 none, Cond.methodLink RX4 91 yX4_skipBlanks, Cond.instanceMethod yX4_skipBlanks, Cond.selects RX4 yX4_skipBlanks yX4_skipBlanks, Cond.code yX4_skipBlanks cX4_skipBlanks 1 none, Cond.methodLink RX4 94 yX4_nameSize, Cond.instanceMethod yX4_nameSize, Cond.selects RX4 yX4_nameSize yX4_nameSize, Cond.code yX4_nameSize cX4_nameSize 2 (some .int), Cond.methodLink RX4 85 yX4_isLetter, Cond.static yX4_isLetter, Cond.code yX4_isLetter cX4_isLetter 1 (some .boolean), Cond.methodLink RX4 124 yX4_isDigit, Cond.static yX4_isDigit, Cond.code yX4_isDigit cX4_isDigit 1 (some .boolean), Cond.methodLink RX4 98 yX4_countName, Cond.instanceMethod yX4_countName, Cond.selects RX4 yX4_countName yX4_countName, Cond.code yX4_countName cX4_countName 1 (some .int), Cond.methodLink RX4 101 yX4_nameOf]
noncomputable def wsX4_scan_r3 : List Cond := [Cond.instanceMethod yX4_nameOf, Cond.selects RX4 yX4_nameOf yX4_nameOf, Cond.code yX4_nameOf cX4_nameOf 4 (some .int), Cond.methodLink RX4 104 yX4_push, Cond.instanceMethod yX4_push, Cond.selects RX4 yX4_push yX4_push, Cond.code yX4_push cX4_push 2 none, Cond.fieldLink RX4 21 "SharedLambda$TermReader" "openNames" "[I", Cond.fieldLink RX4 24 "SharedLambda$TermReader" "outerIndexes" "[I", Cond.fieldLink RX4 27 "SharedLambda$TermReader" "outerParts" "[I", Cond.methodLink RX4 79 yX4_openParenthesis, Cond.instanceMethod yX4_openParenthesis, Cond.selects RX4 yX4_openParenthesis yX4_openParenthesis, Cond.code yX4_openParenthesis cX4_openParenthesis 1 none, Cond.methodLink RX4 108 yX4_partIndex, Cond.instanceMethod yX4_partIndex, Cond.selects RX4 yX4_partIndex yX4_partIndex, Cond.code yX4_partIndex cX4_partIndex 1 (some .int), Cond.methodLink RX4 82 yX4_closeParenthesis, Cond.instanceMethod yX4_closeParenthesis, Cond.selects RX4 yX4_closeParenthesis yX4_closeParenthesis, Cond.code yX4_closeParenthesis cX4_closeParenthesis 1 none, Cond.methodLink RX4 111 yX4_closeLambdas, Cond.instanceMethod yX4_closeLambdas]
noncomputable def wsX4_scan_r4 : List Cond := [Cond.selects RX4 yX4_closeLambdas yX4_closeLambdas, Cond.code yX4_closeLambdas cX4_closeLambdas 1 none, Cond.methodLink RX4 120 yX4_addWord, Cond.instanceMethod yX4_addWord, Cond.selects RX4 yX4_addWord yX4_addWord, Cond.code yX4_addWord cX4_addWord 4 none, Cond.fieldLink RX4 11 "SharedLambda$TermReader" "wordKinds" "[I", Cond.fieldLink RX4 15 "SharedLambda$TermReader" "wordIndexes" "[I", Cond.fieldLink RX4 18 "SharedLambda$TermReader" "wordSlots" "[I", Cond.methodLink RX4 114 yX4_endPart, Cond.instanceMethod yX4_endPart, Cond.selects RX4 yX4_endPart yX4_endPart, Cond.code yX4_endPart cX4_endPart 1 none, Cond.methodLink RX4 88 yX4_takeVariable, Cond.instanceMethod yX4_takeVariable, Cond.selects RX4 yX4_takeVariable yX4_takeVariable, Cond.code yX4_takeVariable cX4_takeVariable 3 none, Cond.methodLink RX4 117 yX4_slotOf, Cond.instanceMethod yX4_slotOf, Cond.selects RX4 yX4_slotOf yX4_slotOf, Cond.code yX4_slotOf cX4_slotOf 3 (some .int), Cond.methodLink RX4 50 yX4_endText, Cond.instanceMethod yX4_endText, Cond.selects RX4 yX4_endText yX4_endText]
noncomputable def wsX4_scan_r5 : List Cond := [Cond.code yX4_endText cX4_endText 1 none]
noncomputable def wsX4_scan : List Cond := .code yX4_scan cX4_scan 4 (some .int) :: ((wsX4_scan_r1 ++ (wsX4_scan_r2 ++ (wsX4_scan_r3 ++ (wsX4_scan_r4 ++ wsX4_scan_r5)))) ++ wsX40)
noncomputable def wsX4_place : List Cond := .code yX4_place cX4_place 1 (some .int) :: ([.fieldLink RX4 41 "SharedLambda$TermReader" "at" "I"] ++ wsX40)
theorem dX0_init_0 : decode cX0_init 0 = .ok (.aload_n 0, 1) := by decide +kernel
theorem dX0_init_1 : decode cX0_init 1 = .ok (.invokespecial 3, 3) := by decide +kernel
theorem dX0_init_4 : decode cX0_init 4 = .ok (.aload_n 0, 1) := by decide +kernel
theorem dX0_init_5 : decode cX0_init 5 = .ok (.bipush 43, 2) := by decide +kernel
theorem dX0_init_7 : decode cX0_init 7 = .ok (.newarray .int, 2) := by decide +kernel
theorem dX0_init_9 : decode cX0_init 9 = .ok (.putfield 11, 3) := by decide +kernel
theorem dX0_init_12 : decode cX0_init 12 = .ok (.aload_n 0, 1) := by decide +kernel
theorem dX0_init_13 : decode cX0_init 13 = .ok (.bipush 43, 2) := by decide +kernel
theorem dX0_init_15 : decode cX0_init 15 = .ok (.bipush 40, 2) := by decide +kernel
theorem dX0_init_17 : decode cX0_init 17 = .ok (.multianewarray 15 2, 4) := by decide +kernel
theorem dX0_init_21 : decode cX0_init 21 = .ok (.putfield 17, 3) := by decide +kernel
theorem dX0_init_24 : decode cX0_init 24 = .ok (.aload_n 0, 1) := by decide +kernel
theorem dX0_init_25 : decode cX0_init 25 = .ok (.aload_n 1, 1) := by decide +kernel
theorem dX0_init_26 : decode cX0_init 26 = .ok (.putfield 20, 3) := by decide +kernel
theorem dX0_init_29 : decode cX0_init 29 = .ok (.return_, 1) := by decide +kernel
theorem dX4_wordCount_0 : decode cX4_wordCount 0 = .ok (.aload_n 0, 1) := by decide +kernel
theorem dX4_wordCount_1 : decode cX4_wordCount 1 = .ok (.getfield 53, 3) := by decide +kernel
theorem dX4_wordCount_4 : decode cX4_wordCount 4 = .ok (.ireturn, 1) := by decide +kernel
theorem dX4_wordIndex_0 : decode cX4_wordIndex 0 = .ok (.iload_n 1, 1) := by decide +kernel
theorem dX4_wordIndex_1 : decode cX4_wordIndex 1 = .ok (.ifCond .lt 20, 3) := by decide +kernel
theorem dX4_wordIndex_4 : decode cX4_wordIndex 4 = .ok (.iload_n 1, 1) := by decide +kernel
theorem dX4_wordIndex_5 : decode cX4_wordIndex 5 = .ok (.aload_n 0, 1) := by decide +kernel
theorem dX4_wordIndex_6 : decode cX4_wordIndex 6 = .ok (.getfield 53, 3) := by decide +kernel
theorem dX4_wordIndex_9 : decode cX4_wordIndex 9 = .ok (.if_icmp .ge 12, 3) := by decide +kernel
theorem dX4_wordIndex_12 : decode cX4_wordIndex 12 = .ok (.aload_n 0, 1) := by decide +kernel
theorem dX4_wordIndex_13 : decode cX4_wordIndex 13 = .ok (.getfield 15, 3) := by decide +kernel
theorem dX4_wordIndex_16 : decode cX4_wordIndex 16 = .ok (.iload_n 1, 1) := by decide +kernel
theorem dX4_wordIndex_17 : decode cX4_wordIndex 17 = .ok (.iaload, 1) := by decide +kernel
theorem dX4_wordIndex_18 : decode cX4_wordIndex 18 = .ok (.goto 4, 3) := by decide +kernel
theorem dX4_wordIndex_21 : decode cX4_wordIndex 21 = .ok (.iconst 0, 1) := by decide +kernel
theorem dX4_wordIndex_22 : decode cX4_wordIndex 22 = .ok (.ireturn, 1) := by decide +kernel
theorem dX4_wordSlot_0 : decode cX4_wordSlot 0 = .ok (.iload_n 1, 1) := by decide +kernel
theorem dX4_wordSlot_1 : decode cX4_wordSlot 1 = .ok (.ifCond .lt 20, 3) := by decide +kernel
theorem dX4_wordSlot_4 : decode cX4_wordSlot 4 = .ok (.iload_n 1, 1) := by decide +kernel
theorem dX4_wordSlot_5 : decode cX4_wordSlot 5 = .ok (.aload_n 0, 1) := by decide +kernel
theorem dX4_wordSlot_6 : decode cX4_wordSlot 6 = .ok (.getfield 53, 3) := by decide +kernel
theorem dX4_wordSlot_9 : decode cX4_wordSlot 9 = .ok (.if_icmp .ge 12, 3) := by decide +kernel
theorem dX4_wordSlot_12 : decode cX4_wordSlot 12 = .ok (.aload_n 0, 1) := by decide +kernel
theorem dX4_wordSlot_13 : decode cX4_wordSlot 13 = .ok (.getfield 18, 3) := by decide +kernel
theorem dX4_wordSlot_16 : decode cX4_wordSlot 16 = .ok (.iload_n 1, 1) := by decide +kernel
theorem dX4_wordSlot_17 : decode cX4_wordSlot 17 = .ok (.iaload, 1) := by decide +kernel
theorem dX4_wordSlot_18 : decode cX4_wordSlot 18 = .ok (.goto 4, 3) := by decide +kernel
theorem dX4_wordSlot_21 : decode cX4_wordSlot 21 = .ok (.iconst (-1), 1) := by decide +kernel
theorem dX4_wordSlot_22 : decode cX4_wordSlot 22 = .ok (.ireturn, 1) := by decide +kernel
theorem dX4_wordKind_0 : decode cX4_wordKind 0 = .ok (.iload_n 1, 1) := by decide +kernel
theorem dX4_wordKind_1 : decode cX4_wordKind 1 = .ok (.ifCond .lt 20, 3) := by decide +kernel
theorem dX4_wordKind_4 : decode cX4_wordKind 4 = .ok (.iload_n 1, 1) := by decide +kernel
theorem dX4_wordKind_5 : decode cX4_wordKind 5 = .ok (.aload_n 0, 1) := by decide +kernel
theorem dX4_wordKind_6 : decode cX4_wordKind 6 = .ok (.getfield 53, 3) := by decide +kernel
theorem dX4_wordKind_9 : decode cX4_wordKind 9 = .ok (.if_icmp .ge 12, 3) := by decide +kernel
theorem dX4_wordKind_12 : decode cX4_wordKind 12 = .ok (.aload_n 0, 1) := by decide +kernel
theorem dX4_wordKind_13 : decode cX4_wordKind 13 = .ok (.getfield 11, 3) := by decide +kernel
theorem dX4_wordKind_16 : decode cX4_wordKind 16 = .ok (.iload_n 1, 1) := by decide +kernel
theorem dX4_wordKind_17 : decode cX4_wordKind 17 = .ok (.iaload, 1) := by decide +kernel
theorem dX4_wordKind_18 : decode cX4_wordKind 18 = .ok (.goto 4, 3) := by decide +kernel
theorem dX4_wordKind_21 : decode cX4_wordKind 21 = .ok (.iconst (-1), 1) := by decide +kernel
theorem dX4_wordKind_22 : decode cX4_wordKind 22 = .ok (.ireturn, 1) := by decide +kernel
set_option maxRecDepth 20000 in
theorem ggX0_buildName_X2_make : GoodIn wsX0_buildName wsX2_make := goodIn_r _ [9, 10, 11, 12, 13, 14, 22, 23, 24, 25, 26, 27, 28, 29, 30, 31] (by decide +kernel) (by decide +kernel)
set_option maxRecDepth 20000 in
theorem gX0_buildName_X2_make : GoodIn wsX0_buildName (wsV RX0 28 RX2 yX2_make wsX2_make) := goodIn_app (goodIn_of _ (by decide +kernel)) ggX0_buildName_X2_make
set_option maxRecDepth 20000 in
theorem ggX0_buildName_X7_portOf : GoodIn wsX0_buildName wsX7_portOf := goodIn_r _ [17] (by decide +kernel) (by decide +kernel)
set_option maxRecDepth 20000 in
theorem gX0_buildName_X7_portOf_n61 : GoodIn wsX0_buildName (wsX7_portOf) := ggX0_buildName_X7_portOf
theorem dX0_buildName_0 : decode cX0_buildName 0 = .ok (.aload_n 0, 1) := by decide +kernel
theorem dX0_buildName_1 : decode cX0_buildName 1 = .ok (.getfield 24, 3) := by decide +kernel
theorem dX0_buildName_4 : decode cX0_buildName 4 = .ok (.bipush 43, 2) := by decide +kernel
theorem dX0_buildName_6 : decode cX0_buildName 6 = .ok (.if_icmp .ge 13, 3) := by decide +kernel
theorem dX0_buildName_9 : decode cX0_buildName 9 = .ok (.iload_n 2, 1) := by decide +kernel
theorem dX0_buildName_10 : decode cX0_buildName 10 = .ok (.ifCond .lt 9, 3) := by decide +kernel
theorem dX0_buildName_13 : decode cX0_buildName 13 = .ok (.iload_n 2, 1) := by decide +kernel
theorem dX0_buildName_14 : decode cX0_buildName 14 = .ok (.bipush 40, 2) := by decide +kernel
theorem dX0_buildName_16 : decode cX0_buildName 16 = .ok (.if_icmp .lt 4, 3) := by decide +kernel
theorem dX0_buildName_19 : decode cX0_buildName 19 = .ok (.return_, 1) := by decide +kernel
theorem dX0_buildName_20 : decode cX0_buildName 20 = .ok (.aload_n 0, 1) := by decide +kernel
theorem dX0_buildName_21 : decode cX0_buildName 21 = .ok (.getfield 20, 3) := by decide +kernel
theorem dX0_buildName_24 : decode cX0_buildName 24 = .ok (.iconst 3, 1) := by decide +kernel
theorem dX0_buildName_25 : decode cX0_buildName 25 = .ok (.iload_n 1, 1) := by decide +kernel
theorem dX0_buildName_26 : decode cX0_buildName 26 = .ok (.invokevirtual 28, 3) := by decide +kernel
theorem dX0_buildName_29 : decode cX0_buildName 29 = .ok (.istore_n 3, 1) := by decide +kernel
theorem dX0_buildName_30 : decode cX0_buildName 30 = .ok (.iconst 0, 1) := by decide +kernel
theorem dX0_buildName_31 : decode cX0_buildName 31 = .ok (.istore 4, 2) := by decide +kernel
theorem dX0_buildName_33 : decode cX0_buildName 33 = .ok (.iload 4, 2) := by decide +kernel
theorem dX0_buildName_35 : decode cX0_buildName 35 = .ok (.bipush 40, 2) := by decide +kernel
theorem dX0_buildName_37 : decode cX0_buildName 37 = .ok (.if_icmp .ge 22, 3) := by decide +kernel
theorem dX0_buildName_40 : decode cX0_buildName 40 = .ok (.aload_n 0, 1) := by decide +kernel
theorem dX0_buildName_41 : decode cX0_buildName 41 = .ok (.getfield 17, 3) := by decide +kernel
theorem dX0_buildName_44 : decode cX0_buildName 44 = .ok (.aload_n 0, 1) := by decide +kernel
theorem dX0_buildName_45 : decode cX0_buildName 45 = .ok (.getfield 24, 3) := by decide +kernel
theorem dX0_buildName_48 : decode cX0_buildName 48 = .ok (.aaload, 1) := by decide +kernel
theorem dX0_buildName_49 : decode cX0_buildName 49 = .ok (.iload 4, 2) := by decide +kernel
theorem dX0_buildName_51 : decode cX0_buildName 51 = .ok (.iconst (-1), 1) := by decide +kernel
theorem dX0_buildName_52 : decode cX0_buildName 52 = .ok (.iastore, 1) := by decide +kernel
theorem dX0_buildName_53 : decode cX0_buildName 53 = .ok (.iinc 4 1, 3) := by decide +kernel
theorem dX0_buildName_56 : decode cX0_buildName 56 = .ok (.goto (-23), 3) := by decide +kernel
theorem dX0_buildName_59 : decode cX0_buildName 59 = .ok (.aload_n 0, 1) := by decide +kernel
theorem dX0_buildName_60 : decode cX0_buildName 60 = .ok (.getfield 11, 3) := by decide +kernel
theorem dX0_buildName_63 : decode cX0_buildName 63 = .ok (.aload_n 0, 1) := by decide +kernel
theorem dX0_buildName_64 : decode cX0_buildName 64 = .ok (.getfield 24, 3) := by decide +kernel
theorem dX0_buildName_67 : decode cX0_buildName 67 = .ok (.iload_n 3, 1) := by decide +kernel
theorem dX0_buildName_68 : decode cX0_buildName 68 = .ok (.iconst 1, 1) := by decide +kernel
theorem dX0_buildName_69 : decode cX0_buildName 69 = .ok (.invokestatic 61, 3) := by decide +kernel
theorem dX0_buildName_72 : decode cX0_buildName 72 = .ok (.iastore, 1) := by decide +kernel
theorem dX0_buildName_73 : decode cX0_buildName 73 = .ok (.aload_n 0, 1) := by decide +kernel
theorem dX0_buildName_74 : decode cX0_buildName 74 = .ok (.getfield 17, 3) := by decide +kernel
theorem dX0_buildName_77 : decode cX0_buildName 77 = .ok (.aload_n 0, 1) := by decide +kernel
theorem dX0_buildName_78 : decode cX0_buildName 78 = .ok (.getfield 24, 3) := by decide +kernel
theorem dX0_buildName_81 : decode cX0_buildName 81 = .ok (.aaload, 1) := by decide +kernel
theorem dX0_buildName_82 : decode cX0_buildName 82 = .ok (.iload_n 2, 1) := by decide +kernel
theorem dX0_buildName_83 : decode cX0_buildName 83 = .ok (.iload_n 3, 1) := by decide +kernel
theorem dX0_buildName_84 : decode cX0_buildName 84 = .ok (.iconst 0, 1) := by decide +kernel
theorem dX0_buildName_85 : decode cX0_buildName 85 = .ok (.invokestatic 61, 3) := by decide +kernel
theorem dX0_buildName_88 : decode cX0_buildName 88 = .ok (.iastore, 1) := by decide +kernel
theorem dX0_buildName_89 : decode cX0_buildName 89 = .ok (.aload_n 0, 1) := by decide +kernel
theorem dX0_buildName_90 : decode cX0_buildName 90 = .ok (.dup, 1) := by decide +kernel
theorem dX0_buildName_91 : decode cX0_buildName 91 = .ok (.getfield 24, 3) := by decide +kernel
theorem dX0_buildName_94 : decode cX0_buildName 94 = .ok (.iconst 1, 1) := by decide +kernel
theorem dX0_buildName_95 : decode cX0_buildName 95 = .ok (.iadd, 1) := by decide +kernel
theorem dX0_buildName_96 : decode cX0_buildName 96 = .ok (.putfield 24, 3) := by decide +kernel
theorem dX0_buildName_99 : decode cX0_buildName 99 = .ok (.return_, 1) := by decide +kernel
set_option maxRecDepth 20000 in
theorem ggX0_buildLambda_X2_make : GoodIn wsX0_buildLambda wsX2_make := goodIn_r _ [9, 10, 11, 12, 13, 14, 36, 37, 38, 39, 40, 41, 42, 43, 44, 45] (by decide +kernel) (by decide +kernel)
set_option maxRecDepth 20000 in
theorem gX0_buildLambda_X2_make : GoodIn wsX0_buildLambda (wsV RX0 28 RX2 yX2_make wsX2_make) := goodIn_app (goodIn_of _ (by decide +kernel)) ggX0_buildLambda_X2_make
set_option maxRecDepth 20000 in
theorem ggX0_buildLambda_X7_portOf : GoodIn wsX0_buildLambda wsX7_portOf := goodIn_r _ [17] (by decide +kernel) (by decide +kernel)
set_option maxRecDepth 20000 in
theorem gX0_buildLambda_X7_portOf_n61 : GoodIn wsX0_buildLambda (wsX7_portOf) := ggX0_buildLambda_X7_portOf
set_option maxRecDepth 20000 in
theorem ggX0_buildLambda_X2_link : GoodIn wsX0_buildLambda wsX2_link := goodIn_r _ [21, 22, 23, 16, 24, 25, 26, 27, 8, 28, 29, 12, 30, 31, 36, 37, 38, 39, 40, 41, 42, 43, 44, 45] (by decide +kernel) (by decide +kernel)
set_option maxRecDepth 20000 in
theorem gX0_buildLambda_X2_link : GoodIn wsX0_buildLambda (wsV RX0 64 RX2 yX2_link wsX2_link) := goodIn_app (goodIn_of _ (by decide +kernel)) ggX0_buildLambda_X2_link
theorem dX0_buildLambda_0 : decode cX0_buildLambda 0 = .ok (.aload_n 0, 1) := by decide +kernel
theorem dX0_buildLambda_1 : decode cX0_buildLambda 1 = .ok (.getfield 24, 3) := by decide +kernel
theorem dX0_buildLambda_4 : decode cX0_buildLambda 4 = .ok (.iconst 1, 1) := by decide +kernel
theorem dX0_buildLambda_5 : decode cX0_buildLambda 5 = .ok (.if_icmp .lt 13, 3) := by decide +kernel
theorem dX0_buildLambda_8 : decode cX0_buildLambda 8 = .ok (.iload_n 2, 1) := by decide +kernel
theorem dX0_buildLambda_9 : decode cX0_buildLambda 9 = .ok (.ifCond .lt 9, 3) := by decide +kernel
theorem dX0_buildLambda_12 : decode cX0_buildLambda 12 = .ok (.iload_n 2, 1) := by decide +kernel
theorem dX0_buildLambda_13 : decode cX0_buildLambda 13 = .ok (.bipush 40, 2) := by decide +kernel
theorem dX0_buildLambda_15 : decode cX0_buildLambda 15 = .ok (.if_icmp .lt 4, 3) := by decide +kernel
theorem dX0_buildLambda_18 : decode cX0_buildLambda 18 = .ok (.return_, 1) := by decide +kernel
theorem dX0_buildLambda_19 : decode cX0_buildLambda 19 = .ok (.aload_n 0, 1) := by decide +kernel
theorem dX0_buildLambda_20 : decode cX0_buildLambda 20 = .ok (.getfield 24, 3) := by decide +kernel
theorem dX0_buildLambda_23 : decode cX0_buildLambda 23 = .ok (.iconst 1, 1) := by decide +kernel
theorem dX0_buildLambda_24 : decode cX0_buildLambda 24 = .ok (.isub, 1) := by decide +kernel
theorem dX0_buildLambda_25 : decode cX0_buildLambda 25 = .ok (.istore_n 3, 1) := by decide +kernel
theorem dX0_buildLambda_26 : decode cX0_buildLambda 26 = .ok (.aload_n 0, 1) := by decide +kernel
theorem dX0_buildLambda_27 : decode cX0_buildLambda 27 = .ok (.getfield 20, 3) := by decide +kernel
theorem dX0_buildLambda_30 : decode cX0_buildLambda 30 = .ok (.iconst 0, 1) := by decide +kernel
theorem dX0_buildLambda_31 : decode cX0_buildLambda 31 = .ok (.iload_n 1, 1) := by decide +kernel
theorem dX0_buildLambda_32 : decode cX0_buildLambda 32 = .ok (.invokevirtual 28, 3) := by decide +kernel
theorem dX0_buildLambda_35 : decode cX0_buildLambda 35 = .ok (.istore 4, 2) := by decide +kernel
theorem dX0_buildLambda_37 : decode cX0_buildLambda 37 = .ok (.aload_n 0, 1) := by decide +kernel
theorem dX0_buildLambda_38 : decode cX0_buildLambda 38 = .ok (.getfield 17, 3) := by decide +kernel
theorem dX0_buildLambda_41 : decode cX0_buildLambda 41 = .ok (.iload_n 3, 1) := by decide +kernel
theorem dX0_buildLambda_42 : decode cX0_buildLambda 42 = .ok (.aaload, 1) := by decide +kernel
theorem dX0_buildLambda_43 : decode cX0_buildLambda 43 = .ok (.iload_n 2, 1) := by decide +kernel
theorem dX0_buildLambda_44 : decode cX0_buildLambda 44 = .ok (.iaload, 1) := by decide +kernel
theorem dX0_buildLambda_45 : decode cX0_buildLambda 45 = .ok (.istore 5, 2) := by decide +kernel
theorem dX0_buildLambda_47 : decode cX0_buildLambda 47 = .ok (.iload 5, 2) := by decide +kernel
theorem dX0_buildLambda_49 : decode cX0_buildLambda 49 = .ok (.iconst (-1), 1) := by decide +kernel
theorem dX0_buildLambda_50 : decode cX0_buildLambda 50 = .ok (.if_icmp .ne 18, 3) := by decide +kernel
theorem dX0_buildLambda_53 : decode cX0_buildLambda 53 = .ok (.aload_n 0, 1) := by decide +kernel
theorem dX0_buildLambda_54 : decode cX0_buildLambda 54 = .ok (.getfield 20, 3) := by decide +kernel
theorem dX0_buildLambda_57 : decode cX0_buildLambda 57 = .ok (.iconst 5, 1) := by decide +kernel
theorem dX0_buildLambda_58 : decode cX0_buildLambda 58 = .ok (.iconst (-1), 1) := by decide +kernel
theorem dX0_buildLambda_59 : decode cX0_buildLambda 59 = .ok (.invokevirtual 28, 3) := by decide +kernel
theorem dX0_buildLambda_62 : decode cX0_buildLambda 62 = .ok (.iconst 0, 1) := by decide +kernel
theorem dX0_buildLambda_63 : decode cX0_buildLambda 63 = .ok (.invokestatic 61, 3) := by decide +kernel
theorem dX0_buildLambda_66 : decode cX0_buildLambda 66 = .ok (.istore 5, 2) := by decide +kernel
theorem dX0_buildLambda_68 : decode cX0_buildLambda 68 = .ok (.aload_n 0, 1) := by decide +kernel
theorem dX0_buildLambda_69 : decode cX0_buildLambda 69 = .ok (.getfield 20, 3) := by decide +kernel
theorem dX0_buildLambda_72 : decode cX0_buildLambda 72 = .ok (.iload 4, 2) := by decide +kernel
theorem dX0_buildLambda_74 : decode cX0_buildLambda 74 = .ok (.iconst 1, 1) := by decide +kernel
theorem dX0_buildLambda_75 : decode cX0_buildLambda 75 = .ok (.invokestatic 61, 3) := by decide +kernel
theorem dX0_buildLambda_78 : decode cX0_buildLambda 78 = .ok (.aload_n 0, 1) := by decide +kernel
theorem dX0_buildLambda_79 : decode cX0_buildLambda 79 = .ok (.getfield 11, 3) := by decide +kernel
theorem dX0_buildLambda_82 : decode cX0_buildLambda 82 = .ok (.iload_n 3, 1) := by decide +kernel
theorem dX0_buildLambda_83 : decode cX0_buildLambda 83 = .ok (.iaload, 1) := by decide +kernel
theorem dX0_buildLambda_84 : decode cX0_buildLambda 84 = .ok (.invokevirtual 64, 3) := by decide +kernel
theorem dX0_buildLambda_87 : decode cX0_buildLambda 87 = .ok (.aload_n 0, 1) := by decide +kernel
theorem dX0_buildLambda_88 : decode cX0_buildLambda 88 = .ok (.getfield 20, 3) := by decide +kernel
theorem dX0_buildLambda_91 : decode cX0_buildLambda 91 = .ok (.iload 4, 2) := by decide +kernel
theorem dX0_buildLambda_93 : decode cX0_buildLambda 93 = .ok (.iconst 2, 1) := by decide +kernel
theorem dX0_buildLambda_94 : decode cX0_buildLambda 94 = .ok (.invokestatic 61, 3) := by decide +kernel
theorem dX0_buildLambda_97 : decode cX0_buildLambda 97 = .ok (.iload 5, 2) := by decide +kernel
theorem dX0_buildLambda_99 : decode cX0_buildLambda 99 = .ok (.invokevirtual 64, 3) := by decide +kernel
theorem dX0_buildLambda_102 : decode cX0_buildLambda 102 = .ok (.aload_n 0, 1) := by decide +kernel
theorem dX0_buildLambda_103 : decode cX0_buildLambda 103 = .ok (.getfield 11, 3) := by decide +kernel
theorem dX0_buildLambda_106 : decode cX0_buildLambda 106 = .ok (.iload_n 3, 1) := by decide +kernel
theorem dX0_buildLambda_107 : decode cX0_buildLambda 107 = .ok (.iload 4, 2) := by decide +kernel
theorem dX0_buildLambda_109 : decode cX0_buildLambda 109 = .ok (.iconst 0, 1) := by decide +kernel
theorem dX0_buildLambda_110 : decode cX0_buildLambda 110 = .ok (.invokestatic 61, 3) := by decide +kernel
theorem dX0_buildLambda_113 : decode cX0_buildLambda 113 = .ok (.iastore, 1) := by decide +kernel
theorem dX0_buildLambda_114 : decode cX0_buildLambda 114 = .ok (.aload_n 0, 1) := by decide +kernel
theorem dX0_buildLambda_115 : decode cX0_buildLambda 115 = .ok (.getfield 17, 3) := by decide +kernel
theorem dX0_buildLambda_118 : decode cX0_buildLambda 118 = .ok (.iload_n 3, 1) := by decide +kernel
theorem dX0_buildLambda_119 : decode cX0_buildLambda 119 = .ok (.aaload, 1) := by decide +kernel
theorem dX0_buildLambda_120 : decode cX0_buildLambda 120 = .ok (.iload_n 2, 1) := by decide +kernel
theorem dX0_buildLambda_121 : decode cX0_buildLambda 121 = .ok (.iconst (-1), 1) := by decide +kernel
theorem dX0_buildLambda_122 : decode cX0_buildLambda 122 = .ok (.iastore, 1) := by decide +kernel
theorem dX0_buildLambda_123 : decode cX0_buildLambda 123 = .ok (.return_, 1) := by decide +kernel
set_option maxRecDepth 20000 in
theorem ggX0_bracket_X2_make : GoodIn wsX0_bracket wsX2_make := goodIn_r _ [6, 7, 8, 9, 10, 11, 33, 34, 35, 36, 37, 38, 39, 40, 41, 42] (by decide +kernel) (by decide +kernel)
set_option maxRecDepth 20000 in
theorem gX0_bracket_X2_make : GoodIn wsX0_bracket (wsV RX0 28 RX2 yX2_make wsX2_make) := goodIn_app (goodIn_of _ (by decide +kernel)) ggX0_bracket_X2_make
set_option maxRecDepth 20000 in
theorem ggX0_bracket_X7_portOf : GoodIn wsX0_bracket wsX7_portOf := goodIn_r _ [14] (by decide +kernel) (by decide +kernel)
set_option maxRecDepth 20000 in
theorem gX0_bracket_X7_portOf_n61 : GoodIn wsX0_bracket (wsX7_portOf) := ggX0_bracket_X7_portOf
set_option maxRecDepth 20000 in
theorem ggX0_bracket_X2_link : GoodIn wsX0_bracket wsX2_link := goodIn_r _ [18, 19, 20, 13, 21, 22, 23, 24, 5, 25, 26, 9, 27, 28, 33, 34, 35, 36, 37, 38, 39, 40, 41, 42] (by decide +kernel) (by decide +kernel)
set_option maxRecDepth 20000 in
theorem gX0_bracket_X2_link : GoodIn wsX0_bracket (wsV RX0 64 RX2 yX2_link wsX2_link) := goodIn_app (goodIn_of _ (by decide +kernel)) ggX0_bracket_X2_link
theorem dX0_bracket_0 : decode cX0_bracket 0 = .ok (.aload_n 0, 1) := by decide +kernel
theorem dX0_bracket_1 : decode cX0_bracket 1 = .ok (.getfield 20, 3) := by decide +kernel
theorem dX0_bracket_4 : decode cX0_bracket 4 = .ok (.iconst 4, 1) := by decide +kernel
theorem dX0_bracket_5 : decode cX0_bracket 5 = .ok (.iload_n 1, 1) := by decide +kernel
theorem dX0_bracket_6 : decode cX0_bracket 6 = .ok (.invokevirtual 28, 3) := by decide +kernel
theorem dX0_bracket_9 : decode cX0_bracket 9 = .ok (.istore_n 3, 1) := by decide +kernel
theorem dX0_bracket_10 : decode cX0_bracket 10 = .ok (.aload_n 0, 1) := by decide +kernel
theorem dX0_bracket_11 : decode cX0_bracket 11 = .ok (.getfield 20, 3) := by decide +kernel
theorem dX0_bracket_14 : decode cX0_bracket 14 = .ok (.iload_n 3, 1) := by decide +kernel
theorem dX0_bracket_15 : decode cX0_bracket 15 = .ok (.iconst 1, 1) := by decide +kernel
theorem dX0_bracket_16 : decode cX0_bracket 16 = .ok (.invokestatic 61, 3) := by decide +kernel
theorem dX0_bracket_19 : decode cX0_bracket 19 = .ok (.iload_n 2, 1) := by decide +kernel
theorem dX0_bracket_20 : decode cX0_bracket 20 = .ok (.invokevirtual 64, 3) := by decide +kernel
theorem dX0_bracket_23 : decode cX0_bracket 23 = .ok (.iload_n 3, 1) := by decide +kernel
theorem dX0_bracket_24 : decode cX0_bracket 24 = .ok (.iconst 0, 1) := by decide +kernel
theorem dX0_bracket_25 : decode cX0_bracket 25 = .ok (.invokestatic 61, 3) := by decide +kernel
theorem dX0_bracket_28 : decode cX0_bracket 28 = .ok (.ireturn, 1) := by decide +kernel
set_option maxRecDepth 20000 in
theorem ggX0_share_X2_make : GoodIn wsX0_share wsX2_make := goodIn_r _ [6, 7, 8, 9, 10, 11, 33, 34, 35, 36, 37, 38, 39, 40, 41, 42] (by decide +kernel) (by decide +kernel)
set_option maxRecDepth 20000 in
theorem gX0_share_X2_make : GoodIn wsX0_share (wsV RX0 28 RX2 yX2_make wsX2_make) := goodIn_app (goodIn_of _ (by decide +kernel)) ggX0_share_X2_make
set_option maxRecDepth 20000 in
theorem ggX0_share_X7_portOf : GoodIn wsX0_share wsX7_portOf := goodIn_r _ [14] (by decide +kernel) (by decide +kernel)
set_option maxRecDepth 20000 in
theorem gX0_share_X7_portOf_n61 : GoodIn wsX0_share (wsX7_portOf) := ggX0_share_X7_portOf
set_option maxRecDepth 20000 in
theorem ggX0_share_X2_link : GoodIn wsX0_share wsX2_link := goodIn_r _ [18, 19, 20, 13, 21, 22, 23, 24, 5, 25, 26, 9, 27, 28, 33, 34, 35, 36, 37, 38, 39, 40, 41, 42] (by decide +kernel) (by decide +kernel)
set_option maxRecDepth 20000 in
theorem gX0_share_X2_link : GoodIn wsX0_share (wsV RX0 64 RX2 yX2_link wsX2_link) := goodIn_app (goodIn_of _ (by decide +kernel)) ggX0_share_X2_link
theorem dX0_share_0 : decode cX0_share 0 = .ok (.iload_n 2, 1) := by decide +kernel
theorem dX0_share_1 : decode cX0_share 1 = .ok (.iconst (-1), 1) := by decide +kernel
theorem dX0_share_2 : decode cX0_share 2 = .ok (.if_icmp .ne 5, 3) := by decide +kernel
theorem dX0_share_5 : decode cX0_share 5 = .ok (.iload_n 3, 1) := by decide +kernel
theorem dX0_share_6 : decode cX0_share 6 = .ok (.ireturn, 1) := by decide +kernel
theorem dX0_share_7 : decode cX0_share 7 = .ok (.aload_n 0, 1) := by decide +kernel
theorem dX0_share_8 : decode cX0_share 8 = .ok (.getfield 20, 3) := by decide +kernel
theorem dX0_share_11 : decode cX0_share 11 = .ok (.iconst 2, 1) := by decide +kernel
theorem dX0_share_12 : decode cX0_share 12 = .ok (.iload_n 1, 1) := by decide +kernel
theorem dX0_share_13 : decode cX0_share 13 = .ok (.invokevirtual 28, 3) := by decide +kernel
theorem dX0_share_16 : decode cX0_share 16 = .ok (.istore 4, 2) := by decide +kernel
theorem dX0_share_18 : decode cX0_share 18 = .ok (.aload_n 0, 1) := by decide +kernel
theorem dX0_share_19 : decode cX0_share 19 = .ok (.getfield 20, 3) := by decide +kernel
theorem dX0_share_22 : decode cX0_share 22 = .ok (.iload 4, 2) := by decide +kernel
theorem dX0_share_24 : decode cX0_share 24 = .ok (.iconst 1, 1) := by decide +kernel
theorem dX0_share_25 : decode cX0_share 25 = .ok (.invokestatic 61, 3) := by decide +kernel
theorem dX0_share_28 : decode cX0_share 28 = .ok (.iload_n 2, 1) := by decide +kernel
theorem dX0_share_29 : decode cX0_share 29 = .ok (.invokevirtual 64, 3) := by decide +kernel
theorem dX0_share_32 : decode cX0_share 32 = .ok (.aload_n 0, 1) := by decide +kernel
theorem dX0_share_33 : decode cX0_share 33 = .ok (.getfield 20, 3) := by decide +kernel
theorem dX0_share_36 : decode cX0_share 36 = .ok (.iload 4, 2) := by decide +kernel
theorem dX0_share_38 : decode cX0_share 38 = .ok (.iconst 2, 1) := by decide +kernel
theorem dX0_share_39 : decode cX0_share 39 = .ok (.invokestatic 61, 3) := by decide +kernel
theorem dX0_share_42 : decode cX0_share 42 = .ok (.iload_n 3, 1) := by decide +kernel
theorem dX0_share_43 : decode cX0_share 43 = .ok (.invokevirtual 64, 3) := by decide +kernel
theorem dX0_share_46 : decode cX0_share 46 = .ok (.iload 4, 2) := by decide +kernel
theorem dX0_share_48 : decode cX0_share 48 = .ok (.iconst 0, 1) := by decide +kernel
theorem dX0_share_49 : decode cX0_share 49 = .ok (.invokestatic 61, 3) := by decide +kernel
theorem dX0_share_52 : decode cX0_share 52 = .ok (.ireturn, 1) := by decide +kernel
set_option maxRecDepth 20000 in
theorem ggX0_buildApplication_X2_make : GoodIn wsX0_buildApplication wsX2_make := goodIn_r _ [9, 10, 11, 12, 13, 14, 45, 46, 47, 48, 49, 50, 51, 52, 53, 54] (by decide +kernel) (by decide +kernel)
set_option maxRecDepth 20000 in
theorem gX0_buildApplication_X2_make : GoodIn wsX0_buildApplication (wsV RX0 28 RX2 yX2_make wsX2_make) := goodIn_app (goodIn_of _ (by decide +kernel)) ggX0_buildApplication_X2_make
set_option maxRecDepth 20000 in
theorem ggX0_buildApplication_X7_portOf : GoodIn wsX0_buildApplication wsX7_portOf := goodIn_r _ [17] (by decide +kernel) (by decide +kernel)
set_option maxRecDepth 20000 in
theorem gX0_buildApplication_X7_portOf_n61 : GoodIn wsX0_buildApplication (wsX7_portOf) := ggX0_buildApplication_X7_portOf
set_option maxRecDepth 20000 in
theorem ggX0_buildApplication_X2_link : GoodIn wsX0_buildApplication wsX2_link := goodIn_r _ [21, 22, 23, 16, 24, 25, 26, 27, 8, 28, 29, 12, 30, 31, 45, 46, 47, 48, 49, 50, 51, 52, 53, 54] (by decide +kernel) (by decide +kernel)
set_option maxRecDepth 20000 in
theorem gX0_buildApplication_X2_link : GoodIn wsX0_buildApplication (wsV RX0 64 RX2 yX2_link wsX2_link) := goodIn_app (goodIn_of _ (by decide +kernel)) ggX0_buildApplication_X2_link
set_option maxRecDepth 20000 in
theorem ggX0_buildApplication_X0_bracket : GoodIn wsX0_buildApplication wsX0_bracket := goodIn_r _ [36, 2, 5, 6, 7, 8, 9, 10, 11, 12, 13, 14, 15, 16, 17, 18, 19, 20, 21, 22, 23, 24, 25, 26, 27, 28, 29, 30, 31, 41, 42, 43, 44, 45, 46, 47, 48, 49, 50, 51, 52, 53, 54] (by decide +kernel) (by decide +kernel)
set_option maxRecDepth 20000 in
theorem gX0_buildApplication_X0_bracket : GoodIn wsX0_buildApplication (wsV RX0 67 RX0 yX0_bracket wsX0_bracket) := goodIn_app (goodIn_of _ (by decide +kernel)) ggX0_buildApplication_X0_bracket
set_option maxRecDepth 20000 in
theorem ggX0_buildApplication_X0_share : GoodIn wsX0_buildApplication wsX0_share := goodIn_r _ [40, 2, 5, 6, 7, 8, 9, 10, 11, 12, 13, 14, 15, 16, 17, 18, 19, 20, 21, 22, 23, 24, 25, 26, 27, 28, 29, 30, 31, 41, 42, 43, 44, 45, 46, 47, 48, 49, 50, 51, 52, 53, 54] (by decide +kernel) (by decide +kernel)
set_option maxRecDepth 20000 in
theorem gX0_buildApplication_X0_share : GoodIn wsX0_buildApplication (wsV RX0 70 RX0 yX0_share wsX0_share) := goodIn_app (goodIn_of _ (by decide +kernel)) ggX0_buildApplication_X0_share
theorem dX0_buildApplication_0 : decode cX0_buildApplication 0 = .ok (.aload_n 0, 1) := by decide +kernel
theorem dX0_buildApplication_1 : decode cX0_buildApplication 1 = .ok (.getfield 24, 3) := by decide +kernel
theorem dX0_buildApplication_4 : decode cX0_buildApplication 4 = .ok (.iconst 2, 1) := by decide +kernel
theorem dX0_buildApplication_5 : decode cX0_buildApplication 5 = .ok (.if_icmp .ge 4, 3) := by decide +kernel
theorem dX0_buildApplication_8 : decode cX0_buildApplication 8 = .ok (.return_, 1) := by decide +kernel
theorem dX0_buildApplication_9 : decode cX0_buildApplication 9 = .ok (.aload_n 0, 1) := by decide +kernel
theorem dX0_buildApplication_10 : decode cX0_buildApplication 10 = .ok (.getfield 24, 3) := by decide +kernel
theorem dX0_buildApplication_13 : decode cX0_buildApplication 13 = .ok (.iconst 1, 1) := by decide +kernel
theorem dX0_buildApplication_14 : decode cX0_buildApplication 14 = .ok (.isub, 1) := by decide +kernel
theorem dX0_buildApplication_15 : decode cX0_buildApplication 15 = .ok (.istore_n 2, 1) := by decide +kernel
theorem dX0_buildApplication_16 : decode cX0_buildApplication 16 = .ok (.aload_n 0, 1) := by decide +kernel
theorem dX0_buildApplication_17 : decode cX0_buildApplication 17 = .ok (.getfield 24, 3) := by decide +kernel
theorem dX0_buildApplication_20 : decode cX0_buildApplication 20 = .ok (.iconst 2, 1) := by decide +kernel
theorem dX0_buildApplication_21 : decode cX0_buildApplication 21 = .ok (.isub, 1) := by decide +kernel
theorem dX0_buildApplication_22 : decode cX0_buildApplication 22 = .ok (.istore_n 3, 1) := by decide +kernel
theorem dX0_buildApplication_23 : decode cX0_buildApplication 23 = .ok (.aload_n 0, 1) := by decide +kernel
theorem dX0_buildApplication_24 : decode cX0_buildApplication 24 = .ok (.getfield 20, 3) := by decide +kernel
theorem dX0_buildApplication_27 : decode cX0_buildApplication 27 = .ok (.iconst 1, 1) := by decide +kernel
theorem dX0_buildApplication_28 : decode cX0_buildApplication 28 = .ok (.iload_n 1, 1) := by decide +kernel
theorem dX0_buildApplication_29 : decode cX0_buildApplication 29 = .ok (.invokevirtual 28, 3) := by decide +kernel
theorem dX0_buildApplication_32 : decode cX0_buildApplication 32 = .ok (.istore 4, 2) := by decide +kernel
theorem dX0_buildApplication_34 : decode cX0_buildApplication 34 = .ok (.aload_n 0, 1) := by decide +kernel
theorem dX0_buildApplication_35 : decode cX0_buildApplication 35 = .ok (.getfield 20, 3) := by decide +kernel
theorem dX0_buildApplication_38 : decode cX0_buildApplication 38 = .ok (.iload 4, 2) := by decide +kernel
theorem dX0_buildApplication_40 : decode cX0_buildApplication 40 = .ok (.iconst 0, 1) := by decide +kernel
theorem dX0_buildApplication_41 : decode cX0_buildApplication 41 = .ok (.invokestatic 61, 3) := by decide +kernel
theorem dX0_buildApplication_44 : decode cX0_buildApplication 44 = .ok (.aload_n 0, 1) := by decide +kernel
theorem dX0_buildApplication_45 : decode cX0_buildApplication 45 = .ok (.getfield 11, 3) := by decide +kernel
theorem dX0_buildApplication_48 : decode cX0_buildApplication 48 = .ok (.iload_n 3, 1) := by decide +kernel
theorem dX0_buildApplication_49 : decode cX0_buildApplication 49 = .ok (.iaload, 1) := by decide +kernel
theorem dX0_buildApplication_50 : decode cX0_buildApplication 50 = .ok (.invokevirtual 64, 3) := by decide +kernel
theorem dX0_buildApplication_53 : decode cX0_buildApplication 53 = .ok (.aload_n 0, 1) := by decide +kernel
theorem dX0_buildApplication_54 : decode cX0_buildApplication 54 = .ok (.getfield 20, 3) := by decide +kernel
theorem dX0_buildApplication_57 : decode cX0_buildApplication 57 = .ok (.iload 4, 2) := by decide +kernel
theorem dX0_buildApplication_59 : decode cX0_buildApplication 59 = .ok (.iconst 2, 1) := by decide +kernel
theorem dX0_buildApplication_60 : decode cX0_buildApplication 60 = .ok (.invokestatic 61, 3) := by decide +kernel
theorem dX0_buildApplication_63 : decode cX0_buildApplication 63 = .ok (.aload_n 0, 1) := by decide +kernel
theorem dX0_buildApplication_64 : decode cX0_buildApplication 64 = .ok (.getfield 11, 3) := by decide +kernel
theorem dX0_buildApplication_67 : decode cX0_buildApplication 67 = .ok (.iload_n 2, 1) := by decide +kernel
theorem dX0_buildApplication_68 : decode cX0_buildApplication 68 = .ok (.iaload, 1) := by decide +kernel
theorem dX0_buildApplication_69 : decode cX0_buildApplication 69 = .ok (.invokevirtual 64, 3) := by decide +kernel
theorem dX0_buildApplication_72 : decode cX0_buildApplication 72 = .ok (.aload_n 0, 1) := by decide +kernel
theorem dX0_buildApplication_73 : decode cX0_buildApplication 73 = .ok (.getfield 11, 3) := by decide +kernel
theorem dX0_buildApplication_76 : decode cX0_buildApplication 76 = .ok (.iload_n 3, 1) := by decide +kernel
theorem dX0_buildApplication_77 : decode cX0_buildApplication 77 = .ok (.iload 4, 2) := by decide +kernel
theorem dX0_buildApplication_79 : decode cX0_buildApplication 79 = .ok (.iconst 1, 1) := by decide +kernel
theorem dX0_buildApplication_80 : decode cX0_buildApplication 80 = .ok (.invokestatic 61, 3) := by decide +kernel
theorem dX0_buildApplication_83 : decode cX0_buildApplication 83 = .ok (.iastore, 1) := by decide +kernel
theorem dX0_buildApplication_84 : decode cX0_buildApplication 84 = .ok (.iconst 0, 1) := by decide +kernel
theorem dX0_buildApplication_85 : decode cX0_buildApplication 85 = .ok (.istore 5, 2) := by decide +kernel
theorem dX0_buildApplication_87 : decode cX0_buildApplication 87 = .ok (.iload 5, 2) := by decide +kernel
theorem dX0_buildApplication_89 : decode cX0_buildApplication 89 = .ok (.bipush 40, 2) := by decide +kernel
theorem dX0_buildApplication_91 : decode cX0_buildApplication 91 = .ok (.if_icmp .ge 56, 3) := by decide +kernel
theorem dX0_buildApplication_94 : decode cX0_buildApplication 94 = .ok (.aload_n 0, 1) := by decide +kernel
theorem dX0_buildApplication_95 : decode cX0_buildApplication 95 = .ok (.getfield 17, 3) := by decide +kernel
theorem dX0_buildApplication_98 : decode cX0_buildApplication 98 = .ok (.iload_n 2, 1) := by decide +kernel
theorem dX0_buildApplication_99 : decode cX0_buildApplication 99 = .ok (.aaload, 1) := by decide +kernel
theorem dX0_buildApplication_100 : decode cX0_buildApplication 100 = .ok (.iload 5, 2) := by decide +kernel
theorem dX0_buildApplication_102 : decode cX0_buildApplication 102 = .ok (.iaload, 1) := by decide +kernel
theorem dX0_buildApplication_103 : decode cX0_buildApplication 103 = .ok (.istore 6, 2) := by decide +kernel
theorem dX0_buildApplication_105 : decode cX0_buildApplication 105 = .ok (.iload 6, 2) := by decide +kernel
theorem dX0_buildApplication_107 : decode cX0_buildApplication 107 = .ok (.iconst (-1), 1) := by decide +kernel
theorem dX0_buildApplication_108 : decode cX0_buildApplication 108 = .ok (.if_icmp .eq 33, 3) := by decide +kernel
theorem dX0_buildApplication_111 : decode cX0_buildApplication 111 = .ok (.aload_n 0, 1) := by decide +kernel
theorem dX0_buildApplication_112 : decode cX0_buildApplication 112 = .ok (.getfield 17, 3) := by decide +kernel
theorem dX0_buildApplication_115 : decode cX0_buildApplication 115 = .ok (.iload_n 3, 1) := by decide +kernel
theorem dX0_buildApplication_116 : decode cX0_buildApplication 116 = .ok (.aaload, 1) := by decide +kernel
theorem dX0_buildApplication_117 : decode cX0_buildApplication 117 = .ok (.iload 5, 2) := by decide +kernel
theorem dX0_buildApplication_119 : decode cX0_buildApplication 119 = .ok (.aload_n 0, 1) := by decide +kernel
theorem dX0_buildApplication_120 : decode cX0_buildApplication 120 = .ok (.iload_n 1, 1) := by decide +kernel
theorem dX0_buildApplication_121 : decode cX0_buildApplication 121 = .ok (.aload_n 0, 1) := by decide +kernel
theorem dX0_buildApplication_122 : decode cX0_buildApplication 122 = .ok (.getfield 17, 3) := by decide +kernel
theorem dX0_buildApplication_125 : decode cX0_buildApplication 125 = .ok (.iload_n 3, 1) := by decide +kernel
theorem dX0_buildApplication_126 : decode cX0_buildApplication 126 = .ok (.aaload, 1) := by decide +kernel
theorem dX0_buildApplication_127 : decode cX0_buildApplication 127 = .ok (.iload 5, 2) := by decide +kernel
theorem dX0_buildApplication_129 : decode cX0_buildApplication 129 = .ok (.iaload, 1) := by decide +kernel
theorem dX0_buildApplication_130 : decode cX0_buildApplication 130 = .ok (.aload_n 0, 1) := by decide +kernel
theorem dX0_buildApplication_131 : decode cX0_buildApplication 131 = .ok (.iload_n 1, 1) := by decide +kernel
theorem dX0_buildApplication_132 : decode cX0_buildApplication 132 = .ok (.iload 6, 2) := by decide +kernel
theorem dX0_buildApplication_134 : decode cX0_buildApplication 134 = .ok (.invokevirtual 67, 3) := by decide +kernel
theorem dX0_buildApplication_137 : decode cX0_buildApplication 137 = .ok (.invokevirtual 70, 3) := by decide +kernel
theorem dX0_buildApplication_140 : decode cX0_buildApplication 140 = .ok (.iastore, 1) := by decide +kernel
theorem dX0_buildApplication_141 : decode cX0_buildApplication 141 = .ok (.iinc 5 1, 3) := by decide +kernel
theorem dX0_buildApplication_144 : decode cX0_buildApplication 144 = .ok (.goto (-57), 3) := by decide +kernel
theorem dX0_buildApplication_147 : decode cX0_buildApplication 147 = .ok (.aload_n 0, 1) := by decide +kernel
theorem dX0_buildApplication_148 : decode cX0_buildApplication 148 = .ok (.iload_n 2, 1) := by decide +kernel
theorem dX0_buildApplication_149 : decode cX0_buildApplication 149 = .ok (.putfield 24, 3) := by decide +kernel
theorem dX0_buildApplication_152 : decode cX0_buildApplication 152 = .ok (.return_, 1) := by decide +kernel
set_option maxRecDepth 20000 in
theorem ggX0_build_X2_make : GoodIn wsX0_build wsX2_make := goodIn_r _ [8, 9, 10, 11, 12, 13, 78, 79, 80, 81, 82, 83, 84, 85, 86, 87] (by decide +kernel) (by decide +kernel)
set_option maxRecDepth 20000 in
theorem gX0_build_X2_make : GoodIn wsX0_build (wsV RX0 28 RX2 yX2_make wsX2_make) := goodIn_app (goodIn_of _ (by decide +kernel)) ggX0_build_X2_make
set_option maxRecDepth 20000 in
theorem ggX0_build_X4_wordCount : GoodIn wsX0_build wsX4_wordCount := goodIn_r _ [18, 19, 88, 89, 90, 91, 92, 93, 94, 95, 96, 97, 98, 99, 100, 101, 102] (by decide +kernel) (by decide +kernel)
set_option maxRecDepth 20000 in
theorem gX0_build_X4_wordCount : GoodIn wsX0_build (wsV RX0 34 RX4 yX4_wordCount wsX4_wordCount) := goodIn_app (goodIn_of _ (by decide +kernel)) ggX0_build_X4_wordCount
set_option maxRecDepth 20000 in
theorem ggX0_build_X4_wordIndex : GoodIn wsX0_build wsX4_wordIndex := goodIn_r _ [23, 19, 24, 88, 89, 90, 91, 92, 93, 94, 95, 96, 97, 98, 99, 100, 101, 102] (by decide +kernel) (by decide +kernel)
set_option maxRecDepth 20000 in
theorem gX0_build_X4_wordIndex : GoodIn wsX0_build (wsV RX0 40 RX4 yX4_wordIndex wsX4_wordIndex) := goodIn_app (goodIn_of _ (by decide +kernel)) ggX0_build_X4_wordIndex
set_option maxRecDepth 20000 in
theorem ggX0_build_X4_wordSlot : GoodIn wsX0_build wsX4_wordSlot := goodIn_r _ [28, 19, 29, 88, 89, 90, 91, 92, 93, 94, 95, 96, 97, 98, 99, 100, 101, 102] (by decide +kernel) (by decide +kernel)
set_option maxRecDepth 20000 in
theorem gX0_build_X4_wordSlot : GoodIn wsX0_build (wsV RX0 44 RX4 yX4_wordSlot wsX4_wordSlot) := goodIn_app (goodIn_of _ (by decide +kernel)) ggX0_build_X4_wordSlot
set_option maxRecDepth 20000 in
theorem ggX0_build_X4_wordKind : GoodIn wsX0_build wsX4_wordKind := goodIn_r _ [33, 19, 34, 88, 89, 90, 91, 92, 93, 94, 95, 96, 97, 98, 99, 100, 101, 102] (by decide +kernel) (by decide +kernel)
set_option maxRecDepth 20000 in
theorem gX0_build_X4_wordKind : GoodIn wsX0_build (wsV RX0 47 RX4 yX4_wordKind wsX4_wordKind) := goodIn_app (goodIn_of _ (by decide +kernel)) ggX0_build_X4_wordKind
set_option maxRecDepth 20000 in
theorem ggX0_build_X0_buildName : GoodIn wsX0_build wsX0_buildName := goodIn_r _ [39, 1, 2, 40, 3, 4, 5, 6, 7, 8, 9, 10, 11, 12, 13, 41, 42, 43, 74, 75, 76, 77, 78, 79, 80, 81, 82, 83, 84, 85, 86, 87] (by decide +kernel) (by decide +kernel)
set_option maxRecDepth 20000 in
theorem gX0_build_X0_buildName : GoodIn wsX0_build (wsV RX0 50 RX0 yX0_buildName wsX0_buildName) := goodIn_app (goodIn_of _ (by decide +kernel)) ggX0_build_X0_buildName
set_option maxRecDepth 20000 in
theorem ggX0_build_X0_buildLambda : GoodIn wsX0_build wsX0_buildLambda := goodIn_r _ [47, 1, 2, 40, 3, 4, 5, 6, 7, 8, 9, 10, 11, 12, 13, 41, 42, 43, 48, 49, 50, 51, 52, 53, 54, 55, 56, 57, 58, 59, 60, 61, 74, 75, 76, 77, 78, 79, 80, 81, 82, 83, 84, 85, 86, 87] (by decide +kernel) (by decide +kernel)
set_option maxRecDepth 20000 in
theorem gX0_build_X0_buildLambda : GoodIn wsX0_build (wsV RX0 54 RX0 yX0_buildLambda wsX0_buildLambda) := goodIn_app (goodIn_of _ (by decide +kernel)) ggX0_build_X0_buildLambda
set_option maxRecDepth 20000 in
theorem ggX0_build_X0_buildApplication : GoodIn wsX0_build wsX0_buildApplication := goodIn_r _ [65, 1, 2, 3, 40, 4, 5, 6, 7, 8, 9, 10, 11, 12, 13, 41, 42, 43, 48, 49, 50, 51, 52, 53, 54, 55, 56, 57, 58, 59, 60, 61, 66, 67, 68, 38, 69, 70, 71, 72, 73, 74, 75, 76, 77, 78, 79, 80, 81, 82, 83, 84, 85, 86, 87] (by decide +kernel) (by decide +kernel)
set_option maxRecDepth 20000 in
theorem gX0_build_X0_buildApplication : GoodIn wsX0_build (wsV RX0 57 RX0 yX0_buildApplication wsX0_buildApplication) := goodIn_app (goodIn_of _ (by decide +kernel)) ggX0_build_X0_buildApplication
set_option maxRecDepth 20000 in
theorem ggX0_build_X7_portOf : GoodIn wsX0_build wsX7_portOf := goodIn_r _ [43] (by decide +kernel) (by decide +kernel)
set_option maxRecDepth 20000 in
theorem gX0_build_X7_portOf_n61 : GoodIn wsX0_build (wsX7_portOf) := ggX0_build_X7_portOf
set_option maxRecDepth 20000 in
theorem ggX0_build_X2_link : GoodIn wsX0_build wsX2_link := goodIn_r _ [51, 52, 53, 42, 54, 55, 56, 57, 7, 58, 59, 11, 60, 61, 78, 79, 80, 81, 82, 83, 84, 85, 86, 87] (by decide +kernel) (by decide +kernel)
set_option maxRecDepth 20000 in
theorem gX0_build_X2_link : GoodIn wsX0_build (wsV RX0 64 RX2 yX2_link wsX2_link) := goodIn_app (goodIn_of _ (by decide +kernel)) ggX0_build_X2_link
theorem dX0_build_0 : decode cX0_build 0 = .ok (.aload_n 0, 1) := by decide +kernel
theorem dX0_build_1 : decode cX0_build 1 = .ok (.iconst 0, 1) := by decide +kernel
theorem dX0_build_2 : decode cX0_build 2 = .ok (.putfield 24, 3) := by decide +kernel
theorem dX0_build_5 : decode cX0_build 5 = .ok (.aload_n 0, 1) := by decide +kernel
theorem dX0_build_6 : decode cX0_build 6 = .ok (.getfield 20, 3) := by decide +kernel
theorem dX0_build_9 : decode cX0_build 9 = .ok (.bipush 6, 2) := by decide +kernel
theorem dX0_build_11 : decode cX0_build 11 = .ok (.iconst (-1), 1) := by decide +kernel
theorem dX0_build_12 : decode cX0_build 12 = .ok (.invokevirtual 28, 3) := by decide +kernel
theorem dX0_build_15 : decode cX0_build 15 = .ok (.istore_n 2, 1) := by decide +kernel
theorem dX0_build_16 : decode cX0_build 16 = .ok (.iconst 0, 1) := by decide +kernel
theorem dX0_build_17 : decode cX0_build 17 = .ok (.istore_n 3, 1) := by decide +kernel
theorem dX0_build_18 : decode cX0_build 18 = .ok (.iload_n 3, 1) := by decide +kernel
theorem dX0_build_19 : decode cX0_build 19 = .ok (.aload_n 1, 1) := by decide +kernel
theorem dX0_build_20 : decode cX0_build 20 = .ok (.invokevirtual 34, 3) := by decide +kernel
theorem dX0_build_23 : decode cX0_build 23 = .ok (.if_icmp .ge 83, 3) := by decide +kernel
theorem dX0_build_26 : decode cX0_build 26 = .ok (.aload_n 1, 1) := by decide +kernel
theorem dX0_build_27 : decode cX0_build 27 = .ok (.iload_n 3, 1) := by decide +kernel
theorem dX0_build_28 : decode cX0_build 28 = .ok (.invokevirtual 40, 3) := by decide +kernel
theorem dX0_build_31 : decode cX0_build 31 = .ok (.istore 4, 2) := by decide +kernel
theorem dX0_build_33 : decode cX0_build 33 = .ok (.aload_n 1, 1) := by decide +kernel
theorem dX0_build_34 : decode cX0_build 34 = .ok (.iload_n 3, 1) := by decide +kernel
theorem dX0_build_35 : decode cX0_build 35 = .ok (.invokevirtual 44, 3) := by decide +kernel
theorem dX0_build_38 : decode cX0_build 38 = .ok (.istore 5, 2) := by decide +kernel
theorem dX0_build_40 : decode cX0_build 40 = .ok (.aload_n 1, 1) := by decide +kernel
theorem dX0_build_41 : decode cX0_build 41 = .ok (.iload_n 3, 1) := by decide +kernel
theorem dX0_build_42 : decode cX0_build 42 = .ok (.invokevirtual 47, 3) := by decide +kernel
theorem dX0_build_45 : decode cX0_build 45 = .ok (.lookupswitch 49 #[(0, 27), (1, 38)], 27) := by decide +kernel
theorem dX0_build_72 : decode cX0_build 72 = .ok (.aload_n 0, 1) := by decide +kernel
theorem dX0_build_73 : decode cX0_build 73 = .ok (.iload 4, 2) := by decide +kernel
theorem dX0_build_75 : decode cX0_build 75 = .ok (.iload 5, 2) := by decide +kernel
theorem dX0_build_77 : decode cX0_build 77 = .ok (.invokevirtual 50, 3) := by decide +kernel
theorem dX0_build_80 : decode cX0_build 80 = .ok (.goto 20, 3) := by decide +kernel
theorem dX0_build_83 : decode cX0_build 83 = .ok (.aload_n 0, 1) := by decide +kernel
theorem dX0_build_84 : decode cX0_build 84 = .ok (.iload 4, 2) := by decide +kernel
theorem dX0_build_86 : decode cX0_build 86 = .ok (.iload 5, 2) := by decide +kernel
theorem dX0_build_88 : decode cX0_build 88 = .ok (.invokevirtual 54, 3) := by decide +kernel
theorem dX0_build_91 : decode cX0_build 91 = .ok (.goto 9, 3) := by decide +kernel
theorem dX0_build_94 : decode cX0_build 94 = .ok (.aload_n 0, 1) := by decide +kernel
theorem dX0_build_95 : decode cX0_build 95 = .ok (.iload 4, 2) := by decide +kernel
theorem dX0_build_97 : decode cX0_build 97 = .ok (.invokevirtual 57, 3) := by decide +kernel
theorem dX0_build_100 : decode cX0_build 100 = .ok (.iinc 3 1, 3) := by decide +kernel
theorem dX0_build_103 : decode cX0_build 103 = .ok (.goto (-85), 3) := by decide +kernel
theorem dX0_build_106 : decode cX0_build 106 = .ok (.aload_n 0, 1) := by decide +kernel
theorem dX0_build_107 : decode cX0_build 107 = .ok (.getfield 24, 3) := by decide +kernel
theorem dX0_build_110 : decode cX0_build 110 = .ok (.ifCond .le 21, 3) := by decide +kernel
theorem dX0_build_113 : decode cX0_build 113 = .ok (.aload_n 0, 1) := by decide +kernel
theorem dX0_build_114 : decode cX0_build 114 = .ok (.getfield 20, 3) := by decide +kernel
theorem dX0_build_117 : decode cX0_build 117 = .ok (.iload_n 2, 1) := by decide +kernel
theorem dX0_build_118 : decode cX0_build 118 = .ok (.iconst 0, 1) := by decide +kernel
theorem dX0_build_119 : decode cX0_build 119 = .ok (.invokestatic 61, 3) := by decide +kernel
theorem dX0_build_122 : decode cX0_build 122 = .ok (.aload_n 0, 1) := by decide +kernel
theorem dX0_build_123 : decode cX0_build 123 = .ok (.getfield 11, 3) := by decide +kernel
theorem dX0_build_126 : decode cX0_build 126 = .ok (.iconst 0, 1) := by decide +kernel
theorem dX0_build_127 : decode cX0_build 127 = .ok (.iaload, 1) := by decide +kernel
theorem dX0_build_128 : decode cX0_build 128 = .ok (.invokevirtual 64, 3) := by decide +kernel
theorem dX0_build_131 : decode cX0_build 131 = .ok (.return_, 1) := by decide +kernel
theorem dX4_init_0 : decode cX4_init 0 = .ok (.aload_n 0, 1) := by decide +kernel
theorem dX4_init_1 : decode cX4_init 1 = .ok (.invokespecial 3, 3) := by decide +kernel
theorem dX4_init_4 : decode cX4_init 4 = .ok (.aload_n 0, 1) := by decide +kernel
theorem dX4_init_5 : decode cX4_init 5 = .ok (.sipush 162, 3) := by decide +kernel
theorem dX4_init_8 : decode cX4_init 8 = .ok (.newarray .int, 2) := by decide +kernel
theorem dX4_init_10 : decode cX4_init 10 = .ok (.putfield 11, 3) := by decide +kernel
theorem dX4_init_13 : decode cX4_init 13 = .ok (.aload_n 0, 1) := by decide +kernel
theorem dX4_init_14 : decode cX4_init 14 = .ok (.sipush 162, 3) := by decide +kernel
theorem dX4_init_17 : decode cX4_init 17 = .ok (.newarray .int, 2) := by decide +kernel
theorem dX4_init_19 : decode cX4_init 19 = .ok (.putfield 15, 3) := by decide +kernel
theorem dX4_init_22 : decode cX4_init 22 = .ok (.aload_n 0, 1) := by decide +kernel
theorem dX4_init_23 : decode cX4_init 23 = .ok (.sipush 162, 3) := by decide +kernel
theorem dX4_init_26 : decode cX4_init 26 = .ok (.newarray .int, 2) := by decide +kernel
theorem dX4_init_28 : decode cX4_init 28 = .ok (.putfield 18, 3) := by decide +kernel
theorem dX4_init_31 : decode cX4_init 31 = .ok (.aload_n 0, 1) := by decide +kernel
theorem dX4_init_32 : decode cX4_init 32 = .ok (.bipush 40, 2) := by decide +kernel
theorem dX4_init_34 : decode cX4_init 34 = .ok (.newarray .int, 2) := by decide +kernel
theorem dX4_init_36 : decode cX4_init 36 = .ok (.putfield 21, 3) := by decide +kernel
theorem dX4_init_39 : decode cX4_init 39 = .ok (.aload_n 0, 1) := by decide +kernel
theorem dX4_init_40 : decode cX4_init 40 = .ok (.bipush 40, 2) := by decide +kernel
theorem dX4_init_42 : decode cX4_init 42 = .ok (.newarray .int, 2) := by decide +kernel
theorem dX4_init_44 : decode cX4_init 44 = .ok (.putfield 24, 3) := by decide +kernel
theorem dX4_init_47 : decode cX4_init 47 = .ok (.aload_n 0, 1) := by decide +kernel
theorem dX4_init_48 : decode cX4_init 48 = .ok (.bipush 40, 2) := by decide +kernel
theorem dX4_init_50 : decode cX4_init 50 = .ok (.newarray .int, 2) := by decide +kernel
theorem dX4_init_52 : decode cX4_init 52 = .ok (.putfield 27, 3) := by decide +kernel
theorem dX4_init_55 : decode cX4_init 55 = .ok (.aload_n 0, 1) := by decide +kernel
theorem dX4_init_56 : decode cX4_init 56 = .ok (.iconst 0, 1) := by decide +kernel
theorem dX4_init_57 : decode cX4_init 57 = .ok (.newarray .int, 2) := by decide +kernel
theorem dX4_init_59 : decode cX4_init 59 = .ok (.putfield 30, 3) := by decide +kernel
theorem dX4_init_62 : decode cX4_init 62 = .ok (.return_, 1) := by decide +kernel
theorem dX4_begin_0 : decode cX4_begin 0 = .ok (.aload_n 0, 1) := by decide +kernel
theorem dX4_begin_1 : decode cX4_begin 1 = .ok (.aload_n 1, 1) := by decide +kernel
theorem dX4_begin_2 : decode cX4_begin 2 = .ok (.putfield 30, 3) := by decide +kernel
theorem dX4_begin_5 : decode cX4_begin 5 = .ok (.aload_n 0, 1) := by decide +kernel
theorem dX4_begin_6 : decode cX4_begin 6 = .ok (.iload_n 2, 1) := by decide +kernel
theorem dX4_begin_7 : decode cX4_begin 7 = .ok (.aload_n 1, 1) := by decide +kernel
theorem dX4_begin_8 : decode cX4_begin 8 = .ok (.arraylength, 1) := by decide +kernel
theorem dX4_begin_9 : decode cX4_begin 9 = .ok (.if_icmp .gt 7, 3) := by decide +kernel
theorem dX4_begin_12 : decode cX4_begin 12 = .ok (.iload_n 2, 1) := by decide +kernel
theorem dX4_begin_13 : decode cX4_begin 13 = .ok (.goto 5, 3) := by decide +kernel
theorem dX4_begin_16 : decode cX4_begin 16 = .ok (.aload_n 1, 1) := by decide +kernel
theorem dX4_begin_17 : decode cX4_begin 17 = .ok (.arraylength, 1) := by decide +kernel
theorem dX4_begin_18 : decode cX4_begin 18 = .ok (.putfield 37, 3) := by decide +kernel
theorem dX4_begin_21 : decode cX4_begin 21 = .ok (.aload_n 0, 1) := by decide +kernel
theorem dX4_begin_22 : decode cX4_begin 22 = .ok (.iconst 0, 1) := by decide +kernel
theorem dX4_begin_23 : decode cX4_begin 23 = .ok (.putfield 41, 3) := by decide +kernel
theorem dX4_begin_26 : decode cX4_begin 26 = .ok (.aload_n 0, 1) := by decide +kernel
theorem dX4_begin_27 : decode cX4_begin 27 = .ok (.iconst 0, 1) := by decide +kernel
theorem dX4_begin_28 : decode cX4_begin 28 = .ok (.putfield 53, 3) := by decide +kernel
theorem dX4_begin_31 : decode cX4_begin 31 = .ok (.aload_n 0, 1) := by decide +kernel
theorem dX4_begin_32 : decode cX4_begin 32 = .ok (.iconst 0, 1) := by decide +kernel
theorem dX4_begin_33 : decode cX4_begin 33 = .ok (.putfield 56, 3) := by decide +kernel
theorem dX4_begin_36 : decode cX4_begin 36 = .ok (.aload_n 0, 1) := by decide +kernel
theorem dX4_begin_37 : decode cX4_begin 37 = .ok (.iconst 0, 1) := by decide +kernel
theorem dX4_begin_38 : decode cX4_begin 38 = .ok (.putfield 59, 3) := by decide +kernel
theorem dX4_begin_41 : decode cX4_begin 41 = .ok (.aload_n 0, 1) := by decide +kernel
theorem dX4_begin_42 : decode cX4_begin 42 = .ok (.iconst 0, 1) := by decide +kernel
theorem dX4_begin_43 : decode cX4_begin 43 = .ok (.putfield 62, 3) := by decide +kernel
theorem dX4_begin_46 : decode cX4_begin 46 = .ok (.aload_n 0, 1) := by decide +kernel
theorem dX4_begin_47 : decode cX4_begin 47 = .ok (.iconst 0, 1) := by decide +kernel
theorem dX4_begin_48 : decode cX4_begin 48 = .ok (.putfield 65, 3) := by decide +kernel
theorem dX4_begin_51 : decode cX4_begin 51 = .ok (.aload_n 0, 1) := by decide +kernel
theorem dX4_begin_52 : decode cX4_begin 52 = .ok (.iconst 0, 1) := by decide +kernel
theorem dX4_begin_53 : decode cX4_begin 53 = .ok (.putfield 44, 3) := by decide +kernel
theorem dX4_begin_56 : decode cX4_begin 56 = .ok (.return_, 1) := by decide +kernel
theorem dX4_byteAt_0 : decode cX4_byteAt 0 = .ok (.iload_n 1, 1) := by decide +kernel
theorem dX4_byteAt_1 : decode cX4_byteAt 1 = .ok (.ifCond .lt 29, 3) := by decide +kernel
theorem dX4_byteAt_4 : decode cX4_byteAt 4 = .ok (.iload_n 1, 1) := by decide +kernel
theorem dX4_byteAt_5 : decode cX4_byteAt 5 = .ok (.aload_n 0, 1) := by decide +kernel
theorem dX4_byteAt_6 : decode cX4_byteAt 6 = .ok (.getfield 37, 3) := by decide +kernel
theorem dX4_byteAt_9 : decode cX4_byteAt 9 = .ok (.if_icmp .ge 21, 3) := by decide +kernel
theorem dX4_byteAt_12 : decode cX4_byteAt 12 = .ok (.iload_n 1, 1) := by decide +kernel
theorem dX4_byteAt_13 : decode cX4_byteAt 13 = .ok (.aload_n 0, 1) := by decide +kernel
theorem dX4_byteAt_14 : decode cX4_byteAt 14 = .ok (.getfield 30, 3) := by decide +kernel
theorem dX4_byteAt_17 : decode cX4_byteAt 17 = .ok (.arraylength, 1) := by decide +kernel
theorem dX4_byteAt_18 : decode cX4_byteAt 18 = .ok (.if_icmp .ge 12, 3) := by decide +kernel
theorem dX4_byteAt_21 : decode cX4_byteAt 21 = .ok (.aload_n 0, 1) := by decide +kernel
theorem dX4_byteAt_22 : decode cX4_byteAt 22 = .ok (.getfield 30, 3) := by decide +kernel
theorem dX4_byteAt_25 : decode cX4_byteAt 25 = .ok (.iload_n 1, 1) := by decide +kernel
theorem dX4_byteAt_26 : decode cX4_byteAt 26 = .ok (.iaload, 1) := by decide +kernel
theorem dX4_byteAt_27 : decode cX4_byteAt 27 = .ok (.goto 4, 3) := by decide +kernel
theorem dX4_byteAt_30 : decode cX4_byteAt 30 = .ok (.iconst (-1), 1) := by decide +kernel
theorem dX4_byteAt_31 : decode cX4_byteAt 31 = .ok (.ireturn, 1) := by decide +kernel
theorem dX4_isBlank_0 : decode cX4_isBlank 0 = .ok (.iload_n 0, 1) := by decide +kernel
theorem dX4_isBlank_1 : decode cX4_isBlank 1 = .ok (.bipush 9, 2) := by decide +kernel
theorem dX4_isBlank_3 : decode cX4_isBlank 3 = .ok (.if_icmp .eq 21, 3) := by decide +kernel
theorem dX4_isBlank_6 : decode cX4_isBlank 6 = .ok (.iload_n 0, 1) := by decide +kernel
theorem dX4_isBlank_7 : decode cX4_isBlank 7 = .ok (.bipush 10, 2) := by decide +kernel
theorem dX4_isBlank_9 : decode cX4_isBlank 9 = .ok (.if_icmp .eq 15, 3) := by decide +kernel
theorem dX4_isBlank_12 : decode cX4_isBlank 12 = .ok (.iload_n 0, 1) := by decide +kernel
theorem dX4_isBlank_13 : decode cX4_isBlank 13 = .ok (.bipush 13, 2) := by decide +kernel
theorem dX4_isBlank_15 : decode cX4_isBlank 15 = .ok (.if_icmp .eq 9, 3) := by decide +kernel
theorem dX4_isBlank_18 : decode cX4_isBlank 18 = .ok (.iload_n 0, 1) := by decide +kernel
theorem dX4_isBlank_19 : decode cX4_isBlank 19 = .ok (.bipush 32, 2) := by decide +kernel
theorem dX4_isBlank_21 : decode cX4_isBlank 21 = .ok (.if_icmp .ne 7, 3) := by decide +kernel
theorem dX4_isBlank_24 : decode cX4_isBlank 24 = .ok (.iconst 1, 1) := by decide +kernel
theorem dX4_isBlank_25 : decode cX4_isBlank 25 = .ok (.goto 4, 3) := by decide +kernel
theorem dX4_isBlank_28 : decode cX4_isBlank 28 = .ok (.iconst 0, 1) := by decide +kernel
theorem dX4_isBlank_29 : decode cX4_isBlank 29 = .ok (.ireturn, 1) := by decide +kernel
set_option maxRecDepth 20000 in
theorem ggX4_skipBlanks_X4_byteAt : GoodIn wsX4_skipBlanks wsX4_byteAt := goodIn_r _ [7, 2, 8, 12, 13, 14, 15, 16, 17, 18, 19, 20, 21, 22, 23, 24, 25, 26] (by decide +kernel) (by decide +kernel)
set_option maxRecDepth 20000 in
theorem gX4_skipBlanks_X4_byteAt : GoodIn wsX4_skipBlanks (wsV RX4 68 RX4 yX4_byteAt wsX4_byteAt) := goodIn_app (goodIn_of _ (by decide +kernel)) ggX4_skipBlanks_X4_byteAt
set_option maxRecDepth 20000 in
theorem ggX4_skipBlanks_X4_isBlank : GoodIn wsX4_skipBlanks wsX4_isBlank := goodIn_r _ [11] (by decide +kernel) (by decide +kernel)
set_option maxRecDepth 20000 in
theorem gX4_skipBlanks_X4_isBlank : GoodIn wsX4_skipBlanks (va_wsS RX4 72 yX4_isBlank wsX4_isBlank) := goodIn_app (goodIn_of _ (by decide +kernel)) ggX4_skipBlanks_X4_isBlank
theorem dX4_skipBlanks_0 : decode cX4_skipBlanks 0 = .ok (.aload_n 0, 1) := by decide +kernel
theorem dX4_skipBlanks_1 : decode cX4_skipBlanks 1 = .ok (.getfield 41, 3) := by decide +kernel
theorem dX4_skipBlanks_4 : decode cX4_skipBlanks 4 = .ok (.aload_n 0, 1) := by decide +kernel
theorem dX4_skipBlanks_5 : decode cX4_skipBlanks 5 = .ok (.getfield 37, 3) := by decide +kernel
theorem dX4_skipBlanks_8 : decode cX4_skipBlanks 8 = .ok (.if_icmp .ge 30, 3) := by decide +kernel
theorem dX4_skipBlanks_11 : decode cX4_skipBlanks 11 = .ok (.aload_n 0, 1) := by decide +kernel
theorem dX4_skipBlanks_12 : decode cX4_skipBlanks 12 = .ok (.aload_n 0, 1) := by decide +kernel
theorem dX4_skipBlanks_13 : decode cX4_skipBlanks 13 = .ok (.getfield 41, 3) := by decide +kernel
theorem dX4_skipBlanks_16 : decode cX4_skipBlanks 16 = .ok (.invokevirtual 68, 3) := by decide +kernel
theorem dX4_skipBlanks_19 : decode cX4_skipBlanks 19 = .ok (.invokestatic 72, 3) := by decide +kernel
theorem dX4_skipBlanks_22 : decode cX4_skipBlanks 22 = .ok (.ifCond .eq 16, 3) := by decide +kernel
theorem dX4_skipBlanks_25 : decode cX4_skipBlanks 25 = .ok (.aload_n 0, 1) := by decide +kernel
theorem dX4_skipBlanks_26 : decode cX4_skipBlanks 26 = .ok (.dup, 1) := by decide +kernel
theorem dX4_skipBlanks_27 : decode cX4_skipBlanks 27 = .ok (.getfield 41, 3) := by decide +kernel
theorem dX4_skipBlanks_30 : decode cX4_skipBlanks 30 = .ok (.iconst 1, 1) := by decide +kernel
theorem dX4_skipBlanks_31 : decode cX4_skipBlanks 31 = .ok (.iadd, 1) := by decide +kernel
theorem dX4_skipBlanks_32 : decode cX4_skipBlanks 32 = .ok (.putfield 41, 3) := by decide +kernel
theorem dX4_skipBlanks_35 : decode cX4_skipBlanks 35 = .ok (.goto (-35), 3) := by decide +kernel
theorem dX4_skipBlanks_38 : decode cX4_skipBlanks 38 = .ok (.return_, 1) := by decide +kernel
theorem dX4_isLetter_0 : decode cX4_isLetter 0 = .ok (.iload_n 0, 1) := by decide +kernel
theorem dX4_isLetter_1 : decode cX4_isLetter 1 = .ok (.bipush 97, 2) := by decide +kernel
theorem dX4_isLetter_3 : decode cX4_isLetter 3 = .ok (.if_icmp .lt 13, 3) := by decide +kernel
theorem dX4_isLetter_6 : decode cX4_isLetter 6 = .ok (.iload_n 0, 1) := by decide +kernel
theorem dX4_isLetter_7 : decode cX4_isLetter 7 = .ok (.bipush 122, 2) := by decide +kernel
theorem dX4_isLetter_9 : decode cX4_isLetter 9 = .ok (.if_icmp .gt 7, 3) := by decide +kernel
theorem dX4_isLetter_12 : decode cX4_isLetter 12 = .ok (.iconst 1, 1) := by decide +kernel
theorem dX4_isLetter_13 : decode cX4_isLetter 13 = .ok (.goto 4, 3) := by decide +kernel
theorem dX4_isLetter_16 : decode cX4_isLetter 16 = .ok (.iconst 0, 1) := by decide +kernel
theorem dX4_isLetter_17 : decode cX4_isLetter 17 = .ok (.ireturn, 1) := by decide +kernel
theorem dX4_isDigit_0 : decode cX4_isDigit 0 = .ok (.iload_n 0, 1) := by decide +kernel
theorem dX4_isDigit_1 : decode cX4_isDigit 1 = .ok (.bipush 48, 2) := by decide +kernel
theorem dX4_isDigit_3 : decode cX4_isDigit 3 = .ok (.if_icmp .lt 13, 3) := by decide +kernel
theorem dX4_isDigit_6 : decode cX4_isDigit 6 = .ok (.iload_n 0, 1) := by decide +kernel
theorem dX4_isDigit_7 : decode cX4_isDigit 7 = .ok (.bipush 57, 2) := by decide +kernel
theorem dX4_isDigit_9 : decode cX4_isDigit 9 = .ok (.if_icmp .gt 7, 3) := by decide +kernel
theorem dX4_isDigit_12 : decode cX4_isDigit 12 = .ok (.iconst 1, 1) := by decide +kernel
theorem dX4_isDigit_13 : decode cX4_isDigit 13 = .ok (.goto 4, 3) := by decide +kernel
theorem dX4_isDigit_16 : decode cX4_isDigit 16 = .ok (.iconst 0, 1) := by decide +kernel
theorem dX4_isDigit_17 : decode cX4_isDigit 17 = .ok (.ireturn, 1) := by decide +kernel
set_option maxRecDepth 20000 in
theorem ggX4_nameSize_X4_byteAt : GoodIn wsX4_nameSize wsX4_byteAt := goodIn_r _ [7, 2, 8, 15, 16, 17, 18, 19, 20, 21, 22, 23, 24, 25, 26, 27, 28, 29] (by decide +kernel) (by decide +kernel)
set_option maxRecDepth 20000 in
theorem gX4_nameSize_X4_byteAt : GoodIn wsX4_nameSize (wsV RX4 68 RX4 yX4_byteAt wsX4_byteAt) := goodIn_app (goodIn_of _ (by decide +kernel)) ggX4_nameSize_X4_byteAt
set_option maxRecDepth 20000 in
theorem ggX4_nameSize_X4_isLetter : GoodIn wsX4_nameSize wsX4_isLetter := goodIn_r _ [11] (by decide +kernel) (by decide +kernel)
set_option maxRecDepth 20000 in
theorem gX4_nameSize_X4_isLetter : GoodIn wsX4_nameSize (va_wsS RX4 85 yX4_isLetter wsX4_isLetter) := goodIn_app (goodIn_of _ (by decide +kernel)) ggX4_nameSize_X4_isLetter
set_option maxRecDepth 20000 in
theorem ggX4_nameSize_X4_isDigit : GoodIn wsX4_nameSize wsX4_isDigit := goodIn_r _ [14] (by decide +kernel) (by decide +kernel)
set_option maxRecDepth 20000 in
theorem gX4_nameSize_X4_isDigit : GoodIn wsX4_nameSize (va_wsS RX4 124 yX4_isDigit wsX4_isDigit) := goodIn_app (goodIn_of _ (by decide +kernel)) ggX4_nameSize_X4_isDigit
theorem dX4_nameSize_0 : decode cX4_nameSize 0 = .ok (.aload_n 0, 1) := by decide +kernel
theorem dX4_nameSize_1 : decode cX4_nameSize 1 = .ok (.aload_n 0, 1) := by decide +kernel
theorem dX4_nameSize_2 : decode cX4_nameSize 2 = .ok (.getfield 41, 3) := by decide +kernel
theorem dX4_nameSize_5 : decode cX4_nameSize 5 = .ok (.invokevirtual 68, 3) := by decide +kernel
theorem dX4_nameSize_8 : decode cX4_nameSize 8 = .ok (.invokestatic 85, 3) := by decide +kernel
theorem dX4_nameSize_11 : decode cX4_nameSize 11 = .ok (.ifCond .ne 5, 3) := by decide +kernel
theorem dX4_nameSize_14 : decode cX4_nameSize 14 = .ok (.iconst 0, 1) := by decide +kernel
theorem dX4_nameSize_15 : decode cX4_nameSize 15 = .ok (.ireturn, 1) := by decide +kernel
theorem dX4_nameSize_16 : decode cX4_nameSize 16 = .ok (.aload_n 0, 1) := by decide +kernel
theorem dX4_nameSize_17 : decode cX4_nameSize 17 = .ok (.getfield 41, 3) := by decide +kernel
theorem dX4_nameSize_20 : decode cX4_nameSize 20 = .ok (.iconst 1, 1) := by decide +kernel
theorem dX4_nameSize_21 : decode cX4_nameSize 21 = .ok (.iadd, 1) := by decide +kernel
theorem dX4_nameSize_22 : decode cX4_nameSize 22 = .ok (.istore_n 1, 1) := by decide +kernel
theorem dX4_nameSize_23 : decode cX4_nameSize 23 = .ok (.iload_n 1, 1) := by decide +kernel
theorem dX4_nameSize_24 : decode cX4_nameSize 24 = .ok (.aload_n 0, 1) := by decide +kernel
theorem dX4_nameSize_25 : decode cX4_nameSize 25 = .ok (.getfield 37, 3) := by decide +kernel
theorem dX4_nameSize_28 : decode cX4_nameSize 28 = .ok (.if_icmp .ge 20, 3) := by decide +kernel
theorem dX4_nameSize_31 : decode cX4_nameSize 31 = .ok (.aload_n 0, 1) := by decide +kernel
theorem dX4_nameSize_32 : decode cX4_nameSize 32 = .ok (.iload_n 1, 1) := by decide +kernel
theorem dX4_nameSize_33 : decode cX4_nameSize 33 = .ok (.invokevirtual 68, 3) := by decide +kernel
theorem dX4_nameSize_36 : decode cX4_nameSize 36 = .ok (.invokestatic 124, 3) := by decide +kernel
theorem dX4_nameSize_39 : decode cX4_nameSize 39 = .ok (.ifCond .eq 9, 3) := by decide +kernel
theorem dX4_nameSize_42 : decode cX4_nameSize 42 = .ok (.iinc 1 1, 3) := by decide +kernel
theorem dX4_nameSize_45 : decode cX4_nameSize 45 = .ok (.goto (-22), 3) := by decide +kernel
theorem dX4_nameSize_48 : decode cX4_nameSize 48 = .ok (.iload_n 1, 1) := by decide +kernel
theorem dX4_nameSize_49 : decode cX4_nameSize 49 = .ok (.aload_n 0, 1) := by decide +kernel
theorem dX4_nameSize_50 : decode cX4_nameSize 50 = .ok (.getfield 41, 3) := by decide +kernel
theorem dX4_nameSize_53 : decode cX4_nameSize 53 = .ok (.isub, 1) := by decide +kernel
theorem dX4_nameSize_54 : decode cX4_nameSize 54 = .ok (.ireturn, 1) := by decide +kernel
theorem dX4_countName_0 : decode cX4_countName 0 = .ok (.aload_n 0, 1) := by decide +kernel
theorem dX4_countName_1 : decode cX4_countName 1 = .ok (.dup, 1) := by decide +kernel
theorem dX4_countName_2 : decode cX4_countName 2 = .ok (.getfield 59, 3) := by decide +kernel
theorem dX4_countName_5 : decode cX4_countName 5 = .ok (.iconst 1, 1) := by decide +kernel
theorem dX4_countName_6 : decode cX4_countName 6 = .ok (.iadd, 1) := by decide +kernel
theorem dX4_countName_7 : decode cX4_countName 7 = .ok (.putfield 59, 3) := by decide +kernel
theorem dX4_countName_10 : decode cX4_countName 10 = .ok (.aload_n 0, 1) := by decide +kernel
theorem dX4_countName_11 : decode cX4_countName 11 = .ok (.getfield 59, 3) := by decide +kernel
theorem dX4_countName_14 : decode cX4_countName 14 = .ok (.bipush 80, 2) := by decide +kernel
theorem dX4_countName_16 : decode cX4_countName 16 = .ok (.if_icmp .le 7, 3) := by decide +kernel
theorem dX4_countName_19 : decode cX4_countName 19 = .ok (.iconst 4, 1) := by decide +kernel
theorem dX4_countName_20 : decode cX4_countName 20 = .ok (.goto 4, 3) := by decide +kernel
theorem dX4_countName_23 : decode cX4_countName 23 = .ok (.iconst 0, 1) := by decide +kernel
theorem dX4_countName_24 : decode cX4_countName 24 = .ok (.ireturn, 1) := by decide +kernel
set_option maxRecDepth 20000 in
theorem ggX4_nameOf_X4_byteAt : GoodIn wsX4_nameOf wsX4_byteAt := goodIn_r _ [6, 7, 8, 9, 10, 11, 12, 13, 14, 15, 16, 17, 18, 19, 20, 21, 22, 23] (by decide +kernel) (by decide +kernel)
set_option maxRecDepth 20000 in
theorem gX4_nameOf_X4_byteAt : GoodIn wsX4_nameOf (wsV RX4 68 RX4 yX4_byteAt wsX4_byteAt) := goodIn_app (goodIn_of _ (by decide +kernel)) ggX4_nameOf_X4_byteAt
theorem dX4_nameOf_0 : decode cX4_nameOf 0 = .ok (.iconst 0, 1) := by decide +kernel
theorem dX4_nameOf_1 : decode cX4_nameOf 1 = .ok (.istore_n 2, 1) := by decide +kernel
theorem dX4_nameOf_2 : decode cX4_nameOf 2 = .ok (.iconst 0, 1) := by decide +kernel
theorem dX4_nameOf_3 : decode cX4_nameOf 3 = .ok (.istore_n 3, 1) := by decide +kernel
theorem dX4_nameOf_4 : decode cX4_nameOf 4 = .ok (.iload_n 3, 1) := by decide +kernel
theorem dX4_nameOf_5 : decode cX4_nameOf 5 = .ok (.iload_n 1, 1) := by decide +kernel
theorem dX4_nameOf_6 : decode cX4_nameOf 6 = .ok (.if_icmp .ge 26, 3) := by decide +kernel
theorem dX4_nameOf_9 : decode cX4_nameOf 9 = .ok (.iload_n 2, 1) := by decide +kernel
theorem dX4_nameOf_10 : decode cX4_nameOf 10 = .ok (.sipush 256, 3) := by decide +kernel
theorem dX4_nameOf_13 : decode cX4_nameOf 13 = .ok (.imul, 1) := by decide +kernel
theorem dX4_nameOf_14 : decode cX4_nameOf 14 = .ok (.aload_n 0, 1) := by decide +kernel
theorem dX4_nameOf_15 : decode cX4_nameOf 15 = .ok (.aload_n 0, 1) := by decide +kernel
theorem dX4_nameOf_16 : decode cX4_nameOf 16 = .ok (.getfield 41, 3) := by decide +kernel
theorem dX4_nameOf_19 : decode cX4_nameOf 19 = .ok (.iload_n 3, 1) := by decide +kernel
theorem dX4_nameOf_20 : decode cX4_nameOf 20 = .ok (.iadd, 1) := by decide +kernel
theorem dX4_nameOf_21 : decode cX4_nameOf 21 = .ok (.invokevirtual 68, 3) := by decide +kernel
theorem dX4_nameOf_24 : decode cX4_nameOf 24 = .ok (.iadd, 1) := by decide +kernel
theorem dX4_nameOf_25 : decode cX4_nameOf 25 = .ok (.istore_n 2, 1) := by decide +kernel
theorem dX4_nameOf_26 : decode cX4_nameOf 26 = .ok (.iinc 3 1, 3) := by decide +kernel
theorem dX4_nameOf_29 : decode cX4_nameOf 29 = .ok (.goto (-25), 3) := by decide +kernel
theorem dX4_nameOf_32 : decode cX4_nameOf 32 = .ok (.iload_n 2, 1) := by decide +kernel
theorem dX4_nameOf_33 : decode cX4_nameOf 33 = .ok (.ireturn, 1) := by decide +kernel
theorem dX4_push_0 : decode cX4_push 0 = .ok (.aload_n 0, 1) := by decide +kernel
theorem dX4_push_1 : decode cX4_push 1 = .ok (.getfield 56, 3) := by decide +kernel
theorem dX4_push_4 : decode cX4_push 4 = .ok (.bipush 40, 2) := by decide +kernel
theorem dX4_push_6 : decode cX4_push 6 = .ok (.if_icmp .ge 49, 3) := by decide +kernel
theorem dX4_push_9 : decode cX4_push 9 = .ok (.aload_n 0, 1) := by decide +kernel
theorem dX4_push_10 : decode cX4_push 10 = .ok (.getfield 21, 3) := by decide +kernel
theorem dX4_push_13 : decode cX4_push 13 = .ok (.aload_n 0, 1) := by decide +kernel
theorem dX4_push_14 : decode cX4_push 14 = .ok (.getfield 56, 3) := by decide +kernel
theorem dX4_push_17 : decode cX4_push 17 = .ok (.iload_n 1, 1) := by decide +kernel
theorem dX4_push_18 : decode cX4_push 18 = .ok (.iastore, 1) := by decide +kernel
theorem dX4_push_19 : decode cX4_push 19 = .ok (.aload_n 0, 1) := by decide +kernel
theorem dX4_push_20 : decode cX4_push 20 = .ok (.getfield 24, 3) := by decide +kernel
theorem dX4_push_23 : decode cX4_push 23 = .ok (.aload_n 0, 1) := by decide +kernel
theorem dX4_push_24 : decode cX4_push 24 = .ok (.getfield 56, 3) := by decide +kernel
theorem dX4_push_27 : decode cX4_push 27 = .ok (.aload_n 0, 1) := by decide +kernel
theorem dX4_push_28 : decode cX4_push 28 = .ok (.getfield 62, 3) := by decide +kernel
theorem dX4_push_31 : decode cX4_push 31 = .ok (.iastore, 1) := by decide +kernel
theorem dX4_push_32 : decode cX4_push 32 = .ok (.aload_n 0, 1) := by decide +kernel
theorem dX4_push_33 : decode cX4_push 33 = .ok (.getfield 27, 3) := by decide +kernel
theorem dX4_push_36 : decode cX4_push 36 = .ok (.aload_n 0, 1) := by decide +kernel
theorem dX4_push_37 : decode cX4_push 37 = .ok (.getfield 56, 3) := by decide +kernel
theorem dX4_push_40 : decode cX4_push 40 = .ok (.aload_n 0, 1) := by decide +kernel
theorem dX4_push_41 : decode cX4_push 41 = .ok (.getfield 65, 3) := by decide +kernel
theorem dX4_push_44 : decode cX4_push 44 = .ok (.iastore, 1) := by decide +kernel
theorem dX4_push_45 : decode cX4_push 45 = .ok (.aload_n 0, 1) := by decide +kernel
theorem dX4_push_46 : decode cX4_push 46 = .ok (.dup, 1) := by decide +kernel
theorem dX4_push_47 : decode cX4_push 47 = .ok (.getfield 56, 3) := by decide +kernel
theorem dX4_push_50 : decode cX4_push 50 = .ok (.iconst 1, 1) := by decide +kernel
theorem dX4_push_51 : decode cX4_push 51 = .ok (.iadd, 1) := by decide +kernel
theorem dX4_push_52 : decode cX4_push 52 = .ok (.putfield 56, 3) := by decide +kernel
theorem dX4_push_55 : decode cX4_push 55 = .ok (.return_, 1) := by decide +kernel
set_option maxRecDepth 20000 in
theorem ggX4_openLambda_X4_skipBlanks : GoodIn wsX4_openLambda wsX4_skipBlanks := goodIn_r _ [9, 4, 10, 11, 12, 13, 8, 14, 15, 16, 17, 18, 46, 47, 48, 49, 50, 51, 52, 53, 54, 55, 56, 57, 58, 59, 60] (by decide +kernel) (by decide +kernel)
set_option maxRecDepth 20000 in
theorem gX4_openLambda_X4_skipBlanks : GoodIn wsX4_openLambda (wsV RX4 91 RX4 yX4_skipBlanks wsX4_skipBlanks) := goodIn_app (goodIn_of _ (by decide +kernel)) ggX4_openLambda_X4_skipBlanks
set_option maxRecDepth 20000 in
theorem ggX4_openLambda_X4_nameSize : GoodIn wsX4_openLambda wsX4_nameSize := goodIn_r _ [22, 4, 10, 11, 12, 13, 8, 14, 15, 23, 24, 25, 26, 27, 28, 46, 47, 48, 49, 50, 51, 52, 53, 54, 55, 56, 57, 58, 59, 60] (by decide +kernel) (by decide +kernel)
set_option maxRecDepth 20000 in
theorem gX4_openLambda_X4_nameSize : GoodIn wsX4_openLambda (wsV RX4 94 RX4 yX4_nameSize wsX4_nameSize) := goodIn_app (goodIn_of _ (by decide +kernel)) ggX4_openLambda_X4_nameSize
set_option maxRecDepth 20000 in
theorem ggX4_openLambda_X4_countName : GoodIn wsX4_openLambda wsX4_countName := goodIn_r _ [32, 33, 46, 47, 48, 49, 50, 51, 52, 53, 54, 55, 56, 57, 58, 59, 60] (by decide +kernel) (by decide +kernel)
set_option maxRecDepth 20000 in
theorem gX4_openLambda_X4_countName : GoodIn wsX4_openLambda (wsV RX4 98 RX4 yX4_countName wsX4_countName) := goodIn_app (goodIn_of _ (by decide +kernel)) ggX4_openLambda_X4_countName
set_option maxRecDepth 20000 in
theorem ggX4_openLambda_X4_nameOf : GoodIn wsX4_openLambda wsX4_nameOf := goodIn_r _ [37, 4, 11, 12, 13, 8, 14, 10, 15, 46, 47, 48, 49, 50, 51, 52, 53, 54, 55, 56, 57, 58, 59, 60] (by decide +kernel) (by decide +kernel)
set_option maxRecDepth 20000 in
theorem gX4_openLambda_X4_nameOf : GoodIn wsX4_openLambda (wsV RX4 101 RX4 yX4_nameOf wsX4_nameOf) := goodIn_app (goodIn_of _ (by decide +kernel)) ggX4_openLambda_X4_nameOf
set_option maxRecDepth 20000 in
theorem ggX4_openLambda_X4_byteAt : GoodIn wsX4_openLambda wsX4_byteAt := goodIn_r _ [14, 10, 15, 46, 47, 48, 49, 50, 51, 52, 53, 54, 55, 56, 57, 58, 59, 60] (by decide +kernel) (by decide +kernel)
set_option maxRecDepth 20000 in
theorem gX4_openLambda_X4_byteAt : GoodIn wsX4_openLambda (wsV RX4 68 RX4 yX4_byteAt wsX4_byteAt) := goodIn_app (goodIn_of _ (by decide +kernel)) ggX4_openLambda_X4_byteAt
set_option maxRecDepth 20000 in
theorem ggX4_openLambda_X4_push : GoodIn wsX4_openLambda wsX4_push := goodIn_r _ [41, 3, 42, 43, 44, 45, 1, 46, 47, 48, 49, 50, 51, 52, 53, 54, 55, 56, 57, 58, 59, 60] (by decide +kernel) (by decide +kernel)
set_option maxRecDepth 20000 in
theorem gX4_openLambda_X4_push : GoodIn wsX4_openLambda (wsV RX4 104 RX4 yX4_push wsX4_push) := goodIn_app (goodIn_of _ (by decide +kernel)) ggX4_openLambda_X4_push
theorem dX4_openLambda_0 : decode cX4_openLambda 0 = .ok (.aload_n 0, 1) := by decide +kernel
theorem dX4_openLambda_1 : decode cX4_openLambda 1 = .ok (.getfield 65, 3) := by decide +kernel
theorem dX4_openLambda_4 : decode cX4_openLambda 4 = .ok (.ifCond .le 9, 3) := by decide +kernel
theorem dX4_openLambda_7 : decode cX4_openLambda 7 = .ok (.aload_n 0, 1) := by decide +kernel
theorem dX4_openLambda_8 : decode cX4_openLambda 8 = .ok (.iconst 1, 1) := by decide +kernel
theorem dX4_openLambda_9 : decode cX4_openLambda 9 = .ok (.putfield 44, 3) := by decide +kernel
theorem dX4_openLambda_12 : decode cX4_openLambda 12 = .ok (.return_, 1) := by decide +kernel
theorem dX4_openLambda_13 : decode cX4_openLambda 13 = .ok (.aload_n 0, 1) := by decide +kernel
theorem dX4_openLambda_14 : decode cX4_openLambda 14 = .ok (.getfield 56, 3) := by decide +kernel
theorem dX4_openLambda_17 : decode cX4_openLambda 17 = .ok (.bipush 40, 2) := by decide +kernel
theorem dX4_openLambda_19 : decode cX4_openLambda 19 = .ok (.if_icmp .lt 9, 3) := by decide +kernel
theorem dX4_openLambda_22 : decode cX4_openLambda 22 = .ok (.aload_n 0, 1) := by decide +kernel
theorem dX4_openLambda_23 : decode cX4_openLambda 23 = .ok (.iconst 3, 1) := by decide +kernel
theorem dX4_openLambda_24 : decode cX4_openLambda 24 = .ok (.putfield 44, 3) := by decide +kernel
theorem dX4_openLambda_27 : decode cX4_openLambda 27 = .ok (.return_, 1) := by decide +kernel
theorem dX4_openLambda_28 : decode cX4_openLambda 28 = .ok (.aload_n 0, 1) := by decide +kernel
theorem dX4_openLambda_29 : decode cX4_openLambda 29 = .ok (.dup, 1) := by decide +kernel
theorem dX4_openLambda_30 : decode cX4_openLambda 30 = .ok (.getfield 41, 3) := by decide +kernel
theorem dX4_openLambda_33 : decode cX4_openLambda 33 = .ok (.iconst 1, 1) := by decide +kernel
theorem dX4_openLambda_34 : decode cX4_openLambda 34 = .ok (.iadd, 1) := by decide +kernel
theorem dX4_openLambda_35 : decode cX4_openLambda 35 = .ok (.putfield 41, 3) := by decide +kernel
theorem dX4_openLambda_38 : decode cX4_openLambda 38 = .ok (.aload_n 0, 1) := by decide +kernel
theorem dX4_openLambda_39 : decode cX4_openLambda 39 = .ok (.invokevirtual 91, 3) := by decide +kernel
theorem dX4_openLambda_42 : decode cX4_openLambda 42 = .ok (.aload_n 0, 1) := by decide +kernel
theorem dX4_openLambda_43 : decode cX4_openLambda 43 = .ok (.invokevirtual 94, 3) := by decide +kernel
theorem dX4_openLambda_46 : decode cX4_openLambda 46 = .ok (.istore_n 1, 1) := by decide +kernel
theorem dX4_openLambda_47 : decode cX4_openLambda 47 = .ok (.aload_n 0, 1) := by decide +kernel
theorem dX4_openLambda_48 : decode cX4_openLambda 48 = .ok (.iload_n 1, 1) := by decide +kernel
theorem dX4_openLambda_49 : decode cX4_openLambda 49 = .ok (.ifCond .eq 8, 3) := by decide +kernel
theorem dX4_openLambda_52 : decode cX4_openLambda 52 = .ok (.iload_n 1, 1) := by decide +kernel
theorem dX4_openLambda_53 : decode cX4_openLambda 53 = .ok (.iconst 4, 1) := by decide +kernel
theorem dX4_openLambda_54 : decode cX4_openLambda 54 = .ok (.if_icmp .le 7, 3) := by decide +kernel
theorem dX4_openLambda_57 : decode cX4_openLambda 57 = .ok (.iconst 1, 1) := by decide +kernel
theorem dX4_openLambda_58 : decode cX4_openLambda 58 = .ok (.goto 7, 3) := by decide +kernel
theorem dX4_openLambda_61 : decode cX4_openLambda 61 = .ok (.aload_n 0, 1) := by decide +kernel
theorem dX4_openLambda_62 : decode cX4_openLambda 62 = .ok (.invokevirtual 98, 3) := by decide +kernel
theorem dX4_openLambda_65 : decode cX4_openLambda 65 = .ok (.putfield 44, 3) := by decide +kernel
theorem dX4_openLambda_68 : decode cX4_openLambda 68 = .ok (.aload_n 0, 1) := by decide +kernel
theorem dX4_openLambda_69 : decode cX4_openLambda 69 = .ok (.getfield 44, 3) := by decide +kernel
theorem dX4_openLambda_72 : decode cX4_openLambda 72 = .ok (.ifCond .eq 4, 3) := by decide +kernel
theorem dX4_openLambda_75 : decode cX4_openLambda 75 = .ok (.return_, 1) := by decide +kernel
theorem dX4_openLambda_76 : decode cX4_openLambda 76 = .ok (.aload_n 0, 1) := by decide +kernel
theorem dX4_openLambda_77 : decode cX4_openLambda 77 = .ok (.iload_n 1, 1) := by decide +kernel
theorem dX4_openLambda_78 : decode cX4_openLambda 78 = .ok (.invokevirtual 101, 3) := by decide +kernel
theorem dX4_openLambda_81 : decode cX4_openLambda 81 = .ok (.istore_n 2, 1) := by decide +kernel
theorem dX4_openLambda_82 : decode cX4_openLambda 82 = .ok (.aload_n 0, 1) := by decide +kernel
theorem dX4_openLambda_83 : decode cX4_openLambda 83 = .ok (.dup, 1) := by decide +kernel
theorem dX4_openLambda_84 : decode cX4_openLambda 84 = .ok (.getfield 41, 3) := by decide +kernel
theorem dX4_openLambda_87 : decode cX4_openLambda 87 = .ok (.iload_n 1, 1) := by decide +kernel
theorem dX4_openLambda_88 : decode cX4_openLambda 88 = .ok (.iadd, 1) := by decide +kernel
theorem dX4_openLambda_89 : decode cX4_openLambda 89 = .ok (.putfield 41, 3) := by decide +kernel
theorem dX4_openLambda_92 : decode cX4_openLambda 92 = .ok (.aload_n 0, 1) := by decide +kernel
theorem dX4_openLambda_93 : decode cX4_openLambda 93 = .ok (.invokevirtual 91, 3) := by decide +kernel
theorem dX4_openLambda_96 : decode cX4_openLambda 96 = .ok (.aload_n 0, 1) := by decide +kernel
theorem dX4_openLambda_97 : decode cX4_openLambda 97 = .ok (.aload_n 0, 1) := by decide +kernel
theorem dX4_openLambda_98 : decode cX4_openLambda 98 = .ok (.getfield 41, 3) := by decide +kernel
theorem dX4_openLambda_101 : decode cX4_openLambda 101 = .ok (.invokevirtual 68, 3) := by decide +kernel
theorem dX4_openLambda_104 : decode cX4_openLambda 104 = .ok (.bipush 46, 2) := by decide +kernel
theorem dX4_openLambda_106 : decode cX4_openLambda 106 = .ok (.if_icmp .eq 9, 3) := by decide +kernel
theorem dX4_openLambda_109 : decode cX4_openLambda 109 = .ok (.aload_n 0, 1) := by decide +kernel
theorem dX4_openLambda_110 : decode cX4_openLambda 110 = .ok (.iconst 1, 1) := by decide +kernel
theorem dX4_openLambda_111 : decode cX4_openLambda 111 = .ok (.putfield 44, 3) := by decide +kernel
theorem dX4_openLambda_114 : decode cX4_openLambda 114 = .ok (.return_, 1) := by decide +kernel
theorem dX4_openLambda_115 : decode cX4_openLambda 115 = .ok (.aload_n 0, 1) := by decide +kernel
theorem dX4_openLambda_116 : decode cX4_openLambda 116 = .ok (.dup, 1) := by decide +kernel
theorem dX4_openLambda_117 : decode cX4_openLambda 117 = .ok (.getfield 41, 3) := by decide +kernel
theorem dX4_openLambda_120 : decode cX4_openLambda 120 = .ok (.iconst 1, 1) := by decide +kernel
theorem dX4_openLambda_121 : decode cX4_openLambda 121 = .ok (.iadd, 1) := by decide +kernel
theorem dX4_openLambda_122 : decode cX4_openLambda 122 = .ok (.putfield 41, 3) := by decide +kernel
theorem dX4_openLambda_125 : decode cX4_openLambda 125 = .ok (.aload_n 0, 1) := by decide +kernel
theorem dX4_openLambda_126 : decode cX4_openLambda 126 = .ok (.iload_n 2, 1) := by decide +kernel
theorem dX4_openLambda_127 : decode cX4_openLambda 127 = .ok (.invokevirtual 104, 3) := by decide +kernel
theorem dX4_openLambda_130 : decode cX4_openLambda 130 = .ok (.return_, 1) := by decide +kernel
theorem dX4_partIndex_0 : decode cX4_partIndex 0 = .ok (.aload_n 0, 1) := by decide +kernel
theorem dX4_partIndex_1 : decode cX4_partIndex 1 = .ok (.getfield 65, 3) := by decide +kernel
theorem dX4_partIndex_4 : decode cX4_partIndex 4 = .ok (.ifCond .ne 10, 3) := by decide +kernel
theorem dX4_partIndex_7 : decode cX4_partIndex 7 = .ok (.aload_n 0, 1) := by decide +kernel
theorem dX4_partIndex_8 : decode cX4_partIndex 8 = .ok (.getfield 62, 3) := by decide +kernel
theorem dX4_partIndex_11 : decode cX4_partIndex 11 = .ok (.goto 9, 3) := by decide +kernel
theorem dX4_partIndex_14 : decode cX4_partIndex 14 = .ok (.aload_n 0, 1) := by decide +kernel
theorem dX4_partIndex_15 : decode cX4_partIndex 15 = .ok (.getfield 62, 3) := by decide +kernel
theorem dX4_partIndex_18 : decode cX4_partIndex 18 = .ok (.iconst 1, 1) := by decide +kernel
theorem dX4_partIndex_19 : decode cX4_partIndex 19 = .ok (.iadd, 1) := by decide +kernel
theorem dX4_partIndex_20 : decode cX4_partIndex 20 = .ok (.ireturn, 1) := by decide +kernel
set_option maxRecDepth 20000 in
theorem ggX4_openParenthesis_X4_push : GoodIn wsX4_openParenthesis wsX4_push := goodIn_r _ [10, 1, 11, 12, 4, 13, 5, 18, 19, 20, 21, 22, 23, 24, 25, 26, 27, 28, 29, 30, 31, 32] (by decide +kernel) (by decide +kernel)
set_option maxRecDepth 20000 in
theorem gX4_openParenthesis_X4_push : GoodIn wsX4_openParenthesis (wsV RX4 104 RX4 yX4_push wsX4_push) := goodIn_app (goodIn_of _ (by decide +kernel)) ggX4_openParenthesis_X4_push
set_option maxRecDepth 20000 in
theorem ggX4_openParenthesis_X4_partIndex : GoodIn wsX4_openParenthesis wsX4_partIndex := goodIn_r _ [17, 5, 4, 18, 19, 20, 21, 22, 23, 24, 25, 26, 27, 28, 29, 30, 31, 32] (by decide +kernel) (by decide +kernel)
set_option maxRecDepth 20000 in
theorem gX4_openParenthesis_X4_partIndex : GoodIn wsX4_openParenthesis (wsV RX4 108 RX4 yX4_partIndex wsX4_partIndex) := goodIn_app (goodIn_of _ (by decide +kernel)) ggX4_openParenthesis_X4_partIndex
theorem dX4_openParenthesis_0 : decode cX4_openParenthesis 0 = .ok (.aload_n 0, 1) := by decide +kernel
theorem dX4_openParenthesis_1 : decode cX4_openParenthesis 1 = .ok (.getfield 56, 3) := by decide +kernel
theorem dX4_openParenthesis_4 : decode cX4_openParenthesis 4 = .ok (.bipush 40, 2) := by decide +kernel
theorem dX4_openParenthesis_6 : decode cX4_openParenthesis 6 = .ok (.if_icmp .lt 9, 3) := by decide +kernel
theorem dX4_openParenthesis_9 : decode cX4_openParenthesis 9 = .ok (.aload_n 0, 1) := by decide +kernel
theorem dX4_openParenthesis_10 : decode cX4_openParenthesis 10 = .ok (.iconst 3, 1) := by decide +kernel
theorem dX4_openParenthesis_11 : decode cX4_openParenthesis 11 = .ok (.putfield 44, 3) := by decide +kernel
theorem dX4_openParenthesis_14 : decode cX4_openParenthesis 14 = .ok (.return_, 1) := by decide +kernel
theorem dX4_openParenthesis_15 : decode cX4_openParenthesis 15 = .ok (.aload_n 0, 1) := by decide +kernel
theorem dX4_openParenthesis_16 : decode cX4_openParenthesis 16 = .ok (.dup, 1) := by decide +kernel
theorem dX4_openParenthesis_17 : decode cX4_openParenthesis 17 = .ok (.getfield 41, 3) := by decide +kernel
theorem dX4_openParenthesis_20 : decode cX4_openParenthesis 20 = .ok (.iconst 1, 1) := by decide +kernel
theorem dX4_openParenthesis_21 : decode cX4_openParenthesis 21 = .ok (.iadd, 1) := by decide +kernel
theorem dX4_openParenthesis_22 : decode cX4_openParenthesis 22 = .ok (.putfield 41, 3) := by decide +kernel
theorem dX4_openParenthesis_25 : decode cX4_openParenthesis 25 = .ok (.aload_n 0, 1) := by decide +kernel
theorem dX4_openParenthesis_26 : decode cX4_openParenthesis 26 = .ok (.iconst 0, 1) := by decide +kernel
theorem dX4_openParenthesis_27 : decode cX4_openParenthesis 27 = .ok (.invokevirtual 104, 3) := by decide +kernel
theorem dX4_openParenthesis_30 : decode cX4_openParenthesis 30 = .ok (.aload_n 0, 1) := by decide +kernel
theorem dX4_openParenthesis_31 : decode cX4_openParenthesis 31 = .ok (.aload_n 0, 1) := by decide +kernel
theorem dX4_openParenthesis_32 : decode cX4_openParenthesis 32 = .ok (.invokevirtual 108, 3) := by decide +kernel
theorem dX4_openParenthesis_35 : decode cX4_openParenthesis 35 = .ok (.putfield 62, 3) := by decide +kernel
theorem dX4_openParenthesis_38 : decode cX4_openParenthesis 38 = .ok (.aload_n 0, 1) := by decide +kernel
theorem dX4_openParenthesis_39 : decode cX4_openParenthesis 39 = .ok (.iconst 0, 1) := by decide +kernel
theorem dX4_openParenthesis_40 : decode cX4_openParenthesis 40 = .ok (.putfield 65, 3) := by decide +kernel
theorem dX4_openParenthesis_43 : decode cX4_openParenthesis 43 = .ok (.return_, 1) := by decide +kernel
theorem dX4_addWord_0 : decode cX4_addWord 0 = .ok (.aload_n 0, 1) := by decide +kernel
theorem dX4_addWord_1 : decode cX4_addWord 1 = .ok (.getfield 53, 3) := by decide +kernel
theorem dX4_addWord_4 : decode cX4_addWord 4 = .ok (.sipush 162, 3) := by decide +kernel
theorem dX4_addWord_7 : decode cX4_addWord 7 = .ok (.if_icmp .ge 43, 3) := by decide +kernel
theorem dX4_addWord_10 : decode cX4_addWord 10 = .ok (.aload_n 0, 1) := by decide +kernel
theorem dX4_addWord_11 : decode cX4_addWord 11 = .ok (.getfield 11, 3) := by decide +kernel
theorem dX4_addWord_14 : decode cX4_addWord 14 = .ok (.aload_n 0, 1) := by decide +kernel
theorem dX4_addWord_15 : decode cX4_addWord 15 = .ok (.getfield 53, 3) := by decide +kernel
theorem dX4_addWord_18 : decode cX4_addWord 18 = .ok (.iload_n 1, 1) := by decide +kernel
theorem dX4_addWord_19 : decode cX4_addWord 19 = .ok (.iastore, 1) := by decide +kernel
theorem dX4_addWord_20 : decode cX4_addWord 20 = .ok (.aload_n 0, 1) := by decide +kernel
theorem dX4_addWord_21 : decode cX4_addWord 21 = .ok (.getfield 15, 3) := by decide +kernel
theorem dX4_addWord_24 : decode cX4_addWord 24 = .ok (.aload_n 0, 1) := by decide +kernel
theorem dX4_addWord_25 : decode cX4_addWord 25 = .ok (.getfield 53, 3) := by decide +kernel
theorem dX4_addWord_28 : decode cX4_addWord 28 = .ok (.iload_n 2, 1) := by decide +kernel
theorem dX4_addWord_29 : decode cX4_addWord 29 = .ok (.iastore, 1) := by decide +kernel
theorem dX4_addWord_30 : decode cX4_addWord 30 = .ok (.aload_n 0, 1) := by decide +kernel
theorem dX4_addWord_31 : decode cX4_addWord 31 = .ok (.getfield 18, 3) := by decide +kernel
theorem dX4_addWord_34 : decode cX4_addWord 34 = .ok (.aload_n 0, 1) := by decide +kernel
theorem dX4_addWord_35 : decode cX4_addWord 35 = .ok (.getfield 53, 3) := by decide +kernel
theorem dX4_addWord_38 : decode cX4_addWord 38 = .ok (.iload_n 3, 1) := by decide +kernel
theorem dX4_addWord_39 : decode cX4_addWord 39 = .ok (.iastore, 1) := by decide +kernel
theorem dX4_addWord_40 : decode cX4_addWord 40 = .ok (.aload_n 0, 1) := by decide +kernel
theorem dX4_addWord_41 : decode cX4_addWord 41 = .ok (.dup, 1) := by decide +kernel
theorem dX4_addWord_42 : decode cX4_addWord 42 = .ok (.getfield 53, 3) := by decide +kernel
theorem dX4_addWord_45 : decode cX4_addWord 45 = .ok (.iconst 1, 1) := by decide +kernel
theorem dX4_addWord_46 : decode cX4_addWord 46 = .ok (.iadd, 1) := by decide +kernel
theorem dX4_addWord_47 : decode cX4_addWord 47 = .ok (.putfield 53, 3) := by decide +kernel
theorem dX4_addWord_50 : decode cX4_addWord 50 = .ok (.return_, 1) := by decide +kernel
set_option maxRecDepth 20000 in
theorem ggX4_closeLambdas_X4_addWord : GoodIn wsX4_closeLambdas wsX4_addWord := goodIn_r _ [8, 9, 10, 11, 12, 13, 14, 15, 16, 17, 18, 19, 20, 21, 22, 23, 24, 25, 26, 27] (by decide +kernel) (by decide +kernel)
set_option maxRecDepth 20000 in
theorem gX4_closeLambdas_X4_addWord : GoodIn wsX4_closeLambdas (wsV RX4 120 RX4 yX4_addWord wsX4_addWord) := goodIn_app (goodIn_of _ (by decide +kernel)) ggX4_closeLambdas_X4_addWord
theorem dX4_closeLambdas_0 : decode cX4_closeLambdas 0 = .ok (.aload_n 0, 1) := by decide +kernel
theorem dX4_closeLambdas_1 : decode cX4_closeLambdas 1 = .ok (.getfield 56, 3) := by decide +kernel
theorem dX4_closeLambdas_4 : decode cX4_closeLambdas 4 = .ok (.ifCond .le 43, 3) := by decide +kernel
theorem dX4_closeLambdas_7 : decode cX4_closeLambdas 7 = .ok (.aload_n 0, 1) := by decide +kernel
theorem dX4_closeLambdas_8 : decode cX4_closeLambdas 8 = .ok (.getfield 21, 3) := by decide +kernel
theorem dX4_closeLambdas_11 : decode cX4_closeLambdas 11 = .ok (.aload_n 0, 1) := by decide +kernel
theorem dX4_closeLambdas_12 : decode cX4_closeLambdas 12 = .ok (.getfield 56, 3) := by decide +kernel
theorem dX4_closeLambdas_15 : decode cX4_closeLambdas 15 = .ok (.iconst 1, 1) := by decide +kernel
theorem dX4_closeLambdas_16 : decode cX4_closeLambdas 16 = .ok (.isub, 1) := by decide +kernel
theorem dX4_closeLambdas_17 : decode cX4_closeLambdas 17 = .ok (.iaload, 1) := by decide +kernel
theorem dX4_closeLambdas_18 : decode cX4_closeLambdas 18 = .ok (.ifCond .eq 29, 3) := by decide +kernel
theorem dX4_closeLambdas_21 : decode cX4_closeLambdas 21 = .ok (.aload_n 0, 1) := by decide +kernel
theorem dX4_closeLambdas_22 : decode cX4_closeLambdas 22 = .ok (.dup, 1) := by decide +kernel
theorem dX4_closeLambdas_23 : decode cX4_closeLambdas 23 = .ok (.getfield 56, 3) := by decide +kernel
theorem dX4_closeLambdas_26 : decode cX4_closeLambdas 26 = .ok (.iconst 1, 1) := by decide +kernel
theorem dX4_closeLambdas_27 : decode cX4_closeLambdas 27 = .ok (.isub, 1) := by decide +kernel
theorem dX4_closeLambdas_28 : decode cX4_closeLambdas 28 = .ok (.putfield 56, 3) := by decide +kernel
theorem dX4_closeLambdas_31 : decode cX4_closeLambdas 31 = .ok (.aload_n 0, 1) := by decide +kernel
theorem dX4_closeLambdas_32 : decode cX4_closeLambdas 32 = .ok (.iconst 1, 1) := by decide +kernel
theorem dX4_closeLambdas_33 : decode cX4_closeLambdas 33 = .ok (.aload_n 0, 1) := by decide +kernel
theorem dX4_closeLambdas_34 : decode cX4_closeLambdas 34 = .ok (.getfield 62, 3) := by decide +kernel
theorem dX4_closeLambdas_37 : decode cX4_closeLambdas 37 = .ok (.aload_n 0, 1) := by decide +kernel
theorem dX4_closeLambdas_38 : decode cX4_closeLambdas 38 = .ok (.getfield 56, 3) := by decide +kernel
theorem dX4_closeLambdas_41 : decode cX4_closeLambdas 41 = .ok (.invokevirtual 120, 3) := by decide +kernel
theorem dX4_closeLambdas_44 : decode cX4_closeLambdas 44 = .ok (.goto (-44), 3) := by decide +kernel
theorem dX4_closeLambdas_47 : decode cX4_closeLambdas 47 = .ok (.return_, 1) := by decide +kernel
set_option maxRecDepth 20000 in
theorem ggX4_endPart_X4_addWord : GoodIn wsX4_endPart wsX4_addWord := goodIn_r _ [7, 8, 9, 10, 11, 12, 13, 14, 15, 16, 17, 18, 19, 20, 21, 22, 23, 24, 25, 26] (by decide +kernel) (by decide +kernel)
set_option maxRecDepth 20000 in
theorem gX4_endPart_X4_addWord : GoodIn wsX4_endPart (wsV RX4 120 RX4 yX4_addWord wsX4_addWord) := goodIn_app (goodIn_of _ (by decide +kernel)) ggX4_endPart_X4_addWord
theorem dX4_endPart_0 : decode cX4_endPart 0 = .ok (.aload_n 0, 1) := by decide +kernel
theorem dX4_endPart_1 : decode cX4_endPart 1 = .ok (.dup, 1) := by decide +kernel
theorem dX4_endPart_2 : decode cX4_endPart 2 = .ok (.getfield 65, 3) := by decide +kernel
theorem dX4_endPart_5 : decode cX4_endPart 5 = .ok (.iconst 1, 1) := by decide +kernel
theorem dX4_endPart_6 : decode cX4_endPart 6 = .ok (.iadd, 1) := by decide +kernel
theorem dX4_endPart_7 : decode cX4_endPart 7 = .ok (.putfield 65, 3) := by decide +kernel
theorem dX4_endPart_10 : decode cX4_endPart 10 = .ok (.aload_n 0, 1) := by decide +kernel
theorem dX4_endPart_11 : decode cX4_endPart 11 = .ok (.getfield 65, 3) := by decide +kernel
theorem dX4_endPart_14 : decode cX4_endPart 14 = .ok (.iconst 1, 1) := by decide +kernel
theorem dX4_endPart_15 : decode cX4_endPart 15 = .ok (.if_icmp .le 13, 3) := by decide +kernel
theorem dX4_endPart_18 : decode cX4_endPart 18 = .ok (.aload_n 0, 1) := by decide +kernel
theorem dX4_endPart_19 : decode cX4_endPart 19 = .ok (.iconst 2, 1) := by decide +kernel
theorem dX4_endPart_20 : decode cX4_endPart 20 = .ok (.aload_n 0, 1) := by decide +kernel
theorem dX4_endPart_21 : decode cX4_endPart 21 = .ok (.getfield 62, 3) := by decide +kernel
theorem dX4_endPart_24 : decode cX4_endPart 24 = .ok (.iconst (-1), 1) := by decide +kernel
theorem dX4_endPart_25 : decode cX4_endPart 25 = .ok (.invokevirtual 120, 3) := by decide +kernel
theorem dX4_endPart_28 : decode cX4_endPart 28 = .ok (.return_, 1) := by decide +kernel
set_option maxRecDepth 20000 in
theorem ggX4_closeParenthesis_X4_closeLambdas : GoodIn wsX4_closeParenthesis wsX4_closeLambdas := goodIn_r _ [12, 3, 13, 6, 14, 15, 16, 11, 17, 18, 19, 20, 21, 26, 27, 28, 29, 30, 31, 32, 33, 34, 35, 36, 37, 38, 39, 40] (by decide +kernel) (by decide +kernel)
set_option maxRecDepth 20000 in
theorem gX4_closeParenthesis_X4_closeLambdas : GoodIn wsX4_closeParenthesis (wsV RX4 111 RX4 yX4_closeLambdas wsX4_closeLambdas) := goodIn_app (goodIn_of _ (by decide +kernel)) ggX4_closeParenthesis_X4_closeLambdas
set_option maxRecDepth 20000 in
theorem ggX4_closeParenthesis_X4_endPart : GoodIn wsX4_closeParenthesis wsX4_endPart := goodIn_r _ [25, 1, 6, 14, 15, 16, 11, 17, 18, 19, 20, 21, 26, 27, 28, 29, 30, 31, 32, 33, 34, 35, 36, 37, 38, 39, 40] (by decide +kernel) (by decide +kernel)
set_option maxRecDepth 20000 in
theorem gX4_closeParenthesis_X4_endPart : GoodIn wsX4_closeParenthesis (wsV RX4 114 RX4 yX4_endPart wsX4_endPart) := goodIn_app (goodIn_of _ (by decide +kernel)) ggX4_closeParenthesis_X4_endPart
theorem dX4_closeParenthesis_0 : decode cX4_closeParenthesis 0 = .ok (.aload_n 0, 1) := by decide +kernel
theorem dX4_closeParenthesis_1 : decode cX4_closeParenthesis 1 = .ok (.getfield 65, 3) := by decide +kernel
theorem dX4_closeParenthesis_4 : decode cX4_closeParenthesis 4 = .ok (.ifCond .ne 9, 3) := by decide +kernel
theorem dX4_closeParenthesis_7 : decode cX4_closeParenthesis 7 = .ok (.aload_n 0, 1) := by decide +kernel
theorem dX4_closeParenthesis_8 : decode cX4_closeParenthesis 8 = .ok (.iconst 1, 1) := by decide +kernel
theorem dX4_closeParenthesis_9 : decode cX4_closeParenthesis 9 = .ok (.putfield 44, 3) := by decide +kernel
theorem dX4_closeParenthesis_12 : decode cX4_closeParenthesis 12 = .ok (.return_, 1) := by decide +kernel
theorem dX4_closeParenthesis_13 : decode cX4_closeParenthesis 13 = .ok (.aload_n 0, 1) := by decide +kernel
theorem dX4_closeParenthesis_14 : decode cX4_closeParenthesis 14 = .ok (.invokevirtual 111, 3) := by decide +kernel
theorem dX4_closeParenthesis_17 : decode cX4_closeParenthesis 17 = .ok (.aload_n 0, 1) := by decide +kernel
theorem dX4_closeParenthesis_18 : decode cX4_closeParenthesis 18 = .ok (.getfield 56, 3) := by decide +kernel
theorem dX4_closeParenthesis_21 : decode cX4_closeParenthesis 21 = .ok (.ifCond .ne 9, 3) := by decide +kernel
theorem dX4_closeParenthesis_24 : decode cX4_closeParenthesis 24 = .ok (.aload_n 0, 1) := by decide +kernel
theorem dX4_closeParenthesis_25 : decode cX4_closeParenthesis 25 = .ok (.iconst 1, 1) := by decide +kernel
theorem dX4_closeParenthesis_26 : decode cX4_closeParenthesis 26 = .ok (.putfield 44, 3) := by decide +kernel
theorem dX4_closeParenthesis_29 : decode cX4_closeParenthesis 29 = .ok (.return_, 1) := by decide +kernel
theorem dX4_closeParenthesis_30 : decode cX4_closeParenthesis 30 = .ok (.aload_n 0, 1) := by decide +kernel
theorem dX4_closeParenthesis_31 : decode cX4_closeParenthesis 31 = .ok (.dup, 1) := by decide +kernel
theorem dX4_closeParenthesis_32 : decode cX4_closeParenthesis 32 = .ok (.getfield 41, 3) := by decide +kernel
theorem dX4_closeParenthesis_35 : decode cX4_closeParenthesis 35 = .ok (.iconst 1, 1) := by decide +kernel
theorem dX4_closeParenthesis_36 : decode cX4_closeParenthesis 36 = .ok (.iadd, 1) := by decide +kernel
theorem dX4_closeParenthesis_37 : decode cX4_closeParenthesis 37 = .ok (.putfield 41, 3) := by decide +kernel
theorem dX4_closeParenthesis_40 : decode cX4_closeParenthesis 40 = .ok (.aload_n 0, 1) := by decide +kernel
theorem dX4_closeParenthesis_41 : decode cX4_closeParenthesis 41 = .ok (.dup, 1) := by decide +kernel
theorem dX4_closeParenthesis_42 : decode cX4_closeParenthesis 42 = .ok (.getfield 56, 3) := by decide +kernel
theorem dX4_closeParenthesis_45 : decode cX4_closeParenthesis 45 = .ok (.iconst 1, 1) := by decide +kernel
theorem dX4_closeParenthesis_46 : decode cX4_closeParenthesis 46 = .ok (.isub, 1) := by decide +kernel
theorem dX4_closeParenthesis_47 : decode cX4_closeParenthesis 47 = .ok (.putfield 56, 3) := by decide +kernel
theorem dX4_closeParenthesis_50 : decode cX4_closeParenthesis 50 = .ok (.aload_n 0, 1) := by decide +kernel
theorem dX4_closeParenthesis_51 : decode cX4_closeParenthesis 51 = .ok (.aload_n 0, 1) := by decide +kernel
theorem dX4_closeParenthesis_52 : decode cX4_closeParenthesis 52 = .ok (.getfield 24, 3) := by decide +kernel
theorem dX4_closeParenthesis_55 : decode cX4_closeParenthesis 55 = .ok (.aload_n 0, 1) := by decide +kernel
theorem dX4_closeParenthesis_56 : decode cX4_closeParenthesis 56 = .ok (.getfield 56, 3) := by decide +kernel
theorem dX4_closeParenthesis_59 : decode cX4_closeParenthesis 59 = .ok (.iaload, 1) := by decide +kernel
theorem dX4_closeParenthesis_60 : decode cX4_closeParenthesis 60 = .ok (.putfield 62, 3) := by decide +kernel
theorem dX4_closeParenthesis_63 : decode cX4_closeParenthesis 63 = .ok (.aload_n 0, 1) := by decide +kernel
theorem dX4_closeParenthesis_64 : decode cX4_closeParenthesis 64 = .ok (.aload_n 0, 1) := by decide +kernel
theorem dX4_closeParenthesis_65 : decode cX4_closeParenthesis 65 = .ok (.getfield 27, 3) := by decide +kernel
theorem dX4_closeParenthesis_68 : decode cX4_closeParenthesis 68 = .ok (.aload_n 0, 1) := by decide +kernel
theorem dX4_closeParenthesis_69 : decode cX4_closeParenthesis 69 = .ok (.getfield 56, 3) := by decide +kernel
theorem dX4_closeParenthesis_72 : decode cX4_closeParenthesis 72 = .ok (.iaload, 1) := by decide +kernel
theorem dX4_closeParenthesis_73 : decode cX4_closeParenthesis 73 = .ok (.putfield 65, 3) := by decide +kernel
theorem dX4_closeParenthesis_76 : decode cX4_closeParenthesis 76 = .ok (.aload_n 0, 1) := by decide +kernel
theorem dX4_closeParenthesis_77 : decode cX4_closeParenthesis 77 = .ok (.invokevirtual 114, 3) := by decide +kernel
theorem dX4_closeParenthesis_80 : decode cX4_closeParenthesis 80 = .ok (.return_, 1) := by decide +kernel
theorem dX4_slotOf_0 : decode cX4_slotOf 0 = .ok (.aload_n 0, 1) := by decide +kernel
theorem dX4_slotOf_1 : decode cX4_slotOf 1 = .ok (.getfield 56, 3) := by decide +kernel
theorem dX4_slotOf_4 : decode cX4_slotOf 4 = .ok (.iconst 1, 1) := by decide +kernel
theorem dX4_slotOf_5 : decode cX4_slotOf 5 = .ok (.isub, 1) := by decide +kernel
theorem dX4_slotOf_6 : decode cX4_slotOf 6 = .ok (.istore_n 2, 1) := by decide +kernel
theorem dX4_slotOf_7 : decode cX4_slotOf 7 = .ok (.iload_n 2, 1) := by decide +kernel
theorem dX4_slotOf_8 : decode cX4_slotOf 8 = .ok (.ifCond .lt 21, 3) := by decide +kernel
theorem dX4_slotOf_11 : decode cX4_slotOf 11 = .ok (.aload_n 0, 1) := by decide +kernel
theorem dX4_slotOf_12 : decode cX4_slotOf 12 = .ok (.getfield 21, 3) := by decide +kernel
theorem dX4_slotOf_15 : decode cX4_slotOf 15 = .ok (.iload_n 2, 1) := by decide +kernel
theorem dX4_slotOf_16 : decode cX4_slotOf 16 = .ok (.iaload, 1) := by decide +kernel
theorem dX4_slotOf_17 : decode cX4_slotOf 17 = .ok (.iload_n 1, 1) := by decide +kernel
theorem dX4_slotOf_18 : decode cX4_slotOf 18 = .ok (.if_icmp .ne 5, 3) := by decide +kernel
theorem dX4_slotOf_21 : decode cX4_slotOf 21 = .ok (.iload_n 2, 1) := by decide +kernel
theorem dX4_slotOf_22 : decode cX4_slotOf 22 = .ok (.ireturn, 1) := by decide +kernel
theorem dX4_slotOf_23 : decode cX4_slotOf 23 = .ok (.iinc 2 (-1), 3) := by decide +kernel
theorem dX4_slotOf_26 : decode cX4_slotOf 26 = .ok (.goto (-19), 3) := by decide +kernel
theorem dX4_slotOf_29 : decode cX4_slotOf 29 = .ok (.iconst (-1), 1) := by decide +kernel
theorem dX4_slotOf_30 : decode cX4_slotOf 30 = .ok (.ireturn, 1) := by decide +kernel
set_option maxRecDepth 20000 in
theorem ggX4_takeVariable_X4_nameSize : GoodIn wsX4_takeVariable wsX4_nameSize := goodIn_r _ [7, 2, 8, 9, 10, 11, 6, 12, 13, 14, 15, 16, 17, 18, 19, 53, 54, 55, 56, 57, 58, 59, 60, 61, 62, 63, 64, 65, 66, 67] (by decide +kernel) (by decide +kernel)
set_option maxRecDepth 20000 in
theorem gX4_takeVariable_X4_nameSize : GoodIn wsX4_takeVariable (wsV RX4 94 RX4 yX4_nameSize wsX4_nameSize) := goodIn_app (goodIn_of _ (by decide +kernel)) ggX4_takeVariable_X4_nameSize
set_option maxRecDepth 20000 in
theorem ggX4_takeVariable_X4_nameOf : GoodIn wsX4_takeVariable wsX4_nameOf := goodIn_r _ [23, 2, 9, 10, 11, 6, 12, 8, 13, 53, 54, 55, 56, 57, 58, 59, 60, 61, 62, 63, 64, 65, 66, 67] (by decide +kernel) (by decide +kernel)
set_option maxRecDepth 20000 in
theorem gX4_takeVariable_X4_nameOf : GoodIn wsX4_takeVariable (wsV RX4 101 RX4 yX4_nameOf wsX4_nameOf) := goodIn_app (goodIn_of _ (by decide +kernel)) ggX4_takeVariable_X4_nameOf
set_option maxRecDepth 20000 in
theorem ggX4_takeVariable_X4_slotOf : GoodIn wsX4_takeVariable wsX4_slotOf := goodIn_r _ [27, 28, 29, 53, 54, 55, 56, 57, 58, 59, 60, 61, 62, 63, 64, 65, 66, 67] (by decide +kernel) (by decide +kernel)
set_option maxRecDepth 20000 in
theorem gX4_takeVariable_X4_slotOf : GoodIn wsX4_takeVariable (wsV RX4 117 RX4 yX4_slotOf wsX4_slotOf) := goodIn_app (goodIn_of _ (by decide +kernel)) ggX4_takeVariable_X4_slotOf
set_option maxRecDepth 20000 in
theorem ggX4_takeVariable_X4_countName : GoodIn wsX4_takeVariable wsX4_countName := goodIn_r _ [33, 34, 53, 54, 55, 56, 57, 58, 59, 60, 61, 62, 63, 64, 65, 66, 67] (by decide +kernel) (by decide +kernel)
set_option maxRecDepth 20000 in
theorem gX4_takeVariable_X4_countName : GoodIn wsX4_takeVariable (wsV RX4 98 RX4 yX4_countName wsX4_countName) := goodIn_app (goodIn_of _ (by decide +kernel)) ggX4_takeVariable_X4_countName
set_option maxRecDepth 20000 in
theorem ggX4_takeVariable_X4_partIndex : GoodIn wsX4_takeVariable wsX4_partIndex := goodIn_r _ [38, 39, 40, 53, 54, 55, 56, 57, 58, 59, 60, 61, 62, 63, 64, 65, 66, 67] (by decide +kernel) (by decide +kernel)
set_option maxRecDepth 20000 in
theorem gX4_takeVariable_X4_partIndex : GoodIn wsX4_takeVariable (wsV RX4 108 RX4 yX4_partIndex wsX4_partIndex) := goodIn_app (goodIn_of _ (by decide +kernel)) ggX4_takeVariable_X4_partIndex
set_option maxRecDepth 20000 in
theorem ggX4_takeVariable_X4_addWord : GoodIn wsX4_takeVariable wsX4_addWord := goodIn_r _ [44, 45, 46, 47, 48, 53, 54, 55, 56, 57, 58, 59, 60, 61, 62, 63, 64, 65, 66, 67] (by decide +kernel) (by decide +kernel)
set_option maxRecDepth 20000 in
theorem gX4_takeVariable_X4_addWord : GoodIn wsX4_takeVariable (wsV RX4 120 RX4 yX4_addWord wsX4_addWord) := goodIn_app (goodIn_of _ (by decide +kernel)) ggX4_takeVariable_X4_addWord
set_option maxRecDepth 20000 in
theorem ggX4_takeVariable_X4_endPart : GoodIn wsX4_takeVariable wsX4_endPart := goodIn_r _ [52, 39, 40, 41, 42, 43, 6, 44, 45, 46, 47, 48, 53, 54, 55, 56, 57, 58, 59, 60, 61, 62, 63, 64, 65, 66, 67] (by decide +kernel) (by decide +kernel)
set_option maxRecDepth 20000 in
theorem gX4_takeVariable_X4_endPart : GoodIn wsX4_takeVariable (wsV RX4 114 RX4 yX4_endPart wsX4_endPart) := goodIn_app (goodIn_of _ (by decide +kernel)) ggX4_takeVariable_X4_endPart
theorem dX4_takeVariable_0 : decode cX4_takeVariable 0 = .ok (.aload_n 0, 1) := by decide +kernel
theorem dX4_takeVariable_1 : decode cX4_takeVariable 1 = .ok (.invokevirtual 94, 3) := by decide +kernel
theorem dX4_takeVariable_4 : decode cX4_takeVariable 4 = .ok (.istore_n 1, 1) := by decide +kernel
theorem dX4_takeVariable_5 : decode cX4_takeVariable 5 = .ok (.iload_n 1, 1) := by decide +kernel
theorem dX4_takeVariable_6 : decode cX4_takeVariable 6 = .ok (.iconst 4, 1) := by decide +kernel
theorem dX4_takeVariable_7 : decode cX4_takeVariable 7 = .ok (.if_icmp .le 9, 3) := by decide +kernel
theorem dX4_takeVariable_10 : decode cX4_takeVariable 10 = .ok (.aload_n 0, 1) := by decide +kernel
theorem dX4_takeVariable_11 : decode cX4_takeVariable 11 = .ok (.iconst 1, 1) := by decide +kernel
theorem dX4_takeVariable_12 : decode cX4_takeVariable 12 = .ok (.putfield 44, 3) := by decide +kernel
theorem dX4_takeVariable_15 : decode cX4_takeVariable 15 = .ok (.return_, 1) := by decide +kernel
theorem dX4_takeVariable_16 : decode cX4_takeVariable 16 = .ok (.aload_n 0, 1) := by decide +kernel
theorem dX4_takeVariable_17 : decode cX4_takeVariable 17 = .ok (.aload_n 0, 1) := by decide +kernel
theorem dX4_takeVariable_18 : decode cX4_takeVariable 18 = .ok (.iload_n 1, 1) := by decide +kernel
theorem dX4_takeVariable_19 : decode cX4_takeVariable 19 = .ok (.invokevirtual 101, 3) := by decide +kernel
theorem dX4_takeVariable_22 : decode cX4_takeVariable 22 = .ok (.invokevirtual 117, 3) := by decide +kernel
theorem dX4_takeVariable_25 : decode cX4_takeVariable 25 = .ok (.istore_n 2, 1) := by decide +kernel
theorem dX4_takeVariable_26 : decode cX4_takeVariable 26 = .ok (.iload_n 2, 1) := by decide +kernel
theorem dX4_takeVariable_27 : decode cX4_takeVariable 27 = .ok (.iconst (-1), 1) := by decide +kernel
theorem dX4_takeVariable_28 : decode cX4_takeVariable 28 = .ok (.if_icmp .ne 9, 3) := by decide +kernel
theorem dX4_takeVariable_31 : decode cX4_takeVariable 31 = .ok (.aload_n 0, 1) := by decide +kernel
theorem dX4_takeVariable_32 : decode cX4_takeVariable 32 = .ok (.iconst 2, 1) := by decide +kernel
theorem dX4_takeVariable_33 : decode cX4_takeVariable 33 = .ok (.putfield 44, 3) := by decide +kernel
theorem dX4_takeVariable_36 : decode cX4_takeVariable 36 = .ok (.return_, 1) := by decide +kernel
theorem dX4_takeVariable_37 : decode cX4_takeVariable 37 = .ok (.aload_n 0, 1) := by decide +kernel
theorem dX4_takeVariable_38 : decode cX4_takeVariable 38 = .ok (.aload_n 0, 1) := by decide +kernel
theorem dX4_takeVariable_39 : decode cX4_takeVariable 39 = .ok (.invokevirtual 98, 3) := by decide +kernel
theorem dX4_takeVariable_42 : decode cX4_takeVariable 42 = .ok (.putfield 44, 3) := by decide +kernel
theorem dX4_takeVariable_45 : decode cX4_takeVariable 45 = .ok (.aload_n 0, 1) := by decide +kernel
theorem dX4_takeVariable_46 : decode cX4_takeVariable 46 = .ok (.getfield 44, 3) := by decide +kernel
theorem dX4_takeVariable_49 : decode cX4_takeVariable 49 = .ok (.ifCond .eq 4, 3) := by decide +kernel
theorem dX4_takeVariable_52 : decode cX4_takeVariable 52 = .ok (.return_, 1) := by decide +kernel
theorem dX4_takeVariable_53 : decode cX4_takeVariable 53 = .ok (.aload_n 0, 1) := by decide +kernel
theorem dX4_takeVariable_54 : decode cX4_takeVariable 54 = .ok (.dup, 1) := by decide +kernel
theorem dX4_takeVariable_55 : decode cX4_takeVariable 55 = .ok (.getfield 41, 3) := by decide +kernel
theorem dX4_takeVariable_58 : decode cX4_takeVariable 58 = .ok (.iload_n 1, 1) := by decide +kernel
theorem dX4_takeVariable_59 : decode cX4_takeVariable 59 = .ok (.iadd, 1) := by decide +kernel
theorem dX4_takeVariable_60 : decode cX4_takeVariable 60 = .ok (.putfield 41, 3) := by decide +kernel
theorem dX4_takeVariable_63 : decode cX4_takeVariable 63 = .ok (.aload_n 0, 1) := by decide +kernel
theorem dX4_takeVariable_64 : decode cX4_takeVariable 64 = .ok (.iconst 0, 1) := by decide +kernel
theorem dX4_takeVariable_65 : decode cX4_takeVariable 65 = .ok (.aload_n 0, 1) := by decide +kernel
theorem dX4_takeVariable_66 : decode cX4_takeVariable 66 = .ok (.invokevirtual 108, 3) := by decide +kernel
theorem dX4_takeVariable_69 : decode cX4_takeVariable 69 = .ok (.iload_n 2, 1) := by decide +kernel
theorem dX4_takeVariable_70 : decode cX4_takeVariable 70 = .ok (.invokevirtual 120, 3) := by decide +kernel
theorem dX4_takeVariable_73 : decode cX4_takeVariable 73 = .ok (.aload_n 0, 1) := by decide +kernel
theorem dX4_takeVariable_74 : decode cX4_takeVariable 74 = .ok (.invokevirtual 114, 3) := by decide +kernel
theorem dX4_takeVariable_77 : decode cX4_takeVariable 77 = .ok (.return_, 1) := by decide +kernel
set_option maxRecDepth 20000 in
theorem ggX4_takeNext_X4_byteAt : GoodIn wsX4_takeNext wsX4_byteAt := goodIn_r _ [7, 8, 9, 86, 87, 88, 89, 90, 91, 92, 93, 94, 95, 96, 97, 98, 99, 100] (by decide +kernel) (by decide +kernel)
set_option maxRecDepth 20000 in
theorem gX4_takeNext_X4_byteAt : GoodIn wsX4_takeNext (wsV RX4 68 RX4 yX4_byteAt wsX4_byteAt) := goodIn_app (goodIn_of _ (by decide +kernel)) ggX4_takeNext_X4_byteAt
set_option maxRecDepth 20000 in
theorem ggX4_takeNext_X4_isBlank : GoodIn wsX4_takeNext wsX4_isBlank := goodIn_r _ [12] (by decide +kernel) (by decide +kernel)
set_option maxRecDepth 20000 in
theorem gX4_takeNext_X4_isBlank : GoodIn wsX4_takeNext (va_wsS RX4 72 yX4_isBlank wsX4_isBlank) := goodIn_app (goodIn_of _ (by decide +kernel)) ggX4_takeNext_X4_isBlank
set_option maxRecDepth 20000 in
theorem ggX4_takeNext_X4_openLambda : GoodIn wsX4_takeNext wsX4_openLambda := goodIn_r _ [16, 17, 2, 18, 1, 19, 20, 21, 6, 22, 8, 3, 4, 5, 7, 9, 10, 11, 12, 23, 24, 25, 26, 27, 28, 29, 30, 31, 32, 33, 34, 35, 36, 37, 38, 39, 40, 41, 42, 43, 44, 45, 46, 47, 48, 49, 86, 87, 88, 89, 90, 91, 92, 93, 94, 95, 96, 97, 98, 99, 100] (by decide +kernel) (by decide +kernel)
set_option maxRecDepth 20000 in
theorem gX4_takeNext_X4_openLambda : GoodIn wsX4_takeNext (wsV RX4 76 RX4 yX4_openLambda wsX4_openLambda) := goodIn_app (goodIn_of _ (by decide +kernel)) ggX4_takeNext_X4_openLambda
set_option maxRecDepth 20000 in
theorem ggX4_takeNext_X4_openParenthesis : GoodIn wsX4_takeNext wsX4_openParenthesis := goodIn_r _ [53, 18, 2, 1, 48, 17, 42, 43, 44, 6, 45, 46, 47, 49, 54, 55, 56, 57, 86, 87, 88, 89, 90, 91, 92, 93, 94, 95, 96, 97, 98, 99, 100] (by decide +kernel) (by decide +kernel)
set_option maxRecDepth 20000 in
theorem gX4_takeNext_X4_openParenthesis : GoodIn wsX4_takeNext (wsV RX4 79 RX4 yX4_openParenthesis wsX4_openParenthesis) := goodIn_app (goodIn_of _ (by decide +kernel)) ggX4_takeNext_X4_openParenthesis
set_option maxRecDepth 20000 in
theorem ggX4_takeNext_X4_closeParenthesis : GoodIn wsX4_takeNext wsX4_closeParenthesis := goodIn_r _ [61, 17, 2, 18, 1, 47, 48, 49, 62, 63, 64, 6, 65, 46, 66, 67, 68, 69, 70, 71, 72, 73, 74, 75, 76, 77, 86, 87, 88, 89, 90, 91, 92, 93, 94, 95, 96, 97, 98, 99, 100] (by decide +kernel) (by decide +kernel)
set_option maxRecDepth 20000 in
theorem gX4_takeNext_X4_closeParenthesis : GoodIn wsX4_takeNext (wsV RX4 82 RX4 yX4_closeParenthesis wsX4_closeParenthesis) := goodIn_app (goodIn_of _ (by decide +kernel)) ggX4_takeNext_X4_closeParenthesis
set_option maxRecDepth 20000 in
theorem ggX4_takeNext_X4_isLetter : GoodIn wsX4_takeNext wsX4_isLetter := goodIn_r _ [29] (by decide +kernel) (by decide +kernel)
set_option maxRecDepth 20000 in
theorem gX4_takeNext_X4_isLetter : GoodIn wsX4_takeNext (va_wsS RX4 85 yX4_isLetter wsX4_isLetter) := goodIn_app (goodIn_of _ (by decide +kernel)) ggX4_takeNext_X4_isLetter
set_option maxRecDepth 20000 in
theorem ggX4_takeNext_X4_takeVariable : GoodIn wsX4_takeNext wsX4_takeVariable := goodIn_r _ [81, 2, 1, 23, 24, 25, 6, 26, 8, 3, 4, 5, 7, 9, 27, 28, 29, 30, 31, 32, 38, 39, 40, 41, 82, 83, 84, 85, 18, 46, 33, 34, 35, 36, 37, 54, 55, 56, 57, 17, 48, 66, 67, 68, 69, 70, 71, 72, 73, 74, 75, 76, 77, 86, 87, 88, 89, 90, 91, 92, 93, 94, 95, 96, 97, 98, 99, 100] (by decide +kernel) (by decide +kernel)
set_option maxRecDepth 20000 in
theorem gX4_takeNext_X4_takeVariable : GoodIn wsX4_takeNext (wsV RX4 88 RX4 yX4_takeVariable wsX4_takeVariable) := goodIn_app (goodIn_of _ (by decide +kernel)) ggX4_takeNext_X4_takeVariable
theorem dX4_takeNext_0 : decode cX4_takeNext 0 = .ok (.aload_n 0, 1) := by decide +kernel
theorem dX4_takeNext_1 : decode cX4_takeNext 1 = .ok (.aload_n 0, 1) := by decide +kernel
theorem dX4_takeNext_2 : decode cX4_takeNext 2 = .ok (.getfield 41, 3) := by decide +kernel
theorem dX4_takeNext_5 : decode cX4_takeNext 5 = .ok (.invokevirtual 68, 3) := by decide +kernel
theorem dX4_takeNext_8 : decode cX4_takeNext 8 = .ok (.istore_n 1, 1) := by decide +kernel
theorem dX4_takeNext_9 : decode cX4_takeNext 9 = .ok (.iload_n 1, 1) := by decide +kernel
theorem dX4_takeNext_10 : decode cX4_takeNext 10 = .ok (.invokestatic 72, 3) := by decide +kernel
theorem dX4_takeNext_13 : decode cX4_takeNext 13 = .ok (.ifCond .eq 16, 3) := by decide +kernel
theorem dX4_takeNext_16 : decode cX4_takeNext 16 = .ok (.aload_n 0, 1) := by decide +kernel
theorem dX4_takeNext_17 : decode cX4_takeNext 17 = .ok (.dup, 1) := by decide +kernel
theorem dX4_takeNext_18 : decode cX4_takeNext 18 = .ok (.getfield 41, 3) := by decide +kernel
theorem dX4_takeNext_21 : decode cX4_takeNext 21 = .ok (.iconst 1, 1) := by decide +kernel
theorem dX4_takeNext_22 : decode cX4_takeNext 22 = .ok (.iadd, 1) := by decide +kernel
theorem dX4_takeNext_23 : decode cX4_takeNext 23 = .ok (.putfield 41, 3) := by decide +kernel
theorem dX4_takeNext_26 : decode cX4_takeNext 26 = .ok (.goto 61, 3) := by decide +kernel
theorem dX4_takeNext_29 : decode cX4_takeNext 29 = .ok (.iload_n 1, 1) := by decide +kernel
theorem dX4_takeNext_30 : decode cX4_takeNext 30 = .ok (.bipush 92, 2) := by decide +kernel
theorem dX4_takeNext_32 : decode cX4_takeNext 32 = .ok (.if_icmp .ne 10, 3) := by decide +kernel
theorem dX4_takeNext_35 : decode cX4_takeNext 35 = .ok (.aload_n 0, 1) := by decide +kernel
theorem dX4_takeNext_36 : decode cX4_takeNext 36 = .ok (.invokevirtual 76, 3) := by decide +kernel
theorem dX4_takeNext_39 : decode cX4_takeNext 39 = .ok (.goto 48, 3) := by decide +kernel
theorem dX4_takeNext_42 : decode cX4_takeNext 42 = .ok (.iload_n 1, 1) := by decide +kernel
theorem dX4_takeNext_43 : decode cX4_takeNext 43 = .ok (.bipush 40, 2) := by decide +kernel
theorem dX4_takeNext_45 : decode cX4_takeNext 45 = .ok (.if_icmp .ne 10, 3) := by decide +kernel
theorem dX4_takeNext_48 : decode cX4_takeNext 48 = .ok (.aload_n 0, 1) := by decide +kernel
theorem dX4_takeNext_49 : decode cX4_takeNext 49 = .ok (.invokevirtual 79, 3) := by decide +kernel
theorem dX4_takeNext_52 : decode cX4_takeNext 52 = .ok (.goto 35, 3) := by decide +kernel
theorem dX4_takeNext_55 : decode cX4_takeNext 55 = .ok (.iload_n 1, 1) := by decide +kernel
theorem dX4_takeNext_56 : decode cX4_takeNext 56 = .ok (.bipush 41, 2) := by decide +kernel
theorem dX4_takeNext_58 : decode cX4_takeNext 58 = .ok (.if_icmp .ne 10, 3) := by decide +kernel
theorem dX4_takeNext_61 : decode cX4_takeNext 61 = .ok (.aload_n 0, 1) := by decide +kernel
theorem dX4_takeNext_62 : decode cX4_takeNext 62 = .ok (.invokevirtual 82, 3) := by decide +kernel
theorem dX4_takeNext_65 : decode cX4_takeNext 65 = .ok (.goto 22, 3) := by decide +kernel
theorem dX4_takeNext_68 : decode cX4_takeNext 68 = .ok (.iload_n 1, 1) := by decide +kernel
theorem dX4_takeNext_69 : decode cX4_takeNext 69 = .ok (.invokestatic 85, 3) := by decide +kernel
theorem dX4_takeNext_72 : decode cX4_takeNext 72 = .ok (.ifCond .eq 10, 3) := by decide +kernel
theorem dX4_takeNext_75 : decode cX4_takeNext 75 = .ok (.aload_n 0, 1) := by decide +kernel
theorem dX4_takeNext_76 : decode cX4_takeNext 76 = .ok (.invokevirtual 88, 3) := by decide +kernel
theorem dX4_takeNext_79 : decode cX4_takeNext 79 = .ok (.goto 8, 3) := by decide +kernel
theorem dX4_takeNext_82 : decode cX4_takeNext 82 = .ok (.aload_n 0, 1) := by decide +kernel
theorem dX4_takeNext_83 : decode cX4_takeNext 83 = .ok (.iconst 1, 1) := by decide +kernel
theorem dX4_takeNext_84 : decode cX4_takeNext 84 = .ok (.putfield 44, 3) := by decide +kernel
theorem dX4_takeNext_87 : decode cX4_takeNext 87 = .ok (.return_, 1) := by decide +kernel
set_option maxRecDepth 20000 in
theorem ggX4_endText_X4_closeLambdas : GoodIn wsX4_endText wsX4_closeLambdas := goodIn_r _ [8, 3, 9, 10, 11, 12, 13, 7, 14, 15, 16, 17, 18, 19, 20, 21, 22, 23, 24, 25, 26, 27, 28, 29, 30, 31, 32, 33] (by decide +kernel) (by decide +kernel)
set_option maxRecDepth 20000 in
theorem gX4_endText_X4_closeLambdas : GoodIn wsX4_endText (wsV RX4 111 RX4 yX4_closeLambdas wsX4_closeLambdas) := goodIn_app (goodIn_of _ (by decide +kernel)) ggX4_endText_X4_closeLambdas
theorem dX4_endText_0 : decode cX4_endText 0 = .ok (.aload_n 0, 1) := by decide +kernel
theorem dX4_endText_1 : decode cX4_endText 1 = .ok (.getfield 65, 3) := by decide +kernel
theorem dX4_endText_4 : decode cX4_endText 4 = .ok (.ifCond .ne 9, 3) := by decide +kernel
theorem dX4_endText_7 : decode cX4_endText 7 = .ok (.aload_n 0, 1) := by decide +kernel
theorem dX4_endText_8 : decode cX4_endText 8 = .ok (.iconst 1, 1) := by decide +kernel
theorem dX4_endText_9 : decode cX4_endText 9 = .ok (.putfield 44, 3) := by decide +kernel
theorem dX4_endText_12 : decode cX4_endText 12 = .ok (.return_, 1) := by decide +kernel
theorem dX4_endText_13 : decode cX4_endText 13 = .ok (.aload_n 0, 1) := by decide +kernel
theorem dX4_endText_14 : decode cX4_endText 14 = .ok (.invokevirtual 111, 3) := by decide +kernel
theorem dX4_endText_17 : decode cX4_endText 17 = .ok (.aload_n 0, 1) := by decide +kernel
theorem dX4_endText_18 : decode cX4_endText 18 = .ok (.getfield 56, 3) := by decide +kernel
theorem dX4_endText_21 : decode cX4_endText 21 = .ok (.ifCond .le 8, 3) := by decide +kernel
theorem dX4_endText_24 : decode cX4_endText 24 = .ok (.aload_n 0, 1) := by decide +kernel
theorem dX4_endText_25 : decode cX4_endText 25 = .ok (.iconst 1, 1) := by decide +kernel
theorem dX4_endText_26 : decode cX4_endText 26 = .ok (.putfield 44, 3) := by decide +kernel
theorem dX4_endText_29 : decode cX4_endText 29 = .ok (.return_, 1) := by decide +kernel
set_option maxRecDepth 20000 in
theorem ggX4_scan_X4_begin : GoodIn wsX4_scan wsX4_begin := goodIn_r _ [8, 9, 1, 2, 10, 11, 12, 13, 14, 3, 98, 99, 100, 101, 102, 103, 104, 105, 106, 107, 108, 109, 110, 111, 112] (by decide +kernel) (by decide +kernel)
set_option maxRecDepth 20000 in
theorem gX4_scan_X4_begin : GoodIn wsX4_scan (wsV RX4 33 RX4 yX4_begin wsX4_begin) := goodIn_app (goodIn_of _ (by decide +kernel)) ggX4_scan_X4_begin
set_option maxRecDepth 20000 in
theorem ggX4_scan_X4_takeNext : GoodIn wsX4_scan wsX4_takeNext := goodIn_r _ [18, 2, 3, 19, 20, 21, 7, 22, 1, 9, 23, 24, 25, 26, 27, 28, 29, 14, 11, 30, 31, 32, 33, 34, 35, 36, 37, 38, 39, 40, 41, 42, 43, 44, 45, 46, 47, 12, 48, 49, 50, 51, 52, 53, 54, 55, 56, 57, 13, 58, 59, 60, 61, 62, 63, 64, 65, 66, 67, 68, 69, 70, 71, 72, 73, 74, 75, 76, 77, 78, 10, 79, 80, 81, 82, 83, 84, 85, 86, 87, 88, 89, 90, 91, 92, 93, 98, 99, 100, 101, 102, 103, 104, 105, 106, 107, 108, 109, 110, 111, 112] (by decide +kernel) (by decide +kernel)
set_option maxRecDepth 20000 in
theorem gX4_scan_X4_takeNext : GoodIn wsX4_scan (wsV RX4 47 RX4 yX4_takeNext wsX4_takeNext) := goodIn_app (goodIn_of _ (by decide +kernel)) ggX4_scan_X4_takeNext
set_option maxRecDepth 20000 in
theorem ggX4_scan_X4_endText : GoodIn wsX4_scan wsX4_endText := goodIn_r _ [97, 14, 3, 11, 71, 72, 73, 7, 74, 56, 13, 75, 76, 77, 78, 10, 79, 80, 81, 98, 99, 100, 101, 102, 103, 104, 105, 106, 107, 108, 109, 110, 111, 112] (by decide +kernel) (by decide +kernel)
set_option maxRecDepth 20000 in
theorem gX4_scan_X4_endText : GoodIn wsX4_scan (wsV RX4 50 RX4 yX4_endText wsX4_endText) := goodIn_app (goodIn_of _ (by decide +kernel)) ggX4_scan_X4_endText
theorem dX4_scan_0 : decode cX4_scan 0 = .ok (.aload_n 0, 1) := by decide +kernel
theorem dX4_scan_1 : decode cX4_scan 1 = .ok (.aload_n 1, 1) := by decide +kernel
theorem dX4_scan_2 : decode cX4_scan 2 = .ok (.iload_n 2, 1) := by decide +kernel
theorem dX4_scan_3 : decode cX4_scan 3 = .ok (.invokevirtual 33, 3) := by decide +kernel
theorem dX4_scan_6 : decode cX4_scan 6 = .ok (.iconst 0, 1) := by decide +kernel
theorem dX4_scan_7 : decode cX4_scan 7 = .ok (.istore_n 3, 1) := by decide +kernel
theorem dX4_scan_8 : decode cX4_scan 8 = .ok (.iload_n 3, 1) := by decide +kernel
theorem dX4_scan_9 : decode cX4_scan 9 = .ok (.aload_n 0, 1) := by decide +kernel
theorem dX4_scan_10 : decode cX4_scan 10 = .ok (.getfield 37, 3) := by decide +kernel
theorem dX4_scan_13 : decode cX4_scan 13 = .ok (.if_icmp .ge 31, 3) := by decide +kernel
theorem dX4_scan_16 : decode cX4_scan 16 = .ok (.aload_n 0, 1) := by decide +kernel
theorem dX4_scan_17 : decode cX4_scan 17 = .ok (.getfield 41, 3) := by decide +kernel
theorem dX4_scan_20 : decode cX4_scan 20 = .ok (.aload_n 0, 1) := by decide +kernel
theorem dX4_scan_21 : decode cX4_scan 21 = .ok (.getfield 37, 3) := by decide +kernel
theorem dX4_scan_24 : decode cX4_scan 24 = .ok (.if_icmp .ge 20, 3) := by decide +kernel
theorem dX4_scan_27 : decode cX4_scan 27 = .ok (.aload_n 0, 1) := by decide +kernel
theorem dX4_scan_28 : decode cX4_scan 28 = .ok (.getfield 44, 3) := by decide +kernel
theorem dX4_scan_31 : decode cX4_scan 31 = .ok (.ifCond .ne 13, 3) := by decide +kernel
theorem dX4_scan_34 : decode cX4_scan 34 = .ok (.aload_n 0, 1) := by decide +kernel
theorem dX4_scan_35 : decode cX4_scan 35 = .ok (.invokevirtual 47, 3) := by decide +kernel
theorem dX4_scan_38 : decode cX4_scan 38 = .ok (.iinc 3 1, 3) := by decide +kernel
theorem dX4_scan_41 : decode cX4_scan 41 = .ok (.goto (-33), 3) := by decide +kernel
theorem dX4_scan_44 : decode cX4_scan 44 = .ok (.aload_n 0, 1) := by decide +kernel
theorem dX4_scan_45 : decode cX4_scan 45 = .ok (.getfield 44, 3) := by decide +kernel
theorem dX4_scan_48 : decode cX4_scan 48 = .ok (.ifCond .ne 7, 3) := by decide +kernel
theorem dX4_scan_51 : decode cX4_scan 51 = .ok (.aload_n 0, 1) := by decide +kernel
theorem dX4_scan_52 : decode cX4_scan 52 = .ok (.invokevirtual 50, 3) := by decide +kernel
theorem dX4_scan_55 : decode cX4_scan 55 = .ok (.aload_n 0, 1) := by decide +kernel
theorem dX4_scan_56 : decode cX4_scan 56 = .ok (.getfield 44, 3) := by decide +kernel
theorem dX4_scan_59 : decode cX4_scan 59 = .ok (.ireturn, 1) := by decide +kernel
theorem dX4_place_0 : decode cX4_place 0 = .ok (.aload_n 0, 1) := by decide +kernel
theorem dX4_place_1 : decode cX4_place 1 = .ok (.getfield 41, 3) := by decide +kernel
theorem dX4_place_4 : decode cX4_place 4 = .ok (.ireturn, 1) := by decide +kernel
