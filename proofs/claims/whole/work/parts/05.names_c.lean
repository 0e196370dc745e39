noncomputable def wsX5_init : List Cond := .code yX5_init cX5_init 1 none :: ([.methodLink RX5 3 objectInit, .instanceMethod objectInit, .code objectInit ⟨#[0xb1]⟩ 1 none, .arrayClass .int, .fieldLink RX5 11 "SharedLambda$Trees" "forms" "[I", .fieldLink RX5 15 "SharedLambda$Trees" "lefts" "[I", .fieldLink RX5 18 "SharedLambda$Trees" "rights" "[I", .fieldLink RX5 21 "SharedLambda$Trees" "olders" "[I", .fieldLink RX5 24 "SharedLambda$Trees" "newest" "[I", .fieldLink RX5 27 "SharedLambda$Trees" "count" "I"] ++ wsX50)
noncomputable def wsX1_init : List Cond := .code yX1_init cX1_init 1 none :: ([.methodLink RX1 3 objectInit, .instanceMethod objectInit, .code objectInit ⟨#[0xb1]⟩ 1 none, .classLink RX1 9 RX5, .instantiable RX5 6, .initialized RX5, .fieldLink RX1 12 "SharedLambda$Context" "trees" "LSharedLambda$Trees;", .arrayClass .int, .fieldLink RX1 18 "SharedLambda$Context" "levels" "[I", .fieldLink RX1 22 "SharedLambda$Context" "trailForms" "[I", .fieldLink RX1 25 "SharedLambda$Context" "trailLevels" "[I", .fieldLink RX1 28 "SharedLambda$Context" "trailTrees" "[I", .fieldLink RX1 31 "SharedLambda$Context" "trailCounts" "[I", .instanceMethod yX5_init, .code yX5_init cX5_init 1 none, .methodLink RX5 3 objectInit, .fieldLink RX5 11 "SharedLambda$Trees" "forms" "[I", .fieldLink RX5 15 "SharedLambda$Trees" "lefts" "[I", .fieldLink RX5 18 "SharedLambda$Trees" "rights" "[I", .fieldLink RX5 21 "SharedLambda$Trees" "olders" "[I", .fieldLink RX5 24 "SharedLambda$Trees" "newest" "[I", .fieldLink RX5 27 "SharedLambda$Trees" "count" "I"] ++ wsX50 ++ wsX10)
noncomputable def wsX5_bucketOf : List Cond := .code yX5_bucketOf cX5_bucketOf 3 (some .int) :: ([])
noncomputable def wsX5_cut : List Cond := .code yX5_cut cX5_cut 2 none :: ([.fieldLink RX5 27 "SharedLambda$Trees" "count" "I", .fieldLink RX5 24 "SharedLambda$Trees" "newest" "[I", .fieldLink RX5 11 "SharedLambda$Trees" "forms" "[I", .fieldLink RX5 15 "SharedLambda$Trees" "lefts" "[I", .fieldLink RX5 18 "SharedLambda$Trees" "rights" "[I", .fieldLink RX5 21 "SharedLambda$Trees" "olders" "[I", .methodLink RX5 31 yX5_bucketOf, .static yX5_bucketOf, .initialized RX5, .code yX5_bucketOf cX5_bucketOf 3 (some .int)] ++ wsX50)
noncomputable def wsX1_clear : List Cond := .code yX1_clear cX1_clear 1 none :: ([.fieldLink RX1 34 "SharedLambda$Context" "depth" "I", .fieldLink RX1 38 "SharedLambda$Context" "changes" "I", .fieldLink RX1 12 "SharedLambda$Context" "trees" "LSharedLambda$Trees;", .methodLink RX1 41 yX5_cut, .instanceMethod yX5_cut, .selects RX5 yX5_cut yX5_cut, .initialized RX5, .code yX5_cut cX5_cut 2 none, .fieldLink RX5 27 "SharedLambda$Trees" "count" "I", .fieldLink RX5 24 "SharedLambda$Trees" "newest" "[I", .fieldLink RX5 11 "SharedLambda$Trees" "forms" "[I", .fieldLink RX5 15 "SharedLambda$Trees" "lefts" "[I", .fieldLink RX5 18 "SharedLambda$Trees" "rights" "[I", .fieldLink RX5 21 "SharedLambda$Trees" "olders" "[I", .methodLink RX5 31 yX5_bucketOf, .static yX5_bucketOf, .code yX5_bucketOf cX5_bucketOf 3 (some .int)] ++ wsX10 ++ wsX50)
noncomputable def wsX1_changes : List Cond := .code yX1_changes cX1_changes 1 (some .int) :: ([.fieldLink RX1 38 "SharedLambda$Context" "changes" "I"] ++ wsX10)
noncomputable def wsX1_level : List Cond := .code yX1_level cX1_level 2 (some .int) :: ([.fieldLink RX1 34 "SharedLambda$Context" "depth" "I", .fieldLink RX1 18 "SharedLambda$Context" "levels" "[I"] ++ wsX10)
noncomputable def wsX5_size : List Cond := .code yX5_size cX5_size 1 (some .int) :: ([.fieldLink RX5 27 "SharedLambda$Trees" "count" "I"] ++ wsX50)
noncomputable def wsX1_note : List Cond := .code yX1_note cX1_note 3 none :: ([.fieldLink RX1 38 "SharedLambda$Context" "changes" "I", .fieldLink RX1 22 "SharedLambda$Context" "trailForms" "[I", .fieldLink RX1 25 "SharedLambda$Context" "trailLevels" "[I", .fieldLink RX1 28 "SharedLambda$Context" "trailTrees" "[I", .fieldLink RX1 31 "SharedLambda$Context" "trailCounts" "[I", .fieldLink RX1 12 "SharedLambda$Context" "trees" "LSharedLambda$Trees;", .methodLink RX1 55 yX1_level, .instanceMethod yX1_level, .selects RX1 yX1_level yX1_level, .initialized RX1, .code yX1_level cX1_level 2 (some .int), .fieldLink RX1 34 "SharedLambda$Context" "depth" "I", .fieldLink RX1 18 "SharedLambda$Context" "levels" "[I", .methodLink RX1 78 yX5_size, .instanceMethod yX5_size, .selects RX5 yX5_size yX5_size, .initialized RX5, .code yX5_size cX5_size 1 (some .int), .fieldLink RX5 27 "SharedLambda$Trees" "count" "I"] ++ wsX10 ++ wsX50)
noncomputable def wsX1_set : List Cond := .code yX1_set cX1_set 3 none :: ([.fieldLink RX1 34 "SharedLambda$Context" "depth" "I", .fieldLink RX1 18 "SharedLambda$Context" "levels" "[I"] ++ wsX10)
noncomputable def wsX1_insert : List Cond := .code yX1_insert cX1_insert 3 none :: ([.fieldLink RX1 34 "SharedLambda$Context" "depth" "I", .fieldLink RX1 18 "SharedLambda$Context" "levels" "[I", .methodLink RX1 82 arraycopyName, .native arraycopyName, .static arraycopyName, .initialized "java/lang/System", .methodLink RX1 63 yX1_set, .instanceMethod yX1_set, .selects RX1 yX1_set yX1_set, .initialized RX1, .code yX1_set cX1_set 3 none] ++ wsX10)
noncomputable def wsX1_addBox_r1 : List Cond := [Cond.methodLink RX1 45 yX1_note, Cond.instanceMethod yX1_note, Cond.selects RX1 yX1_note yX1_note, Cond.initialized RX1, Cond.code yX1_note cX1_note 3 none, Cond.fieldLink RX1 38 "SharedLambda$Context" "changes" "I", Cond.fieldLink RX1 22 "SharedLambda$Context" "trailForms" "[I", Cond.fieldLink RX1 25 "SharedLambda$Context" "trailLevels" "[I", Cond.fieldLink RX1 28 "SharedLambda$Context" "trailTrees" "[I", Cond.fieldLink RX1 31 "SharedLambda$Context" "trailCounts" "[I", Cond.fieldLink RX1 12 "SharedLambda$Context" "trees" "LSharedLambda$Trees;", Cond.methodLink RX1 55 yX1_level, Cond.instanceMethod yX1_level, Cond.selects RX1 yX1_level yX1_level, Cond.code yX1_level cX1_level 2 (some .int), Cond.fieldLink RX1 34 "SharedLambda$Context" "depth" "I", Cond.fieldLink RX1 18 "SharedLambda$Context" "levels" "[I", Cond.methodLink RX1 78 yX5_size, Cond.instanceMethod yX5_size, Cond.selects RX5 yX5_size yX5_size, Cond.initialized RX5, Cond.code yX5_size cX5_size 1 (some .int), Cond.fieldLink RX5 27 "SharedLambda$Trees" "count" "I", Cond.methodLink RX1 49 yX1_insert]
noncomputable def wsX1_addBox_r2 : List Cond := [Cond.instanceMethod yX1_insert, Cond.selects RX1 yX1_insert yX1_insert, Cond.code yX1_insert cX1_insert 3 none, Cond.methodLink RX1 82 arraycopyName, Cond.native arraycopyName, Cond.static arraycopyName, Cond.initialized "java/lang/System", Cond.methodLink RX1 63 yX1_set, Cond.instanceMethod yX1_set, Cond.selects RX1 yX1_set yX1_set, Cond.code yX1_set cX1_set 3 none]
noncomputable def wsX1_addBox : List Cond := .code yX1_addBox cX1_addBox 2 none :: ((wsX1_addBox_r1 ++ wsX1_addBox_r2) ++ wsX10 ++ wsX50)
noncomputable def wsX1_delete : List Cond := .code yX1_delete cX1_delete 2 none :: ([.fieldLink RX1 34 "SharedLambda$Context" "depth" "I", .fieldLink RX1 18 "SharedLambda$Context" "levels" "[I", .methodLink RX1 82 arraycopyName, .native arraycopyName, .static arraycopyName, .initialized "java/lang/System"] ++ wsX10)
noncomputable def wsX1_drop_r1 : List Cond := [Cond.methodLink RX1 45 yX1_note, Cond.instanceMethod yX1_note, Cond.selects RX1 yX1_note yX1_note, Cond.initialized RX1, Cond.code yX1_note cX1_note 3 none, Cond.fieldLink RX1 38 "SharedLambda$Context" "changes" "I", Cond.fieldLink RX1 22 "SharedLambda$Context" "trailForms" "[I", Cond.fieldLink RX1 25 "SharedLambda$Context" "trailLevels" "[I", Cond.fieldLink RX1 28 "SharedLambda$Context" "trailTrees" "[I", Cond.fieldLink RX1 31 "SharedLambda$Context" "trailCounts" "[I", Cond.fieldLink RX1 12 "SharedLambda$Context" "trees" "LSharedLambda$Trees;", Cond.methodLink RX1 55 yX1_level, Cond.instanceMethod yX1_level, Cond.selects RX1 yX1_level yX1_level, Cond.code yX1_level cX1_level 2 (some .int), Cond.fieldLink RX1 34 "SharedLambda$Context" "depth" "I", Cond.fieldLink RX1 18 "SharedLambda$Context" "levels" "[I", Cond.methodLink RX1 78 yX5_size, Cond.instanceMethod yX5_size, Cond.selects RX5 yX5_size yX5_size, Cond.initialized RX5, Cond.code yX5_size cX5_size 1 (some .int), Cond.fieldLink RX5 27 "SharedLambda$Trees" "count" "I", Cond.methodLink RX1 52 yX1_delete]
noncomputable def wsX1_drop_r2 : List Cond := [Cond.instanceMethod yX1_delete, Cond.selects RX1 yX1_delete yX1_delete, Cond.code yX1_delete cX1_delete 2 none, Cond.methodLink RX1 82 arraycopyName, Cond.native arraycopyName, Cond.static arraycopyName, Cond.initialized "java/lang/System"]
noncomputable def wsX1_drop : List Cond := .code yX1_drop cX1_drop 2 none :: ((wsX1_drop_r1 ++ wsX1_drop_r2) ++ wsX10 ++ wsX50)
noncomputable def wsX5_add : List Cond := .code yX5_add cX5_add 6 (some .int) :: ([.fieldLink RX5 27 "SharedLambda$Trees" "count" "I", .fieldLink RX5 11 "SharedLambda$Trees" "forms" "[I", .fieldLink RX5 15 "SharedLambda$Trees" "lefts" "[I", .fieldLink RX5 18 "SharedLambda$Trees" "rights" "[I", .fieldLink RX5 21 "SharedLambda$Trees" "olders" "[I", .fieldLink RX5 24 "SharedLambda$Trees" "newest" "[I"] ++ wsX50)
noncomputable def wsX5_tree : List Cond := .code yX5_tree cX5_tree 7 (some .int) :: ([.fieldLink RX5 24 "SharedLambda$Trees" "newest" "[I", .fieldLink RX5 27 "SharedLambda$Trees" "count" "I", .fieldLink RX5 11 "SharedLambda$Trees" "forms" "[I", .fieldLink RX5 15 "SharedLambda$Trees" "lefts" "[I", .fieldLink RX5 18 "SharedLambda$Trees" "rights" "[I", .fieldLink RX5 21 "SharedLambda$Trees" "olders" "[I", .methodLink RX5 31 yX5_bucketOf, .static yX5_bucketOf, .initialized RX5, .code yX5_bucketOf cX5_bucketOf 3 (some .int), .methodLink RX5 35 yX5_add, .instanceMethod yX5_add, .selects RX5 yX5_add yX5_add, .code yX5_add cX5_add 6 (some .int)] ++ wsX50)
noncomputable def wsX1_pairUp_r1 : List Cond := [Cond.fieldLink RX1 12 "SharedLambda$Context" "trees" "LSharedLambda$Trees;", Cond.methodLink RX1 45 yX1_note, Cond.instanceMethod yX1_note, Cond.selects RX1 yX1_note yX1_note, Cond.initialized RX1, Cond.code yX1_note cX1_note 3 none, Cond.fieldLink RX1 38 "SharedLambda$Context" "changes" "I", Cond.fieldLink RX1 22 "SharedLambda$Context" "trailForms" "[I", Cond.fieldLink RX1 25 "SharedLambda$Context" "trailLevels" "[I", Cond.fieldLink RX1 28 "SharedLambda$Context" "trailTrees" "[I", Cond.fieldLink RX1 31 "SharedLambda$Context" "trailCounts" "[I", Cond.methodLink RX1 55 yX1_level, Cond.instanceMethod yX1_level, Cond.selects RX1 yX1_level yX1_level, Cond.code yX1_level cX1_level 2 (some .int), Cond.fieldLink RX1 34 "SharedLambda$Context" "depth" "I", Cond.fieldLink RX1 18 "SharedLambda$Context" "levels" "[I", Cond.methodLink RX1 78 yX5_size, Cond.instanceMethod yX5_size, Cond.selects RX5 yX5_size yX5_size, Cond.initialized RX5, Cond.code yX5_size cX5_size 1 (some .int), Cond.fieldLink RX5 27 "SharedLambda$Trees" "count" "I", Cond.methodLink RX1 59 yX5_tree]
noncomputable def wsX1_pairUp_r2 : List Cond := [Cond.instanceMethod yX5_tree, Cond.selects RX5 yX5_tree yX5_tree, Cond.code yX5_tree cX5_tree 7 (some .int), Cond.fieldLink RX5 24 "SharedLambda$Trees" "newest" "[I", Cond.fieldLink RX5 11 "SharedLambda$Trees" "forms" "[I", Cond.fieldLink RX5 15 "SharedLambda$Trees" "lefts" "[I", Cond.fieldLink RX5 18 "SharedLambda$Trees" "rights" "[I", Cond.fieldLink RX5 21 "SharedLambda$Trees" "olders" "[I", Cond.methodLink RX5 31 yX5_bucketOf, Cond.static yX5_bucketOf, Cond.code yX5_bucketOf cX5_bucketOf 3 (some .int), Cond.methodLink RX5 35 yX5_add, Cond.instanceMethod yX5_add, Cond.selects RX5 yX5_add yX5_add, Cond.code yX5_add cX5_add 6 (some .int), Cond.methodLink RX1 63 yX1_set, Cond.instanceMethod yX1_set, Cond.selects RX1 yX1_set yX1_set, Cond.code yX1_set cX1_set 3 none, Cond.methodLink RX1 52 yX1_delete, Cond.instanceMethod yX1_delete, Cond.selects RX1 yX1_delete yX1_delete, Cond.code yX1_delete cX1_delete 2 none, Cond.methodLink RX1 82 arraycopyName]
noncomputable def wsX1_pairUp_r3 : List Cond := [Cond.native arraycopyName, Cond.static arraycopyName, Cond.initialized "java/lang/System"]
noncomputable def wsX1_pairUp : List Cond := .code yX1_pairUp cX1_pairUp 2 none :: ((wsX1_pairUp_r1 ++ (wsX1_pairUp_r2 ++ wsX1_pairUp_r3)) ++ wsX10 ++ wsX50)
noncomputable def wsX5_form : List Cond := .code yX5_form cX5_form 2 (some .int) :: ([.fieldLink RX5 27 "SharedLambda$Trees" "count" "I", .fieldLink RX5 11 "SharedLambda$Trees" "forms" "[I"] ++ wsX50)
noncomputable def wsX5_left : List Cond := .code yX5_left cX5_left 2 (some .int) :: ([.fieldLink RX5 27 "SharedLambda$Trees" "count" "I", .fieldLink RX5 15 "SharedLambda$Trees" "lefts" "[I"] ++ wsX50)
noncomputable def wsX5_right : List Cond := .code yX5_right cX5_right 2 (some .int) :: ([.fieldLink RX5 27 "SharedLambda$Trees" "count" "I", .fieldLink RX5 18 "SharedLambda$Trees" "rights" "[I"] ++ wsX50)
noncomputable def wsX1_split_r1 : List Cond := [Cond.fieldLink RX1 12 "SharedLambda$Context" "trees" "LSharedLambda$Trees;", Cond.methodLink RX1 55 yX1_level, Cond.instanceMethod yX1_level, Cond.selects RX1 yX1_level yX1_level, Cond.initialized RX1, Cond.code yX1_level cX1_level 2 (some .int), Cond.fieldLink RX1 34 "SharedLambda$Context" "depth" "I", Cond.fieldLink RX1 18 "SharedLambda$Context" "levels" "[I", Cond.methodLink RX1 66 yX5_form, Cond.instanceMethod yX5_form, Cond.selects RX5 yX5_form yX5_form, Cond.initialized RX5, Cond.code yX5_form cX5_form 2 (some .int), Cond.fieldLink RX5 27 "SharedLambda$Trees" "count" "I", Cond.fieldLink RX5 11 "SharedLambda$Trees" "forms" "[I", Cond.methodLink RX1 45 yX1_note, Cond.instanceMethod yX1_note, Cond.selects RX1 yX1_note yX1_note, Cond.code yX1_note cX1_note 3 none, Cond.fieldLink RX1 38 "SharedLambda$Context" "changes" "I", Cond.fieldLink RX1 22 "SharedLambda$Context" "trailForms" "[I", Cond.fieldLink RX1 25 "SharedLambda$Context" "trailLevels" "[I", Cond.fieldLink RX1 28 "SharedLambda$Context" "trailTrees" "[I", Cond.fieldLink RX1 31 "SharedLambda$Context" "trailCounts" "[I"]
noncomputable def wsX1_split_r2 : List Cond := [Cond.methodLink RX1 78 yX5_size, Cond.instanceMethod yX5_size, Cond.selects RX5 yX5_size yX5_size, Cond.code yX5_size cX5_size 1 (some .int), Cond.methodLink RX1 69 yX5_left, Cond.instanceMethod yX5_left, Cond.selects RX5 yX5_left yX5_left, Cond.code yX5_left cX5_left 2 (some .int), Cond.fieldLink RX5 15 "SharedLambda$Trees" "lefts" "[I", Cond.methodLink RX1 63 yX1_set, Cond.instanceMethod yX1_set, Cond.selects RX1 yX1_set yX1_set, Cond.code yX1_set cX1_set 3 none, Cond.methodLink RX1 72 yX5_right, Cond.instanceMethod yX5_right, Cond.selects RX5 yX5_right yX5_right, Cond.code yX5_right cX5_right 2 (some .int), Cond.fieldLink RX5 18 "SharedLambda$Trees" "rights" "[I", Cond.methodLink RX1 49 yX1_insert, Cond.instanceMethod yX1_insert, Cond.selects RX1 yX1_insert yX1_insert, Cond.code yX1_insert cX1_insert 3 none, Cond.methodLink RX1 82 arraycopyName, Cond.native arraycopyName]
noncomputable def wsX1_split_r3 : List Cond := [Cond.static arraycopyName, Cond.initialized "java/lang/System"]
noncomputable def wsX1_split : List Cond := .code yX1_split cX1_split 3 (some .boolean) :: ((wsX1_split_r1 ++ (wsX1_split_r2 ++ wsX1_split_r3)) ++ wsX10 ++ wsX50)
noncomputable def wsX1_enterFan_r1 : List Cond := [Cond.fieldLink RX1 12 "SharedLambda$Context" "trees" "LSharedLambda$Trees;", Cond.methodLink RX1 45 yX1_note, Cond.instanceMethod yX1_note, Cond.selects RX1 yX1_note yX1_note, Cond.initialized RX1, Cond.code yX1_note cX1_note 3 none, Cond.fieldLink RX1 38 "SharedLambda$Context" "changes" "I", Cond.fieldLink RX1 22 "SharedLambda$Context" "trailForms" "[I", Cond.fieldLink RX1 25 "SharedLambda$Context" "trailLevels" "[I", Cond.fieldLink RX1 28 "SharedLambda$Context" "trailTrees" "[I", Cond.fieldLink RX1 31 "SharedLambda$Context" "trailCounts" "[I", Cond.methodLink RX1 55 yX1_level, Cond.instanceMethod yX1_level, Cond.selects RX1 yX1_level yX1_level, Cond.code yX1_level cX1_level 2 (some .int), Cond.fieldLink RX1 34 "SharedLambda$Context" "depth" "I", Cond.fieldLink RX1 18 "SharedLambda$Context" "levels" "[I", Cond.methodLink RX1 78 yX5_size, Cond.instanceMethod yX5_size, Cond.selects RX5 yX5_size yX5_size, Cond.initialized RX5, Cond.code yX5_size cX5_size 1 (some .int), Cond.fieldLink RX5 27 "SharedLambda$Trees" "count" "I", Cond.methodLink RX1 59 yX5_tree]
noncomputable def wsX1_enterFan_r2 : List Cond := [Cond.instanceMethod yX5_tree, Cond.selects RX5 yX5_tree yX5_tree, Cond.code yX5_tree cX5_tree 7 (some .int), Cond.fieldLink RX5 24 "SharedLambda$Trees" "newest" "[I", Cond.fieldLink RX5 11 "SharedLambda$Trees" "forms" "[I", Cond.fieldLink RX5 15 "SharedLambda$Trees" "lefts" "[I", Cond.fieldLink RX5 18 "SharedLambda$Trees" "rights" "[I", Cond.fieldLink RX5 21 "SharedLambda$Trees" "olders" "[I", Cond.methodLink RX5 31 yX5_bucketOf, Cond.static yX5_bucketOf, Cond.code yX5_bucketOf cX5_bucketOf 3 (some .int), Cond.methodLink RX5 35 yX5_add, Cond.instanceMethod yX5_add, Cond.selects RX5 yX5_add yX5_add, Cond.code yX5_add cX5_add 6 (some .int), Cond.methodLink RX1 63 yX1_set, Cond.instanceMethod yX1_set, Cond.selects RX1 yX1_set yX1_set, Cond.code yX1_set cX1_set 3 none]
noncomputable def wsX1_enterFan : List Cond := .code yX1_enterFan cX1_enterFan 3 none :: ((wsX1_enterFan_r1 ++ wsX1_enterFan_r2) ++ wsX10 ++ wsX50)
noncomputable def wsX1_leaveFan_r1 : List Cond := [Cond.fieldLink RX1 12 "SharedLambda$Context" "trees" "LSharedLambda$Trees;", Cond.methodLink RX1 55 yX1_level, Cond.instanceMethod yX1_level, Cond.selects RX1 yX1_level yX1_level, Cond.initialized RX1, Cond.code yX1_level cX1_level 2 (some .int), Cond.fieldLink RX1 34 "SharedLambda$Context" "depth" "I", Cond.fieldLink RX1 18 "SharedLambda$Context" "levels" "[I", Cond.methodLink RX1 66 yX5_form, Cond.instanceMethod yX5_form, Cond.selects RX5 yX5_form yX5_form, Cond.initialized RX5, Cond.code yX5_form cX5_form 2 (some .int), Cond.fieldLink RX5 27 "SharedLambda$Trees" "count" "I", Cond.fieldLink RX5 11 "SharedLambda$Trees" "forms" "[I", Cond.methodLink RX1 45 yX1_note, Cond.instanceMethod yX1_note, Cond.selects RX1 yX1_note yX1_note, Cond.code yX1_note cX1_note 3 none, Cond.fieldLink RX1 38 "SharedLambda$Context" "changes" "I", Cond.fieldLink RX1 22 "SharedLambda$Context" "trailForms" "[I", Cond.fieldLink RX1 25 "SharedLambda$Context" "trailLevels" "[I", Cond.fieldLink RX1 28 "SharedLambda$Context" "trailTrees" "[I", Cond.fieldLink RX1 31 "SharedLambda$Context" "trailCounts" "[I"]
noncomputable def wsX1_leaveFan_r2 : List Cond := [Cond.methodLink RX1 78 yX5_size, Cond.instanceMethod yX5_size, Cond.selects RX5 yX5_size yX5_size, Cond.code yX5_size cX5_size 1 (some .int), Cond.methodLink RX1 69 yX5_left, Cond.instanceMethod yX5_left, Cond.selects RX5 yX5_left yX5_left, Cond.code yX5_left cX5_left 2 (some .int), Cond.fieldLink RX5 15 "SharedLambda$Trees" "lefts" "[I", Cond.methodLink RX1 63 yX1_set, Cond.instanceMethod yX1_set, Cond.selects RX1 yX1_set yX1_set, Cond.code yX1_set cX1_set 3 none]
noncomputable def wsX1_leaveFan : List Cond := .code yX1_leaveFan cX1_leaveFan 4 (some .int) :: ((wsX1_leaveFan_r1 ++ wsX1_leaveFan_r2) ++ wsX10 ++ wsX50)
noncomputable def wsX1_undo_r1 : List Cond := [Cond.fieldLink RX1 38 "SharedLambda$Context" "changes" "I", Cond.fieldLink RX1 25 "SharedLambda$Context" "trailLevels" "[I", Cond.fieldLink RX1 28 "SharedLambda$Context" "trailTrees" "[I", Cond.fieldLink RX1 22 "SharedLambda$Context" "trailForms" "[I", Cond.fieldLink RX1 12 "SharedLambda$Context" "trees" "LSharedLambda$Trees;", Cond.fieldLink RX1 31 "SharedLambda$Context" "trailCounts" "[I", Cond.methodLink RX1 52 yX1_delete, Cond.instanceMethod yX1_delete, Cond.selects RX1 yX1_delete yX1_delete, Cond.initialized RX1, Cond.code yX1_delete cX1_delete 2 none, Cond.fieldLink RX1 34 "SharedLambda$Context" "depth" "I", Cond.fieldLink RX1 18 "SharedLambda$Context" "levels" "[I", Cond.methodLink RX1 82 arraycopyName, Cond.native arraycopyName, Cond.static arraycopyName, Cond.initialized "java/lang/System", Cond.methodLink RX1 49 yX1_insert, Cond.instanceMethod yX1_insert, Cond.selects RX1 yX1_insert yX1_insert, Cond.code yX1_insert cX1_insert 3 none, Cond.methodLink RX1 63 yX1_set, Cond.instanceMethod yX1_set, Cond.selects RX1 yX1_set yX1_set]
noncomputable def wsX1_undo_r2 : List Cond := [Cond.code yX1_set cX1_set 3 none, Cond.methodLink RX1 55 yX1_level, Cond.instanceMethod yX1_level, Cond.selects RX1 yX1_level yX1_level, Cond.code yX1_level cX1_level 2 (some .int), Cond.methodLink RX1 72 yX5_right, Cond.instanceMethod yX5_right, Cond.selects RX5 yX5_right yX5_right, Cond.initialized RX5, Cond.code yX5_right cX5_right 2 (some .int), Cond.fieldLink RX5 27 "SharedLambda$Trees" "count" "I", Cond.fieldLink RX5 18 "SharedLambda$Trees" "rights" "[I", Cond.methodLink RX1 41 yX5_cut, Cond.instanceMethod yX5_cut, Cond.selects RX5 yX5_cut yX5_cut, Cond.code yX5_cut cX5_cut 2 none, Cond.fieldLink RX5 24 "SharedLambda$Trees" "newest" "[I", Cond.fieldLink RX5 11 "SharedLambda$Trees" "forms" "[I", Cond.fieldLink RX5 15 "SharedLambda$Trees" "lefts" "[I", Cond.fieldLink RX5 21 "SharedLambda$Trees" "olders" "[I", Cond.methodLink RX5 31 yX5_bucketOf, Cond.static yX5_bucketOf, Cond.code yX5_bucketOf cX5_bucketOf 3 (some .int)]
noncomputable def wsX1_undo : List Cond := .code yX1_undo cX1_undo 3 none :: ((wsX1_undo_r1 ++ wsX1_undo_r2) ++ wsX10 ++ wsX50)
noncomputable def wsX1_undoTo_r1 : List Cond := [Cond.fieldLink RX1 38 "SharedLambda$Context" "changes" "I", Cond.methodLink RX1 75 yX1_undo, Cond.instanceMethod yX1_undo, Cond.selects RX1 yX1_undo yX1_undo, Cond.initialized RX1, Cond.code yX1_undo cX1_undo 3 none, Cond.fieldLink RX1 25 "SharedLambda$Context" "trailLevels" "[I", Cond.fieldLink RX1 28 "SharedLambda$Context" "trailTrees" "[I", Cond.fieldLink RX1 22 "SharedLambda$Context" "trailForms" "[I", Cond.fieldLink RX1 12 "SharedLambda$Context" "trees" "LSharedLambda$Trees;", Cond.fieldLink RX1 31 "SharedLambda$Context" "trailCounts" "[I", Cond.methodLink RX1 52 yX1_delete, Cond.instanceMethod yX1_delete, Cond.selects RX1 yX1_delete yX1_delete, Cond.code yX1_delete cX1_delete 2 none, Cond.fieldLink RX1 34 "SharedLambda$Context" "depth" "I", Cond.fieldLink RX1 18 "SharedLambda$Context" "levels" "[I", Cond.methodLink RX1 82 arraycopyName, Cond.native arraycopyName, Cond.static arraycopyName, Cond.initialized "java/lang/System", Cond.methodLink RX1 49 yX1_insert, Cond.instanceMethod yX1_insert, Cond.selects RX1 yX1_insert yX1_insert]
noncomputable def wsX1_undoTo_r2 : List Cond := [Cond.code yX1_insert cX1_insert 3 none, Cond.methodLink RX1 63 yX1_set, Cond.instanceMethod yX1_set, Cond.selects RX1 yX1_set yX1_set, Cond.code yX1_set cX1_set 3 none, Cond.methodLink RX1 55 yX1_level, Cond.instanceMethod yX1_level, Cond.selects RX1 yX1_level yX1_level, Cond.code yX1_level cX1_level 2 (some .int), Cond.methodLink RX1 72 yX5_right, Cond.instanceMethod yX5_right, Cond.selects RX5 yX5_right yX5_right, Cond.initialized RX5, Cond.code yX5_right cX5_right 2 (some .int), Cond.fieldLink RX5 27 "SharedLambda$Trees" "count" "I", Cond.fieldLink RX5 18 "SharedLambda$Trees" "rights" "[I", Cond.methodLink RX1 41 yX5_cut, Cond.instanceMethod yX5_cut, Cond.selects RX5 yX5_cut yX5_cut, Cond.code yX5_cut cX5_cut 2 none, Cond.fieldLink RX5 24 "SharedLambda$Trees" "newest" "[I", Cond.fieldLink RX5 11 "SharedLambda$Trees" "forms" "[I", Cond.fieldLink RX5 15 "SharedLambda$Trees" "lefts" "[I", Cond.fieldLink RX5 21 "SharedLambda$Trees" "olders" "[I"]
noncomputable def wsX1_undoTo_r3 : List Cond := [Cond.methodLink RX5 31 yX5_bucketOf, Cond.static yX5_bucketOf, Cond.code yX5_bucketOf cX5_bucketOf 3 (some .int)]
noncomputable def wsX1_undoTo : List Cond := .code yX1_undoTo cX1_undoTo 3 none :: ((wsX1_undoTo_r1 ++ (wsX1_undoTo_r2 ++ wsX1_undoTo_r3)) ++ wsX10 ++ wsX50)
noncomputable def wsX3_init : List Cond := .code yX3_init cX3_init 2 none :: ([.methodLink RX3 3 objectInit, .instanceMethod objectInit, .code objectInit ⟨#[0xb1]⟩ 1 none, .fieldLink RX3 9 "SharedLambda$Meetings" "graph" "LSharedLambda$Graph;"] ++ wsX30)
noncomputable def wsX3_clear : List Cond := .code yX3_clear cX3_clear 1 none :: ([.fieldLink RX3 15 "SharedLambda$Meetings" "betas" "I", .fieldLink RX3 19 "SharedLambda$Meetings" "annihilations" "I", .fieldLink RX3 22 "SharedLambda$Meetings" "passings" "I"] ++ wsX30)
noncomputable def wsX3_betas : List Cond := .code yX3_betas cX3_betas 1 (some .int) :: ([.fieldLink RX3 15 "SharedLambda$Meetings" "betas" "I"] ++ wsX30)
noncomputable def wsX3_annihilations : List Cond := .code yX3_annihilations cX3_annihilations 1 (some .int) :: ([.fieldLink RX3 19 "SharedLambda$Meetings" "annihilations" "I"] ++ wsX30)
noncomputable def wsX3_passings : List Cond := .code yX3_passings cX3_passings 1 (some .int) :: ([.fieldLink RX3 22 "SharedLambda$Meetings" "passings" "I"] ++ wsX30)
noncomputable def wsX3_sameIndex : List Cond := .code yX3_sameIndex cX3_sameIndex 3 (some .boolean) :: ([.fieldLink RX3 9 "SharedLambda$Meetings" "graph" "LSharedLambda$Graph;", .methodLink RX3 58 yX2_indexOf, .instanceMethod yX2_indexOf, .selects RX2 yX2_indexOf yX2_indexOf, .initialized RX2, .code yX2_indexOf cX2_indexOf 2 (some .int), .fieldLink RX2 15 "SharedLambda$Graph" "indexes" "[I"] ++ wsX30 ++ wsX20)
noncomputable def wsX3_isBeta : List Cond := .code yX3_isBeta cX3_isBeta 5 (some .boolean) :: ([.fieldLink RX3 9 "SharedLambda$Meetings" "graph" "LSharedLambda$Graph;", .methodLink RX3 45 yX2_kindOf, .instanceMethod yX2_kindOf, .selects RX2 yX2_kindOf yX2_kindOf, .initialized RX2, .code yX2_kindOf cX2_kindOf 2 (some .int), .fieldLink RX2 11 "SharedLambda$Graph" "kinds" "[I", .methodLink RX3 51 yX3_sameIndex, .instanceMethod yX3_sameIndex, .selects RX3 yX3_sameIndex yX3_sameIndex, .initialized RX3, .code yX3_sameIndex cX3_sameIndex 3 (some .boolean), .methodLink RX3 58 yX2_indexOf, .instanceMethod yX2_indexOf, .selects RX2 yX2_indexOf yX2_indexOf, .code yX2_indexOf cX2_indexOf 2 (some .int), .fieldLink RX2 15 "SharedLambda$Graph" "indexes" "[I"] ++ wsX30 ++ wsX20)
noncomputable def wsX3_isAnnihilation : List Cond := .code yX3_isAnnihilation cX3_isAnnihilation 4 (some .boolean) :: ([.fieldLink RX3 9 "SharedLambda$Meetings" "graph" "LSharedLambda$Graph;", .methodLink RX3 45 yX2_kindOf, .instanceMethod yX2_kindOf, .selects RX2 yX2_kindOf yX2_kindOf, .initialized RX2, .code yX2_kindOf cX2_kindOf 2 (some .int), .fieldLink RX2 11 "SharedLambda$Graph" "kinds" "[I", .methodLink RX3 51 yX3_sameIndex, .instanceMethod yX3_sameIndex, .selects RX3 yX3_sameIndex yX3_sameIndex, .initialized RX3, .code yX3_sameIndex cX3_sameIndex 3 (some .boolean), .methodLink RX3 58 yX2_indexOf, .instanceMethod yX2_indexOf, .selects RX2 yX2_indexOf yX2_indexOf, .code yX2_indexOf cX2_indexOf 2 (some .int), .fieldLink RX2 15 "SharedLambda$Graph" "indexes" "[I", .static yX7_isControl, .initialized RX7, .code yX7_isControl cX7_isControl 1 (some .boolean)] ++ wsX30 ++ wsX20)
noncomputable def wsX3_passes : List Cond := .code yX3_passes cX3_passes 3 (some .boolean) :: ([.fieldLink RX3 9 "SharedLambda$Meetings" "graph" "LSharedLambda$Graph;", .methodLink RX3 45 yX2_kindOf, .instanceMethod yX2_kindOf, .selects RX2 yX2_kindOf yX2_kindOf, .initialized RX2, .code yX2_kindOf cX2_kindOf 2 (some .int), .fieldLink RX2 11 "SharedLambda$Graph" "kinds" "[I", .static yX7_isControl, .initialized RX7, .code yX7_isControl cX7_isControl 1 (some .boolean), .methodLink RX3 58 yX2_indexOf, .instanceMethod yX2_indexOf, .selects RX2 yX2_indexOf yX2_indexOf, .code yX2_indexOf cX2_indexOf 2 (some .int), .fieldLink RX2 15 "SharedLambda$Graph" "indexes" "[I"] ++ wsX30 ++ wsX20)
noncomputable def wsX3_passedIndex : List Cond := .code yX3_passedIndex cX3_passedIndex 4 (some .int) :: ([.fieldLink RX3 9 "SharedLambda$Meetings" "graph" "LSharedLambda$Graph;", .methodLink RX3 58 yX2_indexOf, .instanceMethod yX2_indexOf, .selects RX2 yX2_indexOf yX2_indexOf, .initialized RX2, .code yX2_indexOf cX2_indexOf 2 (some .int), .fieldLink RX2 15 "SharedLambda$Graph" "indexes" "[I", .methodLink RX3 45 yX2_kindOf, .instanceMethod yX2_kindOf, .selects RX2 yX2_kindOf yX2_kindOf, .code yX2_kindOf cX2_kindOf 2 (some .int), .fieldLink RX2 11 "SharedLambda$Graph" "kinds" "[I"] ++ wsX30 ++ wsX20)
noncomputable def wsX3_hasRoom_r1 : List Cond := [Cond.fieldLink RX3 9 "SharedLambda$Meetings" "graph" "LSharedLambda$Graph;", Cond.methodLink RX3 45 yX2_kindOf, Cond.instanceMethod yX2_kindOf, Cond.selects RX2 yX2_kindOf yX2_kindOf, Cond.initialized RX2, Cond.code yX2_kindOf cX2_kindOf 2 (some .int), Cond.fieldLink RX2 11 "SharedLambda$Graph" "kinds" "[I", Cond.methodLink RX3 61 yX2_size, Cond.instanceMethod yX2_size, Cond.selects RX2 yX2_size yX2_size, Cond.code yX2_size cX2_size 1 (some .int), Cond.fieldLink RX2 34 "SharedLambda$Graph" "spares" "I", Cond.static yX7_otherPorts, Cond.initialized RX7, Cond.code yX7_otherPorts cX7_otherPorts 1 (some .int), Cond.methodLink RX3 68 yX3_passedIndex, Cond.instanceMethod yX3_passedIndex, Cond.selects RX3 yX3_passedIndex yX3_passedIndex, Cond.initialized RX3, Cond.code yX3_passedIndex cX3_passedIndex 4 (some .int), Cond.methodLink RX3 58 yX2_indexOf, Cond.instanceMethod yX2_indexOf, Cond.selects RX2 yX2_indexOf yX2_indexOf, Cond.code yX2_indexOf cX2_indexOf 2 (some .int)]
noncomputable def wsX3_hasRoom_r2 : List Cond := [Cond.fieldLink RX2 15 "SharedLambda$Graph" "indexes" "[I"]
noncomputable def wsX3_hasRoom : List Cond := .code yX3_hasRoom cX3_hasRoom 5 (some .boolean) :: ((wsX3_hasRoom_r1 ++ wsX3_hasRoom_r2) ++ wsX30 ++ wsX20)
noncomputable def wsX3_refusal_r1 : List Cond := [Cond.methodLink RX3 25 yX3_isBeta, Cond.instanceMethod yX3_isBeta, Cond.selects RX3 yX3_isBeta yX3_isBeta, Cond.initialized RX3, Cond.code yX3_isBeta cX3_isBeta 5 (some .boolean), Cond.fieldLink RX3 9 "SharedLambda$Meetings" "graph" "LSharedLambda$Graph;", Cond.methodLink RX3 45 yX2_kindOf, Cond.instanceMethod yX2_kindOf, Cond.selects RX2 yX2_kindOf yX2_kindOf, Cond.initialized RX2, Cond.code yX2_kindOf cX2_kindOf 2 (some .int), Cond.fieldLink RX2 11 "SharedLambda$Graph" "kinds" "[I", Cond.methodLink RX3 51 yX3_sameIndex, Cond.instanceMethod yX3_sameIndex, Cond.selects RX3 yX3_sameIndex yX3_sameIndex, Cond.code yX3_sameIndex cX3_sameIndex 3 (some .boolean), Cond.methodLink RX3 58 yX2_indexOf, Cond.instanceMethod yX2_indexOf, Cond.selects RX2 yX2_indexOf yX2_indexOf, Cond.code yX2_indexOf cX2_indexOf 2 (some .int), Cond.fieldLink RX2 15 "SharedLambda$Graph" "indexes" "[I", Cond.methodLink RX3 29 yX3_isAnnihilation, Cond.instanceMethod yX3_isAnnihilation, Cond.selects RX3 yX3_isAnnihilation yX3_isAnnihilation]
noncomputable def wsX3_refusal_r2 : List Cond := [Cond.code yX3_isAnnihilation cX3_isAnnihilation 4 (some .boolean), Cond.static yX7_isControl, Cond.initialized RX7, Cond.code yX7_isControl cX7_isControl 1 (some .boolean), Cond.methodLink RX3 32 yX3_passes, Cond.instanceMethod yX3_passes, Cond.selects RX3 yX3_passes yX3_passes, Cond.code yX3_passes cX3_passes 3 (some .boolean), Cond.methodLink RX3 35 yX3_hasRoom, Cond.instanceMethod yX3_hasRoom, Cond.selects RX3 yX3_hasRoom yX3_hasRoom, Cond.code yX3_hasRoom cX3_hasRoom 5 (some .boolean), Cond.methodLink RX3 61 yX2_size, Cond.instanceMethod yX2_size, Cond.selects RX2 yX2_size yX2_size, Cond.code yX2_size cX2_size 1 (some .int), Cond.fieldLink RX2 34 "SharedLambda$Graph" "spares" "I", Cond.static yX7_otherPorts, Cond.code yX7_otherPorts cX7_otherPorts 1 (some .int), Cond.methodLink RX3 68 yX3_passedIndex, Cond.instanceMethod yX3_passedIndex, Cond.selects RX3 yX3_passedIndex yX3_passedIndex, Cond.code yX3_passedIndex cX3_passedIndex 4 (some .int)]
noncomputable def wsX3_refusal : List Cond := .code yX3_refusal cX3_refusal 3 (some .int) :: ((wsX3_refusal_r1 ++ wsX3_refusal_r2) ++ wsX30 ++ wsX20)
noncomputable def wsX3_joinPorts_r1 : List Cond := [Cond.fieldLink RX3 9 "SharedLambda$Meetings" "graph" "LSharedLambda$Graph;", Cond.methodLink RX3 45 yX2_kindOf, Cond.instanceMethod yX2_kindOf, Cond.selects RX2 yX2_kindOf yX2_kindOf, Cond.initialized RX2, Cond.code yX2_kindOf cX2_kindOf 2 (some .int), Cond.fieldLink RX2 11 "SharedLambda$Graph" "kinds" "[I", Cond.static yX7_otherPorts, Cond.initialized RX7, Cond.code yX7_otherPorts cX7_otherPorts 1 (some .int), Cond.static yX7_portOf, Cond.code yX7_portOf cX7_portOf 2 (some .int), Cond.methodLink RX3 75 yX2_join, Cond.instanceMethod yX2_join, Cond.selects RX2 yX2_join yX2_join, Cond.code yX2_join cX2_join 3 none, Cond.methodLink RX2 55 yX2_across, Cond.instanceMethod yX2_across, Cond.selects RX2 yX2_across yX2_across, Cond.code yX2_across cX2_across 2 (some .int), Cond.fieldLink RX2 18 "SharedLambda$Graph" "wires" "[I", Cond.methodLink RX2 58 yX2_link, Cond.instanceMethod yX2_link, Cond.selects RX2 yX2_link yX2_link]
noncomputable def wsX3_joinPorts_r2 : List Cond := [Cond.code yX2_link cX2_link 3 none, Cond.static yX7_nodeAt, Cond.code yX7_nodeAt cX7_nodeAt 1 (some .int), Cond.methodLink RX2 51 yX2_rouse, Cond.instanceMethod yX2_rouse, Cond.selects RX2 yX2_rouse yX2_rouse, Cond.code yX2_rouse cX2_rouse 2 none, Cond.fieldLink RX2 38 "SharedLambda$Graph" "restlessCount" "I", Cond.fieldLink RX2 30 "SharedLambda$Graph" "isRestless" "[Z", Cond.fieldLink RX2 27 "SharedLambda$Graph" "restless" "[I", Cond.methodLink RX3 78 yX2_discard, Cond.instanceMethod yX2_discard, Cond.selects RX2 yX2_discard yX2_discard, Cond.code yX2_discard cX2_discard 3 none, Cond.fieldLink RX2 34 "SharedLambda$Graph" "spares" "I", Cond.fieldLink RX2 24 "SharedLambda$Graph" "populations" "[I", Cond.fieldLink RX2 21 "SharedLambda$Graph" "spare" "[I", Cond.methodLink RX2 44 yX2_kindOf]
noncomputable def wsX3_joinPorts : List Cond := .code yX3_joinPorts cX3_joinPorts 5 none :: ((wsX3_joinPorts_r1 ++ wsX3_joinPorts_r2) ++ wsX30 ++ wsX20)
noncomputable def wsX3_pass_r1 : List Cond := [Cond.fieldLink RX3 9 "SharedLambda$Meetings" "graph" "LSharedLambda$Graph;", Cond.fieldLink RX3 22 "SharedLambda$Meetings" "passings" "I", Cond.methodLink RX3 45 yX2_kindOf, Cond.instanceMethod yX2_kindOf, Cond.selects RX2 yX2_kindOf yX2_kindOf, Cond.initialized RX2, Cond.code yX2_kindOf cX2_kindOf 2 (some .int), Cond.fieldLink RX2 11 "SharedLambda$Graph" "kinds" "[I", Cond.static yX7_otherPorts, Cond.initialized RX7, Cond.code yX7_otherPorts cX7_otherPorts 1 (some .int), Cond.methodLink RX3 68 yX3_passedIndex, Cond.instanceMethod yX3_passedIndex, Cond.selects RX3 yX3_passedIndex yX3_passedIndex, Cond.initialized RX3, Cond.code yX3_passedIndex cX3_passedIndex 4 (some .int), Cond.methodLink RX3 58 yX2_indexOf, Cond.instanceMethod yX2_indexOf, Cond.selects RX2 yX2_indexOf yX2_indexOf, Cond.code yX2_indexOf cX2_indexOf 2 (some .int), Cond.fieldLink RX2 15 "SharedLambda$Graph" "indexes" "[I", Cond.methodLink RX3 82 yX2_make, Cond.instanceMethod yX2_make, Cond.selects RX2 yX2_make yX2_make]
noncomputable def wsX3_pass_r2 : List Cond := [Cond.code yX2_make cX2_make 4 (some .int), Cond.fieldLink RX2 34 "SharedLambda$Graph" "spares" "I", Cond.fieldLink RX2 21 "SharedLambda$Graph" "spare" "[I", Cond.fieldLink RX2 24 "SharedLambda$Graph" "populations" "[I", Cond.static yX7_portOf, Cond.code yX7_portOf cX7_portOf 2 (some .int), Cond.methodLink RX3 85 yX2_replace, Cond.instanceMethod yX2_replace, Cond.selects RX2 yX2_replace yX2_replace, Cond.code yX2_replace cX2_replace 3 none, Cond.methodLink RX2 55 yX2_across, Cond.instanceMethod yX2_across, Cond.selects RX2 yX2_across yX2_across, Cond.code yX2_across cX2_across 2 (some .int), Cond.fieldLink RX2 18 "SharedLambda$Graph" "wires" "[I", Cond.methodLink RX2 58 yX2_link, Cond.instanceMethod yX2_link, Cond.selects RX2 yX2_link yX2_link, Cond.code yX2_link cX2_link 3 none, Cond.static yX7_nodeAt, Cond.code yX7_nodeAt cX7_nodeAt 1 (some .int), Cond.methodLink RX2 51 yX2_rouse, Cond.instanceMethod yX2_rouse, Cond.selects RX2 yX2_rouse yX2_rouse]
noncomputable def wsX3_pass_r3 : List Cond := [Cond.code yX2_rouse cX2_rouse 2 none, Cond.fieldLink RX2 38 "SharedLambda$Graph" "restlessCount" "I", Cond.fieldLink RX2 30 "SharedLambda$Graph" "isRestless" "[Z", Cond.fieldLink RX2 27 "SharedLambda$Graph" "restless" "[I", Cond.methodLink RX3 88 yX2_link, Cond.methodLink RX3 78 yX2_discard, Cond.instanceMethod yX2_discard, Cond.selects RX2 yX2_discard yX2_discard, Cond.code yX2_discard cX2_discard 3 none, Cond.methodLink RX2 44 yX2_kindOf]
noncomputable def wsX3_pass : List Cond := .code yX3_pass cX3_pass 10 none :: ((wsX3_pass_r1 ++ (wsX3_pass_r2 ++ wsX3_pass_r3)) ++ wsX30 ++ wsX20)
noncomputable def wsX3_act_r1 : List Cond := [Cond.fieldLink RX3 15 "SharedLambda$Meetings" "betas" "I", Cond.fieldLink RX3 19 "SharedLambda$Meetings" "annihilations" "I", Cond.methodLink RX3 25 yX3_isBeta, Cond.instanceMethod yX3_isBeta, Cond.selects RX3 yX3_isBeta yX3_isBeta, Cond.initialized RX3, Cond.code yX3_isBeta cX3_isBeta 5 (some .boolean), Cond.fieldLink RX3 9 "SharedLambda$Meetings" "graph" "LSharedLambda$Graph;", Cond.methodLink RX3 45 yX2_kindOf, Cond.instanceMethod yX2_kindOf, Cond.selects RX2 yX2_kindOf yX2_kindOf, Cond.initialized RX2, Cond.code yX2_kindOf cX2_kindOf 2 (some .int), Cond.fieldLink RX2 11 "SharedLambda$Graph" "kinds" "[I", Cond.methodLink RX3 51 yX3_sameIndex, Cond.instanceMethod yX3_sameIndex, Cond.selects RX3 yX3_sameIndex yX3_sameIndex, Cond.code yX3_sameIndex cX3_sameIndex 3 (some .boolean), Cond.methodLink RX3 58 yX2_indexOf, Cond.instanceMethod yX2_indexOf, Cond.selects RX2 yX2_indexOf yX2_indexOf, Cond.code yX2_indexOf cX2_indexOf 2 (some .int), Cond.fieldLink RX2 15 "SharedLambda$Graph" "indexes" "[I", Cond.methodLink RX3 38 yX3_joinPorts]
noncomputable def wsX3_act_r2 : List Cond := [Cond.instanceMethod yX3_joinPorts, Cond.selects RX3 yX3_joinPorts yX3_joinPorts, Cond.code yX3_joinPorts cX3_joinPorts 5 none, Cond.static yX7_otherPorts, Cond.initialized RX7, Cond.code yX7_otherPorts cX7_otherPorts 1 (some .int), Cond.static yX7_portOf, Cond.code yX7_portOf cX7_portOf 2 (some .int), Cond.methodLink RX3 75 yX2_join, Cond.instanceMethod yX2_join, Cond.selects RX2 yX2_join yX2_join, Cond.code yX2_join cX2_join 3 none, Cond.methodLink RX2 55 yX2_across, Cond.instanceMethod yX2_across, Cond.selects RX2 yX2_across yX2_across, Cond.code yX2_across cX2_across 2 (some .int), Cond.fieldLink RX2 18 "SharedLambda$Graph" "wires" "[I", Cond.methodLink RX2 58 yX2_link, Cond.instanceMethod yX2_link, Cond.selects RX2 yX2_link yX2_link, Cond.code yX2_link cX2_link 3 none, Cond.static yX7_nodeAt, Cond.code yX7_nodeAt cX7_nodeAt 1 (some .int), Cond.methodLink RX2 51 yX2_rouse]
noncomputable def wsX3_act_r3 : List Cond := [Cond.instanceMethod yX2_rouse, Cond.selects RX2 yX2_rouse yX2_rouse, Cond.code yX2_rouse cX2_rouse 2 none, Cond.fieldLink RX2 38 "SharedLambda$Graph" "restlessCount" "I", Cond.fieldLink RX2 30 "SharedLambda$Graph" "isRestless" "[Z", Cond.fieldLink RX2 27 "SharedLambda$Graph" "restless" "[I", Cond.methodLink RX3 78 yX2_discard, Cond.instanceMethod yX2_discard, Cond.selects RX2 yX2_discard yX2_discard, Cond.code yX2_discard cX2_discard 3 none, Cond.fieldLink RX2 34 "SharedLambda$Graph" "spares" "I", Cond.fieldLink RX2 24 "SharedLambda$Graph" "populations" "[I", Cond.fieldLink RX2 21 "SharedLambda$Graph" "spare" "[I", Cond.methodLink RX2 44 yX2_kindOf, Cond.methodLink RX3 29 yX3_isAnnihilation, Cond.instanceMethod yX3_isAnnihilation, Cond.selects RX3 yX3_isAnnihilation yX3_isAnnihilation, Cond.code yX3_isAnnihilation cX3_isAnnihilation 4 (some .boolean), Cond.static yX7_isControl, Cond.code yX7_isControl cX7_isControl 1 (some .boolean), Cond.methodLink RX3 32 yX3_passes, Cond.instanceMethod yX3_passes, Cond.selects RX3 yX3_passes yX3_passes, Cond.code yX3_passes cX3_passes 3 (some .boolean)]
noncomputable def wsX3_act_r4 : List Cond := [Cond.methodLink RX3 42 yX3_pass, Cond.instanceMethod yX3_pass, Cond.selects RX3 yX3_pass yX3_pass, Cond.code yX3_pass cX3_pass 10 none, Cond.fieldLink RX3 22 "SharedLambda$Meetings" "passings" "I", Cond.methodLink RX3 68 yX3_passedIndex, Cond.instanceMethod yX3_passedIndex, Cond.selects RX3 yX3_passedIndex yX3_passedIndex, Cond.code yX3_passedIndex cX3_passedIndex 4 (some .int), Cond.methodLink RX3 82 yX2_make, Cond.instanceMethod yX2_make, Cond.selects RX2 yX2_make yX2_make, Cond.code yX2_make cX2_make 4 (some .int), Cond.methodLink RX3 85 yX2_replace, Cond.instanceMethod yX2_replace, Cond.selects RX2 yX2_replace yX2_replace, Cond.code yX2_replace cX2_replace 3 none, Cond.methodLink RX3 88 yX2_link]
noncomputable def wsX3_act : List Cond := .code yX3_act cX3_act 3 none :: ((wsX3_act_r1 ++ (wsX3_act_r2 ++ (wsX3_act_r3 ++ wsX3_act_r4))) ++ wsX30 ++ wsX20)
theorem dX5_init_0 : decode cX5_init 0 = .ok (.aload_n 0, 1) := by decide +kernel
theorem dX5_init_1 : decode cX5_init 1 = .ok (.invokespecial 3, 3) := by decide +kernel
theorem dX5_init_4 : decode cX5_init 4 = .ok (.aload_n 0, 1) := by decide +kernel
theorem dX5_init_5 : decode cX5_init 5 = .ok (.sipush 4002, 3) := by decide +kernel
theorem dX5_init_8 : decode cX5_init 8 = .ok (.newarray .int, 2) := by decide +kernel
theorem dX5_init_10 : decode cX5_init 10 = .ok (.putfield 11, 3) := by decide +kernel
theorem dX5_init_13 : decode cX5_init 13 = .ok (.aload_n 0, 1) := by decide +kernel
theorem dX5_init_14 : decode cX5_init 14 = .ok (.sipush 4002, 3) := by decide +kernel
theorem dX5_init_17 : decode cX5_init 17 = .ok (.newarray .int, 2) := by decide +kernel
theorem dX5_init_19 : decode cX5_init 19 = .ok (.putfield 15, 3) := by decide +kernel
theorem dX5_init_22 : decode cX5_init 22 = .ok (.aload_n 0, 1) := by decide +kernel
theorem dX5_init_23 : decode cX5_init 23 = .ok (.sipush 4002, 3) := by decide +kernel
theorem dX5_init_26 : decode cX5_init 26 = .ok (.newarray .int, 2) := by decide +kernel
theorem dX5_init_28 : decode cX5_init 28 = .ok (.putfield 18, 3) := by decide +kernel
theorem dX5_init_31 : decode cX5_init 31 = .ok (.aload_n 0, 1) := by decide +kernel
theorem dX5_init_32 : decode cX5_init 32 = .ok (.sipush 4002, 3) := by decide +kernel
theorem dX5_init_35 : decode cX5_init 35 = .ok (.newarray .int, 2) := by decide +kernel
theorem dX5_init_37 : decode cX5_init 37 = .ok (.putfield 21, 3) := by decide +kernel
theorem dX5_init_40 : decode cX5_init 40 = .ok (.aload_n 0, 1) := by decide +kernel
theorem dX5_init_41 : decode cX5_init 41 = .ok (.sipush 4096, 3) := by decide +kernel
theorem dX5_init_44 : decode cX5_init 44 = .ok (.newarray .int, 2) := by decide +kernel
theorem dX5_init_46 : decode cX5_init 46 = .ok (.putfield 24, 3) := by decide +kernel
theorem dX5_init_49 : decode cX5_init 49 = .ok (.aload_n 0, 1) := by decide +kernel
theorem dX5_init_50 : decode cX5_init 50 = .ok (.iconst 1, 1) := by decide +kernel
theorem dX5_init_51 : decode cX5_init 51 = .ok (.putfield 27, 3) := by decide +kernel
theorem dX5_init_54 : decode cX5_init 54 = .ok (.return_, 1) := by decide +kernel
set_option maxRecDepth 20000 in
theorem ggX1_init_X5_init : GoodIn wsX1_init wsX5_init := goodIn_r _ [15, 16, 2, 3, 8, 17, 18, 19, 20, 21, 22, 23, 24, 25, 26, 27, 28] (by decide +kernel) (by decide +kernel)
set_option maxRecDepth 20000 in
theorem gX1_init_X5_init_n11 : GoodIn wsX1_init (wsX5_init) := ggX1_init_X5_init
theorem dX1_init_0 : decode cX1_init 0 = .ok (.aload_n 0, 1) := by decide +kernel
theorem dX1_init_1 : decode cX1_init 1 = .ok (.invokespecial 3, 3) := by decide +kernel
theorem dX1_init_4 : decode cX1_init 4 = .ok (.aload_n 0, 1) := by decide +kernel
theorem dX1_init_5 : decode cX1_init 5 = .ok (.new 9, 3) := by decide +kernel
theorem dX1_init_8 : decode cX1_init 8 = .ok (.dup, 1) := by decide +kernel
theorem dX1_init_9 : decode cX1_init 9 = .ok (.invokespecial 11, 3) := by decide +kernel
theorem dX1_init_12 : decode cX1_init 12 = .ok (.putfield 12, 3) := by decide +kernel
theorem dX1_init_15 : decode cX1_init 15 = .ok (.aload_n 0, 1) := by decide +kernel
theorem dX1_init_16 : decode cX1_init 16 = .ok (.sipush 4067, 3) := by decide +kernel
theorem dX1_init_19 : decode cX1_init 19 = .ok (.newarray .int, 2) := by decide +kernel
theorem dX1_init_21 : decode cX1_init 21 = .ok (.putfield 18, 3) := by decide +kernel
theorem dX1_init_24 : decode cX1_init 24 = .ok (.aload_n 0, 1) := by decide +kernel
theorem dX1_init_25 : decode cX1_init 25 = .ok (.sipush 4000, 3) := by decide +kernel
theorem dX1_init_28 : decode cX1_init 28 = .ok (.newarray .int, 2) := by decide +kernel
theorem dX1_init_30 : decode cX1_init 30 = .ok (.putfield 22, 3) := by decide +kernel
theorem dX1_init_33 : decode cX1_init 33 = .ok (.aload_n 0, 1) := by decide +kernel
theorem dX1_init_34 : decode cX1_init 34 = .ok (.sipush 4000, 3) := by decide +kernel
theorem dX1_init_37 : decode cX1_init 37 = .ok (.newarray .int, 2) := by decide +kernel
theorem dX1_init_39 : decode cX1_init 39 = .ok (.putfield 25, 3) := by decide +kernel
theorem dX1_init_42 : decode cX1_init 42 = .ok (.aload_n 0, 1) := by decide +kernel
theorem dX1_init_43 : decode cX1_init 43 = .ok (.sipush 4000, 3) := by decide +kernel
theorem dX1_init_46 : decode cX1_init 46 = .ok (.newarray .int, 2) := by decide +kernel
theorem dX1_init_48 : decode cX1_init 48 = .ok (.putfield 28, 3) := by decide +kernel
theorem dX1_init_51 : decode cX1_init 51 = .ok (.aload_n 0, 1) := by decide +kernel
theorem dX1_init_52 : decode cX1_init 52 = .ok (.sipush 4000, 3) := by decide +kernel
theorem dX1_init_55 : decode cX1_init 55 = .ok (.newarray .int, 2) := by decide +kernel
theorem dX1_init_57 : decode cX1_init 57 = .ok (.putfield 31, 3) := by decide +kernel
theorem dX1_init_60 : decode cX1_init 60 = .ok (.return_, 1) := by decide +kernel
theorem dX5_bucketOf_0 : decode cX5_bucketOf 0 = .ok (.iload_n 0, 1) := by decide +kernel
theorem dX5_bucketOf_1 : decode cX5_bucketOf 1 = .ok (.sipush 1009, 3) := by decide +kernel
theorem dX5_bucketOf_4 : decode cX5_bucketOf 4 = .ok (.imul, 1) := by decide +kernel
theorem dX5_bucketOf_5 : decode cX5_bucketOf 5 = .ok (.iload_n 1, 1) := by decide +kernel
theorem dX5_bucketOf_6 : decode cX5_bucketOf 6 = .ok (.bipush 31, 2) := by decide +kernel
theorem dX5_bucketOf_8 : decode cX5_bucketOf 8 = .ok (.imul, 1) := by decide +kernel
theorem dX5_bucketOf_9 : decode cX5_bucketOf 9 = .ok (.iadd, 1) := by decide +kernel
theorem dX5_bucketOf_10 : decode cX5_bucketOf 10 = .ok (.iload_n 2, 1) := by decide +kernel
theorem dX5_bucketOf_11 : decode cX5_bucketOf 11 = .ok (.sipush 577, 3) := by decide +kernel
theorem dX5_bucketOf_14 : decode cX5_bucketOf 14 = .ok (.imul, 1) := by decide +kernel
theorem dX5_bucketOf_15 : decode cX5_bucketOf 15 = .ok (.iadd, 1) := by decide +kernel
theorem dX5_bucketOf_16 : decode cX5_bucketOf 16 = .ok (.sipush 4095, 3) := by decide +kernel
theorem dX5_bucketOf_19 : decode cX5_bucketOf 19 = .ok (.iand, 1) := by decide +kernel
theorem dX5_bucketOf_20 : decode cX5_bucketOf 20 = .ok (.ireturn, 1) := by decide +kernel
set_option maxRecDepth 20000 in
theorem ggX5_cut_X5_bucketOf : GoodIn wsX5_cut wsX5_bucketOf := goodIn_r _ [10] (by decide +kernel) (by decide +kernel)
set_option maxRecDepth 20000 in
theorem gX5_cut_X5_bucketOf : GoodIn wsX5_cut (va_wsS RX5 31 yX5_bucketOf wsX5_bucketOf) := goodIn_app (goodIn_of _ (by decide +kernel)) ggX5_cut_X5_bucketOf
theorem dX5_cut_0 : decode cX5_cut 0 = .ok (.aload_n 0, 1) := by decide +kernel
theorem dX5_cut_1 : decode cX5_cut 1 = .ok (.getfield 27, 3) := by decide +kernel
theorem dX5_cut_4 : decode cX5_cut 4 = .ok (.iload_n 1, 1) := by decide +kernel
theorem dX5_cut_5 : decode cX5_cut 5 = .ok (.if_icmp .le 78, 3) := by decide +kernel
theorem dX5_cut_8 : decode cX5_cut 8 = .ok (.aload_n 0, 1) := by decide +kernel
theorem dX5_cut_9 : decode cX5_cut 9 = .ok (.getfield 27, 3) := by decide +kernel
theorem dX5_cut_12 : decode cX5_cut 12 = .ok (.iconst 1, 1) := by decide +kernel
theorem dX5_cut_13 : decode cX5_cut 13 = .ok (.if_icmp .le 70, 3) := by decide +kernel
theorem dX5_cut_16 : decode cX5_cut 16 = .ok (.aload_n 0, 1) := by decide +kernel
theorem dX5_cut_17 : decode cX5_cut 17 = .ok (.getfield 27, 3) := by decide +kernel
theorem dX5_cut_20 : decode cX5_cut 20 = .ok (.sipush 4002, 3) := by decide +kernel
theorem dX5_cut_23 : decode cX5_cut 23 = .ok (.if_icmp .gt 60, 3) := by decide +kernel
theorem dX5_cut_26 : decode cX5_cut 26 = .ok (.aload_n 0, 1) := by decide +kernel
theorem dX5_cut_27 : decode cX5_cut 27 = .ok (.dup, 1) := by decide +kernel
theorem dX5_cut_28 : decode cX5_cut 28 = .ok (.getfield 27, 3) := by decide +kernel
theorem dX5_cut_31 : decode cX5_cut 31 = .ok (.iconst 1, 1) := by decide +kernel
theorem dX5_cut_32 : decode cX5_cut 32 = .ok (.isub, 1) := by decide +kernel
theorem dX5_cut_33 : decode cX5_cut 33 = .ok (.putfield 27, 3) := by decide +kernel
theorem dX5_cut_36 : decode cX5_cut 36 = .ok (.aload_n 0, 1) := by decide +kernel
theorem dX5_cut_37 : decode cX5_cut 37 = .ok (.getfield 24, 3) := by decide +kernel
theorem dX5_cut_40 : decode cX5_cut 40 = .ok (.aload_n 0, 1) := by decide +kernel
theorem dX5_cut_41 : decode cX5_cut 41 = .ok (.getfield 11, 3) := by decide +kernel
theorem dX5_cut_44 : decode cX5_cut 44 = .ok (.aload_n 0, 1) := by decide +kernel
theorem dX5_cut_45 : decode cX5_cut 45 = .ok (.getfield 27, 3) := by decide +kernel
theorem dX5_cut_48 : decode cX5_cut 48 = .ok (.iaload, 1) := by decide +kernel
theorem dX5_cut_49 : decode cX5_cut 49 = .ok (.aload_n 0, 1) := by decide +kernel
theorem dX5_cut_50 : decode cX5_cut 50 = .ok (.getfield 15, 3) := by decide +kernel
theorem dX5_cut_53 : decode cX5_cut 53 = .ok (.aload_n 0, 1) := by decide +kernel
theorem dX5_cut_54 : decode cX5_cut 54 = .ok (.getfield 27, 3) := by decide +kernel
theorem dX5_cut_57 : decode cX5_cut 57 = .ok (.iaload, 1) := by decide +kernel
theorem dX5_cut_58 : decode cX5_cut 58 = .ok (.aload_n 0, 1) := by decide +kernel
theorem dX5_cut_59 : decode cX5_cut 59 = .ok (.getfield 18, 3) := by decide +kernel
theorem dX5_cut_62 : decode cX5_cut 62 = .ok (.aload_n 0, 1) := by decide +kernel
theorem dX5_cut_63 : decode cX5_cut 63 = .ok (.getfield 27, 3) := by decide +kernel
theorem dX5_cut_66 : decode cX5_cut 66 = .ok (.iaload, 1) := by decide +kernel
theorem dX5_cut_67 : decode cX5_cut 67 = .ok (.invokestatic 31, 3) := by decide +kernel
theorem dX5_cut_70 : decode cX5_cut 70 = .ok (.aload_n 0, 1) := by decide +kernel
theorem dX5_cut_71 : decode cX5_cut 71 = .ok (.getfield 21, 3) := by decide +kernel
theorem dX5_cut_74 : decode cX5_cut 74 = .ok (.aload_n 0, 1) := by decide +kernel
theorem dX5_cut_75 : decode cX5_cut 75 = .ok (.getfield 27, 3) := by decide +kernel
theorem dX5_cut_78 : decode cX5_cut 78 = .ok (.iaload, 1) := by decide +kernel
theorem dX5_cut_79 : decode cX5_cut 79 = .ok (.iastore, 1) := by decide +kernel
theorem dX5_cut_80 : decode cX5_cut 80 = .ok (.goto (-80), 3) := by decide +kernel
theorem dX5_cut_83 : decode cX5_cut 83 = .ok (.return_, 1) := by decide +kernel
set_option maxRecDepth 20000 in
theorem ggX1_clear_X5_cut : GoodIn wsX1_clear wsX5_cut := goodIn_r _ [8, 9, 10, 11, 12, 13, 14, 15, 16, 7, 17, 26, 27, 28, 29, 30, 31] (by decide +kernel) (by decide +kernel)
set_option maxRecDepth 20000 in
theorem gX1_clear_X5_cut : GoodIn wsX1_clear (wsV RX1 41 RX5 yX5_cut wsX5_cut) := goodIn_app (goodIn_of _ (by decide +kernel)) ggX1_clear_X5_cut
theorem dX1_clear_0 : decode cX1_clear 0 = .ok (.aload_n 0, 1) := by decide +kernel
theorem dX1_clear_1 : decode cX1_clear 1 = .ok (.iconst 0, 1) := by decide +kernel
theorem dX1_clear_2 : decode cX1_clear 2 = .ok (.putfield 34, 3) := by decide +kernel
theorem dX1_clear_5 : decode cX1_clear 5 = .ok (.aload_n 0, 1) := by decide +kernel
theorem dX1_clear_6 : decode cX1_clear 6 = .ok (.iconst 0, 1) := by decide +kernel
theorem dX1_clear_7 : decode cX1_clear 7 = .ok (.putfield 38, 3) := by decide +kernel
theorem dX1_clear_10 : decode cX1_clear 10 = .ok (.aload_n 0, 1) := by decide +kernel
theorem dX1_clear_11 : decode cX1_clear 11 = .ok (.getfield 12, 3) := by decide +kernel
theorem dX1_clear_14 : decode cX1_clear 14 = .ok (.iconst 1, 1) := by decide +kernel
theorem dX1_clear_15 : decode cX1_clear 15 = .ok (.invokevirtual 41, 3) := by decide +kernel
theorem dX1_clear_18 : decode cX1_clear 18 = .ok (.return_, 1) := by decide +kernel
theorem dX1_changes_0 : decode cX1_changes 0 = .ok (.aload_n 0, 1) := by decide +kernel
theorem dX1_changes_1 : decode cX1_changes 1 = .ok (.getfield 38, 3) := by decide +kernel
theorem dX1_changes_4 : decode cX1_changes 4 = .ok (.ireturn, 1) := by decide +kernel
theorem dX1_level_0 : decode cX1_level 0 = .ok (.iload_n 1, 1) := by decide +kernel
theorem dX1_level_1 : decode cX1_level 1 = .ok (.ifCond .lt 27, 3) := by decide +kernel
theorem dX1_level_4 : decode cX1_level 4 = .ok (.iload_n 1, 1) := by decide +kernel
theorem dX1_level_5 : decode cX1_level 5 = .ok (.aload_n 0, 1) := by decide +kernel
theorem dX1_level_6 : decode cX1_level 6 = .ok (.getfield 34, 3) := by decide +kernel
theorem dX1_level_9 : decode cX1_level 9 = .ok (.if_icmp .ge 19, 3) := by decide +kernel
theorem dX1_level_12 : decode cX1_level 12 = .ok (.iload_n 1, 1) := by decide +kernel
theorem dX1_level_13 : decode cX1_level 13 = .ok (.sipush 4067, 3) := by decide +kernel
theorem dX1_level_16 : decode cX1_level 16 = .ok (.if_icmp .ge 12, 3) := by decide +kernel
theorem dX1_level_19 : decode cX1_level 19 = .ok (.aload_n 0, 1) := by decide +kernel
theorem dX1_level_20 : decode cX1_level 20 = .ok (.getfield 18, 3) := by decide +kernel
theorem dX1_level_23 : decode cX1_level 23 = .ok (.iload_n 1, 1) := by decide +kernel
theorem dX1_level_24 : decode cX1_level 24 = .ok (.iaload, 1) := by decide +kernel
theorem dX1_level_25 : decode cX1_level 25 = .ok (.goto 4, 3) := by decide +kernel
theorem dX1_level_28 : decode cX1_level 28 = .ok (.iconst 0, 1) := by decide +kernel
theorem dX1_level_29 : decode cX1_level 29 = .ok (.ireturn, 1) := by decide +kernel
theorem dX5_size_0 : decode cX5_size 0 = .ok (.aload_n 0, 1) := by decide +kernel
theorem dX5_size_1 : decode cX5_size 1 = .ok (.getfield 27, 3) := by decide +kernel
theorem dX5_size_4 : decode cX5_size 4 = .ok (.ireturn, 1) := by decide +kernel
set_option maxRecDepth 20000 in
theorem ggX1_note_X1_level : GoodIn wsX1_note wsX1_level := goodIn_r _ [11, 12, 13, 20, 21, 22, 23, 24, 25, 26, 27] (by decide +kernel) (by decide +kernel)
set_option maxRecDepth 20000 in
theorem gX1_note_X1_level : GoodIn wsX1_note (wsV RX1 55 RX1 yX1_level wsX1_level) := goodIn_app (goodIn_of _ (by decide +kernel)) ggX1_note_X1_level
set_option maxRecDepth 20000 in
theorem ggX1_note_X5_size : GoodIn wsX1_note wsX5_size := goodIn_r _ [18, 19, 28, 29, 30, 31, 32, 33] (by decide +kernel) (by decide +kernel)
set_option maxRecDepth 20000 in
theorem gX1_note_X5_size : GoodIn wsX1_note (wsV RX1 78 RX5 yX5_size wsX5_size) := goodIn_app (goodIn_of _ (by decide +kernel)) ggX1_note_X5_size
theorem dX1_note_0 : decode cX1_note 0 = .ok (.aload_n 0, 1) := by decide +kernel
theorem dX1_note_1 : decode cX1_note 1 = .ok (.getfield 38, 3) := by decide +kernel
theorem dX1_note_4 : decode cX1_note 4 = .ok (.sipush 4000, 3) := by decide +kernel
theorem dX1_note_7 : decode cX1_note 7 = .ok (.if_icmp .ge 63, 3) := by decide +kernel
theorem dX1_note_10 : decode cX1_note 10 = .ok (.aload_n 0, 1) := by decide +kernel
theorem dX1_note_11 : decode cX1_note 11 = .ok (.getfield 22, 3) := by decide +kernel
theorem dX1_note_14 : decode cX1_note 14 = .ok (.aload_n 0, 1) := by decide +kernel
theorem dX1_note_15 : decode cX1_note 15 = .ok (.getfield 38, 3) := by decide +kernel
theorem dX1_note_18 : decode cX1_note 18 = .ok (.iload_n 1, 1) := by decide +kernel
theorem dX1_note_19 : decode cX1_note 19 = .ok (.iastore, 1) := by decide +kernel
theorem dX1_note_20 : decode cX1_note 20 = .ok (.aload_n 0, 1) := by decide +kernel
theorem dX1_note_21 : decode cX1_note 21 = .ok (.getfield 25, 3) := by decide +kernel
theorem dX1_note_24 : decode cX1_note 24 = .ok (.aload_n 0, 1) := by decide +kernel
theorem dX1_note_25 : decode cX1_note 25 = .ok (.getfield 38, 3) := by decide +kernel
theorem dX1_note_28 : decode cX1_note 28 = .ok (.iload_n 2, 1) := by decide +kernel
theorem dX1_note_29 : decode cX1_note 29 = .ok (.iastore, 1) := by decide +kernel
theorem dX1_note_30 : decode cX1_note 30 = .ok (.aload_n 0, 1) := by decide +kernel
theorem dX1_note_31 : decode cX1_note 31 = .ok (.getfield 28, 3) := by decide +kernel
theorem dX1_note_34 : decode cX1_note 34 = .ok (.aload_n 0, 1) := by decide +kernel
theorem dX1_note_35 : decode cX1_note 35 = .ok (.getfield 38, 3) := by decide +kernel
theorem dX1_note_38 : decode cX1_note 38 = .ok (.aload_n 0, 1) := by decide +kernel
theorem dX1_note_39 : decode cX1_note 39 = .ok (.iload_n 2, 1) := by decide +kernel
theorem dX1_note_40 : decode cX1_note 40 = .ok (.invokevirtual 55, 3) := by decide +kernel
theorem dX1_note_43 : decode cX1_note 43 = .ok (.iastore, 1) := by decide +kernel
theorem dX1_note_44 : decode cX1_note 44 = .ok (.aload_n 0, 1) := by decide +kernel
theorem dX1_note_45 : decode cX1_note 45 = .ok (.getfield 31, 3) := by decide +kernel
theorem dX1_note_48 : decode cX1_note 48 = .ok (.aload_n 0, 1) := by decide +kernel
theorem dX1_note_49 : decode cX1_note 49 = .ok (.getfield 38, 3) := by decide +kernel
theorem dX1_note_52 : decode cX1_note 52 = .ok (.aload_n 0, 1) := by decide +kernel
theorem dX1_note_53 : decode cX1_note 53 = .ok (.getfield 12, 3) := by decide +kernel
theorem dX1_note_56 : decode cX1_note 56 = .ok (.invokevirtual 78, 3) := by decide +kernel
theorem dX1_note_59 : decode cX1_note 59 = .ok (.iastore, 1) := by decide +kernel
theorem dX1_note_60 : decode cX1_note 60 = .ok (.aload_n 0, 1) := by decide +kernel
theorem dX1_note_61 : decode cX1_note 61 = .ok (.dup, 1) := by decide +kernel
theorem dX1_note_62 : decode cX1_note 62 = .ok (.getfield 38, 3) := by decide +kernel
theorem dX1_note_65 : decode cX1_note 65 = .ok (.iconst 1, 1) := by decide +kernel
theorem dX1_note_66 : decode cX1_note 66 = .ok (.iadd, 1) := by decide +kernel
theorem dX1_note_67 : decode cX1_note 67 = .ok (.putfield 38, 3) := by decide +kernel
theorem dX1_note_70 : decode cX1_note 70 = .ok (.return_, 1) := by decide +kernel
theorem dX1_set_0 : decode cX1_set 0 = .ok (.iload_n 1, 1) := by decide +kernel
theorem dX1_set_1 : decode cX1_set 1 = .ok (.ifCond .lt 22, 3) := by decide +kernel
theorem dX1_set_4 : decode cX1_set 4 = .ok (.iload_n 1, 1) := by decide +kernel
theorem dX1_set_5 : decode cX1_set 5 = .ok (.sipush 4067, 3) := by decide +kernel
theorem dX1_set_8 : decode cX1_set 8 = .ok (.if_icmp .ge 15, 3) := by decide +kernel
theorem dX1_set_11 : decode cX1_set 11 = .ok (.iload_n 1, 1) := by decide +kernel
theorem dX1_set_12 : decode cX1_set 12 = .ok (.aload_n 0, 1) := by decide +kernel
theorem dX1_set_13 : decode cX1_set 13 = .ok (.getfield 34, 3) := by decide +kernel
theorem dX1_set_16 : decode cX1_set 16 = .ok (.if_icmp .lt 8, 3) := by decide +kernel
theorem dX1_set_19 : decode cX1_set 19 = .ok (.iload_n 2, 1) := by decide +kernel
theorem dX1_set_20 : decode cX1_set 20 = .ok (.ifCond .ne 4, 3) := by decide +kernel
theorem dX1_set_23 : decode cX1_set 23 = .ok (.return_, 1) := by decide +kernel
theorem dX1_set_24 : decode cX1_set 24 = .ok (.aload_n 0, 1) := by decide +kernel
theorem dX1_set_25 : decode cX1_set 25 = .ok (.getfield 34, 3) := by decide +kernel
theorem dX1_set_28 : decode cX1_set 28 = .ok (.iload_n 1, 1) := by decide +kernel
theorem dX1_set_29 : decode cX1_set 29 = .ok (.if_icmp .gt 26, 3) := by decide +kernel
theorem dX1_set_32 : decode cX1_set 32 = .ok (.aload_n 0, 1) := by decide +kernel
theorem dX1_set_33 : decode cX1_set 33 = .ok (.getfield 18, 3) := by decide +kernel
theorem dX1_set_36 : decode cX1_set 36 = .ok (.aload_n 0, 1) := by decide +kernel
theorem dX1_set_37 : decode cX1_set 37 = .ok (.getfield 34, 3) := by decide +kernel
theorem dX1_set_40 : decode cX1_set 40 = .ok (.iconst 0, 1) := by decide +kernel
theorem dX1_set_41 : decode cX1_set 41 = .ok (.iastore, 1) := by decide +kernel
theorem dX1_set_42 : decode cX1_set 42 = .ok (.aload_n 0, 1) := by decide +kernel
theorem dX1_set_43 : decode cX1_set 43 = .ok (.dup, 1) := by decide +kernel
theorem dX1_set_44 : decode cX1_set 44 = .ok (.getfield 34, 3) := by decide +kernel
theorem dX1_set_47 : decode cX1_set 47 = .ok (.iconst 1, 1) := by decide +kernel
theorem dX1_set_48 : decode cX1_set 48 = .ok (.iadd, 1) := by decide +kernel
theorem dX1_set_49 : decode cX1_set 49 = .ok (.putfield 34, 3) := by decide +kernel
theorem dX1_set_52 : decode cX1_set 52 = .ok (.goto (-28), 3) := by decide +kernel
theorem dX1_set_55 : decode cX1_set 55 = .ok (.aload_n 0, 1) := by decide +kernel
theorem dX1_set_56 : decode cX1_set 56 = .ok (.getfield 18, 3) := by decide +kernel
theorem dX1_set_59 : decode cX1_set 59 = .ok (.iload_n 1, 1) := by decide +kernel
theorem dX1_set_60 : decode cX1_set 60 = .ok (.iload_n 2, 1) := by decide +kernel
theorem dX1_set_61 : decode cX1_set 61 = .ok (.iastore, 1) := by decide +kernel
theorem dX1_set_62 : decode cX1_set 62 = .ok (.return_, 1) := by decide +kernel
set_option maxRecDepth 20000 in
theorem ggX1_insert_X1_set : GoodIn wsX1_insert wsX1_set := goodIn_r _ [11, 1, 2, 12, 13, 14, 15, 16, 17, 18, 19] (by decide +kernel) (by decide +kernel)
set_option maxRecDepth 20000 in
theorem gX1_insert_X1_set : GoodIn wsX1_insert (wsV RX1 63 RX1 yX1_set wsX1_set) := goodIn_app (goodIn_of _ (by decide +kernel)) ggX1_insert_X1_set
theorem dX1_insert_0 : decode cX1_insert 0 = .ok (.iload_n 1, 1) := by decide +kernel
theorem dX1_insert_1 : decode cX1_insert 1 = .ok (.aload_n 0, 1) := by decide +kernel
theorem dX1_insert_2 : decode cX1_insert 2 = .ok (.getfield 34, 3) := by decide +kernel
theorem dX1_insert_5 : decode cX1_insert 5 = .ok (.if_icmp .lt 12, 3) := by decide +kernel
theorem dX1_insert_8 : decode cX1_insert 8 = .ok (.aload_n 0, 1) := by decide +kernel
theorem dX1_insert_9 : decode cX1_insert 9 = .ok (.iload_n 1, 1) := by decide +kernel
theorem dX1_insert_10 : decode cX1_insert 10 = .ok (.iload_n 2, 1) := by decide +kernel
theorem dX1_insert_11 : decode cX1_insert 11 = .ok (.invokevirtual 63, 3) := by decide +kernel
theorem dX1_insert_14 : decode cX1_insert 14 = .ok (.goto 55, 3) := by decide +kernel
theorem dX1_insert_17 : decode cX1_insert 17 = .ok (.iload_n 1, 1) := by decide +kernel
theorem dX1_insert_18 : decode cX1_insert 18 = .ok (.ifCond .lt 51, 3) := by decide +kernel
theorem dX1_insert_21 : decode cX1_insert 21 = .ok (.aload_n 0, 1) := by decide +kernel
theorem dX1_insert_22 : decode cX1_insert 22 = .ok (.getfield 34, 3) := by decide +kernel
theorem dX1_insert_25 : decode cX1_insert 25 = .ok (.sipush 4067, 3) := by decide +kernel
theorem dX1_insert_28 : decode cX1_insert 28 = .ok (.if_icmp .ge 41, 3) := by decide +kernel
theorem dX1_insert_31 : decode cX1_insert 31 = .ok (.aload_n 0, 1) := by decide +kernel
theorem dX1_insert_32 : decode cX1_insert 32 = .ok (.getfield 18, 3) := by decide +kernel
theorem dX1_insert_35 : decode cX1_insert 35 = .ok (.iload_n 1, 1) := by decide +kernel
theorem dX1_insert_36 : decode cX1_insert 36 = .ok (.aload_n 0, 1) := by decide +kernel
theorem dX1_insert_37 : decode cX1_insert 37 = .ok (.getfield 18, 3) := by decide +kernel
theorem dX1_insert_40 : decode cX1_insert 40 = .ok (.iload_n 1, 1) := by decide +kernel
theorem dX1_insert_41 : decode cX1_insert 41 = .ok (.iconst 1, 1) := by decide +kernel
theorem dX1_insert_42 : decode cX1_insert 42 = .ok (.iadd, 1) := by decide +kernel
theorem dX1_insert_43 : decode cX1_insert 43 = .ok (.aload_n 0, 1) := by decide +kernel
theorem dX1_insert_44 : decode cX1_insert 44 = .ok (.getfield 34, 3) := by decide +kernel
theorem dX1_insert_47 : decode cX1_insert 47 = .ok (.iload_n 1, 1) := by decide +kernel
theorem dX1_insert_48 : decode cX1_insert 48 = .ok (.isub, 1) := by decide +kernel
theorem dX1_insert_49 : decode cX1_insert 49 = .ok (.invokestatic 82, 3) := by decide +kernel
theorem dX1_insert_52 : decode cX1_insert 52 = .ok (.aload_n 0, 1) := by decide +kernel
theorem dX1_insert_53 : decode cX1_insert 53 = .ok (.getfield 18, 3) := by decide +kernel
theorem dX1_insert_56 : decode cX1_insert 56 = .ok (.iload_n 1, 1) := by decide +kernel
theorem dX1_insert_57 : decode cX1_insert 57 = .ok (.iload_n 2, 1) := by decide +kernel
theorem dX1_insert_58 : decode cX1_insert 58 = .ok (.iastore, 1) := by decide +kernel
theorem dX1_insert_59 : decode cX1_insert 59 = .ok (.aload_n 0, 1) := by decide +kernel
theorem dX1_insert_60 : decode cX1_insert 60 = .ok (.dup, 1) := by decide +kernel
theorem dX1_insert_61 : decode cX1_insert 61 = .ok (.getfield 34, 3) := by decide +kernel
theorem dX1_insert_64 : decode cX1_insert 64 = .ok (.iconst 1, 1) := by decide +kernel
theorem dX1_insert_65 : decode cX1_insert 65 = .ok (.iadd, 1) := by decide +kernel
theorem dX1_insert_66 : decode cX1_insert 66 = .ok (.putfield 34, 3) := by decide +kernel
theorem dX1_insert_69 : decode cX1_insert 69 = .ok (.return_, 1) := by decide +kernel
set_option maxRecDepth 20000 in
theorem ggX1_addBox_X1_note : GoodIn wsX1_addBox wsX1_note := goodIn_r _ [5, 6, 7, 8, 9, 10, 11, 12, 13, 14, 4, 15, 16, 17, 18, 19, 20, 21, 22, 23, 36, 37, 38, 39, 40, 41, 42, 43, 44, 45, 46, 47, 48, 49] (by decide +kernel) (by decide +kernel)
set_option maxRecDepth 20000 in
theorem gX1_addBox_X1_note : GoodIn wsX1_addBox (wsV RX1 45 RX1 yX1_note wsX1_note) := goodIn_app (goodIn_of _ (by decide +kernel)) ggX1_addBox_X1_note
set_option maxRecDepth 20000 in
theorem ggX1_addBox_X1_insert : GoodIn wsX1_addBox wsX1_insert := goodIn_r _ [27, 16, 17, 28, 29, 30, 31, 32, 33, 34, 4, 35, 36, 37, 38, 39, 40, 41, 42, 43] (by decide +kernel) (by decide +kernel)
set_option maxRecDepth 20000 in
theorem gX1_addBox_X1_insert : GoodIn wsX1_addBox (wsV RX1 49 RX1 yX1_insert wsX1_insert) := goodIn_app (goodIn_of _ (by decide +kernel)) ggX1_addBox_X1_insert
theorem dX1_addBox_0 : decode cX1_addBox 0 = .ok (.aload_n 0, 1) := by decide +kernel
theorem dX1_addBox_1 : decode cX1_addBox 1 = .ok (.iconst 0, 1) := by decide +kernel
theorem dX1_addBox_2 : decode cX1_addBox 2 = .ok (.iload_n 1, 1) := by decide +kernel
theorem dX1_addBox_3 : decode cX1_addBox 3 = .ok (.invokevirtual 45, 3) := by decide +kernel
theorem dX1_addBox_6 : decode cX1_addBox 6 = .ok (.aload_n 0, 1) := by decide +kernel
theorem dX1_addBox_7 : decode cX1_addBox 7 = .ok (.iload_n 1, 1) := by decide +kernel
theorem dX1_addBox_8 : decode cX1_addBox 8 = .ok (.iconst 0, 1) := by decide +kernel
theorem dX1_addBox_9 : decode cX1_addBox 9 = .ok (.invokevirtual 49, 3) := by decide +kernel
theorem dX1_addBox_12 : decode cX1_addBox 12 = .ok (.return_, 1) := by decide +kernel
theorem dX1_delete_0 : decode cX1_delete 0 = .ok (.iload_n 1, 1) := by decide +kernel
theorem dX1_delete_1 : decode cX1_delete 1 = .ok (.ifCond .lt 54, 3) := by decide +kernel
theorem dX1_delete_4 : decode cX1_delete 4 = .ok (.iload_n 1, 1) := by decide +kernel
theorem dX1_delete_5 : decode cX1_delete 5 = .ok (.aload_n 0, 1) := by decide +kernel
theorem dX1_delete_6 : decode cX1_delete 6 = .ok (.getfield 34, 3) := by decide +kernel
theorem dX1_delete_9 : decode cX1_delete 9 = .ok (.if_icmp .ge 46, 3) := by decide +kernel
theorem dX1_delete_12 : decode cX1_delete 12 = .ok (.aload_n 0, 1) := by decide +kernel
theorem dX1_delete_13 : decode cX1_delete 13 = .ok (.getfield 34, 3) := by decide +kernel
theorem dX1_delete_16 : decode cX1_delete 16 = .ok (.sipush 4067, 3) := by decide +kernel
theorem dX1_delete_19 : decode cX1_delete 19 = .ok (.if_icmp .gt 36, 3) := by decide +kernel
theorem dX1_delete_22 : decode cX1_delete 22 = .ok (.aload_n 0, 1) := by decide +kernel
theorem dX1_delete_23 : decode cX1_delete 23 = .ok (.getfield 18, 3) := by decide +kernel
theorem dX1_delete_26 : decode cX1_delete 26 = .ok (.iload_n 1, 1) := by decide +kernel
theorem dX1_delete_27 : decode cX1_delete 27 = .ok (.iconst 1, 1) := by decide +kernel
theorem dX1_delete_28 : decode cX1_delete 28 = .ok (.iadd, 1) := by decide +kernel
theorem dX1_delete_29 : decode cX1_delete 29 = .ok (.aload_n 0, 1) := by decide +kernel
theorem dX1_delete_30 : decode cX1_delete 30 = .ok (.getfield 18, 3) := by decide +kernel
theorem dX1_delete_33 : decode cX1_delete 33 = .ok (.iload_n 1, 1) := by decide +kernel
theorem dX1_delete_34 : decode cX1_delete 34 = .ok (.aload_n 0, 1) := by decide +kernel
theorem dX1_delete_35 : decode cX1_delete 35 = .ok (.getfield 34, 3) := by decide +kernel
theorem dX1_delete_38 : decode cX1_delete 38 = .ok (.iload_n 1, 1) := by decide +kernel
theorem dX1_delete_39 : decode cX1_delete 39 = .ok (.isub, 1) := by decide +kernel
theorem dX1_delete_40 : decode cX1_delete 40 = .ok (.iconst 1, 1) := by decide +kernel
theorem dX1_delete_41 : decode cX1_delete 41 = .ok (.isub, 1) := by decide +kernel
theorem dX1_delete_42 : decode cX1_delete 42 = .ok (.invokestatic 82, 3) := by decide +kernel
theorem dX1_delete_45 : decode cX1_delete 45 = .ok (.aload_n 0, 1) := by decide +kernel
theorem dX1_delete_46 : decode cX1_delete 46 = .ok (.dup, 1) := by decide +kernel
theorem dX1_delete_47 : decode cX1_delete 47 = .ok (.getfield 34, 3) := by decide +kernel
theorem dX1_delete_50 : decode cX1_delete 50 = .ok (.iconst 1, 1) := by decide +kernel
theorem dX1_delete_51 : decode cX1_delete 51 = .ok (.isub, 1) := by decide +kernel
theorem dX1_delete_52 : decode cX1_delete 52 = .ok (.putfield 34, 3) := by decide +kernel
theorem dX1_delete_55 : decode cX1_delete 55 = .ok (.return_, 1) := by decide +kernel
set_option maxRecDepth 20000 in
theorem ggX1_drop_X1_note : GoodIn wsX1_drop wsX1_note := goodIn_r _ [5, 6, 7, 8, 9, 10, 11, 12, 13, 14, 4, 15, 16, 17, 18, 19, 20, 21, 22, 23, 32, 33, 34, 35, 36, 37, 38, 39, 40, 41, 42, 43, 44, 45] (by decide +kernel) (by decide +kernel)
set_option maxRecDepth 20000 in
theorem gX1_drop_X1_note : GoodIn wsX1_drop (wsV RX1 45 RX1 yX1_note wsX1_note) := goodIn_app (goodIn_of _ (by decide +kernel)) ggX1_drop_X1_note
set_option maxRecDepth 20000 in
theorem ggX1_drop_X1_delete : GoodIn wsX1_drop wsX1_delete := goodIn_r _ [27, 16, 17, 28, 29, 30, 31, 32, 33, 34, 35, 36, 37, 38, 39] (by decide +kernel) (by decide +kernel)
set_option maxRecDepth 20000 in
theorem gX1_drop_X1_delete : GoodIn wsX1_drop (wsV RX1 52 RX1 yX1_delete wsX1_delete) := goodIn_app (goodIn_of _ (by decide +kernel)) ggX1_drop_X1_delete
theorem dX1_drop_0 : decode cX1_drop 0 = .ok (.aload_n 0, 1) := by decide +kernel
theorem dX1_drop_1 : decode cX1_drop 1 = .ok (.iconst 1, 1) := by decide +kernel
theorem dX1_drop_2 : decode cX1_drop 2 = .ok (.iload_n 1, 1) := by decide +kernel
theorem dX1_drop_3 : decode cX1_drop 3 = .ok (.invokevirtual 45, 3) := by decide +kernel
theorem dX1_drop_6 : decode cX1_drop 6 = .ok (.aload_n 0, 1) := by decide +kernel
theorem dX1_drop_7 : decode cX1_drop 7 = .ok (.iload_n 1, 1) := by decide +kernel
theorem dX1_drop_8 : decode cX1_drop 8 = .ok (.invokevirtual 52, 3) := by decide +kernel
theorem dX1_drop_11 : decode cX1_drop 11 = .ok (.return_, 1) := by decide +kernel
theorem dX5_add_0 : decode cX5_add 0 = .ok (.aload_n 0, 1) := by decide +kernel
theorem dX5_add_1 : decode cX5_add 1 = .ok (.getfield 27, 3) := by decide +kernel
theorem dX5_add_4 : decode cX5_add 4 = .ok (.sipush 4002, 3) := by decide +kernel
theorem dX5_add_7 : decode cX5_add 7 = .ok (.if_icmp .ge 14, 3) := by decide +kernel
theorem dX5_add_10 : decode cX5_add 10 = .ok (.iload_n 1, 1) := by decide +kernel
theorem dX5_add_11 : decode cX5_add 11 = .ok (.ifCond .lt 10, 3) := by decide +kernel
theorem dX5_add_14 : decode cX5_add 14 = .ok (.iload_n 1, 1) := by decide +kernel
theorem dX5_add_15 : decode cX5_add 15 = .ok (.sipush 4096, 3) := by decide +kernel
theorem dX5_add_18 : decode cX5_add 18 = .ok (.if_icmp .lt 5, 3) := by decide +kernel
theorem dX5_add_21 : decode cX5_add 21 = .ok (.iconst 0, 1) := by decide +kernel
theorem dX5_add_22 : decode cX5_add 22 = .ok (.ireturn, 1) := by decide +kernel
theorem dX5_add_23 : decode cX5_add 23 = .ok (.aload_n 0, 1) := by decide +kernel
theorem dX5_add_24 : decode cX5_add 24 = .ok (.getfield 27, 3) := by decide +kernel
theorem dX5_add_27 : decode cX5_add 27 = .ok (.istore 5, 2) := by decide +kernel
theorem dX5_add_29 : decode cX5_add 29 = .ok (.aload_n 0, 1) := by decide +kernel
theorem dX5_add_30 : decode cX5_add 30 = .ok (.getfield 11, 3) := by decide +kernel
theorem dX5_add_33 : decode cX5_add 33 = .ok (.iload 5, 2) := by decide +kernel
theorem dX5_add_35 : decode cX5_add 35 = .ok (.iload_n 2, 1) := by decide +kernel
theorem dX5_add_36 : decode cX5_add 36 = .ok (.iastore, 1) := by decide +kernel
theorem dX5_add_37 : decode cX5_add 37 = .ok (.aload_n 0, 1) := by decide +kernel
theorem dX5_add_38 : decode cX5_add 38 = .ok (.getfield 15, 3) := by decide +kernel
theorem dX5_add_41 : decode cX5_add 41 = .ok (.iload 5, 2) := by decide +kernel
theorem dX5_add_43 : decode cX5_add 43 = .ok (.iload_n 3, 1) := by decide +kernel
theorem dX5_add_44 : decode cX5_add 44 = .ok (.iastore, 1) := by decide +kernel
theorem dX5_add_45 : decode cX5_add 45 = .ok (.aload_n 0, 1) := by decide +kernel
theorem dX5_add_46 : decode cX5_add 46 = .ok (.getfield 18, 3) := by decide +kernel
theorem dX5_add_49 : decode cX5_add 49 = .ok (.iload 5, 2) := by decide +kernel
theorem dX5_add_51 : decode cX5_add 51 = .ok (.iload 4, 2) := by decide +kernel
theorem dX5_add_53 : decode cX5_add 53 = .ok (.iastore, 1) := by decide +kernel
theorem dX5_add_54 : decode cX5_add 54 = .ok (.aload_n 0, 1) := by decide +kernel
theorem dX5_add_55 : decode cX5_add 55 = .ok (.getfield 21, 3) := by decide +kernel
theorem dX5_add_58 : decode cX5_add 58 = .ok (.iload 5, 2) := by decide +kernel
theorem dX5_add_60 : decode cX5_add 60 = .ok (.aload_n 0, 1) := by decide +kernel
theorem dX5_add_61 : decode cX5_add 61 = .ok (.getfield 24, 3) := by decide +kernel
theorem dX5_add_64 : decode cX5_add 64 = .ok (.iload_n 1, 1) := by decide +kernel
theorem dX5_add_65 : decode cX5_add 65 = .ok (.iaload, 1) := by decide +kernel
theorem dX5_add_66 : decode cX5_add 66 = .ok (.iastore, 1) := by decide +kernel
theorem dX5_add_67 : decode cX5_add 67 = .ok (.aload_n 0, 1) := by decide +kernel
theorem dX5_add_68 : decode cX5_add 68 = .ok (.getfield 24, 3) := by decide +kernel
theorem dX5_add_71 : decode cX5_add 71 = .ok (.iload_n 1, 1) := by decide +kernel
theorem dX5_add_72 : decode cX5_add 72 = .ok (.iload 5, 2) := by decide +kernel
theorem dX5_add_74 : decode cX5_add 74 = .ok (.iastore, 1) := by decide +kernel
theorem dX5_add_75 : decode cX5_add 75 = .ok (.aload_n 0, 1) := by decide +kernel
theorem dX5_add_76 : decode cX5_add 76 = .ok (.dup, 1) := by decide +kernel
theorem dX5_add_77 : decode cX5_add 77 = .ok (.getfield 27, 3) := by decide +kernel
theorem dX5_add_80 : decode cX5_add 80 = .ok (.iconst 1, 1) := by decide +kernel
theorem dX5_add_81 : decode cX5_add 81 = .ok (.iadd, 1) := by decide +kernel
theorem dX5_add_82 : decode cX5_add 82 = .ok (.putfield 27, 3) := by decide +kernel
theorem dX5_add_85 : decode cX5_add 85 = .ok (.iload 5, 2) := by decide +kernel
theorem dX5_add_87 : decode cX5_add 87 = .ok (.ireturn, 1) := by decide +kernel
set_option maxRecDepth 20000 in
theorem ggX5_tree_X5_bucketOf : GoodIn wsX5_tree wsX5_bucketOf := goodIn_r _ [10] (by decide +kernel) (by decide +kernel)
set_option maxRecDepth 20000 in
theorem gX5_tree_X5_bucketOf : GoodIn wsX5_tree (va_wsS RX5 31 yX5_bucketOf wsX5_bucketOf) := goodIn_app (goodIn_of _ (by decide +kernel)) ggX5_tree_X5_bucketOf
set_option maxRecDepth 20000 in
theorem ggX5_tree_X5_add : GoodIn wsX5_tree wsX5_add := goodIn_r _ [14, 2, 3, 4, 5, 6, 1, 15, 16, 17, 18, 19, 20] (by decide +kernel) (by decide +kernel)
set_option maxRecDepth 20000 in
theorem gX5_tree_X5_add : GoodIn wsX5_tree (wsV RX5 35 RX5 yX5_add wsX5_add) := goodIn_app (goodIn_of _ (by decide +kernel)) ggX5_tree_X5_add
theorem dX5_tree_0 : decode cX5_tree 0 = .ok (.iload_n 1, 1) := by decide +kernel
theorem dX5_tree_1 : decode cX5_tree 1 = .ok (.iload_n 2, 1) := by decide +kernel
theorem dX5_tree_2 : decode cX5_tree 2 = .ok (.iload_n 3, 1) := by decide +kernel
theorem dX5_tree_3 : decode cX5_tree 3 = .ok (.invokestatic 31, 3) := by decide +kernel
theorem dX5_tree_6 : decode cX5_tree 6 = .ok (.istore 4, 2) := by decide +kernel
theorem dX5_tree_8 : decode cX5_tree 8 = .ok (.aload_n 0, 1) := by decide +kernel
theorem dX5_tree_9 : decode cX5_tree 9 = .ok (.getfield 24, 3) := by decide +kernel
theorem dX5_tree_12 : decode cX5_tree 12 = .ok (.iload 4, 2) := by decide +kernel
theorem dX5_tree_14 : decode cX5_tree 14 = .ok (.iaload, 1) := by decide +kernel
theorem dX5_tree_15 : decode cX5_tree 15 = .ok (.istore 5, 2) := by decide +kernel
theorem dX5_tree_17 : decode cX5_tree 17 = .ok (.iconst 0, 1) := by decide +kernel
theorem dX5_tree_18 : decode cX5_tree 18 = .ok (.istore 6, 2) := by decide +kernel
theorem dX5_tree_20 : decode cX5_tree 20 = .ok (.iload 6, 2) := by decide +kernel
theorem dX5_tree_22 : decode cX5_tree 22 = .ok (.aload_n 0, 1) := by decide +kernel
theorem dX5_tree_23 : decode cX5_tree 23 = .ok (.getfield 27, 3) := by decide +kernel
theorem dX5_tree_26 : decode cX5_tree 26 = .ok (.if_icmp .ge 68, 3) := by decide +kernel
theorem dX5_tree_29 : decode cX5_tree 29 = .ok (.iload 5, 2) := by decide +kernel
theorem dX5_tree_31 : decode cX5_tree 31 = .ok (.ifCond .le 63, 3) := by decide +kernel
theorem dX5_tree_34 : decode cX5_tree 34 = .ok (.iload 5, 2) := by decide +kernel
theorem dX5_tree_36 : decode cX5_tree 36 = .ok (.aload_n 0, 1) := by decide +kernel
theorem dX5_tree_37 : decode cX5_tree 37 = .ok (.getfield 27, 3) := by decide +kernel
theorem dX5_tree_40 : decode cX5_tree 40 = .ok (.if_icmp .ge 54, 3) := by decide +kernel
theorem dX5_tree_43 : decode cX5_tree 43 = .ok (.aload_n 0, 1) := by decide +kernel
theorem dX5_tree_44 : decode cX5_tree 44 = .ok (.getfield 11, 3) := by decide +kernel
theorem dX5_tree_47 : decode cX5_tree 47 = .ok (.iload 5, 2) := by decide +kernel
theorem dX5_tree_49 : decode cX5_tree 49 = .ok (.iaload, 1) := by decide +kernel
theorem dX5_tree_50 : decode cX5_tree 50 = .ok (.iload_n 1, 1) := by decide +kernel
theorem dX5_tree_51 : decode cX5_tree 51 = .ok (.if_icmp .ne 28, 3) := by decide +kernel
theorem dX5_tree_54 : decode cX5_tree 54 = .ok (.aload_n 0, 1) := by decide +kernel
theorem dX5_tree_55 : decode cX5_tree 55 = .ok (.getfield 15, 3) := by decide +kernel
theorem dX5_tree_58 : decode cX5_tree 58 = .ok (.iload 5, 2) := by decide +kernel
theorem dX5_tree_60 : decode cX5_tree 60 = .ok (.iaload, 1) := by decide +kernel
theorem dX5_tree_61 : decode cX5_tree 61 = .ok (.iload_n 2, 1) := by decide +kernel
theorem dX5_tree_62 : decode cX5_tree 62 = .ok (.if_icmp .ne 17, 3) := by decide +kernel
theorem dX5_tree_65 : decode cX5_tree 65 = .ok (.aload_n 0, 1) := by decide +kernel
theorem dX5_tree_66 : decode cX5_tree 66 = .ok (.getfield 18, 3) := by decide +kernel
theorem dX5_tree_69 : decode cX5_tree 69 = .ok (.iload 5, 2) := by decide +kernel
theorem dX5_tree_71 : decode cX5_tree 71 = .ok (.iaload, 1) := by decide +kernel
theorem dX5_tree_72 : decode cX5_tree 72 = .ok (.iload_n 3, 1) := by decide +kernel
theorem dX5_tree_73 : decode cX5_tree 73 = .ok (.if_icmp .ne 6, 3) := by decide +kernel
theorem dX5_tree_76 : decode cX5_tree 76 = .ok (.iload 5, 2) := by decide +kernel
theorem dX5_tree_78 : decode cX5_tree 78 = .ok (.ireturn, 1) := by decide +kernel
theorem dX5_tree_79 : decode cX5_tree 79 = .ok (.aload_n 0, 1) := by decide +kernel
theorem dX5_tree_80 : decode cX5_tree 80 = .ok (.getfield 21, 3) := by decide +kernel
theorem dX5_tree_83 : decode cX5_tree 83 = .ok (.iload 5, 2) := by decide +kernel
theorem dX5_tree_85 : decode cX5_tree 85 = .ok (.iaload, 1) := by decide +kernel
theorem dX5_tree_86 : decode cX5_tree 86 = .ok (.istore 5, 2) := by decide +kernel
theorem dX5_tree_88 : decode cX5_tree 88 = .ok (.iinc 6 1, 3) := by decide +kernel
theorem dX5_tree_91 : decode cX5_tree 91 = .ok (.goto (-71), 3) := by decide +kernel
theorem dX5_tree_94 : decode cX5_tree 94 = .ok (.aload_n 0, 1) := by decide +kernel
theorem dX5_tree_95 : decode cX5_tree 95 = .ok (.iload 4, 2) := by decide +kernel
theorem dX5_tree_97 : decode cX5_tree 97 = .ok (.iload_n 1, 1) := by decide +kernel
theorem dX5_tree_98 : decode cX5_tree 98 = .ok (.iload_n 2, 1) := by decide +kernel
theorem dX5_tree_99 : decode cX5_tree 99 = .ok (.iload_n 3, 1) := by decide +kernel
theorem dX5_tree_100 : decode cX5_tree 100 = .ok (.invokevirtual 35, 3) := by decide +kernel
theorem dX5_tree_103 : decode cX5_tree 103 = .ok (.ireturn, 1) := by decide +kernel
set_option maxRecDepth 20000 in
theorem ggX1_pairUp_X1_note : GoodIn wsX1_pairUp wsX1_note := goodIn_r _ [6, 7, 8, 9, 10, 11, 1, 12, 13, 14, 5, 15, 16, 17, 18, 19, 20, 21, 22, 23, 52, 53, 54, 55, 56, 57, 58, 59, 60, 61, 62, 63, 64, 65] (by decide +kernel) (by decide +kernel)
set_option maxRecDepth 20000 in
theorem gX1_pairUp_X1_note : GoodIn wsX1_pairUp (wsV RX1 45 RX1 yX1_note wsX1_note) := goodIn_app (goodIn_of _ (by decide +kernel)) ggX1_pairUp_X1_note
set_option maxRecDepth 20000 in
theorem ggX1_pairUp_X1_level : GoodIn wsX1_pairUp wsX1_level := goodIn_r _ [15, 16, 17, 52, 53, 54, 55, 56, 57, 58, 59] (by decide +kernel) (by decide +kernel)
set_option maxRecDepth 20000 in
theorem gX1_pairUp_X1_level : GoodIn wsX1_pairUp (wsV RX1 55 RX1 yX1_level wsX1_level) := goodIn_app (goodIn_of _ (by decide +kernel)) ggX1_pairUp_X1_level
set_option maxRecDepth 20000 in
theorem ggX1_pairUp_X5_tree : GoodIn wsX1_pairUp wsX5_tree := goodIn_r _ [27, 28, 23, 29, 30, 31, 32, 33, 34, 21, 35, 36, 37, 38, 39, 60, 61, 62, 63, 64, 65] (by decide +kernel) (by decide +kernel)
set_option maxRecDepth 20000 in
theorem gX1_pairUp_X5_tree : GoodIn wsX1_pairUp (wsV RX1 59 RX5 yX5_tree wsX5_tree) := goodIn_app (goodIn_of _ (by decide +kernel)) ggX1_pairUp_X5_tree
set_option maxRecDepth 20000 in
theorem ggX1_pairUp_X1_set : GoodIn wsX1_pairUp wsX1_set := goodIn_r _ [43, 16, 17, 52, 53, 54, 55, 56, 57, 58, 59] (by decide +kernel) (by decide +kernel)
set_option maxRecDepth 20000 in
theorem gX1_pairUp_X1_set : GoodIn wsX1_pairUp (wsV RX1 63 RX1 yX1_set wsX1_set) := goodIn_app (goodIn_of _ (by decide +kernel)) ggX1_pairUp_X1_set
set_option maxRecDepth 20000 in
theorem ggX1_pairUp_X1_delete : GoodIn wsX1_pairUp wsX1_delete := goodIn_r _ [47, 16, 17, 48, 49, 50, 51, 52, 53, 54, 55, 56, 57, 58, 59] (by decide +kernel) (by decide +kernel)
set_option maxRecDepth 20000 in
theorem gX1_pairUp_X1_delete : GoodIn wsX1_pairUp (wsV RX1 52 RX1 yX1_delete wsX1_delete) := goodIn_app (goodIn_of _ (by decide +kernel)) ggX1_pairUp_X1_delete
theorem dX1_pairUp_0 : decode cX1_pairUp 0 = .ok (.aload_n 0, 1) := by decide +kernel
theorem dX1_pairUp_1 : decode cX1_pairUp 1 = .ok (.iconst 2, 1) := by decide +kernel
theorem dX1_pairUp_2 : decode cX1_pairUp 2 = .ok (.iload_n 1, 1) := by decide +kernel
theorem dX1_pairUp_3 : decode cX1_pairUp 3 = .ok (.invokevirtual 45, 3) := by decide +kernel
theorem dX1_pairUp_6 : decode cX1_pairUp 6 = .ok (.aload_n 0, 1) := by decide +kernel
theorem dX1_pairUp_7 : decode cX1_pairUp 7 = .ok (.iload_n 1, 1) := by decide +kernel
theorem dX1_pairUp_8 : decode cX1_pairUp 8 = .ok (.aload_n 0, 1) := by decide +kernel
theorem dX1_pairUp_9 : decode cX1_pairUp 9 = .ok (.getfield 12, 3) := by decide +kernel
theorem dX1_pairUp_12 : decode cX1_pairUp 12 = .ok (.iconst 3, 1) := by decide +kernel
theorem dX1_pairUp_13 : decode cX1_pairUp 13 = .ok (.aload_n 0, 1) := by decide +kernel
theorem dX1_pairUp_14 : decode cX1_pairUp 14 = .ok (.iload_n 1, 1) := by decide +kernel
theorem dX1_pairUp_15 : decode cX1_pairUp 15 = .ok (.invokevirtual 55, 3) := by decide +kernel
theorem dX1_pairUp_18 : decode cX1_pairUp 18 = .ok (.aload_n 0, 1) := by decide +kernel
theorem dX1_pairUp_19 : decode cX1_pairUp 19 = .ok (.iload_n 1, 1) := by decide +kernel
theorem dX1_pairUp_20 : decode cX1_pairUp 20 = .ok (.iconst 1, 1) := by decide +kernel
theorem dX1_pairUp_21 : decode cX1_pairUp 21 = .ok (.iadd, 1) := by decide +kernel
theorem dX1_pairUp_22 : decode cX1_pairUp 22 = .ok (.invokevirtual 55, 3) := by decide +kernel
theorem dX1_pairUp_25 : decode cX1_pairUp 25 = .ok (.invokevirtual 59, 3) := by decide +kernel
theorem dX1_pairUp_28 : decode cX1_pairUp 28 = .ok (.invokevirtual 63, 3) := by decide +kernel
theorem dX1_pairUp_31 : decode cX1_pairUp 31 = .ok (.aload_n 0, 1) := by decide +kernel
theorem dX1_pairUp_32 : decode cX1_pairUp 32 = .ok (.iload_n 1, 1) := by decide +kernel
theorem dX1_pairUp_33 : decode cX1_pairUp 33 = .ok (.iconst 1, 1) := by decide +kernel
theorem dX1_pairUp_34 : decode cX1_pairUp 34 = .ok (.iadd, 1) := by decide +kernel
theorem dX1_pairUp_35 : decode cX1_pairUp 35 = .ok (.invokevirtual 52, 3) := by decide +kernel
theorem dX1_pairUp_38 : decode cX1_pairUp 38 = .ok (.return_, 1) := by decide +kernel
theorem dX5_form_0 : decode cX5_form 0 = .ok (.iload_n 1, 1) := by decide +kernel
theorem dX5_form_1 : decode cX5_form 1 = .ok (.ifCond .le 20, 3) := by decide +kernel
theorem dX5_form_4 : decode cX5_form 4 = .ok (.iload_n 1, 1) := by decide +kernel
theorem dX5_form_5 : decode cX5_form 5 = .ok (.aload_n 0, 1) := by decide +kernel
theorem dX5_form_6 : decode cX5_form 6 = .ok (.getfield 27, 3) := by decide +kernel
theorem dX5_form_9 : decode cX5_form 9 = .ok (.if_icmp .ge 12, 3) := by decide +kernel
theorem dX5_form_12 : decode cX5_form 12 = .ok (.aload_n 0, 1) := by decide +kernel
theorem dX5_form_13 : decode cX5_form 13 = .ok (.getfield 11, 3) := by decide +kernel
theorem dX5_form_16 : decode cX5_form 16 = .ok (.iload_n 1, 1) := by decide +kernel
theorem dX5_form_17 : decode cX5_form 17 = .ok (.iaload, 1) := by decide +kernel
theorem dX5_form_18 : decode cX5_form 18 = .ok (.goto 4, 3) := by decide +kernel
theorem dX5_form_21 : decode cX5_form 21 = .ok (.iconst 0, 1) := by decide +kernel
theorem dX5_form_22 : decode cX5_form 22 = .ok (.ireturn, 1) := by decide +kernel
theorem dX5_left_0 : decode cX5_left 0 = .ok (.iload_n 1, 1) := by decide +kernel
theorem dX5_left_1 : decode cX5_left 1 = .ok (.ifCond .le 20, 3) := by decide +kernel
theorem dX5_left_4 : decode cX5_left 4 = .ok (.iload_n 1, 1) := by decide +kernel
theorem dX5_left_5 : decode cX5_left 5 = .ok (.aload_n 0, 1) := by decide +kernel
theorem dX5_left_6 : decode cX5_left 6 = .ok (.getfield 27, 3) := by decide +kernel
theorem dX5_left_9 : decode cX5_left 9 = .ok (.if_icmp .ge 12, 3) := by decide +kernel
theorem dX5_left_12 : decode cX5_left 12 = .ok (.aload_n 0, 1) := by decide +kernel
theorem dX5_left_13 : decode cX5_left 13 = .ok (.getfield 15, 3) := by decide +kernel
theorem dX5_left_16 : decode cX5_left 16 = .ok (.iload_n 1, 1) := by decide +kernel
theorem dX5_left_17 : decode cX5_left 17 = .ok (.iaload, 1) := by decide +kernel
theorem dX5_left_18 : decode cX5_left 18 = .ok (.goto 4, 3) := by decide +kernel
theorem dX5_left_21 : decode cX5_left 21 = .ok (.iconst 0, 1) := by decide +kernel
theorem dX5_left_22 : decode cX5_left 22 = .ok (.ireturn, 1) := by decide +kernel
theorem dX5_right_0 : decode cX5_right 0 = .ok (.iload_n 1, 1) := by decide +kernel
theorem dX5_right_1 : decode cX5_right 1 = .ok (.ifCond .le 20, 3) := by decide +kernel
theorem dX5_right_4 : decode cX5_right 4 = .ok (.iload_n 1, 1) := by decide +kernel
theorem dX5_right_5 : decode cX5_right 5 = .ok (.aload_n 0, 1) := by decide +kernel
theorem dX5_right_6 : decode cX5_right 6 = .ok (.getfield 27, 3) := by decide +kernel
theorem dX5_right_9 : decode cX5_right 9 = .ok (.if_icmp .ge 12, 3) := by decide +kernel
theorem dX5_right_12 : decode cX5_right 12 = .ok (.aload_n 0, 1) := by decide +kernel
theorem dX5_right_13 : decode cX5_right 13 = .ok (.getfield 18, 3) := by decide +kernel
theorem dX5_right_16 : decode cX5_right 16 = .ok (.iload_n 1, 1) := by decide +kernel
theorem dX5_right_17 : decode cX5_right 17 = .ok (.iaload, 1) := by decide +kernel
theorem dX5_right_18 : decode cX5_right 18 = .ok (.goto 4, 3) := by decide +kernel
theorem dX5_right_21 : decode cX5_right 21 = .ok (.iconst 0, 1) := by decide +kernel
theorem dX5_right_22 : decode cX5_right 22 = .ok (.ireturn, 1) := by decide +kernel
set_option maxRecDepth 20000 in
theorem ggX1_split_X1_level : GoodIn wsX1_split wsX1_level := goodIn_r _ [6, 7, 8, 51, 52, 53, 54, 55, 56, 57, 58] (by decide +kernel) (by decide +kernel)
set_option maxRecDepth 20000 in
theorem gX1_split_X1_level : GoodIn wsX1_split (wsV RX1 55 RX1 yX1_level wsX1_level) := goodIn_app (goodIn_of _ (by decide +kernel)) ggX1_split_X1_level
set_option maxRecDepth 20000 in
theorem ggX1_split_X5_form : GoodIn wsX1_split wsX5_form := goodIn_r _ [13, 14, 15, 59, 60, 61, 62, 63, 64] (by decide +kernel) (by decide +kernel)
set_option maxRecDepth 20000 in
theorem gX1_split_X5_form : GoodIn wsX1_split (wsV RX1 66 RX5 yX5_form wsX5_form) := goodIn_app (goodIn_of _ (by decide +kernel)) ggX1_split_X5_form
set_option maxRecDepth 20000 in
theorem ggX1_split_X1_note : GoodIn wsX1_split wsX1_note := goodIn_r _ [19, 20, 21, 22, 23, 24, 1, 2, 3, 4, 5, 6, 7, 8, 25, 26, 27, 12, 28, 14, 51, 52, 53, 54, 55, 56, 57, 58, 59, 60, 61, 62, 63, 64] (by decide +kernel) (by decide +kernel)
set_option maxRecDepth 20000 in
theorem gX1_split_X1_note : GoodIn wsX1_split (wsV RX1 45 RX1 yX1_note wsX1_note) := goodIn_app (goodIn_of _ (by decide +kernel)) ggX1_split_X1_note
set_option maxRecDepth 20000 in
theorem ggX1_split_X5_left : GoodIn wsX1_split wsX5_left := goodIn_r _ [32, 14, 33, 59, 60, 61, 62, 63, 64] (by decide +kernel) (by decide +kernel)
set_option maxRecDepth 20000 in
theorem gX1_split_X5_left : GoodIn wsX1_split (wsV RX1 69 RX5 yX5_left wsX5_left) := goodIn_app (goodIn_of _ (by decide +kernel)) ggX1_split_X5_left
set_option maxRecDepth 20000 in
theorem ggX1_split_X1_set : GoodIn wsX1_split wsX1_set := goodIn_r _ [37, 7, 8, 51, 52, 53, 54, 55, 56, 57, 58] (by decide +kernel) (by decide +kernel)
set_option maxRecDepth 20000 in
theorem gX1_split_X1_set : GoodIn wsX1_split (wsV RX1 63 RX1 yX1_set wsX1_set) := goodIn_app (goodIn_of _ (by decide +kernel)) ggX1_split_X1_set
set_option maxRecDepth 20000 in
theorem ggX1_split_X5_right : GoodIn wsX1_split wsX5_right := goodIn_r _ [41, 14, 42, 59, 60, 61, 62, 63, 64] (by decide +kernel) (by decide +kernel)
set_option maxRecDepth 20000 in
theorem gX1_split_X5_right : GoodIn wsX1_split (wsV RX1 72 RX5 yX5_right wsX5_right) := goodIn_app (goodIn_of _ (by decide +kernel)) ggX1_split_X5_right
set_option maxRecDepth 20000 in
theorem ggX1_split_X1_insert : GoodIn wsX1_split wsX1_insert := goodIn_r _ [46, 7, 8, 47, 48, 49, 50, 34, 35, 36, 5, 37, 51, 52, 53, 54, 55, 56, 57, 58] (by decide +kernel) (by decide +kernel)
set_option maxRecDepth 20000 in
theorem gX1_split_X1_insert : GoodIn wsX1_split (wsV RX1 49 RX1 yX1_insert wsX1_insert) := goodIn_app (goodIn_of _ (by decide +kernel)) ggX1_split_X1_insert
theorem dX1_split_0 : decode cX1_split 0 = .ok (.aload_n 0, 1) := by decide +kernel
theorem dX1_split_1 : decode cX1_split 1 = .ok (.iload_n 1, 1) := by decide +kernel
theorem dX1_split_2 : decode cX1_split 2 = .ok (.invokevirtual 55, 3) := by decide +kernel
theorem dX1_split_5 : decode cX1_split 5 = .ok (.istore_n 2, 1) := by decide +kernel
theorem dX1_split_6 : decode cX1_split 6 = .ok (.aload_n 0, 1) := by decide +kernel
theorem dX1_split_7 : decode cX1_split 7 = .ok (.getfield 12, 3) := by decide +kernel
theorem dX1_split_10 : decode cX1_split 10 = .ok (.iload_n 2, 1) := by decide +kernel
theorem dX1_split_11 : decode cX1_split 11 = .ok (.invokevirtual 66, 3) := by decide +kernel
theorem dX1_split_14 : decode cX1_split 14 = .ok (.iconst 3, 1) := by decide +kernel
theorem dX1_split_15 : decode cX1_split 15 = .ok (.if_icmp .eq 5, 3) := by decide +kernel
theorem dX1_split_18 : decode cX1_split 18 = .ok (.iconst 0, 1) := by decide +kernel
theorem dX1_split_19 : decode cX1_split 19 = .ok (.ireturn, 1) := by decide +kernel
theorem dX1_split_20 : decode cX1_split 20 = .ok (.aload_n 0, 1) := by decide +kernel
theorem dX1_split_21 : decode cX1_split 21 = .ok (.iconst 3, 1) := by decide +kernel
theorem dX1_split_22 : decode cX1_split 22 = .ok (.iload_n 1, 1) := by decide +kernel
theorem dX1_split_23 : decode cX1_split 23 = .ok (.invokevirtual 45, 3) := by decide +kernel
theorem dX1_split_26 : decode cX1_split 26 = .ok (.aload_n 0, 1) := by decide +kernel
theorem dX1_split_27 : decode cX1_split 27 = .ok (.iload_n 1, 1) := by decide +kernel
theorem dX1_split_28 : decode cX1_split 28 = .ok (.aload_n 0, 1) := by decide +kernel
theorem dX1_split_29 : decode cX1_split 29 = .ok (.getfield 12, 3) := by decide +kernel
theorem dX1_split_32 : decode cX1_split 32 = .ok (.iload_n 2, 1) := by decide +kernel
theorem dX1_split_33 : decode cX1_split 33 = .ok (.invokevirtual 69, 3) := by decide +kernel
theorem dX1_split_36 : decode cX1_split 36 = .ok (.invokevirtual 63, 3) := by decide +kernel
theorem dX1_split_39 : decode cX1_split 39 = .ok (.aload_n 0, 1) := by decide +kernel
theorem dX1_split_40 : decode cX1_split 40 = .ok (.iload_n 1, 1) := by decide +kernel
theorem dX1_split_41 : decode cX1_split 41 = .ok (.iconst 1, 1) := by decide +kernel
theorem dX1_split_42 : decode cX1_split 42 = .ok (.iadd, 1) := by decide +kernel
theorem dX1_split_43 : decode cX1_split 43 = .ok (.aload_n 0, 1) := by decide +kernel
theorem dX1_split_44 : decode cX1_split 44 = .ok (.getfield 12, 3) := by decide +kernel
theorem dX1_split_47 : decode cX1_split 47 = .ok (.iload_n 2, 1) := by decide +kernel
theorem dX1_split_48 : decode cX1_split 48 = .ok (.invokevirtual 72, 3) := by decide +kernel
theorem dX1_split_51 : decode cX1_split 51 = .ok (.invokevirtual 49, 3) := by decide +kernel
theorem dX1_split_54 : decode cX1_split 54 = .ok (.iconst 1, 1) := by decide +kernel
theorem dX1_split_55 : decode cX1_split 55 = .ok (.ireturn, 1) := by decide +kernel
set_option maxRecDepth 20000 in
theorem ggX1_enterFan_X1_note : GoodIn wsX1_enterFan wsX1_note := goodIn_r _ [6, 7, 8, 9, 10, 11, 1, 12, 13, 14, 5, 15, 16, 17, 18, 19, 20, 21, 22, 23, 44, 45, 46, 47, 48, 49, 50, 51, 52, 53, 54, 55, 56, 57] (by decide +kernel) (by decide +kernel)
set_option maxRecDepth 20000 in
theorem gX1_enterFan_X1_note : GoodIn wsX1_enterFan (wsV RX1 45 RX1 yX1_note wsX1_note) := goodIn_app (goodIn_of _ (by decide +kernel)) ggX1_enterFan_X1_note
set_option maxRecDepth 20000 in
theorem ggX1_enterFan_X1_level : GoodIn wsX1_enterFan wsX1_level := goodIn_r _ [15, 16, 17, 44, 45, 46, 47, 48, 49, 50, 51] (by decide +kernel) (by decide +kernel)
set_option maxRecDepth 20000 in
theorem gX1_enterFan_X1_level : GoodIn wsX1_enterFan (wsV RX1 55 RX1 yX1_level wsX1_level) := goodIn_app (goodIn_of _ (by decide +kernel)) ggX1_enterFan_X1_level
set_option maxRecDepth 20000 in
theorem ggX1_enterFan_X5_tree : GoodIn wsX1_enterFan wsX5_tree := goodIn_r _ [27, 28, 23, 29, 30, 31, 32, 33, 34, 21, 35, 36, 37, 38, 39, 52, 53, 54, 55, 56, 57] (by decide +kernel) (by decide +kernel)
set_option maxRecDepth 20000 in
theorem gX1_enterFan_X5_tree : GoodIn wsX1_enterFan (wsV RX1 59 RX5 yX5_tree wsX5_tree) := goodIn_app (goodIn_of _ (by decide +kernel)) ggX1_enterFan_X5_tree
set_option maxRecDepth 20000 in
theorem ggX1_enterFan_X1_set : GoodIn wsX1_enterFan wsX1_set := goodIn_r _ [43, 16, 17, 44, 45, 46, 47, 48, 49, 50, 51] (by decide +kernel) (by decide +kernel)
set_option maxRecDepth 20000 in
theorem gX1_enterFan_X1_set : GoodIn wsX1_enterFan (wsV RX1 63 RX1 yX1_set wsX1_set) := goodIn_app (goodIn_of _ (by decide +kernel)) ggX1_enterFan_X1_set
theorem dX1_enterFan_0 : decode cX1_enterFan 0 = .ok (.aload_n 0, 1) := by decide +kernel
theorem dX1_enterFan_1 : decode cX1_enterFan 1 = .ok (.iconst 4, 1) := by decide +kernel
theorem dX1_enterFan_2 : decode cX1_enterFan 2 = .ok (.iload_n 1, 1) := by decide +kernel
theorem dX1_enterFan_3 : decode cX1_enterFan 3 = .ok (.invokevirtual 45, 3) := by decide +kernel
theorem dX1_enterFan_6 : decode cX1_enterFan 6 = .ok (.aload_n 0, 1) := by decide +kernel
theorem dX1_enterFan_7 : decode cX1_enterFan 7 = .ok (.iload_n 1, 1) := by decide +kernel
theorem dX1_enterFan_8 : decode cX1_enterFan 8 = .ok (.aload_n 0, 1) := by decide +kernel
theorem dX1_enterFan_9 : decode cX1_enterFan 9 = .ok (.getfield 12, 3) := by decide +kernel
theorem dX1_enterFan_12 : decode cX1_enterFan 12 = .ok (.iload_n 2, 1) := by decide +kernel
theorem dX1_enterFan_13 : decode cX1_enterFan 13 = .ok (.iconst 1, 1) := by decide +kernel
theorem dX1_enterFan_14 : decode cX1_enterFan 14 = .ok (.if_icmp .ne 7, 3) := by decide +kernel
theorem dX1_enterFan_17 : decode cX1_enterFan 17 = .ok (.iconst 1, 1) := by decide +kernel
theorem dX1_enterFan_18 : decode cX1_enterFan 18 = .ok (.goto 4, 3) := by decide +kernel
theorem dX1_enterFan_21 : decode cX1_enterFan 21 = .ok (.iconst 2, 1) := by decide +kernel
theorem dX1_enterFan_22 : decode cX1_enterFan 22 = .ok (.aload_n 0, 1) := by decide +kernel
theorem dX1_enterFan_23 : decode cX1_enterFan 23 = .ok (.iload_n 1, 1) := by decide +kernel
theorem dX1_enterFan_24 : decode cX1_enterFan 24 = .ok (.invokevirtual 55, 3) := by decide +kernel
theorem dX1_enterFan_27 : decode cX1_enterFan 27 = .ok (.iconst 0, 1) := by decide +kernel
theorem dX1_enterFan_28 : decode cX1_enterFan 28 = .ok (.invokevirtual 59, 3) := by decide +kernel
theorem dX1_enterFan_31 : decode cX1_enterFan 31 = .ok (.invokevirtual 63, 3) := by decide +kernel
theorem dX1_enterFan_34 : decode cX1_enterFan 34 = .ok (.return_, 1) := by decide +kernel
set_option maxRecDepth 20000 in
theorem ggX1_leaveFan_X1_level : GoodIn wsX1_leaveFan wsX1_level := goodIn_r _ [6, 7, 8, 38, 39, 40, 41, 42, 43, 44, 45] (by decide +kernel) (by decide +kernel)
set_option maxRecDepth 20000 in
theorem gX1_leaveFan_X1_level : GoodIn wsX1_leaveFan (wsV RX1 55 RX1 yX1_level wsX1_level) := goodIn_app (goodIn_of _ (by decide +kernel)) ggX1_leaveFan_X1_level
set_option maxRecDepth 20000 in
theorem ggX1_leaveFan_X5_form : GoodIn wsX1_leaveFan wsX5_form := goodIn_r _ [13, 14, 15, 46, 47, 48, 49, 50, 51] (by decide +kernel) (by decide +kernel)
set_option maxRecDepth 20000 in
theorem gX1_leaveFan_X5_form : GoodIn wsX1_leaveFan (wsV RX1 66 RX5 yX5_form wsX5_form) := goodIn_app (goodIn_of _ (by decide +kernel)) ggX1_leaveFan_X5_form
set_option maxRecDepth 20000 in
theorem ggX1_leaveFan_X1_note : GoodIn wsX1_leaveFan wsX1_note := goodIn_r _ [19, 20, 21, 22, 23, 24, 1, 2, 3, 4, 5, 6, 7, 8, 25, 26, 27, 12, 28, 14, 38, 39, 40, 41, 42, 43, 44, 45, 46, 47, 48, 49, 50, 51] (by decide +kernel) (by decide +kernel)
set_option maxRecDepth 20000 in
theorem gX1_leaveFan_X1_note : GoodIn wsX1_leaveFan (wsV RX1 45 RX1 yX1_note wsX1_note) := goodIn_app (goodIn_of _ (by decide +kernel)) ggX1_leaveFan_X1_note
set_option maxRecDepth 20000 in
theorem ggX1_leaveFan_X5_left : GoodIn wsX1_leaveFan wsX5_left := goodIn_r _ [32, 14, 33, 46, 47, 48, 49, 50, 51] (by decide +kernel) (by decide +kernel)
set_option maxRecDepth 20000 in
theorem gX1_leaveFan_X5_left : GoodIn wsX1_leaveFan (wsV RX1 69 RX5 yX5_left wsX5_left) := goodIn_app (goodIn_of _ (by decide +kernel)) ggX1_leaveFan_X5_left
set_option maxRecDepth 20000 in
theorem ggX1_leaveFan_X1_set : GoodIn wsX1_leaveFan wsX1_set := goodIn_r _ [37, 7, 8, 38, 39, 40, 41, 42, 43, 44, 45] (by decide +kernel) (by decide +kernel)
set_option maxRecDepth 20000 in
theorem gX1_leaveFan_X1_set : GoodIn wsX1_leaveFan (wsV RX1 63 RX1 yX1_set wsX1_set) := goodIn_app (goodIn_of _ (by decide +kernel)) ggX1_leaveFan_X1_set
theorem dX1_leaveFan_0 : decode cX1_leaveFan 0 = .ok (.aload_n 0, 1) := by decide +kernel
theorem dX1_leaveFan_1 : decode cX1_leaveFan 1 = .ok (.iload_n 1, 1) := by decide +kernel
theorem dX1_leaveFan_2 : decode cX1_leaveFan 2 = .ok (.invokevirtual 55, 3) := by decide +kernel
theorem dX1_leaveFan_5 : decode cX1_leaveFan 5 = .ok (.istore_n 2, 1) := by decide +kernel
theorem dX1_leaveFan_6 : decode cX1_leaveFan 6 = .ok (.aload_n 0, 1) := by decide +kernel
theorem dX1_leaveFan_7 : decode cX1_leaveFan 7 = .ok (.getfield 12, 3) := by decide +kernel
theorem dX1_leaveFan_10 : decode cX1_leaveFan 10 = .ok (.iload_n 2, 1) := by decide +kernel
theorem dX1_leaveFan_11 : decode cX1_leaveFan 11 = .ok (.invokevirtual 66, 3) := by decide +kernel
theorem dX1_leaveFan_14 : decode cX1_leaveFan 14 = .ok (.istore_n 3, 1) := by decide +kernel
theorem dX1_leaveFan_15 : decode cX1_leaveFan 15 = .ok (.iload_n 3, 1) := by decide +kernel
theorem dX1_leaveFan_16 : decode cX1_leaveFan 16 = .ok (.iconst 1, 1) := by decide +kernel
theorem dX1_leaveFan_17 : decode cX1_leaveFan 17 = .ok (.if_icmp .eq 10, 3) := by decide +kernel
theorem dX1_leaveFan_20 : decode cX1_leaveFan 20 = .ok (.iload_n 3, 1) := by decide +kernel
theorem dX1_leaveFan_21 : decode cX1_leaveFan 21 = .ok (.iconst 2, 1) := by decide +kernel
theorem dX1_leaveFan_22 : decode cX1_leaveFan 22 = .ok (.if_icmp .eq 5, 3) := by decide +kernel
theorem dX1_leaveFan_25 : decode cX1_leaveFan 25 = .ok (.iconst (-1), 1) := by decide +kernel
theorem dX1_leaveFan_26 : decode cX1_leaveFan 26 = .ok (.ireturn, 1) := by decide +kernel
theorem dX1_leaveFan_27 : decode cX1_leaveFan 27 = .ok (.aload_n 0, 1) := by decide +kernel
theorem dX1_leaveFan_28 : decode cX1_leaveFan 28 = .ok (.iconst 4, 1) := by decide +kernel
theorem dX1_leaveFan_29 : decode cX1_leaveFan 29 = .ok (.iload_n 1, 1) := by decide +kernel
theorem dX1_leaveFan_30 : decode cX1_leaveFan 30 = .ok (.invokevirtual 45, 3) := by decide +kernel
theorem dX1_leaveFan_33 : decode cX1_leaveFan 33 = .ok (.aload_n 0, 1) := by decide +kernel
theorem dX1_leaveFan_34 : decode cX1_leaveFan 34 = .ok (.iload_n 1, 1) := by decide +kernel
theorem dX1_leaveFan_35 : decode cX1_leaveFan 35 = .ok (.aload_n 0, 1) := by decide +kernel
theorem dX1_leaveFan_36 : decode cX1_leaveFan 36 = .ok (.getfield 12, 3) := by decide +kernel
theorem dX1_leaveFan_39 : decode cX1_leaveFan 39 = .ok (.iload_n 2, 1) := by decide +kernel
theorem dX1_leaveFan_40 : decode cX1_leaveFan 40 = .ok (.invokevirtual 69, 3) := by decide +kernel
theorem dX1_leaveFan_43 : decode cX1_leaveFan 43 = .ok (.invokevirtual 63, 3) := by decide +kernel
theorem dX1_leaveFan_46 : decode cX1_leaveFan 46 = .ok (.iload_n 3, 1) := by decide +kernel
theorem dX1_leaveFan_47 : decode cX1_leaveFan 47 = .ok (.iconst 1, 1) := by decide +kernel
theorem dX1_leaveFan_48 : decode cX1_leaveFan 48 = .ok (.if_icmp .ne 7, 3) := by decide +kernel
theorem dX1_leaveFan_51 : decode cX1_leaveFan 51 = .ok (.iconst 1, 1) := by decide +kernel
theorem dX1_leaveFan_52 : decode cX1_leaveFan 52 = .ok (.goto 4, 3) := by decide +kernel
theorem dX1_leaveFan_55 : decode cX1_leaveFan 55 = .ok (.iconst 2, 1) := by decide +kernel
theorem dX1_leaveFan_56 : decode cX1_leaveFan 56 = .ok (.ireturn, 1) := by decide +kernel
set_option maxRecDepth 20000 in
theorem ggX1_undo_X1_delete : GoodIn wsX1_undo wsX1_delete := goodIn_r _ [11, 12, 13, 14, 15, 16, 17, 48, 49, 50, 51, 52, 53, 54, 55] (by decide +kernel) (by decide +kernel)
set_option maxRecDepth 20000 in
theorem gX1_undo_X1_delete : GoodIn wsX1_undo (wsV RX1 52 RX1 yX1_delete wsX1_delete) := goodIn_app (goodIn_of _ (by decide +kernel)) ggX1_undo_X1_delete
set_option maxRecDepth 20000 in
theorem ggX1_undo_X1_insert : GoodIn wsX1_undo wsX1_insert := goodIn_r _ [21, 12, 13, 14, 15, 16, 17, 22, 23, 24, 10, 25, 48, 49, 50, 51, 52, 53, 54, 55] (by decide +kernel) (by decide +kernel)
set_option maxRecDepth 20000 in
theorem gX1_undo_X1_insert : GoodIn wsX1_undo (wsV RX1 49 RX1 yX1_insert wsX1_insert) := goodIn_app (goodIn_of _ (by decide +kernel)) ggX1_undo_X1_insert
set_option maxRecDepth 20000 in
theorem ggX1_undo_X1_level : GoodIn wsX1_undo wsX1_level := goodIn_r _ [29, 12, 13, 48, 49, 50, 51, 52, 53, 54, 55] (by decide +kernel) (by decide +kernel)
set_option maxRecDepth 20000 in
theorem gX1_undo_X1_level : GoodIn wsX1_undo (wsV RX1 55 RX1 yX1_level wsX1_level) := goodIn_app (goodIn_of _ (by decide +kernel)) ggX1_undo_X1_level
set_option maxRecDepth 20000 in
theorem ggX1_undo_X5_right : GoodIn wsX1_undo wsX5_right := goodIn_r _ [34, 35, 36, 56, 57, 58, 59, 60, 61] (by decide +kernel) (by decide +kernel)
set_option maxRecDepth 20000 in
theorem gX1_undo_X5_right : GoodIn wsX1_undo (wsV RX1 72 RX5 yX5_right wsX5_right) := goodIn_app (goodIn_of _ (by decide +kernel)) ggX1_undo_X5_right
set_option maxRecDepth 20000 in
theorem ggX1_undo_X1_set : GoodIn wsX1_undo wsX1_set := goodIn_r _ [25, 12, 13, 48, 49, 50, 51, 52, 53, 54, 55] (by decide +kernel) (by decide +kernel)
set_option maxRecDepth 20000 in
theorem gX1_undo_X1_set : GoodIn wsX1_undo (wsV RX1 63 RX1 yX1_set wsX1_set) := goodIn_app (goodIn_of _ (by decide +kernel)) ggX1_undo_X1_set
set_option maxRecDepth 20000 in
theorem ggX1_undo_X5_cut : GoodIn wsX1_undo wsX5_cut := goodIn_r _ [40, 35, 41, 42, 43, 36, 44, 45, 46, 33, 47, 56, 57, 58, 59, 60, 61] (by decide +kernel) (by decide +kernel)
set_option maxRecDepth 20000 in
theorem gX1_undo_X5_cut : GoodIn wsX1_undo (wsV RX1 41 RX5 yX5_cut wsX5_cut) := goodIn_app (goodIn_of _ (by decide +kernel)) ggX1_undo_X5_cut
theorem dX1_undo_0 : decode cX1_undo 0 = .ok (.aload_n 0, 1) := by decide +kernel
theorem dX1_undo_1 : decode cX1_undo 1 = .ok (.getfield 38, 3) := by decide +kernel
theorem dX1_undo_4 : decode cX1_undo 4 = .ok (.iconst 1, 1) := by decide +kernel
theorem dX1_undo_5 : decode cX1_undo 5 = .ok (.if_icmp .lt 13, 3) := by decide +kernel
theorem dX1_undo_8 : decode cX1_undo 8 = .ok (.aload_n 0, 1) := by decide +kernel
theorem dX1_undo_9 : decode cX1_undo 9 = .ok (.getfield 38, 3) := by decide +kernel
theorem dX1_undo_12 : decode cX1_undo 12 = .ok (.sipush 4000, 3) := by decide +kernel
theorem dX1_undo_15 : decode cX1_undo 15 = .ok (.if_icmp .le 4, 3) := by decide +kernel
theorem dX1_undo_18 : decode cX1_undo 18 = .ok (.return_, 1) := by decide +kernel
theorem dX1_undo_19 : decode cX1_undo 19 = .ok (.aload_n 0, 1) := by decide +kernel
theorem dX1_undo_20 : decode cX1_undo 20 = .ok (.dup, 1) := by decide +kernel
theorem dX1_undo_21 : decode cX1_undo 21 = .ok (.getfield 38, 3) := by decide +kernel
theorem dX1_undo_24 : decode cX1_undo 24 = .ok (.iconst 1, 1) := by decide +kernel
theorem dX1_undo_25 : decode cX1_undo 25 = .ok (.isub, 1) := by decide +kernel
theorem dX1_undo_26 : decode cX1_undo 26 = .ok (.putfield 38, 3) := by decide +kernel
theorem dX1_undo_29 : decode cX1_undo 29 = .ok (.aload_n 0, 1) := by decide +kernel
theorem dX1_undo_30 : decode cX1_undo 30 = .ok (.getfield 25, 3) := by decide +kernel
theorem dX1_undo_33 : decode cX1_undo 33 = .ok (.aload_n 0, 1) := by decide +kernel
theorem dX1_undo_34 : decode cX1_undo 34 = .ok (.getfield 38, 3) := by decide +kernel
theorem dX1_undo_37 : decode cX1_undo 37 = .ok (.iaload, 1) := by decide +kernel
theorem dX1_undo_38 : decode cX1_undo 38 = .ok (.istore_n 1, 1) := by decide +kernel
theorem dX1_undo_39 : decode cX1_undo 39 = .ok (.aload_n 0, 1) := by decide +kernel
theorem dX1_undo_40 : decode cX1_undo 40 = .ok (.getfield 28, 3) := by decide +kernel
theorem dX1_undo_43 : decode cX1_undo 43 = .ok (.aload_n 0, 1) := by decide +kernel
theorem dX1_undo_44 : decode cX1_undo 44 = .ok (.getfield 38, 3) := by decide +kernel
theorem dX1_undo_47 : decode cX1_undo 47 = .ok (.iaload, 1) := by decide +kernel
theorem dX1_undo_48 : decode cX1_undo 48 = .ok (.istore_n 2, 1) := by decide +kernel
theorem dX1_undo_49 : decode cX1_undo 49 = .ok (.aload_n 0, 1) := by decide +kernel
theorem dX1_undo_50 : decode cX1_undo 50 = .ok (.getfield 22, 3) := by decide +kernel
theorem dX1_undo_53 : decode cX1_undo 53 = .ok (.aload_n 0, 1) := by decide +kernel
theorem dX1_undo_54 : decode cX1_undo 54 = .ok (.getfield 38, 3) := by decide +kernel
theorem dX1_undo_57 : decode cX1_undo 57 = .ok (.iaload, 1) := by decide +kernel
theorem dX1_undo_58 : decode cX1_undo 58 = .ok (.tableswitch 91 0 3 #[30, 38, 47, 75], 30) := by decide +kernel
theorem dX1_undo_88 : decode cX1_undo 88 = .ok (.aload_n 0, 1) := by decide +kernel
theorem dX1_undo_89 : decode cX1_undo 89 = .ok (.iload_n 1, 1) := by decide +kernel
theorem dX1_undo_90 : decode cX1_undo 90 = .ok (.invokevirtual 52, 3) := by decide +kernel
theorem dX1_undo_93 : decode cX1_undo 93 = .ok (.goto 62, 3) := by decide +kernel
theorem dX1_undo_96 : decode cX1_undo 96 = .ok (.aload_n 0, 1) := by decide +kernel
theorem dX1_undo_97 : decode cX1_undo 97 = .ok (.iload_n 1, 1) := by decide +kernel
theorem dX1_undo_98 : decode cX1_undo 98 = .ok (.iload_n 2, 1) := by decide +kernel
theorem dX1_undo_99 : decode cX1_undo 99 = .ok (.invokevirtual 49, 3) := by decide +kernel
theorem dX1_undo_102 : decode cX1_undo 102 = .ok (.goto 53, 3) := by decide +kernel
theorem dX1_undo_105 : decode cX1_undo 105 = .ok (.aload_n 0, 1) := by decide +kernel
theorem dX1_undo_106 : decode cX1_undo 106 = .ok (.iload_n 1, 1) := by decide +kernel
theorem dX1_undo_107 : decode cX1_undo 107 = .ok (.iconst 1, 1) := by decide +kernel
theorem dX1_undo_108 : decode cX1_undo 108 = .ok (.iadd, 1) := by decide +kernel
theorem dX1_undo_109 : decode cX1_undo 109 = .ok (.aload_n 0, 1) := by decide +kernel
theorem dX1_undo_110 : decode cX1_undo 110 = .ok (.getfield 12, 3) := by decide +kernel
theorem dX1_undo_113 : decode cX1_undo 113 = .ok (.aload_n 0, 1) := by decide +kernel
theorem dX1_undo_114 : decode cX1_undo 114 = .ok (.iload_n 1, 1) := by decide +kernel
theorem dX1_undo_115 : decode cX1_undo 115 = .ok (.invokevirtual 55, 3) := by decide +kernel
theorem dX1_undo_118 : decode cX1_undo 118 = .ok (.invokevirtual 72, 3) := by decide +kernel
theorem dX1_undo_121 : decode cX1_undo 121 = .ok (.invokevirtual 49, 3) := by decide +kernel
theorem dX1_undo_124 : decode cX1_undo 124 = .ok (.aload_n 0, 1) := by decide +kernel
theorem dX1_undo_125 : decode cX1_undo 125 = .ok (.iload_n 1, 1) := by decide +kernel
theorem dX1_undo_126 : decode cX1_undo 126 = .ok (.iload_n 2, 1) := by decide +kernel
theorem dX1_undo_127 : decode cX1_undo 127 = .ok (.invokevirtual 63, 3) := by decide +kernel
theorem dX1_undo_130 : decode cX1_undo 130 = .ok (.goto 25, 3) := by decide +kernel
theorem dX1_undo_133 : decode cX1_undo 133 = .ok (.aload_n 0, 1) := by decide +kernel
theorem dX1_undo_134 : decode cX1_undo 134 = .ok (.iload_n 1, 1) := by decide +kernel
theorem dX1_undo_135 : decode cX1_undo 135 = .ok (.iload_n 2, 1) := by decide +kernel
theorem dX1_undo_136 : decode cX1_undo 136 = .ok (.invokevirtual 63, 3) := by decide +kernel
theorem dX1_undo_139 : decode cX1_undo 139 = .ok (.aload_n 0, 1) := by decide +kernel
theorem dX1_undo_140 : decode cX1_undo 140 = .ok (.iload_n 1, 1) := by decide +kernel
theorem dX1_undo_141 : decode cX1_undo 141 = .ok (.iconst 1, 1) := by decide +kernel
theorem dX1_undo_142 : decode cX1_undo 142 = .ok (.iadd, 1) := by decide +kernel
theorem dX1_undo_143 : decode cX1_undo 143 = .ok (.invokevirtual 52, 3) := by decide +kernel
theorem dX1_undo_146 : decode cX1_undo 146 = .ok (.goto 9, 3) := by decide +kernel
theorem dX1_undo_149 : decode cX1_undo 149 = .ok (.aload_n 0, 1) := by decide +kernel
theorem dX1_undo_150 : decode cX1_undo 150 = .ok (.iload_n 1, 1) := by decide +kernel
theorem dX1_undo_151 : decode cX1_undo 151 = .ok (.iload_n 2, 1) := by decide +kernel
theorem dX1_undo_152 : decode cX1_undo 152 = .ok (.invokevirtual 63, 3) := by decide +kernel
theorem dX1_undo_155 : decode cX1_undo 155 = .ok (.aload_n 0, 1) := by decide +kernel
theorem dX1_undo_156 : decode cX1_undo 156 = .ok (.getfield 12, 3) := by decide +kernel
theorem dX1_undo_159 : decode cX1_undo 159 = .ok (.aload_n 0, 1) := by decide +kernel
theorem dX1_undo_160 : decode cX1_undo 160 = .ok (.getfield 31, 3) := by decide +kernel
theorem dX1_undo_163 : decode cX1_undo 163 = .ok (.aload_n 0, 1) := by decide +kernel
theorem dX1_undo_164 : decode cX1_undo 164 = .ok (.getfield 38, 3) := by decide +kernel
theorem dX1_undo_167 : decode cX1_undo 167 = .ok (.iaload, 1) := by decide +kernel
theorem dX1_undo_168 : decode cX1_undo 168 = .ok (.invokevirtual 41, 3) := by decide +kernel
theorem dX1_undo_171 : decode cX1_undo 171 = .ok (.return_, 1) := by decide +kernel
set_option maxRecDepth 20000 in
theorem ggX1_undoTo_X1_undo : GoodIn wsX1_undoTo wsX1_undo := goodIn_r _ [6, 1, 7, 8, 9, 10, 11, 12, 13, 14, 5, 15, 16, 17, 18, 19, 20, 21, 22, 23, 24, 25, 26, 27, 28, 29, 30, 31, 32, 33, 34, 35, 36, 37, 38, 39, 40, 41, 42, 43, 44, 45, 46, 47, 48, 49, 50, 51, 52, 53, 54, 55, 56, 57, 58, 59, 60, 61, 62, 63, 64, 65] (by decide +kernel) (by decide +kernel)
set_option maxRecDepth 20000 in
theorem gX1_undoTo_X1_undo : GoodIn wsX1_undoTo (wsV RX1 75 RX1 yX1_undo wsX1_undo) := goodIn_app (goodIn_of _ (by decide +kernel)) ggX1_undoTo_X1_undo
theorem dX1_undoTo_0 : decode cX1_undoTo 0 = .ok (.aload_n 0, 1) := by decide +kernel
theorem dX1_undoTo_1 : decode cX1_undoTo 1 = .ok (.getfield 38, 3) := by decide +kernel
theorem dX1_undoTo_4 : decode cX1_undoTo 4 = .ok (.iload_n 1, 1) := by decide +kernel
theorem dX1_undoTo_5 : decode cX1_undoTo 5 = .ok (.isub, 1) := by decide +kernel
theorem dX1_undoTo_6 : decode cX1_undoTo 6 = .ok (.istore_n 2, 1) := by decide +kernel
theorem dX1_undoTo_7 : decode cX1_undoTo 7 = .ok (.iload_n 2, 1) := by decide +kernel
theorem dX1_undoTo_8 : decode cX1_undoTo 8 = .ok (.ifCond .le 13, 3) := by decide +kernel
theorem dX1_undoTo_11 : decode cX1_undoTo 11 = .ok (.aload_n 0, 1) := by decide +kernel
theorem dX1_undoTo_12 : decode cX1_undoTo 12 = .ok (.invokevirtual 75, 3) := by decide +kernel
theorem dX1_undoTo_15 : decode cX1_undoTo 15 = .ok (.iinc 2 (-1), 3) := by decide +kernel
theorem dX1_undoTo_18 : decode cX1_undoTo 18 = .ok (.goto (-11), 3) := by decide +kernel
theorem dX1_undoTo_21 : decode cX1_undoTo 21 = .ok (.return_, 1) := by decide +kernel
theorem dX3_init_0 : decode cX3_init 0 = .ok (.aload_n 0, 1) := by decide +kernel
theorem dX3_init_1 : decode cX3_init 1 = .ok (.invokespecial 3, 3) := by decide +kernel
theorem dX3_init_4 : decode cX3_init 4 = .ok (.aload_n 0, 1) := by decide +kernel
theorem dX3_init_5 : decode cX3_init 5 = .ok (.aload_n 1, 1) := by decide +kernel
theorem dX3_init_6 : decode cX3_init 6 = .ok (.putfield 9, 3) := by decide +kernel
theorem dX3_init_9 : decode cX3_init 9 = .ok (.return_, 1) := by decide +kernel
theorem dX3_clear_0 : decode cX3_clear 0 = .ok (.aload_n 0, 1) := by decide +kernel
theorem dX3_clear_1 : decode cX3_clear 1 = .ok (.iconst 0, 1) := by decide +kernel
theorem dX3_clear_2 : decode cX3_clear 2 = .ok (.putfield 15, 3) := by decide +kernel
theorem dX3_clear_5 : decode cX3_clear 5 = .ok (.aload_n 0, 1) := by decide +kernel
theorem dX3_clear_6 : decode cX3_clear 6 = .ok (.iconst 0, 1) := by decide +kernel
theorem dX3_clear_7 : decode cX3_clear 7 = .ok (.putfield 19, 3) := by decide +kernel
theorem dX3_clear_10 : decode cX3_clear 10 = .ok (.aload_n 0, 1) := by decide +kernel
theorem dX3_clear_11 : decode cX3_clear 11 = .ok (.iconst 0, 1) := by decide +kernel
theorem dX3_clear_12 : decode cX3_clear 12 = .ok (.putfield 22, 3) := by decide +kernel
theorem dX3_clear_15 : decode cX3_clear 15 = .ok (.return_, 1) := by decide +kernel
theorem dX3_betas_0 : decode cX3_betas 0 = .ok (.aload_n 0, 1) := by decide +kernel
theorem dX3_betas_1 : decode cX3_betas 1 = .ok (.getfield 15, 3) := by decide +kernel
theorem dX3_betas_4 : decode cX3_betas 4 = .ok (.ireturn, 1) := by decide +kernel
theorem dX3_annihilations_0 : decode cX3_annihilations 0 = .ok (.aload_n 0, 1) := by decide +kernel
theorem dX3_annihilations_1 : decode cX3_annihilations 1 = .ok (.getfield 19, 3) := by decide +kernel
theorem dX3_annihilations_4 : decode cX3_annihilations 4 = .ok (.ireturn, 1) := by decide +kernel
theorem dX3_passings_0 : decode cX3_passings 0 = .ok (.aload_n 0, 1) := by decide +kernel
theorem dX3_passings_1 : decode cX3_passings 1 = .ok (.getfield 22, 3) := by decide +kernel
theorem dX3_passings_4 : decode cX3_passings 4 = .ok (.ireturn, 1) := by decide +kernel
set_option maxRecDepth 20000 in
theorem ggX3_sameIndex_X2_indexOf : GoodIn wsX3_sameIndex wsX2_indexOf := goodIn_r _ [6, 7, 12, 13, 14, 15, 16, 17, 18, 19, 20, 21] (by decide +kernel) (by decide +kernel)
set_option maxRecDepth 20000 in
theorem gX3_sameIndex_X2_indexOf : GoodIn wsX3_sameIndex (wsV RX3 58 RX2 yX2_indexOf wsX2_indexOf) := goodIn_app (goodIn_of _ (by decide +kernel)) ggX3_sameIndex_X2_indexOf
theorem dX3_sameIndex_0 : decode cX3_sameIndex 0 = .ok (.aload_n 0, 1) := by decide +kernel
theorem dX3_sameIndex_1 : decode cX3_sameIndex 1 = .ok (.getfield 9, 3) := by decide +kernel
theorem dX3_sameIndex_4 : decode cX3_sameIndex 4 = .ok (.iload_n 1, 1) := by decide +kernel
theorem dX3_sameIndex_5 : decode cX3_sameIndex 5 = .ok (.invokevirtual 58, 3) := by decide +kernel
theorem dX3_sameIndex_8 : decode cX3_sameIndex 8 = .ok (.aload_n 0, 1) := by decide +kernel
theorem dX3_sameIndex_9 : decode cX3_sameIndex 9 = .ok (.getfield 9, 3) := by decide +kernel
theorem dX3_sameIndex_12 : decode cX3_sameIndex 12 = .ok (.iload_n 2, 1) := by decide +kernel
theorem dX3_sameIndex_13 : decode cX3_sameIndex 13 = .ok (.invokevirtual 58, 3) := by decide +kernel
theorem dX3_sameIndex_16 : decode cX3_sameIndex 16 = .ok (.if_icmp .ne 7, 3) := by decide +kernel
theorem dX3_sameIndex_19 : decode cX3_sameIndex 19 = .ok (.iconst 1, 1) := by decide +kernel
theorem dX3_sameIndex_20 : decode cX3_sameIndex 20 = .ok (.goto 4, 3) := by decide +kernel
theorem dX3_sameIndex_23 : decode cX3_sameIndex 23 = .ok (.iconst 0, 1) := by decide +kernel
theorem dX3_sameIndex_24 : decode cX3_sameIndex 24 = .ok (.ireturn, 1) := by decide +kernel
set_option maxRecDepth 20000 in
theorem ggX3_isBeta_X2_kindOf : GoodIn wsX3_isBeta wsX2_kindOf := goodIn_r _ [6, 7, 22, 23, 24, 25, 26, 27, 28, 29, 30, 31] (by decide +kernel) (by decide +kernel)
set_option maxRecDepth 20000 in
theorem gX3_isBeta_X2_kindOf : GoodIn wsX3_isBeta (wsV RX3 45 RX2 yX2_kindOf wsX2_kindOf) := goodIn_app (goodIn_of _ (by decide +kernel)) ggX3_isBeta_X2_kindOf
set_option maxRecDepth 20000 in
theorem ggX3_isBeta_X3_sameIndex : GoodIn wsX3_isBeta wsX3_sameIndex := goodIn_r _ [12, 1, 13, 14, 15, 5, 16, 17, 18, 19, 20, 21, 22, 23, 24, 25, 26, 27, 28, 29, 30, 31] (by decide +kernel) (by decide +kernel)
set_option maxRecDepth 20000 in
theorem gX3_isBeta_X3_sameIndex : GoodIn wsX3_isBeta (wsV RX3 51 RX3 yX3_sameIndex wsX3_sameIndex) := goodIn_app (goodIn_of _ (by decide +kernel)) ggX3_isBeta_X3_sameIndex
theorem dX3_isBeta_0 : decode cX3_isBeta 0 = .ok (.aload_n 0, 1) := by decide +kernel
theorem dX3_isBeta_1 : decode cX3_isBeta 1 = .ok (.getfield 9, 3) := by decide +kernel
theorem dX3_isBeta_4 : decode cX3_isBeta 4 = .ok (.iload_n 1, 1) := by decide +kernel
theorem dX3_isBeta_5 : decode cX3_isBeta 5 = .ok (.invokevirtual 45, 3) := by decide +kernel
theorem dX3_isBeta_8 : decode cX3_isBeta 8 = .ok (.istore_n 3, 1) := by decide +kernel
theorem dX3_isBeta_9 : decode cX3_isBeta 9 = .ok (.aload_n 0, 1) := by decide +kernel
theorem dX3_isBeta_10 : decode cX3_isBeta 10 = .ok (.getfield 9, 3) := by decide +kernel
theorem dX3_isBeta_13 : decode cX3_isBeta 13 = .ok (.iload_n 2, 1) := by decide +kernel
theorem dX3_isBeta_14 : decode cX3_isBeta 14 = .ok (.invokevirtual 45, 3) := by decide +kernel
theorem dX3_isBeta_17 : decode cX3_isBeta 17 = .ok (.istore 4, 2) := by decide +kernel
theorem dX3_isBeta_19 : decode cX3_isBeta 19 = .ok (.aload_n 0, 1) := by decide +kernel
theorem dX3_isBeta_20 : decode cX3_isBeta 20 = .ok (.iload_n 1, 1) := by decide +kernel
theorem dX3_isBeta_21 : decode cX3_isBeta 21 = .ok (.iload_n 2, 1) := by decide +kernel
theorem dX3_isBeta_22 : decode cX3_isBeta 22 = .ok (.invokevirtual 51, 3) := by decide +kernel
theorem dX3_isBeta_25 : decode cX3_isBeta 25 = .ok (.ifCond .eq 27, 3) := by decide +kernel
theorem dX3_isBeta_28 : decode cX3_isBeta 28 = .ok (.iload_n 3, 1) := by decide +kernel
theorem dX3_isBeta_29 : decode cX3_isBeta 29 = .ok (.ifCond .ne 9, 3) := by decide +kernel
theorem dX3_isBeta_32 : decode cX3_isBeta 32 = .ok (.iload 4, 2) := by decide +kernel
theorem dX3_isBeta_34 : decode cX3_isBeta 34 = .ok (.iconst 1, 1) := by decide +kernel
theorem dX3_isBeta_35 : decode cX3_isBeta 35 = .ok (.if_icmp .eq 13, 3) := by decide +kernel
theorem dX3_isBeta_38 : decode cX3_isBeta 38 = .ok (.iload_n 3, 1) := by decide +kernel
theorem dX3_isBeta_39 : decode cX3_isBeta 39 = .ok (.iconst 1, 1) := by decide +kernel
theorem dX3_isBeta_40 : decode cX3_isBeta 40 = .ok (.if_icmp .ne 12, 3) := by decide +kernel
theorem dX3_isBeta_43 : decode cX3_isBeta 43 = .ok (.iload 4, 2) := by decide +kernel
theorem dX3_isBeta_45 : decode cX3_isBeta 45 = .ok (.ifCond .ne 7, 3) := by decide +kernel
theorem dX3_isBeta_48 : decode cX3_isBeta 48 = .ok (.iconst 1, 1) := by decide +kernel
theorem dX3_isBeta_49 : decode cX3_isBeta 49 = .ok (.goto 4, 3) := by decide +kernel
theorem dX3_isBeta_52 : decode cX3_isBeta 52 = .ok (.iconst 0, 1) := by decide +kernel
theorem dX3_isBeta_53 : decode cX3_isBeta 53 = .ok (.ireturn, 1) := by decide +kernel
set_option maxRecDepth 20000 in
theorem ggX3_isAnnihilation_X2_kindOf : GoodIn wsX3_isAnnihilation wsX2_kindOf := goodIn_r _ [6, 7, 25, 26, 27, 28, 29, 30, 31, 32, 33, 34] (by decide +kernel) (by decide +kernel)
set_option maxRecDepth 20000 in
theorem gX3_isAnnihilation_X2_kindOf : GoodIn wsX3_isAnnihilation (wsV RX3 45 RX2 yX2_kindOf wsX2_kindOf) := goodIn_app (goodIn_of _ (by decide +kernel)) ggX3_isAnnihilation_X2_kindOf
set_option maxRecDepth 20000 in
theorem ggX3_isAnnihilation_X3_sameIndex : GoodIn wsX3_isAnnihilation wsX3_sameIndex := goodIn_r _ [12, 1, 13, 14, 15, 5, 16, 17, 21, 22, 23, 24, 25, 26, 27, 28, 29, 30, 31, 32, 33, 34] (by decide +kernel) (by decide +kernel)
set_option maxRecDepth 20000 in
theorem gX3_isAnnihilation_X3_sameIndex : GoodIn wsX3_isAnnihilation (wsV RX3 51 RX3 yX3_sameIndex wsX3_sameIndex) := goodIn_app (goodIn_of _ (by decide +kernel)) ggX3_isAnnihilation_X3_sameIndex
set_option maxRecDepth 20000 in
theorem ggX3_isAnnihilation_X7_isControl : GoodIn wsX3_isAnnihilation wsX7_isControl := goodIn_r _ [20] (by decide +kernel) (by decide +kernel)
set_option maxRecDepth 20000 in
theorem gX3_isAnnihilation_X7_isControl_n54 : GoodIn wsX3_isAnnihilation (wsX7_isControl) := ggX3_isAnnihilation_X7_isControl
theorem dX3_isAnnihilation_0 : decode cX3_isAnnihilation 0 = .ok (.aload_n 0, 1) := by decide +kernel
theorem dX3_isAnnihilation_1 : decode cX3_isAnnihilation 1 = .ok (.getfield 9, 3) := by decide +kernel
theorem dX3_isAnnihilation_4 : decode cX3_isAnnihilation 4 = .ok (.iload_n 1, 1) := by decide +kernel
theorem dX3_isAnnihilation_5 : decode cX3_isAnnihilation 5 = .ok (.invokevirtual 45, 3) := by decide +kernel
theorem dX3_isAnnihilation_8 : decode cX3_isAnnihilation 8 = .ok (.istore_n 3, 1) := by decide +kernel
theorem dX3_isAnnihilation_9 : decode cX3_isAnnihilation 9 = .ok (.aload_n 0, 1) := by decide +kernel
theorem dX3_isAnnihilation_10 : decode cX3_isAnnihilation 10 = .ok (.iload_n 1, 1) := by decide +kernel
theorem dX3_isAnnihilation_11 : decode cX3_isAnnihilation 11 = .ok (.iload_n 2, 1) := by decide +kernel
theorem dX3_isAnnihilation_12 : decode cX3_isAnnihilation 12 = .ok (.invokevirtual 51, 3) := by decide +kernel
theorem dX3_isAnnihilation_15 : decode cX3_isAnnihilation 15 = .ok (.ifCond .eq 26, 3) := by decide +kernel
theorem dX3_isAnnihilation_18 : decode cX3_isAnnihilation 18 = .ok (.iload_n 3, 1) := by decide +kernel
theorem dX3_isAnnihilation_19 : decode cX3_isAnnihilation 19 = .ok (.aload_n 0, 1) := by decide +kernel
theorem dX3_isAnnihilation_20 : decode cX3_isAnnihilation 20 = .ok (.getfield 9, 3) := by decide +kernel
theorem dX3_isAnnihilation_23 : decode cX3_isAnnihilation 23 = .ok (.iload_n 2, 1) := by decide +kernel
theorem dX3_isAnnihilation_24 : decode cX3_isAnnihilation 24 = .ok (.invokevirtual 45, 3) := by decide +kernel
theorem dX3_isAnnihilation_27 : decode cX3_isAnnihilation 27 = .ok (.if_icmp .ne 14, 3) := by decide +kernel
theorem dX3_isAnnihilation_30 : decode cX3_isAnnihilation 30 = .ok (.iload_n 3, 1) := by decide +kernel
theorem dX3_isAnnihilation_31 : decode cX3_isAnnihilation 31 = .ok (.invokestatic 54, 3) := by decide +kernel
theorem dX3_isAnnihilation_34 : decode cX3_isAnnihilation 34 = .ok (.ifCond .eq 7, 3) := by decide +kernel
theorem dX3_isAnnihilation_37 : decode cX3_isAnnihilation 37 = .ok (.iconst 1, 1) := by decide +kernel
theorem dX3_isAnnihilation_38 : decode cX3_isAnnihilation 38 = .ok (.goto 4, 3) := by decide +kernel
theorem dX3_isAnnihilation_41 : decode cX3_isAnnihilation 41 = .ok (.iconst 0, 1) := by decide +kernel
theorem dX3_isAnnihilation_42 : decode cX3_isAnnihilation 42 = .ok (.ireturn, 1) := by decide +kernel
set_option maxRecDepth 20000 in
theorem ggX3_passes_X2_kindOf : GoodIn wsX3_passes wsX2_kindOf := goodIn_r _ [6, 7, 20, 21, 22, 23, 24, 25, 26, 27, 28, 29] (by decide +kernel) (by decide +kernel)
set_option maxRecDepth 20000 in
theorem gX3_passes_X2_kindOf : GoodIn wsX3_passes (wsV RX3 45 RX2 yX2_kindOf wsX2_kindOf) := goodIn_app (goodIn_of _ (by decide +kernel)) ggX3_passes_X2_kindOf
set_option maxRecDepth 20000 in
theorem ggX3_passes_X7_isControl : GoodIn wsX3_passes wsX7_isControl := goodIn_r _ [10] (by decide +kernel) (by decide +kernel)
set_option maxRecDepth 20000 in
theorem gX3_passes_X7_isControl_n54 : GoodIn wsX3_passes (wsX7_isControl) := ggX3_passes_X7_isControl
set_option maxRecDepth 20000 in
theorem ggX3_passes_X2_indexOf : GoodIn wsX3_passes wsX2_indexOf := goodIn_r _ [14, 15, 20, 21, 22, 23, 24, 25, 26, 27, 28, 29] (by decide +kernel) (by decide +kernel)
set_option maxRecDepth 20000 in
theorem gX3_passes_X2_indexOf : GoodIn wsX3_passes (wsV RX3 58 RX2 yX2_indexOf wsX2_indexOf) := goodIn_app (goodIn_of _ (by decide +kernel)) ggX3_passes_X2_indexOf
theorem dX3_passes_0 : decode cX3_passes 0 = .ok (.aload_n 0, 1) := by decide +kernel
theorem dX3_passes_1 : decode cX3_passes 1 = .ok (.getfield 9, 3) := by decide +kernel
theorem dX3_passes_4 : decode cX3_passes 4 = .ok (.iload_n 1, 1) := by decide +kernel
theorem dX3_passes_5 : decode cX3_passes 5 = .ok (.invokevirtual 45, 3) := by decide +kernel
theorem dX3_passes_8 : decode cX3_passes 8 = .ok (.invokestatic 54, 3) := by decide +kernel
theorem dX3_passes_11 : decode cX3_passes 11 = .ok (.ifCond .eq 26, 3) := by decide +kernel
theorem dX3_passes_14 : decode cX3_passes 14 = .ok (.aload_n 0, 1) := by decide +kernel
theorem dX3_passes_15 : decode cX3_passes 15 = .ok (.getfield 9, 3) := by decide +kernel
theorem dX3_passes_18 : decode cX3_passes 18 = .ok (.iload_n 1, 1) := by decide +kernel
theorem dX3_passes_19 : decode cX3_passes 19 = .ok (.invokevirtual 58, 3) := by decide +kernel
theorem dX3_passes_22 : decode cX3_passes 22 = .ok (.aload_n 0, 1) := by decide +kernel
theorem dX3_passes_23 : decode cX3_passes 23 = .ok (.getfield 9, 3) := by decide +kernel
theorem dX3_passes_26 : decode cX3_passes 26 = .ok (.iload_n 2, 1) := by decide +kernel
theorem dX3_passes_27 : decode cX3_passes 27 = .ok (.invokevirtual 58, 3) := by decide +kernel
theorem dX3_passes_30 : decode cX3_passes 30 = .ok (.if_icmp .ge 7, 3) := by decide +kernel
theorem dX3_passes_33 : decode cX3_passes 33 = .ok (.iconst 1, 1) := by decide +kernel
theorem dX3_passes_34 : decode cX3_passes 34 = .ok (.goto 4, 3) := by decide +kernel
theorem dX3_passes_37 : decode cX3_passes 37 = .ok (.iconst 0, 1) := by decide +kernel
theorem dX3_passes_38 : decode cX3_passes 38 = .ok (.ireturn, 1) := by decide +kernel
set_option maxRecDepth 20000 in
theorem ggX3_passedIndex_X2_indexOf : GoodIn wsX3_passedIndex wsX2_indexOf := goodIn_r _ [6, 7, 17, 18, 19, 20, 21, 22, 23, 24, 25, 26] (by decide +kernel) (by decide +kernel)
set_option maxRecDepth 20000 in
theorem gX3_passedIndex_X2_indexOf : GoodIn wsX3_passedIndex (wsV RX3 58 RX2 yX2_indexOf wsX2_indexOf) := goodIn_app (goodIn_of _ (by decide +kernel)) ggX3_passedIndex_X2_indexOf
set_option maxRecDepth 20000 in
theorem ggX3_passedIndex_X2_kindOf : GoodIn wsX3_passedIndex wsX2_kindOf := goodIn_r _ [11, 12, 17, 18, 19, 20, 21, 22, 23, 24, 25, 26] (by decide +kernel) (by decide +kernel)
set_option maxRecDepth 20000 in
theorem gX3_passedIndex_X2_kindOf : GoodIn wsX3_passedIndex (wsV RX3 45 RX2 yX2_kindOf wsX2_kindOf) := goodIn_app (goodIn_of _ (by decide +kernel)) ggX3_passedIndex_X2_kindOf
theorem dX3_passedIndex_0 : decode cX3_passedIndex 0 = .ok (.aload_n 0, 1) := by decide +kernel
theorem dX3_passedIndex_1 : decode cX3_passedIndex 1 = .ok (.getfield 9, 3) := by decide +kernel
theorem dX3_passedIndex_4 : decode cX3_passedIndex 4 = .ok (.iload_n 2, 1) := by decide +kernel
theorem dX3_passedIndex_5 : decode cX3_passedIndex 5 = .ok (.invokevirtual 58, 3) := by decide +kernel
theorem dX3_passedIndex_8 : decode cX3_passedIndex 8 = .ok (.istore_n 3, 1) := by decide +kernel
theorem dX3_passedIndex_9 : decode cX3_passedIndex 9 = .ok (.aload_n 0, 1) := by decide +kernel
theorem dX3_passedIndex_10 : decode cX3_passedIndex 10 = .ok (.getfield 9, 3) := by decide +kernel
theorem dX3_passedIndex_13 : decode cX3_passedIndex 13 = .ok (.iload_n 1, 1) := by decide +kernel
theorem dX3_passedIndex_14 : decode cX3_passedIndex 14 = .ok (.invokevirtual 45, 3) := by decide +kernel
theorem dX3_passedIndex_17 : decode cX3_passedIndex 17 = .ok (.lookupswitch 35 #[(3, 27), (4, 31)], 27) := by decide +kernel
theorem dX3_passedIndex_44 : decode cX3_passedIndex 44 = .ok (.iload_n 3, 1) := by decide +kernel
theorem dX3_passedIndex_45 : decode cX3_passedIndex 45 = .ok (.iconst 1, 1) := by decide +kernel
theorem dX3_passedIndex_46 : decode cX3_passedIndex 46 = .ok (.isub, 1) := by decide +kernel
theorem dX3_passedIndex_47 : decode cX3_passedIndex 47 = .ok (.ireturn, 1) := by decide +kernel
theorem dX3_passedIndex_48 : decode cX3_passedIndex 48 = .ok (.iload_n 3, 1) := by decide +kernel
theorem dX3_passedIndex_49 : decode cX3_passedIndex 49 = .ok (.iconst 1, 1) := by decide +kernel
theorem dX3_passedIndex_50 : decode cX3_passedIndex 50 = .ok (.iadd, 1) := by decide +kernel
theorem dX3_passedIndex_51 : decode cX3_passedIndex 51 = .ok (.ireturn, 1) := by decide +kernel
theorem dX3_passedIndex_52 : decode cX3_passedIndex 52 = .ok (.iload_n 3, 1) := by decide +kernel
theorem dX3_passedIndex_53 : decode cX3_passedIndex 53 = .ok (.ireturn, 1) := by decide +kernel
set_option maxRecDepth 20000 in
theorem ggX3_hasRoom_X2_kindOf : GoodIn wsX3_hasRoom wsX2_kindOf := goodIn_r _ [6, 7, 30, 31, 32, 33, 34, 35, 36, 37, 38, 39] (by decide +kernel) (by decide +kernel)
set_option maxRecDepth 20000 in
theorem gX3_hasRoom_X2_kindOf : GoodIn wsX3_hasRoom (wsV RX3 45 RX2 yX2_kindOf wsX2_kindOf) := goodIn_app (goodIn_of _ (by decide +kernel)) ggX3_hasRoom_X2_kindOf
set_option maxRecDepth 20000 in
theorem ggX3_hasRoom_X2_size : GoodIn wsX3_hasRoom wsX2_size := goodIn_r _ [11, 12, 30, 31, 32, 33, 34, 35, 36, 37, 38, 39] (by decide +kernel) (by decide +kernel)
set_option maxRecDepth 20000 in
theorem gX3_hasRoom_X2_size : GoodIn wsX3_hasRoom (wsV RX3 61 RX2 yX2_size wsX2_size) := goodIn_app (goodIn_of _ (by decide +kernel)) ggX3_hasRoom_X2_size
set_option maxRecDepth 20000 in
theorem ggX3_hasRoom_X7_otherPorts : GoodIn wsX3_hasRoom wsX7_otherPorts := goodIn_r _ [15] (by decide +kernel) (by decide +kernel)
set_option maxRecDepth 20000 in
theorem gX3_hasRoom_X7_otherPorts_n65 : GoodIn wsX3_hasRoom (wsX7_otherPorts) := ggX3_hasRoom_X7_otherPorts
set_option maxRecDepth 20000 in
theorem ggX3_hasRoom_X3_passedIndex : GoodIn wsX3_hasRoom wsX3_passedIndex := goodIn_r _ [20, 1, 21, 22, 23, 5, 24, 25, 2, 3, 4, 6, 7, 26, 27, 28, 29, 30, 31, 32, 33, 34, 35, 36, 37, 38, 39] (by decide +kernel) (by decide +kernel)
set_option maxRecDepth 20000 in
theorem gX3_hasRoom_X3_passedIndex : GoodIn wsX3_hasRoom (wsV RX3 68 RX3 yX3_passedIndex wsX3_passedIndex) := goodIn_app (goodIn_of _ (by decide +kernel)) ggX3_hasRoom_X3_passedIndex
theorem dX3_hasRoom_0 : decode cX3_hasRoom 0 = .ok (.aload_n 0, 1) := by decide +kernel
theorem dX3_hasRoom_1 : decode cX3_hasRoom 1 = .ok (.getfield 9, 3) := by decide +kernel
theorem dX3_hasRoom_4 : decode cX3_hasRoom 4 = .ok (.iload_n 1, 1) := by decide +kernel
theorem dX3_hasRoom_5 : decode cX3_hasRoom 5 = .ok (.invokevirtual 45, 3) := by decide +kernel
theorem dX3_hasRoom_8 : decode cX3_hasRoom 8 = .ok (.iconst 2, 1) := by decide +kernel
theorem dX3_hasRoom_9 : decode cX3_hasRoom 9 = .ok (.if_icmp .ne 7, 3) := by decide +kernel
theorem dX3_hasRoom_12 : decode cX3_hasRoom 12 = .ok (.iconst 2, 1) := by decide +kernel
theorem dX3_hasRoom_13 : decode cX3_hasRoom 13 = .ok (.goto 4, 3) := by decide +kernel
theorem dX3_hasRoom_16 : decode cX3_hasRoom 16 = .ok (.iconst 1, 1) := by decide +kernel
theorem dX3_hasRoom_17 : decode cX3_hasRoom 17 = .ok (.istore_n 3, 1) := by decide +kernel
theorem dX3_hasRoom_18 : decode cX3_hasRoom 18 = .ok (.aload_n 0, 1) := by decide +kernel
theorem dX3_hasRoom_19 : decode cX3_hasRoom 19 = .ok (.getfield 9, 3) := by decide +kernel
theorem dX3_hasRoom_22 : decode cX3_hasRoom 22 = .ok (.invokevirtual 61, 3) := by decide +kernel
theorem dX3_hasRoom_25 : decode cX3_hasRoom 25 = .ok (.iconst 2, 1) := by decide +kernel
theorem dX3_hasRoom_26 : decode cX3_hasRoom 26 = .ok (.isub, 1) := by decide +kernel
theorem dX3_hasRoom_27 : decode cX3_hasRoom 27 = .ok (.iload_n 3, 1) := by decide +kernel
theorem dX3_hasRoom_28 : decode cX3_hasRoom 28 = .ok (.iadd, 1) := by decide +kernel
theorem dX3_hasRoom_29 : decode cX3_hasRoom 29 = .ok (.aload_n 0, 1) := by decide +kernel
theorem dX3_hasRoom_30 : decode cX3_hasRoom 30 = .ok (.getfield 9, 3) := by decide +kernel
theorem dX3_hasRoom_33 : decode cX3_hasRoom 33 = .ok (.iload_n 2, 1) := by decide +kernel
theorem dX3_hasRoom_34 : decode cX3_hasRoom 34 = .ok (.invokevirtual 45, 3) := by decide +kernel
theorem dX3_hasRoom_37 : decode cX3_hasRoom 37 = .ok (.invokestatic 65, 3) := by decide +kernel
theorem dX3_hasRoom_40 : decode cX3_hasRoom 40 = .ok (.iadd, 1) := by decide +kernel
theorem dX3_hasRoom_41 : decode cX3_hasRoom 41 = .ok (.istore 4, 2) := by decide +kernel
theorem dX3_hasRoom_43 : decode cX3_hasRoom 43 = .ok (.iload 4, 2) := by decide +kernel
theorem dX3_hasRoom_45 : decode cX3_hasRoom 45 = .ok (.sipush 3000, 3) := by decide +kernel
theorem dX3_hasRoom_48 : decode cX3_hasRoom 48 = .ok (.if_icmp .gt 18, 3) := by decide +kernel
theorem dX3_hasRoom_51 : decode cX3_hasRoom 51 = .ok (.aload_n 0, 1) := by decide +kernel
theorem dX3_hasRoom_52 : decode cX3_hasRoom 52 = .ok (.iload_n 1, 1) := by decide +kernel
theorem dX3_hasRoom_53 : decode cX3_hasRoom 53 = .ok (.iload_n 2, 1) := by decide +kernel
theorem dX3_hasRoom_54 : decode cX3_hasRoom 54 = .ok (.invokevirtual 68, 3) := by decide +kernel
theorem dX3_hasRoom_57 : decode cX3_hasRoom 57 = .ok (.bipush 63, 2) := by decide +kernel
theorem dX3_hasRoom_59 : decode cX3_hasRoom 59 = .ok (.if_icmp .gt 7, 3) := by decide +kernel
theorem dX3_hasRoom_62 : decode cX3_hasRoom 62 = .ok (.iconst 1, 1) := by decide +kernel
theorem dX3_hasRoom_63 : decode cX3_hasRoom 63 = .ok (.goto 4, 3) := by decide +kernel
theorem dX3_hasRoom_66 : decode cX3_hasRoom 66 = .ok (.iconst 0, 1) := by decide +kernel
theorem dX3_hasRoom_67 : decode cX3_hasRoom 67 = .ok (.ireturn, 1) := by decide +kernel
set_option maxRecDepth 20000 in
theorem ggX3_refusal_X3_isBeta : GoodIn wsX3_refusal wsX3_isBeta := goodIn_r _ [5, 6, 7, 8, 9, 10, 11, 12, 13, 14, 15, 4, 16, 17, 18, 19, 20, 21, 48, 49, 50, 51, 52, 53, 54, 55, 56, 57, 58, 59, 60, 61] (by decide +kernel) (by decide +kernel)
set_option maxRecDepth 20000 in
theorem gX3_refusal_X3_isBeta : GoodIn wsX3_refusal (wsV RX3 25 RX3 yX3_isBeta wsX3_isBeta) := goodIn_app (goodIn_of _ (by decide +kernel)) ggX3_refusal_X3_isBeta
set_option maxRecDepth 20000 in
theorem ggX3_refusal_X3_isAnnihilation : GoodIn wsX3_refusal wsX3_isAnnihilation := goodIn_r _ [25, 6, 7, 8, 9, 10, 11, 12, 13, 14, 15, 4, 16, 17, 18, 19, 20, 21, 26, 27, 28, 48, 49, 50, 51, 52, 53, 54, 55, 56, 57, 58, 59, 60, 61] (by decide +kernel) (by decide +kernel)
set_option maxRecDepth 20000 in
theorem gX3_refusal_X3_isAnnihilation : GoodIn wsX3_refusal (wsV RX3 29 RX3 yX3_isAnnihilation wsX3_isAnnihilation) := goodIn_app (goodIn_of _ (by decide +kernel)) ggX3_refusal_X3_isAnnihilation
set_option maxRecDepth 20000 in
theorem ggX3_refusal_X3_passes : GoodIn wsX3_refusal wsX3_passes := goodIn_r _ [32, 6, 7, 8, 9, 10, 11, 12, 26, 27, 28, 17, 18, 19, 20, 21, 48, 49, 50, 51, 52, 53, 54, 55, 56, 57, 58, 59, 60, 61] (by decide +kernel) (by decide +kernel)
set_option maxRecDepth 20000 in
theorem gX3_refusal_X3_passes : GoodIn wsX3_refusal (wsV RX3 32 RX3 yX3_passes wsX3_passes) := goodIn_app (goodIn_of _ (by decide +kernel)) ggX3_refusal_X3_passes
set_option maxRecDepth 20000 in
theorem ggX3_refusal_X3_hasRoom : GoodIn wsX3_refusal wsX3_hasRoom := goodIn_r _ [36, 6, 7, 8, 9, 10, 11, 12, 37, 38, 39, 40, 41, 42, 27, 43, 44, 45, 46, 4, 47, 17, 18, 19, 20, 21, 48, 49, 50, 51, 52, 53, 54, 55, 56, 57, 58, 59, 60, 61] (by decide +kernel) (by decide +kernel)
set_option maxRecDepth 20000 in
theorem gX3_refusal_X3_hasRoom : GoodIn wsX3_refusal (wsV RX3 35 RX3 yX3_hasRoom wsX3_hasRoom) := goodIn_app (goodIn_of _ (by decide +kernel)) ggX3_refusal_X3_hasRoom
theorem dX3_refusal_0 : decode cX3_refusal 0 = .ok (.aload_n 0, 1) := by decide +kernel
theorem dX3_refusal_1 : decode cX3_refusal 1 = .ok (.iload_n 1, 1) := by decide +kernel
theorem dX3_refusal_2 : decode cX3_refusal 2 = .ok (.iload_n 2, 1) := by decide +kernel
theorem dX3_refusal_3 : decode cX3_refusal 3 = .ok (.invokevirtual 25, 3) := by decide +kernel
theorem dX3_refusal_6 : decode cX3_refusal 6 = .ok (.ifCond .ne 12, 3) := by decide +kernel
theorem dX3_refusal_9 : decode cX3_refusal 9 = .ok (.aload_n 0, 1) := by decide +kernel
theorem dX3_refusal_10 : decode cX3_refusal 10 = .ok (.iload_n 1, 1) := by decide +kernel
theorem dX3_refusal_11 : decode cX3_refusal 11 = .ok (.iload_n 2, 1) := by decide +kernel
theorem dX3_refusal_12 : decode cX3_refusal 12 = .ok (.invokevirtual 29, 3) := by decide +kernel
theorem dX3_refusal_15 : decode cX3_refusal 15 = .ok (.ifCond .eq 5, 3) := by decide +kernel
theorem dX3_refusal_18 : decode cX3_refusal 18 = .ok (.iconst 5, 1) := by decide +kernel
theorem dX3_refusal_19 : decode cX3_refusal 19 = .ok (.ireturn, 1) := by decide +kernel
theorem dX3_refusal_20 : decode cX3_refusal 20 = .ok (.aload_n 0, 1) := by decide +kernel
theorem dX3_refusal_21 : decode cX3_refusal 21 = .ok (.iload_n 1, 1) := by decide +kernel
theorem dX3_refusal_22 : decode cX3_refusal 22 = .ok (.iload_n 2, 1) := by decide +kernel
theorem dX3_refusal_23 : decode cX3_refusal 23 = .ok (.invokevirtual 32, 3) := by decide +kernel
theorem dX3_refusal_26 : decode cX3_refusal 26 = .ok (.ifCond .eq 18, 3) := by decide +kernel
theorem dX3_refusal_29 : decode cX3_refusal 29 = .ok (.aload_n 0, 1) := by decide +kernel
theorem dX3_refusal_30 : decode cX3_refusal 30 = .ok (.iload_n 1, 1) := by decide +kernel
theorem dX3_refusal_31 : decode cX3_refusal 31 = .ok (.iload_n 2, 1) := by decide +kernel
theorem dX3_refusal_32 : decode cX3_refusal 32 = .ok (.invokevirtual 35, 3) := by decide +kernel
theorem dX3_refusal_35 : decode cX3_refusal 35 = .ok (.ifCond .eq 7, 3) := by decide +kernel
theorem dX3_refusal_38 : decode cX3_refusal 38 = .ok (.iconst 5, 1) := by decide +kernel
theorem dX3_refusal_39 : decode cX3_refusal 39 = .ok (.goto 4, 3) := by decide +kernel
theorem dX3_refusal_42 : decode cX3_refusal 42 = .ok (.iconst 2, 1) := by decide +kernel
theorem dX3_refusal_43 : decode cX3_refusal 43 = .ok (.ireturn, 1) := by decide +kernel
theorem dX3_refusal_44 : decode cX3_refusal 44 = .ok (.aload_n 0, 1) := by decide +kernel
theorem dX3_refusal_45 : decode cX3_refusal 45 = .ok (.iload_n 2, 1) := by decide +kernel
theorem dX3_refusal_46 : decode cX3_refusal 46 = .ok (.iload_n 1, 1) := by decide +kernel
theorem dX3_refusal_47 : decode cX3_refusal 47 = .ok (.invokevirtual 32, 3) := by decide +kernel
theorem dX3_refusal_50 : decode cX3_refusal 50 = .ok (.ifCond .eq 18, 3) := by decide +kernel
theorem dX3_refusal_53 : decode cX3_refusal 53 = .ok (.aload_n 0, 1) := by decide +kernel
theorem dX3_refusal_54 : decode cX3_refusal 54 = .ok (.iload_n 2, 1) := by decide +kernel
theorem dX3_refusal_55 : decode cX3_refusal 55 = .ok (.iload_n 1, 1) := by decide +kernel
theorem dX3_refusal_56 : decode cX3_refusal 56 = .ok (.invokevirtual 35, 3) := by decide +kernel
theorem dX3_refusal_59 : decode cX3_refusal 59 = .ok (.ifCond .eq 7, 3) := by decide +kernel
theorem dX3_refusal_62 : decode cX3_refusal 62 = .ok (.iconst 5, 1) := by decide +kernel
theorem dX3_refusal_63 : decode cX3_refusal 63 = .ok (.goto 4, 3) := by decide +kernel
theorem dX3_refusal_66 : decode cX3_refusal 66 = .ok (.iconst 2, 1) := by decide +kernel
theorem dX3_refusal_67 : decode cX3_refusal 67 = .ok (.ireturn, 1) := by decide +kernel
theorem dX3_refusal_68 : decode cX3_refusal 68 = .ok (.iconst 4, 1) := by decide +kernel
theorem dX3_refusal_69 : decode cX3_refusal 69 = .ok (.ireturn, 1) := by decide +kernel
set_option maxRecDepth 20000 in
theorem ggX3_joinPorts_X2_kindOf : GoodIn wsX3_joinPorts wsX2_kindOf := goodIn_r _ [6, 7, 47, 48, 49, 50, 51, 52, 53, 54, 55, 56] (by decide +kernel) (by decide +kernel)
set_option maxRecDepth 20000 in
theorem gX3_joinPorts_X2_kindOf : GoodIn wsX3_joinPorts (wsV RX3 45 RX2 yX2_kindOf wsX2_kindOf) := goodIn_app (goodIn_of _ (by decide +kernel)) ggX3_joinPorts_X2_kindOf
set_option maxRecDepth 20000 in
theorem ggX3_joinPorts_X7_otherPorts : GoodIn wsX3_joinPorts wsX7_otherPorts := goodIn_r _ [10] (by decide +kernel) (by decide +kernel)
set_option maxRecDepth 20000 in
theorem gX3_joinPorts_X7_otherPorts_n65 : GoodIn wsX3_joinPorts (wsX7_otherPorts) := ggX3_joinPorts_X7_otherPorts
set_option maxRecDepth 20000 in
theorem ggX3_joinPorts_X7_portOf : GoodIn wsX3_joinPorts wsX7_portOf := goodIn_r _ [12] (by decide +kernel) (by decide +kernel)
set_option maxRecDepth 20000 in
theorem gX3_joinPorts_X7_portOf_n72 : GoodIn wsX3_joinPorts (wsX7_portOf) := ggX3_joinPorts_X7_portOf
set_option maxRecDepth 20000 in
theorem ggX3_joinPorts_X2_join : GoodIn wsX3_joinPorts wsX2_join := goodIn_r _ [16, 17, 18, 19, 5, 20, 21, 22, 23, 24, 25, 26, 9, 27, 28, 29, 30, 31, 32, 7, 33, 34, 47, 48, 49, 50, 51, 52, 53, 54, 55, 56] (by decide +kernel) (by decide +kernel)
set_option maxRecDepth 20000 in
theorem gX3_joinPorts_X2_join : GoodIn wsX3_joinPorts (wsV RX3 75 RX2 yX2_join wsX2_join) := goodIn_app (goodIn_of _ (by decide +kernel)) ggX3_joinPorts_X2_join
set_option maxRecDepth 20000 in
theorem ggX3_joinPorts_X2_discard : GoodIn wsX3_joinPorts wsX2_discard := goodIn_r _ [38, 39, 40, 7, 41, 42, 3, 4, 5, 6, 47, 48, 49, 50, 51, 52, 53, 54, 55, 56] (by decide +kernel) (by decide +kernel)
set_option maxRecDepth 20000 in
theorem gX3_joinPorts_X2_discard : GoodIn wsX3_joinPorts (wsV RX3 78 RX2 yX2_discard wsX2_discard) := goodIn_app (goodIn_of _ (by decide +kernel)) ggX3_joinPorts_X2_discard
theorem dX3_joinPorts_0 : decode cX3_joinPorts 0 = .ok (.aload_n 0, 1) := by decide +kernel
theorem dX3_joinPorts_1 : decode cX3_joinPorts 1 = .ok (.getfield 9, 3) := by decide +kernel
theorem dX3_joinPorts_4 : decode cX3_joinPorts 4 = .ok (.iload_n 1, 1) := by decide +kernel
theorem dX3_joinPorts_5 : decode cX3_joinPorts 5 = .ok (.invokevirtual 45, 3) := by decide +kernel
theorem dX3_joinPorts_8 : decode cX3_joinPorts 8 = .ok (.invokestatic 65, 3) := by decide +kernel
theorem dX3_joinPorts_11 : decode cX3_joinPorts 11 = .ok (.istore_n 3, 1) := by decide +kernel
theorem dX3_joinPorts_12 : decode cX3_joinPorts 12 = .ok (.iconst 1, 1) := by decide +kernel
theorem dX3_joinPorts_13 : decode cX3_joinPorts 13 = .ok (.istore 4, 2) := by decide +kernel
theorem dX3_joinPorts_15 : decode cX3_joinPorts 15 = .ok (.iload 4, 2) := by decide +kernel
theorem dX3_joinPorts_17 : decode cX3_joinPorts 17 = .ok (.iload_n 3, 1) := by decide +kernel
theorem dX3_joinPorts_18 : decode cX3_joinPorts 18 = .ok (.if_icmp .gt 28, 3) := by decide +kernel
theorem dX3_joinPorts_21 : decode cX3_joinPorts 21 = .ok (.aload_n 0, 1) := by decide +kernel
theorem dX3_joinPorts_22 : decode cX3_joinPorts 22 = .ok (.getfield 9, 3) := by decide +kernel
theorem dX3_joinPorts_25 : decode cX3_joinPorts 25 = .ok (.iload_n 1, 1) := by decide +kernel
theorem dX3_joinPorts_26 : decode cX3_joinPorts 26 = .ok (.iload 4, 2) := by decide +kernel
theorem dX3_joinPorts_28 : decode cX3_joinPorts 28 = .ok (.invokestatic 72, 3) := by decide +kernel
theorem dX3_joinPorts_31 : decode cX3_joinPorts 31 = .ok (.iload_n 2, 1) := by decide +kernel
theorem dX3_joinPorts_32 : decode cX3_joinPorts 32 = .ok (.iload 4, 2) := by decide +kernel
theorem dX3_joinPorts_34 : decode cX3_joinPorts 34 = .ok (.invokestatic 72, 3) := by decide +kernel
theorem dX3_joinPorts_37 : decode cX3_joinPorts 37 = .ok (.invokevirtual 75, 3) := by decide +kernel
theorem dX3_joinPorts_40 : decode cX3_joinPorts 40 = .ok (.iinc 4 1, 3) := by decide +kernel
theorem dX3_joinPorts_43 : decode cX3_joinPorts 43 = .ok (.goto (-28), 3) := by decide +kernel
theorem dX3_joinPorts_46 : decode cX3_joinPorts 46 = .ok (.aload_n 0, 1) := by decide +kernel
theorem dX3_joinPorts_47 : decode cX3_joinPorts 47 = .ok (.getfield 9, 3) := by decide +kernel
theorem dX3_joinPorts_50 : decode cX3_joinPorts 50 = .ok (.iload_n 1, 1) := by decide +kernel
theorem dX3_joinPorts_51 : decode cX3_joinPorts 51 = .ok (.invokevirtual 78, 3) := by decide +kernel
theorem dX3_joinPorts_54 : decode cX3_joinPorts 54 = .ok (.aload_n 0, 1) := by decide +kernel
theorem dX3_joinPorts_55 : decode cX3_joinPorts 55 = .ok (.getfield 9, 3) := by decide +kernel
theorem dX3_joinPorts_58 : decode cX3_joinPorts 58 = .ok (.iload_n 2, 1) := by decide +kernel
theorem dX3_joinPorts_59 : decode cX3_joinPorts 59 = .ok (.invokevirtual 78, 3) := by decide +kernel
theorem dX3_joinPorts_62 : decode cX3_joinPorts 62 = .ok (.return_, 1) := by decide +kernel
set_option maxRecDepth 20000 in
theorem ggX3_pass_X2_kindOf : GoodIn wsX3_pass wsX2_kindOf := goodIn_r _ [7, 8, 63, 64, 65, 66, 67, 68, 69, 70, 71, 72] (by decide +kernel) (by decide +kernel)
set_option maxRecDepth 20000 in
theorem gX3_pass_X2_kindOf : GoodIn wsX3_pass (wsV RX3 45 RX2 yX2_kindOf wsX2_kindOf) := goodIn_app (goodIn_of _ (by decide +kernel)) ggX3_pass_X2_kindOf
set_option maxRecDepth 20000 in
theorem ggX3_pass_X7_otherPorts : GoodIn wsX3_pass wsX7_otherPorts := goodIn_r _ [11] (by decide +kernel) (by decide +kernel)
set_option maxRecDepth 20000 in
theorem gX3_pass_X7_otherPorts_n65 : GoodIn wsX3_pass (wsX7_otherPorts) := ggX3_pass_X7_otherPorts
set_option maxRecDepth 20000 in
theorem ggX3_pass_X3_passedIndex : GoodIn wsX3_pass wsX3_passedIndex := goodIn_r _ [16, 1, 17, 18, 19, 6, 20, 21, 3, 4, 5, 7, 8, 59, 60, 61, 62, 63, 64, 65, 66, 67, 68, 69, 70, 71, 72] (by decide +kernel) (by decide +kernel)
set_option maxRecDepth 20000 in
theorem gX3_pass_X3_passedIndex : GoodIn wsX3_pass (wsV RX3 68 RX3 yX3_passedIndex wsX3_passedIndex) := goodIn_app (goodIn_of _ (by decide +kernel)) ggX3_pass_X3_passedIndex
set_option maxRecDepth 20000 in
theorem ggX3_pass_X2_make : GoodIn wsX3_pass wsX2_make := goodIn_r _ [25, 26, 27, 8, 21, 28, 63, 64, 65, 66, 67, 68, 69, 70, 71, 72] (by decide +kernel) (by decide +kernel)
set_option maxRecDepth 20000 in
theorem gX3_pass_X2_make : GoodIn wsX3_pass (wsV RX3 82 RX2 yX2_make wsX2_make) := goodIn_app (goodIn_of _ (by decide +kernel)) ggX3_pass_X2_make
set_option maxRecDepth 20000 in
theorem ggX3_pass_X7_portOf : GoodIn wsX3_pass wsX7_portOf := goodIn_r _ [30] (by decide +kernel) (by decide +kernel)
set_option maxRecDepth 20000 in
theorem gX3_pass_X7_portOf_n72 : GoodIn wsX3_pass (wsX7_portOf) := ggX3_pass_X7_portOf
set_option maxRecDepth 20000 in
theorem ggX3_pass_X2_replace : GoodIn wsX3_pass wsX2_replace := goodIn_r _ [34, 35, 36, 37, 6, 38, 39, 40, 41, 42, 43, 44, 10, 45, 46, 47, 48, 49, 50, 8, 51, 52, 63, 64, 65, 66, 67, 68, 69, 70, 71, 72] (by decide +kernel) (by decide +kernel)
set_option maxRecDepth 20000 in
theorem gX3_pass_X2_replace : GoodIn wsX3_pass (wsV RX3 85 RX2 yX2_replace wsX2_replace) := goodIn_app (goodIn_of _ (by decide +kernel)) ggX3_pass_X2_replace
set_option maxRecDepth 20000 in
theorem ggX3_pass_X2_indexOf : GoodIn wsX3_pass wsX2_indexOf := goodIn_r _ [20, 21, 63, 64, 65, 66, 67, 68, 69, 70, 71, 72] (by decide +kernel) (by decide +kernel)
set_option maxRecDepth 20000 in
theorem gX3_pass_X2_indexOf : GoodIn wsX3_pass (wsV RX3 58 RX2 yX2_indexOf wsX2_indexOf) := goodIn_app (goodIn_of _ (by decide +kernel)) ggX3_pass_X2_indexOf
set_option maxRecDepth 20000 in
theorem ggX3_pass_X2_link : GoodIn wsX3_pass wsX2_link := goodIn_r _ [43, 39, 44, 10, 45, 46, 47, 48, 6, 49, 50, 8, 51, 52, 63, 64, 65, 66, 67, 68, 69, 70, 71, 72] (by decide +kernel) (by decide +kernel)
set_option maxRecDepth 20000 in
theorem gX3_pass_X2_link : GoodIn wsX3_pass (wsV RX3 88 RX2 yX2_link wsX2_link) := goodIn_app (goodIn_of _ (by decide +kernel)) ggX3_pass_X2_link
set_option maxRecDepth 20000 in
theorem ggX3_pass_X2_discard : GoodIn wsX3_pass wsX2_discard := goodIn_r _ [57, 26, 28, 8, 27, 58, 4, 5, 6, 7, 63, 64, 65, 66, 67, 68, 69, 70, 71, 72] (by decide +kernel) (by decide +kernel)
set_option maxRecDepth 20000 in
theorem gX3_pass_X2_discard : GoodIn wsX3_pass (wsV RX3 78 RX2 yX2_discard wsX2_discard) := goodIn_app (goodIn_of _ (by decide +kernel)) ggX3_pass_X2_discard
theorem dX3_pass_0 : decode cX3_pass 0 = .ok (.aload_n 0, 1) := by decide +kernel
theorem dX3_pass_1 : decode cX3_pass 1 = .ok (.getfield 9, 3) := by decide +kernel
theorem dX3_pass_4 : decode cX3_pass 4 = .ok (.iload_n 2, 1) := by decide +kernel
theorem dX3_pass_5 : decode cX3_pass 5 = .ok (.invokevirtual 45, 3) := by decide +kernel
theorem dX3_pass_8 : decode cX3_pass 8 = .ok (.istore_n 3, 1) := by decide +kernel
theorem dX3_pass_9 : decode cX3_pass 9 = .ok (.aload_n 0, 1) := by decide +kernel
theorem dX3_pass_10 : decode cX3_pass 10 = .ok (.getfield 9, 3) := by decide +kernel
theorem dX3_pass_13 : decode cX3_pass 13 = .ok (.iload_n 1, 1) := by decide +kernel
theorem dX3_pass_14 : decode cX3_pass 14 = .ok (.invokevirtual 45, 3) := by decide +kernel
theorem dX3_pass_17 : decode cX3_pass 17 = .ok (.istore 4, 2) := by decide +kernel
theorem dX3_pass_19 : decode cX3_pass 19 = .ok (.iload 4, 2) := by decide +kernel
theorem dX3_pass_21 : decode cX3_pass 21 = .ok (.invokestatic 65, 3) := by decide +kernel
theorem dX3_pass_24 : decode cX3_pass 24 = .ok (.istore 5, 2) := by decide +kernel
theorem dX3_pass_26 : decode cX3_pass 26 = .ok (.aload_n 0, 1) := by decide +kernel
theorem dX3_pass_27 : decode cX3_pass 27 = .ok (.getfield 9, 3) := by decide +kernel
theorem dX3_pass_30 : decode cX3_pass 30 = .ok (.iload_n 3, 1) := by decide +kernel
theorem dX3_pass_31 : decode cX3_pass 31 = .ok (.aload_n 0, 1) := by decide +kernel
theorem dX3_pass_32 : decode cX3_pass 32 = .ok (.iload_n 1, 1) := by decide +kernel
theorem dX3_pass_33 : decode cX3_pass 33 = .ok (.iload_n 2, 1) := by decide +kernel
theorem dX3_pass_34 : decode cX3_pass 34 = .ok (.invokevirtual 68, 3) := by decide +kernel
theorem dX3_pass_37 : decode cX3_pass 37 = .ok (.invokevirtual 82, 3) := by decide +kernel
theorem dX3_pass_40 : decode cX3_pass 40 = .ok (.istore 6, 2) := by decide +kernel
theorem dX3_pass_42 : decode cX3_pass 42 = .ok (.iload 5, 2) := by decide +kernel
theorem dX3_pass_44 : decode cX3_pass 44 = .ok (.iconst 2, 1) := by decide +kernel
theorem dX3_pass_45 : decode cX3_pass 45 = .ok (.if_icmp .ne 20, 3) := by decide +kernel
theorem dX3_pass_48 : decode cX3_pass 48 = .ok (.aload_n 0, 1) := by decide +kernel
theorem dX3_pass_49 : decode cX3_pass 49 = .ok (.getfield 9, 3) := by decide +kernel
theorem dX3_pass_52 : decode cX3_pass 52 = .ok (.iload_n 3, 1) := by decide +kernel
theorem dX3_pass_53 : decode cX3_pass 53 = .ok (.aload_n 0, 1) := by decide +kernel
theorem dX3_pass_54 : decode cX3_pass 54 = .ok (.iload_n 1, 1) := by decide +kernel
theorem dX3_pass_55 : decode cX3_pass 55 = .ok (.iload_n 2, 1) := by decide +kernel
theorem dX3_pass_56 : decode cX3_pass 56 = .ok (.invokevirtual 68, 3) := by decide +kernel
theorem dX3_pass_59 : decode cX3_pass 59 = .ok (.invokevirtual 82, 3) := by decide +kernel
theorem dX3_pass_62 : decode cX3_pass 62 = .ok (.goto 4, 3) := by decide +kernel
theorem dX3_pass_65 : decode cX3_pass 65 = .ok (.iconst (-1), 1) := by decide +kernel
theorem dX3_pass_66 : decode cX3_pass 66 = .ok (.istore 7, 2) := by decide +kernel
theorem dX3_pass_68 : decode cX3_pass 68 = .ok (.aload_n 0, 1) := by decide +kernel
theorem dX3_pass_69 : decode cX3_pass 69 = .ok (.getfield 9, 3) := by decide +kernel
theorem dX3_pass_72 : decode cX3_pass 72 = .ok (.iload_n 1, 1) := by decide +kernel
theorem dX3_pass_73 : decode cX3_pass 73 = .ok (.iconst 1, 1) := by decide +kernel
theorem dX3_pass_74 : decode cX3_pass 74 = .ok (.invokestatic 72, 3) := by decide +kernel
theorem dX3_pass_77 : decode cX3_pass 77 = .ok (.iload 6, 2) := by decide +kernel
theorem dX3_pass_79 : decode cX3_pass 79 = .ok (.iconst 0, 1) := by decide +kernel
theorem dX3_pass_80 : decode cX3_pass 80 = .ok (.invokestatic 72, 3) := by decide +kernel
theorem dX3_pass_83 : decode cX3_pass 83 = .ok (.invokevirtual 85, 3) := by decide +kernel
theorem dX3_pass_86 : decode cX3_pass 86 = .ok (.iload 5, 2) := by decide +kernel
theorem dX3_pass_88 : decode cX3_pass 88 = .ok (.iconst 2, 1) := by decide +kernel
theorem dX3_pass_89 : decode cX3_pass 89 = .ok (.if_icmp .ne 21, 3) := by decide +kernel
theorem dX3_pass_92 : decode cX3_pass 92 = .ok (.aload_n 0, 1) := by decide +kernel
theorem dX3_pass_93 : decode cX3_pass 93 = .ok (.getfield 9, 3) := by decide +kernel
theorem dX3_pass_96 : decode cX3_pass 96 = .ok (.iload_n 1, 1) := by decide +kernel
theorem dX3_pass_97 : decode cX3_pass 97 = .ok (.iconst 2, 1) := by decide +kernel
theorem dX3_pass_98 : decode cX3_pass 98 = .ok (.invokestatic 72, 3) := by decide +kernel
theorem dX3_pass_101 : decode cX3_pass 101 = .ok (.iload 7, 2) := by decide +kernel
theorem dX3_pass_103 : decode cX3_pass 103 = .ok (.iconst 0, 1) := by decide +kernel
theorem dX3_pass_104 : decode cX3_pass 104 = .ok (.invokestatic 72, 3) := by decide +kernel
theorem dX3_pass_107 : decode cX3_pass 107 = .ok (.invokevirtual 85, 3) := by decide +kernel
theorem dX3_pass_110 : decode cX3_pass 110 = .ok (.iconst 1, 1) := by decide +kernel
theorem dX3_pass_111 : decode cX3_pass 111 = .ok (.istore 8, 2) := by decide +kernel
theorem dX3_pass_113 : decode cX3_pass 113 = .ok (.iload 8, 2) := by decide +kernel
theorem dX3_pass_115 : decode cX3_pass 115 = .ok (.iload_n 3, 1) := by decide +kernel
theorem dX3_pass_116 : decode cX3_pass 116 = .ok (.invokestatic 65, 3) := by decide +kernel
theorem dX3_pass_119 : decode cX3_pass 119 = .ok (.if_icmp .gt 93, 3) := by decide +kernel
theorem dX3_pass_122 : decode cX3_pass 122 = .ok (.aload_n 0, 1) := by decide +kernel
theorem dX3_pass_123 : decode cX3_pass 123 = .ok (.getfield 9, 3) := by decide +kernel
theorem dX3_pass_126 : decode cX3_pass 126 = .ok (.iload 4, 2) := by decide +kernel
theorem dX3_pass_128 : decode cX3_pass 128 = .ok (.aload_n 0, 1) := by decide +kernel
theorem dX3_pass_129 : decode cX3_pass 129 = .ok (.getfield 9, 3) := by decide +kernel
theorem dX3_pass_132 : decode cX3_pass 132 = .ok (.iload_n 1, 1) := by decide +kernel
theorem dX3_pass_133 : decode cX3_pass 133 = .ok (.invokevirtual 58, 3) := by decide +kernel
theorem dX3_pass_136 : decode cX3_pass 136 = .ok (.invokevirtual 82, 3) := by decide +kernel
theorem dX3_pass_139 : decode cX3_pass 139 = .ok (.istore 9, 2) := by decide +kernel
theorem dX3_pass_141 : decode cX3_pass 141 = .ok (.aload_n 0, 1) := by decide +kernel
theorem dX3_pass_142 : decode cX3_pass 142 = .ok (.getfield 9, 3) := by decide +kernel
theorem dX3_pass_145 : decode cX3_pass 145 = .ok (.iload_n 2, 1) := by decide +kernel
theorem dX3_pass_146 : decode cX3_pass 146 = .ok (.iload 8, 2) := by decide +kernel
theorem dX3_pass_148 : decode cX3_pass 148 = .ok (.invokestatic 72, 3) := by decide +kernel
theorem dX3_pass_151 : decode cX3_pass 151 = .ok (.iload 9, 2) := by decide +kernel
theorem dX3_pass_153 : decode cX3_pass 153 = .ok (.iconst 0, 1) := by decide +kernel
theorem dX3_pass_154 : decode cX3_pass 154 = .ok (.invokestatic 72, 3) := by decide +kernel
theorem dX3_pass_157 : decode cX3_pass 157 = .ok (.invokevirtual 85, 3) := by decide +kernel
theorem dX3_pass_160 : decode cX3_pass 160 = .ok (.aload_n 0, 1) := by decide +kernel
theorem dX3_pass_161 : decode cX3_pass 161 = .ok (.getfield 9, 3) := by decide +kernel
theorem dX3_pass_164 : decode cX3_pass 164 = .ok (.iload 6, 2) := by decide +kernel
theorem dX3_pass_166 : decode cX3_pass 166 = .ok (.iload 8, 2) := by decide +kernel
theorem dX3_pass_168 : decode cX3_pass 168 = .ok (.invokestatic 72, 3) := by decide +kernel
theorem dX3_pass_171 : decode cX3_pass 171 = .ok (.iload 9, 2) := by decide +kernel
theorem dX3_pass_173 : decode cX3_pass 173 = .ok (.iconst 1, 1) := by decide +kernel
theorem dX3_pass_174 : decode cX3_pass 174 = .ok (.invokestatic 72, 3) := by decide +kernel
theorem dX3_pass_177 : decode cX3_pass 177 = .ok (.invokevirtual 88, 3) := by decide +kernel
theorem dX3_pass_180 : decode cX3_pass 180 = .ok (.iload 5, 2) := by decide +kernel
theorem dX3_pass_182 : decode cX3_pass 182 = .ok (.iconst 2, 1) := by decide +kernel
theorem dX3_pass_183 : decode cX3_pass 183 = .ok (.if_icmp .ne 23, 3) := by decide +kernel
theorem dX3_pass_186 : decode cX3_pass 186 = .ok (.aload_n 0, 1) := by decide +kernel
theorem dX3_pass_187 : decode cX3_pass 187 = .ok (.getfield 9, 3) := by decide +kernel
theorem dX3_pass_190 : decode cX3_pass 190 = .ok (.iload 7, 2) := by decide +kernel
theorem dX3_pass_192 : decode cX3_pass 192 = .ok (.iload 8, 2) := by decide +kernel
theorem dX3_pass_194 : decode cX3_pass 194 = .ok (.invokestatic 72, 3) := by decide +kernel
theorem dX3_pass_197 : decode cX3_pass 197 = .ok (.iload 9, 2) := by decide +kernel
theorem dX3_pass_199 : decode cX3_pass 199 = .ok (.iconst 2, 1) := by decide +kernel
theorem dX3_pass_200 : decode cX3_pass 200 = .ok (.invokestatic 72, 3) := by decide +kernel
theorem dX3_pass_203 : decode cX3_pass 203 = .ok (.invokevirtual 88, 3) := by decide +kernel
theorem dX3_pass_206 : decode cX3_pass 206 = .ok (.iinc 8 1, 3) := by decide +kernel
theorem dX3_pass_209 : decode cX3_pass 209 = .ok (.goto (-96), 3) := by decide +kernel
theorem dX3_pass_212 : decode cX3_pass 212 = .ok (.aload_n 0, 1) := by decide +kernel
theorem dX3_pass_213 : decode cX3_pass 213 = .ok (.getfield 9, 3) := by decide +kernel
theorem dX3_pass_216 : decode cX3_pass 216 = .ok (.iload_n 1, 1) := by decide +kernel
theorem dX3_pass_217 : decode cX3_pass 217 = .ok (.invokevirtual 78, 3) := by decide +kernel
theorem dX3_pass_220 : decode cX3_pass 220 = .ok (.aload_n 0, 1) := by decide +kernel
theorem dX3_pass_221 : decode cX3_pass 221 = .ok (.getfield 9, 3) := by decide +kernel
theorem dX3_pass_224 : decode cX3_pass 224 = .ok (.iload_n 2, 1) := by decide +kernel
theorem dX3_pass_225 : decode cX3_pass 225 = .ok (.invokevirtual 78, 3) := by decide +kernel
theorem dX3_pass_228 : decode cX3_pass 228 = .ok (.aload_n 0, 1) := by decide +kernel
theorem dX3_pass_229 : decode cX3_pass 229 = .ok (.dup, 1) := by decide +kernel
theorem dX3_pass_230 : decode cX3_pass 230 = .ok (.getfield 22, 3) := by decide +kernel
theorem dX3_pass_233 : decode cX3_pass 233 = .ok (.iconst 1, 1) := by decide +kernel
theorem dX3_pass_234 : decode cX3_pass 234 = .ok (.iadd, 1) := by decide +kernel
theorem dX3_pass_235 : decode cX3_pass 235 = .ok (.putfield 22, 3) := by decide +kernel
theorem dX3_pass_238 : decode cX3_pass 238 = .ok (.return_, 1) := by decide +kernel
set_option maxRecDepth 20000 in
theorem ggX3_act_X3_isBeta : GoodIn wsX3_act wsX3_isBeta := goodIn_r _ [7, 8, 9, 10, 11, 12, 13, 14, 15, 16, 17, 6, 18, 19, 20, 21, 22, 23, 91, 92, 93, 94, 95, 96, 97, 98, 99, 100, 101, 102, 103, 104] (by decide +kernel) (by decide +kernel)
set_option maxRecDepth 20000 in
theorem gX3_act_X3_isBeta : GoodIn wsX3_act (wsV RX3 25 RX3 yX3_isBeta wsX3_isBeta) := goodIn_app (goodIn_of _ (by decide +kernel)) ggX3_act_X3_isBeta
set_option maxRecDepth 20000 in
theorem ggX3_act_X3_joinPorts : GoodIn wsX3_act wsX3_joinPorts := goodIn_r _ [27, 8, 9, 10, 11, 12, 13, 14, 28, 29, 30, 31, 32, 33, 34, 35, 36, 37, 38, 39, 40, 41, 42, 43, 44, 45, 46, 47, 48, 49, 50, 51, 52, 53, 54, 55, 56, 57, 58, 59, 60, 61, 62, 91, 92, 93, 94, 95, 96, 97, 98, 99, 100, 101, 102, 103, 104] (by decide +kernel) (by decide +kernel)
set_option maxRecDepth 20000 in
theorem gX3_act_X3_joinPorts : GoodIn wsX3_act (wsV RX3 38 RX3 yX3_joinPorts wsX3_joinPorts) := goodIn_app (goodIn_of _ (by decide +kernel)) ggX3_act_X3_joinPorts
set_option maxRecDepth 20000 in
theorem ggX3_act_X3_isAnnihilation : GoodIn wsX3_act wsX3_isAnnihilation := goodIn_r _ [66, 8, 9, 10, 11, 12, 13, 14, 15, 16, 17, 6, 18, 19, 20, 21, 22, 23, 67, 29, 68, 91, 92, 93, 94, 95, 96, 97, 98, 99, 100, 101, 102, 103, 104] (by decide +kernel) (by decide +kernel)
set_option maxRecDepth 20000 in
theorem gX3_act_X3_isAnnihilation : GoodIn wsX3_act (wsV RX3 29 RX3 yX3_isAnnihilation wsX3_isAnnihilation) := goodIn_app (goodIn_of _ (by decide +kernel)) ggX3_act_X3_isAnnihilation
set_option maxRecDepth 20000 in
theorem ggX3_act_X3_passes : GoodIn wsX3_act wsX3_passes := goodIn_r _ [72, 8, 9, 10, 11, 12, 13, 14, 67, 29, 68, 19, 20, 21, 22, 23, 91, 92, 93, 94, 95, 96, 97, 98, 99, 100, 101, 102, 103, 104] (by decide +kernel) (by decide +kernel)
set_option maxRecDepth 20000 in
theorem gX3_act_X3_passes : GoodIn wsX3_act (wsV RX3 32 RX3 yX3_passes wsX3_passes) := goodIn_app (goodIn_of _ (by decide +kernel)) ggX3_act_X3_passes
set_option maxRecDepth 20000 in
theorem ggX3_act_X3_pass : GoodIn wsX3_act wsX3_pass := goodIn_r _ [76, 8, 77, 9, 10, 11, 12, 13, 14, 28, 29, 30, 78, 79, 80, 6, 81, 19, 20, 21, 22, 23, 82, 83, 84, 85, 59, 61, 60, 31, 32, 86, 87, 88, 89, 37, 38, 39, 40, 41, 42, 43, 44, 45, 46, 47, 48, 49, 50, 51, 52, 53, 54, 90, 55, 56, 57, 58, 62, 91, 92, 93, 94, 95, 96, 97, 98, 99, 100, 101, 102, 103, 104] (by decide +kernel) (by decide +kernel)
set_option maxRecDepth 20000 in
theorem gX3_act_X3_pass : GoodIn wsX3_act (wsV RX3 42 RX3 yX3_pass wsX3_pass) := goodIn_app (goodIn_of _ (by decide +kernel)) ggX3_act_X3_pass
theorem dX3_act_0 : decode cX3_act 0 = .ok (.aload_n 0, 1) := by decide +kernel
theorem dX3_act_1 : decode cX3_act 1 = .ok (.iload_n 1, 1) := by decide +kernel
theorem dX3_act_2 : decode cX3_act 2 = .ok (.iload_n 2, 1) := by decide +kernel
theorem dX3_act_3 : decode cX3_act 3 = .ok (.invokevirtual 25, 3) := by decide +kernel
theorem dX3_act_6 : decode cX3_act 6 = .ok (.ifCond .eq 22, 3) := by decide +kernel
theorem dX3_act_9 : decode cX3_act 9 = .ok (.aload_n 0, 1) := by decide +kernel
theorem dX3_act_10 : decode cX3_act 10 = .ok (.iload_n 1, 1) := by decide +kernel
theorem dX3_act_11 : decode cX3_act 11 = .ok (.iload_n 2, 1) := by decide +kernel
theorem dX3_act_12 : decode cX3_act 12 = .ok (.invokevirtual 38, 3) := by decide +kernel
theorem dX3_act_15 : decode cX3_act 15 = .ok (.aload_n 0, 1) := by decide +kernel
theorem dX3_act_16 : decode cX3_act 16 = .ok (.dup, 1) := by decide +kernel
theorem dX3_act_17 : decode cX3_act 17 = .ok (.getfield 15, 3) := by decide +kernel
theorem dX3_act_20 : decode cX3_act 20 = .ok (.iconst 1, 1) := by decide +kernel
theorem dX3_act_21 : decode cX3_act 21 = .ok (.iadd, 1) := by decide +kernel
theorem dX3_act_22 : decode cX3_act 22 = .ok (.putfield 15, 3) := by decide +kernel
theorem dX3_act_25 : decode cX3_act 25 = .ok (.goto 64, 3) := by decide +kernel
theorem dX3_act_28 : decode cX3_act 28 = .ok (.aload_n 0, 1) := by decide +kernel
theorem dX3_act_29 : decode cX3_act 29 = .ok (.iload_n 1, 1) := by decide +kernel
theorem dX3_act_30 : decode cX3_act 30 = .ok (.iload_n 2, 1) := by decide +kernel
theorem dX3_act_31 : decode cX3_act 31 = .ok (.invokevirtual 29, 3) := by decide +kernel
theorem dX3_act_34 : decode cX3_act 34 = .ok (.ifCond .eq 22, 3) := by decide +kernel
theorem dX3_act_37 : decode cX3_act 37 = .ok (.aload_n 0, 1) := by decide +kernel
theorem dX3_act_38 : decode cX3_act 38 = .ok (.iload_n 1, 1) := by decide +kernel
theorem dX3_act_39 : decode cX3_act 39 = .ok (.iload_n 2, 1) := by decide +kernel
theorem dX3_act_40 : decode cX3_act 40 = .ok (.invokevirtual 38, 3) := by decide +kernel
theorem dX3_act_43 : decode cX3_act 43 = .ok (.aload_n 0, 1) := by decide +kernel
theorem dX3_act_44 : decode cX3_act 44 = .ok (.dup, 1) := by decide +kernel
theorem dX3_act_45 : decode cX3_act 45 = .ok (.getfield 19, 3) := by decide +kernel
theorem dX3_act_48 : decode cX3_act 48 = .ok (.iconst 1, 1) := by decide +kernel
theorem dX3_act_49 : decode cX3_act 49 = .ok (.iadd, 1) := by decide +kernel
theorem dX3_act_50 : decode cX3_act 50 = .ok (.putfield 19, 3) := by decide +kernel
theorem dX3_act_53 : decode cX3_act 53 = .ok (.goto 36, 3) := by decide +kernel
theorem dX3_act_56 : decode cX3_act 56 = .ok (.aload_n 0, 1) := by decide +kernel
theorem dX3_act_57 : decode cX3_act 57 = .ok (.iload_n 1, 1) := by decide +kernel
theorem dX3_act_58 : decode cX3_act 58 = .ok (.iload_n 2, 1) := by decide +kernel
theorem dX3_act_59 : decode cX3_act 59 = .ok (.invokevirtual 32, 3) := by decide +kernel
theorem dX3_act_62 : decode cX3_act 62 = .ok (.ifCond .eq 12, 3) := by decide +kernel
theorem dX3_act_65 : decode cX3_act 65 = .ok (.aload_n 0, 1) := by decide +kernel
theorem dX3_act_66 : decode cX3_act 66 = .ok (.iload_n 1, 1) := by decide +kernel
theorem dX3_act_67 : decode cX3_act 67 = .ok (.iload_n 2, 1) := by decide +kernel
theorem dX3_act_68 : decode cX3_act 68 = .ok (.invokevirtual 42, 3) := by decide +kernel
theorem dX3_act_71 : decode cX3_act 71 = .ok (.goto 18, 3) := by decide +kernel
theorem dX3_act_74 : decode cX3_act 74 = .ok (.aload_n 0, 1) := by decide +kernel
theorem dX3_act_75 : decode cX3_act 75 = .ok (.iload_n 2, 1) := by decide +kernel
theorem dX3_act_76 : decode cX3_act 76 = .ok (.iload_n 1, 1) := by decide +kernel
theorem dX3_act_77 : decode cX3_act 77 = .ok (.invokevirtual 32, 3) := by decide +kernel
theorem dX3_act_80 : decode cX3_act 80 = .ok (.ifCond .eq 9, 3) := by decide +kernel
theorem dX3_act_83 : decode cX3_act 83 = .ok (.aload_n 0, 1) := by decide +kernel
theorem dX3_act_84 : decode cX3_act 84 = .ok (.iload_n 2, 1) := by decide +kernel
theorem dX3_act_85 : decode cX3_act 85 = .ok (.iload_n 1, 1) := by decide +kernel
theorem dX3_act_86 : decode cX3_act 86 = .ok (.invokevirtual 42, 3) := by decide +kernel
theorem dX3_act_89 : decode cX3_act 89 = .ok (.return_, 1) := by decide +kernel
