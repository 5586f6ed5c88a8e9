set_option maxRecDepth 100000 in
def BIG : List Cond := [Cond.selects "ConeForge$Scales" y_Sc_measure y_Sc_measure,
  Cond.selects "ConeForge$Scales" y_Sc_measureRows y_Sc_measureRows,
  Cond.selects "ConeForge$Scales" y_Sc_measureVariables y_Sc_measureVariables,
  Cond.selects "ConeForge$Scales" y_Sc_apply y_Sc_apply,
  Cond.selects "ConeForge$Problem" y_Pb_clear y_Pb_clear,
  Cond.selects "ConeForge$SimplexMethod" y_Sm_solve y_Sm_solve,
  Cond.selects "ConeForge$Point" y_Pt_fill y_Pt_fill,
  Cond.selects "ConeForge$SimplexMethod" y_Sm_fillTable y_Sm_fillTable,
  Cond.selects "ConeForge$SimplexMethod" y_Sm_signOf y_Sm_signOf,
  Cond.selects "ConeForge$SimplexMethod" y_Sm_setCosts y_Sm_setCosts,
  Cond.selects "ConeForge$SimplexMethod" y_Sm_runPhase y_Sm_runPhase,
  Cond.selects "ConeForge$SimplexMethod" y_Sm_incoming y_Sm_incoming,
  Cond.selects "ConeForge$SimplexMethod" y_Sm_outgoing y_Sm_outgoing,
  Cond.selects "ConeForge$SimplexMethod" y_Sm_leftover y_Sm_leftover,
  Cond.selects "ConeForge$SimplexMethod" y_Sm_tightest y_Sm_tightest,
  Cond.selects "ConeForge$SimplexMethod" y_Sm_tellRay y_Sm_tellRay,
  Cond.selects "ConeForge$SimplexMethod" y_Sm_pivot y_Sm_pivot,
  Cond.selects "ConeForge$SimplexMethod" y_Sm_takeAway y_Sm_takeAway,
  Cond.selects "ConeForge$SimplexMethod" y_Sm_isOvergrown y_Sm_isOvergrown,
  Cond.selects "ConeForge$SimplexMethod" y_Sm_costOfBasis y_Sm_costOfBasis,
  Cond.selects "ConeForge$SimplexMethod" y_Sm_tellPrices y_Sm_tellPrices,
  Cond.selects "ConeForge$SimplexMethod" y_Sm_tellSolution y_Sm_tellSolution,
  Cond.selects "ConeForge$Problem" y_Pb_lessColumn y_Pb_lessColumn,
  Cond.selects "ConeForge$Scales" y_Sc_unscale y_Sc_unscale,
  Cond.selects "java/lang/Throwable" ⟨"java/lang/Throwable", "fillInStackTrace", "(I)Ljava/lang/Throwable;"⟩ ⟨"java/lang/Throwable", "fillInStackTrace", "(I)Ljava/lang/Throwable;"⟩,
  Cond.selects "ConeForge$TextReader" y_Tr_append y_Tr_append,
  Cond.selects "ConeForge$TextReader" y_Tr_parse y_Tr_parse,
  Cond.selects "ConeForge$TextReader" y_Tr_parseSize y_Tr_parseSize,
  Cond.selects "ConeForge$TextReader" y_Tr_parseWhole y_Tr_parseWhole,
  Cond.selects "ConeForge$TextReader" y_Tr_parseNumber y_Tr_parseNumber,
  Cond.selects "ConeForge$TextReader" y_Tr_reachNumber y_Tr_reachNumber,
  Cond.selects "ConeForge$TextReader" y_Tr_beginsLine y_Tr_beginsLine,
  Cond.selects "ConeForge$TextReader" y_Tr_skip y_Tr_skip,
  Cond.selects "ConeForge$TextReader" y_Tr_takeDigits y_Tr_takeDigits,
  Cond.selects "ConeForge$TextReader" y_Tr_failAt y_Tr_failAt,
  Cond.selects "ConeForge$TextReader" y_Tr_parseList y_Tr_parseList,
  Cond.selects "ConeForge$TextReader" y_Tr_parseValue y_Tr_parseValue,
  Cond.selects "ConeForge$TextReader" y_Tr_parseEntries y_Tr_parseEntries,
  Cond.selects "ConeForge$Problem" y_Pb_copy y_Pb_copy,
  Cond.selects "ConeForge$InteriorMethod" y_Im_solve y_Im_solve,
  Cond.selects "ConeForge$InteriorMethod" y_Im_measure y_Im_measure,
  Cond.selects "ConeForge$Problem" y_Pb_lessRow y_Pb_lessRow,
  Cond.selects "ConeForge$Point" y_Pt_complementarity y_Pt_complementarity,
  Cond.selects "ConeForge$InteriorMethod" y_Im_isSolved y_Im_isSolved,
  Cond.selects "ConeForge$Problem" y_Pb_costOf y_Pb_costOf,
  Cond.selects "ConeForge$InteriorMethod" y_Im_isLost y_Im_isLost,
  Cond.selects "ConeForge$InteriorMethod" y_Im_findStep y_Im_findStep,
  Cond.selects "ConeForge$Problem" y_Pb_plusRow y_Pb_plusRow,
  Cond.selects "ConeForge$FactoredMatrix" y_Fm_gather y_Fm_gather,
  Cond.selects "ConeForge$FactoredMatrix" y_Fm_factor y_Fm_factor,
  Cond.selects "ConeForge$FactoredMatrix" y_Fm_reduced y_Fm_reduced,
  Cond.selects "ConeForge$FactoredMatrix" y_Fm_solve y_Fm_solve,
  Cond.selects "ConeForge$InteriorMethod" y_Im_goStep y_Im_goStep,
  Cond.selects "ConeForge$InteriorMethod" y_Im_longest y_Im_longest,
  Cond.selects "ConeForge" y_C_requireTold y_C_requireTold,
  Cond.selects "ConeForge$Problem" y_Pb_worthOf y_Pb_worthOf,
  Cond.selects "ConeForge" y_C_gapOf y_C_gapOf,
  Cond.selects "ConeForge" y_C_primalGap y_C_primalGap,
  Cond.selects "ConeForge" y_C_dualGap y_C_dualGap,
  Cond.selects "ConeForge$Point" y_Pt_deepest y_Pt_deepest,
  Cond.selects "ConeForge" y_C_isSolution y_C_isSolution,
  Cond.selects "ConeForge" y_C_showsNoSolution y_C_showsNoSolution,
  Cond.selects "ConeForge$Problem" y_Pb_plusColumn y_Pb_plusColumn,
  Cond.selects "ConeForge" y_C_showsNoLeast y_C_showsNoLeast,
  Cond.selects "ConeForge$Problem" y_Pb_nonZeros y_Pb_nonZeros,
  Cond.selects "ConeForgeModel" y_M_readAll y_M_readAll,
  Cond.selects "ConeForgeModel" y_M_next y_M_next,
  Cond.selects "ConeForgeModel" y_M_skip y_M_skip,
  Cond.selects "ConeForgeModel" y_M_here y_M_here,
  Cond.selects "ConeForgeModel" y_M_digits y_M_digits,
  Cond.selects "ConeForgeModel" y_M_isDigit y_M_isDigit,
  Cond.selects "ConeForgeModel" y_M_fail y_M_fail,
  Cond.selects "ConeForgeModel" y_M_rescale y_M_rescale,
  Cond.selects "ConeForgeModel" y_M_measure y_M_measure,
  Cond.selects "ConeForgeModel" y_M_isSolved y_M_isSolved,
  Cond.selects "ConeForgeModel" y_M_isLost y_M_isLost,
  Cond.selects "ConeForgeModel" y_M_prepare y_M_prepare,
  Cond.selects "ConeForgeModel" y_M_factor y_M_factor,
  Cond.selects "ConeForgeModel" y_M_solve y_M_solve,
  Cond.selects "ConeForgeModel" y_M_move y_M_move,
  Cond.selects "ConeForgeModel" y_M_back y_M_back,
  Cond.selects "ConeForgeModel" y_M_table y_M_table,
  Cond.selects "ConeForgeModel" y_M_clear y_M_clear,
  Cond.selects "ConeForgeModel" y_M_solveByTable y_M_solveByTable,
  Cond.selects "ConeForgeModel" y_M_phase y_M_phase,
  Cond.selects "ConeForgeModel" y_M_entering y_M_entering,
  Cond.selects "ConeForgeModel" y_M_leaving y_M_leaving,
  Cond.selects "ConeForgeModel" y_M_pivot y_M_pivot,
  Cond.selects "ConeForgeModel" y_M_isUsed y_M_isUsed,
  Cond.selects "ConeForgeModel" y_M_isWild y_M_isWild,
  Cond.selects "ConeForgeModel" y_M_multipliers y_M_multipliers,
  Cond.selects "ConeForgeModel" y_M_total y_M_total,
  Cond.selects "ConeForgeModel" y_M_far y_M_far,
  Cond.selects "ConeForgeModel" y_M_isNone y_M_isNone,
  Cond.selects "ConeForgeModel" y_M_isRay y_M_isRay,
  Cond.selects "ConeForgeModel" y_M_measureScales y_M_measureScales,
  Cond.initialized "ConeForgeLaw",
  Cond.initialized "ConeForge",
  Cond.initialized "ConeForge$Problem",
  Cond.initialized "ConeForge$Scales",
  Cond.initialized "ConeForge$Point",
  Cond.initialized "ConeForge$TextReader",
  Cond.initialized "ConeForge$InteriorMethod",
  Cond.initialized "ConeForge$FactoredMatrix",
  Cond.initialized "ConeForge$SimplexMethod",
  Cond.initialized "ConeForgeModel",
  Cond.initialized "java/lang/Throwable",
  Cond.initialized "java/lang/Exception",
  Cond.initialized "java/lang/RuntimeException",
  Cond.initialized "java/lang/IllegalArgumentException",
  Cond.initialized "java/util/Arrays",
  Cond.initialized "java/lang/IndexOutOfBoundsException",
  Cond.initialized "java/lang/IllegalStateException",
  Cond.initialized "java/lang/System",
  Cond.initialized "java/lang/ArithmeticException",
  Cond.classLink "ConeForgeLaw" 8 "ConeForge",
  Cond.instantiable "ConeForge" 10,
  Cond.methodLink "ConeForgeLaw" 55 y_C_init,
  Cond.instanceMethod y_C_init,
  Cond.code y_C_init prog_1_method_1_code 1 none,
  Cond.methodLink "ConeForge" 1 objectInit,
  Cond.instanceMethod objectInit,
  Cond.code objectInit object_method_1_code 1 none,
  Cond.classLink "ConeForge" 7 "ConeForge$Problem",
  Cond.instantiable "ConeForge$Problem" 5,
  Cond.instanceMethod y_Pb_init,
  Cond.code y_Pb_init prog_5_method_1_code 1 none,
  Cond.methodLink "ConeForge$Problem" 3 objectInit,
  Cond.classLink "ConeForge$Problem" 18 "[[D",
  Cond.fieldLink "ConeForge$Problem" 9 "ConeForge$Problem" "rows" "I",
  Cond.fieldLink "ConeForge$Problem" 15 "ConeForge$Problem" "variables" "I",
  Cond.fieldLink "ConeForge$Problem" 20 "ConeForge$Problem" "a" "[[D",
  Cond.fieldLink "ConeForge$Problem" 23 "ConeForge$Problem" "b" "[D",
  Cond.fieldLink "ConeForge$Problem" 27 "ConeForge$Problem" "c" "[D",
  Cond.lays "ConeForge$Problem" "ConeForge$Problem" "rows" "I",
  Cond.lays "ConeForge$Problem" "ConeForge$Problem" "variables" "I",
  Cond.laysFinal "ConeForge$Problem" "ConeForge$Problem" "a" "[[D",
  Cond.laysFinal "ConeForge$Problem" "ConeForge$Problem" "b" "[D",
  Cond.laysFinal "ConeForge$Problem" "ConeForge$Problem" "c" "[D",
  Cond.arrayClass .double,
  Cond.classLink "ConeForge" 16 "ConeForge$Scales",
  Cond.instantiable "ConeForge$Scales" 2,
  Cond.instanceMethod y_Sc_init,
  Cond.code y_Sc_init prog_6_method_1_code 1 none,
  Cond.methodLink "ConeForge$Scales" 3 objectInit,
  Cond.fieldLink "ConeForge$Scales" 9 "ConeForge$Scales" "ofRows" "[D",
  Cond.fieldLink "ConeForge$Scales" 15 "ConeForge$Scales" "ofVariables" "[D",
  Cond.laysFinal "ConeForge$Scales" "ConeForge$Scales" "ofRows" "[D",
  Cond.laysFinal "ConeForge$Scales" "ConeForge$Scales" "ofVariables" "[D",
  Cond.classLink "ConeForge" 23 "ConeForge$Point",
  Cond.instantiable "ConeForge$Point" 3,
  Cond.instanceMethod y_Pt_init,
  Cond.code y_Pt_init prog_4_method_1_code 1 none,
  Cond.methodLink "ConeForge$Point" 3 objectInit,
  Cond.fieldLink "ConeForge$Point" 9 "ConeForge$Point" "x" "[D",
  Cond.fieldLink "ConeForge$Point" 15 "ConeForge$Point" "s" "[D",
  Cond.fieldLink "ConeForge$Point" 18 "ConeForge$Point" "y" "[D",
  Cond.laysFinal "ConeForge$Point" "ConeForge$Point" "x" "[D",
  Cond.laysFinal "ConeForge$Point" "ConeForge$Point" "s" "[D",
  Cond.laysFinal "ConeForge$Point" "ConeForge$Point" "y" "[D",
  Cond.classLink "ConeForge" 30 "ConeForge$TextReader",
  Cond.instantiable "ConeForge$TextReader" 9,
  Cond.instanceMethod y_Tr_init,
  Cond.code y_Tr_init prog_8_method_1_code 1 none,
  Cond.methodLink "ConeForge$TextReader" 3 objectInit,
  Cond.classLink "ConeForge$TextReader" 15 "ConeForge$Problem",
  Cond.fieldLink "ConeForge$TextReader" 9 "ConeForge$TextReader" "characters" "[C",
  Cond.fieldLink "ConeForge$TextReader" 18 "ConeForge$TextReader" "fresh" "LConeForge$Problem;",
  Cond.fieldLink "ConeForge$TextReader" 22 "ConeForge$TextReader" "length" "I",
  Cond.fieldLink "ConeForge$TextReader" 26 "ConeForge$TextReader" "at" "I",
  Cond.fieldLink "ConeForge$TextReader" 29 "ConeForge$TextReader" "first" "I",
  Cond.fieldLink "ConeForge$TextReader" 32 "ConeForge$TextReader" "digits" "I",
  Cond.fieldLink "ConeForge$TextReader" 35 "ConeForge$TextReader" "value" "D",
  Cond.fieldLink "ConeForge$TextReader" 39 "ConeForge$TextReader" "numbersRead" "I",
  Cond.fieldLink "ConeForge$TextReader" 42 "ConeForge$TextReader" "failedAt" "I",
  Cond.laysFinal "ConeForge$TextReader" "ConeForge$TextReader" "characters" "[C",
  Cond.laysFinal "ConeForge$TextReader" "ConeForge$TextReader" "fresh" "LConeForge$Problem;",
  Cond.lays "ConeForge$TextReader" "ConeForge$TextReader" "length" "I",
  Cond.lays "ConeForge$TextReader" "ConeForge$TextReader" "at" "I",
  Cond.lays "ConeForge$TextReader" "ConeForge$TextReader" "first" "I",
  Cond.lays "ConeForge$TextReader" "ConeForge$TextReader" "digits" "I",
  Cond.lays "ConeForge$TextReader" "ConeForge$TextReader" "value" "D",
  Cond.lays "ConeForge$TextReader" "ConeForge$TextReader" "numbersRead" "I",
  Cond.lays "ConeForge$TextReader" "ConeForge$TextReader" "failedAt" "I",
  Cond.arrayClass .char,
  Cond.classLink "ConeForge" 37 "ConeForge$InteriorMethod",
  Cond.instantiable "ConeForge$InteriorMethod" 13,
  Cond.instanceMethod y_Im_init,
  Cond.code y_Im_init prog_3_method_1_code 1 none,
  Cond.methodLink "ConeForge$InteriorMethod" 3 objectInit,
  Cond.classLink "ConeForge$InteriorMethod" 9 "ConeForge$Problem",
  Cond.classLink "ConeForge$InteriorMethod" 18 "ConeForge$Point",
  Cond.classLink "ConeForge$InteriorMethod" 25 "ConeForge$FactoredMatrix",
  Cond.instantiable "ConeForge$FactoredMatrix" 4,
  Cond.instanceMethod y_Fm_init,
  Cond.code y_Fm_init prog_2_method_1_code 1 none,
  Cond.methodLink "ConeForge$FactoredMatrix" 3 objectInit,
  Cond.classLink "ConeForge$FactoredMatrix" 9 "[[D",
  Cond.fieldLink "ConeForge$FactoredMatrix" 11 "ConeForge$FactoredMatrix" "entries" "[[D",
  Cond.fieldLink "ConeForge$FactoredMatrix" 16 "ConeForge$FactoredMatrix" "lower" "[[D",
  Cond.fieldLink "ConeForge$FactoredMatrix" 19 "ConeForge$FactoredMatrix" "diagonal" "[D",
  Cond.fieldLink "ConeForge$FactoredMatrix" 23 "ConeForge$FactoredMatrix" "middle" "[D",
  Cond.laysFinal "ConeForge$FactoredMatrix" "ConeForge$FactoredMatrix" "entries" "[[D",
  Cond.laysFinal "ConeForge$FactoredMatrix" "ConeForge$FactoredMatrix" "lower" "[[D",
  Cond.laysFinal "ConeForge$FactoredMatrix" "ConeForge$FactoredMatrix" "diagonal" "[D",
  Cond.laysFinal "ConeForge$FactoredMatrix" "ConeForge$FactoredMatrix" "middle" "[D",
  Cond.fieldLink "ConeForge$InteriorMethod" 12 "ConeForge$InteriorMethod" "problem" "LConeForge$Problem;",
  Cond.fieldLink "ConeForge$InteriorMethod" 21 "ConeForge$InteriorMethod" "point" "LConeForge$Point;",
  Cond.fieldLink "ConeForge$InteriorMethod" 28 "ConeForge$InteriorMethod" "matrix" "LConeForge$FactoredMatrix;",
  Cond.fieldLink "ConeForge$InteriorMethod" 32 "ConeForge$InteriorMethod" "p" "[D",
  Cond.fieldLink "ConeForge$InteriorMethod" 36 "ConeForge$InteriorMethod" "d" "[D",
  Cond.fieldLink "ConeForge$InteriorMethod" 39 "ConeForge$InteriorMethod" "h" "[D",
  Cond.fieldLink "ConeForge$InteriorMethod" 42 "ConeForge$InteriorMethod" "f" "[D",
  Cond.fieldLink "ConeForge$InteriorMethod" 45 "ConeForge$InteriorMethod" "\x72" "[D",
  Cond.fieldLink "ConeForge$InteriorMethod" 48 "ConeForge$InteriorMethod" "stepOfX" "[D",
  Cond.fieldLink "ConeForge$InteriorMethod" 51 "ConeForge$InteriorMethod" "stepOfS" "[D",
  Cond.fieldLink "ConeForge$InteriorMethod" 54 "ConeForge$InteriorMethod" "stepOfY" "[D",
  Cond.fieldLink "ConeForge$InteriorMethod" 57 "ConeForge$InteriorMethod" "g" "D",
  Cond.fieldLink "ConeForge$InteriorMethod" 61 "ConeForge$InteriorMethod" "turnsBegun" "I",
  Cond.laysFinal "ConeForge$InteriorMethod" "ConeForge$InteriorMethod" "problem" "LConeForge$Problem;",
  Cond.laysFinal "ConeForge$InteriorMethod" "ConeForge$InteriorMethod" "point" "LConeForge$Point;",
  Cond.laysFinal "ConeForge$InteriorMethod" "ConeForge$InteriorMethod" "matrix" "LConeForge$FactoredMatrix;",
  Cond.laysFinal "ConeForge$InteriorMethod" "ConeForge$InteriorMethod" "p" "[D",
  Cond.laysFinal "ConeForge$InteriorMethod" "ConeForge$InteriorMethod" "d" "[D",
  Cond.laysFinal "ConeForge$InteriorMethod" "ConeForge$InteriorMethod" "h" "[D",
  Cond.laysFinal "ConeForge$InteriorMethod" "ConeForge$InteriorMethod" "f" "[D",
  Cond.laysFinal "ConeForge$InteriorMethod" "ConeForge$InteriorMethod" "\x72" "[D",
  Cond.laysFinal "ConeForge$InteriorMethod" "ConeForge$InteriorMethod" "stepOfX" "[D",
  Cond.laysFinal "ConeForge$InteriorMethod" "ConeForge$InteriorMethod" "stepOfS" "[D",
  Cond.laysFinal "ConeForge$InteriorMethod" "ConeForge$InteriorMethod" "stepOfY" "[D",
  Cond.lays "ConeForge$InteriorMethod" "ConeForge$InteriorMethod" "g" "D",
  Cond.lays "ConeForge$InteriorMethod" "ConeForge$InteriorMethod" "turnsBegun" "I",
  Cond.classLink "ConeForge" 44 "ConeForge$SimplexMethod",
  Cond.instantiable "ConeForge$SimplexMethod" 10,
  Cond.instanceMethod y_Sm_init,
  Cond.code y_Sm_init prog_7_method_1_code 1 none,
  Cond.methodLink "ConeForge$SimplexMethod" 3 objectInit,
  Cond.classLink "ConeForge$SimplexMethod" 9 "ConeForge$Problem",
  Cond.classLink "ConeForge$SimplexMethod" 18 "ConeForge$Point",
  Cond.classLink "ConeForge$SimplexMethod" 25 "[[D",
  Cond.fieldLink "ConeForge$SimplexMethod" 12 "ConeForge$SimplexMethod" "problem" "LConeForge$Problem;",
  Cond.fieldLink "ConeForge$SimplexMethod" 21 "ConeForge$SimplexMethod" "point" "LConeForge$Point;",
  Cond.fieldLink "ConeForge$SimplexMethod" 27 "ConeForge$SimplexMethod" "table" "[[D",
  Cond.fieldLink "ConeForge$SimplexMethod" 30 "ConeForge$SimplexMethod" "right" "[D",
  Cond.fieldLink "ConeForge$SimplexMethod" 34 "ConeForge$SimplexMethod" "cost" "[D",
  Cond.fieldLink "ConeForge$SimplexMethod" 37 "ConeForge$SimplexMethod" "basic" "[I",
  Cond.fieldLink "ConeForge$SimplexMethod" 41 "ConeForge$SimplexMethod" "rows" "I",
  Cond.fieldLink "ConeForge$SimplexMethod" 45 "ConeForge$SimplexMethod" "variables" "I",
  Cond.fieldLink "ConeForge$SimplexMethod" 48 "ConeForge$SimplexMethod" "columns" "I",
  Cond.fieldLink "ConeForge$SimplexMethod" 51 "ConeForge$SimplexMethod" "stepsDone" "I",
  Cond.laysFinal "ConeForge$SimplexMethod" "ConeForge$SimplexMethod" "problem" "LConeForge$Problem;",
  Cond.laysFinal "ConeForge$SimplexMethod" "ConeForge$SimplexMethod" "point" "LConeForge$Point;",
  Cond.laysFinal "ConeForge$SimplexMethod" "ConeForge$SimplexMethod" "table" "[[D",
  Cond.laysFinal "ConeForge$SimplexMethod" "ConeForge$SimplexMethod" "right" "[D",
  Cond.laysFinal "ConeForge$SimplexMethod" "ConeForge$SimplexMethod" "cost" "[D",
  Cond.laysFinal "ConeForge$SimplexMethod" "ConeForge$SimplexMethod" "basic" "[I",
  Cond.lays "ConeForge$SimplexMethod" "ConeForge$SimplexMethod" "rows" "I",
  Cond.lays "ConeForge$SimplexMethod" "ConeForge$SimplexMethod" "variables" "I",
  Cond.lays "ConeForge$SimplexMethod" "ConeForge$SimplexMethod" "columns" "I",
  Cond.lays "ConeForge$SimplexMethod" "ConeForge$SimplexMethod" "stepsDone" "I",
  Cond.arrayClass .int,
  Cond.fieldLink "ConeForge" 10 "ConeForge" "problem" "LConeForge$Problem;",
  Cond.fieldLink "ConeForge" 19 "ConeForge" "scales" "LConeForge$Scales;",
  Cond.fieldLink "ConeForge" 26 "ConeForge" "point" "LConeForge$Point;",
  Cond.fieldLink "ConeForge" 33 "ConeForge" "reader" "LConeForge$TextReader;",
  Cond.fieldLink "ConeForge" 40 "ConeForge" "interiorMethod" "LConeForge$InteriorMethod;",
  Cond.fieldLink "ConeForge" 47 "ConeForge" "simplexMethod" "LConeForge$SimplexMethod;",
  Cond.fieldLink "ConeForge" 51 "ConeForge" "scalingOn" "Z",
  Cond.fieldLink "ConeForge" 55 "ConeForge" "pointTold" "Z",
  Cond.fieldLink "ConeForge" 58 "ConeForge" "latestEffort" "I",
  Cond.fieldLink "ConeForge" 62 "ConeForge" "failedAt" "I",
  Cond.laysFinal "ConeForge" "ConeForge" "problem" "LConeForge$Problem;",
  Cond.laysFinal "ConeForge" "ConeForge" "scales" "LConeForge$Scales;",
  Cond.laysFinal "ConeForge" "ConeForge" "point" "LConeForge$Point;",
  Cond.laysFinal "ConeForge" "ConeForge" "reader" "LConeForge$TextReader;",
  Cond.laysFinal "ConeForge" "ConeForge" "interiorMethod" "LConeForge$InteriorMethod;",
  Cond.laysFinal "ConeForge" "ConeForge" "simplexMethod" "LConeForge$SimplexMethod;",
  Cond.lays "ConeForge" "ConeForge" "scalingOn" "Z",
  Cond.lays "ConeForge" "ConeForge" "pointTold" "Z",
  Cond.lays "ConeForge" "ConeForge" "latestEffort" "I",
  Cond.lays "ConeForge" "ConeForge" "failedAt" "I",
  Cond.methodLink "ConeForgeLaw" 74 y_C_scaling,
  Cond.instanceMethod y_C_scaling,
  Cond.selects "ConeForge" y_C_scaling y_C_scaling,
  Cond.code y_C_scaling prog_1_method_4_code 3 (some .boolean),
  Cond.methodLink "ConeForgeLaw" 89 y_C_where,
  Cond.instanceMethod y_C_where,
  Cond.selects "ConeForge" y_C_where y_C_where,
  Cond.code y_C_where prog_1_method_7_code 1 (some .int),
  Cond.methodLink "ConeForgeLaw" 97 y_C_simplex,
  Cond.instanceMethod y_C_simplex,
  Cond.selects "ConeForge" y_C_simplex y_C_simplex,
  Cond.code y_C_simplex prog_1_method_9_code 2 (some .int),
  Cond.instanceMethod y_Sc_measure,
  Cond.code y_Sc_measure prog_6_method_2_code 3 none,
  Cond.methodLink "ConeForge$Scales" 18 y_Ar_fill,
  Cond.static y_Ar_fill,
  Cond.code y_Ar_fill prog_20_method_113_code 5 none,
  Cond.methodLink "ConeForge$Scales" 24 y_Sc_measureRows,
  Cond.instanceMethod y_Sc_measureRows,
  Cond.code y_Sc_measureRows prog_6_method_3_code 3 none,
  Cond.static y_C_greatestOf,
  Cond.code y_C_greatestOf prog_1_method_28_code 5 (some .double),
  Cond.methodLink "ConeForge" 253 y_C_absolute,
  Cond.static y_C_absolute,
  Cond.code y_C_absolute prog_1_method_26_code 2 (some .double),
  Cond.methodLink "ConeForge" 257 y_C_greater,
  Cond.static y_C_greater,
  Cond.code y_C_greater prog_1_method_27_code 4 (some .double),
  Cond.methodLink "ConeForge$Scales" 48 y_Sc_powerFor,
  Cond.static y_Sc_powerFor,
  Cond.code y_Sc_powerFor prog_6_method_5_code 7 (some .double),
  Cond.constantDouble "ConeForge$Scales" 59 4611686018427387904,
  Cond.methodLink "ConeForge$Scales" 28 y_Sc_measureVariables,
  Cond.instanceMethod y_Sc_measureVariables,
  Cond.code y_Sc_measureVariables prog_6_method_4_code 6 none,
  Cond.instanceMethod y_Sc_apply,
  Cond.code y_Sc_apply prog_6_method_6_code 5 none,
  Cond.instanceMethod y_Pb_clear,
  Cond.code y_Pb_clear prog_5_method_2_code 4 none,
  Cond.methodLink "ConeForge$Problem" 30 y_Ar_fill,
  Cond.instanceMethod y_Sm_solve,
  Cond.code y_Sm_solve prog_7_method_2_code 2 (some .int),
  Cond.instanceMethod y_Pt_fill,
  Cond.code y_Pt_fill prog_4_method_2_code 5 none,
  Cond.methodLink "ConeForge$Point" 21 y_Ar_fill,
  Cond.methodLink "ConeForge$SimplexMethod" 58 y_Sm_fillTable,
  Cond.instanceMethod y_Sm_fillTable,
  Cond.code y_Sm_fillTable prog_7_method_3_code 5 none,
  Cond.methodLink "ConeForge$SimplexMethod" 83 y_Sm_signOf,
  Cond.instanceMethod y_Sm_signOf,
  Cond.code y_Sm_signOf prog_7_method_4_code 2 (some .double),
  Cond.constantDouble "ConeForge$SimplexMethod" 93 13830554455654793216,
  Cond.methodLink "ConeForge$SimplexMethod" 61 y_Sm_setCosts,
  Cond.instanceMethod y_Sm_setCosts,
  Cond.code y_Sm_setCosts prog_7_method_5_code 3 none,
  Cond.methodLink "ConeForge$SimplexMethod" 65 y_Sm_runPhase,
  Cond.instanceMethod y_Sm_runPhase,
  Cond.code y_Sm_runPhase prog_7_method_6_code 5 (some .int),
  Cond.methodLink "ConeForge$SimplexMethod" 98 y_Sm_incoming,
  Cond.instanceMethod y_Sm_incoming,
  Cond.code y_Sm_incoming prog_7_method_7_code 5 (some .int),
  Cond.constantDouble "ConeForge$SimplexMethod" 118 13695778570484766357,
  Cond.methodLink "ConeForge$SimplexMethod" 102 y_Sm_outgoing,
  Cond.instanceMethod y_Sm_outgoing,
  Cond.code y_Sm_outgoing prog_7_method_8_code 4 (some .int),
  Cond.methodLink "ConeForge$SimplexMethod" 120 y_Sm_leftover,
  Cond.instanceMethod y_Sm_leftover,
  Cond.code y_Sm_leftover prog_7_method_9_code 3 (some .int),
  Cond.constantDouble "ConeForge$SimplexMethod" 131 4472406533629990549,
  Cond.methodLink "ConeForge$SimplexMethod" 124 y_Sm_tightest,
  Cond.instanceMethod y_Sm_tightest,
  Cond.code y_Sm_tightest prog_7_method_10_code 8 (some .int),
  Cond.methodLink "ConeForge$SimplexMethod" 106 y_Sm_tellRay,
  Cond.instanceMethod y_Sm_tellRay,
  Cond.code y_Sm_tellRay prog_7_method_17_code 3 none,
  Cond.methodLink "ConeForge$SimplexMethod" 110 y_Sm_pivot,
  Cond.instanceMethod y_Sm_pivot,
  Cond.code y_Sm_pivot prog_7_method_11_code 6 none,
  Cond.methodLink "ConeForge$SimplexMethod" 133 y_Sm_takeAway,
  Cond.instanceMethod y_Sm_takeAway,
  Cond.code y_Sm_takeAway prog_7_method_12_code 6 none,
  Cond.methodLink "ConeForge$SimplexMethod" 114 y_Sm_isOvergrown,
  Cond.instanceMethod y_Sm_isOvergrown,
  Cond.code y_Sm_isOvergrown prog_7_method_13_code 2 (some .boolean),
  Cond.constantDouble "ConeForge$SimplexMethod" 141 4786511204640096256,
  Cond.methodLink "ConeForge$SimplexMethod" 69 y_Sm_costOfBasis,
  Cond.instanceMethod y_Sm_costOfBasis,
  Cond.code y_Sm_costOfBasis prog_7_method_14_code 4 (some .double),
  Cond.constantDouble "ConeForge$SimplexMethod" 73 4502148214488346440,
  Cond.methodLink "ConeForge$SimplexMethod" 75 y_Sm_tellPrices,
  Cond.instanceMethod y_Sm_tellPrices,
  Cond.code y_Sm_tellPrices prog_7_method_15_code 5 none,
  Cond.methodLink "ConeForge$SimplexMethod" 78 y_Sm_tellSolution,
  Cond.instanceMethod y_Sm_tellSolution,
  Cond.code y_Sm_tellSolution prog_7_method_16_code 2 none,
  Cond.instanceMethod y_Pb_lessColumn,
  Cond.code y_Pb_lessColumn prog_5_method_8_code 8 (some .double),
  Cond.instanceMethod y_Sc_unscale,
  Cond.code y_Sc_unscale prog_6_method_7_code 4 none,
  Cond.methodLink "ConeForgeLaw" 105 y_C_effort,
  Cond.instanceMethod y_C_effort,
  Cond.selects "ConeForge" y_C_effort y_C_effort,
  Cond.code y_C_effort prog_1_method_11_code 1 (some .int),
  Cond.methodLink "ConeForgeLaw" 59 ⟨"ConeForgeLaw", "begin", "(LConeForge;II[J)I"⟩,
  Cond.static ⟨"ConeForgeLaw", "begin", "(LConeForge;II[J)I"⟩,
  Cond.classLink "ConeForgeLaw" 13 "java/lang/IllegalArgumentException",
  Cond.methodLink "ConeForgeLaw" 7 y_C_begin,
  Cond.instanceMethod y_C_begin,
  Cond.selects "ConeForge" y_C_begin y_C_begin,
  Cond.code y_C_begin prog_1_method_2_code 3 (some .int),
  Cond.classLink "ConeForge" 65 "java/lang/IllegalArgumentException",
  Cond.instantiable "java/lang/IllegalArgumentException" 6,
  Cond.selects "java/lang/IllegalArgumentException" ⟨"java/lang/Throwable", "fillInStackTrace", "(I)Ljava/lang/Throwable;"⟩ ⟨"java/lang/Throwable", "fillInStackTrace", "(I)Ljava/lang/Throwable;"⟩,
  Cond.selects "java/lang/IllegalArgumentException" ⟨"java/lang/Throwable", "fillInStackTrace", "()Ljava/lang/Throwable;"⟩ ⟨"java/lang/Throwable", "fillInStackTrace", "()Ljava/lang/Throwable;"⟩,
  Cond.lays "java/lang/IllegalArgumentException" "java/lang/Throwable" "cause" "Ljava/lang/Throwable;",
  Cond.lays "java/lang/Throwable" "java/lang/Throwable" "cause" "Ljava/lang/Throwable;",
  Cond.lays "java/lang/IllegalArgumentException" "java/lang/Throwable" "stackTrace" "[Ljava/lang/StackTraceElement;",
  Cond.lays "java/lang/Throwable" "java/lang/Throwable" "stackTrace" "[Ljava/lang/StackTraceElement;",
  Cond.lays "java/lang/IllegalArgumentException" "java/lang/Throwable" "suppressedExceptions" "Ljava/util/List;",
  Cond.lays "java/lang/Throwable" "java/lang/Throwable" "suppressedExceptions" "Ljava/util/List;",
  Cond.lays "java/lang/IllegalArgumentException" "java/lang/Throwable" "detailMessage" "Ljava/lang/String;",
  Cond.lays "java/lang/Throwable" "java/lang/Throwable" "detailMessage" "Ljava/lang/String;",
  Cond.lays "java/lang/IllegalArgumentException" "java/lang/Throwable" "backtrace" "Ljava/lang/Object;",
  Cond.lays "java/lang/Throwable" "java/lang/Throwable" "backtrace" "Ljava/lang/Object;",
  Cond.fieldLink "java/lang/Throwable" 198 "java/lang/Throwable" "backtrace" "Ljava/lang/Object;",
  Cond.instanceMethod ⟨"java/lang/Throwable", "<init>", "()V"⟩,
  Cond.code ⟨"java/lang/Throwable", "<init>", "()V"⟩ prog_19_method_1_code 1 none,
  Cond.methodLink "java/lang/Throwable" 1 objectInit,
  Cond.fieldLink "java/lang/Throwable" 13 "java/lang/Throwable" "UNASSIGNED_STACK" "[Ljava/lang/StackTraceElement;",
  Cond.fieldLink "java/lang/Throwable" 20 "java/lang/Throwable" "SUPPRESSED_SENTINEL" "Ljava/util/List;",
  Cond.methodLink "java/lang/Throwable" 27 ⟨"java/lang/Throwable", "fillInStackTrace", "()Ljava/lang/Throwable;"⟩,
  Cond.instanceMethod ⟨"java/lang/Throwable", "fillInStackTrace", "()Ljava/lang/Throwable;"⟩,
  Cond.selects "java/lang/ArithmeticException" ⟨"java/lang/Throwable", "fillInStackTrace", "()Ljava/lang/Throwable;"⟩ ⟨"java/lang/Throwable", "fillInStackTrace", "()Ljava/lang/Throwable;"⟩,
  Cond.selects "java/lang/IllegalStateException" ⟨"java/lang/Throwable", "fillInStackTrace", "()Ljava/lang/Throwable;"⟩ ⟨"java/lang/Throwable", "fillInStackTrace", "()Ljava/lang/Throwable;"⟩,
  Cond.selects "java/lang/IndexOutOfBoundsException" ⟨"java/lang/Throwable", "fillInStackTrace", "()Ljava/lang/Throwable;"⟩ ⟨"java/lang/Throwable", "fillInStackTrace", "()Ljava/lang/Throwable;"⟩,
  Cond.methodLink "java/lang/Throwable" 202 ⟨"java/lang/Throwable", "fillInStackTrace", "(I)Ljava/lang/Throwable;"⟩,
  Cond.instanceMethod ⟨"java/lang/Throwable", "fillInStackTrace", "(I)Ljava/lang/Throwable;"⟩,
  Cond.instantiable "java/lang/Throwable" 6,
  Cond.native ⟨"java/lang/Throwable", "fillInStackTrace", "(I)Ljava/lang/Throwable;"⟩,
  Cond.methodLink "ConeForge" 69 ⟨"java/lang/IllegalArgumentException", "<init>", "(Ljava/lang/String;)V"⟩,
  Cond.instanceMethod ⟨"java/lang/IllegalArgumentException", "<init>", "(Ljava/lang/String;)V"⟩,
  Cond.code ⟨"java/lang/IllegalArgumentException", "<init>", "(Ljava/lang/String;)V"⟩ prog_13_method_2_code 2 none,
  Cond.methodLink "java/lang/IllegalArgumentException" 7 ⟨"java/lang/RuntimeException", "<init>", "(Ljava/lang/String;)V"⟩,
  Cond.instanceMethod ⟨"java/lang/RuntimeException", "<init>", "(Ljava/lang/String;)V"⟩,
  Cond.code ⟨"java/lang/RuntimeException", "<init>", "(Ljava/lang/String;)V"⟩ prog_16_method_2_code 2 none,
  Cond.methodLink "java/lang/RuntimeException" 7 ⟨"java/lang/Exception", "<init>", "(Ljava/lang/String;)V"⟩,
  Cond.instanceMethod ⟨"java/lang/Exception", "<init>", "(Ljava/lang/String;)V"⟩,
  Cond.code ⟨"java/lang/Exception", "<init>", "(Ljava/lang/String;)V"⟩ prog_12_method_2_code 2 none,
  Cond.methodLink "java/lang/Exception" 7 ⟨"java/lang/Throwable", "<init>", "(Ljava/lang/String;)V"⟩,
  Cond.instanceMethod ⟨"java/lang/Throwable", "<init>", "(Ljava/lang/String;)V"⟩,
  Cond.code ⟨"java/lang/Throwable", "<init>", "(Ljava/lang/String;)V"⟩ prog_19_method_2_code 2 none,
  Cond.fieldLink "java/lang/Throwable" 31 "java/lang/Throwable" "detailMessage" "Ljava/lang/String;",
  Cond.fieldLink "java/lang/Throwable" 7 "java/lang/Throwable" "cause" "Ljava/lang/Throwable;",
  Cond.fieldLink "java/lang/Throwable" 17 "java/lang/Throwable" "stackTrace" "[Ljava/lang/StackTraceElement;",
  Cond.fieldLink "java/lang/Throwable" 24 "java/lang/Throwable" "suppressedExceptions" "Ljava/util/List;",
  Cond.lays "java/lang/IllegalArgumentException" "java/lang/Throwable" "depth" "I",
  Cond.arrayClass .byte,
  Cond.methodLink "ConeForgeLaw" 70 ⟨"ConeForgeLaw", "set", "(LConeForge;IIID[D)I"⟩,
  Cond.static ⟨"ConeForgeLaw", "set", "(LConeForge;IIID[D)I"⟩,
  Cond.classLink "ConeForgeLaw" 19 "java/lang/IndexOutOfBoundsException",
  Cond.methodLink "ConeForgeLaw" 15 y_C_set,
  Cond.instanceMethod y_C_set,
  Cond.selects "ConeForge" y_C_set y_C_set,
  Cond.code y_C_set prog_1_method_3_code 6 (some .double),
  Cond.methodLink "ConeForge" 78 y_C_isAllowed,
  Cond.static y_C_isAllowed,
  Cond.code y_C_isAllowed prog_1_method_24_code 2 (some .boolean),
  Cond.constantDouble "ConeForge" 270 13875379345695965184,
  Cond.constantDouble "ConeForge" 272 4652007308841189376,
  Cond.constantDouble "ConeForge" 274 4517329193108106637,
  Cond.methodLink "ConeForge" 87 y_C_requireIndex,
  Cond.static y_C_requireIndex,
  Cond.code y_C_requireIndex prog_1_method_17_code 2 none,
  Cond.classLink "ConeForge" 231 "java/lang/IndexOutOfBoundsException",
  Cond.instantiable "java/lang/IndexOutOfBoundsException" 6,
  Cond.selects "java/lang/IndexOutOfBoundsException" ⟨"java/lang/Throwable", "fillInStackTrace", "(I)Ljava/lang/Throwable;"⟩ ⟨"java/lang/Throwable", "fillInStackTrace", "(I)Ljava/lang/Throwable;"⟩,
  Cond.lays "java/lang/IndexOutOfBoundsException" "java/lang/Throwable" "cause" "Ljava/lang/Throwable;",
  Cond.lays "java/lang/IndexOutOfBoundsException" "java/lang/Throwable" "stackTrace" "[Ljava/lang/StackTraceElement;",
  Cond.lays "java/lang/IndexOutOfBoundsException" "java/lang/Throwable" "suppressedExceptions" "Ljava/util/List;",
  Cond.lays "java/lang/IndexOutOfBoundsException" "java/lang/Throwable" "detailMessage" "Ljava/lang/String;",
  Cond.lays "java/lang/IndexOutOfBoundsException" "java/lang/Throwable" "backtrace" "Ljava/lang/Object;",
  Cond.methodLink "ConeForge" 235 ⟨"java/lang/IndexOutOfBoundsException", "<init>", "(Ljava/lang/String;)V"⟩,
  Cond.instanceMethod ⟨"java/lang/IndexOutOfBoundsException", "<init>", "(Ljava/lang/String;)V"⟩,
  Cond.code ⟨"java/lang/IndexOutOfBoundsException", "<init>", "(Ljava/lang/String;)V"⟩ prog_15_method_2_code 2 none,
  Cond.methodLink "java/lang/IndexOutOfBoundsException" 7 ⟨"java/lang/RuntimeException", "<init>", "(Ljava/lang/String;)V"⟩,
  Cond.lays "java/lang/IndexOutOfBoundsException" "java/lang/Throwable" "depth" "I",
  Cond.methodLink "ConeForge" 97 y_C_exchange,
  Cond.static y_C_exchange,
  Cond.code y_C_exchange prog_1_method_25_code 6 (some .double),
  Cond.methodLink "ConeForgeLaw" 81 ⟨"ConeForgeLaw", "text", "(LConeForge;J[J)I"⟩,
  Cond.static ⟨"ConeForgeLaw", "text", "(LConeForge;J[J)I"⟩,
  Cond.classLink "ConeForgeLaw" 25 "java/lang/IllegalStateException",
  Cond.methodLink "ConeForgeLaw" 21 y_C_text,
  Cond.instanceMethod y_C_text,
  Cond.selects "ConeForge" y_C_text y_C_text,
  Cond.code y_C_text prog_1_method_5_code 3 (some .int),
  Cond.static y_Tr_isReadable,
  Cond.code y_Tr_isReadable prog_8_method_3_code 4 (some .boolean),
  Cond.methodLink "ConeForge$TextReader" 47 y_Tr_byteOf,
  Cond.static y_Tr_byteOf,
  Cond.code y_Tr_byteOf prog_8_method_2_code 3 (some .int),
  Cond.constantLong "ConeForge$TextReader" 45 255,
  Cond.instanceMethod y_Tr_append,
  Cond.code y_Tr_append prog_8_method_5_code 5 (some .boolean),
  Cond.methodLink "ConeForge$TextReader" 51 y_Tr_charactersOf,
  Cond.static y_Tr_charactersOf,
  Cond.code y_Tr_charactersOf prog_8_method_4_code 4 (some .int),
  Cond.classLink "ConeForge" 117 "java/lang/IllegalStateException",
  Cond.instantiable "java/lang/IllegalStateException" 6,
  Cond.selects "java/lang/IllegalStateException" ⟨"java/lang/Throwable", "fillInStackTrace", "(I)Ljava/lang/Throwable;"⟩ ⟨"java/lang/Throwable", "fillInStackTrace", "(I)Ljava/lang/Throwable;"⟩,
  Cond.lays "java/lang/IllegalStateException" "java/lang/Throwable" "cause" "Ljava/lang/Throwable;",
  Cond.lays "java/lang/IllegalStateException" "java/lang/Throwable" "stackTrace" "[Ljava/lang/StackTraceElement;",
  Cond.lays "java/lang/IllegalStateException" "java/lang/Throwable" "suppressedExceptions" "Ljava/util/List;",
  Cond.lays "java/lang/IllegalStateException" "java/lang/Throwable" "detailMessage" "Ljava/lang/String;",
  Cond.lays "java/lang/IllegalStateException" "java/lang/Throwable" "backtrace" "Ljava/lang/Object;",
  Cond.methodLink "ConeForge" 121 ⟨"java/lang/IllegalStateException", "<init>", "(Ljava/lang/String;)V"⟩,
  Cond.instanceMethod ⟨"java/lang/IllegalStateException", "<init>", "(Ljava/lang/String;)V"⟩,
  Cond.code ⟨"java/lang/IllegalStateException", "<init>", "(Ljava/lang/String;)V"⟩ prog_14_method_2_code 2 none,
  Cond.methodLink "java/lang/IllegalStateException" 7 ⟨"java/lang/RuntimeException", "<init>", "(Ljava/lang/String;)V"⟩,
  Cond.lays "java/lang/IllegalStateException" "java/lang/Throwable" "depth" "I",
  Cond.methodLink "ConeForgeLaw" 85 ⟨"ConeForgeLaw", "read", "(LConeForge;[J)I"⟩,
  Cond.static ⟨"ConeForgeLaw", "read", "(LConeForge;[J)I"⟩,
  Cond.methodLink "ConeForgeLaw" 27 y_C_read,
  Cond.instanceMethod y_C_read,
  Cond.selects "ConeForge" y_C_read y_C_read,
  Cond.code y_C_read prog_1_method_6_code 1 (some .int),
  Cond.instanceMethod y_Tr_parse,
  Cond.code y_Tr_parse prog_8_method_6_code 1 (some .boolean),
  Cond.methodLink "ConeForge$TextReader" 55 y_Tr_parseSize,
  Cond.instanceMethod y_Tr_parseSize,
  Cond.code y_Tr_parseSize prog_8_method_7_code 2 (some .boolean),
  Cond.methodLink "ConeForge$TextReader" 79 y_Tr_parseWhole,
  Cond.instanceMethod y_Tr_parseWhole,
  Cond.code y_Tr_parseWhole prog_8_method_10_code 2 (some .boolean),
  Cond.methodLink "ConeForge$TextReader" 97 y_Tr_parseNumber,
  Cond.instanceMethod y_Tr_parseNumber,
  Cond.code y_Tr_parseNumber prog_8_method_12_code 7 (some .boolean),
  Cond.methodLink "ConeForge$TextReader" 90 y_Tr_reachNumber,
  Cond.instanceMethod y_Tr_reachNumber,
  Cond.code y_Tr_reachNumber prog_8_method_13_code 3 (some .boolean),
  Cond.methodLink "ConeForge$TextReader" 122 y_Tr_beginsLine,
  Cond.instanceMethod y_Tr_beginsLine,
  Cond.code y_Tr_beginsLine prog_8_method_14_code 1 (some .boolean),
  Cond.methodLink "ConeForge$TextReader" 108 y_Tr_skip,
  Cond.instanceMethod y_Tr_skip,
  Cond.code y_Tr_skip prog_8_method_15_code 2 (some .boolean),
  Cond.methodLink "ConeForge$TextReader" 112 y_Tr_takeDigits,
  Cond.instanceMethod y_Tr_takeDigits,
  Cond.code y_Tr_takeDigits prog_8_method_16_code 3 (some .int),
  Cond.methodLink "ConeForge$TextReader" 101 y_Tr_failAt,
  Cond.instanceMethod y_Tr_failAt,
  Cond.code y_Tr_failAt prog_8_method_17_code 2 (some .boolean),
  Cond.constantDouble "ConeForge$TextReader" 116 4621819117588971520,
  Cond.constantDouble "ConeForge$TextReader" 118 4636737291354636288,
  Cond.constantDouble "ConeForge$TextReader" 120 4652007308841189376,
  Cond.methodLink "ConeForge$TextReader" 66 y_Tr_parseList,
  Cond.instanceMethod y_Tr_parseList,
  Cond.code y_Tr_parseList prog_8_method_8_code 4 (some .boolean),
  Cond.methodLink "ConeForge$TextReader" 87 y_Tr_parseValue,
  Cond.instanceMethod y_Tr_parseValue,
  Cond.code y_Tr_parseValue prog_8_method_11_code 1 (some .boolean),
  Cond.methodLink "ConeForge$TextReader" 76 y_Tr_parseEntries,
  Cond.instanceMethod y_Tr_parseEntries,
  Cond.code y_Tr_parseEntries prog_8_method_9_code 4 (some .boolean),
  Cond.instanceMethod y_Pb_copy,
  Cond.code y_Pb_copy prog_5_method_3_code 3 none,
  Cond.methodLink "ConeForge$Problem" 36 arraycopyName,
  Cond.static arraycopyName,
  Cond.native arraycopyName,
  Cond.methodLink "ConeForgeLaw" 93 ⟨"ConeForgeLaw", "interior", "(LConeForge;I[J)I"⟩,
  Cond.static ⟨"ConeForgeLaw", "interior", "(LConeForge;I[J)I"⟩,
  Cond.classLink "ConeForgeLaw" 35 "java/lang/ArithmeticException",
  Cond.methodLink "ConeForgeLaw" 31 y_C_interior,
  Cond.instanceMethod y_C_interior,
  Cond.selects "ConeForge" y_C_interior y_C_interior,
  Cond.code y_C_interior prog_1_method_8_code 3 (some .int),
  Cond.instanceMethod y_Im_solve,
  Cond.code y_Im_solve prog_3_method_2_code 3 (some .int),
  Cond.methodLink "ConeForge$InteriorMethod" 69 y_Im_measure,
  Cond.instanceMethod y_Im_measure,
  Cond.code y_Im_measure prog_3_method_3_code 2 none,
  Cond.instanceMethod y_Pb_lessRow,
  Cond.code y_Pb_lessRow prog_5_method_6_code 8 (some .double),
  Cond.instanceMethod y_Pt_complementarity,
  Cond.code y_Pt_complementarity prog_4_method_3_code 2 (some .double),
  Cond.static y_Pb_product,
  Cond.code y_Pb_product prog_5_method_11_code 6 (some .double),
  Cond.methodLink "ConeForge$InteriorMethod" 72 y_Im_isSolved,
  Cond.instanceMethod y_Im_isSolved,
  Cond.code y_Im_isSolved prog_3_method_4_code 5 (some .boolean),
  Cond.instanceMethod y_Pb_costOf,
  Cond.code y_Pb_costOf prog_5_method_9_code 2 (some .double),
  Cond.methodLink "ConeForge$Problem" 42 y_Pb_product,
  Cond.constantDouble "ConeForge$InteriorMethod" 129 4487126258331716666,
  Cond.methodLink "ConeForge$InteriorMethod" 76 y_Im_isLost,
  Cond.instanceMethod y_Im_isLost,
  Cond.code y_Im_isLost prog_3_method_5_code 2 (some .boolean),
  Cond.methodLink "ConeForge$InteriorMethod" 131 y_Im_isOutside,
  Cond.static y_Im_isOutside,
  Cond.code y_Im_isOutside prog_3_method_6_code 2 (some .boolean),
  Cond.constantDouble "ConeForge$InteriorMethod" 135 4741671816366391296,
  Cond.constantDouble "ConeForge$InteriorMethod" 137 4427486594234968593,
  Cond.methodLink "ConeForge$InteriorMethod" 79 y_Im_findStep,
  Cond.instanceMethod y_Im_findStep,
  Cond.code y_Im_findStep prog_3_method_7_code 4 (some .boolean),
  Cond.constantDouble "ConeForge$InteriorMethod" 139 4591870180066957722,
  Cond.instanceMethod y_Pb_plusRow,
  Cond.code y_Pb_plusRow prog_5_method_5_code 8 (some .double),
  Cond.instanceMethod y_Fm_gather,
  Cond.code y_Fm_gather prog_2_method_2_code 8 none,
  Cond.instanceMethod y_Fm_factor,
  Cond.code y_Fm_factor prog_2_method_3_code 4 (some .boolean),
  Cond.methodLink "ConeForge$FactoredMatrix" 38 y_Fm_reduced,
  Cond.instanceMethod y_Fm_reduced,
  Cond.code y_Fm_reduced prog_2_method_4_code 6 (some .double),
  Cond.constantDouble "ConeForge$FactoredMatrix" 42 4412443251819771522,
  Cond.instanceMethod y_Fm_solve,
  Cond.code y_Fm_solve prog_2_method_5_code 8 none,
  Cond.methodLink "ConeForge$InteriorMethod" 82 y_Im_goStep,
  Cond.instanceMethod y_Im_goStep,
  Cond.code y_Im_goStep prog_3_method_8_code 6 none,
  Cond.methodLink "ConeForge$InteriorMethod" 156 y_Im_longest,
  Cond.instanceMethod y_Im_longest,
  Cond.code y_Im_longest prog_3_method_9_code 8 (some .double),
  Cond.constantDouble "ConeForge$InteriorMethod" 160 4607137382803743703,
  Cond.classLink "ConeForge" 160 "java/lang/ArithmeticException",
  Cond.instantiable "java/lang/ArithmeticException" 6,
  Cond.selects "java/lang/ArithmeticException" ⟨"java/lang/Throwable", "fillInStackTrace", "(I)Ljava/lang/Throwable;"⟩ ⟨"java/lang/Throwable", "fillInStackTrace", "(I)Ljava/lang/Throwable;"⟩,
  Cond.lays "java/lang/ArithmeticException" "java/lang/Throwable" "cause" "Ljava/lang/Throwable;",
  Cond.lays "java/lang/ArithmeticException" "java/lang/Throwable" "stackTrace" "[Ljava/lang/StackTraceElement;",
  Cond.lays "java/lang/ArithmeticException" "java/lang/Throwable" "suppressedExceptions" "Ljava/util/List;",
  Cond.lays "java/lang/ArithmeticException" "java/lang/Throwable" "detailMessage" "Ljava/lang/String;",
  Cond.lays "java/lang/ArithmeticException" "java/lang/Throwable" "backtrace" "Ljava/lang/Object;",
  Cond.methodLink "ConeForge" 164 ⟨"java/lang/ArithmeticException", "<init>", "(Ljava/lang/String;)V"⟩,
  Cond.instanceMethod ⟨"java/lang/ArithmeticException", "<init>", "(Ljava/lang/String;)V"⟩,
  Cond.code ⟨"java/lang/ArithmeticException", "<init>", "(Ljava/lang/String;)V"⟩ prog_11_method_2_code 2 none,
  Cond.methodLink "java/lang/ArithmeticException" 7 ⟨"java/lang/RuntimeException", "<init>", "(Ljava/lang/String;)V"⟩,
  Cond.lays "java/lang/ArithmeticException" "java/lang/Throwable" "depth" "I",
  Cond.methodLink "ConeForgeLaw" 101 ⟨"ConeForgeLaw", "told", "(LConeForge;II[D)I"⟩,
  Cond.static ⟨"ConeForgeLaw", "told", "(LConeForge;II[D)I"⟩,
  Cond.methodLink "ConeForgeLaw" 37 y_C_told,
  Cond.instanceMethod y_C_told,
  Cond.selects "ConeForge" y_C_told y_C_told,
  Cond.code y_C_told prog_1_method_10_code 3 (some .double),
  Cond.methodLink "ConeForge" 180 y_C_requireTold,
  Cond.instanceMethod y_C_requireTold,
  Cond.code y_C_requireTold prog_1_method_16_code 1 none,
  Cond.instanceMethod y_Pb_worthOf,
  Cond.code y_Pb_worthOf prog_5_method_10_code 2 (some .double),
  Cond.methodLink "ConeForgeLaw" 109 ⟨"ConeForgeLaw", "gap", "(LConeForge;I[D)I"⟩,
  Cond.static ⟨"ConeForgeLaw", "gap", "(LConeForge;I[D)I"⟩,
  Cond.methodLink "ConeForgeLaw" 41 y_C_gap,
  Cond.instanceMethod y_C_gap,
  Cond.selects "ConeForge" y_C_gap y_C_gap,
  Cond.code y_C_gap prog_1_method_12_code 2 (some .double),
  Cond.methodLink "ConeForge" 201 y_C_gapOf,
  Cond.instanceMethod y_C_gapOf,
  Cond.code y_C_gapOf prog_1_method_18_code 2 (some .double),
  Cond.methodLink "ConeForge" 236 y_C_primalGap,
  Cond.instanceMethod y_C_primalGap,
  Cond.code y_C_primalGap prog_1_method_19_code 4 (some .double),
  Cond.methodLink "ConeForge" 240 y_C_dualGap,
  Cond.instanceMethod y_C_dualGap,
  Cond.code y_C_dualGap prog_1_method_20_code 6 (some .double),
  Cond.instanceMethod y_Pt_deepest,
  Cond.code y_Pt_deepest prog_4_method_4_code 5 (some .double),
  Cond.methodLink "ConeForgeLaw" 113 ⟨"ConeForgeLaw", "certifies", "(LConeForge;ID[J)I"⟩,
  Cond.static ⟨"ConeForgeLaw", "certifies", "(LConeForge;ID[J)I"⟩,
  Cond.methodLink "ConeForgeLaw" 45 y_C_certifies,
  Cond.instanceMethod y_C_certifies,
  Cond.selects "ConeForge" y_C_certifies y_C_certifies,
  Cond.code y_C_certifies prog_1_method_13_code 4 (some .boolean),
  Cond.methodLink "ConeForge" 207 y_C_isSolution,
  Cond.instanceMethod y_C_isSolution,
  Cond.code y_C_isSolution prog_1_method_21_code 5 (some .boolean),
  Cond.methodLink "ConeForge" 210 y_C_showsNoSolution,
  Cond.instanceMethod y_C_showsNoSolution,
  Cond.code y_C_showsNoSolution prog_1_method_22_code 4 (some .boolean),
  Cond.instanceMethod y_Pb_plusColumn,
  Cond.code y_Pb_plusColumn prog_5_method_7_code 8 (some .double),
  Cond.methodLink "ConeForge" 213 y_C_showsNoLeast,
  Cond.instanceMethod y_C_showsNoLeast,
  Cond.code y_C_showsNoLeast prog_1_method_23_code 4 (some .boolean),
  Cond.methodLink "ConeForgeLaw" 117 ⟨"ConeForgeLaw", "count", "(LConeForge;I[J)I"⟩,
  Cond.static ⟨"ConeForgeLaw", "count", "(LConeForge;I[J)I"⟩,
  Cond.methodLink "ConeForgeLaw" 49 y_C_count,
  Cond.instanceMethod y_C_count,
  Cond.selects "ConeForge" y_C_count y_C_count,
  Cond.code y_C_count prog_1_method_14_code 2 (some .int),
  Cond.instanceMethod y_Pb_nonZeros,
  Cond.code y_Pb_nonZeros prog_5_method_4_code 4 (some .int),
  Cond.methodLink "ConeForgeLaw" 120 ⟨"ConeForgeLaw", "scale", "(LConeForge;II[D)I"⟩,
  Cond.static ⟨"ConeForgeLaw", "scale", "(LConeForge;II[D)I"⟩,
  Cond.methodLink "ConeForgeLaw" 52 y_C_scale,
  Cond.instanceMethod y_C_scale,
  Cond.selects "ConeForge" y_C_scale y_C_scale,
  Cond.code y_C_scale prog_1_method_15_code 3 (some .double),
  Cond.classLink "ConeForgeLaw" 56 "ConeForgeModel",
  Cond.instantiable "ConeForgeModel" 46,
  Cond.methodLink "ConeForgeLaw" 58 y_M_init,
  Cond.instanceMethod y_M_init,
  Cond.code y_M_init prog_10_method_1_code 1 none,
  Cond.methodLink "ConeForgeModel" 1 objectInit,
  Cond.fieldLink "ConeForgeModel" 7 "ConeForgeModel" "a" "[D",
  Cond.fieldLink "ConeForgeModel" 13 "ConeForgeModel" "b" "[D",
  Cond.fieldLink "ConeForgeModel" 16 "ConeForgeModel" "c" "[D",
  Cond.fieldLink "ConeForgeModel" 19 "ConeForgeModel" "rowScale" "[D",
  Cond.fieldLink "ConeForgeModel" 22 "ConeForgeModel" "columnScale" "[D",
  Cond.fieldLink "ConeForgeModel" 25 "ConeForgeModel" "sa" "[D",
  Cond.fieldLink "ConeForgeModel" 28 "ConeForgeModel" "sb" "[D",
  Cond.fieldLink "ConeForgeModel" 31 "ConeForgeModel" "sc" "[D",
  Cond.fieldLink "ConeForgeModel" 34 "ConeForgeModel" "x" "[D",
  Cond.fieldLink "ConeForgeModel" 37 "ConeForgeModel" "s" "[D",
  Cond.fieldLink "ConeForgeModel" 40 "ConeForgeModel" "y" "[D",
  Cond.fieldLink "ConeForgeModel" 43 "ConeForgeModel" "p" "[D",
  Cond.fieldLink "ConeForgeModel" 46 "ConeForgeModel" "d" "[D",
  Cond.fieldLink "ConeForgeModel" 49 "ConeForgeModel" "h" "[D",
  Cond.fieldLink "ConeForgeModel" 52 "ConeForgeModel" "f" "[D",
  Cond.fieldLink "ConeForgeModel" 55 "ConeForgeModel" "mm" "[D",
  Cond.fieldLink "ConeForgeModel" 58 "ConeForgeModel" "low" "[D",
  Cond.fieldLink "ConeForgeModel" 61 "ConeForgeModel" "dd" "[D",
  Cond.fieldLink "ConeForgeModel" 64 "ConeForgeModel" "\x72" "[D",
  Cond.fieldLink "ConeForgeModel" 67 "ConeForgeModel" "big" "[D",
  Cond.fieldLink "ConeForgeModel" 70 "ConeForgeModel" "dt" "[D",
  Cond.fieldLink "ConeForgeModel" 73 "ConeForgeModel" "dx" "[D",
  Cond.fieldLink "ConeForgeModel" 76 "ConeForgeModel" "t" "[D",
  Cond.fieldLink "ConeForgeModel" 79 "ConeForgeModel" "cost" "[D",
  Cond.fieldLink "ConeForgeModel" 82 "ConeForgeModel" "rowScaleNow" "[D",
  Cond.fieldLink "ConeForgeModel" 85 "ConeForgeModel" "columnScaleNow" "[D",
  Cond.fieldLink "ConeForgeModel" 88 "ConeForgeModel" "basic" "[I",
  Cond.fieldLink "ConeForgeModel" 92 "ConeForgeModel" "text" "[I",
  Cond.fieldLink "ConeForgeModel" 95 "ConeForgeModel" "turned" "[Z",
  Cond.fieldLink "ConeForgeModel" 99 "ConeForgeModel" "m" "I",
  Cond.fieldLink "ConeForgeModel" 103 "ConeForgeModel" "n" "I",
  Cond.fieldLink "ConeForgeModel" 140 "ConeForgeModel" "length" "I",
  Cond.fieldLink "ConeForgeModel" 106 "ConeForgeModel" "where" "I",
  Cond.fieldLink "ConeForgeModel" 221 "ConeForgeModel" "effort" "I",
  Cond.fieldLink "ConeForgeModel" 122 "ConeForgeModel" "thrown" "I",
  Cond.fieldLink "ConeForgeModel" 143 "ConeForgeModel" "at" "I",
  Cond.fieldLink "ConeForgeModel" 109 "ConeForgeModel" "scaled" "Z",
  Cond.fieldLink "ConeForgeModel" 129 "ConeForgeModel" "solved" "Z",
  Cond.fieldLink "ConeForgeModel" 257 "ConeForgeModel" "second" "Z",
  Cond.fieldLink "ConeForgeModel" 113 "ConeForgeModel" "na" "[D",
  Cond.fieldLink "ConeForgeModel" 116 "ConeForgeModel" "nb" "[D",
  Cond.fieldLink "ConeForgeModel" 119 "ConeForgeModel" "nc" "[D",
  Cond.fieldLink "ConeForgeModel" 180 "ConeForgeModel" "nm" "I",
  Cond.fieldLink "ConeForgeModel" 185 "ConeForgeModel" "nn" "I",
  Cond.fieldLink "ConeForgeModel" 157 "ConeForgeModel" "number" "D",
  Cond.fieldLink "ConeForgeModel" 150 "ConeForgeModel" "bad" "Z",
  Cond.laysFinal "ConeForgeModel" "ConeForgeModel" "a" "[D",
  Cond.laysFinal "ConeForgeModel" "ConeForgeModel" "b" "[D",
  Cond.laysFinal "ConeForgeModel" "ConeForgeModel" "c" "[D",
  Cond.laysFinal "ConeForgeModel" "ConeForgeModel" "rowScale" "[D",
  Cond.laysFinal "ConeForgeModel" "ConeForgeModel" "columnScale" "[D",
  Cond.laysFinal "ConeForgeModel" "ConeForgeModel" "sa" "[D",
  Cond.laysFinal "ConeForgeModel" "ConeForgeModel" "sb" "[D",
  Cond.laysFinal "ConeForgeModel" "ConeForgeModel" "sc" "[D",
  Cond.laysFinal "ConeForgeModel" "ConeForgeModel" "x" "[D",
  Cond.laysFinal "ConeForgeModel" "ConeForgeModel" "s" "[D",
  Cond.laysFinal "ConeForgeModel" "ConeForgeModel" "y" "[D",
  Cond.laysFinal "ConeForgeModel" "ConeForgeModel" "p" "[D",
  Cond.laysFinal "ConeForgeModel" "ConeForgeModel" "d" "[D",
  Cond.laysFinal "ConeForgeModel" "ConeForgeModel" "h" "[D",
  Cond.laysFinal "ConeForgeModel" "ConeForgeModel" "f" "[D",
  Cond.laysFinal "ConeForgeModel" "ConeForgeModel" "mm" "[D",
  Cond.laysFinal "ConeForgeModel" "ConeForgeModel" "low" "[D",
  Cond.laysFinal "ConeForgeModel" "ConeForgeModel" "dd" "[D",
  Cond.laysFinal "ConeForgeModel" "ConeForgeModel" "\x72" "[D",
  Cond.laysFinal "ConeForgeModel" "ConeForgeModel" "big" "[D",
  Cond.laysFinal "ConeForgeModel" "ConeForgeModel" "dt" "[D",
  Cond.laysFinal "ConeForgeModel" "ConeForgeModel" "dx" "[D",
  Cond.laysFinal "ConeForgeModel" "ConeForgeModel" "t" "[D",
  Cond.laysFinal "ConeForgeModel" "ConeForgeModel" "cost" "[D",
  Cond.laysFinal "ConeForgeModel" "ConeForgeModel" "rowScaleNow" "[D",
  Cond.laysFinal "ConeForgeModel" "ConeForgeModel" "columnScaleNow" "[D",
  Cond.laysFinal "ConeForgeModel" "ConeForgeModel" "basic" "[I",
  Cond.laysFinal "ConeForgeModel" "ConeForgeModel" "text" "[I",
  Cond.laysFinal "ConeForgeModel" "ConeForgeModel" "turned" "[Z",
  Cond.lays "ConeForgeModel" "ConeForgeModel" "m" "I",
  Cond.lays "ConeForgeModel" "ConeForgeModel" "n" "I",
  Cond.lays "ConeForgeModel" "ConeForgeModel" "length" "I",
  Cond.lays "ConeForgeModel" "ConeForgeModel" "where" "I",
  Cond.lays "ConeForgeModel" "ConeForgeModel" "effort" "I",
  Cond.lays "ConeForgeModel" "ConeForgeModel" "thrown" "I",
  Cond.lays "ConeForgeModel" "ConeForgeModel" "at" "I",
  Cond.lays "ConeForgeModel" "ConeForgeModel" "scaled" "Z",
  Cond.lays "ConeForgeModel" "ConeForgeModel" "solved" "Z",
  Cond.lays "ConeForgeModel" "ConeForgeModel" "second" "Z",
  Cond.laysFinal "ConeForgeModel" "ConeForgeModel" "na" "[D",
  Cond.laysFinal "ConeForgeModel" "ConeForgeModel" "nb" "[D",
  Cond.laysFinal "ConeForgeModel" "ConeForgeModel" "nc" "[D",
  Cond.lays "ConeForgeModel" "ConeForgeModel" "nm" "I",
  Cond.lays "ConeForgeModel" "ConeForgeModel" "nn" "I",
  Cond.lays "ConeForgeModel" "ConeForgeModel" "number" "D",
  Cond.lays "ConeForgeModel" "ConeForgeModel" "bad" "Z",
  Cond.arrayClass .boolean,
  Cond.methodLink "ConeForgeLaw" 65 y_M_thrown,
  Cond.instanceMethod y_M_thrown,
  Cond.selects "ConeForgeModel" y_M_thrown y_M_thrown,
  Cond.code y_M_thrown prog_10_method_2_code 1 (some .int),
  Cond.methodLink "ConeForgeLaw" 64 y_M_begin,
  Cond.instanceMethod y_M_begin,
  Cond.selects "ConeForgeModel" y_M_begin y_M_begin,
  Cond.code y_M_begin prog_10_method_6_code 4 (some .int),
  Cond.methodLink "ConeForgeModel" 125 y_M_in,
  Cond.static y_M_in,
  Cond.code y_M_in prog_10_method_3_code 3 (some .boolean),
  Cond.methodLink "ConeForgeLaw" 73 y_M_set,
  Cond.instanceMethod y_M_set,
  Cond.selects "ConeForgeModel" y_M_set y_M_set,
  Cond.code y_M_set prog_10_method_7_code 8 (some .double),
  Cond.constantDouble "ConeForgeModel" 132 4652007308841189376,
  Cond.constantDouble "ConeForgeModel" 134 13875379345695965184,
  Cond.constantDouble "ConeForgeModel" 136 4517329193108106637,
  Cond.constantDouble "ConeForgeModel" 138 13740701229962882445,
  Cond.methodLink "ConeForgeLaw" 78 y_M_scaling,
  Cond.instanceMethod y_M_scaling,
  Cond.selects "ConeForgeModel" y_M_scaling y_M_scaling,
  Cond.code y_M_scaling prog_10_method_8_code 3 (some .boolean),
  Cond.methodLink "ConeForgeLaw" 84 y_M_text,
  Cond.instanceMethod y_M_text,
  Cond.selects "ConeForgeModel" y_M_text y_M_text,
  Cond.code y_M_text prog_10_method_9_code 7 (some .int),
  Cond.methodLink "ConeForgeLaw" 88 y_M_read,
  Cond.instanceMethod y_M_read,
  Cond.selects "ConeForgeModel" y_M_read y_M_read,
  Cond.code y_M_read prog_10_method_17_code 3 (some .int),
  Cond.methodLink "ConeForgeModel" 188 y_M_readAll,
  Cond.instanceMethod y_M_readAll,
  Cond.code y_M_readAll prog_10_method_16_code 4 (some .int),
  Cond.constantDouble "ConeForgeModel" 174 4617315517961601024,
  Cond.methodLink "ConeForgeModel" 176 y_M_next,
  Cond.instanceMethod y_M_next,
  Cond.code y_M_next prog_10_method_15_code 9 none,
  Cond.methodLink "ConeForgeModel" 167 y_M_skip,
  Cond.instanceMethod y_M_skip,
  Cond.code y_M_skip prog_10_method_12_code 2 none,
  Cond.methodLink "ConeForgeModel" 146 y_M_here,
  Cond.instanceMethod y_M_here,
  Cond.code y_M_here prog_10_method_10_code 1 (some .int),
  Cond.methodLink "ConeForgeModel" 170 y_M_digits,
  Cond.instanceMethod y_M_digits,
  Cond.code y_M_digits prog_10_method_14_code 3 (some .int),
  Cond.methodLink "ConeForgeModel" 153 y_M_isDigit,
  Cond.instanceMethod y_M_isDigit,
  Cond.code y_M_isDigit prog_10_method_11_code 1 (some .boolean),
  Cond.constantDouble "ConeForgeModel" 161 4621819117588971520,
  Cond.methodLink "ConeForgeModel" 163 y_M_fail,
  Cond.instanceMethod y_M_fail,
  Cond.code y_M_fail prog_10_method_13_code 2 none,
  Cond.constantDouble "ConeForgeModel" 183 4620693217682128896,
  Cond.methodLink "ConeForgeModel" 191 y_M_begin,
  Cond.methodLink "ConeForgeLaw" 92 y_M_where,
  Cond.instanceMethod y_M_where,
  Cond.selects "ConeForgeModel" y_M_where y_M_where,
  Cond.code y_M_where prog_10_method_18_code 1 (some .int),
  Cond.methodLink "ConeForgeLaw" 96 y_M_interior,
  Cond.instanceMethod y_M_interior,
  Cond.selects "ConeForgeModel" y_M_interior y_M_interior,
  Cond.code y_M_interior prog_10_method_29_code 10 (some .int),
  Cond.methodLink "ConeForgeModel" 218 y_M_rescale,
  Cond.instanceMethod y_M_rescale,
  Cond.code y_M_rescale prog_10_method_20_code 5 none,
  Cond.methodLink "ConeForgeModel" 197 y_M_abs,
  Cond.static y_M_abs,
  Cond.code y_M_abs prog_10_method_4_code 2 (some .double),
  Cond.methodLink "ConeForgeModel" 201 y_M_max,
  Cond.static y_M_max,
  Cond.code y_M_max prog_10_method_5_code 4 (some .double),
  Cond.methodLink "ConeForgeModel" 205 y_M_power,
  Cond.static y_M_power,
  Cond.code y_M_power prog_10_method_19_code 6 (some .double),
  Cond.constantDouble "ConeForgeModel" 195 4611686018427387904,
  Cond.methodLink "ConeForgeModel" 224 y_M_measure,
  Cond.instanceMethod y_M_measure,
  Cond.code y_M_measure prog_10_method_22_code 5 (some .double),
  Cond.methodLink "ConeForgeModel" 228 y_M_isSolved,
  Cond.instanceMethod y_M_isSolved,
  Cond.code y_M_isSolved prog_10_method_23_code 14 (some .boolean),
  Cond.constantDouble "ConeForgeModel" 208 4487126258331716666,
  Cond.methodLink "ConeForgeModel" 232 y_M_isLost,
  Cond.instanceMethod y_M_isLost,
  Cond.code y_M_isLost prog_10_method_24_code 2 (some .boolean),
  Cond.constantDouble "ConeForgeModel" 210 4741671816366391296,
  Cond.constantDouble "ConeForgeModel" 212 4427486594234968593,
  Cond.constantDouble "ConeForgeModel" 235 4591870180066957722,
  Cond.methodLink "ConeForgeModel" 237 y_M_prepare,
  Cond.instanceMethod y_M_prepare,
  Cond.code y_M_prepare prog_10_method_27_code 8 none,
  Cond.methodLink "ConeForgeModel" 241 y_M_factor,
  Cond.instanceMethod y_M_factor,
  Cond.code y_M_factor prog_10_method_25_code 6 (some .boolean),
  Cond.constantDouble "ConeForgeModel" 214 4412443251819771522,
  Cond.methodLink "ConeForgeModel" 244 y_M_solve,
  Cond.instanceMethod y_M_solve,
  Cond.code y_M_solve prog_10_method_26_code 3 none,
  Cond.methodLink "ConeForgeModel" 247 y_M_move,
  Cond.instanceMethod y_M_move,
  Cond.code y_M_move prog_10_method_28_code 10 none,
  Cond.constantDouble "ConeForgeModel" 216 4607137382803743703,
  Cond.methodLink "ConeForgeModel" 250 y_M_back,
  Cond.instanceMethod y_M_back,
  Cond.code y_M_back prog_10_method_21_code 2 none,
  Cond.methodLink "ConeForgeLaw" 100 y_M_simplex,
  Cond.instanceMethod y_M_simplex,
  Cond.selects "ConeForgeModel" y_M_simplex y_M_simplex,
  Cond.code y_M_simplex prog_10_method_40_code 3 (some .int),
  Cond.methodLink "ConeForgeModel" 289 y_M_table,
  Cond.instanceMethod y_M_table,
  Cond.code y_M_table prog_10_method_30_code 3 none,
  Cond.constantDouble "ConeForgeModel" 253 13830554455654793216,
  Cond.methodLink "ConeForgeModel" 292 y_M_clear,
  Cond.instanceMethod y_M_clear,
  Cond.code y_M_clear prog_10_method_36_code 2 none,
  Cond.methodLink "ConeForgeModel" 295 y_M_solveByTable,
  Cond.instanceMethod y_M_solveByTable,
  Cond.code y_M_solveByTable prog_10_method_39_code 6 (some .int),
  Cond.methodLink "ConeForgeModel" 281 y_M_phase,
  Cond.instanceMethod y_M_phase,
  Cond.code y_M_phase prog_10_method_37_code 4 (some .int),
  Cond.methodLink "ConeForgeModel" 268 y_M_entering,
  Cond.instanceMethod y_M_entering,
  Cond.code y_M_entering prog_10_method_31_code 5 (some .int),
  Cond.constantDouble "ConeForgeModel" 255 13695778570484766357,
  Cond.methodLink "ConeForgeModel" 271 y_M_leaving,
  Cond.instanceMethod y_M_leaving,
  Cond.code y_M_leaving prog_10_method_32_code 8 (some .int),
  Cond.constantDouble "ConeForgeModel" 260 4472406533629990549,
  Cond.methodLink "ConeForgeModel" 274 y_M_pivot,
  Cond.instanceMethod y_M_pivot,
  Cond.code y_M_pivot prog_10_method_34_code 9 none,
  Cond.methodLink "ConeForgeModel" 262 y_M_isUsed,
  Cond.instanceMethod y_M_isUsed,
  Cond.code y_M_isUsed prog_10_method_33_code 2 (some .boolean),
  Cond.methodLink "ConeForgeModel" 278 y_M_isWild,
  Cond.instanceMethod y_M_isWild,
  Cond.code y_M_isWild prog_10_method_35_code 3 (some .boolean),
  Cond.constantDouble "ConeForgeModel" 266 4786511204640096256,
  Cond.constantDouble "ConeForgeModel" 284 4502148214488346440,
  Cond.methodLink "ConeForgeModel" 286 y_M_multipliers,
  Cond.instanceMethod y_M_multipliers,
  Cond.code y_M_multipliers prog_10_method_38_code 3 none,
  Cond.methodLink "ConeForgeLaw" 104 y_M_told,
  Cond.instanceMethod y_M_told,
  Cond.selects "ConeForgeModel" y_M_told y_M_told,
  Cond.code y_M_told prog_10_method_42_code 3 (some .double),
  Cond.methodLink "ConeForgeModel" 298 y_M_total,
  Cond.instanceMethod y_M_total,
  Cond.code y_M_total prog_10_method_41_code 5 (some .double),
  Cond.methodLink "ConeForgeLaw" 108 y_M_effort,
  Cond.instanceMethod y_M_effort,
  Cond.selects "ConeForgeModel" y_M_effort y_M_effort,
  Cond.code y_M_effort prog_10_method_43_code 1 (some .int),
  Cond.methodLink "ConeForgeLaw" 112 y_M_gap,
  Cond.instanceMethod y_M_gap,
  Cond.selects "ConeForgeModel" y_M_gap y_M_gap,
  Cond.code y_M_gap prog_10_method_45_code 2 (some .double),
  Cond.methodLink "ConeForgeModel" 302 y_M_far,
  Cond.instanceMethod y_M_far,
  Cond.code y_M_far prog_10_method_44_code 8 (some .double),
  Cond.methodLink "ConeForgeLaw" 116 y_M_certifies,
  Cond.instanceMethod y_M_certifies,
  Cond.selects "ConeForgeModel" y_M_certifies y_M_certifies,
  Cond.code y_M_certifies prog_10_method_48_code 6 (some .boolean),
  Cond.methodLink "ConeForgeModel" 305 y_M_isNone,
  Cond.instanceMethod y_M_isNone,
  Cond.code y_M_isNone prog_10_method_46_code 7 (some .boolean),
  Cond.methodLink "ConeForgeModel" 308 y_M_isRay,
  Cond.instanceMethod y_M_isRay,
  Cond.code y_M_isRay prog_10_method_47_code 7 (some .boolean),
  Cond.methodLink "ConeForgeLaw" 119 y_M_count,
  Cond.instanceMethod y_M_count,
  Cond.selects "ConeForgeModel" y_M_count y_M_count,
  Cond.code y_M_count prog_10_method_49_code 4 (some .int),
  Cond.methodLink "ConeForgeLaw" 122 y_M_scale,
  Cond.instanceMethod y_M_scale,
  Cond.selects "ConeForgeModel" y_M_scale y_M_scale,
  Cond.code y_M_scale prog_10_method_50_code 3 (some .double),
  Cond.methodLink "ConeForgeModel" 311 y_M_measureScales,
  Cond.instanceMethod y_M_measureScales,
  Cond.code y_M_measureScales prog_10_method_51_code 5 none,
  Cond.constantDouble "ConeForgeLaw" 68 4593671619917905920,
  Cond.constantLong "ConeForgeLaw" 79 4294967295,
  Cond.arrayClass .long]
set_option maxRecDepth 100000 in
def NEST : List Cond := [Cond.methodLinkNest "ConeForge" 9 y_Pb_init "ConeForge",
  Cond.fieldLinkNest "ConeForge$FactoredMatrix" 26 "ConeForge$Problem" "rows" "I" "ConeForge",
  Cond.fieldLinkNest "ConeForge$Scales" 31 "ConeForge$Problem" "rows" "I" "ConeForge",
  Cond.fieldLinkNest "ConeForge$SimplexMethod" 81 "ConeForge$Problem" "rows" "I" "ConeForge",
  Cond.fieldLinkNest "ConeForge$InteriorMethod" 85 "ConeForge$Problem" "rows" "I" "ConeForge",
  Cond.fieldLinkNest "ConeForge" 84 "ConeForge$Problem" "rows" "I" "ConeForge",
  Cond.fieldLinkNest "ConeForge$TextReader" 73 "ConeForge$Problem" "rows" "I" "ConeForge",
  Cond.fieldLinkNest "ConeForge$FactoredMatrix" 32 "ConeForge$Problem" "variables" "I" "ConeForge",
  Cond.fieldLinkNest "ConeForge$SimplexMethod" 82 "ConeForge$Problem" "variables" "I" "ConeForge",
  Cond.fieldLinkNest "ConeForge$Scales" 41 "ConeForge$Problem" "variables" "I" "ConeForge",
  Cond.fieldLinkNest "ConeForge$InteriorMethod" 98 "ConeForge$Problem" "variables" "I" "ConeForge",
  Cond.fieldLinkNest "ConeForge" 90 "ConeForge$Problem" "variables" "I" "ConeForge",
  Cond.fieldLinkNest "ConeForge$TextReader" 63 "ConeForge$Problem" "variables" "I" "ConeForge",
  Cond.fieldLinkNest "ConeForge$FactoredMatrix" 35 "ConeForge$Problem" "a" "[[D" "ConeForge",
  Cond.fieldLinkNest "ConeForge$Scales" 37 "ConeForge$Problem" "a" "[[D" "ConeForge",
  Cond.fieldLinkNest "ConeForge$SimplexMethod" 87 "ConeForge$Problem" "a" "[[D" "ConeForge",
  Cond.fieldLinkNest "ConeForge" 93 "ConeForge$Problem" "a" "[[D" "ConeForge",
  Cond.fieldLinkNest "ConeForge$TextReader" 93 "ConeForge$Problem" "a" "[[D" "ConeForge",
  Cond.fieldLinkNest "ConeForge$InteriorMethod" 88 "ConeForge$Problem" "b" "[D" "ConeForge",
  Cond.fieldLinkNest "ConeForge" 101 "ConeForge$Problem" "b" "[D" "ConeForge",
  Cond.fieldLinkNest "ConeForge$SimplexMethod" 90 "ConeForge$Problem" "b" "[D" "ConeForge",
  Cond.fieldLinkNest "ConeForge$TextReader" 70 "ConeForge$Problem" "b" "[D" "ConeForge",
  Cond.fieldLinkNest "ConeForge$Scales" 65 "ConeForge$Problem" "b" "[D" "ConeForge",
  Cond.fieldLinkNest "ConeForge$InteriorMethod" 101 "ConeForge$Problem" "c" "[D" "ConeForge",
  Cond.fieldLinkNest "ConeForge" 105 "ConeForge$Problem" "c" "[D" "ConeForge",
  Cond.fieldLinkNest "ConeForge$SimplexMethod" 95 "ConeForge$Problem" "c" "[D" "ConeForge",
  Cond.fieldLinkNest "ConeForge$TextReader" 59 "ConeForge$Problem" "c" "[D" "ConeForge",
  Cond.fieldLinkNest "ConeForge$Scales" 68 "ConeForge$Problem" "c" "[D" "ConeForge",
  Cond.methodLinkNest "ConeForge" 18 y_Sc_init "ConeForge",
  Cond.fieldLinkNest "ConeForge" 223 "ConeForge$Scales" "ofRows" "[D" "ConeForge",
  Cond.fieldLinkNest "ConeForge" 226 "ConeForge$Scales" "ofVariables" "[D" "ConeForge",
  Cond.methodLinkNest "ConeForge" 25 y_Pt_init "ConeForge",
  Cond.fieldLinkNest "ConeForge$InteriorMethod" 91 "ConeForge$Point" "x" "[D" "ConeForge",
  Cond.fieldLinkNest "ConeForge$Scales" 71 "ConeForge$Point" "x" "[D" "ConeForge",
  Cond.fieldLinkNest "ConeForge" 183 "ConeForge$Point" "x" "[D" "ConeForge",
  Cond.fieldLinkNest "ConeForge$SimplexMethod" 146 "ConeForge$Point" "x" "[D" "ConeForge",
  Cond.fieldLinkNest "ConeForge$InteriorMethod" 110 "ConeForge$Point" "s" "[D" "ConeForge",
  Cond.fieldLinkNest "ConeForge$Scales" 76 "ConeForge$Point" "s" "[D" "ConeForge",
  Cond.fieldLinkNest "ConeForge" 186 "ConeForge$Point" "s" "[D" "ConeForge",
  Cond.fieldLinkNest "ConeForge$SimplexMethod" 149 "ConeForge$Point" "s" "[D" "ConeForge",
  Cond.fieldLinkNest "ConeForge$InteriorMethod" 104 "ConeForge$Point" "y" "[D" "ConeForge",
  Cond.fieldLinkNest "ConeForge$Scales" 79 "ConeForge$Point" "y" "[D" "ConeForge",
  Cond.fieldLinkNest "ConeForge" 189 "ConeForge$Point" "y" "[D" "ConeForge",
  Cond.fieldLinkNest "ConeForge$SimplexMethod" 143 "ConeForge$Point" "y" "[D" "ConeForge",
  Cond.methodLinkNest "ConeForge" 32 y_Tr_init "ConeForge",
  Cond.methodLinkNest "ConeForge$TextReader" 17 y_Pb_init "ConeForge",
  Cond.fieldLinkNest "ConeForge" 132 "ConeForge$TextReader" "fresh" "LConeForge$Problem;" "ConeForge",
  Cond.fieldLinkNest "ConeForge" 122 "ConeForge$TextReader" "length" "I" "ConeForge",
  Cond.fieldLinkNest "ConeForge" 139 "ConeForge$TextReader" "numbersRead" "I" "ConeForge",
  Cond.fieldLinkNest "ConeForge" 129 "ConeForge$TextReader" "failedAt" "I" "ConeForge",
  Cond.methodLinkNest "ConeForge" 39 y_Im_init "ConeForge",
  Cond.methodLinkNest "ConeForge$InteriorMethod" 11 y_Pb_init "ConeForge",
  Cond.methodLinkNest "ConeForge$InteriorMethod" 20 y_Pt_init "ConeForge",
  Cond.methodLinkNest "ConeForge$InteriorMethod" 27 y_Fm_init "ConeForge",
  Cond.fieldLinkNest "ConeForge" 148 "ConeForge$InteriorMethod" "problem" "LConeForge$Problem;" "ConeForge",
  Cond.fieldLinkNest "ConeForge" 165 "ConeForge$InteriorMethod" "point" "LConeForge$Point;" "ConeForge",
  Cond.fieldLinkNest "ConeForge" 157 "ConeForge$InteriorMethod" "turnsBegun" "I" "ConeForge",
  Cond.methodLinkNest "ConeForge" 46 y_Sm_init "ConeForge",
  Cond.methodLinkNest "ConeForge$SimplexMethod" 11 y_Pb_init "ConeForge",
  Cond.methodLinkNest "ConeForge$SimplexMethod" 20 y_Pt_init "ConeForge",
  Cond.fieldLinkNest "ConeForge" 170 "ConeForge$SimplexMethod" "problem" "LConeForge$Problem;" "ConeForge",
  Cond.fieldLinkNest "ConeForge" 177 "ConeForge$SimplexMethod" "point" "LConeForge$Point;" "ConeForge",
  Cond.fieldLinkNest "ConeForge" 174 "ConeForge$SimplexMethod" "stepsDone" "I" "ConeForge",
  Cond.methodLinkNest "ConeForge" 144 y_Sc_measure "ConeForge",
  Cond.methodLinkNest "ConeForge$Scales" 44 y_C_greatestOf "ConeForge",
  Cond.methodLinkNest "ConeForge$Scales" 52 y_C_absolute "ConeForge",
  Cond.methodLinkNest "ConeForge$Scales" 55 y_C_greater "ConeForge",
  Cond.methodLinkNest "ConeForge" 149 y_Sc_apply "ConeForge",
  Cond.methodLinkNest "ConeForge$Scales" 61 y_Pb_clear "ConeForge",
  Cond.methodLinkNest "ConeForge" 171 y_Sm_solve "ConeForge",
  Cond.methodLinkNest "ConeForge$SimplexMethod" 54 y_Pt_fill "ConeForge",
  Cond.methodLinkNest "ConeForge$SimplexMethod" 127 y_C_absolute "ConeForge",
  Cond.methodLinkNest "ConeForge$SimplexMethod" 137 y_C_greatestOf "ConeForge",
  Cond.methodLinkNest "ConeForge$SimplexMethod" 152 y_Pb_lessColumn "ConeForge",
  Cond.methodLinkNest "ConeForge" 166 y_Sc_unscale "ConeForge",
  Cond.methodLinkNest "ConeForge" 72 y_Pb_clear "ConeForge",
  Cond.methodLinkNest "ConeForge" 108 y_Tr_isReadable "ConeForge",
  Cond.methodLinkNest "ConeForge" 114 y_Tr_append "ConeForge",
  Cond.methodLinkNest "ConeForge" 125 y_Tr_parse "ConeForge",
  Cond.methodLinkNest "ConeForge$TextReader" 83 y_Pb_clear "ConeForge",
  Cond.methodLinkNest "ConeForge$TextReader" 104 y_C_isAllowed "ConeForge",
  Cond.methodLinkNest "ConeForge" 135 y_Pb_copy "ConeForge",
  Cond.methodLinkNest "ConeForge" 153 y_Im_solve "ConeForge",
  Cond.methodLinkNest "ConeForge$InteriorMethod" 65 y_Pt_fill "ConeForge",
  Cond.methodLinkNest "ConeForge$InteriorMethod" 94 y_Pb_lessRow "ConeForge",
  Cond.methodLinkNest "ConeForge$InteriorMethod" 107 y_Pb_lessColumn "ConeForge",
  Cond.methodLinkNest "ConeForge$InteriorMethod" 113 y_Pt_complementarity "ConeForge",
  Cond.methodLinkNest "ConeForge$Point" 27 y_Pb_product "ConeForge",
  Cond.methodLinkNest "ConeForge$InteriorMethod" 117 y_Pb_costOf "ConeForge",
  Cond.methodLinkNest "ConeForge$InteriorMethod" 121 y_C_absolute "ConeForge",
  Cond.methodLinkNest "ConeForge$InteriorMethod" 125 y_C_greatestOf "ConeForge",
  Cond.methodLinkNest "ConeForge$InteriorMethod" 141 y_Pb_plusRow "ConeForge",
  Cond.methodLinkNest "ConeForge$InteriorMethod" 144 y_Fm_gather "ConeForge",
  Cond.methodLinkNest "ConeForge$InteriorMethod" 148 y_Fm_factor "ConeForge",
  Cond.methodLinkNest "ConeForge$InteriorMethod" 152 y_Fm_solve "ConeForge",
  Cond.methodLinkNest "ConeForge" 192 y_Pb_costOf "ConeForge",
  Cond.methodLinkNest "ConeForge" 196 y_Pb_worthOf "ConeForge",
  Cond.methodLinkNest "ConeForge" 249 y_Pb_lessRow "ConeForge",
  Cond.methodLinkNest "ConeForge" 261 y_Pb_lessColumn "ConeForge",
  Cond.methodLinkNest "ConeForge" 243 y_Pt_complementarity "ConeForge",
  Cond.methodLinkNest "ConeForge" 246 y_Pt_deepest "ConeForge",
  Cond.methodLinkNest "ConeForge$Point" 33 y_C_greater "ConeForge",
  Cond.methodLinkNest "ConeForge" 264 y_Pb_plusColumn "ConeForge",
  Cond.methodLinkNest "ConeForge" 267 y_Pb_plusRow "ConeForge",
  Cond.methodLinkNest "ConeForge" 218 y_Pb_nonZeros "ConeForge"]
set_option maxRecDepth 100000 in
theorem BIG_good : BIG.all goodWord = true := by decide +kernel
theorem bg (i : Nat) {w : Cond} (h : BIG[i]? = some w) : w ∈ BIG := List.mem_of_getElem? h
theorem nst (i : Nat) {w : Cond} (h : NEST[i]? = some w) : w ∈ NEST := List.mem_of_getElem? h
theorem bgc {w cd : Cond} (h : w ∈ BIG) : w ∈ cd :: BIG := List.mem_cons_of_mem _ h
set_option maxRecDepth 100000 in
theorem bw0 : Cond.selects "ConeForge$Scales" y_Sc_measure y_Sc_measure ∈ BIG := bg 0 rfl
set_option maxRecDepth 100000 in
theorem bw1 : Cond.selects "ConeForge$Scales" y_Sc_measureRows y_Sc_measureRows ∈ BIG := bg 1 rfl
set_option maxRecDepth 100000 in
theorem bw2 : Cond.selects "ConeForge$Scales" y_Sc_measureVariables y_Sc_measureVariables ∈ BIG := bg 2 rfl
set_option maxRecDepth 100000 in
theorem bw3 : Cond.selects "ConeForge$Scales" y_Sc_apply y_Sc_apply ∈ BIG := bg 3 rfl
set_option maxRecDepth 100000 in
theorem bw4 : Cond.selects "ConeForge$Problem" y_Pb_clear y_Pb_clear ∈ BIG := bg 4 rfl
set_option maxRecDepth 100000 in
theorem bw5 : Cond.selects "ConeForge$SimplexMethod" y_Sm_solve y_Sm_solve ∈ BIG := bg 5 rfl
set_option maxRecDepth 100000 in
theorem bw6 : Cond.selects "ConeForge$Point" y_Pt_fill y_Pt_fill ∈ BIG := bg 6 rfl
set_option maxRecDepth 100000 in
theorem bw7 : Cond.selects "ConeForge$SimplexMethod" y_Sm_fillTable y_Sm_fillTable ∈ BIG := bg 7 rfl
set_option maxRecDepth 100000 in
theorem bw8 : Cond.selects "ConeForge$SimplexMethod" y_Sm_signOf y_Sm_signOf ∈ BIG := bg 8 rfl
set_option maxRecDepth 100000 in
theorem bw9 : Cond.selects "ConeForge$SimplexMethod" y_Sm_setCosts y_Sm_setCosts ∈ BIG := bg 9 rfl
set_option maxRecDepth 100000 in
theorem bw10 : Cond.selects "ConeForge$SimplexMethod" y_Sm_runPhase y_Sm_runPhase ∈ BIG := bg 10 rfl
set_option maxRecDepth 100000 in
theorem bw11 : Cond.selects "ConeForge$SimplexMethod" y_Sm_incoming y_Sm_incoming ∈ BIG := bg 11 rfl
set_option maxRecDepth 100000 in
theorem bw12 : Cond.selects "ConeForge$SimplexMethod" y_Sm_outgoing y_Sm_outgoing ∈ BIG := bg 12 rfl
set_option maxRecDepth 100000 in
theorem bw13 : Cond.selects "ConeForge$SimplexMethod" y_Sm_leftover y_Sm_leftover ∈ BIG := bg 13 rfl
set_option maxRecDepth 100000 in
theorem bw14 : Cond.selects "ConeForge$SimplexMethod" y_Sm_tightest y_Sm_tightest ∈ BIG := bg 14 rfl
set_option maxRecDepth 100000 in
theorem bw15 : Cond.selects "ConeForge$SimplexMethod" y_Sm_tellRay y_Sm_tellRay ∈ BIG := bg 15 rfl
set_option maxRecDepth 100000 in
theorem bw16 : Cond.selects "ConeForge$SimplexMethod" y_Sm_pivot y_Sm_pivot ∈ BIG := bg 16 rfl
set_option maxRecDepth 100000 in
theorem bw17 : Cond.selects "ConeForge$SimplexMethod" y_Sm_takeAway y_Sm_takeAway ∈ BIG := bg 17 rfl
set_option maxRecDepth 100000 in
theorem bw18 : Cond.selects "ConeForge$SimplexMethod" y_Sm_isOvergrown y_Sm_isOvergrown ∈ BIG := bg 18 rfl
set_option maxRecDepth 100000 in
theorem bw19 : Cond.selects "ConeForge$SimplexMethod" y_Sm_costOfBasis y_Sm_costOfBasis ∈ BIG := bg 19 rfl
set_option maxRecDepth 100000 in
theorem bw20 : Cond.selects "ConeForge$SimplexMethod" y_Sm_tellPrices y_Sm_tellPrices ∈ BIG := bg 20 rfl
set_option maxRecDepth 100000 in
theorem bw21 : Cond.selects "ConeForge$SimplexMethod" y_Sm_tellSolution y_Sm_tellSolution ∈ BIG := bg 21 rfl
set_option maxRecDepth 100000 in
theorem bw22 : Cond.selects "ConeForge$Problem" y_Pb_lessColumn y_Pb_lessColumn ∈ BIG := bg 22 rfl
set_option maxRecDepth 100000 in
theorem bw23 : Cond.selects "ConeForge$Scales" y_Sc_unscale y_Sc_unscale ∈ BIG := bg 23 rfl
set_option maxRecDepth 100000 in
theorem bw24 : Cond.selects "java/lang/Throwable" ⟨"java/lang/Throwable", "fillInStackTrace", "(I)Ljava/lang/Throwable;"⟩ ⟨"java/lang/Throwable", "fillInStackTrace", "(I)Ljava/lang/Throwable;"⟩ ∈ BIG := bg 24 rfl
set_option maxRecDepth 100000 in
theorem bw25 : Cond.selects "ConeForge$TextReader" y_Tr_append y_Tr_append ∈ BIG := bg 25 rfl
set_option maxRecDepth 100000 in
theorem bw26 : Cond.selects "ConeForge$TextReader" y_Tr_parse y_Tr_parse ∈ BIG := bg 26 rfl
set_option maxRecDepth 100000 in
theorem bw27 : Cond.selects "ConeForge$TextReader" y_Tr_parseSize y_Tr_parseSize ∈ BIG := bg 27 rfl
set_option maxRecDepth 100000 in
theorem bw28 : Cond.selects "ConeForge$TextReader" y_Tr_parseWhole y_Tr_parseWhole ∈ BIG := bg 28 rfl
set_option maxRecDepth 100000 in
theorem bw29 : Cond.selects "ConeForge$TextReader" y_Tr_parseNumber y_Tr_parseNumber ∈ BIG := bg 29 rfl
set_option maxRecDepth 100000 in
theorem bw30 : Cond.selects "ConeForge$TextReader" y_Tr_reachNumber y_Tr_reachNumber ∈ BIG := bg 30 rfl
set_option maxRecDepth 100000 in
theorem bw31 : Cond.selects "ConeForge$TextReader" y_Tr_beginsLine y_Tr_beginsLine ∈ BIG := bg 31 rfl
set_option maxRecDepth 100000 in
theorem bw32 : Cond.selects "ConeForge$TextReader" y_Tr_skip y_Tr_skip ∈ BIG := bg 32 rfl
set_option maxRecDepth 100000 in
theorem bw33 : Cond.selects "ConeForge$TextReader" y_Tr_takeDigits y_Tr_takeDigits ∈ BIG := bg 33 rfl
set_option maxRecDepth 100000 in
theorem bw34 : Cond.selects "ConeForge$TextReader" y_Tr_failAt y_Tr_failAt ∈ BIG := bg 34 rfl
set_option maxRecDepth 100000 in
theorem bw35 : Cond.selects "ConeForge$TextReader" y_Tr_parseList y_Tr_parseList ∈ BIG := bg 35 rfl
set_option maxRecDepth 100000 in
theorem bw36 : Cond.selects "ConeForge$TextReader" y_Tr_parseValue y_Tr_parseValue ∈ BIG := bg 36 rfl
set_option maxRecDepth 100000 in
theorem bw37 : Cond.selects "ConeForge$TextReader" y_Tr_parseEntries y_Tr_parseEntries ∈ BIG := bg 37 rfl
set_option maxRecDepth 100000 in
theorem bw38 : Cond.selects "ConeForge$Problem" y_Pb_copy y_Pb_copy ∈ BIG := bg 38 rfl
set_option maxRecDepth 100000 in
theorem bw39 : Cond.selects "ConeForge$InteriorMethod" y_Im_solve y_Im_solve ∈ BIG := bg 39 rfl
set_option maxRecDepth 100000 in
theorem bw40 : Cond.selects "ConeForge$InteriorMethod" y_Im_measure y_Im_measure ∈ BIG := bg 40 rfl
set_option maxRecDepth 100000 in
theorem bw41 : Cond.selects "ConeForge$Problem" y_Pb_lessRow y_Pb_lessRow ∈ BIG := bg 41 rfl
set_option maxRecDepth 100000 in
theorem bw42 : Cond.selects "ConeForge$Point" y_Pt_complementarity y_Pt_complementarity ∈ BIG := bg 42 rfl
set_option maxRecDepth 100000 in
theorem bw43 : Cond.selects "ConeForge$InteriorMethod" y_Im_isSolved y_Im_isSolved ∈ BIG := bg 43 rfl
set_option maxRecDepth 100000 in
theorem bw44 : Cond.selects "ConeForge$Problem" y_Pb_costOf y_Pb_costOf ∈ BIG := bg 44 rfl
set_option maxRecDepth 100000 in
theorem bw45 : Cond.selects "ConeForge$InteriorMethod" y_Im_isLost y_Im_isLost ∈ BIG := bg 45 rfl
set_option maxRecDepth 100000 in
theorem bw46 : Cond.selects "ConeForge$InteriorMethod" y_Im_findStep y_Im_findStep ∈ BIG := bg 46 rfl
set_option maxRecDepth 100000 in
theorem bw47 : Cond.selects "ConeForge$Problem" y_Pb_plusRow y_Pb_plusRow ∈ BIG := bg 47 rfl
set_option maxRecDepth 100000 in
theorem bw48 : Cond.selects "ConeForge$FactoredMatrix" y_Fm_gather y_Fm_gather ∈ BIG := bg 48 rfl
set_option maxRecDepth 100000 in
theorem bw49 : Cond.selects "ConeForge$FactoredMatrix" y_Fm_factor y_Fm_factor ∈ BIG := bg 49 rfl
set_option maxRecDepth 100000 in
theorem bw50 : Cond.selects "ConeForge$FactoredMatrix" y_Fm_reduced y_Fm_reduced ∈ BIG := bg 50 rfl
set_option maxRecDepth 100000 in
theorem bw51 : Cond.selects "ConeForge$FactoredMatrix" y_Fm_solve y_Fm_solve ∈ BIG := bg 51 rfl
set_option maxRecDepth 100000 in
theorem bw52 : Cond.selects "ConeForge$InteriorMethod" y_Im_goStep y_Im_goStep ∈ BIG := bg 52 rfl
set_option maxRecDepth 100000 in
theorem bw53 : Cond.selects "ConeForge$InteriorMethod" y_Im_longest y_Im_longest ∈ BIG := bg 53 rfl
set_option maxRecDepth 100000 in
theorem bw54 : Cond.selects "ConeForge" y_C_requireTold y_C_requireTold ∈ BIG := bg 54 rfl
set_option maxRecDepth 100000 in
theorem bw55 : Cond.selects "ConeForge$Problem" y_Pb_worthOf y_Pb_worthOf ∈ BIG := bg 55 rfl
set_option maxRecDepth 100000 in
theorem bw56 : Cond.selects "ConeForge" y_C_gapOf y_C_gapOf ∈ BIG := bg 56 rfl
set_option maxRecDepth 100000 in
theorem bw57 : Cond.selects "ConeForge" y_C_primalGap y_C_primalGap ∈ BIG := bg 57 rfl
set_option maxRecDepth 100000 in
theorem bw58 : Cond.selects "ConeForge" y_C_dualGap y_C_dualGap ∈ BIG := bg 58 rfl
set_option maxRecDepth 100000 in
theorem bw59 : Cond.selects "ConeForge$Point" y_Pt_deepest y_Pt_deepest ∈ BIG := bg 59 rfl
set_option maxRecDepth 100000 in
theorem bw60 : Cond.selects "ConeForge" y_C_isSolution y_C_isSolution ∈ BIG := bg 60 rfl
set_option maxRecDepth 100000 in
theorem bw61 : Cond.selects "ConeForge" y_C_showsNoSolution y_C_showsNoSolution ∈ BIG := bg 61 rfl
set_option maxRecDepth 100000 in
theorem bw62 : Cond.selects "ConeForge$Problem" y_Pb_plusColumn y_Pb_plusColumn ∈ BIG := bg 62 rfl
set_option maxRecDepth 100000 in
theorem bw63 : Cond.selects "ConeForge" y_C_showsNoLeast y_C_showsNoLeast ∈ BIG := bg 63 rfl
set_option maxRecDepth 100000 in
theorem bw64 : Cond.selects "ConeForge$Problem" y_Pb_nonZeros y_Pb_nonZeros ∈ BIG := bg 64 rfl
set_option maxRecDepth 100000 in
theorem bw65 : Cond.selects "ConeForgeModel" y_M_readAll y_M_readAll ∈ BIG := bg 65 rfl
set_option maxRecDepth 100000 in
theorem bw66 : Cond.selects "ConeForgeModel" y_M_next y_M_next ∈ BIG := bg 66 rfl
set_option maxRecDepth 100000 in
theorem bw67 : Cond.selects "ConeForgeModel" y_M_skip y_M_skip ∈ BIG := bg 67 rfl
set_option maxRecDepth 100000 in
theorem bw68 : Cond.selects "ConeForgeModel" y_M_here y_M_here ∈ BIG := bg 68 rfl
set_option maxRecDepth 100000 in
theorem bw69 : Cond.selects "ConeForgeModel" y_M_digits y_M_digits ∈ BIG := bg 69 rfl
set_option maxRecDepth 100000 in
theorem bw70 : Cond.selects "ConeForgeModel" y_M_isDigit y_M_isDigit ∈ BIG := bg 70 rfl
set_option maxRecDepth 100000 in
theorem bw71 : Cond.selects "ConeForgeModel" y_M_fail y_M_fail ∈ BIG := bg 71 rfl
set_option maxRecDepth 100000 in
theorem bw72 : Cond.selects "ConeForgeModel" y_M_rescale y_M_rescale ∈ BIG := bg 72 rfl
set_option maxRecDepth 100000 in
theorem bw73 : Cond.selects "ConeForgeModel" y_M_measure y_M_measure ∈ BIG := bg 73 rfl
set_option maxRecDepth 100000 in
theorem bw74 : Cond.selects "ConeForgeModel" y_M_isSolved y_M_isSolved ∈ BIG := bg 74 rfl
set_option maxRecDepth 100000 in
theorem bw75 : Cond.selects "ConeForgeModel" y_M_isLost y_M_isLost ∈ BIG := bg 75 rfl
set_option maxRecDepth 100000 in
theorem bw76 : Cond.selects "ConeForgeModel" y_M_prepare y_M_prepare ∈ BIG := bg 76 rfl
set_option maxRecDepth 100000 in
theorem bw77 : Cond.selects "ConeForgeModel" y_M_factor y_M_factor ∈ BIG := bg 77 rfl
set_option maxRecDepth 100000 in
theorem bw78 : Cond.selects "ConeForgeModel" y_M_solve y_M_solve ∈ BIG := bg 78 rfl
set_option maxRecDepth 100000 in
theorem bw79 : Cond.selects "ConeForgeModel" y_M_move y_M_move ∈ BIG := bg 79 rfl
set_option maxRecDepth 100000 in
theorem bw80 : Cond.selects "ConeForgeModel" y_M_back y_M_back ∈ BIG := bg 80 rfl
set_option maxRecDepth 100000 in
theorem bw81 : Cond.selects "ConeForgeModel" y_M_table y_M_table ∈ BIG := bg 81 rfl
set_option maxRecDepth 100000 in
theorem bw82 : Cond.selects "ConeForgeModel" y_M_clear y_M_clear ∈ BIG := bg 82 rfl
set_option maxRecDepth 100000 in
theorem bw83 : Cond.selects "ConeForgeModel" y_M_solveByTable y_M_solveByTable ∈ BIG := bg 83 rfl
set_option maxRecDepth 100000 in
theorem bw84 : Cond.selects "ConeForgeModel" y_M_phase y_M_phase ∈ BIG := bg 84 rfl
set_option maxRecDepth 100000 in
theorem bw85 : Cond.selects "ConeForgeModel" y_M_entering y_M_entering ∈ BIG := bg 85 rfl
set_option maxRecDepth 100000 in
theorem bw86 : Cond.selects "ConeForgeModel" y_M_leaving y_M_leaving ∈ BIG := bg 86 rfl
set_option maxRecDepth 100000 in
theorem bw87 : Cond.selects "ConeForgeModel" y_M_pivot y_M_pivot ∈ BIG := bg 87 rfl
set_option maxRecDepth 100000 in
theorem bw88 : Cond.selects "ConeForgeModel" y_M_isUsed y_M_isUsed ∈ BIG := bg 88 rfl
set_option maxRecDepth 100000 in
theorem bw89 : Cond.selects "ConeForgeModel" y_M_isWild y_M_isWild ∈ BIG := bg 89 rfl
set_option maxRecDepth 100000 in
theorem bw90 : Cond.selects "ConeForgeModel" y_M_multipliers y_M_multipliers ∈ BIG := bg 90 rfl
set_option maxRecDepth 100000 in
theorem bw91 : Cond.selects "ConeForgeModel" y_M_total y_M_total ∈ BIG := bg 91 rfl
set_option maxRecDepth 100000 in
theorem bw92 : Cond.selects "ConeForgeModel" y_M_far y_M_far ∈ BIG := bg 92 rfl
set_option maxRecDepth 100000 in
theorem bw93 : Cond.selects "ConeForgeModel" y_M_isNone y_M_isNone ∈ BIG := bg 93 rfl
set_option maxRecDepth 100000 in
theorem bw94 : Cond.selects "ConeForgeModel" y_M_isRay y_M_isRay ∈ BIG := bg 94 rfl
set_option maxRecDepth 100000 in
theorem bw95 : Cond.selects "ConeForgeModel" y_M_measureScales y_M_measureScales ∈ BIG := bg 95 rfl
set_option maxRecDepth 100000 in
theorem bw96 : Cond.initialized "ConeForgeLaw" ∈ BIG := bg 96 rfl
set_option maxRecDepth 100000 in
theorem bw97 : Cond.initialized "ConeForge" ∈ BIG := bg 97 rfl
set_option maxRecDepth 100000 in
theorem bw98 : Cond.initialized "ConeForge$Problem" ∈ BIG := bg 98 rfl
set_option maxRecDepth 100000 in
theorem bw99 : Cond.initialized "ConeForge$Scales" ∈ BIG := bg 99 rfl
set_option maxRecDepth 100000 in
theorem bw100 : Cond.initialized "ConeForge$Point" ∈ BIG := bg 100 rfl
set_option maxRecDepth 100000 in
theorem bw101 : Cond.initialized "ConeForge$TextReader" ∈ BIG := bg 101 rfl
set_option maxRecDepth 100000 in
theorem bw102 : Cond.initialized "ConeForge$InteriorMethod" ∈ BIG := bg 102 rfl
set_option maxRecDepth 100000 in
theorem bw103 : Cond.initialized "ConeForge$FactoredMatrix" ∈ BIG := bg 103 rfl
set_option maxRecDepth 100000 in
theorem bw104 : Cond.initialized "ConeForge$SimplexMethod" ∈ BIG := bg 104 rfl
set_option maxRecDepth 100000 in
theorem bw105 : Cond.initialized "ConeForgeModel" ∈ BIG := bg 105 rfl
set_option maxRecDepth 100000 in
theorem bw106 : Cond.initialized "java/lang/Throwable" ∈ BIG := bg 106 rfl
set_option maxRecDepth 100000 in
theorem bw107 : Cond.initialized "java/lang/Exception" ∈ BIG := bg 107 rfl
set_option maxRecDepth 100000 in
theorem bw108 : Cond.initialized "java/lang/RuntimeException" ∈ BIG := bg 108 rfl
set_option maxRecDepth 100000 in
theorem bw109 : Cond.initialized "java/lang/IllegalArgumentException" ∈ BIG := bg 109 rfl
set_option maxRecDepth 100000 in
theorem bw110 : Cond.initialized "java/util/Arrays" ∈ BIG := bg 110 rfl
set_option maxRecDepth 100000 in
theorem bw111 : Cond.initialized "java/lang/IndexOutOfBoundsException" ∈ BIG := bg 111 rfl
set_option maxRecDepth 100000 in
theorem bw112 : Cond.initialized "java/lang/IllegalStateException" ∈ BIG := bg 112 rfl
set_option maxRecDepth 100000 in
theorem bw113 : Cond.initialized "java/lang/System" ∈ BIG := bg 113 rfl
set_option maxRecDepth 100000 in
theorem bw114 : Cond.initialized "java/lang/ArithmeticException" ∈ BIG := bg 114 rfl
set_option maxRecDepth 100000 in
theorem bw115 : Cond.classLink "ConeForgeLaw" 8 "ConeForge" ∈ BIG := bg 115 rfl
set_option maxRecDepth 100000 in
theorem bw116 : Cond.instantiable "ConeForge" 10 ∈ BIG := bg 116 rfl
set_option maxRecDepth 100000 in
theorem bw117 : Cond.methodLink "ConeForgeLaw" 55 y_C_init ∈ BIG := bg 117 rfl
set_option maxRecDepth 100000 in
theorem bw118 : Cond.instanceMethod y_C_init ∈ BIG := bg 118 rfl
set_option maxRecDepth 100000 in
theorem bw119 : Cond.code y_C_init prog_1_method_1_code 1 none ∈ BIG := bg 119 rfl
set_option maxRecDepth 100000 in
theorem bw120 : Cond.methodLink "ConeForge" 1 objectInit ∈ BIG := bg 120 rfl
set_option maxRecDepth 100000 in
theorem bw121 : Cond.instanceMethod objectInit ∈ BIG := bg 121 rfl
set_option maxRecDepth 100000 in
theorem bw122 : Cond.code objectInit object_method_1_code 1 none ∈ BIG := bg 122 rfl
set_option maxRecDepth 100000 in
theorem bw123 : Cond.classLink "ConeForge" 7 "ConeForge$Problem" ∈ BIG := bg 123 rfl
set_option maxRecDepth 100000 in
theorem bw124 : Cond.instantiable "ConeForge$Problem" 5 ∈ BIG := bg 124 rfl
set_option maxRecDepth 100000 in
theorem bw125 : Cond.instanceMethod y_Pb_init ∈ BIG := bg 125 rfl
set_option maxRecDepth 100000 in
theorem bw126 : Cond.code y_Pb_init prog_5_method_1_code 1 none ∈ BIG := bg 126 rfl
set_option maxRecDepth 100000 in
theorem bw127 : Cond.methodLink "ConeForge$Problem" 3 objectInit ∈ BIG := bg 127 rfl
set_option maxRecDepth 100000 in
theorem bw128 : Cond.classLink "ConeForge$Problem" 18 "[[D" ∈ BIG := bg 128 rfl
set_option maxRecDepth 100000 in
theorem bw129 : Cond.fieldLink "ConeForge$Problem" 9 "ConeForge$Problem" "rows" "I" ∈ BIG := bg 129 rfl
set_option maxRecDepth 100000 in
theorem bw130 : Cond.fieldLink "ConeForge$Problem" 15 "ConeForge$Problem" "variables" "I" ∈ BIG := bg 130 rfl
set_option maxRecDepth 100000 in
theorem bw131 : Cond.fieldLink "ConeForge$Problem" 20 "ConeForge$Problem" "a" "[[D" ∈ BIG := bg 131 rfl
set_option maxRecDepth 100000 in
theorem bw132 : Cond.fieldLink "ConeForge$Problem" 23 "ConeForge$Problem" "b" "[D" ∈ BIG := bg 132 rfl
set_option maxRecDepth 100000 in
theorem bw133 : Cond.fieldLink "ConeForge$Problem" 27 "ConeForge$Problem" "c" "[D" ∈ BIG := bg 133 rfl
set_option maxRecDepth 100000 in
theorem bw134 : Cond.lays "ConeForge$Problem" "ConeForge$Problem" "rows" "I" ∈ BIG := bg 134 rfl
set_option maxRecDepth 100000 in
theorem bw135 : Cond.lays "ConeForge$Problem" "ConeForge$Problem" "variables" "I" ∈ BIG := bg 135 rfl
set_option maxRecDepth 100000 in
theorem bw136 : Cond.laysFinal "ConeForge$Problem" "ConeForge$Problem" "a" "[[D" ∈ BIG := bg 136 rfl
set_option maxRecDepth 100000 in
theorem bw137 : Cond.laysFinal "ConeForge$Problem" "ConeForge$Problem" "b" "[D" ∈ BIG := bg 137 rfl
set_option maxRecDepth 100000 in
theorem bw138 : Cond.laysFinal "ConeForge$Problem" "ConeForge$Problem" "c" "[D" ∈ BIG := bg 138 rfl
set_option maxRecDepth 100000 in
theorem bw139 : Cond.arrayClass .double ∈ BIG := bg 139 rfl
set_option maxRecDepth 100000 in
theorem bw140 : Cond.classLink "ConeForge" 16 "ConeForge$Scales" ∈ BIG := bg 140 rfl
set_option maxRecDepth 100000 in
theorem bw141 : Cond.instantiable "ConeForge$Scales" 2 ∈ BIG := bg 141 rfl
set_option maxRecDepth 100000 in
theorem bw142 : Cond.instanceMethod y_Sc_init ∈ BIG := bg 142 rfl
set_option maxRecDepth 100000 in
theorem bw143 : Cond.code y_Sc_init prog_6_method_1_code 1 none ∈ BIG := bg 143 rfl
set_option maxRecDepth 100000 in
theorem bw144 : Cond.methodLink "ConeForge$Scales" 3 objectInit ∈ BIG := bg 144 rfl
set_option maxRecDepth 100000 in
theorem bw145 : Cond.fieldLink "ConeForge$Scales" 9 "ConeForge$Scales" "ofRows" "[D" ∈ BIG := bg 145 rfl
set_option maxRecDepth 100000 in
theorem bw146 : Cond.fieldLink "ConeForge$Scales" 15 "ConeForge$Scales" "ofVariables" "[D" ∈ BIG := bg 146 rfl
set_option maxRecDepth 100000 in
theorem bw147 : Cond.laysFinal "ConeForge$Scales" "ConeForge$Scales" "ofRows" "[D" ∈ BIG := bg 147 rfl
set_option maxRecDepth 100000 in
theorem bw148 : Cond.laysFinal "ConeForge$Scales" "ConeForge$Scales" "ofVariables" "[D" ∈ BIG := bg 148 rfl
set_option maxRecDepth 100000 in
theorem bw149 : Cond.classLink "ConeForge" 23 "ConeForge$Point" ∈ BIG := bg 149 rfl
set_option maxRecDepth 100000 in
theorem bw150 : Cond.instantiable "ConeForge$Point" 3 ∈ BIG := bg 150 rfl
set_option maxRecDepth 100000 in
theorem bw151 : Cond.instanceMethod y_Pt_init ∈ BIG := bg 151 rfl
set_option maxRecDepth 100000 in
theorem bw152 : Cond.code y_Pt_init prog_4_method_1_code 1 none ∈ BIG := bg 152 rfl
set_option maxRecDepth 100000 in
theorem bw153 : Cond.methodLink "ConeForge$Point" 3 objectInit ∈ BIG := bg 153 rfl
set_option maxRecDepth 100000 in
theorem bw154 : Cond.fieldLink "ConeForge$Point" 9 "ConeForge$Point" "x" "[D" ∈ BIG := bg 154 rfl
set_option maxRecDepth 100000 in
theorem bw155 : Cond.fieldLink "ConeForge$Point" 15 "ConeForge$Point" "s" "[D" ∈ BIG := bg 155 rfl
set_option maxRecDepth 100000 in
theorem bw156 : Cond.fieldLink "ConeForge$Point" 18 "ConeForge$Point" "y" "[D" ∈ BIG := bg 156 rfl
set_option maxRecDepth 100000 in
theorem bw157 : Cond.laysFinal "ConeForge$Point" "ConeForge$Point" "x" "[D" ∈ BIG := bg 157 rfl
set_option maxRecDepth 100000 in
theorem bw158 : Cond.laysFinal "ConeForge$Point" "ConeForge$Point" "s" "[D" ∈ BIG := bg 158 rfl
set_option maxRecDepth 100000 in
theorem bw159 : Cond.laysFinal "ConeForge$Point" "ConeForge$Point" "y" "[D" ∈ BIG := bg 159 rfl
set_option maxRecDepth 100000 in
theorem bw160 : Cond.classLink "ConeForge" 30 "ConeForge$TextReader" ∈ BIG := bg 160 rfl
set_option maxRecDepth 100000 in
theorem bw161 : Cond.instantiable "ConeForge$TextReader" 9 ∈ BIG := bg 161 rfl
set_option maxRecDepth 100000 in
theorem bw162 : Cond.instanceMethod y_Tr_init ∈ BIG := bg 162 rfl
set_option maxRecDepth 100000 in
theorem bw163 : Cond.code y_Tr_init prog_8_method_1_code 1 none ∈ BIG := bg 163 rfl
set_option maxRecDepth 100000 in
theorem bw164 : Cond.methodLink "ConeForge$TextReader" 3 objectInit ∈ BIG := bg 164 rfl
set_option maxRecDepth 100000 in
theorem bw165 : Cond.classLink "ConeForge$TextReader" 15 "ConeForge$Problem" ∈ BIG := bg 165 rfl
set_option maxRecDepth 100000 in
theorem bw166 : Cond.fieldLink "ConeForge$TextReader" 9 "ConeForge$TextReader" "characters" "[C" ∈ BIG := bg 166 rfl
set_option maxRecDepth 100000 in
theorem bw167 : Cond.fieldLink "ConeForge$TextReader" 18 "ConeForge$TextReader" "fresh" "LConeForge$Problem;" ∈ BIG := bg 167 rfl
set_option maxRecDepth 100000 in
theorem bw168 : Cond.fieldLink "ConeForge$TextReader" 22 "ConeForge$TextReader" "length" "I" ∈ BIG := bg 168 rfl
set_option maxRecDepth 100000 in
theorem bw169 : Cond.fieldLink "ConeForge$TextReader" 26 "ConeForge$TextReader" "at" "I" ∈ BIG := bg 169 rfl
set_option maxRecDepth 100000 in
theorem bw170 : Cond.fieldLink "ConeForge$TextReader" 29 "ConeForge$TextReader" "first" "I" ∈ BIG := bg 170 rfl
set_option maxRecDepth 100000 in
theorem bw171 : Cond.fieldLink "ConeForge$TextReader" 32 "ConeForge$TextReader" "digits" "I" ∈ BIG := bg 171 rfl
set_option maxRecDepth 100000 in
theorem bw172 : Cond.fieldLink "ConeForge$TextReader" 35 "ConeForge$TextReader" "value" "D" ∈ BIG := bg 172 rfl
set_option maxRecDepth 100000 in
theorem bw173 : Cond.fieldLink "ConeForge$TextReader" 39 "ConeForge$TextReader" "numbersRead" "I" ∈ BIG := bg 173 rfl
set_option maxRecDepth 100000 in
theorem bw174 : Cond.fieldLink "ConeForge$TextReader" 42 "ConeForge$TextReader" "failedAt" "I" ∈ BIG := bg 174 rfl
set_option maxRecDepth 100000 in
theorem bw175 : Cond.laysFinal "ConeForge$TextReader" "ConeForge$TextReader" "characters" "[C" ∈ BIG := bg 175 rfl
set_option maxRecDepth 100000 in
theorem bw176 : Cond.laysFinal "ConeForge$TextReader" "ConeForge$TextReader" "fresh" "LConeForge$Problem;" ∈ BIG := bg 176 rfl
set_option maxRecDepth 100000 in
theorem bw177 : Cond.lays "ConeForge$TextReader" "ConeForge$TextReader" "length" "I" ∈ BIG := bg 177 rfl
set_option maxRecDepth 100000 in
theorem bw178 : Cond.lays "ConeForge$TextReader" "ConeForge$TextReader" "at" "I" ∈ BIG := bg 178 rfl
set_option maxRecDepth 100000 in
theorem bw179 : Cond.lays "ConeForge$TextReader" "ConeForge$TextReader" "first" "I" ∈ BIG := bg 179 rfl
set_option maxRecDepth 100000 in
theorem bw180 : Cond.lays "ConeForge$TextReader" "ConeForge$TextReader" "digits" "I" ∈ BIG := bg 180 rfl
set_option maxRecDepth 100000 in
theorem bw181 : Cond.lays "ConeForge$TextReader" "ConeForge$TextReader" "value" "D" ∈ BIG := bg 181 rfl
set_option maxRecDepth 100000 in
theorem bw182 : Cond.lays "ConeForge$TextReader" "ConeForge$TextReader" "numbersRead" "I" ∈ BIG := bg 182 rfl
set_option maxRecDepth 100000 in
theorem bw183 : Cond.lays "ConeForge$TextReader" "ConeForge$TextReader" "failedAt" "I" ∈ BIG := bg 183 rfl
set_option maxRecDepth 100000 in
theorem bw184 : Cond.arrayClass .char ∈ BIG := bg 184 rfl
set_option maxRecDepth 100000 in
theorem bw185 : Cond.classLink "ConeForge" 37 "ConeForge$InteriorMethod" ∈ BIG := bg 185 rfl
set_option maxRecDepth 100000 in
theorem bw186 : Cond.instantiable "ConeForge$InteriorMethod" 13 ∈ BIG := bg 186 rfl
set_option maxRecDepth 100000 in
theorem bw187 : Cond.instanceMethod y_Im_init ∈ BIG := bg 187 rfl
set_option maxRecDepth 100000 in
theorem bw188 : Cond.code y_Im_init prog_3_method_1_code 1 none ∈ BIG := bg 188 rfl
set_option maxRecDepth 100000 in
theorem bw189 : Cond.methodLink "ConeForge$InteriorMethod" 3 objectInit ∈ BIG := bg 189 rfl
set_option maxRecDepth 100000 in
theorem bw190 : Cond.classLink "ConeForge$InteriorMethod" 9 "ConeForge$Problem" ∈ BIG := bg 190 rfl
set_option maxRecDepth 100000 in
theorem bw191 : Cond.classLink "ConeForge$InteriorMethod" 18 "ConeForge$Point" ∈ BIG := bg 191 rfl
set_option maxRecDepth 100000 in
theorem bw192 : Cond.classLink "ConeForge$InteriorMethod" 25 "ConeForge$FactoredMatrix" ∈ BIG := bg 192 rfl
set_option maxRecDepth 100000 in
theorem bw193 : Cond.instantiable "ConeForge$FactoredMatrix" 4 ∈ BIG := bg 193 rfl
set_option maxRecDepth 100000 in
theorem bw194 : Cond.instanceMethod y_Fm_init ∈ BIG := bg 194 rfl
set_option maxRecDepth 100000 in
theorem bw195 : Cond.code y_Fm_init prog_2_method_1_code 1 none ∈ BIG := bg 195 rfl
set_option maxRecDepth 100000 in
theorem bw196 : Cond.methodLink "ConeForge$FactoredMatrix" 3 objectInit ∈ BIG := bg 196 rfl
set_option maxRecDepth 100000 in
theorem bw197 : Cond.classLink "ConeForge$FactoredMatrix" 9 "[[D" ∈ BIG := bg 197 rfl
set_option maxRecDepth 100000 in
theorem bw198 : Cond.fieldLink "ConeForge$FactoredMatrix" 11 "ConeForge$FactoredMatrix" "entries" "[[D" ∈ BIG := bg 198 rfl
set_option maxRecDepth 100000 in
theorem bw199 : Cond.fieldLink "ConeForge$FactoredMatrix" 16 "ConeForge$FactoredMatrix" "lower" "[[D" ∈ BIG := bg 199 rfl
set_option maxRecDepth 100000 in
theorem bw200 : Cond.fieldLink "ConeForge$FactoredMatrix" 19 "ConeForge$FactoredMatrix" "diagonal" "[D" ∈ BIG := bg 200 rfl
set_option maxRecDepth 100000 in
theorem bw201 : Cond.fieldLink "ConeForge$FactoredMatrix" 23 "ConeForge$FactoredMatrix" "middle" "[D" ∈ BIG := bg 201 rfl
set_option maxRecDepth 100000 in
theorem bw202 : Cond.laysFinal "ConeForge$FactoredMatrix" "ConeForge$FactoredMatrix" "entries" "[[D" ∈ BIG := bg 202 rfl
set_option maxRecDepth 100000 in
theorem bw203 : Cond.laysFinal "ConeForge$FactoredMatrix" "ConeForge$FactoredMatrix" "lower" "[[D" ∈ BIG := bg 203 rfl
set_option maxRecDepth 100000 in
theorem bw204 : Cond.laysFinal "ConeForge$FactoredMatrix" "ConeForge$FactoredMatrix" "diagonal" "[D" ∈ BIG := bg 204 rfl
set_option maxRecDepth 100000 in
theorem bw205 : Cond.laysFinal "ConeForge$FactoredMatrix" "ConeForge$FactoredMatrix" "middle" "[D" ∈ BIG := bg 205 rfl
set_option maxRecDepth 100000 in
theorem bw206 : Cond.fieldLink "ConeForge$InteriorMethod" 12 "ConeForge$InteriorMethod" "problem" "LConeForge$Problem;" ∈ BIG := bg 206 rfl
set_option maxRecDepth 100000 in
theorem bw207 : Cond.fieldLink "ConeForge$InteriorMethod" 21 "ConeForge$InteriorMethod" "point" "LConeForge$Point;" ∈ BIG := bg 207 rfl
set_option maxRecDepth 100000 in
theorem bw208 : Cond.fieldLink "ConeForge$InteriorMethod" 28 "ConeForge$InteriorMethod" "matrix" "LConeForge$FactoredMatrix;" ∈ BIG := bg 208 rfl
set_option maxRecDepth 100000 in
theorem bw209 : Cond.fieldLink "ConeForge$InteriorMethod" 32 "ConeForge$InteriorMethod" "p" "[D" ∈ BIG := bg 209 rfl
set_option maxRecDepth 100000 in
theorem bw210 : Cond.fieldLink "ConeForge$InteriorMethod" 36 "ConeForge$InteriorMethod" "d" "[D" ∈ BIG := bg 210 rfl
set_option maxRecDepth 100000 in
theorem bw211 : Cond.fieldLink "ConeForge$InteriorMethod" 39 "ConeForge$InteriorMethod" "h" "[D" ∈ BIG := bg 211 rfl
set_option maxRecDepth 100000 in
theorem bw212 : Cond.fieldLink "ConeForge$InteriorMethod" 42 "ConeForge$InteriorMethod" "f" "[D" ∈ BIG := bg 212 rfl
set_option maxRecDepth 100000 in
theorem bw213 : Cond.fieldLink "ConeForge$InteriorMethod" 45 "ConeForge$InteriorMethod" "\x72" "[D" ∈ BIG := bg 213 rfl
set_option maxRecDepth 100000 in
theorem bw214 : Cond.fieldLink "ConeForge$InteriorMethod" 48 "ConeForge$InteriorMethod" "stepOfX" "[D" ∈ BIG := bg 214 rfl
set_option maxRecDepth 100000 in
theorem bw215 : Cond.fieldLink "ConeForge$InteriorMethod" 51 "ConeForge$InteriorMethod" "stepOfS" "[D" ∈ BIG := bg 215 rfl
set_option maxRecDepth 100000 in
theorem bw216 : Cond.fieldLink "ConeForge$InteriorMethod" 54 "ConeForge$InteriorMethod" "stepOfY" "[D" ∈ BIG := bg 216 rfl
set_option maxRecDepth 100000 in
theorem bw217 : Cond.fieldLink "ConeForge$InteriorMethod" 57 "ConeForge$InteriorMethod" "g" "D" ∈ BIG := bg 217 rfl
set_option maxRecDepth 100000 in
theorem bw218 : Cond.fieldLink "ConeForge$InteriorMethod" 61 "ConeForge$InteriorMethod" "turnsBegun" "I" ∈ BIG := bg 218 rfl
set_option maxRecDepth 100000 in
theorem bw219 : Cond.laysFinal "ConeForge$InteriorMethod" "ConeForge$InteriorMethod" "problem" "LConeForge$Problem;" ∈ BIG := bg 219 rfl
set_option maxRecDepth 100000 in
theorem bw220 : Cond.laysFinal "ConeForge$InteriorMethod" "ConeForge$InteriorMethod" "point" "LConeForge$Point;" ∈ BIG := bg 220 rfl
set_option maxRecDepth 100000 in
theorem bw221 : Cond.laysFinal "ConeForge$InteriorMethod" "ConeForge$InteriorMethod" "matrix" "LConeForge$FactoredMatrix;" ∈ BIG := bg 221 rfl
set_option maxRecDepth 100000 in
theorem bw222 : Cond.laysFinal "ConeForge$InteriorMethod" "ConeForge$InteriorMethod" "p" "[D" ∈ BIG := bg 222 rfl
set_option maxRecDepth 100000 in
theorem bw223 : Cond.laysFinal "ConeForge$InteriorMethod" "ConeForge$InteriorMethod" "d" "[D" ∈ BIG := bg 223 rfl
set_option maxRecDepth 100000 in
theorem bw224 : Cond.laysFinal "ConeForge$InteriorMethod" "ConeForge$InteriorMethod" "h" "[D" ∈ BIG := bg 224 rfl
set_option maxRecDepth 100000 in
theorem bw225 : Cond.laysFinal "ConeForge$InteriorMethod" "ConeForge$InteriorMethod" "f" "[D" ∈ BIG := bg 225 rfl
set_option maxRecDepth 100000 in
theorem bw226 : Cond.laysFinal "ConeForge$InteriorMethod" "ConeForge$InteriorMethod" "\x72" "[D" ∈ BIG := bg 226 rfl
set_option maxRecDepth 100000 in
theorem bw227 : Cond.laysFinal "ConeForge$InteriorMethod" "ConeForge$InteriorMethod" "stepOfX" "[D" ∈ BIG := bg 227 rfl
set_option maxRecDepth 100000 in
theorem bw228 : Cond.laysFinal "ConeForge$InteriorMethod" "ConeForge$InteriorMethod" "stepOfS" "[D" ∈ BIG := bg 228 rfl
set_option maxRecDepth 100000 in
theorem bw229 : Cond.laysFinal "ConeForge$InteriorMethod" "ConeForge$InteriorMethod" "stepOfY" "[D" ∈ BIG := bg 229 rfl
set_option maxRecDepth 100000 in
theorem bw230 : Cond.lays "ConeForge$InteriorMethod" "ConeForge$InteriorMethod" "g" "D" ∈ BIG := bg 230 rfl
set_option maxRecDepth 100000 in
theorem bw231 : Cond.lays "ConeForge$InteriorMethod" "ConeForge$InteriorMethod" "turnsBegun" "I" ∈ BIG := bg 231 rfl
set_option maxRecDepth 100000 in
theorem bw232 : Cond.classLink "ConeForge" 44 "ConeForge$SimplexMethod" ∈ BIG := bg 232 rfl
set_option maxRecDepth 100000 in
theorem bw233 : Cond.instantiable "ConeForge$SimplexMethod" 10 ∈ BIG := bg 233 rfl
set_option maxRecDepth 100000 in
theorem bw234 : Cond.instanceMethod y_Sm_init ∈ BIG := bg 234 rfl
set_option maxRecDepth 100000 in
theorem bw235 : Cond.code y_Sm_init prog_7_method_1_code 1 none ∈ BIG := bg 235 rfl
set_option maxRecDepth 100000 in
theorem bw236 : Cond.methodLink "ConeForge$SimplexMethod" 3 objectInit ∈ BIG := bg 236 rfl
set_option maxRecDepth 100000 in
theorem bw237 : Cond.classLink "ConeForge$SimplexMethod" 9 "ConeForge$Problem" ∈ BIG := bg 237 rfl
set_option maxRecDepth 100000 in
theorem bw238 : Cond.classLink "ConeForge$SimplexMethod" 18 "ConeForge$Point" ∈ BIG := bg 238 rfl
set_option maxRecDepth 100000 in
theorem bw239 : Cond.classLink "ConeForge$SimplexMethod" 25 "[[D" ∈ BIG := bg 239 rfl
set_option maxRecDepth 100000 in
theorem bw240 : Cond.fieldLink "ConeForge$SimplexMethod" 12 "ConeForge$SimplexMethod" "problem" "LConeForge$Problem;" ∈ BIG := bg 240 rfl
set_option maxRecDepth 100000 in
theorem bw241 : Cond.fieldLink "ConeForge$SimplexMethod" 21 "ConeForge$SimplexMethod" "point" "LConeForge$Point;" ∈ BIG := bg 241 rfl
set_option maxRecDepth 100000 in
theorem bw242 : Cond.fieldLink "ConeForge$SimplexMethod" 27 "ConeForge$SimplexMethod" "table" "[[D" ∈ BIG := bg 242 rfl
set_option maxRecDepth 100000 in
theorem bw243 : Cond.fieldLink "ConeForge$SimplexMethod" 30 "ConeForge$SimplexMethod" "right" "[D" ∈ BIG := bg 243 rfl
set_option maxRecDepth 100000 in
theorem bw244 : Cond.fieldLink "ConeForge$SimplexMethod" 34 "ConeForge$SimplexMethod" "cost" "[D" ∈ BIG := bg 244 rfl
set_option maxRecDepth 100000 in
theorem bw245 : Cond.fieldLink "ConeForge$SimplexMethod" 37 "ConeForge$SimplexMethod" "basic" "[I" ∈ BIG := bg 245 rfl
set_option maxRecDepth 100000 in
theorem bw246 : Cond.fieldLink "ConeForge$SimplexMethod" 41 "ConeForge$SimplexMethod" "rows" "I" ∈ BIG := bg 246 rfl
set_option maxRecDepth 100000 in
theorem bw247 : Cond.fieldLink "ConeForge$SimplexMethod" 45 "ConeForge$SimplexMethod" "variables" "I" ∈ BIG := bg 247 rfl
set_option maxRecDepth 100000 in
theorem bw248 : Cond.fieldLink "ConeForge$SimplexMethod" 48 "ConeForge$SimplexMethod" "columns" "I" ∈ BIG := bg 248 rfl
set_option maxRecDepth 100000 in
theorem bw249 : Cond.fieldLink "ConeForge$SimplexMethod" 51 "ConeForge$SimplexMethod" "stepsDone" "I" ∈ BIG := bg 249 rfl
set_option maxRecDepth 100000 in
theorem bw250 : Cond.laysFinal "ConeForge$SimplexMethod" "ConeForge$SimplexMethod" "problem" "LConeForge$Problem;" ∈ BIG := bg 250 rfl
set_option maxRecDepth 100000 in
theorem bw251 : Cond.laysFinal "ConeForge$SimplexMethod" "ConeForge$SimplexMethod" "point" "LConeForge$Point;" ∈ BIG := bg 251 rfl
set_option maxRecDepth 100000 in
theorem bw252 : Cond.laysFinal "ConeForge$SimplexMethod" "ConeForge$SimplexMethod" "table" "[[D" ∈ BIG := bg 252 rfl
set_option maxRecDepth 100000 in
theorem bw253 : Cond.laysFinal "ConeForge$SimplexMethod" "ConeForge$SimplexMethod" "right" "[D" ∈ BIG := bg 253 rfl
set_option maxRecDepth 100000 in
theorem bw254 : Cond.laysFinal "ConeForge$SimplexMethod" "ConeForge$SimplexMethod" "cost" "[D" ∈ BIG := bg 254 rfl
set_option maxRecDepth 100000 in
theorem bw255 : Cond.laysFinal "ConeForge$SimplexMethod" "ConeForge$SimplexMethod" "basic" "[I" ∈ BIG := bg 255 rfl
set_option maxRecDepth 100000 in
theorem bw256 : Cond.lays "ConeForge$SimplexMethod" "ConeForge$SimplexMethod" "rows" "I" ∈ BIG := bg 256 rfl
set_option maxRecDepth 100000 in
theorem bw257 : Cond.lays "ConeForge$SimplexMethod" "ConeForge$SimplexMethod" "variables" "I" ∈ BIG := bg 257 rfl
set_option maxRecDepth 100000 in
theorem bw258 : Cond.lays "ConeForge$SimplexMethod" "ConeForge$SimplexMethod" "columns" "I" ∈ BIG := bg 258 rfl
set_option maxRecDepth 100000 in
theorem bw259 : Cond.lays "ConeForge$SimplexMethod" "ConeForge$SimplexMethod" "stepsDone" "I" ∈ BIG := bg 259 rfl
set_option maxRecDepth 100000 in
theorem bw260 : Cond.arrayClass .int ∈ BIG := bg 260 rfl
set_option maxRecDepth 100000 in
theorem bw261 : Cond.fieldLink "ConeForge" 10 "ConeForge" "problem" "LConeForge$Problem;" ∈ BIG := bg 261 rfl
set_option maxRecDepth 100000 in
theorem bw262 : Cond.fieldLink "ConeForge" 19 "ConeForge" "scales" "LConeForge$Scales;" ∈ BIG := bg 262 rfl
set_option maxRecDepth 100000 in
theorem bw263 : Cond.fieldLink "ConeForge" 26 "ConeForge" "point" "LConeForge$Point;" ∈ BIG := bg 263 rfl
set_option maxRecDepth 100000 in
theorem bw264 : Cond.fieldLink "ConeForge" 33 "ConeForge" "reader" "LConeForge$TextReader;" ∈ BIG := bg 264 rfl
set_option maxRecDepth 100000 in
theorem bw265 : Cond.fieldLink "ConeForge" 40 "ConeForge" "interiorMethod" "LConeForge$InteriorMethod;" ∈ BIG := bg 265 rfl
set_option maxRecDepth 100000 in
theorem bw266 : Cond.fieldLink "ConeForge" 47 "ConeForge" "simplexMethod" "LConeForge$SimplexMethod;" ∈ BIG := bg 266 rfl
set_option maxRecDepth 100000 in
theorem bw267 : Cond.fieldLink "ConeForge" 51 "ConeForge" "scalingOn" "Z" ∈ BIG := bg 267 rfl
set_option maxRecDepth 100000 in
theorem bw268 : Cond.fieldLink "ConeForge" 55 "ConeForge" "pointTold" "Z" ∈ BIG := bg 268 rfl
set_option maxRecDepth 100000 in
theorem bw269 : Cond.fieldLink "ConeForge" 58 "ConeForge" "latestEffort" "I" ∈ BIG := bg 269 rfl
set_option maxRecDepth 100000 in
theorem bw270 : Cond.fieldLink "ConeForge" 62 "ConeForge" "failedAt" "I" ∈ BIG := bg 270 rfl
set_option maxRecDepth 100000 in
theorem bw271 : Cond.laysFinal "ConeForge" "ConeForge" "problem" "LConeForge$Problem;" ∈ BIG := bg 271 rfl
set_option maxRecDepth 100000 in
theorem bw272 : Cond.laysFinal "ConeForge" "ConeForge" "scales" "LConeForge$Scales;" ∈ BIG := bg 272 rfl
set_option maxRecDepth 100000 in
theorem bw273 : Cond.laysFinal "ConeForge" "ConeForge" "point" "LConeForge$Point;" ∈ BIG := bg 273 rfl
set_option maxRecDepth 100000 in
theorem bw274 : Cond.laysFinal "ConeForge" "ConeForge" "reader" "LConeForge$TextReader;" ∈ BIG := bg 274 rfl
set_option maxRecDepth 100000 in
theorem bw275 : Cond.laysFinal "ConeForge" "ConeForge" "interiorMethod" "LConeForge$InteriorMethod;" ∈ BIG := bg 275 rfl
set_option maxRecDepth 100000 in
theorem bw276 : Cond.laysFinal "ConeForge" "ConeForge" "simplexMethod" "LConeForge$SimplexMethod;" ∈ BIG := bg 276 rfl
set_option maxRecDepth 100000 in
theorem bw277 : Cond.lays "ConeForge" "ConeForge" "scalingOn" "Z" ∈ BIG := bg 277 rfl
set_option maxRecDepth 100000 in
theorem bw278 : Cond.lays "ConeForge" "ConeForge" "pointTold" "Z" ∈ BIG := bg 278 rfl
set_option maxRecDepth 100000 in
theorem bw279 : Cond.lays "ConeForge" "ConeForge" "latestEffort" "I" ∈ BIG := bg 279 rfl
set_option maxRecDepth 100000 in
theorem bw280 : Cond.lays "ConeForge" "ConeForge" "failedAt" "I" ∈ BIG := bg 280 rfl
set_option maxRecDepth 100000 in
theorem bw281 : Cond.methodLink "ConeForgeLaw" 74 y_C_scaling ∈ BIG := bg 281 rfl
set_option maxRecDepth 100000 in
theorem bw282 : Cond.instanceMethod y_C_scaling ∈ BIG := bg 282 rfl
set_option maxRecDepth 100000 in
theorem bw283 : Cond.selects "ConeForge" y_C_scaling y_C_scaling ∈ BIG := bg 283 rfl
set_option maxRecDepth 100000 in
theorem bw284 : Cond.code y_C_scaling prog_1_method_4_code 3 (some .boolean) ∈ BIG := bg 284 rfl
set_option maxRecDepth 100000 in
theorem bw285 : Cond.methodLink "ConeForgeLaw" 89 y_C_where ∈ BIG := bg 285 rfl
set_option maxRecDepth 100000 in
theorem bw286 : Cond.instanceMethod y_C_where ∈ BIG := bg 286 rfl
set_option maxRecDepth 100000 in
theorem bw287 : Cond.selects "ConeForge" y_C_where y_C_where ∈ BIG := bg 287 rfl
set_option maxRecDepth 100000 in
theorem bw288 : Cond.code y_C_where prog_1_method_7_code 1 (some .int) ∈ BIG := bg 288 rfl
set_option maxRecDepth 100000 in
theorem bw289 : Cond.methodLink "ConeForgeLaw" 97 y_C_simplex ∈ BIG := bg 289 rfl
set_option maxRecDepth 100000 in
theorem bw290 : Cond.instanceMethod y_C_simplex ∈ BIG := bg 290 rfl
set_option maxRecDepth 100000 in
theorem bw291 : Cond.selects "ConeForge" y_C_simplex y_C_simplex ∈ BIG := bg 291 rfl
set_option maxRecDepth 100000 in
theorem bw292 : Cond.code y_C_simplex prog_1_method_9_code 2 (some .int) ∈ BIG := bg 292 rfl
set_option maxRecDepth 100000 in
theorem bw293 : Cond.instanceMethod y_Sc_measure ∈ BIG := bg 293 rfl
set_option maxRecDepth 100000 in
theorem bw294 : Cond.code y_Sc_measure prog_6_method_2_code 3 none ∈ BIG := bg 294 rfl
set_option maxRecDepth 100000 in
theorem bw295 : Cond.methodLink "ConeForge$Scales" 18 y_Ar_fill ∈ BIG := bg 295 rfl
set_option maxRecDepth 100000 in
theorem bw296 : Cond.static y_Ar_fill ∈ BIG := bg 296 rfl
set_option maxRecDepth 100000 in
theorem bw297 : Cond.code y_Ar_fill prog_20_method_113_code 5 none ∈ BIG := bg 297 rfl
set_option maxRecDepth 100000 in
theorem bw298 : Cond.methodLink "ConeForge$Scales" 24 y_Sc_measureRows ∈ BIG := bg 298 rfl
set_option maxRecDepth 100000 in
theorem bw299 : Cond.instanceMethod y_Sc_measureRows ∈ BIG := bg 299 rfl
set_option maxRecDepth 100000 in
theorem bw300 : Cond.code y_Sc_measureRows prog_6_method_3_code 3 none ∈ BIG := bg 300 rfl
set_option maxRecDepth 100000 in
theorem bw301 : Cond.static y_C_greatestOf ∈ BIG := bg 301 rfl
set_option maxRecDepth 100000 in
theorem bw302 : Cond.code y_C_greatestOf prog_1_method_28_code 5 (some .double) ∈ BIG := bg 302 rfl
set_option maxRecDepth 100000 in
theorem bw303 : Cond.methodLink "ConeForge" 253 y_C_absolute ∈ BIG := bg 303 rfl
set_option maxRecDepth 100000 in
theorem bw304 : Cond.static y_C_absolute ∈ BIG := bg 304 rfl
set_option maxRecDepth 100000 in
theorem bw305 : Cond.code y_C_absolute prog_1_method_26_code 2 (some .double) ∈ BIG := bg 305 rfl
set_option maxRecDepth 100000 in
theorem bw306 : Cond.methodLink "ConeForge" 257 y_C_greater ∈ BIG := bg 306 rfl
set_option maxRecDepth 100000 in
theorem bw307 : Cond.static y_C_greater ∈ BIG := bg 307 rfl
set_option maxRecDepth 100000 in
theorem bw308 : Cond.code y_C_greater prog_1_method_27_code 4 (some .double) ∈ BIG := bg 308 rfl
set_option maxRecDepth 100000 in
theorem bw309 : Cond.methodLink "ConeForge$Scales" 48 y_Sc_powerFor ∈ BIG := bg 309 rfl
set_option maxRecDepth 100000 in
theorem bw310 : Cond.static y_Sc_powerFor ∈ BIG := bg 310 rfl
set_option maxRecDepth 100000 in
theorem bw311 : Cond.code y_Sc_powerFor prog_6_method_5_code 7 (some .double) ∈ BIG := bg 311 rfl
set_option maxRecDepth 100000 in
theorem bw312 : Cond.constantDouble "ConeForge$Scales" 59 4611686018427387904 ∈ BIG := bg 312 rfl
set_option maxRecDepth 100000 in
theorem bw313 : Cond.methodLink "ConeForge$Scales" 28 y_Sc_measureVariables ∈ BIG := bg 313 rfl
set_option maxRecDepth 100000 in
theorem bw314 : Cond.instanceMethod y_Sc_measureVariables ∈ BIG := bg 314 rfl
set_option maxRecDepth 100000 in
theorem bw315 : Cond.code y_Sc_measureVariables prog_6_method_4_code 6 none ∈ BIG := bg 315 rfl
set_option maxRecDepth 100000 in
theorem bw316 : Cond.instanceMethod y_Sc_apply ∈ BIG := bg 316 rfl
set_option maxRecDepth 100000 in
theorem bw317 : Cond.code y_Sc_apply prog_6_method_6_code 5 none ∈ BIG := bg 317 rfl
set_option maxRecDepth 100000 in
theorem bw318 : Cond.instanceMethod y_Pb_clear ∈ BIG := bg 318 rfl
set_option maxRecDepth 100000 in
theorem bw319 : Cond.code y_Pb_clear prog_5_method_2_code 4 none ∈ BIG := bg 319 rfl
set_option maxRecDepth 100000 in
theorem bw320 : Cond.methodLink "ConeForge$Problem" 30 y_Ar_fill ∈ BIG := bg 320 rfl
set_option maxRecDepth 100000 in
theorem bw321 : Cond.instanceMethod y_Sm_solve ∈ BIG := bg 321 rfl
set_option maxRecDepth 100000 in
theorem bw322 : Cond.code y_Sm_solve prog_7_method_2_code 2 (some .int) ∈ BIG := bg 322 rfl
set_option maxRecDepth 100000 in
theorem bw323 : Cond.instanceMethod y_Pt_fill ∈ BIG := bg 323 rfl
set_option maxRecDepth 100000 in
theorem bw324 : Cond.code y_Pt_fill prog_4_method_2_code 5 none ∈ BIG := bg 324 rfl
set_option maxRecDepth 100000 in
theorem bw325 : Cond.methodLink "ConeForge$Point" 21 y_Ar_fill ∈ BIG := bg 325 rfl
set_option maxRecDepth 100000 in
theorem bw326 : Cond.methodLink "ConeForge$SimplexMethod" 58 y_Sm_fillTable ∈ BIG := bg 326 rfl
set_option maxRecDepth 100000 in
theorem bw327 : Cond.instanceMethod y_Sm_fillTable ∈ BIG := bg 327 rfl
set_option maxRecDepth 100000 in
theorem bw328 : Cond.code y_Sm_fillTable prog_7_method_3_code 5 none ∈ BIG := bg 328 rfl
set_option maxRecDepth 100000 in
theorem bw329 : Cond.methodLink "ConeForge$SimplexMethod" 83 y_Sm_signOf ∈ BIG := bg 329 rfl
set_option maxRecDepth 100000 in
theorem bw330 : Cond.instanceMethod y_Sm_signOf ∈ BIG := bg 330 rfl
set_option maxRecDepth 100000 in
theorem bw331 : Cond.code y_Sm_signOf prog_7_method_4_code 2 (some .double) ∈ BIG := bg 331 rfl
set_option maxRecDepth 100000 in
theorem bw332 : Cond.constantDouble "ConeForge$SimplexMethod" 93 13830554455654793216 ∈ BIG := bg 332 rfl
set_option maxRecDepth 100000 in
theorem bw333 : Cond.methodLink "ConeForge$SimplexMethod" 61 y_Sm_setCosts ∈ BIG := bg 333 rfl
set_option maxRecDepth 100000 in
theorem bw334 : Cond.instanceMethod y_Sm_setCosts ∈ BIG := bg 334 rfl
set_option maxRecDepth 100000 in
theorem bw335 : Cond.code y_Sm_setCosts prog_7_method_5_code 3 none ∈ BIG := bg 335 rfl
set_option maxRecDepth 100000 in
theorem bw336 : Cond.methodLink "ConeForge$SimplexMethod" 65 y_Sm_runPhase ∈ BIG := bg 336 rfl
set_option maxRecDepth 100000 in
theorem bw337 : Cond.instanceMethod y_Sm_runPhase ∈ BIG := bg 337 rfl
set_option maxRecDepth 100000 in
theorem bw338 : Cond.code y_Sm_runPhase prog_7_method_6_code 5 (some .int) ∈ BIG := bg 338 rfl
set_option maxRecDepth 100000 in
theorem bw339 : Cond.methodLink "ConeForge$SimplexMethod" 98 y_Sm_incoming ∈ BIG := bg 339 rfl
set_option maxRecDepth 100000 in
theorem bw340 : Cond.instanceMethod y_Sm_incoming ∈ BIG := bg 340 rfl
set_option maxRecDepth 100000 in
theorem bw341 : Cond.code y_Sm_incoming prog_7_method_7_code 5 (some .int) ∈ BIG := bg 341 rfl
set_option maxRecDepth 100000 in
theorem bw342 : Cond.constantDouble "ConeForge$SimplexMethod" 118 13695778570484766357 ∈ BIG := bg 342 rfl
set_option maxRecDepth 100000 in
theorem bw343 : Cond.methodLink "ConeForge$SimplexMethod" 102 y_Sm_outgoing ∈ BIG := bg 343 rfl
set_option maxRecDepth 100000 in
theorem bw344 : Cond.instanceMethod y_Sm_outgoing ∈ BIG := bg 344 rfl
set_option maxRecDepth 100000 in
theorem bw345 : Cond.code y_Sm_outgoing prog_7_method_8_code 4 (some .int) ∈ BIG := bg 345 rfl
set_option maxRecDepth 100000 in
theorem bw346 : Cond.methodLink "ConeForge$SimplexMethod" 120 y_Sm_leftover ∈ BIG := bg 346 rfl
set_option maxRecDepth 100000 in
theorem bw347 : Cond.instanceMethod y_Sm_leftover ∈ BIG := bg 347 rfl
set_option maxRecDepth 100000 in
theorem bw348 : Cond.code y_Sm_leftover prog_7_method_9_code 3 (some .int) ∈ BIG := bg 348 rfl
set_option maxRecDepth 100000 in
theorem bw349 : Cond.constantDouble "ConeForge$SimplexMethod" 131 4472406533629990549 ∈ BIG := bg 349 rfl
set_option maxRecDepth 100000 in
theorem bw350 : Cond.methodLink "ConeForge$SimplexMethod" 124 y_Sm_tightest ∈ BIG := bg 350 rfl
set_option maxRecDepth 100000 in
theorem bw351 : Cond.instanceMethod y_Sm_tightest ∈ BIG := bg 351 rfl
set_option maxRecDepth 100000 in
theorem bw352 : Cond.code y_Sm_tightest prog_7_method_10_code 8 (some .int) ∈ BIG := bg 352 rfl
set_option maxRecDepth 100000 in
theorem bw353 : Cond.methodLink "ConeForge$SimplexMethod" 106 y_Sm_tellRay ∈ BIG := bg 353 rfl
set_option maxRecDepth 100000 in
theorem bw354 : Cond.instanceMethod y_Sm_tellRay ∈ BIG := bg 354 rfl
set_option maxRecDepth 100000 in
theorem bw355 : Cond.code y_Sm_tellRay prog_7_method_17_code 3 none ∈ BIG := bg 355 rfl
set_option maxRecDepth 100000 in
theorem bw356 : Cond.methodLink "ConeForge$SimplexMethod" 110 y_Sm_pivot ∈ BIG := bg 356 rfl
set_option maxRecDepth 100000 in
theorem bw357 : Cond.instanceMethod y_Sm_pivot ∈ BIG := bg 357 rfl
set_option maxRecDepth 100000 in
theorem bw358 : Cond.code y_Sm_pivot prog_7_method_11_code 6 none ∈ BIG := bg 358 rfl
set_option maxRecDepth 100000 in
theorem bw359 : Cond.methodLink "ConeForge$SimplexMethod" 133 y_Sm_takeAway ∈ BIG := bg 359 rfl
set_option maxRecDepth 100000 in
theorem bw360 : Cond.instanceMethod y_Sm_takeAway ∈ BIG := bg 360 rfl
set_option maxRecDepth 100000 in
theorem bw361 : Cond.code y_Sm_takeAway prog_7_method_12_code 6 none ∈ BIG := bg 361 rfl
set_option maxRecDepth 100000 in
theorem bw362 : Cond.methodLink "ConeForge$SimplexMethod" 114 y_Sm_isOvergrown ∈ BIG := bg 362 rfl
set_option maxRecDepth 100000 in
theorem bw363 : Cond.instanceMethod y_Sm_isOvergrown ∈ BIG := bg 363 rfl
set_option maxRecDepth 100000 in
theorem bw364 : Cond.code y_Sm_isOvergrown prog_7_method_13_code 2 (some .boolean) ∈ BIG := bg 364 rfl
set_option maxRecDepth 100000 in
theorem bw365 : Cond.constantDouble "ConeForge$SimplexMethod" 141 4786511204640096256 ∈ BIG := bg 365 rfl
set_option maxRecDepth 100000 in
theorem bw366 : Cond.methodLink "ConeForge$SimplexMethod" 69 y_Sm_costOfBasis ∈ BIG := bg 366 rfl
set_option maxRecDepth 100000 in
theorem bw367 : Cond.instanceMethod y_Sm_costOfBasis ∈ BIG := bg 367 rfl
set_option maxRecDepth 100000 in
theorem bw368 : Cond.code y_Sm_costOfBasis prog_7_method_14_code 4 (some .double) ∈ BIG := bg 368 rfl
set_option maxRecDepth 100000 in
theorem bw369 : Cond.constantDouble "ConeForge$SimplexMethod" 73 4502148214488346440 ∈ BIG := bg 369 rfl
set_option maxRecDepth 100000 in
theorem bw370 : Cond.methodLink "ConeForge$SimplexMethod" 75 y_Sm_tellPrices ∈ BIG := bg 370 rfl
set_option maxRecDepth 100000 in
theorem bw371 : Cond.instanceMethod y_Sm_tellPrices ∈ BIG := bg 371 rfl
set_option maxRecDepth 100000 in
theorem bw372 : Cond.code y_Sm_tellPrices prog_7_method_15_code 5 none ∈ BIG := bg 372 rfl
set_option maxRecDepth 100000 in
theorem bw373 : Cond.methodLink "ConeForge$SimplexMethod" 78 y_Sm_tellSolution ∈ BIG := bg 373 rfl
set_option maxRecDepth 100000 in
theorem bw374 : Cond.instanceMethod y_Sm_tellSolution ∈ BIG := bg 374 rfl
set_option maxRecDepth 100000 in
theorem bw375 : Cond.code y_Sm_tellSolution prog_7_method_16_code 2 none ∈ BIG := bg 375 rfl
set_option maxRecDepth 100000 in
theorem bw376 : Cond.instanceMethod y_Pb_lessColumn ∈ BIG := bg 376 rfl
set_option maxRecDepth 100000 in
theorem bw377 : Cond.code y_Pb_lessColumn prog_5_method_8_code 8 (some .double) ∈ BIG := bg 377 rfl
set_option maxRecDepth 100000 in
theorem bw378 : Cond.instanceMethod y_Sc_unscale ∈ BIG := bg 378 rfl
set_option maxRecDepth 100000 in
theorem bw379 : Cond.code y_Sc_unscale prog_6_method_7_code 4 none ∈ BIG := bg 379 rfl
set_option maxRecDepth 100000 in
theorem bw380 : Cond.methodLink "ConeForgeLaw" 105 y_C_effort ∈ BIG := bg 380 rfl
set_option maxRecDepth 100000 in
theorem bw381 : Cond.instanceMethod y_C_effort ∈ BIG := bg 381 rfl
set_option maxRecDepth 100000 in
theorem bw382 : Cond.selects "ConeForge" y_C_effort y_C_effort ∈ BIG := bg 382 rfl
set_option maxRecDepth 100000 in
theorem bw383 : Cond.code y_C_effort prog_1_method_11_code 1 (some .int) ∈ BIG := bg 383 rfl
set_option maxRecDepth 100000 in
theorem bw384 : Cond.methodLink "ConeForgeLaw" 59 ⟨"ConeForgeLaw", "begin", "(LConeForge;II[J)I"⟩ ∈ BIG := bg 384 rfl
set_option maxRecDepth 100000 in
theorem bw385 : Cond.static ⟨"ConeForgeLaw", "begin", "(LConeForge;II[J)I"⟩ ∈ BIG := bg 385 rfl
set_option maxRecDepth 100000 in
theorem bw386 : Cond.classLink "ConeForgeLaw" 13 "java/lang/IllegalArgumentException" ∈ BIG := bg 386 rfl
set_option maxRecDepth 100000 in
theorem bw387 : Cond.methodLink "ConeForgeLaw" 7 y_C_begin ∈ BIG := bg 387 rfl
set_option maxRecDepth 100000 in
theorem bw388 : Cond.instanceMethod y_C_begin ∈ BIG := bg 388 rfl
set_option maxRecDepth 100000 in
theorem bw389 : Cond.selects "ConeForge" y_C_begin y_C_begin ∈ BIG := bg 389 rfl
set_option maxRecDepth 100000 in
theorem bw390 : Cond.code y_C_begin prog_1_method_2_code 3 (some .int) ∈ BIG := bg 390 rfl
set_option maxRecDepth 100000 in
theorem bw391 : Cond.classLink "ConeForge" 65 "java/lang/IllegalArgumentException" ∈ BIG := bg 391 rfl
set_option maxRecDepth 100000 in
theorem bw392 : Cond.instantiable "java/lang/IllegalArgumentException" 6 ∈ BIG := bg 392 rfl
set_option maxRecDepth 100000 in
theorem bw393 : Cond.selects "java/lang/IllegalArgumentException" ⟨"java/lang/Throwable", "fillInStackTrace", "(I)Ljava/lang/Throwable;"⟩ ⟨"java/lang/Throwable", "fillInStackTrace", "(I)Ljava/lang/Throwable;"⟩ ∈ BIG := bg 393 rfl
set_option maxRecDepth 100000 in
theorem bw394 : Cond.selects "java/lang/IllegalArgumentException" ⟨"java/lang/Throwable", "fillInStackTrace", "()Ljava/lang/Throwable;"⟩ ⟨"java/lang/Throwable", "fillInStackTrace", "()Ljava/lang/Throwable;"⟩ ∈ BIG := bg 394 rfl
set_option maxRecDepth 100000 in
theorem bw395 : Cond.lays "java/lang/IllegalArgumentException" "java/lang/Throwable" "cause" "Ljava/lang/Throwable;" ∈ BIG := bg 395 rfl
set_option maxRecDepth 100000 in
theorem bw396 : Cond.lays "java/lang/Throwable" "java/lang/Throwable" "cause" "Ljava/lang/Throwable;" ∈ BIG := bg 396 rfl
set_option maxRecDepth 100000 in
theorem bw397 : Cond.lays "java/lang/IllegalArgumentException" "java/lang/Throwable" "stackTrace" "[Ljava/lang/StackTraceElement;" ∈ BIG := bg 397 rfl
set_option maxRecDepth 100000 in
theorem bw398 : Cond.lays "java/lang/Throwable" "java/lang/Throwable" "stackTrace" "[Ljava/lang/StackTraceElement;" ∈ BIG := bg 398 rfl
set_option maxRecDepth 100000 in
theorem bw399 : Cond.lays "java/lang/IllegalArgumentException" "java/lang/Throwable" "suppressedExceptions" "Ljava/util/List;" ∈ BIG := bg 399 rfl
set_option maxRecDepth 100000 in
theorem bw400 : Cond.lays "java/lang/Throwable" "java/lang/Throwable" "suppressedExceptions" "Ljava/util/List;" ∈ BIG := bg 400 rfl
set_option maxRecDepth 100000 in
theorem bw401 : Cond.lays "java/lang/IllegalArgumentException" "java/lang/Throwable" "detailMessage" "Ljava/lang/String;" ∈ BIG := bg 401 rfl
set_option maxRecDepth 100000 in
theorem bw402 : Cond.lays "java/lang/Throwable" "java/lang/Throwable" "detailMessage" "Ljava/lang/String;" ∈ BIG := bg 402 rfl
set_option maxRecDepth 100000 in
theorem bw403 : Cond.lays "java/lang/IllegalArgumentException" "java/lang/Throwable" "backtrace" "Ljava/lang/Object;" ∈ BIG := bg 403 rfl
set_option maxRecDepth 100000 in
theorem bw404 : Cond.lays "java/lang/Throwable" "java/lang/Throwable" "backtrace" "Ljava/lang/Object;" ∈ BIG := bg 404 rfl
set_option maxRecDepth 100000 in
theorem bw405 : Cond.fieldLink "java/lang/Throwable" 198 "java/lang/Throwable" "backtrace" "Ljava/lang/Object;" ∈ BIG := bg 405 rfl
set_option maxRecDepth 100000 in
theorem bw406 : Cond.instanceMethod ⟨"java/lang/Throwable", "<init>", "()V"⟩ ∈ BIG := bg 406 rfl
set_option maxRecDepth 100000 in
theorem bw407 : Cond.code ⟨"java/lang/Throwable", "<init>", "()V"⟩ prog_19_method_1_code 1 none ∈ BIG := bg 407 rfl
set_option maxRecDepth 100000 in
theorem bw408 : Cond.methodLink "java/lang/Throwable" 1 objectInit ∈ BIG := bg 408 rfl
set_option maxRecDepth 100000 in
theorem bw409 : Cond.fieldLink "java/lang/Throwable" 13 "java/lang/Throwable" "UNASSIGNED_STACK" "[Ljava/lang/StackTraceElement;" ∈ BIG := bg 409 rfl
set_option maxRecDepth 100000 in
theorem bw410 : Cond.fieldLink "java/lang/Throwable" 20 "java/lang/Throwable" "SUPPRESSED_SENTINEL" "Ljava/util/List;" ∈ BIG := bg 410 rfl
set_option maxRecDepth 100000 in
theorem bw411 : Cond.methodLink "java/lang/Throwable" 27 ⟨"java/lang/Throwable", "fillInStackTrace", "()Ljava/lang/Throwable;"⟩ ∈ BIG := bg 411 rfl
set_option maxRecDepth 100000 in
theorem bw412 : Cond.instanceMethod ⟨"java/lang/Throwable", "fillInStackTrace", "()Ljava/lang/Throwable;"⟩ ∈ BIG := bg 412 rfl
set_option maxRecDepth 100000 in
theorem bw413 : Cond.selects "java/lang/ArithmeticException" ⟨"java/lang/Throwable", "fillInStackTrace", "()Ljava/lang/Throwable;"⟩ ⟨"java/lang/Throwable", "fillInStackTrace", "()Ljava/lang/Throwable;"⟩ ∈ BIG := bg 413 rfl
set_option maxRecDepth 100000 in
theorem bw414 : Cond.selects "java/lang/IllegalStateException" ⟨"java/lang/Throwable", "fillInStackTrace", "()Ljava/lang/Throwable;"⟩ ⟨"java/lang/Throwable", "fillInStackTrace", "()Ljava/lang/Throwable;"⟩ ∈ BIG := bg 414 rfl
set_option maxRecDepth 100000 in
theorem bw415 : Cond.selects "java/lang/IndexOutOfBoundsException" ⟨"java/lang/Throwable", "fillInStackTrace", "()Ljava/lang/Throwable;"⟩ ⟨"java/lang/Throwable", "fillInStackTrace", "()Ljava/lang/Throwable;"⟩ ∈ BIG := bg 415 rfl
set_option maxRecDepth 100000 in
theorem bw416 : Cond.methodLink "java/lang/Throwable" 202 ⟨"java/lang/Throwable", "fillInStackTrace", "(I)Ljava/lang/Throwable;"⟩ ∈ BIG := bg 416 rfl
set_option maxRecDepth 100000 in
theorem bw417 : Cond.instanceMethod ⟨"java/lang/Throwable", "fillInStackTrace", "(I)Ljava/lang/Throwable;"⟩ ∈ BIG := bg 417 rfl
set_option maxRecDepth 100000 in
theorem bw418 : Cond.instantiable "java/lang/Throwable" 6 ∈ BIG := bg 418 rfl
set_option maxRecDepth 100000 in
theorem bw419 : Cond.native ⟨"java/lang/Throwable", "fillInStackTrace", "(I)Ljava/lang/Throwable;"⟩ ∈ BIG := bg 419 rfl
set_option maxRecDepth 100000 in
theorem bw420 : Cond.methodLink "ConeForge" 69 ⟨"java/lang/IllegalArgumentException", "<init>", "(Ljava/lang/String;)V"⟩ ∈ BIG := bg 420 rfl
set_option maxRecDepth 100000 in
theorem bw421 : Cond.instanceMethod ⟨"java/lang/IllegalArgumentException", "<init>", "(Ljava/lang/String;)V"⟩ ∈ BIG := bg 421 rfl
set_option maxRecDepth 100000 in
theorem bw422 : Cond.code ⟨"java/lang/IllegalArgumentException", "<init>", "(Ljava/lang/String;)V"⟩ prog_13_method_2_code 2 none ∈ BIG := bg 422 rfl
set_option maxRecDepth 100000 in
theorem bw423 : Cond.methodLink "java/lang/IllegalArgumentException" 7 ⟨"java/lang/RuntimeException", "<init>", "(Ljava/lang/String;)V"⟩ ∈ BIG := bg 423 rfl
set_option maxRecDepth 100000 in
theorem bw424 : Cond.instanceMethod ⟨"java/lang/RuntimeException", "<init>", "(Ljava/lang/String;)V"⟩ ∈ BIG := bg 424 rfl
set_option maxRecDepth 100000 in
theorem bw425 : Cond.code ⟨"java/lang/RuntimeException", "<init>", "(Ljava/lang/String;)V"⟩ prog_16_method_2_code 2 none ∈ BIG := bg 425 rfl
set_option maxRecDepth 100000 in
theorem bw426 : Cond.methodLink "java/lang/RuntimeException" 7 ⟨"java/lang/Exception", "<init>", "(Ljava/lang/String;)V"⟩ ∈ BIG := bg 426 rfl
set_option maxRecDepth 100000 in
theorem bw427 : Cond.instanceMethod ⟨"java/lang/Exception", "<init>", "(Ljava/lang/String;)V"⟩ ∈ BIG := bg 427 rfl
set_option maxRecDepth 100000 in
theorem bw428 : Cond.code ⟨"java/lang/Exception", "<init>", "(Ljava/lang/String;)V"⟩ prog_12_method_2_code 2 none ∈ BIG := bg 428 rfl
set_option maxRecDepth 100000 in
theorem bw429 : Cond.methodLink "java/lang/Exception" 7 ⟨"java/lang/Throwable", "<init>", "(Ljava/lang/String;)V"⟩ ∈ BIG := bg 429 rfl
set_option maxRecDepth 100000 in
theorem bw430 : Cond.instanceMethod ⟨"java/lang/Throwable", "<init>", "(Ljava/lang/String;)V"⟩ ∈ BIG := bg 430 rfl
set_option maxRecDepth 100000 in
theorem bw431 : Cond.code ⟨"java/lang/Throwable", "<init>", "(Ljava/lang/String;)V"⟩ prog_19_method_2_code 2 none ∈ BIG := bg 431 rfl
set_option maxRecDepth 100000 in
theorem bw432 : Cond.fieldLink "java/lang/Throwable" 31 "java/lang/Throwable" "detailMessage" "Ljava/lang/String;" ∈ BIG := bg 432 rfl
set_option maxRecDepth 100000 in
theorem bw433 : Cond.fieldLink "java/lang/Throwable" 7 "java/lang/Throwable" "cause" "Ljava/lang/Throwable;" ∈ BIG := bg 433 rfl
set_option maxRecDepth 100000 in
theorem bw434 : Cond.fieldLink "java/lang/Throwable" 17 "java/lang/Throwable" "stackTrace" "[Ljava/lang/StackTraceElement;" ∈ BIG := bg 434 rfl
set_option maxRecDepth 100000 in
theorem bw435 : Cond.fieldLink "java/lang/Throwable" 24 "java/lang/Throwable" "suppressedExceptions" "Ljava/util/List;" ∈ BIG := bg 435 rfl
set_option maxRecDepth 100000 in
theorem bw436 : Cond.lays "java/lang/IllegalArgumentException" "java/lang/Throwable" "depth" "I" ∈ BIG := bg 436 rfl
set_option maxRecDepth 100000 in
theorem bw437 : Cond.arrayClass .byte ∈ BIG := bg 437 rfl
set_option maxRecDepth 100000 in
theorem bw438 : Cond.methodLink "ConeForgeLaw" 70 ⟨"ConeForgeLaw", "set", "(LConeForge;IIID[D)I"⟩ ∈ BIG := bg 438 rfl
set_option maxRecDepth 100000 in
theorem bw439 : Cond.static ⟨"ConeForgeLaw", "set", "(LConeForge;IIID[D)I"⟩ ∈ BIG := bg 439 rfl
set_option maxRecDepth 100000 in
theorem bw440 : Cond.classLink "ConeForgeLaw" 19 "java/lang/IndexOutOfBoundsException" ∈ BIG := bg 440 rfl
set_option maxRecDepth 100000 in
theorem bw441 : Cond.methodLink "ConeForgeLaw" 15 y_C_set ∈ BIG := bg 441 rfl
set_option maxRecDepth 100000 in
theorem bw442 : Cond.instanceMethod y_C_set ∈ BIG := bg 442 rfl
set_option maxRecDepth 100000 in
theorem bw443 : Cond.selects "ConeForge" y_C_set y_C_set ∈ BIG := bg 443 rfl
set_option maxRecDepth 100000 in
theorem bw444 : Cond.code y_C_set prog_1_method_3_code 6 (some .double) ∈ BIG := bg 444 rfl
set_option maxRecDepth 100000 in
theorem bw445 : Cond.methodLink "ConeForge" 78 y_C_isAllowed ∈ BIG := bg 445 rfl
set_option maxRecDepth 100000 in
theorem bw446 : Cond.static y_C_isAllowed ∈ BIG := bg 446 rfl
set_option maxRecDepth 100000 in
theorem bw447 : Cond.code y_C_isAllowed prog_1_method_24_code 2 (some .boolean) ∈ BIG := bg 447 rfl
set_option maxRecDepth 100000 in
theorem bw448 : Cond.constantDouble "ConeForge" 270 13875379345695965184 ∈ BIG := bg 448 rfl
set_option maxRecDepth 100000 in
theorem bw449 : Cond.constantDouble "ConeForge" 272 4652007308841189376 ∈ BIG := bg 449 rfl
set_option maxRecDepth 100000 in
theorem bw450 : Cond.constantDouble "ConeForge" 274 4517329193108106637 ∈ BIG := bg 450 rfl
set_option maxRecDepth 100000 in
theorem bw451 : Cond.methodLink "ConeForge" 87 y_C_requireIndex ∈ BIG := bg 451 rfl
set_option maxRecDepth 100000 in
theorem bw452 : Cond.static y_C_requireIndex ∈ BIG := bg 452 rfl
set_option maxRecDepth 100000 in
theorem bw453 : Cond.code y_C_requireIndex prog_1_method_17_code 2 none ∈ BIG := bg 453 rfl
set_option maxRecDepth 100000 in
theorem bw454 : Cond.classLink "ConeForge" 231 "java/lang/IndexOutOfBoundsException" ∈ BIG := bg 454 rfl
set_option maxRecDepth 100000 in
theorem bw455 : Cond.instantiable "java/lang/IndexOutOfBoundsException" 6 ∈ BIG := bg 455 rfl
set_option maxRecDepth 100000 in
theorem bw456 : Cond.selects "java/lang/IndexOutOfBoundsException" ⟨"java/lang/Throwable", "fillInStackTrace", "(I)Ljava/lang/Throwable;"⟩ ⟨"java/lang/Throwable", "fillInStackTrace", "(I)Ljava/lang/Throwable;"⟩ ∈ BIG := bg 456 rfl
set_option maxRecDepth 100000 in
theorem bw457 : Cond.lays "java/lang/IndexOutOfBoundsException" "java/lang/Throwable" "cause" "Ljava/lang/Throwable;" ∈ BIG := bg 457 rfl
set_option maxRecDepth 100000 in
theorem bw458 : Cond.lays "java/lang/IndexOutOfBoundsException" "java/lang/Throwable" "stackTrace" "[Ljava/lang/StackTraceElement;" ∈ BIG := bg 458 rfl
set_option maxRecDepth 100000 in
theorem bw459 : Cond.lays "java/lang/IndexOutOfBoundsException" "java/lang/Throwable" "suppressedExceptions" "Ljava/util/List;" ∈ BIG := bg 459 rfl
set_option maxRecDepth 100000 in
theorem bw460 : Cond.lays "java/lang/IndexOutOfBoundsException" "java/lang/Throwable" "detailMessage" "Ljava/lang/String;" ∈ BIG := bg 460 rfl
set_option maxRecDepth 100000 in
theorem bw461 : Cond.lays "java/lang/IndexOutOfBoundsException" "java/lang/Throwable" "backtrace" "Ljava/lang/Object;" ∈ BIG := bg 461 rfl
set_option maxRecDepth 100000 in
theorem bw462 : Cond.methodLink "ConeForge" 235 ⟨"java/lang/IndexOutOfBoundsException", "<init>", "(Ljava/lang/String;)V"⟩ ∈ BIG := bg 462 rfl
set_option maxRecDepth 100000 in
theorem bw463 : Cond.instanceMethod ⟨"java/lang/IndexOutOfBoundsException", "<init>", "(Ljava/lang/String;)V"⟩ ∈ BIG := bg 463 rfl
set_option maxRecDepth 100000 in
theorem bw464 : Cond.code ⟨"java/lang/IndexOutOfBoundsException", "<init>", "(Ljava/lang/String;)V"⟩ prog_15_method_2_code 2 none ∈ BIG := bg 464 rfl
set_option maxRecDepth 100000 in
theorem bw465 : Cond.methodLink "java/lang/IndexOutOfBoundsException" 7 ⟨"java/lang/RuntimeException", "<init>", "(Ljava/lang/String;)V"⟩ ∈ BIG := bg 465 rfl
set_option maxRecDepth 100000 in
theorem bw466 : Cond.lays "java/lang/IndexOutOfBoundsException" "java/lang/Throwable" "depth" "I" ∈ BIG := bg 466 rfl
set_option maxRecDepth 100000 in
theorem bw467 : Cond.methodLink "ConeForge" 97 y_C_exchange ∈ BIG := bg 467 rfl
set_option maxRecDepth 100000 in
theorem bw468 : Cond.static y_C_exchange ∈ BIG := bg 468 rfl
set_option maxRecDepth 100000 in
theorem bw469 : Cond.code y_C_exchange prog_1_method_25_code 6 (some .double) ∈ BIG := bg 469 rfl
set_option maxRecDepth 100000 in
theorem bw470 : Cond.methodLink "ConeForgeLaw" 81 ⟨"ConeForgeLaw", "text", "(LConeForge;J[J)I"⟩ ∈ BIG := bg 470 rfl
set_option maxRecDepth 100000 in
theorem bw471 : Cond.static ⟨"ConeForgeLaw", "text", "(LConeForge;J[J)I"⟩ ∈ BIG := bg 471 rfl
set_option maxRecDepth 100000 in
theorem bw472 : Cond.classLink "ConeForgeLaw" 25 "java/lang/IllegalStateException" ∈ BIG := bg 472 rfl
set_option maxRecDepth 100000 in
theorem bw473 : Cond.methodLink "ConeForgeLaw" 21 y_C_text ∈ BIG := bg 473 rfl
set_option maxRecDepth 100000 in
theorem bw474 : Cond.instanceMethod y_C_text ∈ BIG := bg 474 rfl
set_option maxRecDepth 100000 in
theorem bw475 : Cond.selects "ConeForge" y_C_text y_C_text ∈ BIG := bg 475 rfl
set_option maxRecDepth 100000 in
theorem bw476 : Cond.code y_C_text prog_1_method_5_code 3 (some .int) ∈ BIG := bg 476 rfl
set_option maxRecDepth 100000 in
theorem bw477 : Cond.static y_Tr_isReadable ∈ BIG := bg 477 rfl
set_option maxRecDepth 100000 in
theorem bw478 : Cond.code y_Tr_isReadable prog_8_method_3_code 4 (some .boolean) ∈ BIG := bg 478 rfl
set_option maxRecDepth 100000 in
theorem bw479 : Cond.methodLink "ConeForge$TextReader" 47 y_Tr_byteOf ∈ BIG := bg 479 rfl
set_option maxRecDepth 100000 in
theorem bw480 : Cond.static y_Tr_byteOf ∈ BIG := bg 480 rfl
set_option maxRecDepth 100000 in
theorem bw481 : Cond.code y_Tr_byteOf prog_8_method_2_code 3 (some .int) ∈ BIG := bg 481 rfl
set_option maxRecDepth 100000 in
theorem bw482 : Cond.constantLong "ConeForge$TextReader" 45 255 ∈ BIG := bg 482 rfl
set_option maxRecDepth 100000 in
theorem bw483 : Cond.instanceMethod y_Tr_append ∈ BIG := bg 483 rfl
set_option maxRecDepth 100000 in
theorem bw484 : Cond.code y_Tr_append prog_8_method_5_code 5 (some .boolean) ∈ BIG := bg 484 rfl
set_option maxRecDepth 100000 in
theorem bw485 : Cond.methodLink "ConeForge$TextReader" 51 y_Tr_charactersOf ∈ BIG := bg 485 rfl
set_option maxRecDepth 100000 in
theorem bw486 : Cond.static y_Tr_charactersOf ∈ BIG := bg 486 rfl
set_option maxRecDepth 100000 in
theorem bw487 : Cond.code y_Tr_charactersOf prog_8_method_4_code 4 (some .int) ∈ BIG := bg 487 rfl
set_option maxRecDepth 100000 in
theorem bw488 : Cond.classLink "ConeForge" 117 "java/lang/IllegalStateException" ∈ BIG := bg 488 rfl
set_option maxRecDepth 100000 in
theorem bw489 : Cond.instantiable "java/lang/IllegalStateException" 6 ∈ BIG := bg 489 rfl
set_option maxRecDepth 100000 in
theorem bw490 : Cond.selects "java/lang/IllegalStateException" ⟨"java/lang/Throwable", "fillInStackTrace", "(I)Ljava/lang/Throwable;"⟩ ⟨"java/lang/Throwable", "fillInStackTrace", "(I)Ljava/lang/Throwable;"⟩ ∈ BIG := bg 490 rfl
set_option maxRecDepth 100000 in
theorem bw491 : Cond.lays "java/lang/IllegalStateException" "java/lang/Throwable" "cause" "Ljava/lang/Throwable;" ∈ BIG := bg 491 rfl
set_option maxRecDepth 100000 in
theorem bw492 : Cond.lays "java/lang/IllegalStateException" "java/lang/Throwable" "stackTrace" "[Ljava/lang/StackTraceElement;" ∈ BIG := bg 492 rfl
set_option maxRecDepth 100000 in
theorem bw493 : Cond.lays "java/lang/IllegalStateException" "java/lang/Throwable" "suppressedExceptions" "Ljava/util/List;" ∈ BIG := bg 493 rfl
set_option maxRecDepth 100000 in
theorem bw494 : Cond.lays "java/lang/IllegalStateException" "java/lang/Throwable" "detailMessage" "Ljava/lang/String;" ∈ BIG := bg 494 rfl
set_option maxRecDepth 100000 in
theorem bw495 : Cond.lays "java/lang/IllegalStateException" "java/lang/Throwable" "backtrace" "Ljava/lang/Object;" ∈ BIG := bg 495 rfl
set_option maxRecDepth 100000 in
theorem bw496 : Cond.methodLink "ConeForge" 121 ⟨"java/lang/IllegalStateException", "<init>", "(Ljava/lang/String;)V"⟩ ∈ BIG := bg 496 rfl
set_option maxRecDepth 100000 in
theorem bw497 : Cond.instanceMethod ⟨"java/lang/IllegalStateException", "<init>", "(Ljava/lang/String;)V"⟩ ∈ BIG := bg 497 rfl
set_option maxRecDepth 100000 in
theorem bw498 : Cond.code ⟨"java/lang/IllegalStateException", "<init>", "(Ljava/lang/String;)V"⟩ prog_14_method_2_code 2 none ∈ BIG := bg 498 rfl
set_option maxRecDepth 100000 in
theorem bw499 : Cond.methodLink "java/lang/IllegalStateException" 7 ⟨"java/lang/RuntimeException", "<init>", "(Ljava/lang/String;)V"⟩ ∈ BIG := bg 499 rfl
set_option maxRecDepth 100000 in
theorem bw500 : Cond.lays "java/lang/IllegalStateException" "java/lang/Throwable" "depth" "I" ∈ BIG := bg 500 rfl
set_option maxRecDepth 100000 in
theorem bw501 : Cond.methodLink "ConeForgeLaw" 85 ⟨"ConeForgeLaw", "read", "(LConeForge;[J)I"⟩ ∈ BIG := bg 501 rfl
set_option maxRecDepth 100000 in
theorem bw502 : Cond.static ⟨"ConeForgeLaw", "read", "(LConeForge;[J)I"⟩ ∈ BIG := bg 502 rfl
set_option maxRecDepth 100000 in
theorem bw503 : Cond.methodLink "ConeForgeLaw" 27 y_C_read ∈ BIG := bg 503 rfl
set_option maxRecDepth 100000 in
theorem bw504 : Cond.instanceMethod y_C_read ∈ BIG := bg 504 rfl
set_option maxRecDepth 100000 in
theorem bw505 : Cond.selects "ConeForge" y_C_read y_C_read ∈ BIG := bg 505 rfl
set_option maxRecDepth 100000 in
theorem bw506 : Cond.code y_C_read prog_1_method_6_code 1 (some .int) ∈ BIG := bg 506 rfl
set_option maxRecDepth 100000 in
theorem bw507 : Cond.instanceMethod y_Tr_parse ∈ BIG := bg 507 rfl
set_option maxRecDepth 100000 in
theorem bw508 : Cond.code y_Tr_parse prog_8_method_6_code 1 (some .boolean) ∈ BIG := bg 508 rfl
set_option maxRecDepth 100000 in
theorem bw509 : Cond.methodLink "ConeForge$TextReader" 55 y_Tr_parseSize ∈ BIG := bg 509 rfl
set_option maxRecDepth 100000 in
theorem bw510 : Cond.instanceMethod y_Tr_parseSize ∈ BIG := bg 510 rfl
set_option maxRecDepth 100000 in
theorem bw511 : Cond.code y_Tr_parseSize prog_8_method_7_code 2 (some .boolean) ∈ BIG := bg 511 rfl
set_option maxRecDepth 100000 in
theorem bw512 : Cond.methodLink "ConeForge$TextReader" 79 y_Tr_parseWhole ∈ BIG := bg 512 rfl
set_option maxRecDepth 100000 in
theorem bw513 : Cond.instanceMethod y_Tr_parseWhole ∈ BIG := bg 513 rfl
set_option maxRecDepth 100000 in
theorem bw514 : Cond.code y_Tr_parseWhole prog_8_method_10_code 2 (some .boolean) ∈ BIG := bg 514 rfl
set_option maxRecDepth 100000 in
theorem bw515 : Cond.methodLink "ConeForge$TextReader" 97 y_Tr_parseNumber ∈ BIG := bg 515 rfl
set_option maxRecDepth 100000 in
theorem bw516 : Cond.instanceMethod y_Tr_parseNumber ∈ BIG := bg 516 rfl
set_option maxRecDepth 100000 in
theorem bw517 : Cond.code y_Tr_parseNumber prog_8_method_12_code 7 (some .boolean) ∈ BIG := bg 517 rfl
set_option maxRecDepth 100000 in
theorem bw518 : Cond.methodLink "ConeForge$TextReader" 90 y_Tr_reachNumber ∈ BIG := bg 518 rfl
set_option maxRecDepth 100000 in
theorem bw519 : Cond.instanceMethod y_Tr_reachNumber ∈ BIG := bg 519 rfl
set_option maxRecDepth 100000 in
theorem bw520 : Cond.code y_Tr_reachNumber prog_8_method_13_code 3 (some .boolean) ∈ BIG := bg 520 rfl
set_option maxRecDepth 100000 in
theorem bw521 : Cond.methodLink "ConeForge$TextReader" 122 y_Tr_beginsLine ∈ BIG := bg 521 rfl
set_option maxRecDepth 100000 in
theorem bw522 : Cond.instanceMethod y_Tr_beginsLine ∈ BIG := bg 522 rfl
set_option maxRecDepth 100000 in
theorem bw523 : Cond.code y_Tr_beginsLine prog_8_method_14_code 1 (some .boolean) ∈ BIG := bg 523 rfl
set_option maxRecDepth 100000 in
theorem bw524 : Cond.methodLink "ConeForge$TextReader" 108 y_Tr_skip ∈ BIG := bg 524 rfl
set_option maxRecDepth 100000 in
theorem bw525 : Cond.instanceMethod y_Tr_skip ∈ BIG := bg 525 rfl
set_option maxRecDepth 100000 in
theorem bw526 : Cond.code y_Tr_skip prog_8_method_15_code 2 (some .boolean) ∈ BIG := bg 526 rfl
set_option maxRecDepth 100000 in
theorem bw527 : Cond.methodLink "ConeForge$TextReader" 112 y_Tr_takeDigits ∈ BIG := bg 527 rfl
set_option maxRecDepth 100000 in
theorem bw528 : Cond.instanceMethod y_Tr_takeDigits ∈ BIG := bg 528 rfl
set_option maxRecDepth 100000 in
theorem bw529 : Cond.code y_Tr_takeDigits prog_8_method_16_code 3 (some .int) ∈ BIG := bg 529 rfl
set_option maxRecDepth 100000 in
theorem bw530 : Cond.methodLink "ConeForge$TextReader" 101 y_Tr_failAt ∈ BIG := bg 530 rfl
set_option maxRecDepth 100000 in
theorem bw531 : Cond.instanceMethod y_Tr_failAt ∈ BIG := bg 531 rfl
set_option maxRecDepth 100000 in
theorem bw532 : Cond.code y_Tr_failAt prog_8_method_17_code 2 (some .boolean) ∈ BIG := bg 532 rfl
set_option maxRecDepth 100000 in
theorem bw533 : Cond.constantDouble "ConeForge$TextReader" 116 4621819117588971520 ∈ BIG := bg 533 rfl
set_option maxRecDepth 100000 in
theorem bw534 : Cond.constantDouble "ConeForge$TextReader" 118 4636737291354636288 ∈ BIG := bg 534 rfl
set_option maxRecDepth 100000 in
theorem bw535 : Cond.constantDouble "ConeForge$TextReader" 120 4652007308841189376 ∈ BIG := bg 535 rfl
set_option maxRecDepth 100000 in
theorem bw536 : Cond.methodLink "ConeForge$TextReader" 66 y_Tr_parseList ∈ BIG := bg 536 rfl
set_option maxRecDepth 100000 in
theorem bw537 : Cond.instanceMethod y_Tr_parseList ∈ BIG := bg 537 rfl
set_option maxRecDepth 100000 in
theorem bw538 : Cond.code y_Tr_parseList prog_8_method_8_code 4 (some .boolean) ∈ BIG := bg 538 rfl
set_option maxRecDepth 100000 in
theorem bw539 : Cond.methodLink "ConeForge$TextReader" 87 y_Tr_parseValue ∈ BIG := bg 539 rfl
set_option maxRecDepth 100000 in
theorem bw540 : Cond.instanceMethod y_Tr_parseValue ∈ BIG := bg 540 rfl
set_option maxRecDepth 100000 in
theorem bw541 : Cond.code y_Tr_parseValue prog_8_method_11_code 1 (some .boolean) ∈ BIG := bg 541 rfl
set_option maxRecDepth 100000 in
theorem bw542 : Cond.methodLink "ConeForge$TextReader" 76 y_Tr_parseEntries ∈ BIG := bg 542 rfl
set_option maxRecDepth 100000 in
theorem bw543 : Cond.instanceMethod y_Tr_parseEntries ∈ BIG := bg 543 rfl
set_option maxRecDepth 100000 in
theorem bw544 : Cond.code y_Tr_parseEntries prog_8_method_9_code 4 (some .boolean) ∈ BIG := bg 544 rfl
set_option maxRecDepth 100000 in
theorem bw545 : Cond.instanceMethod y_Pb_copy ∈ BIG := bg 545 rfl
set_option maxRecDepth 100000 in
theorem bw546 : Cond.code y_Pb_copy prog_5_method_3_code 3 none ∈ BIG := bg 546 rfl
set_option maxRecDepth 100000 in
theorem bw547 : Cond.methodLink "ConeForge$Problem" 36 arraycopyName ∈ BIG := bg 547 rfl
set_option maxRecDepth 100000 in
theorem bw548 : Cond.static arraycopyName ∈ BIG := bg 548 rfl
set_option maxRecDepth 100000 in
theorem bw549 : Cond.native arraycopyName ∈ BIG := bg 549 rfl
set_option maxRecDepth 100000 in
theorem bw550 : Cond.methodLink "ConeForgeLaw" 93 ⟨"ConeForgeLaw", "interior", "(LConeForge;I[J)I"⟩ ∈ BIG := bg 550 rfl
set_option maxRecDepth 100000 in
theorem bw551 : Cond.static ⟨"ConeForgeLaw", "interior", "(LConeForge;I[J)I"⟩ ∈ BIG := bg 551 rfl
set_option maxRecDepth 100000 in
theorem bw552 : Cond.classLink "ConeForgeLaw" 35 "java/lang/ArithmeticException" ∈ BIG := bg 552 rfl
set_option maxRecDepth 100000 in
theorem bw553 : Cond.methodLink "ConeForgeLaw" 31 y_C_interior ∈ BIG := bg 553 rfl
set_option maxRecDepth 100000 in
theorem bw554 : Cond.instanceMethod y_C_interior ∈ BIG := bg 554 rfl
set_option maxRecDepth 100000 in
theorem bw555 : Cond.selects "ConeForge" y_C_interior y_C_interior ∈ BIG := bg 555 rfl
set_option maxRecDepth 100000 in
theorem bw556 : Cond.code y_C_interior prog_1_method_8_code 3 (some .int) ∈ BIG := bg 556 rfl
set_option maxRecDepth 100000 in
theorem bw557 : Cond.instanceMethod y_Im_solve ∈ BIG := bg 557 rfl
set_option maxRecDepth 100000 in
theorem bw558 : Cond.code y_Im_solve prog_3_method_2_code 3 (some .int) ∈ BIG := bg 558 rfl
set_option maxRecDepth 100000 in
theorem bw559 : Cond.methodLink "ConeForge$InteriorMethod" 69 y_Im_measure ∈ BIG := bg 559 rfl
set_option maxRecDepth 100000 in
theorem bw560 : Cond.instanceMethod y_Im_measure ∈ BIG := bg 560 rfl
set_option maxRecDepth 100000 in
theorem bw561 : Cond.code y_Im_measure prog_3_method_3_code 2 none ∈ BIG := bg 561 rfl
set_option maxRecDepth 100000 in
theorem bw562 : Cond.instanceMethod y_Pb_lessRow ∈ BIG := bg 562 rfl
set_option maxRecDepth 100000 in
theorem bw563 : Cond.code y_Pb_lessRow prog_5_method_6_code 8 (some .double) ∈ BIG := bg 563 rfl
set_option maxRecDepth 100000 in
theorem bw564 : Cond.instanceMethod y_Pt_complementarity ∈ BIG := bg 564 rfl
set_option maxRecDepth 100000 in
theorem bw565 : Cond.code y_Pt_complementarity prog_4_method_3_code 2 (some .double) ∈ BIG := bg 565 rfl
set_option maxRecDepth 100000 in
theorem bw566 : Cond.static y_Pb_product ∈ BIG := bg 566 rfl
set_option maxRecDepth 100000 in
theorem bw567 : Cond.code y_Pb_product prog_5_method_11_code 6 (some .double) ∈ BIG := bg 567 rfl
set_option maxRecDepth 100000 in
theorem bw568 : Cond.methodLink "ConeForge$InteriorMethod" 72 y_Im_isSolved ∈ BIG := bg 568 rfl
set_option maxRecDepth 100000 in
theorem bw569 : Cond.instanceMethod y_Im_isSolved ∈ BIG := bg 569 rfl
set_option maxRecDepth 100000 in
theorem bw570 : Cond.code y_Im_isSolved prog_3_method_4_code 5 (some .boolean) ∈ BIG := bg 570 rfl
set_option maxRecDepth 100000 in
theorem bw571 : Cond.instanceMethod y_Pb_costOf ∈ BIG := bg 571 rfl
set_option maxRecDepth 100000 in
theorem bw572 : Cond.code y_Pb_costOf prog_5_method_9_code 2 (some .double) ∈ BIG := bg 572 rfl
set_option maxRecDepth 100000 in
theorem bw573 : Cond.methodLink "ConeForge$Problem" 42 y_Pb_product ∈ BIG := bg 573 rfl
set_option maxRecDepth 100000 in
theorem bw574 : Cond.constantDouble "ConeForge$InteriorMethod" 129 4487126258331716666 ∈ BIG := bg 574 rfl
set_option maxRecDepth 100000 in
theorem bw575 : Cond.methodLink "ConeForge$InteriorMethod" 76 y_Im_isLost ∈ BIG := bg 575 rfl
set_option maxRecDepth 100000 in
theorem bw576 : Cond.instanceMethod y_Im_isLost ∈ BIG := bg 576 rfl
set_option maxRecDepth 100000 in
theorem bw577 : Cond.code y_Im_isLost prog_3_method_5_code 2 (some .boolean) ∈ BIG := bg 577 rfl
set_option maxRecDepth 100000 in
theorem bw578 : Cond.methodLink "ConeForge$InteriorMethod" 131 y_Im_isOutside ∈ BIG := bg 578 rfl
set_option maxRecDepth 100000 in
theorem bw579 : Cond.static y_Im_isOutside ∈ BIG := bg 579 rfl
set_option maxRecDepth 100000 in
theorem bw580 : Cond.code y_Im_isOutside prog_3_method_6_code 2 (some .boolean) ∈ BIG := bg 580 rfl
set_option maxRecDepth 100000 in
theorem bw581 : Cond.constantDouble "ConeForge$InteriorMethod" 135 4741671816366391296 ∈ BIG := bg 581 rfl
set_option maxRecDepth 100000 in
theorem bw582 : Cond.constantDouble "ConeForge$InteriorMethod" 137 4427486594234968593 ∈ BIG := bg 582 rfl
set_option maxRecDepth 100000 in
theorem bw583 : Cond.methodLink "ConeForge$InteriorMethod" 79 y_Im_findStep ∈ BIG := bg 583 rfl
set_option maxRecDepth 100000 in
theorem bw584 : Cond.instanceMethod y_Im_findStep ∈ BIG := bg 584 rfl
set_option maxRecDepth 100000 in
theorem bw585 : Cond.code y_Im_findStep prog_3_method_7_code 4 (some .boolean) ∈ BIG := bg 585 rfl
set_option maxRecDepth 100000 in
theorem bw586 : Cond.constantDouble "ConeForge$InteriorMethod" 139 4591870180066957722 ∈ BIG := bg 586 rfl
set_option maxRecDepth 100000 in
theorem bw587 : Cond.instanceMethod y_Pb_plusRow ∈ BIG := bg 587 rfl
set_option maxRecDepth 100000 in
theorem bw588 : Cond.code y_Pb_plusRow prog_5_method_5_code 8 (some .double) ∈ BIG := bg 588 rfl
set_option maxRecDepth 100000 in
theorem bw589 : Cond.instanceMethod y_Fm_gather ∈ BIG := bg 589 rfl
set_option maxRecDepth 100000 in
theorem bw590 : Cond.code y_Fm_gather prog_2_method_2_code 8 none ∈ BIG := bg 590 rfl
set_option maxRecDepth 100000 in
theorem bw591 : Cond.instanceMethod y_Fm_factor ∈ BIG := bg 591 rfl
set_option maxRecDepth 100000 in
theorem bw592 : Cond.code y_Fm_factor prog_2_method_3_code 4 (some .boolean) ∈ BIG := bg 592 rfl
set_option maxRecDepth 100000 in
theorem bw593 : Cond.methodLink "ConeForge$FactoredMatrix" 38 y_Fm_reduced ∈ BIG := bg 593 rfl
set_option maxRecDepth 100000 in
theorem bw594 : Cond.instanceMethod y_Fm_reduced ∈ BIG := bg 594 rfl
set_option maxRecDepth 100000 in
theorem bw595 : Cond.code y_Fm_reduced prog_2_method_4_code 6 (some .double) ∈ BIG := bg 595 rfl
set_option maxRecDepth 100000 in
theorem bw596 : Cond.constantDouble "ConeForge$FactoredMatrix" 42 4412443251819771522 ∈ BIG := bg 596 rfl
set_option maxRecDepth 100000 in
theorem bw597 : Cond.instanceMethod y_Fm_solve ∈ BIG := bg 597 rfl
set_option maxRecDepth 100000 in
theorem bw598 : Cond.code y_Fm_solve prog_2_method_5_code 8 none ∈ BIG := bg 598 rfl
set_option maxRecDepth 100000 in
theorem bw599 : Cond.methodLink "ConeForge$InteriorMethod" 82 y_Im_goStep ∈ BIG := bg 599 rfl
set_option maxRecDepth 100000 in
theorem bw600 : Cond.instanceMethod y_Im_goStep ∈ BIG := bg 600 rfl
set_option maxRecDepth 100000 in
theorem bw601 : Cond.code y_Im_goStep prog_3_method_8_code 6 none ∈ BIG := bg 601 rfl
set_option maxRecDepth 100000 in
theorem bw602 : Cond.methodLink "ConeForge$InteriorMethod" 156 y_Im_longest ∈ BIG := bg 602 rfl
set_option maxRecDepth 100000 in
theorem bw603 : Cond.instanceMethod y_Im_longest ∈ BIG := bg 603 rfl
set_option maxRecDepth 100000 in
theorem bw604 : Cond.code y_Im_longest prog_3_method_9_code 8 (some .double) ∈ BIG := bg 604 rfl
set_option maxRecDepth 100000 in
theorem bw605 : Cond.constantDouble "ConeForge$InteriorMethod" 160 4607137382803743703 ∈ BIG := bg 605 rfl
set_option maxRecDepth 100000 in
theorem bw606 : Cond.classLink "ConeForge" 160 "java/lang/ArithmeticException" ∈ BIG := bg 606 rfl
set_option maxRecDepth 100000 in
theorem bw607 : Cond.instantiable "java/lang/ArithmeticException" 6 ∈ BIG := bg 607 rfl
set_option maxRecDepth 100000 in
theorem bw608 : Cond.selects "java/lang/ArithmeticException" ⟨"java/lang/Throwable", "fillInStackTrace", "(I)Ljava/lang/Throwable;"⟩ ⟨"java/lang/Throwable", "fillInStackTrace", "(I)Ljava/lang/Throwable;"⟩ ∈ BIG := bg 608 rfl
set_option maxRecDepth 100000 in
theorem bw609 : Cond.lays "java/lang/ArithmeticException" "java/lang/Throwable" "cause" "Ljava/lang/Throwable;" ∈ BIG := bg 609 rfl
set_option maxRecDepth 100000 in
theorem bw610 : Cond.lays "java/lang/ArithmeticException" "java/lang/Throwable" "stackTrace" "[Ljava/lang/StackTraceElement;" ∈ BIG := bg 610 rfl
set_option maxRecDepth 100000 in
theorem bw611 : Cond.lays "java/lang/ArithmeticException" "java/lang/Throwable" "suppressedExceptions" "Ljava/util/List;" ∈ BIG := bg 611 rfl
set_option maxRecDepth 100000 in
theorem bw612 : Cond.lays "java/lang/ArithmeticException" "java/lang/Throwable" "detailMessage" "Ljava/lang/String;" ∈ BIG := bg 612 rfl
set_option maxRecDepth 100000 in
theorem bw613 : Cond.lays "java/lang/ArithmeticException" "java/lang/Throwable" "backtrace" "Ljava/lang/Object;" ∈ BIG := bg 613 rfl
set_option maxRecDepth 100000 in
theorem bw614 : Cond.methodLink "ConeForge" 164 ⟨"java/lang/ArithmeticException", "<init>", "(Ljava/lang/String;)V"⟩ ∈ BIG := bg 614 rfl
set_option maxRecDepth 100000 in
theorem bw615 : Cond.instanceMethod ⟨"java/lang/ArithmeticException", "<init>", "(Ljava/lang/String;)V"⟩ ∈ BIG := bg 615 rfl
set_option maxRecDepth 100000 in
theorem bw616 : Cond.code ⟨"java/lang/ArithmeticException", "<init>", "(Ljava/lang/String;)V"⟩ prog_11_method_2_code 2 none ∈ BIG := bg 616 rfl
set_option maxRecDepth 100000 in
theorem bw617 : Cond.methodLink "java/lang/ArithmeticException" 7 ⟨"java/lang/RuntimeException", "<init>", "(Ljava/lang/String;)V"⟩ ∈ BIG := bg 617 rfl
set_option maxRecDepth 100000 in
theorem bw618 : Cond.lays "java/lang/ArithmeticException" "java/lang/Throwable" "depth" "I" ∈ BIG := bg 618 rfl
set_option maxRecDepth 100000 in
theorem bw619 : Cond.methodLink "ConeForgeLaw" 101 ⟨"ConeForgeLaw", "told", "(LConeForge;II[D)I"⟩ ∈ BIG := bg 619 rfl
set_option maxRecDepth 100000 in
theorem bw620 : Cond.static ⟨"ConeForgeLaw", "told", "(LConeForge;II[D)I"⟩ ∈ BIG := bg 620 rfl
set_option maxRecDepth 100000 in
theorem bw621 : Cond.methodLink "ConeForgeLaw" 37 y_C_told ∈ BIG := bg 621 rfl
set_option maxRecDepth 100000 in
theorem bw622 : Cond.instanceMethod y_C_told ∈ BIG := bg 622 rfl
set_option maxRecDepth 100000 in
theorem bw623 : Cond.selects "ConeForge" y_C_told y_C_told ∈ BIG := bg 623 rfl
set_option maxRecDepth 100000 in
theorem bw624 : Cond.code y_C_told prog_1_method_10_code 3 (some .double) ∈ BIG := bg 624 rfl
set_option maxRecDepth 100000 in
theorem bw625 : Cond.methodLink "ConeForge" 180 y_C_requireTold ∈ BIG := bg 625 rfl
set_option maxRecDepth 100000 in
theorem bw626 : Cond.instanceMethod y_C_requireTold ∈ BIG := bg 626 rfl
set_option maxRecDepth 100000 in
theorem bw627 : Cond.code y_C_requireTold prog_1_method_16_code 1 none ∈ BIG := bg 627 rfl
set_option maxRecDepth 100000 in
theorem bw628 : Cond.instanceMethod y_Pb_worthOf ∈ BIG := bg 628 rfl
set_option maxRecDepth 100000 in
theorem bw629 : Cond.code y_Pb_worthOf prog_5_method_10_code 2 (some .double) ∈ BIG := bg 629 rfl
set_option maxRecDepth 100000 in
theorem bw630 : Cond.methodLink "ConeForgeLaw" 109 ⟨"ConeForgeLaw", "gap", "(LConeForge;I[D)I"⟩ ∈ BIG := bg 630 rfl
set_option maxRecDepth 100000 in
theorem bw631 : Cond.static ⟨"ConeForgeLaw", "gap", "(LConeForge;I[D)I"⟩ ∈ BIG := bg 631 rfl
set_option maxRecDepth 100000 in
theorem bw632 : Cond.methodLink "ConeForgeLaw" 41 y_C_gap ∈ BIG := bg 632 rfl
set_option maxRecDepth 100000 in
theorem bw633 : Cond.instanceMethod y_C_gap ∈ BIG := bg 633 rfl
set_option maxRecDepth 100000 in
theorem bw634 : Cond.selects "ConeForge" y_C_gap y_C_gap ∈ BIG := bg 634 rfl
set_option maxRecDepth 100000 in
theorem bw635 : Cond.code y_C_gap prog_1_method_12_code 2 (some .double) ∈ BIG := bg 635 rfl
set_option maxRecDepth 100000 in
theorem bw636 : Cond.methodLink "ConeForge" 201 y_C_gapOf ∈ BIG := bg 636 rfl
set_option maxRecDepth 100000 in
theorem bw637 : Cond.instanceMethod y_C_gapOf ∈ BIG := bg 637 rfl
set_option maxRecDepth 100000 in
theorem bw638 : Cond.code y_C_gapOf prog_1_method_18_code 2 (some .double) ∈ BIG := bg 638 rfl
set_option maxRecDepth 100000 in
theorem bw639 : Cond.methodLink "ConeForge" 236 y_C_primalGap ∈ BIG := bg 639 rfl
set_option maxRecDepth 100000 in
theorem bw640 : Cond.instanceMethod y_C_primalGap ∈ BIG := bg 640 rfl
set_option maxRecDepth 100000 in
theorem bw641 : Cond.code y_C_primalGap prog_1_method_19_code 4 (some .double) ∈ BIG := bg 641 rfl
set_option maxRecDepth 100000 in
theorem bw642 : Cond.methodLink "ConeForge" 240 y_C_dualGap ∈ BIG := bg 642 rfl
set_option maxRecDepth 100000 in
theorem bw643 : Cond.instanceMethod y_C_dualGap ∈ BIG := bg 643 rfl
set_option maxRecDepth 100000 in
theorem bw644 : Cond.code y_C_dualGap prog_1_method_20_code 6 (some .double) ∈ BIG := bg 644 rfl
set_option maxRecDepth 100000 in
theorem bw645 : Cond.instanceMethod y_Pt_deepest ∈ BIG := bg 645 rfl
set_option maxRecDepth 100000 in
theorem bw646 : Cond.code y_Pt_deepest prog_4_method_4_code 5 (some .double) ∈ BIG := bg 646 rfl
set_option maxRecDepth 100000 in
theorem bw647 : Cond.methodLink "ConeForgeLaw" 113 ⟨"ConeForgeLaw", "certifies", "(LConeForge;ID[J)I"⟩ ∈ BIG := bg 647 rfl
set_option maxRecDepth 100000 in
theorem bw648 : Cond.static ⟨"ConeForgeLaw", "certifies", "(LConeForge;ID[J)I"⟩ ∈ BIG := bg 648 rfl
set_option maxRecDepth 100000 in
theorem bw649 : Cond.methodLink "ConeForgeLaw" 45 y_C_certifies ∈ BIG := bg 649 rfl
set_option maxRecDepth 100000 in
theorem bw650 : Cond.instanceMethod y_C_certifies ∈ BIG := bg 650 rfl
set_option maxRecDepth 100000 in
theorem bw651 : Cond.selects "ConeForge" y_C_certifies y_C_certifies ∈ BIG := bg 651 rfl
set_option maxRecDepth 100000 in
theorem bw652 : Cond.code y_C_certifies prog_1_method_13_code 4 (some .boolean) ∈ BIG := bg 652 rfl
set_option maxRecDepth 100000 in
theorem bw653 : Cond.methodLink "ConeForge" 207 y_C_isSolution ∈ BIG := bg 653 rfl
set_option maxRecDepth 100000 in
theorem bw654 : Cond.instanceMethod y_C_isSolution ∈ BIG := bg 654 rfl
set_option maxRecDepth 100000 in
theorem bw655 : Cond.code y_C_isSolution prog_1_method_21_code 5 (some .boolean) ∈ BIG := bg 655 rfl
set_option maxRecDepth 100000 in
theorem bw656 : Cond.methodLink "ConeForge" 210 y_C_showsNoSolution ∈ BIG := bg 656 rfl
set_option maxRecDepth 100000 in
theorem bw657 : Cond.instanceMethod y_C_showsNoSolution ∈ BIG := bg 657 rfl
set_option maxRecDepth 100000 in
theorem bw658 : Cond.code y_C_showsNoSolution prog_1_method_22_code 4 (some .boolean) ∈ BIG := bg 658 rfl
set_option maxRecDepth 100000 in
theorem bw659 : Cond.instanceMethod y_Pb_plusColumn ∈ BIG := bg 659 rfl
set_option maxRecDepth 100000 in
theorem bw660 : Cond.code y_Pb_plusColumn prog_5_method_7_code 8 (some .double) ∈ BIG := bg 660 rfl
set_option maxRecDepth 100000 in
theorem bw661 : Cond.methodLink "ConeForge" 213 y_C_showsNoLeast ∈ BIG := bg 661 rfl
set_option maxRecDepth 100000 in
theorem bw662 : Cond.instanceMethod y_C_showsNoLeast ∈ BIG := bg 662 rfl
set_option maxRecDepth 100000 in
theorem bw663 : Cond.code y_C_showsNoLeast prog_1_method_23_code 4 (some .boolean) ∈ BIG := bg 663 rfl
set_option maxRecDepth 100000 in
theorem bw664 : Cond.methodLink "ConeForgeLaw" 117 ⟨"ConeForgeLaw", "count", "(LConeForge;I[J)I"⟩ ∈ BIG := bg 664 rfl
set_option maxRecDepth 100000 in
theorem bw665 : Cond.static ⟨"ConeForgeLaw", "count", "(LConeForge;I[J)I"⟩ ∈ BIG := bg 665 rfl
set_option maxRecDepth 100000 in
theorem bw666 : Cond.methodLink "ConeForgeLaw" 49 y_C_count ∈ BIG := bg 666 rfl
set_option maxRecDepth 100000 in
theorem bw667 : Cond.instanceMethod y_C_count ∈ BIG := bg 667 rfl
set_option maxRecDepth 100000 in
theorem bw668 : Cond.selects "ConeForge" y_C_count y_C_count ∈ BIG := bg 668 rfl
set_option maxRecDepth 100000 in
theorem bw669 : Cond.code y_C_count prog_1_method_14_code 2 (some .int) ∈ BIG := bg 669 rfl
set_option maxRecDepth 100000 in
theorem bw670 : Cond.instanceMethod y_Pb_nonZeros ∈ BIG := bg 670 rfl
set_option maxRecDepth 100000 in
theorem bw671 : Cond.code y_Pb_nonZeros prog_5_method_4_code 4 (some .int) ∈ BIG := bg 671 rfl
set_option maxRecDepth 100000 in
theorem bw672 : Cond.methodLink "ConeForgeLaw" 120 ⟨"ConeForgeLaw", "scale", "(LConeForge;II[D)I"⟩ ∈ BIG := bg 672 rfl
set_option maxRecDepth 100000 in
theorem bw673 : Cond.static ⟨"ConeForgeLaw", "scale", "(LConeForge;II[D)I"⟩ ∈ BIG := bg 673 rfl
set_option maxRecDepth 100000 in
theorem bw674 : Cond.methodLink "ConeForgeLaw" 52 y_C_scale ∈ BIG := bg 674 rfl
set_option maxRecDepth 100000 in
theorem bw675 : Cond.instanceMethod y_C_scale ∈ BIG := bg 675 rfl
set_option maxRecDepth 100000 in
theorem bw676 : Cond.selects "ConeForge" y_C_scale y_C_scale ∈ BIG := bg 676 rfl
set_option maxRecDepth 100000 in
theorem bw677 : Cond.code y_C_scale prog_1_method_15_code 3 (some .double) ∈ BIG := bg 677 rfl
set_option maxRecDepth 100000 in
theorem bw678 : Cond.classLink "ConeForgeLaw" 56 "ConeForgeModel" ∈ BIG := bg 678 rfl
set_option maxRecDepth 100000 in
theorem bw679 : Cond.instantiable "ConeForgeModel" 46 ∈ BIG := bg 679 rfl
set_option maxRecDepth 100000 in
theorem bw680 : Cond.methodLink "ConeForgeLaw" 58 y_M_init ∈ BIG := bg 680 rfl
set_option maxRecDepth 100000 in
theorem bw681 : Cond.instanceMethod y_M_init ∈ BIG := bg 681 rfl
set_option maxRecDepth 100000 in
theorem bw682 : Cond.code y_M_init prog_10_method_1_code 1 none ∈ BIG := bg 682 rfl
set_option maxRecDepth 100000 in
theorem bw683 : Cond.methodLink "ConeForgeModel" 1 objectInit ∈ BIG := bg 683 rfl
set_option maxRecDepth 100000 in
theorem bw684 : Cond.fieldLink "ConeForgeModel" 7 "ConeForgeModel" "a" "[D" ∈ BIG := bg 684 rfl
set_option maxRecDepth 100000 in
theorem bw685 : Cond.fieldLink "ConeForgeModel" 13 "ConeForgeModel" "b" "[D" ∈ BIG := bg 685 rfl
set_option maxRecDepth 100000 in
theorem bw686 : Cond.fieldLink "ConeForgeModel" 16 "ConeForgeModel" "c" "[D" ∈ BIG := bg 686 rfl
set_option maxRecDepth 100000 in
theorem bw687 : Cond.fieldLink "ConeForgeModel" 19 "ConeForgeModel" "rowScale" "[D" ∈ BIG := bg 687 rfl
set_option maxRecDepth 100000 in
theorem bw688 : Cond.fieldLink "ConeForgeModel" 22 "ConeForgeModel" "columnScale" "[D" ∈ BIG := bg 688 rfl
set_option maxRecDepth 100000 in
theorem bw689 : Cond.fieldLink "ConeForgeModel" 25 "ConeForgeModel" "sa" "[D" ∈ BIG := bg 689 rfl
set_option maxRecDepth 100000 in
theorem bw690 : Cond.fieldLink "ConeForgeModel" 28 "ConeForgeModel" "sb" "[D" ∈ BIG := bg 690 rfl
set_option maxRecDepth 100000 in
theorem bw691 : Cond.fieldLink "ConeForgeModel" 31 "ConeForgeModel" "sc" "[D" ∈ BIG := bg 691 rfl
set_option maxRecDepth 100000 in
theorem bw692 : Cond.fieldLink "ConeForgeModel" 34 "ConeForgeModel" "x" "[D" ∈ BIG := bg 692 rfl
set_option maxRecDepth 100000 in
theorem bw693 : Cond.fieldLink "ConeForgeModel" 37 "ConeForgeModel" "s" "[D" ∈ BIG := bg 693 rfl
set_option maxRecDepth 100000 in
theorem bw694 : Cond.fieldLink "ConeForgeModel" 40 "ConeForgeModel" "y" "[D" ∈ BIG := bg 694 rfl
set_option maxRecDepth 100000 in
theorem bw695 : Cond.fieldLink "ConeForgeModel" 43 "ConeForgeModel" "p" "[D" ∈ BIG := bg 695 rfl
set_option maxRecDepth 100000 in
theorem bw696 : Cond.fieldLink "ConeForgeModel" 46 "ConeForgeModel" "d" "[D" ∈ BIG := bg 696 rfl
set_option maxRecDepth 100000 in
theorem bw697 : Cond.fieldLink "ConeForgeModel" 49 "ConeForgeModel" "h" "[D" ∈ BIG := bg 697 rfl
set_option maxRecDepth 100000 in
theorem bw698 : Cond.fieldLink "ConeForgeModel" 52 "ConeForgeModel" "f" "[D" ∈ BIG := bg 698 rfl
set_option maxRecDepth 100000 in
theorem bw699 : Cond.fieldLink "ConeForgeModel" 55 "ConeForgeModel" "mm" "[D" ∈ BIG := bg 699 rfl
set_option maxRecDepth 100000 in
theorem bw700 : Cond.fieldLink "ConeForgeModel" 58 "ConeForgeModel" "low" "[D" ∈ BIG := bg 700 rfl
set_option maxRecDepth 100000 in
theorem bw701 : Cond.fieldLink "ConeForgeModel" 61 "ConeForgeModel" "dd" "[D" ∈ BIG := bg 701 rfl
set_option maxRecDepth 100000 in
theorem bw702 : Cond.fieldLink "ConeForgeModel" 64 "ConeForgeModel" "\x72" "[D" ∈ BIG := bg 702 rfl
set_option maxRecDepth 100000 in
theorem bw703 : Cond.fieldLink "ConeForgeModel" 67 "ConeForgeModel" "big" "[D" ∈ BIG := bg 703 rfl
set_option maxRecDepth 100000 in
theorem bw704 : Cond.fieldLink "ConeForgeModel" 70 "ConeForgeModel" "dt" "[D" ∈ BIG := bg 704 rfl
set_option maxRecDepth 100000 in
theorem bw705 : Cond.fieldLink "ConeForgeModel" 73 "ConeForgeModel" "dx" "[D" ∈ BIG := bg 705 rfl
set_option maxRecDepth 100000 in
theorem bw706 : Cond.fieldLink "ConeForgeModel" 76 "ConeForgeModel" "t" "[D" ∈ BIG := bg 706 rfl
set_option maxRecDepth 100000 in
theorem bw707 : Cond.fieldLink "ConeForgeModel" 79 "ConeForgeModel" "cost" "[D" ∈ BIG := bg 707 rfl
set_option maxRecDepth 100000 in
theorem bw708 : Cond.fieldLink "ConeForgeModel" 82 "ConeForgeModel" "rowScaleNow" "[D" ∈ BIG := bg 708 rfl
set_option maxRecDepth 100000 in
theorem bw709 : Cond.fieldLink "ConeForgeModel" 85 "ConeForgeModel" "columnScaleNow" "[D" ∈ BIG := bg 709 rfl
set_option maxRecDepth 100000 in
theorem bw710 : Cond.fieldLink "ConeForgeModel" 88 "ConeForgeModel" "basic" "[I" ∈ BIG := bg 710 rfl
set_option maxRecDepth 100000 in
theorem bw711 : Cond.fieldLink "ConeForgeModel" 92 "ConeForgeModel" "text" "[I" ∈ BIG := bg 711 rfl
set_option maxRecDepth 100000 in
theorem bw712 : Cond.fieldLink "ConeForgeModel" 95 "ConeForgeModel" "turned" "[Z" ∈ BIG := bg 712 rfl
set_option maxRecDepth 100000 in
theorem bw713 : Cond.fieldLink "ConeForgeModel" 99 "ConeForgeModel" "m" "I" ∈ BIG := bg 713 rfl
set_option maxRecDepth 100000 in
theorem bw714 : Cond.fieldLink "ConeForgeModel" 103 "ConeForgeModel" "n" "I" ∈ BIG := bg 714 rfl
set_option maxRecDepth 100000 in
theorem bw715 : Cond.fieldLink "ConeForgeModel" 140 "ConeForgeModel" "length" "I" ∈ BIG := bg 715 rfl
set_option maxRecDepth 100000 in
theorem bw716 : Cond.fieldLink "ConeForgeModel" 106 "ConeForgeModel" "where" "I" ∈ BIG := bg 716 rfl
set_option maxRecDepth 100000 in
theorem bw717 : Cond.fieldLink "ConeForgeModel" 221 "ConeForgeModel" "effort" "I" ∈ BIG := bg 717 rfl
set_option maxRecDepth 100000 in
theorem bw718 : Cond.fieldLink "ConeForgeModel" 122 "ConeForgeModel" "thrown" "I" ∈ BIG := bg 718 rfl
set_option maxRecDepth 100000 in
theorem bw719 : Cond.fieldLink "ConeForgeModel" 143 "ConeForgeModel" "at" "I" ∈ BIG := bg 719 rfl
set_option maxRecDepth 100000 in
theorem bw720 : Cond.fieldLink "ConeForgeModel" 109 "ConeForgeModel" "scaled" "Z" ∈ BIG := bg 720 rfl
set_option maxRecDepth 100000 in
theorem bw721 : Cond.fieldLink "ConeForgeModel" 129 "ConeForgeModel" "solved" "Z" ∈ BIG := bg 721 rfl
set_option maxRecDepth 100000 in
theorem bw722 : Cond.fieldLink "ConeForgeModel" 257 "ConeForgeModel" "second" "Z" ∈ BIG := bg 722 rfl
set_option maxRecDepth 100000 in
theorem bw723 : Cond.fieldLink "ConeForgeModel" 113 "ConeForgeModel" "na" "[D" ∈ BIG := bg 723 rfl
set_option maxRecDepth 100000 in
theorem bw724 : Cond.fieldLink "ConeForgeModel" 116 "ConeForgeModel" "nb" "[D" ∈ BIG := bg 724 rfl
set_option maxRecDepth 100000 in
theorem bw725 : Cond.fieldLink "ConeForgeModel" 119 "ConeForgeModel" "nc" "[D" ∈ BIG := bg 725 rfl
set_option maxRecDepth 100000 in
theorem bw726 : Cond.fieldLink "ConeForgeModel" 180 "ConeForgeModel" "nm" "I" ∈ BIG := bg 726 rfl
set_option maxRecDepth 100000 in
theorem bw727 : Cond.fieldLink "ConeForgeModel" 185 "ConeForgeModel" "nn" "I" ∈ BIG := bg 727 rfl
set_option maxRecDepth 100000 in
theorem bw728 : Cond.fieldLink "ConeForgeModel" 157 "ConeForgeModel" "number" "D" ∈ BIG := bg 728 rfl
set_option maxRecDepth 100000 in
theorem bw729 : Cond.fieldLink "ConeForgeModel" 150 "ConeForgeModel" "bad" "Z" ∈ BIG := bg 729 rfl
set_option maxRecDepth 100000 in
theorem bw730 : Cond.laysFinal "ConeForgeModel" "ConeForgeModel" "a" "[D" ∈ BIG := bg 730 rfl
set_option maxRecDepth 100000 in
theorem bw731 : Cond.laysFinal "ConeForgeModel" "ConeForgeModel" "b" "[D" ∈ BIG := bg 731 rfl
set_option maxRecDepth 100000 in
theorem bw732 : Cond.laysFinal "ConeForgeModel" "ConeForgeModel" "c" "[D" ∈ BIG := bg 732 rfl
set_option maxRecDepth 100000 in
theorem bw733 : Cond.laysFinal "ConeForgeModel" "ConeForgeModel" "rowScale" "[D" ∈ BIG := bg 733 rfl
set_option maxRecDepth 100000 in
theorem bw734 : Cond.laysFinal "ConeForgeModel" "ConeForgeModel" "columnScale" "[D" ∈ BIG := bg 734 rfl
set_option maxRecDepth 100000 in
theorem bw735 : Cond.laysFinal "ConeForgeModel" "ConeForgeModel" "sa" "[D" ∈ BIG := bg 735 rfl
set_option maxRecDepth 100000 in
theorem bw736 : Cond.laysFinal "ConeForgeModel" "ConeForgeModel" "sb" "[D" ∈ BIG := bg 736 rfl
set_option maxRecDepth 100000 in
theorem bw737 : Cond.laysFinal "ConeForgeModel" "ConeForgeModel" "sc" "[D" ∈ BIG := bg 737 rfl
set_option maxRecDepth 100000 in
theorem bw738 : Cond.laysFinal "ConeForgeModel" "ConeForgeModel" "x" "[D" ∈ BIG := bg 738 rfl
set_option maxRecDepth 100000 in
theorem bw739 : Cond.laysFinal "ConeForgeModel" "ConeForgeModel" "s" "[D" ∈ BIG := bg 739 rfl
set_option maxRecDepth 100000 in
theorem bw740 : Cond.laysFinal "ConeForgeModel" "ConeForgeModel" "y" "[D" ∈ BIG := bg 740 rfl
set_option maxRecDepth 100000 in
theorem bw741 : Cond.laysFinal "ConeForgeModel" "ConeForgeModel" "p" "[D" ∈ BIG := bg 741 rfl
set_option maxRecDepth 100000 in
theorem bw742 : Cond.laysFinal "ConeForgeModel" "ConeForgeModel" "d" "[D" ∈ BIG := bg 742 rfl
set_option maxRecDepth 100000 in
theorem bw743 : Cond.laysFinal "ConeForgeModel" "ConeForgeModel" "h" "[D" ∈ BIG := bg 743 rfl
set_option maxRecDepth 100000 in
theorem bw744 : Cond.laysFinal "ConeForgeModel" "ConeForgeModel" "f" "[D" ∈ BIG := bg 744 rfl
set_option maxRecDepth 100000 in
theorem bw745 : Cond.laysFinal "ConeForgeModel" "ConeForgeModel" "mm" "[D" ∈ BIG := bg 745 rfl
set_option maxRecDepth 100000 in
theorem bw746 : Cond.laysFinal "ConeForgeModel" "ConeForgeModel" "low" "[D" ∈ BIG := bg 746 rfl
set_option maxRecDepth 100000 in
theorem bw747 : Cond.laysFinal "ConeForgeModel" "ConeForgeModel" "dd" "[D" ∈ BIG := bg 747 rfl
set_option maxRecDepth 100000 in
theorem bw748 : Cond.laysFinal "ConeForgeModel" "ConeForgeModel" "\x72" "[D" ∈ BIG := bg 748 rfl
set_option maxRecDepth 100000 in
theorem bw749 : Cond.laysFinal "ConeForgeModel" "ConeForgeModel" "big" "[D" ∈ BIG := bg 749 rfl
set_option maxRecDepth 100000 in
theorem bw750 : Cond.laysFinal "ConeForgeModel" "ConeForgeModel" "dt" "[D" ∈ BIG := bg 750 rfl
set_option maxRecDepth 100000 in
theorem bw751 : Cond.laysFinal "ConeForgeModel" "ConeForgeModel" "dx" "[D" ∈ BIG := bg 751 rfl
set_option maxRecDepth 100000 in
theorem bw752 : Cond.laysFinal "ConeForgeModel" "ConeForgeModel" "t" "[D" ∈ BIG := bg 752 rfl
set_option maxRecDepth 100000 in
theorem bw753 : Cond.laysFinal "ConeForgeModel" "ConeForgeModel" "cost" "[D" ∈ BIG := bg 753 rfl
set_option maxRecDepth 100000 in
theorem bw754 : Cond.laysFinal "ConeForgeModel" "ConeForgeModel" "rowScaleNow" "[D" ∈ BIG := bg 754 rfl
set_option maxRecDepth 100000 in
theorem bw755 : Cond.laysFinal "ConeForgeModel" "ConeForgeModel" "columnScaleNow" "[D" ∈ BIG := bg 755 rfl
set_option maxRecDepth 100000 in
theorem bw756 : Cond.laysFinal "ConeForgeModel" "ConeForgeModel" "basic" "[I" ∈ BIG := bg 756 rfl
set_option maxRecDepth 100000 in
theorem bw757 : Cond.laysFinal "ConeForgeModel" "ConeForgeModel" "text" "[I" ∈ BIG := bg 757 rfl
set_option maxRecDepth 100000 in
theorem bw758 : Cond.laysFinal "ConeForgeModel" "ConeForgeModel" "turned" "[Z" ∈ BIG := bg 758 rfl
set_option maxRecDepth 100000 in
theorem bw759 : Cond.lays "ConeForgeModel" "ConeForgeModel" "m" "I" ∈ BIG := bg 759 rfl
set_option maxRecDepth 100000 in
theorem bw760 : Cond.lays "ConeForgeModel" "ConeForgeModel" "n" "I" ∈ BIG := bg 760 rfl
set_option maxRecDepth 100000 in
theorem bw761 : Cond.lays "ConeForgeModel" "ConeForgeModel" "length" "I" ∈ BIG := bg 761 rfl
set_option maxRecDepth 100000 in
theorem bw762 : Cond.lays "ConeForgeModel" "ConeForgeModel" "where" "I" ∈ BIG := bg 762 rfl
set_option maxRecDepth 100000 in
theorem bw763 : Cond.lays "ConeForgeModel" "ConeForgeModel" "effort" "I" ∈ BIG := bg 763 rfl
set_option maxRecDepth 100000 in
theorem bw764 : Cond.lays "ConeForgeModel" "ConeForgeModel" "thrown" "I" ∈ BIG := bg 764 rfl
set_option maxRecDepth 100000 in
theorem bw765 : Cond.lays "ConeForgeModel" "ConeForgeModel" "at" "I" ∈ BIG := bg 765 rfl
set_option maxRecDepth 100000 in
theorem bw766 : Cond.lays "ConeForgeModel" "ConeForgeModel" "scaled" "Z" ∈ BIG := bg 766 rfl
set_option maxRecDepth 100000 in
theorem bw767 : Cond.lays "ConeForgeModel" "ConeForgeModel" "solved" "Z" ∈ BIG := bg 767 rfl
set_option maxRecDepth 100000 in
theorem bw768 : Cond.lays "ConeForgeModel" "ConeForgeModel" "second" "Z" ∈ BIG := bg 768 rfl
set_option maxRecDepth 100000 in
theorem bw769 : Cond.laysFinal "ConeForgeModel" "ConeForgeModel" "na" "[D" ∈ BIG := bg 769 rfl
set_option maxRecDepth 100000 in
theorem bw770 : Cond.laysFinal "ConeForgeModel" "ConeForgeModel" "nb" "[D" ∈ BIG := bg 770 rfl
set_option maxRecDepth 100000 in
theorem bw771 : Cond.laysFinal "ConeForgeModel" "ConeForgeModel" "nc" "[D" ∈ BIG := bg 771 rfl
set_option maxRecDepth 100000 in
theorem bw772 : Cond.lays "ConeForgeModel" "ConeForgeModel" "nm" "I" ∈ BIG := bg 772 rfl
set_option maxRecDepth 100000 in
theorem bw773 : Cond.lays "ConeForgeModel" "ConeForgeModel" "nn" "I" ∈ BIG := bg 773 rfl
set_option maxRecDepth 100000 in
theorem bw774 : Cond.lays "ConeForgeModel" "ConeForgeModel" "number" "D" ∈ BIG := bg 774 rfl
set_option maxRecDepth 100000 in
theorem bw775 : Cond.lays "ConeForgeModel" "ConeForgeModel" "bad" "Z" ∈ BIG := bg 775 rfl
set_option maxRecDepth 100000 in
theorem bw776 : Cond.arrayClass .boolean ∈ BIG := bg 776 rfl
set_option maxRecDepth 100000 in
theorem bw777 : Cond.methodLink "ConeForgeLaw" 65 y_M_thrown ∈ BIG := bg 777 rfl
set_option maxRecDepth 100000 in
theorem bw778 : Cond.instanceMethod y_M_thrown ∈ BIG := bg 778 rfl
set_option maxRecDepth 100000 in
theorem bw779 : Cond.selects "ConeForgeModel" y_M_thrown y_M_thrown ∈ BIG := bg 779 rfl
set_option maxRecDepth 100000 in
theorem bw780 : Cond.code y_M_thrown prog_10_method_2_code 1 (some .int) ∈ BIG := bg 780 rfl
set_option maxRecDepth 100000 in
theorem bw781 : Cond.methodLink "ConeForgeLaw" 64 y_M_begin ∈ BIG := bg 781 rfl
set_option maxRecDepth 100000 in
theorem bw782 : Cond.instanceMethod y_M_begin ∈ BIG := bg 782 rfl
set_option maxRecDepth 100000 in
theorem bw783 : Cond.selects "ConeForgeModel" y_M_begin y_M_begin ∈ BIG := bg 783 rfl
set_option maxRecDepth 100000 in
theorem bw784 : Cond.code y_M_begin prog_10_method_6_code 4 (some .int) ∈ BIG := bg 784 rfl
set_option maxRecDepth 100000 in
theorem bw785 : Cond.methodLink "ConeForgeModel" 125 y_M_in ∈ BIG := bg 785 rfl
set_option maxRecDepth 100000 in
theorem bw786 : Cond.static y_M_in ∈ BIG := bg 786 rfl
set_option maxRecDepth 100000 in
theorem bw787 : Cond.code y_M_in prog_10_method_3_code 3 (some .boolean) ∈ BIG := bg 787 rfl
set_option maxRecDepth 100000 in
theorem bw788 : Cond.methodLink "ConeForgeLaw" 73 y_M_set ∈ BIG := bg 788 rfl
set_option maxRecDepth 100000 in
theorem bw789 : Cond.instanceMethod y_M_set ∈ BIG := bg 789 rfl
set_option maxRecDepth 100000 in
theorem bw790 : Cond.selects "ConeForgeModel" y_M_set y_M_set ∈ BIG := bg 790 rfl
set_option maxRecDepth 100000 in
theorem bw791 : Cond.code y_M_set prog_10_method_7_code 8 (some .double) ∈ BIG := bg 791 rfl
set_option maxRecDepth 100000 in
theorem bw792 : Cond.constantDouble "ConeForgeModel" 132 4652007308841189376 ∈ BIG := bg 792 rfl
set_option maxRecDepth 100000 in
theorem bw793 : Cond.constantDouble "ConeForgeModel" 134 13875379345695965184 ∈ BIG := bg 793 rfl
set_option maxRecDepth 100000 in
theorem bw794 : Cond.constantDouble "ConeForgeModel" 136 4517329193108106637 ∈ BIG := bg 794 rfl
set_option maxRecDepth 100000 in
theorem bw795 : Cond.constantDouble "ConeForgeModel" 138 13740701229962882445 ∈ BIG := bg 795 rfl
set_option maxRecDepth 100000 in
theorem bw796 : Cond.methodLink "ConeForgeLaw" 78 y_M_scaling ∈ BIG := bg 796 rfl
set_option maxRecDepth 100000 in
theorem bw797 : Cond.instanceMethod y_M_scaling ∈ BIG := bg 797 rfl
set_option maxRecDepth 100000 in
theorem bw798 : Cond.selects "ConeForgeModel" y_M_scaling y_M_scaling ∈ BIG := bg 798 rfl
set_option maxRecDepth 100000 in
theorem bw799 : Cond.code y_M_scaling prog_10_method_8_code 3 (some .boolean) ∈ BIG := bg 799 rfl
set_option maxRecDepth 100000 in
theorem bw800 : Cond.methodLink "ConeForgeLaw" 84 y_M_text ∈ BIG := bg 800 rfl
set_option maxRecDepth 100000 in
theorem bw801 : Cond.instanceMethod y_M_text ∈ BIG := bg 801 rfl
set_option maxRecDepth 100000 in
theorem bw802 : Cond.selects "ConeForgeModel" y_M_text y_M_text ∈ BIG := bg 802 rfl
set_option maxRecDepth 100000 in
theorem bw803 : Cond.code y_M_text prog_10_method_9_code 7 (some .int) ∈ BIG := bg 803 rfl
set_option maxRecDepth 100000 in
theorem bw804 : Cond.methodLink "ConeForgeLaw" 88 y_M_read ∈ BIG := bg 804 rfl
set_option maxRecDepth 100000 in
theorem bw805 : Cond.instanceMethod y_M_read ∈ BIG := bg 805 rfl
set_option maxRecDepth 100000 in
theorem bw806 : Cond.selects "ConeForgeModel" y_M_read y_M_read ∈ BIG := bg 806 rfl
set_option maxRecDepth 100000 in
theorem bw807 : Cond.code y_M_read prog_10_method_17_code 3 (some .int) ∈ BIG := bg 807 rfl
set_option maxRecDepth 100000 in
theorem bw808 : Cond.methodLink "ConeForgeModel" 188 y_M_readAll ∈ BIG := bg 808 rfl
set_option maxRecDepth 100000 in
theorem bw809 : Cond.instanceMethod y_M_readAll ∈ BIG := bg 809 rfl
set_option maxRecDepth 100000 in
theorem bw810 : Cond.code y_M_readAll prog_10_method_16_code 4 (some .int) ∈ BIG := bg 810 rfl
set_option maxRecDepth 100000 in
theorem bw811 : Cond.constantDouble "ConeForgeModel" 174 4617315517961601024 ∈ BIG := bg 811 rfl
set_option maxRecDepth 100000 in
theorem bw812 : Cond.methodLink "ConeForgeModel" 176 y_M_next ∈ BIG := bg 812 rfl
set_option maxRecDepth 100000 in
theorem bw813 : Cond.instanceMethod y_M_next ∈ BIG := bg 813 rfl
set_option maxRecDepth 100000 in
theorem bw814 : Cond.code y_M_next prog_10_method_15_code 9 none ∈ BIG := bg 814 rfl
set_option maxRecDepth 100000 in
theorem bw815 : Cond.methodLink "ConeForgeModel" 167 y_M_skip ∈ BIG := bg 815 rfl
set_option maxRecDepth 100000 in
theorem bw816 : Cond.instanceMethod y_M_skip ∈ BIG := bg 816 rfl
set_option maxRecDepth 100000 in
theorem bw817 : Cond.code y_M_skip prog_10_method_12_code 2 none ∈ BIG := bg 817 rfl
set_option maxRecDepth 100000 in
theorem bw818 : Cond.methodLink "ConeForgeModel" 146 y_M_here ∈ BIG := bg 818 rfl
set_option maxRecDepth 100000 in
theorem bw819 : Cond.instanceMethod y_M_here ∈ BIG := bg 819 rfl
set_option maxRecDepth 100000 in
theorem bw820 : Cond.code y_M_here prog_10_method_10_code 1 (some .int) ∈ BIG := bg 820 rfl
set_option maxRecDepth 100000 in
theorem bw821 : Cond.methodLink "ConeForgeModel" 170 y_M_digits ∈ BIG := bg 821 rfl
set_option maxRecDepth 100000 in
theorem bw822 : Cond.instanceMethod y_M_digits ∈ BIG := bg 822 rfl
set_option maxRecDepth 100000 in
theorem bw823 : Cond.code y_M_digits prog_10_method_14_code 3 (some .int) ∈ BIG := bg 823 rfl
set_option maxRecDepth 100000 in
theorem bw824 : Cond.methodLink "ConeForgeModel" 153 y_M_isDigit ∈ BIG := bg 824 rfl
set_option maxRecDepth 100000 in
theorem bw825 : Cond.instanceMethod y_M_isDigit ∈ BIG := bg 825 rfl
set_option maxRecDepth 100000 in
theorem bw826 : Cond.code y_M_isDigit prog_10_method_11_code 1 (some .boolean) ∈ BIG := bg 826 rfl
set_option maxRecDepth 100000 in
theorem bw827 : Cond.constantDouble "ConeForgeModel" 161 4621819117588971520 ∈ BIG := bg 827 rfl
set_option maxRecDepth 100000 in
theorem bw828 : Cond.methodLink "ConeForgeModel" 163 y_M_fail ∈ BIG := bg 828 rfl
set_option maxRecDepth 100000 in
theorem bw829 : Cond.instanceMethod y_M_fail ∈ BIG := bg 829 rfl
set_option maxRecDepth 100000 in
theorem bw830 : Cond.code y_M_fail prog_10_method_13_code 2 none ∈ BIG := bg 830 rfl
set_option maxRecDepth 100000 in
theorem bw831 : Cond.constantDouble "ConeForgeModel" 183 4620693217682128896 ∈ BIG := bg 831 rfl
set_option maxRecDepth 100000 in
theorem bw832 : Cond.methodLink "ConeForgeModel" 191 y_M_begin ∈ BIG := bg 832 rfl
set_option maxRecDepth 100000 in
theorem bw833 : Cond.methodLink "ConeForgeLaw" 92 y_M_where ∈ BIG := bg 833 rfl
set_option maxRecDepth 100000 in
theorem bw834 : Cond.instanceMethod y_M_where ∈ BIG := bg 834 rfl
set_option maxRecDepth 100000 in
theorem bw835 : Cond.selects "ConeForgeModel" y_M_where y_M_where ∈ BIG := bg 835 rfl
set_option maxRecDepth 100000 in
theorem bw836 : Cond.code y_M_where prog_10_method_18_code 1 (some .int) ∈ BIG := bg 836 rfl
set_option maxRecDepth 100000 in
theorem bw837 : Cond.methodLink "ConeForgeLaw" 96 y_M_interior ∈ BIG := bg 837 rfl
set_option maxRecDepth 100000 in
theorem bw838 : Cond.instanceMethod y_M_interior ∈ BIG := bg 838 rfl
set_option maxRecDepth 100000 in
theorem bw839 : Cond.selects "ConeForgeModel" y_M_interior y_M_interior ∈ BIG := bg 839 rfl
set_option maxRecDepth 100000 in
theorem bw840 : Cond.code y_M_interior prog_10_method_29_code 10 (some .int) ∈ BIG := bg 840 rfl
set_option maxRecDepth 100000 in
theorem bw841 : Cond.methodLink "ConeForgeModel" 218 y_M_rescale ∈ BIG := bg 841 rfl
set_option maxRecDepth 100000 in
theorem bw842 : Cond.instanceMethod y_M_rescale ∈ BIG := bg 842 rfl
set_option maxRecDepth 100000 in
theorem bw843 : Cond.code y_M_rescale prog_10_method_20_code 5 none ∈ BIG := bg 843 rfl
set_option maxRecDepth 100000 in
theorem bw844 : Cond.methodLink "ConeForgeModel" 197 y_M_abs ∈ BIG := bg 844 rfl
set_option maxRecDepth 100000 in
theorem bw845 : Cond.static y_M_abs ∈ BIG := bg 845 rfl
set_option maxRecDepth 100000 in
theorem bw846 : Cond.code y_M_abs prog_10_method_4_code 2 (some .double) ∈ BIG := bg 846 rfl
set_option maxRecDepth 100000 in
theorem bw847 : Cond.methodLink "ConeForgeModel" 201 y_M_max ∈ BIG := bg 847 rfl
set_option maxRecDepth 100000 in
theorem bw848 : Cond.static y_M_max ∈ BIG := bg 848 rfl
set_option maxRecDepth 100000 in
theorem bw849 : Cond.code y_M_max prog_10_method_5_code 4 (some .double) ∈ BIG := bg 849 rfl
set_option maxRecDepth 100000 in
theorem bw850 : Cond.methodLink "ConeForgeModel" 205 y_M_power ∈ BIG := bg 850 rfl
set_option maxRecDepth 100000 in
theorem bw851 : Cond.static y_M_power ∈ BIG := bg 851 rfl
set_option maxRecDepth 100000 in
theorem bw852 : Cond.code y_M_power prog_10_method_19_code 6 (some .double) ∈ BIG := bg 852 rfl
set_option maxRecDepth 100000 in
theorem bw853 : Cond.constantDouble "ConeForgeModel" 195 4611686018427387904 ∈ BIG := bg 853 rfl
set_option maxRecDepth 100000 in
theorem bw854 : Cond.methodLink "ConeForgeModel" 224 y_M_measure ∈ BIG := bg 854 rfl
set_option maxRecDepth 100000 in
theorem bw855 : Cond.instanceMethod y_M_measure ∈ BIG := bg 855 rfl
set_option maxRecDepth 100000 in
theorem bw856 : Cond.code y_M_measure prog_10_method_22_code 5 (some .double) ∈ BIG := bg 856 rfl
set_option maxRecDepth 100000 in
theorem bw857 : Cond.methodLink "ConeForgeModel" 228 y_M_isSolved ∈ BIG := bg 857 rfl
set_option maxRecDepth 100000 in
theorem bw858 : Cond.instanceMethod y_M_isSolved ∈ BIG := bg 858 rfl
set_option maxRecDepth 100000 in
theorem bw859 : Cond.code y_M_isSolved prog_10_method_23_code 14 (some .boolean) ∈ BIG := bg 859 rfl
set_option maxRecDepth 100000 in
theorem bw860 : Cond.constantDouble "ConeForgeModel" 208 4487126258331716666 ∈ BIG := bg 860 rfl
set_option maxRecDepth 100000 in
theorem bw861 : Cond.methodLink "ConeForgeModel" 232 y_M_isLost ∈ BIG := bg 861 rfl
set_option maxRecDepth 100000 in
theorem bw862 : Cond.instanceMethod y_M_isLost ∈ BIG := bg 862 rfl
set_option maxRecDepth 100000 in
theorem bw863 : Cond.code y_M_isLost prog_10_method_24_code 2 (some .boolean) ∈ BIG := bg 863 rfl
set_option maxRecDepth 100000 in
theorem bw864 : Cond.constantDouble "ConeForgeModel" 210 4741671816366391296 ∈ BIG := bg 864 rfl
set_option maxRecDepth 100000 in
theorem bw865 : Cond.constantDouble "ConeForgeModel" 212 4427486594234968593 ∈ BIG := bg 865 rfl
set_option maxRecDepth 100000 in
theorem bw866 : Cond.constantDouble "ConeForgeModel" 235 4591870180066957722 ∈ BIG := bg 866 rfl
set_option maxRecDepth 100000 in
theorem bw867 : Cond.methodLink "ConeForgeModel" 237 y_M_prepare ∈ BIG := bg 867 rfl
set_option maxRecDepth 100000 in
theorem bw868 : Cond.instanceMethod y_M_prepare ∈ BIG := bg 868 rfl
set_option maxRecDepth 100000 in
theorem bw869 : Cond.code y_M_prepare prog_10_method_27_code 8 none ∈ BIG := bg 869 rfl
set_option maxRecDepth 100000 in
theorem bw870 : Cond.methodLink "ConeForgeModel" 241 y_M_factor ∈ BIG := bg 870 rfl
set_option maxRecDepth 100000 in
theorem bw871 : Cond.instanceMethod y_M_factor ∈ BIG := bg 871 rfl
set_option maxRecDepth 100000 in
theorem bw872 : Cond.code y_M_factor prog_10_method_25_code 6 (some .boolean) ∈ BIG := bg 872 rfl
set_option maxRecDepth 100000 in
theorem bw873 : Cond.constantDouble "ConeForgeModel" 214 4412443251819771522 ∈ BIG := bg 873 rfl
set_option maxRecDepth 100000 in
theorem bw874 : Cond.methodLink "ConeForgeModel" 244 y_M_solve ∈ BIG := bg 874 rfl
set_option maxRecDepth 100000 in
theorem bw875 : Cond.instanceMethod y_M_solve ∈ BIG := bg 875 rfl
set_option maxRecDepth 100000 in
theorem bw876 : Cond.code y_M_solve prog_10_method_26_code 3 none ∈ BIG := bg 876 rfl
set_option maxRecDepth 100000 in
theorem bw877 : Cond.methodLink "ConeForgeModel" 247 y_M_move ∈ BIG := bg 877 rfl
set_option maxRecDepth 100000 in
theorem bw878 : Cond.instanceMethod y_M_move ∈ BIG := bg 878 rfl
set_option maxRecDepth 100000 in
theorem bw879 : Cond.code y_M_move prog_10_method_28_code 10 none ∈ BIG := bg 879 rfl
set_option maxRecDepth 100000 in
theorem bw880 : Cond.constantDouble "ConeForgeModel" 216 4607137382803743703 ∈ BIG := bg 880 rfl
set_option maxRecDepth 100000 in
theorem bw881 : Cond.methodLink "ConeForgeModel" 250 y_M_back ∈ BIG := bg 881 rfl
set_option maxRecDepth 100000 in
theorem bw882 : Cond.instanceMethod y_M_back ∈ BIG := bg 882 rfl
set_option maxRecDepth 100000 in
theorem bw883 : Cond.code y_M_back prog_10_method_21_code 2 none ∈ BIG := bg 883 rfl
set_option maxRecDepth 100000 in
theorem bw884 : Cond.methodLink "ConeForgeLaw" 100 y_M_simplex ∈ BIG := bg 884 rfl
set_option maxRecDepth 100000 in
theorem bw885 : Cond.instanceMethod y_M_simplex ∈ BIG := bg 885 rfl
set_option maxRecDepth 100000 in
theorem bw886 : Cond.selects "ConeForgeModel" y_M_simplex y_M_simplex ∈ BIG := bg 886 rfl
set_option maxRecDepth 100000 in
theorem bw887 : Cond.code y_M_simplex prog_10_method_40_code 3 (some .int) ∈ BIG := bg 887 rfl
set_option maxRecDepth 100000 in
theorem bw888 : Cond.methodLink "ConeForgeModel" 289 y_M_table ∈ BIG := bg 888 rfl
set_option maxRecDepth 100000 in
theorem bw889 : Cond.instanceMethod y_M_table ∈ BIG := bg 889 rfl
set_option maxRecDepth 100000 in
theorem bw890 : Cond.code y_M_table prog_10_method_30_code 3 none ∈ BIG := bg 890 rfl
set_option maxRecDepth 100000 in
theorem bw891 : Cond.constantDouble "ConeForgeModel" 253 13830554455654793216 ∈ BIG := bg 891 rfl
set_option maxRecDepth 100000 in
theorem bw892 : Cond.methodLink "ConeForgeModel" 292 y_M_clear ∈ BIG := bg 892 rfl
set_option maxRecDepth 100000 in
theorem bw893 : Cond.instanceMethod y_M_clear ∈ BIG := bg 893 rfl
set_option maxRecDepth 100000 in
theorem bw894 : Cond.code y_M_clear prog_10_method_36_code 2 none ∈ BIG := bg 894 rfl
set_option maxRecDepth 100000 in
theorem bw895 : Cond.methodLink "ConeForgeModel" 295 y_M_solveByTable ∈ BIG := bg 895 rfl
set_option maxRecDepth 100000 in
theorem bw896 : Cond.instanceMethod y_M_solveByTable ∈ BIG := bg 896 rfl
set_option maxRecDepth 100000 in
theorem bw897 : Cond.code y_M_solveByTable prog_10_method_39_code 6 (some .int) ∈ BIG := bg 897 rfl
set_option maxRecDepth 100000 in
theorem bw898 : Cond.methodLink "ConeForgeModel" 281 y_M_phase ∈ BIG := bg 898 rfl
set_option maxRecDepth 100000 in
theorem bw899 : Cond.instanceMethod y_M_phase ∈ BIG := bg 899 rfl
set_option maxRecDepth 100000 in
theorem bw900 : Cond.code y_M_phase prog_10_method_37_code 4 (some .int) ∈ BIG := bg 900 rfl
set_option maxRecDepth 100000 in
theorem bw901 : Cond.methodLink "ConeForgeModel" 268 y_M_entering ∈ BIG := bg 901 rfl
set_option maxRecDepth 100000 in
theorem bw902 : Cond.instanceMethod y_M_entering ∈ BIG := bg 902 rfl
set_option maxRecDepth 100000 in
theorem bw903 : Cond.code y_M_entering prog_10_method_31_code 5 (some .int) ∈ BIG := bg 903 rfl
set_option maxRecDepth 100000 in
theorem bw904 : Cond.constantDouble "ConeForgeModel" 255 13695778570484766357 ∈ BIG := bg 904 rfl
set_option maxRecDepth 100000 in
theorem bw905 : Cond.methodLink "ConeForgeModel" 271 y_M_leaving ∈ BIG := bg 905 rfl
set_option maxRecDepth 100000 in
theorem bw906 : Cond.instanceMethod y_M_leaving ∈ BIG := bg 906 rfl
set_option maxRecDepth 100000 in
theorem bw907 : Cond.code y_M_leaving prog_10_method_32_code 8 (some .int) ∈ BIG := bg 907 rfl
set_option maxRecDepth 100000 in
theorem bw908 : Cond.constantDouble "ConeForgeModel" 260 4472406533629990549 ∈ BIG := bg 908 rfl
set_option maxRecDepth 100000 in
theorem bw909 : Cond.methodLink "ConeForgeModel" 274 y_M_pivot ∈ BIG := bg 909 rfl
set_option maxRecDepth 100000 in
theorem bw910 : Cond.instanceMethod y_M_pivot ∈ BIG := bg 910 rfl
set_option maxRecDepth 100000 in
theorem bw911 : Cond.code y_M_pivot prog_10_method_34_code 9 none ∈ BIG := bg 911 rfl
set_option maxRecDepth 100000 in
theorem bw912 : Cond.methodLink "ConeForgeModel" 262 y_M_isUsed ∈ BIG := bg 912 rfl
set_option maxRecDepth 100000 in
theorem bw913 : Cond.instanceMethod y_M_isUsed ∈ BIG := bg 913 rfl
set_option maxRecDepth 100000 in
theorem bw914 : Cond.code y_M_isUsed prog_10_method_33_code 2 (some .boolean) ∈ BIG := bg 914 rfl
set_option maxRecDepth 100000 in
theorem bw915 : Cond.methodLink "ConeForgeModel" 278 y_M_isWild ∈ BIG := bg 915 rfl
set_option maxRecDepth 100000 in
theorem bw916 : Cond.instanceMethod y_M_isWild ∈ BIG := bg 916 rfl
set_option maxRecDepth 100000 in
theorem bw917 : Cond.code y_M_isWild prog_10_method_35_code 3 (some .boolean) ∈ BIG := bg 917 rfl
set_option maxRecDepth 100000 in
theorem bw918 : Cond.constantDouble "ConeForgeModel" 266 4786511204640096256 ∈ BIG := bg 918 rfl
set_option maxRecDepth 100000 in
theorem bw919 : Cond.constantDouble "ConeForgeModel" 284 4502148214488346440 ∈ BIG := bg 919 rfl
set_option maxRecDepth 100000 in
theorem bw920 : Cond.methodLink "ConeForgeModel" 286 y_M_multipliers ∈ BIG := bg 920 rfl
set_option maxRecDepth 100000 in
theorem bw921 : Cond.instanceMethod y_M_multipliers ∈ BIG := bg 921 rfl
set_option maxRecDepth 100000 in
theorem bw922 : Cond.code y_M_multipliers prog_10_method_38_code 3 none ∈ BIG := bg 922 rfl
set_option maxRecDepth 100000 in
theorem bw923 : Cond.methodLink "ConeForgeLaw" 104 y_M_told ∈ BIG := bg 923 rfl
set_option maxRecDepth 100000 in
theorem bw924 : Cond.instanceMethod y_M_told ∈ BIG := bg 924 rfl
set_option maxRecDepth 100000 in
theorem bw925 : Cond.selects "ConeForgeModel" y_M_told y_M_told ∈ BIG := bg 925 rfl
set_option maxRecDepth 100000 in
theorem bw926 : Cond.code y_M_told prog_10_method_42_code 3 (some .double) ∈ BIG := bg 926 rfl
set_option maxRecDepth 100000 in
theorem bw927 : Cond.methodLink "ConeForgeModel" 298 y_M_total ∈ BIG := bg 927 rfl
set_option maxRecDepth 100000 in
theorem bw928 : Cond.instanceMethod y_M_total ∈ BIG := bg 928 rfl
set_option maxRecDepth 100000 in
theorem bw929 : Cond.code y_M_total prog_10_method_41_code 5 (some .double) ∈ BIG := bg 929 rfl
set_option maxRecDepth 100000 in
theorem bw930 : Cond.methodLink "ConeForgeLaw" 108 y_M_effort ∈ BIG := bg 930 rfl
set_option maxRecDepth 100000 in
theorem bw931 : Cond.instanceMethod y_M_effort ∈ BIG := bg 931 rfl
set_option maxRecDepth 100000 in
theorem bw932 : Cond.selects "ConeForgeModel" y_M_effort y_M_effort ∈ BIG := bg 932 rfl
set_option maxRecDepth 100000 in
theorem bw933 : Cond.code y_M_effort prog_10_method_43_code 1 (some .int) ∈ BIG := bg 933 rfl
set_option maxRecDepth 100000 in
theorem bw934 : Cond.methodLink "ConeForgeLaw" 112 y_M_gap ∈ BIG := bg 934 rfl
set_option maxRecDepth 100000 in
theorem bw935 : Cond.instanceMethod y_M_gap ∈ BIG := bg 935 rfl
set_option maxRecDepth 100000 in
theorem bw936 : Cond.selects "ConeForgeModel" y_M_gap y_M_gap ∈ BIG := bg 936 rfl
set_option maxRecDepth 100000 in
theorem bw937 : Cond.code y_M_gap prog_10_method_45_code 2 (some .double) ∈ BIG := bg 937 rfl
set_option maxRecDepth 100000 in
theorem bw938 : Cond.methodLink "ConeForgeModel" 302 y_M_far ∈ BIG := bg 938 rfl
set_option maxRecDepth 100000 in
theorem bw939 : Cond.instanceMethod y_M_far ∈ BIG := bg 939 rfl
set_option maxRecDepth 100000 in
theorem bw940 : Cond.code y_M_far prog_10_method_44_code 8 (some .double) ∈ BIG := bg 940 rfl
set_option maxRecDepth 100000 in
theorem bw941 : Cond.methodLink "ConeForgeLaw" 116 y_M_certifies ∈ BIG := bg 941 rfl
set_option maxRecDepth 100000 in
theorem bw942 : Cond.instanceMethod y_M_certifies ∈ BIG := bg 942 rfl
set_option maxRecDepth 100000 in
theorem bw943 : Cond.selects "ConeForgeModel" y_M_certifies y_M_certifies ∈ BIG := bg 943 rfl
set_option maxRecDepth 100000 in
theorem bw944 : Cond.code y_M_certifies prog_10_method_48_code 6 (some .boolean) ∈ BIG := bg 944 rfl
set_option maxRecDepth 100000 in
theorem bw945 : Cond.methodLink "ConeForgeModel" 305 y_M_isNone ∈ BIG := bg 945 rfl
set_option maxRecDepth 100000 in
theorem bw946 : Cond.instanceMethod y_M_isNone ∈ BIG := bg 946 rfl
set_option maxRecDepth 100000 in
theorem bw947 : Cond.code y_M_isNone prog_10_method_46_code 7 (some .boolean) ∈ BIG := bg 947 rfl
set_option maxRecDepth 100000 in
theorem bw948 : Cond.methodLink "ConeForgeModel" 308 y_M_isRay ∈ BIG := bg 948 rfl
set_option maxRecDepth 100000 in
theorem bw949 : Cond.instanceMethod y_M_isRay ∈ BIG := bg 949 rfl
set_option maxRecDepth 100000 in
theorem bw950 : Cond.code y_M_isRay prog_10_method_47_code 7 (some .boolean) ∈ BIG := bg 950 rfl
set_option maxRecDepth 100000 in
theorem bw951 : Cond.methodLink "ConeForgeLaw" 119 y_M_count ∈ BIG := bg 951 rfl
set_option maxRecDepth 100000 in
theorem bw952 : Cond.instanceMethod y_M_count ∈ BIG := bg 952 rfl
set_option maxRecDepth 100000 in
theorem bw953 : Cond.selects "ConeForgeModel" y_M_count y_M_count ∈ BIG := bg 953 rfl
set_option maxRecDepth 100000 in
theorem bw954 : Cond.code y_M_count prog_10_method_49_code 4 (some .int) ∈ BIG := bg 954 rfl
set_option maxRecDepth 100000 in
theorem bw955 : Cond.methodLink "ConeForgeLaw" 122 y_M_scale ∈ BIG := bg 955 rfl
set_option maxRecDepth 100000 in
theorem bw956 : Cond.instanceMethod y_M_scale ∈ BIG := bg 956 rfl
set_option maxRecDepth 100000 in
theorem bw957 : Cond.selects "ConeForgeModel" y_M_scale y_M_scale ∈ BIG := bg 957 rfl
set_option maxRecDepth 100000 in
theorem bw958 : Cond.code y_M_scale prog_10_method_50_code 3 (some .double) ∈ BIG := bg 958 rfl
set_option maxRecDepth 100000 in
theorem bw959 : Cond.methodLink "ConeForgeModel" 311 y_M_measureScales ∈ BIG := bg 959 rfl
set_option maxRecDepth 100000 in
theorem bw960 : Cond.instanceMethod y_M_measureScales ∈ BIG := bg 960 rfl
set_option maxRecDepth 100000 in
theorem bw961 : Cond.code y_M_measureScales prog_10_method_51_code 5 none ∈ BIG := bg 961 rfl
set_option maxRecDepth 100000 in
theorem bw962 : Cond.constantDouble "ConeForgeLaw" 68 4593671619917905920 ∈ BIG := bg 962 rfl
set_option maxRecDepth 100000 in
theorem bw963 : Cond.constantLong "ConeForgeLaw" 79 4294967295 ∈ BIG := bg 963 rfl
set_option maxRecDepth 100000 in
theorem bw964 : Cond.arrayClass .long ∈ BIG := bg 964 rfl
set_option maxRecDepth 100000 in
theorem nw0 : Cond.methodLinkNest "ConeForge" 9 y_Pb_init "ConeForge" ∈ NEST := nst 0 rfl
set_option maxRecDepth 100000 in
theorem nw1 : Cond.fieldLinkNest "ConeForge$FactoredMatrix" 26 "ConeForge$Problem" "rows" "I" "ConeForge" ∈ NEST := nst 1 rfl
set_option maxRecDepth 100000 in
theorem nw2 : Cond.fieldLinkNest "ConeForge$Scales" 31 "ConeForge$Problem" "rows" "I" "ConeForge" ∈ NEST := nst 2 rfl
set_option maxRecDepth 100000 in
theorem nw3 : Cond.fieldLinkNest "ConeForge$SimplexMethod" 81 "ConeForge$Problem" "rows" "I" "ConeForge" ∈ NEST := nst 3 rfl
set_option maxRecDepth 100000 in
theorem nw4 : Cond.fieldLinkNest "ConeForge$InteriorMethod" 85 "ConeForge$Problem" "rows" "I" "ConeForge" ∈ NEST := nst 4 rfl
set_option maxRecDepth 100000 in
theorem nw5 : Cond.fieldLinkNest "ConeForge" 84 "ConeForge$Problem" "rows" "I" "ConeForge" ∈ NEST := nst 5 rfl
set_option maxRecDepth 100000 in
theorem nw6 : Cond.fieldLinkNest "ConeForge$TextReader" 73 "ConeForge$Problem" "rows" "I" "ConeForge" ∈ NEST := nst 6 rfl
set_option maxRecDepth 100000 in
theorem nw7 : Cond.fieldLinkNest "ConeForge$FactoredMatrix" 32 "ConeForge$Problem" "variables" "I" "ConeForge" ∈ NEST := nst 7 rfl
set_option maxRecDepth 100000 in
theorem nw8 : Cond.fieldLinkNest "ConeForge$SimplexMethod" 82 "ConeForge$Problem" "variables" "I" "ConeForge" ∈ NEST := nst 8 rfl
set_option maxRecDepth 100000 in
theorem nw9 : Cond.fieldLinkNest "ConeForge$Scales" 41 "ConeForge$Problem" "variables" "I" "ConeForge" ∈ NEST := nst 9 rfl
set_option maxRecDepth 100000 in
theorem nw10 : Cond.fieldLinkNest "ConeForge$InteriorMethod" 98 "ConeForge$Problem" "variables" "I" "ConeForge" ∈ NEST := nst 10 rfl
set_option maxRecDepth 100000 in
theorem nw11 : Cond.fieldLinkNest "ConeForge" 90 "ConeForge$Problem" "variables" "I" "ConeForge" ∈ NEST := nst 11 rfl
set_option maxRecDepth 100000 in
theorem nw12 : Cond.fieldLinkNest "ConeForge$TextReader" 63 "ConeForge$Problem" "variables" "I" "ConeForge" ∈ NEST := nst 12 rfl
set_option maxRecDepth 100000 in
theorem nw13 : Cond.fieldLinkNest "ConeForge$FactoredMatrix" 35 "ConeForge$Problem" "a" "[[D" "ConeForge" ∈ NEST := nst 13 rfl
set_option maxRecDepth 100000 in
theorem nw14 : Cond.fieldLinkNest "ConeForge$Scales" 37 "ConeForge$Problem" "a" "[[D" "ConeForge" ∈ NEST := nst 14 rfl
set_option maxRecDepth 100000 in
theorem nw15 : Cond.fieldLinkNest "ConeForge$SimplexMethod" 87 "ConeForge$Problem" "a" "[[D" "ConeForge" ∈ NEST := nst 15 rfl
set_option maxRecDepth 100000 in
theorem nw16 : Cond.fieldLinkNest "ConeForge" 93 "ConeForge$Problem" "a" "[[D" "ConeForge" ∈ NEST := nst 16 rfl
set_option maxRecDepth 100000 in
theorem nw17 : Cond.fieldLinkNest "ConeForge$TextReader" 93 "ConeForge$Problem" "a" "[[D" "ConeForge" ∈ NEST := nst 17 rfl
set_option maxRecDepth 100000 in
theorem nw18 : Cond.fieldLinkNest "ConeForge$InteriorMethod" 88 "ConeForge$Problem" "b" "[D" "ConeForge" ∈ NEST := nst 18 rfl
set_option maxRecDepth 100000 in
theorem nw19 : Cond.fieldLinkNest "ConeForge" 101 "ConeForge$Problem" "b" "[D" "ConeForge" ∈ NEST := nst 19 rfl
set_option maxRecDepth 100000 in
theorem nw20 : Cond.fieldLinkNest "ConeForge$SimplexMethod" 90 "ConeForge$Problem" "b" "[D" "ConeForge" ∈ NEST := nst 20 rfl
set_option maxRecDepth 100000 in
theorem nw21 : Cond.fieldLinkNest "ConeForge$TextReader" 70 "ConeForge$Problem" "b" "[D" "ConeForge" ∈ NEST := nst 21 rfl
set_option maxRecDepth 100000 in
theorem nw22 : Cond.fieldLinkNest "ConeForge$Scales" 65 "ConeForge$Problem" "b" "[D" "ConeForge" ∈ NEST := nst 22 rfl
set_option maxRecDepth 100000 in
theorem nw23 : Cond.fieldLinkNest "ConeForge$InteriorMethod" 101 "ConeForge$Problem" "c" "[D" "ConeForge" ∈ NEST := nst 23 rfl
set_option maxRecDepth 100000 in
theorem nw24 : Cond.fieldLinkNest "ConeForge" 105 "ConeForge$Problem" "c" "[D" "ConeForge" ∈ NEST := nst 24 rfl
set_option maxRecDepth 100000 in
theorem nw25 : Cond.fieldLinkNest "ConeForge$SimplexMethod" 95 "ConeForge$Problem" "c" "[D" "ConeForge" ∈ NEST := nst 25 rfl
set_option maxRecDepth 100000 in
theorem nw26 : Cond.fieldLinkNest "ConeForge$TextReader" 59 "ConeForge$Problem" "c" "[D" "ConeForge" ∈ NEST := nst 26 rfl
set_option maxRecDepth 100000 in
theorem nw27 : Cond.fieldLinkNest "ConeForge$Scales" 68 "ConeForge$Problem" "c" "[D" "ConeForge" ∈ NEST := nst 27 rfl
set_option maxRecDepth 100000 in
theorem nw28 : Cond.methodLinkNest "ConeForge" 18 y_Sc_init "ConeForge" ∈ NEST := nst 28 rfl
set_option maxRecDepth 100000 in
theorem nw29 : Cond.fieldLinkNest "ConeForge" 223 "ConeForge$Scales" "ofRows" "[D" "ConeForge" ∈ NEST := nst 29 rfl
set_option maxRecDepth 100000 in
theorem nw30 : Cond.fieldLinkNest "ConeForge" 226 "ConeForge$Scales" "ofVariables" "[D" "ConeForge" ∈ NEST := nst 30 rfl
set_option maxRecDepth 100000 in
theorem nw31 : Cond.methodLinkNest "ConeForge" 25 y_Pt_init "ConeForge" ∈ NEST := nst 31 rfl
set_option maxRecDepth 100000 in
theorem nw32 : Cond.fieldLinkNest "ConeForge$InteriorMethod" 91 "ConeForge$Point" "x" "[D" "ConeForge" ∈ NEST := nst 32 rfl
set_option maxRecDepth 100000 in
theorem nw33 : Cond.fieldLinkNest "ConeForge$Scales" 71 "ConeForge$Point" "x" "[D" "ConeForge" ∈ NEST := nst 33 rfl
set_option maxRecDepth 100000 in
theorem nw34 : Cond.fieldLinkNest "ConeForge" 183 "ConeForge$Point" "x" "[D" "ConeForge" ∈ NEST := nst 34 rfl
set_option maxRecDepth 100000 in
theorem nw35 : Cond.fieldLinkNest "ConeForge$SimplexMethod" 146 "ConeForge$Point" "x" "[D" "ConeForge" ∈ NEST := nst 35 rfl
set_option maxRecDepth 100000 in
theorem nw36 : Cond.fieldLinkNest "ConeForge$InteriorMethod" 110 "ConeForge$Point" "s" "[D" "ConeForge" ∈ NEST := nst 36 rfl
set_option maxRecDepth 100000 in
theorem nw37 : Cond.fieldLinkNest "ConeForge$Scales" 76 "ConeForge$Point" "s" "[D" "ConeForge" ∈ NEST := nst 37 rfl
set_option maxRecDepth 100000 in
theorem nw38 : Cond.fieldLinkNest "ConeForge" 186 "ConeForge$Point" "s" "[D" "ConeForge" ∈ NEST := nst 38 rfl
set_option maxRecDepth 100000 in
theorem nw39 : Cond.fieldLinkNest "ConeForge$SimplexMethod" 149 "ConeForge$Point" "s" "[D" "ConeForge" ∈ NEST := nst 39 rfl
set_option maxRecDepth 100000 in
theorem nw40 : Cond.fieldLinkNest "ConeForge$InteriorMethod" 104 "ConeForge$Point" "y" "[D" "ConeForge" ∈ NEST := nst 40 rfl
set_option maxRecDepth 100000 in
theorem nw41 : Cond.fieldLinkNest "ConeForge$Scales" 79 "ConeForge$Point" "y" "[D" "ConeForge" ∈ NEST := nst 41 rfl
set_option maxRecDepth 100000 in
theorem nw42 : Cond.fieldLinkNest "ConeForge" 189 "ConeForge$Point" "y" "[D" "ConeForge" ∈ NEST := nst 42 rfl
set_option maxRecDepth 100000 in
theorem nw43 : Cond.fieldLinkNest "ConeForge$SimplexMethod" 143 "ConeForge$Point" "y" "[D" "ConeForge" ∈ NEST := nst 43 rfl
set_option maxRecDepth 100000 in
theorem nw44 : Cond.methodLinkNest "ConeForge" 32 y_Tr_init "ConeForge" ∈ NEST := nst 44 rfl
set_option maxRecDepth 100000 in
theorem nw45 : Cond.methodLinkNest "ConeForge$TextReader" 17 y_Pb_init "ConeForge" ∈ NEST := nst 45 rfl
set_option maxRecDepth 100000 in
theorem nw46 : Cond.fieldLinkNest "ConeForge" 132 "ConeForge$TextReader" "fresh" "LConeForge$Problem;" "ConeForge" ∈ NEST := nst 46 rfl
set_option maxRecDepth 100000 in
theorem nw47 : Cond.fieldLinkNest "ConeForge" 122 "ConeForge$TextReader" "length" "I" "ConeForge" ∈ NEST := nst 47 rfl
set_option maxRecDepth 100000 in
theorem nw48 : Cond.fieldLinkNest "ConeForge" 139 "ConeForge$TextReader" "numbersRead" "I" "ConeForge" ∈ NEST := nst 48 rfl
set_option maxRecDepth 100000 in
theorem nw49 : Cond.fieldLinkNest "ConeForge" 129 "ConeForge$TextReader" "failedAt" "I" "ConeForge" ∈ NEST := nst 49 rfl
set_option maxRecDepth 100000 in
theorem nw50 : Cond.methodLinkNest "ConeForge" 39 y_Im_init "ConeForge" ∈ NEST := nst 50 rfl
set_option maxRecDepth 100000 in
theorem nw51 : Cond.methodLinkNest "ConeForge$InteriorMethod" 11 y_Pb_init "ConeForge" ∈ NEST := nst 51 rfl
set_option maxRecDepth 100000 in
theorem nw52 : Cond.methodLinkNest "ConeForge$InteriorMethod" 20 y_Pt_init "ConeForge" ∈ NEST := nst 52 rfl
set_option maxRecDepth 100000 in
theorem nw53 : Cond.methodLinkNest "ConeForge$InteriorMethod" 27 y_Fm_init "ConeForge" ∈ NEST := nst 53 rfl
set_option maxRecDepth 100000 in
theorem nw54 : Cond.fieldLinkNest "ConeForge" 148 "ConeForge$InteriorMethod" "problem" "LConeForge$Problem;" "ConeForge" ∈ NEST := nst 54 rfl
set_option maxRecDepth 100000 in
theorem nw55 : Cond.fieldLinkNest "ConeForge" 165 "ConeForge$InteriorMethod" "point" "LConeForge$Point;" "ConeForge" ∈ NEST := nst 55 rfl
set_option maxRecDepth 100000 in
theorem nw56 : Cond.fieldLinkNest "ConeForge" 157 "ConeForge$InteriorMethod" "turnsBegun" "I" "ConeForge" ∈ NEST := nst 56 rfl
set_option maxRecDepth 100000 in
theorem nw57 : Cond.methodLinkNest "ConeForge" 46 y_Sm_init "ConeForge" ∈ NEST := nst 57 rfl
set_option maxRecDepth 100000 in
theorem nw58 : Cond.methodLinkNest "ConeForge$SimplexMethod" 11 y_Pb_init "ConeForge" ∈ NEST := nst 58 rfl
set_option maxRecDepth 100000 in
theorem nw59 : Cond.methodLinkNest "ConeForge$SimplexMethod" 20 y_Pt_init "ConeForge" ∈ NEST := nst 59 rfl
set_option maxRecDepth 100000 in
theorem nw60 : Cond.fieldLinkNest "ConeForge" 170 "ConeForge$SimplexMethod" "problem" "LConeForge$Problem;" "ConeForge" ∈ NEST := nst 60 rfl
set_option maxRecDepth 100000 in
theorem nw61 : Cond.fieldLinkNest "ConeForge" 177 "ConeForge$SimplexMethod" "point" "LConeForge$Point;" "ConeForge" ∈ NEST := nst 61 rfl
set_option maxRecDepth 100000 in
theorem nw62 : Cond.fieldLinkNest "ConeForge" 174 "ConeForge$SimplexMethod" "stepsDone" "I" "ConeForge" ∈ NEST := nst 62 rfl
set_option maxRecDepth 100000 in
theorem nw63 : Cond.methodLinkNest "ConeForge" 144 y_Sc_measure "ConeForge" ∈ NEST := nst 63 rfl
set_option maxRecDepth 100000 in
theorem nw64 : Cond.methodLinkNest "ConeForge$Scales" 44 y_C_greatestOf "ConeForge" ∈ NEST := nst 64 rfl
set_option maxRecDepth 100000 in
theorem nw65 : Cond.methodLinkNest "ConeForge$Scales" 52 y_C_absolute "ConeForge" ∈ NEST := nst 65 rfl
set_option maxRecDepth 100000 in
theorem nw66 : Cond.methodLinkNest "ConeForge$Scales" 55 y_C_greater "ConeForge" ∈ NEST := nst 66 rfl
set_option maxRecDepth 100000 in
theorem nw67 : Cond.methodLinkNest "ConeForge" 149 y_Sc_apply "ConeForge" ∈ NEST := nst 67 rfl
set_option maxRecDepth 100000 in
theorem nw68 : Cond.methodLinkNest "ConeForge$Scales" 61 y_Pb_clear "ConeForge" ∈ NEST := nst 68 rfl
set_option maxRecDepth 100000 in
theorem nw69 : Cond.methodLinkNest "ConeForge" 171 y_Sm_solve "ConeForge" ∈ NEST := nst 69 rfl
set_option maxRecDepth 100000 in
theorem nw70 : Cond.methodLinkNest "ConeForge$SimplexMethod" 54 y_Pt_fill "ConeForge" ∈ NEST := nst 70 rfl
set_option maxRecDepth 100000 in
theorem nw71 : Cond.methodLinkNest "ConeForge$SimplexMethod" 127 y_C_absolute "ConeForge" ∈ NEST := nst 71 rfl
set_option maxRecDepth 100000 in
theorem nw72 : Cond.methodLinkNest "ConeForge$SimplexMethod" 137 y_C_greatestOf "ConeForge" ∈ NEST := nst 72 rfl
set_option maxRecDepth 100000 in
theorem nw73 : Cond.methodLinkNest "ConeForge$SimplexMethod" 152 y_Pb_lessColumn "ConeForge" ∈ NEST := nst 73 rfl
set_option maxRecDepth 100000 in
theorem nw74 : Cond.methodLinkNest "ConeForge" 166 y_Sc_unscale "ConeForge" ∈ NEST := nst 74 rfl
set_option maxRecDepth 100000 in
theorem nw75 : Cond.methodLinkNest "ConeForge" 72 y_Pb_clear "ConeForge" ∈ NEST := nst 75 rfl
set_option maxRecDepth 100000 in
theorem nw76 : Cond.methodLinkNest "ConeForge" 108 y_Tr_isReadable "ConeForge" ∈ NEST := nst 76 rfl
set_option maxRecDepth 100000 in
theorem nw77 : Cond.methodLinkNest "ConeForge" 114 y_Tr_append "ConeForge" ∈ NEST := nst 77 rfl
set_option maxRecDepth 100000 in
theorem nw78 : Cond.methodLinkNest "ConeForge" 125 y_Tr_parse "ConeForge" ∈ NEST := nst 78 rfl
set_option maxRecDepth 100000 in
theorem nw79 : Cond.methodLinkNest "ConeForge$TextReader" 83 y_Pb_clear "ConeForge" ∈ NEST := nst 79 rfl
set_option maxRecDepth 100000 in
theorem nw80 : Cond.methodLinkNest "ConeForge$TextReader" 104 y_C_isAllowed "ConeForge" ∈ NEST := nst 80 rfl
set_option maxRecDepth 100000 in
theorem nw81 : Cond.methodLinkNest "ConeForge" 135 y_Pb_copy "ConeForge" ∈ NEST := nst 81 rfl
set_option maxRecDepth 100000 in
theorem nw82 : Cond.methodLinkNest "ConeForge" 153 y_Im_solve "ConeForge" ∈ NEST := nst 82 rfl
set_option maxRecDepth 100000 in
theorem nw83 : Cond.methodLinkNest "ConeForge$InteriorMethod" 65 y_Pt_fill "ConeForge" ∈ NEST := nst 83 rfl
set_option maxRecDepth 100000 in
theorem nw84 : Cond.methodLinkNest "ConeForge$InteriorMethod" 94 y_Pb_lessRow "ConeForge" ∈ NEST := nst 84 rfl
set_option maxRecDepth 100000 in
theorem nw85 : Cond.methodLinkNest "ConeForge$InteriorMethod" 107 y_Pb_lessColumn "ConeForge" ∈ NEST := nst 85 rfl
set_option maxRecDepth 100000 in
theorem nw86 : Cond.methodLinkNest "ConeForge$InteriorMethod" 113 y_Pt_complementarity "ConeForge" ∈ NEST := nst 86 rfl
set_option maxRecDepth 100000 in
theorem nw87 : Cond.methodLinkNest "ConeForge$Point" 27 y_Pb_product "ConeForge" ∈ NEST := nst 87 rfl
set_option maxRecDepth 100000 in
theorem nw88 : Cond.methodLinkNest "ConeForge$InteriorMethod" 117 y_Pb_costOf "ConeForge" ∈ NEST := nst 88 rfl
set_option maxRecDepth 100000 in
theorem nw89 : Cond.methodLinkNest "ConeForge$InteriorMethod" 121 y_C_absolute "ConeForge" ∈ NEST := nst 89 rfl
set_option maxRecDepth 100000 in
theorem nw90 : Cond.methodLinkNest "ConeForge$InteriorMethod" 125 y_C_greatestOf "ConeForge" ∈ NEST := nst 90 rfl
set_option maxRecDepth 100000 in
theorem nw91 : Cond.methodLinkNest "ConeForge$InteriorMethod" 141 y_Pb_plusRow "ConeForge" ∈ NEST := nst 91 rfl
set_option maxRecDepth 100000 in
theorem nw92 : Cond.methodLinkNest "ConeForge$InteriorMethod" 144 y_Fm_gather "ConeForge" ∈ NEST := nst 92 rfl
set_option maxRecDepth 100000 in
theorem nw93 : Cond.methodLinkNest "ConeForge$InteriorMethod" 148 y_Fm_factor "ConeForge" ∈ NEST := nst 93 rfl
set_option maxRecDepth 100000 in
theorem nw94 : Cond.methodLinkNest "ConeForge$InteriorMethod" 152 y_Fm_solve "ConeForge" ∈ NEST := nst 94 rfl
set_option maxRecDepth 100000 in
theorem nw95 : Cond.methodLinkNest "ConeForge" 192 y_Pb_costOf "ConeForge" ∈ NEST := nst 95 rfl
set_option maxRecDepth 100000 in
theorem nw96 : Cond.methodLinkNest "ConeForge" 196 y_Pb_worthOf "ConeForge" ∈ NEST := nst 96 rfl
set_option maxRecDepth 100000 in
theorem nw97 : Cond.methodLinkNest "ConeForge" 249 y_Pb_lessRow "ConeForge" ∈ NEST := nst 97 rfl
set_option maxRecDepth 100000 in
theorem nw98 : Cond.methodLinkNest "ConeForge" 261 y_Pb_lessColumn "ConeForge" ∈ NEST := nst 98 rfl
set_option maxRecDepth 100000 in
theorem nw99 : Cond.methodLinkNest "ConeForge" 243 y_Pt_complementarity "ConeForge" ∈ NEST := nst 99 rfl
set_option maxRecDepth 100000 in
theorem nw100 : Cond.methodLinkNest "ConeForge" 246 y_Pt_deepest "ConeForge" ∈ NEST := nst 100 rfl
set_option maxRecDepth 100000 in
theorem nw101 : Cond.methodLinkNest "ConeForge$Point" 33 y_C_greater "ConeForge" ∈ NEST := nst 101 rfl
set_option maxRecDepth 100000 in
theorem nw102 : Cond.methodLinkNest "ConeForge" 264 y_Pb_plusColumn "ConeForge" ∈ NEST := nst 102 rfl
set_option maxRecDepth 100000 in
theorem nw103 : Cond.methodLinkNest "ConeForge" 267 y_Pb_plusRow "ConeForge" ∈ NEST := nst 103 rfl
set_option maxRecDepth 100000 in
theorem nw104 : Cond.methodLinkNest "ConeForge" 218 y_Pb_nonZeros "ConeForge" ∈ NEST := nst 104 rfl
theorem iPb {cd : Cond} : ∀ w ∈ u_ws "ConeForge$Problem" FPb 5, w ∈ cd :: BIG := fun w h => by
  obtain ⟨k, hk, rfl⟩ := List.mem_map.mp h
  have hk := List.mem_range.mp hk
  match k, hk with
  | 0, _ => exact bgc bw134
  | 1, _ => exact bgc bw135
  | 2, _ => exact bgc bw136
  | 3, _ => exact bgc bw137
  | 4, _ => exact bgc bw138
  | k + 5, hk => exact absurd hk (by omega)
theorem iPt {cd : Cond} : ∀ w ∈ u_ws "ConeForge$Point" FPt 3, w ∈ cd :: BIG := fun w h => by
  obtain ⟨k, hk, rfl⟩ := List.mem_map.mp h
  have hk := List.mem_range.mp hk
  match k, hk with
  | 0, _ => exact bgc bw157
  | 1, _ => exact bgc bw158
  | 2, _ => exact bgc bw159
  | k + 3, hk => exact absurd hk (by omega)
theorem iSc {cd : Cond} : ∀ w ∈ u_ws "ConeForge$Scales" FSc 2, w ∈ cd :: BIG := fun w h => by
  obtain ⟨k, hk, rfl⟩ := List.mem_map.mp h
  have hk := List.mem_range.mp hk
  match k, hk with
  | 0, _ => exact bgc bw147
  | 1, _ => exact bgc bw148
  | k + 2, hk => exact absurd hk (by omega)
theorem iTr {cd : Cond} : ∀ w ∈ u_ws "ConeForge$TextReader" FTr 9, w ∈ cd :: BIG := fun w h => by
  obtain ⟨k, hk, rfl⟩ := List.mem_map.mp h
  have hk := List.mem_range.mp hk
  match k, hk with
  | 0, _ => exact bgc bw175
  | 1, _ => exact bgc bw176
  | 2, _ => exact bgc bw177
  | 3, _ => exact bgc bw178
  | 4, _ => exact bgc bw179
  | 5, _ => exact bgc bw180
  | 6, _ => exact bgc bw181
  | 7, _ => exact bgc bw182
  | 8, _ => exact bgc bw183
  | k + 9, hk => exact absurd hk (by omega)
theorem iFm {cd : Cond} : ∀ w ∈ u_ws "ConeForge$FactoredMatrix" FFm 4, w ∈ cd :: BIG := fun w h => by
  obtain ⟨k, hk, rfl⟩ := List.mem_map.mp h
  have hk := List.mem_range.mp hk
  match k, hk with
  | 0, _ => exact bgc bw202
  | 1, _ => exact bgc bw203
  | 2, _ => exact bgc bw204
  | 3, _ => exact bgc bw205
  | k + 4, hk => exact absurd hk (by omega)
theorem iIm {cd : Cond} : ∀ w ∈ u_ws "ConeForge$InteriorMethod" FIm 13, w ∈ cd :: BIG := fun w h => by
  obtain ⟨k, hk, rfl⟩ := List.mem_map.mp h
  have hk := List.mem_range.mp hk
  match k, hk with
  | 0, _ => exact bgc bw219
  | 1, _ => exact bgc bw220
  | 2, _ => exact bgc bw221
  | 3, _ => exact bgc bw222
  | 4, _ => exact bgc bw223
  | 5, _ => exact bgc bw224
  | 6, _ => exact bgc bw225
  | 7, _ => exact bgc bw226
  | 8, _ => exact bgc bw227
  | 9, _ => exact bgc bw228
  | 10, _ => exact bgc bw229
  | 11, _ => exact bgc bw230
  | 12, _ => exact bgc bw231
  | k + 13, hk => exact absurd hk (by omega)
theorem iSm {cd : Cond} : ∀ w ∈ u_ws "ConeForge$SimplexMethod" FSm 10, w ∈ cd :: BIG := fun w h => by
  obtain ⟨k, hk, rfl⟩ := List.mem_map.mp h
  have hk := List.mem_range.mp hk
  match k, hk with
  | 0, _ => exact bgc bw250
  | 1, _ => exact bgc bw251
  | 2, _ => exact bgc bw252
  | 3, _ => exact bgc bw253
  | 4, _ => exact bgc bw254
  | 5, _ => exact bgc bw255
  | 6, _ => exact bgc bw256
  | 7, _ => exact bgc bw257
  | 8, _ => exact bgc bw258
  | 9, _ => exact bgc bw259
  | k + 10, hk => exact absurd hk (by omega)
theorem iC {cd : Cond} : ∀ w ∈ u_ws "ConeForge" FC 10, w ∈ cd :: BIG := fun w h => by
  obtain ⟨k, hk, rfl⟩ := List.mem_map.mp h
  have hk := List.mem_range.mp hk
  match k, hk with
  | 0, _ => exact bgc bw271
  | 1, _ => exact bgc bw272
  | 2, _ => exact bgc bw273
  | 3, _ => exact bgc bw274
  | 4, _ => exact bgc bw275
  | 5, _ => exact bgc bw276
  | 6, _ => exact bgc bw277
  | 7, _ => exact bgc bw278
  | 8, _ => exact bgc bw279
  | 9, _ => exact bgc bw280
  | k + 10, hk => exact absurd hk (by omega)
theorem iM {cd : Cond} : ∀ w ∈ u_ws "ConeForgeModel" FM 46, w ∈ cd :: BIG := fun w h => by
  obtain ⟨k, hk, rfl⟩ := List.mem_map.mp h
  have hk := List.mem_range.mp hk
  match k, hk with
  | 0, _ => exact bgc bw730
  | 1, _ => exact bgc bw731
  | 2, _ => exact bgc bw732
  | 3, _ => exact bgc bw733
  | 4, _ => exact bgc bw734
  | 5, _ => exact bgc bw735
  | 6, _ => exact bgc bw736
  | 7, _ => exact bgc bw737
  | 8, _ => exact bgc bw738
  | 9, _ => exact bgc bw739
  | 10, _ => exact bgc bw740
  | 11, _ => exact bgc bw741
  | 12, _ => exact bgc bw742
  | 13, _ => exact bgc bw743
  | 14, _ => exact bgc bw744
  | 15, _ => exact bgc bw745
  | 16, _ => exact bgc bw746
  | 17, _ => exact bgc bw747
  | 18, _ => exact bgc bw748
  | 19, _ => exact bgc bw749
  | 20, _ => exact bgc bw750
  | 21, _ => exact bgc bw751
  | 22, _ => exact bgc bw752
  | 23, _ => exact bgc bw753
  | 24, _ => exact bgc bw754
  | 25, _ => exact bgc bw755
  | 26, _ => exact bgc bw756
  | 27, _ => exact bgc bw757
  | 28, _ => exact bgc bw758
  | 29, _ => exact bgc bw759
  | 30, _ => exact bgc bw760
  | 31, _ => exact bgc bw761
  | 32, _ => exact bgc bw762
  | 33, _ => exact bgc bw763
  | 34, _ => exact bgc bw764
  | 35, _ => exact bgc bw765
  | 36, _ => exact bgc bw766
  | 37, _ => exact bgc bw767
  | 38, _ => exact bgc bw768
  | 39, _ => exact bgc bw769
  | 40, _ => exact bgc bw770
  | 41, _ => exact bgc bw771
  | 42, _ => exact bgc bw772
  | 43, _ => exact bgc bw773
  | 44, _ => exact bgc bw774
  | 45, _ => exact bgc bw775
  | k + 46, hk => exact absurd hk (by omega)
