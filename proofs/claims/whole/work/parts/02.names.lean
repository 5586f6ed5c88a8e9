def y_Ar_fill : MethodName := ⟨"java/util/Arrays", "fill", "([DD)V"⟩
theorem dd_Ar_fill : y_Ar_fill.cls ≠ "java/lang/invoke/MethodHandle" ∧ y_Ar_fill.cls ≠ "java/lang/invoke/VarHandle" ∧ (parseMethodDescriptor y_Ar_fill.desc).map (fun d => d.parameters.length) = some 2 := by decide +kernel
def y_C_init : MethodName := ⟨"ConeForge", "<init>", "()V"⟩
theorem dd_C_init : y_C_init.cls ≠ "java/lang/invoke/MethodHandle" ∧ y_C_init.cls ≠ "java/lang/invoke/VarHandle" ∧ (parseMethodDescriptor y_C_init.desc).map (fun d => d.parameters.length) = some 0 := by decide +kernel
def y_C_begin : MethodName := ⟨"ConeForge", "begin", "(II)I"⟩
theorem dd_C_begin : y_C_begin.cls ≠ "java/lang/invoke/MethodHandle" ∧ y_C_begin.cls ≠ "java/lang/invoke/VarHandle" ∧ (parseMethodDescriptor y_C_begin.desc).map (fun d => d.parameters.length) = some 2 := by decide +kernel
def y_C_set : MethodName := ⟨"ConeForge", "set", "(IIID)D"⟩
theorem dd_C_set : y_C_set.cls ≠ "java/lang/invoke/MethodHandle" ∧ y_C_set.cls ≠ "java/lang/invoke/VarHandle" ∧ (parseMethodDescriptor y_C_set.desc).map (fun d => d.parameters.length) = some 4 := by decide +kernel
def y_C_scaling : MethodName := ⟨"ConeForge", "scaling", "(Z)Z"⟩
theorem dd_C_scaling : y_C_scaling.cls ≠ "java/lang/invoke/MethodHandle" ∧ y_C_scaling.cls ≠ "java/lang/invoke/VarHandle" ∧ (parseMethodDescriptor y_C_scaling.desc).map (fun d => d.parameters.length) = some 1 := by decide +kernel
def y_C_text : MethodName := ⟨"ConeForge", "text", "(J)I"⟩
theorem dd_C_text : y_C_text.cls ≠ "java/lang/invoke/MethodHandle" ∧ y_C_text.cls ≠ "java/lang/invoke/VarHandle" ∧ (parseMethodDescriptor y_C_text.desc).map (fun d => d.parameters.length) = some 1 := by decide +kernel
def y_C_read : MethodName := ⟨"ConeForge", "read", "()I"⟩
theorem dd_C_read : y_C_read.cls ≠ "java/lang/invoke/MethodHandle" ∧ y_C_read.cls ≠ "java/lang/invoke/VarHandle" ∧ (parseMethodDescriptor y_C_read.desc).map (fun d => d.parameters.length) = some 0 := by decide +kernel
def y_C_where : MethodName := ⟨"ConeForge", "where", "()I"⟩
theorem dd_C_where : y_C_where.cls ≠ "java/lang/invoke/MethodHandle" ∧ y_C_where.cls ≠ "java/lang/invoke/VarHandle" ∧ (parseMethodDescriptor y_C_where.desc).map (fun d => d.parameters.length) = some 0 := by decide +kernel
def y_C_interior : MethodName := ⟨"ConeForge", "interior", "(I)I"⟩
theorem dd_C_interior : y_C_interior.cls ≠ "java/lang/invoke/MethodHandle" ∧ y_C_interior.cls ≠ "java/lang/invoke/VarHandle" ∧ (parseMethodDescriptor y_C_interior.desc).map (fun d => d.parameters.length) = some 1 := by decide +kernel
def y_C_simplex : MethodName := ⟨"ConeForge", "simplex", "()I"⟩
theorem dd_C_simplex : y_C_simplex.cls ≠ "java/lang/invoke/MethodHandle" ∧ y_C_simplex.cls ≠ "java/lang/invoke/VarHandle" ∧ (parseMethodDescriptor y_C_simplex.desc).map (fun d => d.parameters.length) = some 0 := by decide +kernel
def y_C_told : MethodName := ⟨"ConeForge", "told", "(II)D"⟩
theorem dd_C_told : y_C_told.cls ≠ "java/lang/invoke/MethodHandle" ∧ y_C_told.cls ≠ "java/lang/invoke/VarHandle" ∧ (parseMethodDescriptor y_C_told.desc).map (fun d => d.parameters.length) = some 2 := by decide +kernel
def y_C_effort : MethodName := ⟨"ConeForge", "effort", "()I"⟩
theorem dd_C_effort : y_C_effort.cls ≠ "java/lang/invoke/MethodHandle" ∧ y_C_effort.cls ≠ "java/lang/invoke/VarHandle" ∧ (parseMethodDescriptor y_C_effort.desc).map (fun d => d.parameters.length) = some 0 := by decide +kernel
def y_C_gap : MethodName := ⟨"ConeForge", "gap", "(I)D"⟩
theorem dd_C_gap : y_C_gap.cls ≠ "java/lang/invoke/MethodHandle" ∧ y_C_gap.cls ≠ "java/lang/invoke/VarHandle" ∧ (parseMethodDescriptor y_C_gap.desc).map (fun d => d.parameters.length) = some 1 := by decide +kernel
def y_C_certifies : MethodName := ⟨"ConeForge", "certifies", "(ID)Z"⟩
theorem dd_C_certifies : y_C_certifies.cls ≠ "java/lang/invoke/MethodHandle" ∧ y_C_certifies.cls ≠ "java/lang/invoke/VarHandle" ∧ (parseMethodDescriptor y_C_certifies.desc).map (fun d => d.parameters.length) = some 2 := by decide +kernel
def y_C_count : MethodName := ⟨"ConeForge", "count", "(I)I"⟩
theorem dd_C_count : y_C_count.cls ≠ "java/lang/invoke/MethodHandle" ∧ y_C_count.cls ≠ "java/lang/invoke/VarHandle" ∧ (parseMethodDescriptor y_C_count.desc).map (fun d => d.parameters.length) = some 1 := by decide +kernel
def y_C_scale : MethodName := ⟨"ConeForge", "scale", "(II)D"⟩
theorem dd_C_scale : y_C_scale.cls ≠ "java/lang/invoke/MethodHandle" ∧ y_C_scale.cls ≠ "java/lang/invoke/VarHandle" ∧ (parseMethodDescriptor y_C_scale.desc).map (fun d => d.parameters.length) = some 2 := by decide +kernel
def y_C_requireTold : MethodName := ⟨"ConeForge", "requireTold", "()V"⟩
theorem dd_C_requireTold : y_C_requireTold.cls ≠ "java/lang/invoke/MethodHandle" ∧ y_C_requireTold.cls ≠ "java/lang/invoke/VarHandle" ∧ (parseMethodDescriptor y_C_requireTold.desc).map (fun d => d.parameters.length) = some 0 := by decide +kernel
def y_C_requireIndex : MethodName := ⟨"ConeForge", "requireIndex", "(II)V"⟩
theorem dd_C_requireIndex : y_C_requireIndex.cls ≠ "java/lang/invoke/MethodHandle" ∧ y_C_requireIndex.cls ≠ "java/lang/invoke/VarHandle" ∧ (parseMethodDescriptor y_C_requireIndex.desc).map (fun d => d.parameters.length) = some 2 := by decide +kernel
def y_C_gapOf : MethodName := ⟨"ConeForge", "gapOf", "(I)D"⟩
theorem dd_C_gapOf : y_C_gapOf.cls ≠ "java/lang/invoke/MethodHandle" ∧ y_C_gapOf.cls ≠ "java/lang/invoke/VarHandle" ∧ (parseMethodDescriptor y_C_gapOf.desc).map (fun d => d.parameters.length) = some 1 := by decide +kernel
def y_C_primalGap : MethodName := ⟨"ConeForge", "primalGap", "()D"⟩
theorem dd_C_primalGap : y_C_primalGap.cls ≠ "java/lang/invoke/MethodHandle" ∧ y_C_primalGap.cls ≠ "java/lang/invoke/VarHandle" ∧ (parseMethodDescriptor y_C_primalGap.desc).map (fun d => d.parameters.length) = some 0 := by decide +kernel
def y_C_dualGap : MethodName := ⟨"ConeForge", "dualGap", "()D"⟩
theorem dd_C_dualGap : y_C_dualGap.cls ≠ "java/lang/invoke/MethodHandle" ∧ y_C_dualGap.cls ≠ "java/lang/invoke/VarHandle" ∧ (parseMethodDescriptor y_C_dualGap.desc).map (fun d => d.parameters.length) = some 0 := by decide +kernel
def y_C_isSolution : MethodName := ⟨"ConeForge", "isSolution", "(D)Z"⟩
theorem dd_C_isSolution : y_C_isSolution.cls ≠ "java/lang/invoke/MethodHandle" ∧ y_C_isSolution.cls ≠ "java/lang/invoke/VarHandle" ∧ (parseMethodDescriptor y_C_isSolution.desc).map (fun d => d.parameters.length) = some 1 := by decide +kernel
def y_C_showsNoSolution : MethodName := ⟨"ConeForge", "showsNoSolution", "(D)Z"⟩
theorem dd_C_showsNoSolution : y_C_showsNoSolution.cls ≠ "java/lang/invoke/MethodHandle" ∧ y_C_showsNoSolution.cls ≠ "java/lang/invoke/VarHandle" ∧ (parseMethodDescriptor y_C_showsNoSolution.desc).map (fun d => d.parameters.length) = some 1 := by decide +kernel
def y_C_showsNoLeast : MethodName := ⟨"ConeForge", "showsNoLeast", "(D)Z"⟩
theorem dd_C_showsNoLeast : y_C_showsNoLeast.cls ≠ "java/lang/invoke/MethodHandle" ∧ y_C_showsNoLeast.cls ≠ "java/lang/invoke/VarHandle" ∧ (parseMethodDescriptor y_C_showsNoLeast.desc).map (fun d => d.parameters.length) = some 1 := by decide +kernel
def y_C_isAllowed : MethodName := ⟨"ConeForge", "isAllowed", "(D)Z"⟩
theorem dd_C_isAllowed : y_C_isAllowed.cls ≠ "java/lang/invoke/MethodHandle" ∧ y_C_isAllowed.cls ≠ "java/lang/invoke/VarHandle" ∧ (parseMethodDescriptor y_C_isAllowed.desc).map (fun d => d.parameters.length) = some 1 := by decide +kernel
def y_C_exchange : MethodName := ⟨"ConeForge", "exchange", "([DID)D"⟩
theorem dd_C_exchange : y_C_exchange.cls ≠ "java/lang/invoke/MethodHandle" ∧ y_C_exchange.cls ≠ "java/lang/invoke/VarHandle" ∧ (parseMethodDescriptor y_C_exchange.desc).map (fun d => d.parameters.length) = some 3 := by decide +kernel
def y_C_absolute : MethodName := ⟨"ConeForge", "absolute", "(D)D"⟩
theorem dd_C_absolute : y_C_absolute.cls ≠ "java/lang/invoke/MethodHandle" ∧ y_C_absolute.cls ≠ "java/lang/invoke/VarHandle" ∧ (parseMethodDescriptor y_C_absolute.desc).map (fun d => d.parameters.length) = some 1 := by decide +kernel
def y_C_greater : MethodName := ⟨"ConeForge", "greater", "(DD)D"⟩
theorem dd_C_greater : y_C_greater.cls ≠ "java/lang/invoke/MethodHandle" ∧ y_C_greater.cls ≠ "java/lang/invoke/VarHandle" ∧ (parseMethodDescriptor y_C_greater.desc).map (fun d => d.parameters.length) = some 2 := by decide +kernel
def y_C_greatestOf : MethodName := ⟨"ConeForge", "greatestOf", "([DI)D"⟩
theorem dd_C_greatestOf : y_C_greatestOf.cls ≠ "java/lang/invoke/MethodHandle" ∧ y_C_greatestOf.cls ≠ "java/lang/invoke/VarHandle" ∧ (parseMethodDescriptor y_C_greatestOf.desc).map (fun d => d.parameters.length) = some 2 := by decide +kernel
def y_Pb_init : MethodName := ⟨"ConeForge$Problem", "<init>", "()V"⟩
theorem dd_Pb_init : y_Pb_init.cls ≠ "java/lang/invoke/MethodHandle" ∧ y_Pb_init.cls ≠ "java/lang/invoke/VarHandle" ∧ (parseMethodDescriptor y_Pb_init.desc).map (fun d => d.parameters.length) = some 0 := by decide +kernel
def y_Pb_clear : MethodName := ⟨"ConeForge$Problem", "clear", "(II)V"⟩
theorem dd_Pb_clear : y_Pb_clear.cls ≠ "java/lang/invoke/MethodHandle" ∧ y_Pb_clear.cls ≠ "java/lang/invoke/VarHandle" ∧ (parseMethodDescriptor y_Pb_clear.desc).map (fun d => d.parameters.length) = some 2 := by decide +kernel
def y_Pb_copy : MethodName := ⟨"ConeForge$Problem", "copy", "(LConeForge$Problem;)V"⟩
theorem dd_Pb_copy : y_Pb_copy.cls ≠ "java/lang/invoke/MethodHandle" ∧ y_Pb_copy.cls ≠ "java/lang/invoke/VarHandle" ∧ (parseMethodDescriptor y_Pb_copy.desc).map (fun d => d.parameters.length) = some 1 := by decide +kernel
def y_Pb_nonZeros : MethodName := ⟨"ConeForge$Problem", "nonZeros", "()I"⟩
theorem dd_Pb_nonZeros : y_Pb_nonZeros.cls ≠ "java/lang/invoke/MethodHandle" ∧ y_Pb_nonZeros.cls ≠ "java/lang/invoke/VarHandle" ∧ (parseMethodDescriptor y_Pb_nonZeros.desc).map (fun d => d.parameters.length) = some 0 := by decide +kernel
def y_Pb_plusRow : MethodName := ⟨"ConeForge$Problem", "plusRow", "(DI[D)D"⟩
theorem dd_Pb_plusRow : y_Pb_plusRow.cls ≠ "java/lang/invoke/MethodHandle" ∧ y_Pb_plusRow.cls ≠ "java/lang/invoke/VarHandle" ∧ (parseMethodDescriptor y_Pb_plusRow.desc).map (fun d => d.parameters.length) = some 3 := by decide +kernel
def y_Pb_lessRow : MethodName := ⟨"ConeForge$Problem", "lessRow", "(DI[D)D"⟩
theorem dd_Pb_lessRow : y_Pb_lessRow.cls ≠ "java/lang/invoke/MethodHandle" ∧ y_Pb_lessRow.cls ≠ "java/lang/invoke/VarHandle" ∧ (parseMethodDescriptor y_Pb_lessRow.desc).map (fun d => d.parameters.length) = some 3 := by decide +kernel
def y_Pb_plusColumn : MethodName := ⟨"ConeForge$Problem", "plusColumn", "(DI[D)D"⟩
theorem dd_Pb_plusColumn : y_Pb_plusColumn.cls ≠ "java/lang/invoke/MethodHandle" ∧ y_Pb_plusColumn.cls ≠ "java/lang/invoke/VarHandle" ∧ (parseMethodDescriptor y_Pb_plusColumn.desc).map (fun d => d.parameters.length) = some 3 := by decide +kernel
def y_Pb_lessColumn : MethodName := ⟨"ConeForge$Problem", "lessColumn", "(DI[D)D"⟩
theorem dd_Pb_lessColumn : y_Pb_lessColumn.cls ≠ "java/lang/invoke/MethodHandle" ∧ y_Pb_lessColumn.cls ≠ "java/lang/invoke/VarHandle" ∧ (parseMethodDescriptor y_Pb_lessColumn.desc).map (fun d => d.parameters.length) = some 3 := by decide +kernel
def y_Pb_costOf : MethodName := ⟨"ConeForge$Problem", "costOf", "([D)D"⟩
theorem dd_Pb_costOf : y_Pb_costOf.cls ≠ "java/lang/invoke/MethodHandle" ∧ y_Pb_costOf.cls ≠ "java/lang/invoke/VarHandle" ∧ (parseMethodDescriptor y_Pb_costOf.desc).map (fun d => d.parameters.length) = some 1 := by decide +kernel
def y_Pb_worthOf : MethodName := ⟨"ConeForge$Problem", "worthOf", "([D)D"⟩
theorem dd_Pb_worthOf : y_Pb_worthOf.cls ≠ "java/lang/invoke/MethodHandle" ∧ y_Pb_worthOf.cls ≠ "java/lang/invoke/VarHandle" ∧ (parseMethodDescriptor y_Pb_worthOf.desc).map (fun d => d.parameters.length) = some 1 := by decide +kernel
def y_Pb_product : MethodName := ⟨"ConeForge$Problem", "product", "([D[DI)D"⟩
theorem dd_Pb_product : y_Pb_product.cls ≠ "java/lang/invoke/MethodHandle" ∧ y_Pb_product.cls ≠ "java/lang/invoke/VarHandle" ∧ (parseMethodDescriptor y_Pb_product.desc).map (fun d => d.parameters.length) = some 3 := by decide +kernel
def y_Pt_init : MethodName := ⟨"ConeForge$Point", "<init>", "()V"⟩
theorem dd_Pt_init : y_Pt_init.cls ≠ "java/lang/invoke/MethodHandle" ∧ y_Pt_init.cls ≠ "java/lang/invoke/VarHandle" ∧ (parseMethodDescriptor y_Pt_init.desc).map (fun d => d.parameters.length) = some 0 := by decide +kernel
def y_Pt_fill : MethodName := ⟨"ConeForge$Point", "fill", "(DD)V"⟩
theorem dd_Pt_fill : y_Pt_fill.cls ≠ "java/lang/invoke/MethodHandle" ∧ y_Pt_fill.cls ≠ "java/lang/invoke/VarHandle" ∧ (parseMethodDescriptor y_Pt_fill.desc).map (fun d => d.parameters.length) = some 2 := by decide +kernel
def y_Pt_complementarity : MethodName := ⟨"ConeForge$Point", "complementarity", "(I)D"⟩
theorem dd_Pt_complementarity : y_Pt_complementarity.cls ≠ "java/lang/invoke/MethodHandle" ∧ y_Pt_complementarity.cls ≠ "java/lang/invoke/VarHandle" ∧ (parseMethodDescriptor y_Pt_complementarity.desc).map (fun d => d.parameters.length) = some 1 := by decide +kernel
def y_Pt_deepest : MethodName := ⟨"ConeForge$Point", "deepest", "(I)D"⟩
theorem dd_Pt_deepest : y_Pt_deepest.cls ≠ "java/lang/invoke/MethodHandle" ∧ y_Pt_deepest.cls ≠ "java/lang/invoke/VarHandle" ∧ (parseMethodDescriptor y_Pt_deepest.desc).map (fun d => d.parameters.length) = some 1 := by decide +kernel
def y_Sc_init : MethodName := ⟨"ConeForge$Scales", "<init>", "()V"⟩
theorem dd_Sc_init : y_Sc_init.cls ≠ "java/lang/invoke/MethodHandle" ∧ y_Sc_init.cls ≠ "java/lang/invoke/VarHandle" ∧ (parseMethodDescriptor y_Sc_init.desc).map (fun d => d.parameters.length) = some 0 := by decide +kernel
def y_Sc_measure : MethodName := ⟨"ConeForge$Scales", "measure", "(LConeForge$Problem;Z)V"⟩
theorem dd_Sc_measure : y_Sc_measure.cls ≠ "java/lang/invoke/MethodHandle" ∧ y_Sc_measure.cls ≠ "java/lang/invoke/VarHandle" ∧ (parseMethodDescriptor y_Sc_measure.desc).map (fun d => d.parameters.length) = some 2 := by decide +kernel
def y_Sc_measureRows : MethodName := ⟨"ConeForge$Scales", "measureRows", "(LConeForge$Problem;)V"⟩
theorem dd_Sc_measureRows : y_Sc_measureRows.cls ≠ "java/lang/invoke/MethodHandle" ∧ y_Sc_measureRows.cls ≠ "java/lang/invoke/VarHandle" ∧ (parseMethodDescriptor y_Sc_measureRows.desc).map (fun d => d.parameters.length) = some 1 := by decide +kernel
def y_Sc_measureVariables : MethodName := ⟨"ConeForge$Scales", "measureVariables", "(LConeForge$Problem;)V"⟩
theorem dd_Sc_measureVariables : y_Sc_measureVariables.cls ≠ "java/lang/invoke/MethodHandle" ∧ y_Sc_measureVariables.cls ≠ "java/lang/invoke/VarHandle" ∧ (parseMethodDescriptor y_Sc_measureVariables.desc).map (fun d => d.parameters.length) = some 1 := by decide +kernel
def y_Sc_powerFor : MethodName := ⟨"ConeForge$Scales", "powerFor", "(D)D"⟩
theorem dd_Sc_powerFor : y_Sc_powerFor.cls ≠ "java/lang/invoke/MethodHandle" ∧ y_Sc_powerFor.cls ≠ "java/lang/invoke/VarHandle" ∧ (parseMethodDescriptor y_Sc_powerFor.desc).map (fun d => d.parameters.length) = some 1 := by decide +kernel
def y_Sc_apply : MethodName := ⟨"ConeForge$Scales", "apply", "(LConeForge$Problem;LConeForge$Problem;)V"⟩
theorem dd_Sc_apply : y_Sc_apply.cls ≠ "java/lang/invoke/MethodHandle" ∧ y_Sc_apply.cls ≠ "java/lang/invoke/VarHandle" ∧ (parseMethodDescriptor y_Sc_apply.desc).map (fun d => d.parameters.length) = some 2 := by decide +kernel
def y_Sc_unscale : MethodName := ⟨"ConeForge$Scales", "unscale", "(LConeForge$Point;LConeForge$Point;)V"⟩
theorem dd_Sc_unscale : y_Sc_unscale.cls ≠ "java/lang/invoke/MethodHandle" ∧ y_Sc_unscale.cls ≠ "java/lang/invoke/VarHandle" ∧ (parseMethodDescriptor y_Sc_unscale.desc).map (fun d => d.parameters.length) = some 2 := by decide +kernel
def y_Tr_init : MethodName := ⟨"ConeForge$TextReader", "<init>", "()V"⟩
theorem dd_Tr_init : y_Tr_init.cls ≠ "java/lang/invoke/MethodHandle" ∧ y_Tr_init.cls ≠ "java/lang/invoke/VarHandle" ∧ (parseMethodDescriptor y_Tr_init.desc).map (fun d => d.parameters.length) = some 0 := by decide +kernel
def y_Tr_byteOf : MethodName := ⟨"ConeForge$TextReader", "byteOf", "(JI)I"⟩
theorem dd_Tr_byteOf : y_Tr_byteOf.cls ≠ "java/lang/invoke/MethodHandle" ∧ y_Tr_byteOf.cls ≠ "java/lang/invoke/VarHandle" ∧ (parseMethodDescriptor y_Tr_byteOf.desc).map (fun d => d.parameters.length) = some 2 := by decide +kernel
def y_Tr_isReadable : MethodName := ⟨"ConeForge$TextReader", "isReadable", "(J)Z"⟩
theorem dd_Tr_isReadable : y_Tr_isReadable.cls ≠ "java/lang/invoke/MethodHandle" ∧ y_Tr_isReadable.cls ≠ "java/lang/invoke/VarHandle" ∧ (parseMethodDescriptor y_Tr_isReadable.desc).map (fun d => d.parameters.length) = some 1 := by decide +kernel
def y_Tr_charactersOf : MethodName := ⟨"ConeForge$TextReader", "charactersOf", "(J)I"⟩
theorem dd_Tr_charactersOf : y_Tr_charactersOf.cls ≠ "java/lang/invoke/MethodHandle" ∧ y_Tr_charactersOf.cls ≠ "java/lang/invoke/VarHandle" ∧ (parseMethodDescriptor y_Tr_charactersOf.desc).map (fun d => d.parameters.length) = some 1 := by decide +kernel
def y_Tr_append : MethodName := ⟨"ConeForge$TextReader", "append", "(J)Z"⟩
theorem dd_Tr_append : y_Tr_append.cls ≠ "java/lang/invoke/MethodHandle" ∧ y_Tr_append.cls ≠ "java/lang/invoke/VarHandle" ∧ (parseMethodDescriptor y_Tr_append.desc).map (fun d => d.parameters.length) = some 1 := by decide +kernel
def y_Tr_parse : MethodName := ⟨"ConeForge$TextReader", "parse", "()Z"⟩
theorem dd_Tr_parse : y_Tr_parse.cls ≠ "java/lang/invoke/MethodHandle" ∧ y_Tr_parse.cls ≠ "java/lang/invoke/VarHandle" ∧ (parseMethodDescriptor y_Tr_parse.desc).map (fun d => d.parameters.length) = some 0 := by decide +kernel
def y_Tr_parseSize : MethodName := ⟨"ConeForge$TextReader", "parseSize", "()Z"⟩
theorem dd_Tr_parseSize : y_Tr_parseSize.cls ≠ "java/lang/invoke/MethodHandle" ∧ y_Tr_parseSize.cls ≠ "java/lang/invoke/VarHandle" ∧ (parseMethodDescriptor y_Tr_parseSize.desc).map (fun d => d.parameters.length) = some 0 := by decide +kernel
def y_Tr_parseList : MethodName := ⟨"ConeForge$TextReader", "parseList", "([DI)Z"⟩
theorem dd_Tr_parseList : y_Tr_parseList.cls ≠ "java/lang/invoke/MethodHandle" ∧ y_Tr_parseList.cls ≠ "java/lang/invoke/VarHandle" ∧ (parseMethodDescriptor y_Tr_parseList.desc).map (fun d => d.parameters.length) = some 2 := by decide +kernel
def y_Tr_parseEntries : MethodName := ⟨"ConeForge$TextReader", "parseEntries", "()Z"⟩
theorem dd_Tr_parseEntries : y_Tr_parseEntries.cls ≠ "java/lang/invoke/MethodHandle" ∧ y_Tr_parseEntries.cls ≠ "java/lang/invoke/VarHandle" ∧ (parseMethodDescriptor y_Tr_parseEntries.desc).map (fun d => d.parameters.length) = some 0 := by decide +kernel
def y_Tr_parseWhole : MethodName := ⟨"ConeForge$TextReader", "parseWhole", "(I)Z"⟩
theorem dd_Tr_parseWhole : y_Tr_parseWhole.cls ≠ "java/lang/invoke/MethodHandle" ∧ y_Tr_parseWhole.cls ≠ "java/lang/invoke/VarHandle" ∧ (parseMethodDescriptor y_Tr_parseWhole.desc).map (fun d => d.parameters.length) = some 1 := by decide +kernel
def y_Tr_parseValue : MethodName := ⟨"ConeForge$TextReader", "parseValue", "()Z"⟩
theorem dd_Tr_parseValue : y_Tr_parseValue.cls ≠ "java/lang/invoke/MethodHandle" ∧ y_Tr_parseValue.cls ≠ "java/lang/invoke/VarHandle" ∧ (parseMethodDescriptor y_Tr_parseValue.desc).map (fun d => d.parameters.length) = some 0 := by decide +kernel
def y_Tr_parseNumber : MethodName := ⟨"ConeForge$TextReader", "parseNumber", "(Z)Z"⟩
theorem dd_Tr_parseNumber : y_Tr_parseNumber.cls ≠ "java/lang/invoke/MethodHandle" ∧ y_Tr_parseNumber.cls ≠ "java/lang/invoke/VarHandle" ∧ (parseMethodDescriptor y_Tr_parseNumber.desc).map (fun d => d.parameters.length) = some 1 := by decide +kernel
def y_Tr_reachNumber : MethodName := ⟨"ConeForge$TextReader", "reachNumber", "()Z"⟩
theorem dd_Tr_reachNumber : y_Tr_reachNumber.cls ≠ "java/lang/invoke/MethodHandle" ∧ y_Tr_reachNumber.cls ≠ "java/lang/invoke/VarHandle" ∧ (parseMethodDescriptor y_Tr_reachNumber.desc).map (fun d => d.parameters.length) = some 0 := by decide +kernel
def y_Tr_beginsLine : MethodName := ⟨"ConeForge$TextReader", "beginsLine", "()Z"⟩
theorem dd_Tr_beginsLine : y_Tr_beginsLine.cls ≠ "java/lang/invoke/MethodHandle" ∧ y_Tr_beginsLine.cls ≠ "java/lang/invoke/VarHandle" ∧ (parseMethodDescriptor y_Tr_beginsLine.desc).map (fun d => d.parameters.length) = some 0 := by decide +kernel
def y_Tr_skip : MethodName := ⟨"ConeForge$TextReader", "skip", "(C)Z"⟩
theorem dd_Tr_skip : y_Tr_skip.cls ≠ "java/lang/invoke/MethodHandle" ∧ y_Tr_skip.cls ≠ "java/lang/invoke/VarHandle" ∧ (parseMethodDescriptor y_Tr_skip.desc).map (fun d => d.parameters.length) = some 1 := by decide +kernel
def y_Tr_takeDigits : MethodName := ⟨"ConeForge$TextReader", "takeDigits", "(I)I"⟩
theorem dd_Tr_takeDigits : y_Tr_takeDigits.cls ≠ "java/lang/invoke/MethodHandle" ∧ y_Tr_takeDigits.cls ≠ "java/lang/invoke/VarHandle" ∧ (parseMethodDescriptor y_Tr_takeDigits.desc).map (fun d => d.parameters.length) = some 1 := by decide +kernel
def y_Tr_failAt : MethodName := ⟨"ConeForge$TextReader", "failAt", "(I)Z"⟩
theorem dd_Tr_failAt : y_Tr_failAt.cls ≠ "java/lang/invoke/MethodHandle" ∧ y_Tr_failAt.cls ≠ "java/lang/invoke/VarHandle" ∧ (parseMethodDescriptor y_Tr_failAt.desc).map (fun d => d.parameters.length) = some 1 := by decide +kernel
def y_Fm_init : MethodName := ⟨"ConeForge$FactoredMatrix", "<init>", "()V"⟩
theorem dd_Fm_init : y_Fm_init.cls ≠ "java/lang/invoke/MethodHandle" ∧ y_Fm_init.cls ≠ "java/lang/invoke/VarHandle" ∧ (parseMethodDescriptor y_Fm_init.desc).map (fun d => d.parameters.length) = some 0 := by decide +kernel
def y_Fm_gather : MethodName := ⟨"ConeForge$FactoredMatrix", "gather", "(LConeForge$Problem;[D)V"⟩
theorem dd_Fm_gather : y_Fm_gather.cls ≠ "java/lang/invoke/MethodHandle" ∧ y_Fm_gather.cls ≠ "java/lang/invoke/VarHandle" ∧ (parseMethodDescriptor y_Fm_gather.desc).map (fun d => d.parameters.length) = some 2 := by decide +kernel
def y_Fm_factor : MethodName := ⟨"ConeForge$FactoredMatrix", "factor", "(I)Z"⟩
theorem dd_Fm_factor : y_Fm_factor.cls ≠ "java/lang/invoke/MethodHandle" ∧ y_Fm_factor.cls ≠ "java/lang/invoke/VarHandle" ∧ (parseMethodDescriptor y_Fm_factor.desc).map (fun d => d.parameters.length) = some 1 := by decide +kernel
def y_Fm_reduced : MethodName := ⟨"ConeForge$FactoredMatrix", "reduced", "(II)D"⟩
theorem dd_Fm_reduced : y_Fm_reduced.cls ≠ "java/lang/invoke/MethodHandle" ∧ y_Fm_reduced.cls ≠ "java/lang/invoke/VarHandle" ∧ (parseMethodDescriptor y_Fm_reduced.desc).map (fun d => d.parameters.length) = some 2 := by decide +kernel
def y_Fm_solve : MethodName := ⟨"ConeForge$FactoredMatrix", "solve", "([D[DI)V"⟩
theorem dd_Fm_solve : y_Fm_solve.cls ≠ "java/lang/invoke/MethodHandle" ∧ y_Fm_solve.cls ≠ "java/lang/invoke/VarHandle" ∧ (parseMethodDescriptor y_Fm_solve.desc).map (fun d => d.parameters.length) = some 3 := by decide +kernel
def y_Im_init : MethodName := ⟨"ConeForge$InteriorMethod", "<init>", "()V"⟩
theorem dd_Im_init : y_Im_init.cls ≠ "java/lang/invoke/MethodHandle" ∧ y_Im_init.cls ≠ "java/lang/invoke/VarHandle" ∧ (parseMethodDescriptor y_Im_init.desc).map (fun d => d.parameters.length) = some 0 := by decide +kernel
def y_Im_solve : MethodName := ⟨"ConeForge$InteriorMethod", "solve", "(I)I"⟩
theorem dd_Im_solve : y_Im_solve.cls ≠ "java/lang/invoke/MethodHandle" ∧ y_Im_solve.cls ≠ "java/lang/invoke/VarHandle" ∧ (parseMethodDescriptor y_Im_solve.desc).map (fun d => d.parameters.length) = some 1 := by decide +kernel
def y_Im_measure : MethodName := ⟨"ConeForge$InteriorMethod", "measure", "()V"⟩
theorem dd_Im_measure : y_Im_measure.cls ≠ "java/lang/invoke/MethodHandle" ∧ y_Im_measure.cls ≠ "java/lang/invoke/VarHandle" ∧ (parseMethodDescriptor y_Im_measure.desc).map (fun d => d.parameters.length) = some 0 := by decide +kernel
def y_Im_isSolved : MethodName := ⟨"ConeForge$InteriorMethod", "isSolved", "()Z"⟩
theorem dd_Im_isSolved : y_Im_isSolved.cls ≠ "java/lang/invoke/MethodHandle" ∧ y_Im_isSolved.cls ≠ "java/lang/invoke/VarHandle" ∧ (parseMethodDescriptor y_Im_isSolved.desc).map (fun d => d.parameters.length) = some 0 := by decide +kernel
def y_Im_isLost : MethodName := ⟨"ConeForge$InteriorMethod", "isLost", "()Z"⟩
theorem dd_Im_isLost : y_Im_isLost.cls ≠ "java/lang/invoke/MethodHandle" ∧ y_Im_isLost.cls ≠ "java/lang/invoke/VarHandle" ∧ (parseMethodDescriptor y_Im_isLost.desc).map (fun d => d.parameters.length) = some 0 := by decide +kernel
def y_Im_isOutside : MethodName := ⟨"ConeForge$InteriorMethod", "isOutside", "(D)Z"⟩
theorem dd_Im_isOutside : y_Im_isOutside.cls ≠ "java/lang/invoke/MethodHandle" ∧ y_Im_isOutside.cls ≠ "java/lang/invoke/VarHandle" ∧ (parseMethodDescriptor y_Im_isOutside.desc).map (fun d => d.parameters.length) = some 1 := by decide +kernel
def y_Im_findStep : MethodName := ⟨"ConeForge$InteriorMethod", "findStep", "()Z"⟩
theorem dd_Im_findStep : y_Im_findStep.cls ≠ "java/lang/invoke/MethodHandle" ∧ y_Im_findStep.cls ≠ "java/lang/invoke/VarHandle" ∧ (parseMethodDescriptor y_Im_findStep.desc).map (fun d => d.parameters.length) = some 0 := by decide +kernel
def y_Im_goStep : MethodName := ⟨"ConeForge$InteriorMethod", "goStep", "()V"⟩
theorem dd_Im_goStep : y_Im_goStep.cls ≠ "java/lang/invoke/MethodHandle" ∧ y_Im_goStep.cls ≠ "java/lang/invoke/VarHandle" ∧ (parseMethodDescriptor y_Im_goStep.desc).map (fun d => d.parameters.length) = some 0 := by decide +kernel
def y_Im_longest : MethodName := ⟨"ConeForge$InteriorMethod", "longest", "([D[D)D"⟩
theorem dd_Im_longest : y_Im_longest.cls ≠ "java/lang/invoke/MethodHandle" ∧ y_Im_longest.cls ≠ "java/lang/invoke/VarHandle" ∧ (parseMethodDescriptor y_Im_longest.desc).map (fun d => d.parameters.length) = some 2 := by decide +kernel
def y_Sm_init : MethodName := ⟨"ConeForge$SimplexMethod", "<init>", "()V"⟩
theorem dd_Sm_init : y_Sm_init.cls ≠ "java/lang/invoke/MethodHandle" ∧ y_Sm_init.cls ≠ "java/lang/invoke/VarHandle" ∧ (parseMethodDescriptor y_Sm_init.desc).map (fun d => d.parameters.length) = some 0 := by decide +kernel
def y_Sm_solve : MethodName := ⟨"ConeForge$SimplexMethod", "solve", "()I"⟩
theorem dd_Sm_solve : y_Sm_solve.cls ≠ "java/lang/invoke/MethodHandle" ∧ y_Sm_solve.cls ≠ "java/lang/invoke/VarHandle" ∧ (parseMethodDescriptor y_Sm_solve.desc).map (fun d => d.parameters.length) = some 0 := by decide +kernel
def y_Sm_fillTable : MethodName := ⟨"ConeForge$SimplexMethod", "fillTable", "()V"⟩
theorem dd_Sm_fillTable : y_Sm_fillTable.cls ≠ "java/lang/invoke/MethodHandle" ∧ y_Sm_fillTable.cls ≠ "java/lang/invoke/VarHandle" ∧ (parseMethodDescriptor y_Sm_fillTable.desc).map (fun d => d.parameters.length) = some 0 := by decide +kernel
def y_Sm_signOf : MethodName := ⟨"ConeForge$SimplexMethod", "signOf", "(I)D"⟩
theorem dd_Sm_signOf : y_Sm_signOf.cls ≠ "java/lang/invoke/MethodHandle" ∧ y_Sm_signOf.cls ≠ "java/lang/invoke/VarHandle" ∧ (parseMethodDescriptor y_Sm_signOf.desc).map (fun d => d.parameters.length) = some 1 := by decide +kernel
def y_Sm_setCosts : MethodName := ⟨"ConeForge$SimplexMethod", "setCosts", "(Z)V"⟩
theorem dd_Sm_setCosts : y_Sm_setCosts.cls ≠ "java/lang/invoke/MethodHandle" ∧ y_Sm_setCosts.cls ≠ "java/lang/invoke/VarHandle" ∧ (parseMethodDescriptor y_Sm_setCosts.desc).map (fun d => d.parameters.length) = some 1 := by decide +kernel
def y_Sm_runPhase : MethodName := ⟨"ConeForge$SimplexMethod", "runPhase", "(Z)I"⟩
theorem dd_Sm_runPhase : y_Sm_runPhase.cls ≠ "java/lang/invoke/MethodHandle" ∧ y_Sm_runPhase.cls ≠ "java/lang/invoke/VarHandle" ∧ (parseMethodDescriptor y_Sm_runPhase.desc).map (fun d => d.parameters.length) = some 1 := by decide +kernel
def y_Sm_incoming : MethodName := ⟨"ConeForge$SimplexMethod", "incoming", "()I"⟩
theorem dd_Sm_incoming : y_Sm_incoming.cls ≠ "java/lang/invoke/MethodHandle" ∧ y_Sm_incoming.cls ≠ "java/lang/invoke/VarHandle" ∧ (parseMethodDescriptor y_Sm_incoming.desc).map (fun d => d.parameters.length) = some 0 := by decide +kernel
def y_Sm_outgoing : MethodName := ⟨"ConeForge$SimplexMethod", "outgoing", "(IZ)I"⟩
theorem dd_Sm_outgoing : y_Sm_outgoing.cls ≠ "java/lang/invoke/MethodHandle" ∧ y_Sm_outgoing.cls ≠ "java/lang/invoke/VarHandle" ∧ (parseMethodDescriptor y_Sm_outgoing.desc).map (fun d => d.parameters.length) = some 2 := by decide +kernel
def y_Sm_leftover : MethodName := ⟨"ConeForge$SimplexMethod", "leftover", "(I)I"⟩
theorem dd_Sm_leftover : y_Sm_leftover.cls ≠ "java/lang/invoke/MethodHandle" ∧ y_Sm_leftover.cls ≠ "java/lang/invoke/VarHandle" ∧ (parseMethodDescriptor y_Sm_leftover.desc).map (fun d => d.parameters.length) = some 1 := by decide +kernel
def y_Sm_tightest : MethodName := ⟨"ConeForge$SimplexMethod", "tightest", "(I)I"⟩
theorem dd_Sm_tightest : y_Sm_tightest.cls ≠ "java/lang/invoke/MethodHandle" ∧ y_Sm_tightest.cls ≠ "java/lang/invoke/VarHandle" ∧ (parseMethodDescriptor y_Sm_tightest.desc).map (fun d => d.parameters.length) = some 1 := by decide +kernel
def y_Sm_pivot : MethodName := ⟨"ConeForge$SimplexMethod", "pivot", "(II)V"⟩
theorem dd_Sm_pivot : y_Sm_pivot.cls ≠ "java/lang/invoke/MethodHandle" ∧ y_Sm_pivot.cls ≠ "java/lang/invoke/VarHandle" ∧ (parseMethodDescriptor y_Sm_pivot.desc).map (fun d => d.parameters.length) = some 2 := by decide +kernel
def y_Sm_takeAway : MethodName := ⟨"ConeForge$SimplexMethod", "takeAway", "(IID)V"⟩
theorem dd_Sm_takeAway : y_Sm_takeAway.cls ≠ "java/lang/invoke/MethodHandle" ∧ y_Sm_takeAway.cls ≠ "java/lang/invoke/VarHandle" ∧ (parseMethodDescriptor y_Sm_takeAway.desc).map (fun d => d.parameters.length) = some 3 := by decide +kernel
def y_Sm_isOvergrown : MethodName := ⟨"ConeForge$SimplexMethod", "isOvergrown", "()Z"⟩
theorem dd_Sm_isOvergrown : y_Sm_isOvergrown.cls ≠ "java/lang/invoke/MethodHandle" ∧ y_Sm_isOvergrown.cls ≠ "java/lang/invoke/VarHandle" ∧ (parseMethodDescriptor y_Sm_isOvergrown.desc).map (fun d => d.parameters.length) = some 0 := by decide +kernel
def y_Sm_costOfBasis : MethodName := ⟨"ConeForge$SimplexMethod", "costOfBasis", "()D"⟩
theorem dd_Sm_costOfBasis : y_Sm_costOfBasis.cls ≠ "java/lang/invoke/MethodHandle" ∧ y_Sm_costOfBasis.cls ≠ "java/lang/invoke/VarHandle" ∧ (parseMethodDescriptor y_Sm_costOfBasis.desc).map (fun d => d.parameters.length) = some 0 := by decide +kernel
def y_Sm_tellPrices : MethodName := ⟨"ConeForge$SimplexMethod", "tellPrices", "()V"⟩
theorem dd_Sm_tellPrices : y_Sm_tellPrices.cls ≠ "java/lang/invoke/MethodHandle" ∧ y_Sm_tellPrices.cls ≠ "java/lang/invoke/VarHandle" ∧ (parseMethodDescriptor y_Sm_tellPrices.desc).map (fun d => d.parameters.length) = some 0 := by decide +kernel
def y_Sm_tellSolution : MethodName := ⟨"ConeForge$SimplexMethod", "tellSolution", "()V"⟩
theorem dd_Sm_tellSolution : y_Sm_tellSolution.cls ≠ "java/lang/invoke/MethodHandle" ∧ y_Sm_tellSolution.cls ≠ "java/lang/invoke/VarHandle" ∧ (parseMethodDescriptor y_Sm_tellSolution.desc).map (fun d => d.parameters.length) = some 0 := by decide +kernel
def y_Sm_tellRay : MethodName := ⟨"ConeForge$SimplexMethod", "tellRay", "(I)V"⟩
theorem dd_Sm_tellRay : y_Sm_tellRay.cls ≠ "java/lang/invoke/MethodHandle" ∧ y_Sm_tellRay.cls ≠ "java/lang/invoke/VarHandle" ∧ (parseMethodDescriptor y_Sm_tellRay.desc).map (fun d => d.parameters.length) = some 1 := by decide +kernel
def y_M_init : MethodName := ⟨"ConeForgeModel", "<init>", "()V"⟩
theorem dd_M_init : y_M_init.cls ≠ "java/lang/invoke/MethodHandle" ∧ y_M_init.cls ≠ "java/lang/invoke/VarHandle" ∧ (parseMethodDescriptor y_M_init.desc).map (fun d => d.parameters.length) = some 0 := by decide +kernel
def y_M_thrown : MethodName := ⟨"ConeForgeModel", "thrown", "()I"⟩
theorem dd_M_thrown : y_M_thrown.cls ≠ "java/lang/invoke/MethodHandle" ∧ y_M_thrown.cls ≠ "java/lang/invoke/VarHandle" ∧ (parseMethodDescriptor y_M_thrown.desc).map (fun d => d.parameters.length) = some 0 := by decide +kernel
def y_M_in : MethodName := ⟨"ConeForgeModel", "in", "(III)Z"⟩
theorem dd_M_in : y_M_in.cls ≠ "java/lang/invoke/MethodHandle" ∧ y_M_in.cls ≠ "java/lang/invoke/VarHandle" ∧ (parseMethodDescriptor y_M_in.desc).map (fun d => d.parameters.length) = some 3 := by decide +kernel
def y_M_abs : MethodName := ⟨"ConeForgeModel", "abs", "(D)D"⟩
theorem dd_M_abs : y_M_abs.cls ≠ "java/lang/invoke/MethodHandle" ∧ y_M_abs.cls ≠ "java/lang/invoke/VarHandle" ∧ (parseMethodDescriptor y_M_abs.desc).map (fun d => d.parameters.length) = some 1 := by decide +kernel
def y_M_max : MethodName := ⟨"ConeForgeModel", "max", "(DD)D"⟩
theorem dd_M_max : y_M_max.cls ≠ "java/lang/invoke/MethodHandle" ∧ y_M_max.cls ≠ "java/lang/invoke/VarHandle" ∧ (parseMethodDescriptor y_M_max.desc).map (fun d => d.parameters.length) = some 2 := by decide +kernel
def y_M_begin : MethodName := ⟨"ConeForgeModel", "begin", "(II)I"⟩
theorem dd_M_begin : y_M_begin.cls ≠ "java/lang/invoke/MethodHandle" ∧ y_M_begin.cls ≠ "java/lang/invoke/VarHandle" ∧ (parseMethodDescriptor y_M_begin.desc).map (fun d => d.parameters.length) = some 2 := by decide +kernel
def y_M_set : MethodName := ⟨"ConeForgeModel", "set", "(IIID)D"⟩
theorem dd_M_set : y_M_set.cls ≠ "java/lang/invoke/MethodHandle" ∧ y_M_set.cls ≠ "java/lang/invoke/VarHandle" ∧ (parseMethodDescriptor y_M_set.desc).map (fun d => d.parameters.length) = some 4 := by decide +kernel
def y_M_scaling : MethodName := ⟨"ConeForgeModel", "scaling", "(Z)Z"⟩
theorem dd_M_scaling : y_M_scaling.cls ≠ "java/lang/invoke/MethodHandle" ∧ y_M_scaling.cls ≠ "java/lang/invoke/VarHandle" ∧ (parseMethodDescriptor y_M_scaling.desc).map (fun d => d.parameters.length) = some 1 := by decide +kernel
def y_M_text : MethodName := ⟨"ConeForgeModel", "text", "(J)I"⟩
theorem dd_M_text : y_M_text.cls ≠ "java/lang/invoke/MethodHandle" ∧ y_M_text.cls ≠ "java/lang/invoke/VarHandle" ∧ (parseMethodDescriptor y_M_text.desc).map (fun d => d.parameters.length) = some 1 := by decide +kernel
def y_M_here : MethodName := ⟨"ConeForgeModel", "here", "()I"⟩
theorem dd_M_here : y_M_here.cls ≠ "java/lang/invoke/MethodHandle" ∧ y_M_here.cls ≠ "java/lang/invoke/VarHandle" ∧ (parseMethodDescriptor y_M_here.desc).map (fun d => d.parameters.length) = some 0 := by decide +kernel
def y_M_isDigit : MethodName := ⟨"ConeForgeModel", "isDigit", "()Z"⟩
theorem dd_M_isDigit : y_M_isDigit.cls ≠ "java/lang/invoke/MethodHandle" ∧ y_M_isDigit.cls ≠ "java/lang/invoke/VarHandle" ∧ (parseMethodDescriptor y_M_isDigit.desc).map (fun d => d.parameters.length) = some 0 := by decide +kernel
def y_M_skip : MethodName := ⟨"ConeForgeModel", "skip", "()V"⟩
theorem dd_M_skip : y_M_skip.cls ≠ "java/lang/invoke/MethodHandle" ∧ y_M_skip.cls ≠ "java/lang/invoke/VarHandle" ∧ (parseMethodDescriptor y_M_skip.desc).map (fun d => d.parameters.length) = some 0 := by decide +kernel
def y_M_fail : MethodName := ⟨"ConeForgeModel", "fail", "(I)V"⟩
theorem dd_M_fail : y_M_fail.cls ≠ "java/lang/invoke/MethodHandle" ∧ y_M_fail.cls ≠ "java/lang/invoke/VarHandle" ∧ (parseMethodDescriptor y_M_fail.desc).map (fun d => d.parameters.length) = some 1 := by decide +kernel
def y_M_digits : MethodName := ⟨"ConeForgeModel", "digits", "(I)I"⟩
theorem dd_M_digits : y_M_digits.cls ≠ "java/lang/invoke/MethodHandle" ∧ y_M_digits.cls ≠ "java/lang/invoke/VarHandle" ∧ (parseMethodDescriptor y_M_digits.desc).map (fun d => d.parameters.length) = some 1 := by decide +kernel
def y_M_next : MethodName := ⟨"ConeForgeModel", "next", "(ZDD)V"⟩
theorem dd_M_next : y_M_next.cls ≠ "java/lang/invoke/MethodHandle" ∧ y_M_next.cls ≠ "java/lang/invoke/VarHandle" ∧ (parseMethodDescriptor y_M_next.desc).map (fun d => d.parameters.length) = some 3 := by decide +kernel
def y_M_readAll : MethodName := ⟨"ConeForgeModel", "readAll", "()I"⟩
theorem dd_M_readAll : y_M_readAll.cls ≠ "java/lang/invoke/MethodHandle" ∧ y_M_readAll.cls ≠ "java/lang/invoke/VarHandle" ∧ (parseMethodDescriptor y_M_readAll.desc).map (fun d => d.parameters.length) = some 0 := by decide +kernel
def y_M_read : MethodName := ⟨"ConeForgeModel", "read", "()I"⟩
theorem dd_M_read : y_M_read.cls ≠ "java/lang/invoke/MethodHandle" ∧ y_M_read.cls ≠ "java/lang/invoke/VarHandle" ∧ (parseMethodDescriptor y_M_read.desc).map (fun d => d.parameters.length) = some 0 := by decide +kernel
def y_M_where : MethodName := ⟨"ConeForgeModel", "where", "()I"⟩
theorem dd_M_where : y_M_where.cls ≠ "java/lang/invoke/MethodHandle" ∧ y_M_where.cls ≠ "java/lang/invoke/VarHandle" ∧ (parseMethodDescriptor y_M_where.desc).map (fun d => d.parameters.length) = some 0 := by decide +kernel
def y_M_power : MethodName := ⟨"ConeForgeModel", "power", "(D)D"⟩
theorem dd_M_power : y_M_power.cls ≠ "java/lang/invoke/MethodHandle" ∧ y_M_power.cls ≠ "java/lang/invoke/VarHandle" ∧ (parseMethodDescriptor y_M_power.desc).map (fun d => d.parameters.length) = some 1 := by decide +kernel
def y_M_rescale : MethodName := ⟨"ConeForgeModel", "rescale", "()V"⟩
theorem dd_M_rescale : y_M_rescale.cls ≠ "java/lang/invoke/MethodHandle" ∧ y_M_rescale.cls ≠ "java/lang/invoke/VarHandle" ∧ (parseMethodDescriptor y_M_rescale.desc).map (fun d => d.parameters.length) = some 0 := by decide +kernel
def y_M_back : MethodName := ⟨"ConeForgeModel", "back", "()V"⟩
theorem dd_M_back : y_M_back.cls ≠ "java/lang/invoke/MethodHandle" ∧ y_M_back.cls ≠ "java/lang/invoke/VarHandle" ∧ (parseMethodDescriptor y_M_back.desc).map (fun d => d.parameters.length) = some 0 := by decide +kernel
def y_M_measure : MethodName := ⟨"ConeForgeModel", "measure", "()D"⟩
theorem dd_M_measure : y_M_measure.cls ≠ "java/lang/invoke/MethodHandle" ∧ y_M_measure.cls ≠ "java/lang/invoke/VarHandle" ∧ (parseMethodDescriptor y_M_measure.desc).map (fun d => d.parameters.length) = some 0 := by decide +kernel
def y_M_isSolved : MethodName := ⟨"ConeForgeModel", "isSolved", "(D)Z"⟩
theorem dd_M_isSolved : y_M_isSolved.cls ≠ "java/lang/invoke/MethodHandle" ∧ y_M_isSolved.cls ≠ "java/lang/invoke/VarHandle" ∧ (parseMethodDescriptor y_M_isSolved.desc).map (fun d => d.parameters.length) = some 1 := by decide +kernel
def y_M_isLost : MethodName := ⟨"ConeForgeModel", "isLost", "()Z"⟩
theorem dd_M_isLost : y_M_isLost.cls ≠ "java/lang/invoke/MethodHandle" ∧ y_M_isLost.cls ≠ "java/lang/invoke/VarHandle" ∧ (parseMethodDescriptor y_M_isLost.desc).map (fun d => d.parameters.length) = some 0 := by decide +kernel
def y_M_factor : MethodName := ⟨"ConeForgeModel", "factor", "()Z"⟩
theorem dd_M_factor : y_M_factor.cls ≠ "java/lang/invoke/MethodHandle" ∧ y_M_factor.cls ≠ "java/lang/invoke/VarHandle" ∧ (parseMethodDescriptor y_M_factor.desc).map (fun d => d.parameters.length) = some 0 := by decide +kernel
def y_M_solve : MethodName := ⟨"ConeForgeModel", "solve", "()V"⟩
theorem dd_M_solve : y_M_solve.cls ≠ "java/lang/invoke/MethodHandle" ∧ y_M_solve.cls ≠ "java/lang/invoke/VarHandle" ∧ (parseMethodDescriptor y_M_solve.desc).map (fun d => d.parameters.length) = some 0 := by decide +kernel
def y_M_prepare : MethodName := ⟨"ConeForgeModel", "prepare", "(D)V"⟩
theorem dd_M_prepare : y_M_prepare.cls ≠ "java/lang/invoke/MethodHandle" ∧ y_M_prepare.cls ≠ "java/lang/invoke/VarHandle" ∧ (parseMethodDescriptor y_M_prepare.desc).map (fun d => d.parameters.length) = some 1 := by decide +kernel
def y_M_move : MethodName := ⟨"ConeForgeModel", "move", "(D)V"⟩
theorem dd_M_move : y_M_move.cls ≠ "java/lang/invoke/MethodHandle" ∧ y_M_move.cls ≠ "java/lang/invoke/VarHandle" ∧ (parseMethodDescriptor y_M_move.desc).map (fun d => d.parameters.length) = some 1 := by decide +kernel
def y_M_interior : MethodName := ⟨"ConeForgeModel", "interior", "(I)I"⟩
theorem dd_M_interior : y_M_interior.cls ≠ "java/lang/invoke/MethodHandle" ∧ y_M_interior.cls ≠ "java/lang/invoke/VarHandle" ∧ (parseMethodDescriptor y_M_interior.desc).map (fun d => d.parameters.length) = some 1 := by decide +kernel
def y_M_table : MethodName := ⟨"ConeForgeModel", "table", "()V"⟩
theorem dd_M_table : y_M_table.cls ≠ "java/lang/invoke/MethodHandle" ∧ y_M_table.cls ≠ "java/lang/invoke/VarHandle" ∧ (parseMethodDescriptor y_M_table.desc).map (fun d => d.parameters.length) = some 0 := by decide +kernel
def y_M_entering : MethodName := ⟨"ConeForgeModel", "entering", "()I"⟩
theorem dd_M_entering : y_M_entering.cls ≠ "java/lang/invoke/MethodHandle" ∧ y_M_entering.cls ≠ "java/lang/invoke/VarHandle" ∧ (parseMethodDescriptor y_M_entering.desc).map (fun d => d.parameters.length) = some 0 := by decide +kernel
def y_M_leaving : MethodName := ⟨"ConeForgeModel", "leaving", "(I)I"⟩
theorem dd_M_leaving : y_M_leaving.cls ≠ "java/lang/invoke/MethodHandle" ∧ y_M_leaving.cls ≠ "java/lang/invoke/VarHandle" ∧ (parseMethodDescriptor y_M_leaving.desc).map (fun d => d.parameters.length) = some 1 := by decide +kernel
def y_M_isUsed : MethodName := ⟨"ConeForgeModel", "isUsed", "(I)Z"⟩
theorem dd_M_isUsed : y_M_isUsed.cls ≠ "java/lang/invoke/MethodHandle" ∧ y_M_isUsed.cls ≠ "java/lang/invoke/VarHandle" ∧ (parseMethodDescriptor y_M_isUsed.desc).map (fun d => d.parameters.length) = some 1 := by decide +kernel
def y_M_pivot : MethodName := ⟨"ConeForgeModel", "pivot", "(II)V"⟩
theorem dd_M_pivot : y_M_pivot.cls ≠ "java/lang/invoke/MethodHandle" ∧ y_M_pivot.cls ≠ "java/lang/invoke/VarHandle" ∧ (parseMethodDescriptor y_M_pivot.desc).map (fun d => d.parameters.length) = some 2 := by decide +kernel
def y_M_isWild : MethodName := ⟨"ConeForgeModel", "isWild", "()Z"⟩
theorem dd_M_isWild : y_M_isWild.cls ≠ "java/lang/invoke/MethodHandle" ∧ y_M_isWild.cls ≠ "java/lang/invoke/VarHandle" ∧ (parseMethodDescriptor y_M_isWild.desc).map (fun d => d.parameters.length) = some 0 := by decide +kernel
def y_M_clear : MethodName := ⟨"ConeForgeModel", "clear", "()V"⟩
theorem dd_M_clear : y_M_clear.cls ≠ "java/lang/invoke/MethodHandle" ∧ y_M_clear.cls ≠ "java/lang/invoke/VarHandle" ∧ (parseMethodDescriptor y_M_clear.desc).map (fun d => d.parameters.length) = some 0 := by decide +kernel
def y_M_phase : MethodName := ⟨"ConeForgeModel", "phase", "()I"⟩
theorem dd_M_phase : y_M_phase.cls ≠ "java/lang/invoke/MethodHandle" ∧ y_M_phase.cls ≠ "java/lang/invoke/VarHandle" ∧ (parseMethodDescriptor y_M_phase.desc).map (fun d => d.parameters.length) = some 0 := by decide +kernel
def y_M_multipliers : MethodName := ⟨"ConeForgeModel", "multipliers", "()V"⟩
theorem dd_M_multipliers : y_M_multipliers.cls ≠ "java/lang/invoke/MethodHandle" ∧ y_M_multipliers.cls ≠ "java/lang/invoke/VarHandle" ∧ (parseMethodDescriptor y_M_multipliers.desc).map (fun d => d.parameters.length) = some 0 := by decide +kernel
def y_M_solveByTable : MethodName := ⟨"ConeForgeModel", "solveByTable", "()I"⟩
theorem dd_M_solveByTable : y_M_solveByTable.cls ≠ "java/lang/invoke/MethodHandle" ∧ y_M_solveByTable.cls ≠ "java/lang/invoke/VarHandle" ∧ (parseMethodDescriptor y_M_solveByTable.desc).map (fun d => d.parameters.length) = some 0 := by decide +kernel
def y_M_simplex : MethodName := ⟨"ConeForgeModel", "simplex", "()I"⟩
theorem dd_M_simplex : y_M_simplex.cls ≠ "java/lang/invoke/MethodHandle" ∧ y_M_simplex.cls ≠ "java/lang/invoke/VarHandle" ∧ (parseMethodDescriptor y_M_simplex.desc).map (fun d => d.parameters.length) = some 0 := by decide +kernel
def y_M_total : MethodName := ⟨"ConeForgeModel", "total", "(I)D"⟩
theorem dd_M_total : y_M_total.cls ≠ "java/lang/invoke/MethodHandle" ∧ y_M_total.cls ≠ "java/lang/invoke/VarHandle" ∧ (parseMethodDescriptor y_M_total.desc).map (fun d => d.parameters.length) = some 1 := by decide +kernel
def y_M_told : MethodName := ⟨"ConeForgeModel", "told", "(II)D"⟩
theorem dd_M_told : y_M_told.cls ≠ "java/lang/invoke/MethodHandle" ∧ y_M_told.cls ≠ "java/lang/invoke/VarHandle" ∧ (parseMethodDescriptor y_M_told.desc).map (fun d => d.parameters.length) = some 2 := by decide +kernel
def y_M_effort : MethodName := ⟨"ConeForgeModel", "effort", "()I"⟩
theorem dd_M_effort : y_M_effort.cls ≠ "java/lang/invoke/MethodHandle" ∧ y_M_effort.cls ≠ "java/lang/invoke/VarHandle" ∧ (parseMethodDescriptor y_M_effort.desc).map (fun d => d.parameters.length) = some 0 := by decide +kernel
def y_M_far : MethodName := ⟨"ConeForgeModel", "far", "(I)D"⟩
theorem dd_M_far : y_M_far.cls ≠ "java/lang/invoke/MethodHandle" ∧ y_M_far.cls ≠ "java/lang/invoke/VarHandle" ∧ (parseMethodDescriptor y_M_far.desc).map (fun d => d.parameters.length) = some 1 := by decide +kernel
def y_M_gap : MethodName := ⟨"ConeForgeModel", "gap", "(I)D"⟩
theorem dd_M_gap : y_M_gap.cls ≠ "java/lang/invoke/MethodHandle" ∧ y_M_gap.cls ≠ "java/lang/invoke/VarHandle" ∧ (parseMethodDescriptor y_M_gap.desc).map (fun d => d.parameters.length) = some 1 := by decide +kernel
def y_M_isNone : MethodName := ⟨"ConeForgeModel", "isNone", "(D)Z"⟩
theorem dd_M_isNone : y_M_isNone.cls ≠ "java/lang/invoke/MethodHandle" ∧ y_M_isNone.cls ≠ "java/lang/invoke/VarHandle" ∧ (parseMethodDescriptor y_M_isNone.desc).map (fun d => d.parameters.length) = some 1 := by decide +kernel
def y_M_isRay : MethodName := ⟨"ConeForgeModel", "isRay", "(D)Z"⟩
theorem dd_M_isRay : y_M_isRay.cls ≠ "java/lang/invoke/MethodHandle" ∧ y_M_isRay.cls ≠ "java/lang/invoke/VarHandle" ∧ (parseMethodDescriptor y_M_isRay.desc).map (fun d => d.parameters.length) = some 1 := by decide +kernel
def y_M_certifies : MethodName := ⟨"ConeForgeModel", "certifies", "(ID)Z"⟩
theorem dd_M_certifies : y_M_certifies.cls ≠ "java/lang/invoke/MethodHandle" ∧ y_M_certifies.cls ≠ "java/lang/invoke/VarHandle" ∧ (parseMethodDescriptor y_M_certifies.desc).map (fun d => d.parameters.length) = some 2 := by decide +kernel
def y_M_count : MethodName := ⟨"ConeForgeModel", "count", "(I)I"⟩
theorem dd_M_count : y_M_count.cls ≠ "java/lang/invoke/MethodHandle" ∧ y_M_count.cls ≠ "java/lang/invoke/VarHandle" ∧ (parseMethodDescriptor y_M_count.desc).map (fun d => d.parameters.length) = some 1 := by decide +kernel
def y_M_scale : MethodName := ⟨"ConeForgeModel", "scale", "(II)D"⟩
theorem dd_M_scale : y_M_scale.cls ≠ "java/lang/invoke/MethodHandle" ∧ y_M_scale.cls ≠ "java/lang/invoke/VarHandle" ∧ (parseMethodDescriptor y_M_scale.desc).map (fun d => d.parameters.length) = some 2 := by decide +kernel
def y_M_measureScales : MethodName := ⟨"ConeForgeModel", "measureScales", "()V"⟩
theorem dd_M_measureScales : y_M_measureScales.cls ≠ "java/lang/invoke/MethodHandle" ∧ y_M_measureScales.cls ≠ "java/lang/invoke/VarHandle" ∧ (parseMethodDescriptor y_M_measureScales.desc).map (fun d => d.parameters.length) = some 0 := by decide +kernel
def FPb : u_T := fun k => match k with
  | 0 => ("ConeForge$Problem", "rows", "I", false)
  | 1 => ("ConeForge$Problem", "variables", "I", false)
  | 2 => ("ConeForge$Problem", "a", "[[D", true)
  | 3 => ("ConeForge$Problem", "b", "[D", true)
  | _ => ("ConeForge$Problem", "c", "[D", true)
def tPb : Nat → FieldType := fun k => match k with
  | 0 => .int
  | 1 => .int
  | 2 => .array (.array .double)
  | 3 => .array .double
  | _ => .array .double
theorem nmPb : ∀ a, a < 5 → ∀ b, b < 5 → a ≠ b → (FPb a).2.1 ≠ (FPb b).2.1 := by decide +kernel
theorem tPb_ok : ∀ k, k < 5 → parseFieldDescriptor (FPb k).2.2.1 = some (tPb k) := by decide +kernel
def FPt : u_T := fun k => match k with
  | 0 => ("ConeForge$Point", "x", "[D", true)
  | 1 => ("ConeForge$Point", "s", "[D", true)
  | _ => ("ConeForge$Point", "y", "[D", true)
def tPt : Nat → FieldType := fun k => match k with
  | 0 => .array .double
  | 1 => .array .double
  | _ => .array .double
theorem nmPt : ∀ a, a < 3 → ∀ b, b < 3 → a ≠ b → (FPt a).2.1 ≠ (FPt b).2.1 := by decide +kernel
theorem tPt_ok : ∀ k, k < 3 → parseFieldDescriptor (FPt k).2.2.1 = some (tPt k) := by decide +kernel
def FSc : u_T := fun k => match k with
  | 0 => ("ConeForge$Scales", "ofRows", "[D", true)
  | _ => ("ConeForge$Scales", "ofVariables", "[D", true)
def tSc : Nat → FieldType := fun k => match k with
  | 0 => .array .double
  | _ => .array .double
theorem nmSc : ∀ a, a < 2 → ∀ b, b < 2 → a ≠ b → (FSc a).2.1 ≠ (FSc b).2.1 := by decide +kernel
theorem tSc_ok : ∀ k, k < 2 → parseFieldDescriptor (FSc k).2.2.1 = some (tSc k) := by decide +kernel
def FTr : u_T := fun k => match k with
  | 0 => ("ConeForge$TextReader", "characters", "[C", true)
  | 1 => ("ConeForge$TextReader", "fresh", "LConeForge$Problem;", true)
  | 2 => ("ConeForge$TextReader", "length", "I", false)
  | 3 => ("ConeForge$TextReader", "at", "I", false)
  | 4 => ("ConeForge$TextReader", "first", "I", false)
  | 5 => ("ConeForge$TextReader", "digits", "I", false)
  | 6 => ("ConeForge$TextReader", "value", "D", false)
  | 7 => ("ConeForge$TextReader", "numbersRead", "I", false)
  | _ => ("ConeForge$TextReader", "failedAt", "I", false)
def tTr : Nat → FieldType := fun k => match k with
  | 0 => .array .char
  | 1 => .object "ConeForge$Problem"
  | 2 => .int
  | 3 => .int
  | 4 => .int
  | 5 => .int
  | 6 => .double
  | 7 => .int
  | _ => .int
theorem nmTr : ∀ a, a < 9 → ∀ b, b < 9 → a ≠ b → (FTr a).2.1 ≠ (FTr b).2.1 := by decide +kernel
theorem tTr_ok : ∀ k, k < 9 → parseFieldDescriptor (FTr k).2.2.1 = some (tTr k) := by decide +kernel
def FFm : u_T := fun k => match k with
  | 0 => ("ConeForge$FactoredMatrix", "entries", "[[D", true)
  | 1 => ("ConeForge$FactoredMatrix", "lower", "[[D", true)
  | 2 => ("ConeForge$FactoredMatrix", "diagonal", "[D", true)
  | _ => ("ConeForge$FactoredMatrix", "middle", "[D", true)
def tFm : Nat → FieldType := fun k => match k with
  | 0 => .array (.array .double)
  | 1 => .array (.array .double)
  | 2 => .array .double
  | _ => .array .double
theorem nmFm : ∀ a, a < 4 → ∀ b, b < 4 → a ≠ b → (FFm a).2.1 ≠ (FFm b).2.1 := by decide +kernel
theorem tFm_ok : ∀ k, k < 4 → parseFieldDescriptor (FFm k).2.2.1 = some (tFm k) := by decide +kernel
def FIm : u_T := fun k => match k with
  | 0 => ("ConeForge$InteriorMethod", "problem", "LConeForge$Problem;", true)
  | 1 => ("ConeForge$InteriorMethod", "point", "LConeForge$Point;", true)
  | 2 => ("ConeForge$InteriorMethod", "matrix", "LConeForge$FactoredMatrix;", true)
  | 3 => ("ConeForge$InteriorMethod", "p", "[D", true)
  | 4 => ("ConeForge$InteriorMethod", "d", "[D", true)
  | 5 => ("ConeForge$InteriorMethod", "h", "[D", true)
  | 6 => ("ConeForge$InteriorMethod", "f", "[D", true)
  | 7 => ("ConeForge$InteriorMethod", "\x72", "[D", true)
  | 8 => ("ConeForge$InteriorMethod", "stepOfX", "[D", true)
  | 9 => ("ConeForge$InteriorMethod", "stepOfS", "[D", true)
  | 10 => ("ConeForge$InteriorMethod", "stepOfY", "[D", true)
  | 11 => ("ConeForge$InteriorMethod", "g", "D", false)
  | _ => ("ConeForge$InteriorMethod", "turnsBegun", "I", false)
def tIm : Nat → FieldType := fun k => match k with
  | 0 => .object "ConeForge$Problem"
  | 1 => .object "ConeForge$Point"
  | 2 => .object "ConeForge$FactoredMatrix"
  | 3 => .array .double
  | 4 => .array .double
  | 5 => .array .double
  | 6 => .array .double
  | 7 => .array .double
  | 8 => .array .double
  | 9 => .array .double
  | 10 => .array .double
  | 11 => .double
  | _ => .int
theorem nmIm : ∀ a, a < 13 → ∀ b, b < 13 → a ≠ b → (FIm a).2.1 ≠ (FIm b).2.1 := by decide +kernel
theorem tIm_ok : ∀ k, k < 13 → parseFieldDescriptor (FIm k).2.2.1 = some (tIm k) := by decide +kernel
def FSm : u_T := fun k => match k with
  | 0 => ("ConeForge$SimplexMethod", "problem", "LConeForge$Problem;", true)
  | 1 => ("ConeForge$SimplexMethod", "point", "LConeForge$Point;", true)
  | 2 => ("ConeForge$SimplexMethod", "table", "[[D", true)
  | 3 => ("ConeForge$SimplexMethod", "right", "[D", true)
  | 4 => ("ConeForge$SimplexMethod", "cost", "[D", true)
  | 5 => ("ConeForge$SimplexMethod", "basic", "[I", true)
  | 6 => ("ConeForge$SimplexMethod", "rows", "I", false)
  | 7 => ("ConeForge$SimplexMethod", "variables", "I", false)
  | 8 => ("ConeForge$SimplexMethod", "columns", "I", false)
  | _ => ("ConeForge$SimplexMethod", "stepsDone", "I", false)
def tSm : Nat → FieldType := fun k => match k with
  | 0 => .object "ConeForge$Problem"
  | 1 => .object "ConeForge$Point"
  | 2 => .array (.array .double)
  | 3 => .array .double
  | 4 => .array .double
  | 5 => .array .int
  | 6 => .int
  | 7 => .int
  | 8 => .int
  | _ => .int
theorem nmSm : ∀ a, a < 10 → ∀ b, b < 10 → a ≠ b → (FSm a).2.1 ≠ (FSm b).2.1 := by decide +kernel
theorem tSm_ok : ∀ k, k < 10 → parseFieldDescriptor (FSm k).2.2.1 = some (tSm k) := by decide +kernel
def FC : u_T := fun k => match k with
  | 0 => ("ConeForge", "problem", "LConeForge$Problem;", true)
  | 1 => ("ConeForge", "scales", "LConeForge$Scales;", true)
  | 2 => ("ConeForge", "point", "LConeForge$Point;", true)
  | 3 => ("ConeForge", "reader", "LConeForge$TextReader;", true)
  | 4 => ("ConeForge", "interiorMethod", "LConeForge$InteriorMethod;", true)
  | 5 => ("ConeForge", "simplexMethod", "LConeForge$SimplexMethod;", true)
  | 6 => ("ConeForge", "scalingOn", "Z", false)
  | 7 => ("ConeForge", "pointTold", "Z", false)
  | 8 => ("ConeForge", "latestEffort", "I", false)
  | _ => ("ConeForge", "failedAt", "I", false)
def tC : Nat → FieldType := fun k => match k with
  | 0 => .object "ConeForge$Problem"
  | 1 => .object "ConeForge$Scales"
  | 2 => .object "ConeForge$Point"
  | 3 => .object "ConeForge$TextReader"
  | 4 => .object "ConeForge$InteriorMethod"
  | 5 => .object "ConeForge$SimplexMethod"
  | 6 => .boolean
  | 7 => .boolean
  | 8 => .int
  | _ => .int
theorem nmC : ∀ a, a < 10 → ∀ b, b < 10 → a ≠ b → (FC a).2.1 ≠ (FC b).2.1 := by decide +kernel
theorem tC_ok : ∀ k, k < 10 → parseFieldDescriptor (FC k).2.2.1 = some (tC k) := by decide +kernel
def FM : u_T := fun k => match k with
  | 0 => ("ConeForgeModel", "a", "[D", true)
  | 1 => ("ConeForgeModel", "b", "[D", true)
  | 2 => ("ConeForgeModel", "c", "[D", true)
  | 3 => ("ConeForgeModel", "rowScale", "[D", true)
  | 4 => ("ConeForgeModel", "columnScale", "[D", true)
  | 5 => ("ConeForgeModel", "sa", "[D", true)
  | 6 => ("ConeForgeModel", "sb", "[D", true)
  | 7 => ("ConeForgeModel", "sc", "[D", true)
  | 8 => ("ConeForgeModel", "x", "[D", true)
  | 9 => ("ConeForgeModel", "s", "[D", true)
  | 10 => ("ConeForgeModel", "y", "[D", true)
  | 11 => ("ConeForgeModel", "p", "[D", true)
  | 12 => ("ConeForgeModel", "d", "[D", true)
  | 13 => ("ConeForgeModel", "h", "[D", true)
  | 14 => ("ConeForgeModel", "f", "[D", true)
  | 15 => ("ConeForgeModel", "mm", "[D", true)
  | 16 => ("ConeForgeModel", "low", "[D", true)
  | 17 => ("ConeForgeModel", "dd", "[D", true)
  | 18 => ("ConeForgeModel", "\x72", "[D", true)
  | 19 => ("ConeForgeModel", "big", "[D", true)
  | 20 => ("ConeForgeModel", "dt", "[D", true)
  | 21 => ("ConeForgeModel", "dx", "[D", true)
  | 22 => ("ConeForgeModel", "t", "[D", true)
  | 23 => ("ConeForgeModel", "cost", "[D", true)
  | 24 => ("ConeForgeModel", "rowScaleNow", "[D", true)
  | 25 => ("ConeForgeModel", "columnScaleNow", "[D", true)
  | 26 => ("ConeForgeModel", "basic", "[I", true)
  | 27 => ("ConeForgeModel", "text", "[I", true)
  | 28 => ("ConeForgeModel", "turned", "[Z", true)
  | 29 => ("ConeForgeModel", "m", "I", false)
  | 30 => ("ConeForgeModel", "n", "I", false)
  | 31 => ("ConeForgeModel", "length", "I", false)
  | 32 => ("ConeForgeModel", "where", "I", false)
  | 33 => ("ConeForgeModel", "effort", "I", false)
  | 34 => ("ConeForgeModel", "thrown", "I", false)
  | 35 => ("ConeForgeModel", "at", "I", false)
  | 36 => ("ConeForgeModel", "scaled", "Z", false)
  | 37 => ("ConeForgeModel", "solved", "Z", false)
  | 38 => ("ConeForgeModel", "second", "Z", false)
  | 39 => ("ConeForgeModel", "na", "[D", true)
  | 40 => ("ConeForgeModel", "nb", "[D", true)
  | 41 => ("ConeForgeModel", "nc", "[D", true)
  | 42 => ("ConeForgeModel", "nm", "I", false)
  | 43 => ("ConeForgeModel", "nn", "I", false)
  | 44 => ("ConeForgeModel", "number", "D", false)
  | _ => ("ConeForgeModel", "bad", "Z", false)
def tM : Nat → FieldType := fun k => match k with
  | 0 => .array .double
  | 1 => .array .double
  | 2 => .array .double
  | 3 => .array .double
  | 4 => .array .double
  | 5 => .array .double
  | 6 => .array .double
  | 7 => .array .double
  | 8 => .array .double
  | 9 => .array .double
  | 10 => .array .double
  | 11 => .array .double
  | 12 => .array .double
  | 13 => .array .double
  | 14 => .array .double
  | 15 => .array .double
  | 16 => .array .double
  | 17 => .array .double
  | 18 => .array .double
  | 19 => .array .double
  | 20 => .array .double
  | 21 => .array .double
  | 22 => .array .double
  | 23 => .array .double
  | 24 => .array .double
  | 25 => .array .double
  | 26 => .array .int
  | 27 => .array .int
  | 28 => .array .boolean
  | 29 => .int
  | 30 => .int
  | 31 => .int
  | 32 => .int
  | 33 => .int
  | 34 => .int
  | 35 => .int
  | 36 => .boolean
  | 37 => .boolean
  | 38 => .boolean
  | 39 => .array .double
  | 40 => .array .double
  | 41 => .array .double
  | 42 => .int
  | 43 => .int
  | 44 => .double
  | _ => .boolean
theorem nmM : ∀ a, a < 46 → ∀ b, b < 46 → a ≠ b → (FM a).2.1 ≠ (FM b).2.1 := by decide +kernel
theorem tM_ok : ∀ k, k < 46 → parseFieldDescriptor (FM k).2.2.1 = some (tM k) := by decide +kernel
abbrev CL : List vw_C := [("ConeForge$Problem", FPb, 5), ("ConeForge$Point", FPt, 3), ("ConeForge$Scales", FSc, 2), ("ConeForge$TextReader", FTr, 9), ("ConeForge$FactoredMatrix", FFm, 4), ("ConeForge$InteriorMethod", FIm, 13), ("ConeForge$SimplexMethod", FSm, 10), ("ConeForge", FC, 10), ("ConeForgeModel", FM, 46)]
