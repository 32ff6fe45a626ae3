theorem tw_0 : Cond.selects "StageDispatcher" ⟨"StageDispatcher", "runSteps", "(III)I"⟩ ⟨"StageDispatcher", "runSteps", "(III)I"⟩ ∈ gk_Y.2.2.2 := gk_inT (List.mem_of_getElem? (i := 0) (by decide +kernel)) rfl
theorem tw_1 : Cond.selects "StageDispatcher" ⟨"StageDispatcher", "runFilters", "(III)I"⟩ ⟨"StageDispatcher", "runFilters", "(III)I"⟩ ∈ gk_Y.2.2.2 := gk_inT (List.mem_of_getElem? (i := 1) (by decide +kernel)) rfl
theorem tw_2 : Cond.selects "StageDispatcher" ⟨"StageDispatcher", "isBound", "(LStageDispatcher$Filter;)Z"⟩ ⟨"StageDispatcher", "isBound", "(LStageDispatcher$Filter;)Z"⟩ ∈ gk_Y.2.2.2 := gk_inT (List.mem_of_getElem? (i := 2) (by decide +kernel)) rfl
theorem tw_3 : Cond.selects "StageDispatcher$Fit" ⟨"StageDispatcher$Fit", "openPlaces", "(LStageDispatcher$Template;LStageDispatcher$Text;I)V"⟩ ⟨"StageDispatcher$Fit", "openPlaces", "(LStageDispatcher$Template;LStageDispatcher$Text;I)V"⟩ ∈ gk_Y.2.2.2 := gk_inT (List.mem_of_getElem? (i := 3) (by decide +kernel)) rfl
theorem tw_4 : Cond.selects "StageDispatcher$Route" ⟨"StageDispatcher$Route", "follow", "(LStageDispatcher$Template;LStageDispatcher$Outcome;)V"⟩ ⟨"StageDispatcher$Route", "follow", "(LStageDispatcher$Template;LStageDispatcher$Outcome;)V"⟩ ∈ gk_Y.2.2.2 := gk_inT (List.mem_of_getElem? (i := 4) (by decide +kernel)) rfl
theorem tw_5 : Cond.selects "StageDispatcher$Route" ⟨"StageDispatcher$Route", "heaviestOfMethods", "(LStageDispatcher$Catalog;LStageDispatcher$Text;)LStageDispatcher$Template;"⟩ ⟨"StageDispatcher$Route", "heaviestOfMethods", "(LStageDispatcher$Catalog;LStageDispatcher$Text;)LStageDispatcher$Template;"⟩ ∈ gk_Y.2.2.2 := gk_inT (List.mem_of_getElem? (i := 5) (by decide +kernel)) rfl
theorem tw_6 : Cond.selects "StageDispatcher$Route" ⟨"StageDispatcher$Route", "heaviestLocator", "(LStageDispatcher$Catalog;LStageDispatcher$Text;)LStageDispatcher$Locator;"⟩ ⟨"StageDispatcher$Route", "heaviestLocator", "(LStageDispatcher$Catalog;LStageDispatcher$Text;)LStageDispatcher$Locator;"⟩ ∈ gk_Y.2.2.2 := gk_inT (List.mem_of_getElem? (i := 6) (by decide +kernel)) rfl
theorem tw_7 : Cond.selects "StageDispatcher" ⟨"StageDispatcher", "choose", "(III)I"⟩ ⟨"StageDispatcher", "choose", "(III)I"⟩ ∈ gk_Y.2.2.2 := gk_inT (List.mem_of_getElem? (i := 7) (by decide +kernel)) rfl
theorem tw_8 : Cond.selects "StageDispatcher" ⟨"StageDispatcher", "bestOf", "(IZ)I"⟩ ⟨"StageDispatcher", "bestOf", "(IZ)I"⟩ ∈ gk_Y.2.2.2 := gk_inT (List.mem_of_getElem? (i := 8) (by decide +kernel)) rfl
theorem tw_9 : Cond.selects "StageDispatcher" ⟨"StageDispatcher", "answeredType", "(LStageDispatcher$Method;)I"⟩ ⟨"StageDispatcher", "answeredType", "(LStageDispatcher$Method;)I"⟩ ∈ gk_Y.2.2.2 := gk_inT (List.mem_of_getElem? (i := 9) (by decide +kernel)) rfl
theorem tw_10 : Cond.selects "StageDispatcher" ⟨"StageDispatcher", "statusOf", "(I)I"⟩ ⟨"StageDispatcher", "statusOf", "(I)I"⟩ ∈ gk_Y.2.2.2 := gk_inT (List.mem_of_getElem? (i := 10) (by decide +kernel)) rfl
theorem tw_11 : Cond.selects "StageDispatcher" ⟨"StageDispatcher", "invoke", "(LStageDispatcher$Method;)I"⟩ ⟨"StageDispatcher", "invoke", "(LStageDispatcher$Method;)I"⟩ ∈ gk_Y.2.2.2 := gk_inT (List.mem_of_getElem? (i := 11) (by decide +kernel)) rfl
theorem tw_12 : Cond.selects "StageDispatcher" ⟨"StageDispatcher", "runFiltersAtTheEnd", "()V"⟩ ⟨"StageDispatcher", "runFiltersAtTheEnd", "()V"⟩ ∈ gk_Y.2.2.2 := gk_inT (List.mem_of_getElem? (i := 12) (by decide +kernel)) rfl
theorem tw_13 : Cond.selects "StageDispatcherModel" ⟨"StageDispatcherModel", "goodTemplate", "()Z"⟩ ⟨"StageDispatcherModel", "goodTemplate", "()Z"⟩ ∈ gk_Y.2.2.2 := gk_inT (List.mem_of_getElem? (i := 13) (by decide +kernel)) rfl
theorem tw_14 : Cond.selects "StageDispatcherModel" ⟨"StageDispatcherModel", "groupAt", "(I)I"⟩ ⟨"StageDispatcherModel", "groupAt", "(I)I"⟩ ∈ gk_Y.2.2.2 := gk_inT (List.mem_of_getElem? (i := 14) (by decide +kernel)) rfl
theorem tw_15 : Cond.selects "StageDispatcherModel" ⟨"StageDispatcherModel", "keep", "(IZ)V"⟩ ⟨"StageDispatcherModel", "keep", "(IZ)V"⟩ ∈ gk_Y.2.2.2 := gk_inT (List.mem_of_getElem? (i := 15) (by decide +kernel)) rfl
theorem tw_16 : Cond.selects "StageDispatcherModel" ⟨"StageDispatcherModel", "filterAll", "(II)V"⟩ ⟨"StageDispatcherModel", "filterAll", "(II)V"⟩ ∈ gk_Y.2.2.2 := gk_inT (List.mem_of_getElem? (i := 16) (by decide +kernel)) rfl
theorem tw_17 : Cond.selects "StageDispatcherModel" ⟨"StageDispatcherModel", "bound", "(II)Z"⟩ ⟨"StageDispatcherModel", "bound", "(II)Z"⟩ ∈ gk_Y.2.2.2 := gk_inT (List.mem_of_getElem? (i := 17) (by decide +kernel)) rfl
theorem tw_18 : Cond.selects "StageDispatcherModel" ⟨"StageDispatcherModel", "meetHeader", "(I)V"⟩ ⟨"StageDispatcherModel", "meetHeader", "(I)V"⟩ ∈ gk_Y.2.2.2 := gk_inT (List.mem_of_getElem? (i := 18) (by decide +kernel)) rfl
theorem tw_19 : Cond.selects "StageDispatcherModel" ⟨"StageDispatcherModel", "matching", "(I)V"⟩ ⟨"StageDispatcherModel", "matching", "(I)V"⟩ ∈ gk_Y.2.2.2 := gk_inT (List.mem_of_getElem? (i := 19) (by decide +kernel)) rfl
theorem tw_20 : Cond.selects "StageDispatcherModel" ⟨"StageDispatcherModel", "stageOne", "()I"⟩ ⟨"StageDispatcherModel", "stageOne", "()I"⟩ ∈ gk_Y.2.2.2 := gk_inT (List.mem_of_getElem? (i := 20) (by decide +kernel)) rfl
theorem tw_21 : Cond.selects "StageDispatcherModel" ⟨"StageDispatcherModel", "match", "(II)I"⟩ ⟨"StageDispatcherModel", "match", "(II)I"⟩ ∈ gk_Y.2.2.2 := gk_inT (List.mem_of_getElem? (i := 21) (by decide +kernel)) rfl
theorem tw_22 : Cond.selects "StageDispatcherModel" ⟨"StageDispatcherModel", "cut", "(I)V"⟩ ⟨"StageDispatcherModel", "cut", "(I)V"⟩ ∈ gk_Y.2.2.2 := gk_inT (List.mem_of_getElem? (i := 22) (by decide +kernel)) rfl
theorem tw_23 : Cond.selects "StageDispatcherModel" ⟨"StageDispatcherModel", "longest", "(II)I"⟩ ⟨"StageDispatcherModel", "longest", "(II)I"⟩ ∈ gk_Y.2.2.2 := gk_inT (List.mem_of_getElem? (i := 23) (by decide +kernel)) rfl
theorem tw_24 : Cond.selects "StageDispatcherModel" ⟨"StageDispatcherModel", "ends", "(I)Z"⟩ ⟨"StageDispatcherModel", "ends", "(I)Z"⟩ ∈ gk_Y.2.2.2 := gk_inT (List.mem_of_getElem? (i := 24) (by decide +kernel)) rfl
theorem tw_25 : Cond.selects "StageDispatcherModel" ⟨"StageDispatcherModel", "hasTemplates", "(I)Z"⟩ ⟨"StageDispatcherModel", "hasTemplates", "(I)Z"⟩ ∈ gk_Y.2.2.2 := gk_inT (List.mem_of_getElem? (i := 25) (by decide +kernel)) rfl
theorem tw_26 : Cond.selects "StageDispatcherModel" ⟨"StageDispatcherModel", "weight", "(I)I"⟩ ⟨"StageDispatcherModel", "weight", "(I)I"⟩ ∈ gk_Y.2.2.2 := gk_inT (List.mem_of_getElem? (i := 26) (by decide +kernel)) rfl
theorem tw_27 : Cond.selects "StageDispatcherModel" ⟨"StageDispatcherModel", "same", "(II)Z"⟩ ⟨"StageDispatcherModel", "same", "(II)Z"⟩ ∈ gk_Y.2.2.2 := gk_inT (List.mem_of_getElem? (i := 27) (by decide +kernel)) rfl
theorem tw_28 : Cond.selects "StageDispatcherModel" ⟨"StageDispatcherModel", "count", "(II)I"⟩ ⟨"StageDispatcherModel", "count", "(II)I"⟩ ∈ gk_Y.2.2.2 := gk_inT (List.mem_of_getElem? (i := 28) (by decide +kernel)) rfl
theorem tw_29 : Cond.selects "StageDispatcherModel" ⟨"StageDispatcherModel", "stageTwo", "()I"⟩ ⟨"StageDispatcherModel", "stageTwo", "()I"⟩ ∈ gk_Y.2.2.2 := gk_inT (List.mem_of_getElem? (i := 29) (by decide +kernel)) rfl
theorem tw_30 : Cond.selects "StageDispatcherModel" ⟨"StageDispatcherModel", "heaviest", "()I"⟩ ⟨"StageDispatcherModel", "heaviest", "()I"⟩ ∈ gk_Y.2.2.2 := gk_inT (List.mem_of_getElem? (i := 30) (by decide +kernel)) rfl
theorem tw_31 : Cond.selects "StageDispatcherModel" ⟨"StageDispatcherModel", "stageThree", "(I)I"⟩ ⟨"StageDispatcherModel", "stageThree", "(I)I"⟩ ∈ gk_Y.2.2.2 := gk_inT (List.mem_of_getElem? (i := 31) (by decide +kernel)) rfl
theorem tw_32 : Cond.selects "StageDispatcherModel" ⟨"StageDispatcherModel", "only", "(I)Z"⟩ ⟨"StageDispatcherModel", "only", "(I)Z"⟩ ∈ gk_Y.2.2.2 := gk_inT (List.mem_of_getElem? (i := 32) (by decide +kernel)) rfl
theorem tw_33 : Cond.selects "StageDispatcherModel" ⟨"StageDispatcherModel", "any", "()Z"⟩ ⟨"StageDispatcherModel", "any", "()Z"⟩ ∈ gk_Y.2.2.2 := gk_inT (List.mem_of_getElem? (i := 33) (by decide +kernel)) rfl
theorem tw_34 : Cond.selects "StageDispatcherModel" ⟨"StageDispatcherModel", "accepted", "(I)Z"⟩ ⟨"StageDispatcherModel", "accepted", "(I)Z"⟩ ∈ gk_Y.2.2.2 := gk_inT (List.mem_of_getElem? (i := 34) (by decide +kernel)) rfl
theorem tw_35 : Cond.selects "StageDispatcherModel" ⟨"StageDispatcherModel", "weigh", "(IIII)V"⟩ ⟨"StageDispatcherModel", "weigh", "(IIII)V"⟩ ∈ gk_Y.2.2.2 := gk_inT (List.mem_of_getElem? (i := 35) (by decide +kernel)) rfl
theorem tw_36 : Cond.selects "StageDispatcherModel" ⟨"StageDispatcherModel", "raise", "(I)V"⟩ ⟨"StageDispatcherModel", "raise", "(I)V"⟩ ∈ gk_Y.2.2.2 := gk_inT (List.mem_of_getElem? (i := 36) (by decide +kernel)) rfl
theorem tw_37 : Cond.selects "StageDispatcherModel" ⟨"StageDispatcherModel", "invoke", "()V"⟩ ⟨"StageDispatcherModel", "invoke", "()V"⟩ ∈ gk_Y.2.2.2 := gk_inT (List.mem_of_getElem? (i := 37) (by decide +kernel)) rfl
theorem tw_38 : Cond.selects "StageDispatcherModel" ⟨"StageDispatcherModel", "numberOf", "(I)I"⟩ ⟨"StageDispatcherModel", "numberOf", "(I)I"⟩ ∈ gk_Y.2.2.2 := gk_inT (List.mem_of_getElem? (i := 38) (by decide +kernel)) rfl
theorem tw_40 : Cond.initialized "StageDispatcher" ∈ gk_Y.2.2.2 := gk_inT (List.mem_of_getElem? (i := 40) (by decide +kernel)) rfl
theorem tw_41 : Cond.initialized "StageDispatcher$Text" ∈ gk_Y.2.2.2 := gk_inT (List.mem_of_getElem? (i := 41) (by decide +kernel)) rfl
theorem tw_42 : Cond.initialized "StageDispatcher$Catalog" ∈ gk_Y.2.2.2 := gk_inT (List.mem_of_getElem? (i := 42) (by decide +kernel)) rfl
theorem tw_43 : Cond.initialized "StageDispatcher$FilterChain" ∈ gk_Y.2.2.2 := gk_inT (List.mem_of_getElem? (i := 43) (by decide +kernel)) rfl
theorem tw_44 : Cond.initialized "StageDispatcher$Accepted" ∈ gk_Y.2.2.2 := gk_inT (List.mem_of_getElem? (i := 44) (by decide +kernel)) rfl
theorem tw_45 : Cond.initialized "StageDispatcher$Route" ∈ gk_Y.2.2.2 := gk_inT (List.mem_of_getElem? (i := 45) (by decide +kernel)) rfl
theorem tw_46 : Cond.initialized "StageDispatcher$Fit" ∈ gk_Y.2.2.2 := gk_inT (List.mem_of_getElem? (i := 46) (by decide +kernel)) rfl
theorem tw_47 : Cond.initialized "StageDispatcher$Outcome" ∈ gk_Y.2.2.2 := gk_inT (List.mem_of_getElem? (i := 47) (by decide +kernel)) rfl
theorem tw_48 : Cond.initialized "StageDispatcherModel" ∈ gk_Y.2.2.2 := gk_inT (List.mem_of_getElem? (i := 48) (by decide +kernel)) rfl
theorem tw_49 : Cond.initialized "StageDispatcher$Template" ∈ gk_Y.2.2.2 := gk_inT (List.mem_of_getElem? (i := 49) (by decide +kernel)) rfl
theorem tw_50 : Cond.initialized "java/lang/Math" ∈ gk_Y.2.2.2 := gk_inT (List.mem_of_getElem? (i := 50) (by decide +kernel)) rfl
theorem tw_51 : Cond.initialized "StageDispatcher$Method" ∈ gk_Y.2.2.2 := gk_inT (List.mem_of_getElem? (i := 51) (by decide +kernel)) rfl
theorem tw_52 : Cond.initialized "java/lang/Record" ∈ gk_Y.2.2.2 := gk_inT (List.mem_of_getElem? (i := 52) (by decide +kernel)) rfl
theorem tw_53 : Cond.initialized "StageDispatcher$Locator" ∈ gk_Y.2.2.2 := gk_inT (List.mem_of_getElem? (i := 53) (by decide +kernel)) rfl
theorem tw_54 : Cond.initialized "StageDispatcher$Filter" ∈ gk_Y.2.2.2 := gk_inT (List.mem_of_getElem? (i := 54) (by decide +kernel)) rfl
theorem tw_55 : Cond.initialized "java/lang/System" ∈ gk_Y.2.2.2 := gk_inT (List.mem_of_getElem? (i := 55) (by decide +kernel)) rfl
theorem tw_61 : Cond.methodLink "StageDispatcher" 1 Lib.objectInit ∈ gk_Y.2.2.2 := gk_inT (List.mem_of_getElem? (i := 61) (by decide +kernel)) rfl
theorem tw_62 : Cond.instanceMethod Lib.objectInit ∈ gk_Y.2.2.2 := gk_inT (List.mem_of_getElem? (i := 62) (by decide +kernel)) rfl
theorem tw_63 : Cond.code Lib.objectInit ⟨#[0xb1]⟩ 1 none ∈ gk_Y.2.2.2 := gk_inT (List.mem_of_getElem? (i := 63) (by decide +kernel)) rfl
theorem tw_64 : Cond.classLink "StageDispatcher" 7 "StageDispatcher$Text" ∈ gk_Y.2.2.2 := gk_inT (List.mem_of_getElem? (i := 64) (by decide +kernel)) rfl
theorem tw_65 : Cond.instantiable "StageDispatcher$Text" 2 ∈ gk_Y.2.2.2 := gk_inT (List.mem_of_getElem? (i := 65) (by decide +kernel)) rfl
theorem tw_67 : Cond.instanceMethod ⟨"StageDispatcher$Text", "<init>", "()V"⟩ ∈ gk_Y.2.2.2 := gk_inT (List.mem_of_getElem? (i := 67) (by decide +kernel)) rfl
theorem tw_68 : Cond.code y_Text_init c_Text_init 1 none ∈ gk_Y.2.2.2 := gk_inT (List.mem_of_getElem? (i := 68) (by decide +kernel)) rfl
theorem tw_69 : Cond.methodLink "StageDispatcher$Text" 3 Lib.objectInit ∈ gk_Y.2.2.2 := gk_inT (List.mem_of_getElem? (i := 69) (by decide +kernel)) rfl
theorem tw_70 : Cond.fieldLink "StageDispatcher$Text" 9 "StageDispatcher$Text" "chars" "[C" ∈ gk_Y.2.2.2 := gk_inT (List.mem_of_getElem? (i := 70) (by decide +kernel)) rfl
theorem tw_71 : Cond.fieldLink "StageDispatcher$Template" 54 "StageDispatcher$Text" "chars" "[C" ∈ gk_Y.2.2.2 := gk_inT (List.mem_of_getElem? (i := 71) (by decide +kernel)) rfl
theorem tw_72 : Cond.fieldLink "StageDispatcher$Fit" 67 "StageDispatcher$Text" "chars" "[C" ∈ gk_Y.2.2.2 := gk_inT (List.mem_of_getElem? (i := 72) (by decide +kernel)) rfl
theorem tw_73 : Cond.fieldLink "StageDispatcher$Outcome" 60 "StageDispatcher$Text" "chars" "[C" ∈ gk_Y.2.2.2 := gk_inT (List.mem_of_getElem? (i := 73) (by decide +kernel)) rfl
theorem tw_74 : Cond.fieldLink "StageDispatcher" 200 "StageDispatcher$Text" "chars" "[C" ∈ gk_Y.2.2.2 := gk_inT (List.mem_of_getElem? (i := 74) (by decide +kernel)) rfl
theorem tw_75 : Cond.fieldLink "StageDispatcher$Template" 9 "StageDispatcher$Text" "length" "I" ∈ gk_Y.2.2.2 := gk_inT (List.mem_of_getElem? (i := 75) (by decide +kernel)) rfl
theorem tw_76 : Cond.fieldLink "StageDispatcher$Text" 15 "StageDispatcher$Text" "length" "I" ∈ gk_Y.2.2.2 := gk_inT (List.mem_of_getElem? (i := 76) (by decide +kernel)) rfl
theorem tw_77 : Cond.fieldLink "StageDispatcher$Fit" 52 "StageDispatcher$Text" "length" "I" ∈ gk_Y.2.2.2 := gk_inT (List.mem_of_getElem? (i := 77) (by decide +kernel)) rfl
theorem tw_78 : Cond.fieldLink "StageDispatcher" 82 "StageDispatcher$Text" "length" "I" ∈ gk_Y.2.2.2 := gk_inT (List.mem_of_getElem? (i := 78) (by decide +kernel)) rfl
theorem tw_79 : Cond.laysFinal "StageDispatcher$Text" "StageDispatcher$Text" "chars" "[C" ∈ gk_Y.2.2.2 := gk_inT (List.mem_of_getElem? (i := 79) (by decide +kernel)) rfl
theorem tw_81 : Cond.lays "StageDispatcher$Text" "StageDispatcher$Text" "length" "I" ∈ gk_Y.2.2.2 := gk_inT (List.mem_of_getElem? (i := 81) (by decide +kernel)) rfl
theorem tw_84 : Cond.arrayClass .char ∈ gk_Y.2.2.2 := gk_inT (List.mem_of_getElem? (i := 84) (by decide +kernel)) rfl
theorem tw_85 : Cond.classLink "StageDispatcher" 16 "StageDispatcher$Catalog" ∈ gk_Y.2.2.2 := gk_inT (List.mem_of_getElem? (i := 85) (by decide +kernel)) rfl
theorem tw_86 : Cond.instantiable "StageDispatcher$Catalog" 6 ∈ gk_Y.2.2.2 := gk_inT (List.mem_of_getElem? (i := 86) (by decide +kernel)) rfl
theorem tw_88 : Cond.instanceMethod ⟨"StageDispatcher$Catalog", "<init>", "()V"⟩ ∈ gk_Y.2.2.2 := gk_inT (List.mem_of_getElem? (i := 88) (by decide +kernel)) rfl
theorem tw_89 : Cond.code y_Catalog_init c_Catalog_init 1 none ∈ gk_Y.2.2.2 := gk_inT (List.mem_of_getElem? (i := 89) (by decide +kernel)) rfl
theorem tw_90 : Cond.methodLink "StageDispatcher$Catalog" 3 Lib.objectInit ∈ gk_Y.2.2.2 := gk_inT (List.mem_of_getElem? (i := 90) (by decide +kernel)) rfl
theorem tw_91 : Cond.classLink "StageDispatcher$Catalog" 9 "StageDispatcher$Template" ∈ gk_Y.2.2.2 := gk_inT (List.mem_of_getElem? (i := 91) (by decide +kernel)) rfl
theorem tw_93 : Cond.classLink "StageDispatcher$Catalog" 17 "StageDispatcher$Method" ∈ gk_Y.2.2.2 := gk_inT (List.mem_of_getElem? (i := 93) (by decide +kernel)) rfl
theorem tw_95 : Cond.classLink "StageDispatcher$Catalog" 23 "StageDispatcher$Locator" ∈ gk_Y.2.2.2 := gk_inT (List.mem_of_getElem? (i := 95) (by decide +kernel)) rfl
theorem tw_97 : Cond.fieldLink "StageDispatcher$Catalog" 11 "StageDispatcher$Catalog" "roots" "[LStageDispatcher$Template;" ∈ gk_Y.2.2.2 := gk_inT (List.mem_of_getElem? (i := 97) (by decide +kernel)) rfl
theorem tw_98 : Cond.fieldLink "StageDispatcher$Route" 33 "StageDispatcher$Catalog" "roots" "[LStageDispatcher$Template;" ∈ gk_Y.2.2.2 := gk_inT (List.mem_of_getElem? (i := 98) (by decide +kernel)) rfl
theorem tw_99 : Cond.fieldLink "StageDispatcher$Catalog" 19 "StageDispatcher$Catalog" "methods" "[LStageDispatcher$Method;" ∈ gk_Y.2.2.2 := gk_inT (List.mem_of_getElem? (i := 99) (by decide +kernel)) rfl
theorem tw_100 : Cond.fieldLink "StageDispatcher$Route" 105 "StageDispatcher$Catalog" "methods" "[LStageDispatcher$Method;" ∈ gk_Y.2.2.2 := gk_inT (List.mem_of_getElem? (i := 100) (by decide +kernel)) rfl
theorem tw_101 : Cond.fieldLink "StageDispatcher" 111 "StageDispatcher$Catalog" "methods" "[LStageDispatcher$Method;" ∈ gk_Y.2.2.2 := gk_inT (List.mem_of_getElem? (i := 101) (by decide +kernel)) rfl
theorem tw_102 : Cond.fieldLink "StageDispatcher$Catalog" 25 "StageDispatcher$Catalog" "locators" "[LStageDispatcher$Locator;" ∈ gk_Y.2.2.2 := gk_inT (List.mem_of_getElem? (i := 102) (by decide +kernel)) rfl
theorem tw_103 : Cond.fieldLink "StageDispatcher$Route" 122 "StageDispatcher$Catalog" "locators" "[LStageDispatcher$Locator;" ∈ gk_Y.2.2.2 := gk_inT (List.mem_of_getElem? (i := 103) (by decide +kernel)) rfl
theorem tw_104 : Cond.fieldLink "StageDispatcher$Catalog" 29 "StageDispatcher$Catalog" "resourceCount" "I" ∈ gk_Y.2.2.2 := gk_inT (List.mem_of_getElem? (i := 104) (by decide +kernel)) rfl
theorem tw_105 : Cond.fieldLink "StageDispatcher$Route" 28 "StageDispatcher$Catalog" "resourceCount" "I" ∈ gk_Y.2.2.2 := gk_inT (List.mem_of_getElem? (i := 105) (by decide +kernel)) rfl
theorem tw_106 : Cond.fieldLink "StageDispatcher" 59 "StageDispatcher$Catalog" "resourceCount" "I" ∈ gk_Y.2.2.2 := gk_inT (List.mem_of_getElem? (i := 106) (by decide +kernel)) rfl
theorem tw_107 : Cond.fieldLink "StageDispatcher$Catalog" 33 "StageDispatcher$Catalog" "methodCount" "I" ∈ gk_Y.2.2.2 := gk_inT (List.mem_of_getElem? (i := 107) (by decide +kernel)) rfl
theorem tw_108 : Cond.fieldLink "StageDispatcher" 79 "StageDispatcher$Catalog" "methodCount" "I" ∈ gk_Y.2.2.2 := gk_inT (List.mem_of_getElem? (i := 108) (by decide +kernel)) rfl
theorem tw_109 : Cond.fieldLink "StageDispatcher$Route" 102 "StageDispatcher$Catalog" "methodCount" "I" ∈ gk_Y.2.2.2 := gk_inT (List.mem_of_getElem? (i := 109) (by decide +kernel)) rfl
theorem tw_110 : Cond.fieldLink "StageDispatcher$Catalog" 36 "StageDispatcher$Catalog" "locatorCount" "I" ∈ gk_Y.2.2.2 := gk_inT (List.mem_of_getElem? (i := 110) (by decide +kernel)) rfl
theorem tw_111 : Cond.fieldLink "StageDispatcher$Route" 119 "StageDispatcher$Catalog" "locatorCount" "I" ∈ gk_Y.2.2.2 := gk_inT (List.mem_of_getElem? (i := 111) (by decide +kernel)) rfl
theorem tw_112 : Cond.fieldLink "StageDispatcher" 124 "StageDispatcher$Catalog" "locatorCount" "I" ∈ gk_Y.2.2.2 := gk_inT (List.mem_of_getElem? (i := 112) (by decide +kernel)) rfl
theorem tw_113 : Cond.laysFinal "StageDispatcher$Catalog" "StageDispatcher$Catalog" "roots" "[LStageDispatcher$Template;" ∈ gk_Y.2.2.2 := gk_inT (List.mem_of_getElem? (i := 113) (by decide +kernel)) rfl
theorem tw_115 : Cond.laysFinal "StageDispatcher$Catalog" "StageDispatcher$Catalog" "methods" "[LStageDispatcher$Method;" ∈ gk_Y.2.2.2 := gk_inT (List.mem_of_getElem? (i := 115) (by decide +kernel)) rfl
theorem tw_117 : Cond.laysFinal "StageDispatcher$Catalog" "StageDispatcher$Catalog" "locators" "[LStageDispatcher$Locator;" ∈ gk_Y.2.2.2 := gk_inT (List.mem_of_getElem? (i := 117) (by decide +kernel)) rfl
theorem tw_119 : Cond.lays "StageDispatcher$Catalog" "StageDispatcher$Catalog" "resourceCount" "I" ∈ gk_Y.2.2.2 := gk_inT (List.mem_of_getElem? (i := 119) (by decide +kernel)) rfl
theorem tw_121 : Cond.lays "StageDispatcher$Catalog" "StageDispatcher$Catalog" "methodCount" "I" ∈ gk_Y.2.2.2 := gk_inT (List.mem_of_getElem? (i := 121) (by decide +kernel)) rfl
theorem tw_123 : Cond.lays "StageDispatcher$Catalog" "StageDispatcher$Catalog" "locatorCount" "I" ∈ gk_Y.2.2.2 := gk_inT (List.mem_of_getElem? (i := 123) (by decide +kernel)) rfl
theorem tw_126 : Cond.classLink "StageDispatcher" 23 "StageDispatcher$FilterChain" ∈ gk_Y.2.2.2 := gk_inT (List.mem_of_getElem? (i := 126) (by decide +kernel)) rfl
theorem tw_127 : Cond.instantiable "StageDispatcher$FilterChain" 4 ∈ gk_Y.2.2.2 := gk_inT (List.mem_of_getElem? (i := 127) (by decide +kernel)) rfl
theorem tw_129 : Cond.instanceMethod ⟨"StageDispatcher$FilterChain", "<init>", "()V"⟩ ∈ gk_Y.2.2.2 := gk_inT (List.mem_of_getElem? (i := 129) (by decide +kernel)) rfl
theorem tw_130 : Cond.code y_FilterChain_init c_FilterChain_init 1 none ∈ gk_Y.2.2.2 := gk_inT (List.mem_of_getElem? (i := 130) (by decide +kernel)) rfl
theorem tw_131 : Cond.methodLink "StageDispatcher$FilterChain" 3 Lib.objectInit ∈ gk_Y.2.2.2 := gk_inT (List.mem_of_getElem? (i := 131) (by decide +kernel)) rfl
theorem tw_132 : Cond.classLink "StageDispatcher$FilterChain" 9 "StageDispatcher$Filter" ∈ gk_Y.2.2.2 := gk_inT (List.mem_of_getElem? (i := 132) (by decide +kernel)) rfl
theorem tw_134 : Cond.fieldLink "StageDispatcher$FilterChain" 11 "StageDispatcher$FilterChain" "filters" "[LStageDispatcher$Filter;" ∈ gk_Y.2.2.2 := gk_inT (List.mem_of_getElem? (i := 134) (by decide +kernel)) rfl
theorem tw_135 : Cond.fieldLink "StageDispatcher" 245 "StageDispatcher$FilterChain" "filters" "[LStageDispatcher$Filter;" ∈ gk_Y.2.2.2 := gk_inT (List.mem_of_getElem? (i := 135) (by decide +kernel)) rfl
theorem tw_136 : Cond.fieldLink "StageDispatcher$FilterChain" 17 "StageDispatcher$FilterChain" "rising" "[I" ∈ gk_Y.2.2.2 := gk_inT (List.mem_of_getElem? (i := 136) (by decide +kernel)) rfl
theorem tw_137 : Cond.fieldLink "StageDispatcher" 242 "StageDispatcher$FilterChain" "rising" "[I" ∈ gk_Y.2.2.2 := gk_inT (List.mem_of_getElem? (i := 137) (by decide +kernel)) rfl
theorem tw_138 : Cond.fieldLink "StageDispatcher$FilterChain" 21 "StageDispatcher$FilterChain" "falling" "[I" ∈ gk_Y.2.2.2 := gk_inT (List.mem_of_getElem? (i := 138) (by decide +kernel)) rfl
theorem tw_139 : Cond.fieldLink "StageDispatcher" 266 "StageDispatcher$FilterChain" "falling" "[I" ∈ gk_Y.2.2.2 := gk_inT (List.mem_of_getElem? (i := 139) (by decide +kernel)) rfl
theorem tw_140 : Cond.fieldLink "StageDispatcher$FilterChain" 24 "StageDispatcher$FilterChain" "count" "I" ∈ gk_Y.2.2.2 := gk_inT (List.mem_of_getElem? (i := 140) (by decide +kernel)) rfl
theorem tw_141 : Cond.fieldLink "StageDispatcher" 136 "StageDispatcher$FilterChain" "count" "I" ∈ gk_Y.2.2.2 := gk_inT (List.mem_of_getElem? (i := 141) (by decide +kernel)) rfl
theorem tw_142 : Cond.laysFinal "StageDispatcher$FilterChain" "StageDispatcher$FilterChain" "filters" "[LStageDispatcher$Filter;" ∈ gk_Y.2.2.2 := gk_inT (List.mem_of_getElem? (i := 142) (by decide +kernel)) rfl
theorem tw_144 : Cond.laysFinal "StageDispatcher$FilterChain" "StageDispatcher$FilterChain" "rising" "[I" ∈ gk_Y.2.2.2 := gk_inT (List.mem_of_getElem? (i := 144) (by decide +kernel)) rfl
theorem tw_146 : Cond.laysFinal "StageDispatcher$FilterChain" "StageDispatcher$FilterChain" "falling" "[I" ∈ gk_Y.2.2.2 := gk_inT (List.mem_of_getElem? (i := 146) (by decide +kernel)) rfl
theorem tw_148 : Cond.lays "StageDispatcher$FilterChain" "StageDispatcher$FilterChain" "count" "I" ∈ gk_Y.2.2.2 := gk_inT (List.mem_of_getElem? (i := 148) (by decide +kernel)) rfl
theorem tw_151 : Cond.arrayClass .int ∈ gk_Y.2.2.2 := gk_inT (List.mem_of_getElem? (i := 151) (by decide +kernel)) rfl
theorem tw_152 : Cond.classLink "StageDispatcher" 30 "StageDispatcher$Accepted" ∈ gk_Y.2.2.2 := gk_inT (List.mem_of_getElem? (i := 152) (by decide +kernel)) rfl
theorem tw_153 : Cond.instantiable "StageDispatcher$Accepted" 3 ∈ gk_Y.2.2.2 := gk_inT (List.mem_of_getElem? (i := 153) (by decide +kernel)) rfl
theorem tw_155 : Cond.instanceMethod ⟨"StageDispatcher$Accepted", "<init>", "()V"⟩ ∈ gk_Y.2.2.2 := gk_inT (List.mem_of_getElem? (i := 155) (by decide +kernel)) rfl
theorem tw_156 : Cond.code y_Accepted_init c_Accepted_init 1 none ∈ gk_Y.2.2.2 := gk_inT (List.mem_of_getElem? (i := 156) (by decide +kernel)) rfl
theorem tw_157 : Cond.methodLink "StageDispatcher$Accepted" 3 Lib.objectInit ∈ gk_Y.2.2.2 := gk_inT (List.mem_of_getElem? (i := 157) (by decide +kernel)) rfl
theorem tw_158 : Cond.fieldLink "StageDispatcher$Accepted" 9 "StageDispatcher$Accepted" "types" "[I" ∈ gk_Y.2.2.2 := gk_inT (List.mem_of_getElem? (i := 158) (by decide +kernel)) rfl
theorem tw_159 : Cond.fieldLink "StageDispatcher" 305 "StageDispatcher$Accepted" "types" "[I" ∈ gk_Y.2.2.2 := gk_inT (List.mem_of_getElem? (i := 159) (by decide +kernel)) rfl
theorem tw_160 : Cond.fieldLink "StageDispatcher$Accepted" 15 "StageDispatcher$Accepted" "qs" "[I" ∈ gk_Y.2.2.2 := gk_inT (List.mem_of_getElem? (i := 160) (by decide +kernel)) rfl
theorem tw_161 : Cond.fieldLink "StageDispatcher$Accepted" 18 "StageDispatcher$Accepted" "count" "I" ∈ gk_Y.2.2.2 := gk_inT (List.mem_of_getElem? (i := 161) (by decide +kernel)) rfl
theorem tw_162 : Cond.fieldLink "StageDispatcher" 151 "StageDispatcher$Accepted" "count" "I" ∈ gk_Y.2.2.2 := gk_inT (List.mem_of_getElem? (i := 162) (by decide +kernel)) rfl
theorem tw_163 : Cond.laysFinal "StageDispatcher$Accepted" "StageDispatcher$Accepted" "types" "[I" ∈ gk_Y.2.2.2 := gk_inT (List.mem_of_getElem? (i := 163) (by decide +kernel)) rfl
theorem tw_165 : Cond.laysFinal "StageDispatcher$Accepted" "StageDispatcher$Accepted" "qs" "[I" ∈ gk_Y.2.2.2 := gk_inT (List.mem_of_getElem? (i := 165) (by decide +kernel)) rfl
theorem tw_167 : Cond.lays "StageDispatcher$Accepted" "StageDispatcher$Accepted" "count" "I" ∈ gk_Y.2.2.2 := gk_inT (List.mem_of_getElem? (i := 167) (by decide +kernel)) rfl
theorem tw_170 : Cond.classLink "StageDispatcher" 37 "StageDispatcher$Route" ∈ gk_Y.2.2.2 := gk_inT (List.mem_of_getElem? (i := 170) (by decide +kernel)) rfl
theorem tw_171 : Cond.instantiable "StageDispatcher$Route" 4 ∈ gk_Y.2.2.2 := gk_inT (List.mem_of_getElem? (i := 171) (by decide +kernel)) rfl
theorem tw_173 : Cond.instanceMethod ⟨"StageDispatcher$Route", "<init>", "()V"⟩ ∈ gk_Y.2.2.2 := gk_inT (List.mem_of_getElem? (i := 173) (by decide +kernel)) rfl
theorem tw_174 : Cond.code y_Route_init c_Route_init 1 none ∈ gk_Y.2.2.2 := gk_inT (List.mem_of_getElem? (i := 174) (by decide +kernel)) rfl
theorem tw_175 : Cond.methodLink "StageDispatcher$Route" 3 Lib.objectInit ∈ gk_Y.2.2.2 := gk_inT (List.mem_of_getElem? (i := 175) (by decide +kernel)) rfl
theorem tw_176 : Cond.classLink "StageDispatcher$Route" 9 "StageDispatcher$Fit" ∈ gk_Y.2.2.2 := gk_inT (List.mem_of_getElem? (i := 176) (by decide +kernel)) rfl
theorem tw_177 : Cond.instantiable "StageDispatcher$Fit" 5 ∈ gk_Y.2.2.2 := gk_inT (List.mem_of_getElem? (i := 177) (by decide +kernel)) rfl
theorem tw_179 : Cond.instanceMethod ⟨"StageDispatcher$Fit", "<init>", "()V"⟩ ∈ gk_Y.2.2.2 := gk_inT (List.mem_of_getElem? (i := 179) (by decide +kernel)) rfl
theorem tw_180 : Cond.code y_Fit_init c_Fit_init 1 none ∈ gk_Y.2.2.2 := gk_inT (List.mem_of_getElem? (i := 180) (by decide +kernel)) rfl
theorem tw_181 : Cond.methodLink "StageDispatcher$Fit" 3 Lib.objectInit ∈ gk_Y.2.2.2 := gk_inT (List.mem_of_getElem? (i := 181) (by decide +kernel)) rfl
theorem tw_182 : Cond.fieldLink "StageDispatcher$Fit" 9 "StageDispatcher$Fit" "open" "[I" ∈ gk_Y.2.2.2 := gk_inT (List.mem_of_getElem? (i := 182) (by decide +kernel)) rfl
theorem tw_183 : Cond.fieldLink "StageDispatcher$Fit" 15 "StageDispatcher$Fit" "groupStart" "[I" ∈ gk_Y.2.2.2 := gk_inT (List.mem_of_getElem? (i := 183) (by decide +kernel)) rfl
theorem tw_184 : Cond.fieldLink "StageDispatcher$Route" 130 "StageDispatcher$Fit" "groupStart" "[I" ∈ gk_Y.2.2.2 := gk_inT (List.mem_of_getElem? (i := 184) (by decide +kernel)) rfl
theorem tw_185 : Cond.fieldLink "StageDispatcher$Fit" 18 "StageDispatcher$Fit" "groupEnd" "[I" ∈ gk_Y.2.2.2 := gk_inT (List.mem_of_getElem? (i := 185) (by decide +kernel)) rfl
theorem tw_186 : Cond.fieldLink "StageDispatcher$Route" 134 "StageDispatcher$Fit" "groupEnd" "[I" ∈ gk_Y.2.2.2 := gk_inT (List.mem_of_getElem? (i := 186) (by decide +kernel)) rfl
theorem tw_187 : Cond.fieldLink "StageDispatcher$Fit" 21 "StageDispatcher$Fit" "groupCount" "I" ∈ gk_Y.2.2.2 := gk_inT (List.mem_of_getElem? (i := 187) (by decide +kernel)) rfl
theorem tw_188 : Cond.fieldLink "StageDispatcher$Route" 127 "StageDispatcher$Fit" "groupCount" "I" ∈ gk_Y.2.2.2 := gk_inT (List.mem_of_getElem? (i := 188) (by decide +kernel)) rfl
theorem tw_189 : Cond.fieldLink "StageDispatcher$Fit" 25 "StageDispatcher$Fit" "rest" "I" ∈ gk_Y.2.2.2 := gk_inT (List.mem_of_getElem? (i := 189) (by decide +kernel)) rfl
theorem tw_190 : Cond.fieldLink "StageDispatcher$Route" 53 "StageDispatcher$Fit" "rest" "I" ∈ gk_Y.2.2.2 := gk_inT (List.mem_of_getElem? (i := 190) (by decide +kernel)) rfl
theorem tw_191 : Cond.laysFinal "StageDispatcher$Fit" "StageDispatcher$Fit" "open" "[I" ∈ gk_Y.2.2.2 := gk_inT (List.mem_of_getElem? (i := 191) (by decide +kernel)) rfl
theorem tw_193 : Cond.laysFinal "StageDispatcher$Fit" "StageDispatcher$Fit" "groupStart" "[I" ∈ gk_Y.2.2.2 := gk_inT (List.mem_of_getElem? (i := 193) (by decide +kernel)) rfl
theorem tw_195 : Cond.laysFinal "StageDispatcher$Fit" "StageDispatcher$Fit" "groupEnd" "[I" ∈ gk_Y.2.2.2 := gk_inT (List.mem_of_getElem? (i := 195) (by decide +kernel)) rfl
theorem tw_197 : Cond.lays "StageDispatcher$Fit" "StageDispatcher$Fit" "groupCount" "I" ∈ gk_Y.2.2.2 := gk_inT (List.mem_of_getElem? (i := 197) (by decide +kernel)) rfl
theorem tw_199 : Cond.lays "StageDispatcher$Fit" "StageDispatcher$Fit" "rest" "I" ∈ gk_Y.2.2.2 := gk_inT (List.mem_of_getElem? (i := 199) (by decide +kernel)) rfl
theorem tw_202 : Cond.fieldLink "StageDispatcher$Route" 12 "StageDispatcher$Route" "fit" "LStageDispatcher$Fit;" ∈ gk_Y.2.2.2 := gk_inT (List.mem_of_getElem? (i := 202) (by decide +kernel)) rfl
theorem tw_203 : Cond.fieldLink "StageDispatcher$Route" 18 "StageDispatcher$Route" "from" "I" ∈ gk_Y.2.2.2 := gk_inT (List.mem_of_getElem? (i := 203) (by decide +kernel)) rfl
theorem tw_204 : Cond.fieldLink "StageDispatcher$Route" 22 "StageDispatcher$Route" "classes" "I" ∈ gk_Y.2.2.2 := gk_inT (List.mem_of_getElem? (i := 204) (by decide +kernel)) rfl
theorem tw_205 : Cond.fieldLink "StageDispatcher$Route" 25 "StageDispatcher$Route" "candidates" "I" ∈ gk_Y.2.2.2 := gk_inT (List.mem_of_getElem? (i := 205) (by decide +kernel)) rfl
theorem tw_206 : Cond.fieldLink "StageDispatcher" 226 "StageDispatcher$Route" "candidates" "I" ∈ gk_Y.2.2.2 := gk_inT (List.mem_of_getElem? (i := 206) (by decide +kernel)) rfl
theorem tw_207 : Cond.laysFinal "StageDispatcher$Route" "StageDispatcher$Route" "fit" "LStageDispatcher$Fit;" ∈ gk_Y.2.2.2 := gk_inT (List.mem_of_getElem? (i := 207) (by decide +kernel)) rfl
theorem tw_209 : Cond.lays "StageDispatcher$Route" "StageDispatcher$Route" "from" "I" ∈ gk_Y.2.2.2 := gk_inT (List.mem_of_getElem? (i := 209) (by decide +kernel)) rfl
theorem tw_211 : Cond.lays "StageDispatcher$Route" "StageDispatcher$Route" "classes" "I" ∈ gk_Y.2.2.2 := gk_inT (List.mem_of_getElem? (i := 211) (by decide +kernel)) rfl
theorem tw_213 : Cond.lays "StageDispatcher$Route" "StageDispatcher$Route" "candidates" "I" ∈ gk_Y.2.2.2 := gk_inT (List.mem_of_getElem? (i := 213) (by decide +kernel)) rfl
theorem tw_216 : Cond.classLink "StageDispatcher" 44 "StageDispatcher$Outcome" ∈ gk_Y.2.2.2 := gk_inT (List.mem_of_getElem? (i := 216) (by decide +kernel)) rfl
theorem tw_217 : Cond.instantiable "StageDispatcher$Outcome" 13 ∈ gk_Y.2.2.2 := gk_inT (List.mem_of_getElem? (i := 217) (by decide +kernel)) rfl
theorem tw_219 : Cond.instanceMethod ⟨"StageDispatcher$Outcome", "<init>", "()V"⟩ ∈ gk_Y.2.2.2 := gk_inT (List.mem_of_getElem? (i := 219) (by decide +kernel)) rfl
theorem tw_220 : Cond.code y_Outcome_init c_Outcome_init 1 none ∈ gk_Y.2.2.2 := gk_inT (List.mem_of_getElem? (i := 220) (by decide +kernel)) rfl
theorem tw_221 : Cond.methodLink "StageDispatcher$Outcome" 3 Lib.objectInit ∈ gk_Y.2.2.2 := gk_inT (List.mem_of_getElem? (i := 221) (by decide +kernel)) rfl
theorem tw_222 : Cond.classLink "StageDispatcher$Outcome" 9 "StageDispatcher$Text" ∈ gk_Y.2.2.2 := gk_inT (List.mem_of_getElem? (i := 222) (by decide +kernel)) rfl
theorem tw_224 : Cond.fieldLink "StageDispatcher$Outcome" 12 "StageDispatcher$Outcome" "path" "LStageDispatcher$Text;" ∈ gk_Y.2.2.2 := gk_inT (List.mem_of_getElem? (i := 224) (by decide +kernel)) rfl
theorem tw_225 : Cond.fieldLink "StageDispatcher$Route" 43 "StageDispatcher$Outcome" "path" "LStageDispatcher$Text;" ∈ gk_Y.2.2.2 := gk_inT (List.mem_of_getElem? (i := 225) (by decide +kernel)) rfl
theorem tw_226 : Cond.fieldLink "StageDispatcher" 197 "StageDispatcher$Outcome" "path" "LStageDispatcher$Text;" ∈ gk_Y.2.2.2 := gk_inT (List.mem_of_getElem? (i := 226) (by decide +kernel)) rfl
theorem tw_227 : Cond.fieldLink "StageDispatcher$Outcome" 18 "StageDispatcher$Outcome" "hops" "[I" ∈ gk_Y.2.2.2 := gk_inT (List.mem_of_getElem? (i := 227) (by decide +kernel)) rfl
theorem tw_228 : Cond.fieldLink "StageDispatcher" 185 "StageDispatcher$Outcome" "hops" "[I" ∈ gk_Y.2.2.2 := gk_inT (List.mem_of_getElem? (i := 228) (by decide +kernel)) rfl
theorem tw_229 : Cond.fieldLink "StageDispatcher$Outcome" 22 "StageDispatcher$Outcome" "parameterStart" "[I" ∈ gk_Y.2.2.2 := gk_inT (List.mem_of_getElem? (i := 229) (by decide +kernel)) rfl
theorem tw_230 : Cond.fieldLink "StageDispatcher" 191 "StageDispatcher$Outcome" "parameterStart" "[I" ∈ gk_Y.2.2.2 := gk_inT (List.mem_of_getElem? (i := 230) (by decide +kernel)) rfl
theorem tw_231 : Cond.fieldLink "StageDispatcher$Outcome" 25 "StageDispatcher$Outcome" "parameterEnd" "[I" ∈ gk_Y.2.2.2 := gk_inT (List.mem_of_getElem? (i := 231) (by decide +kernel)) rfl
theorem tw_232 : Cond.fieldLink "StageDispatcher" 194 "StageDispatcher$Outcome" "parameterEnd" "[I" ∈ gk_Y.2.2.2 := gk_inT (List.mem_of_getElem? (i := 232) (by decide +kernel)) rfl
theorem tw_233 : Cond.fieldLink "StageDispatcher$Outcome" 28 "StageDispatcher$Outcome" "ran" "[I" ∈ gk_Y.2.2.2 := gk_inT (List.mem_of_getElem? (i := 233) (by decide +kernel)) rfl
theorem tw_234 : Cond.fieldLink "StageDispatcher" 213 "StageDispatcher$Outcome" "ran" "[I" ∈ gk_Y.2.2.2 := gk_inT (List.mem_of_getElem? (i := 234) (by decide +kernel)) rfl
theorem tw_235 : Cond.fieldLink "StageDispatcher$Outcome" 31 "StageDispatcher$Outcome" "hopCount" "I" ∈ gk_Y.2.2.2 := gk_inT (List.mem_of_getElem? (i := 235) (by decide +kernel)) rfl
theorem tw_236 : Cond.fieldLink "StageDispatcher" 182 "StageDispatcher$Outcome" "hopCount" "I" ∈ gk_Y.2.2.2 := gk_inT (List.mem_of_getElem? (i := 236) (by decide +kernel)) rfl
theorem tw_237 : Cond.fieldLink "StageDispatcher$Outcome" 35 "StageDispatcher$Outcome" "parameterCount" "I" ∈ gk_Y.2.2.2 := gk_inT (List.mem_of_getElem? (i := 237) (by decide +kernel)) rfl
theorem tw_238 : Cond.fieldLink "StageDispatcher" 188 "StageDispatcher$Outcome" "parameterCount" "I" ∈ gk_Y.2.2.2 := gk_inT (List.mem_of_getElem? (i := 238) (by decide +kernel)) rfl
theorem tw_239 : Cond.fieldLink "StageDispatcher$Outcome" 38 "StageDispatcher$Outcome" "ranCount" "I" ∈ gk_Y.2.2.2 := gk_inT (List.mem_of_getElem? (i := 239) (by decide +kernel)) rfl
theorem tw_240 : Cond.fieldLink "StageDispatcher" 210 "StageDispatcher$Outcome" "ranCount" "I" ∈ gk_Y.2.2.2 := gk_inT (List.mem_of_getElem? (i := 240) (by decide +kernel)) rfl
theorem tw_241 : Cond.fieldLink "StageDispatcher$Outcome" 41 "StageDispatcher$Outcome" "matched" "I" ∈ gk_Y.2.2.2 := gk_inT (List.mem_of_getElem? (i := 241) (by decide +kernel)) rfl
theorem tw_242 : Cond.fieldLink "StageDispatcher" 236 "StageDispatcher$Outcome" "matched" "I" ∈ gk_Y.2.2.2 := gk_inT (List.mem_of_getElem? (i := 242) (by decide +kernel)) rfl
theorem tw_243 : Cond.fieldLink "StageDispatcher$Outcome" 44 "StageDispatcher$Outcome" "invoked" "I" ∈ gk_Y.2.2.2 := gk_inT (List.mem_of_getElem? (i := 243) (by decide +kernel)) rfl
theorem tw_244 : Cond.fieldLink "StageDispatcher" 176 "StageDispatcher$Outcome" "invoked" "I" ∈ gk_Y.2.2.2 := gk_inT (List.mem_of_getElem? (i := 244) (by decide +kernel)) rfl
theorem tw_245 : Cond.fieldLink "StageDispatcher$Outcome" 47 "StageDispatcher$Outcome" "argument" "I" ∈ gk_Y.2.2.2 := gk_inT (List.mem_of_getElem? (i := 245) (by decide +kernel)) rfl
theorem tw_246 : Cond.fieldLink "StageDispatcher" 179 "StageDispatcher$Outcome" "argument" "I" ∈ gk_Y.2.2.2 := gk_inT (List.mem_of_getElem? (i := 246) (by decide +kernel)) rfl
theorem tw_247 : Cond.fieldLink "StageDispatcher$Outcome" 50 "StageDispatcher$Outcome" "allowed" "I" ∈ gk_Y.2.2.2 := gk_inT (List.mem_of_getElem? (i := 247) (by decide +kernel)) rfl
theorem tw_248 : Cond.fieldLink "StageDispatcher" 204 "StageDispatcher$Outcome" "allowed" "I" ∈ gk_Y.2.2.2 := gk_inT (List.mem_of_getElem? (i := 248) (by decide +kernel)) rfl
theorem tw_249 : Cond.fieldLink "StageDispatcher$Outcome" 53 "StageDispatcher$Outcome" "produced" "I" ∈ gk_Y.2.2.2 := gk_inT (List.mem_of_getElem? (i := 249) (by decide +kernel)) rfl
theorem tw_250 : Cond.fieldLink "StageDispatcher" 207 "StageDispatcher$Outcome" "produced" "I" ∈ gk_Y.2.2.2 := gk_inT (List.mem_of_getElem? (i := 250) (by decide +kernel)) rfl
theorem tw_251 : Cond.laysFinal "StageDispatcher$Outcome" "StageDispatcher$Outcome" "path" "LStageDispatcher$Text;" ∈ gk_Y.2.2.2 := gk_inT (List.mem_of_getElem? (i := 251) (by decide +kernel)) rfl
theorem tw_253 : Cond.laysFinal "StageDispatcher$Outcome" "StageDispatcher$Outcome" "hops" "[I" ∈ gk_Y.2.2.2 := gk_inT (List.mem_of_getElem? (i := 253) (by decide +kernel)) rfl
theorem tw_255 : Cond.laysFinal "StageDispatcher$Outcome" "StageDispatcher$Outcome" "parameterStart" "[I" ∈ gk_Y.2.2.2 := gk_inT (List.mem_of_getElem? (i := 255) (by decide +kernel)) rfl
theorem tw_257 : Cond.laysFinal "StageDispatcher$Outcome" "StageDispatcher$Outcome" "parameterEnd" "[I" ∈ gk_Y.2.2.2 := gk_inT (List.mem_of_getElem? (i := 257) (by decide +kernel)) rfl
theorem tw_259 : Cond.laysFinal "StageDispatcher$Outcome" "StageDispatcher$Outcome" "ran" "[I" ∈ gk_Y.2.2.2 := gk_inT (List.mem_of_getElem? (i := 259) (by decide +kernel)) rfl
theorem tw_261 : Cond.lays "StageDispatcher$Outcome" "StageDispatcher$Outcome" "hopCount" "I" ∈ gk_Y.2.2.2 := gk_inT (List.mem_of_getElem? (i := 261) (by decide +kernel)) rfl
theorem tw_263 : Cond.lays "StageDispatcher$Outcome" "StageDispatcher$Outcome" "parameterCount" "I" ∈ gk_Y.2.2.2 := gk_inT (List.mem_of_getElem? (i := 263) (by decide +kernel)) rfl
theorem tw_265 : Cond.lays "StageDispatcher$Outcome" "StageDispatcher$Outcome" "ranCount" "I" ∈ gk_Y.2.2.2 := gk_inT (List.mem_of_getElem? (i := 265) (by decide +kernel)) rfl
theorem tw_267 : Cond.lays "StageDispatcher$Outcome" "StageDispatcher$Outcome" "matched" "I" ∈ gk_Y.2.2.2 := gk_inT (List.mem_of_getElem? (i := 267) (by decide +kernel)) rfl
theorem tw_269 : Cond.lays "StageDispatcher$Outcome" "StageDispatcher$Outcome" "invoked" "I" ∈ gk_Y.2.2.2 := gk_inT (List.mem_of_getElem? (i := 269) (by decide +kernel)) rfl
theorem tw_271 : Cond.lays "StageDispatcher$Outcome" "StageDispatcher$Outcome" "argument" "I" ∈ gk_Y.2.2.2 := gk_inT (List.mem_of_getElem? (i := 271) (by decide +kernel)) rfl
theorem tw_273 : Cond.lays "StageDispatcher$Outcome" "StageDispatcher$Outcome" "allowed" "I" ∈ gk_Y.2.2.2 := gk_inT (List.mem_of_getElem? (i := 273) (by decide +kernel)) rfl
theorem tw_275 : Cond.lays "StageDispatcher$Outcome" "StageDispatcher$Outcome" "produced" "I" ∈ gk_Y.2.2.2 := gk_inT (List.mem_of_getElem? (i := 275) (by decide +kernel)) rfl
theorem tw_278 : Cond.fieldLink "StageDispatcher" 10 "StageDispatcher" "buffer" "LStageDispatcher$Text;" ∈ gk_Y.2.2.2 := gk_inT (List.mem_of_getElem? (i := 278) (by decide +kernel)) rfl
theorem tw_279 : Cond.fieldLink "StageDispatcher" 19 "StageDispatcher" "catalog" "LStageDispatcher$Catalog;" ∈ gk_Y.2.2.2 := gk_inT (List.mem_of_getElem? (i := 279) (by decide +kernel)) rfl
theorem tw_280 : Cond.fieldLink "StageDispatcher" 26 "StageDispatcher" "chain" "LStageDispatcher$FilterChain;" ∈ gk_Y.2.2.2 := gk_inT (List.mem_of_getElem? (i := 280) (by decide +kernel)) rfl
theorem tw_281 : Cond.fieldLink "StageDispatcher" 33 "StageDispatcher" "accepted" "LStageDispatcher$Accepted;" ∈ gk_Y.2.2.2 := gk_inT (List.mem_of_getElem? (i := 281) (by decide +kernel)) rfl
theorem tw_282 : Cond.fieldLink "StageDispatcher" 40 "StageDispatcher" "route" "LStageDispatcher$Route;" ∈ gk_Y.2.2.2 := gk_inT (List.mem_of_getElem? (i := 282) (by decide +kernel)) rfl
theorem tw_283 : Cond.fieldLink "StageDispatcher" 47 "StageDispatcher" "latest" "LStageDispatcher$Outcome;" ∈ gk_Y.2.2.2 := gk_inT (List.mem_of_getElem? (i := 283) (by decide +kernel)) rfl
theorem tw_284 : Cond.fieldLink "StageDispatcher" 51 "StageDispatcher" "mapped" "[I" ∈ gk_Y.2.2.2 := gk_inT (List.mem_of_getElem? (i := 284) (by decide +kernel)) rfl
theorem tw_285 : Cond.laysFinal "StageDispatcher" "StageDispatcher" "buffer" "LStageDispatcher$Text;" ∈ gk_Y.2.2.2 := gk_inT (List.mem_of_getElem? (i := 285) (by decide +kernel)) rfl
theorem tw_287 : Cond.laysFinal "StageDispatcher" "StageDispatcher" "catalog" "LStageDispatcher$Catalog;" ∈ gk_Y.2.2.2 := gk_inT (List.mem_of_getElem? (i := 287) (by decide +kernel)) rfl
theorem tw_289 : Cond.laysFinal "StageDispatcher" "StageDispatcher" "chain" "LStageDispatcher$FilterChain;" ∈ gk_Y.2.2.2 := gk_inT (List.mem_of_getElem? (i := 289) (by decide +kernel)) rfl
theorem tw_291 : Cond.laysFinal "StageDispatcher" "StageDispatcher" "accepted" "LStageDispatcher$Accepted;" ∈ gk_Y.2.2.2 := gk_inT (List.mem_of_getElem? (i := 291) (by decide +kernel)) rfl
theorem tw_293 : Cond.laysFinal "StageDispatcher" "StageDispatcher" "route" "LStageDispatcher$Route;" ∈ gk_Y.2.2.2 := gk_inT (List.mem_of_getElem? (i := 293) (by decide +kernel)) rfl
theorem tw_295 : Cond.laysFinal "StageDispatcher" "StageDispatcher" "latest" "LStageDispatcher$Outcome;" ∈ gk_Y.2.2.2 := gk_inT (List.mem_of_getElem? (i := 295) (by decide +kernel)) rfl
theorem tw_297 : Cond.laysFinal "StageDispatcher" "StageDispatcher" "mapped" "[I" ∈ gk_Y.2.2.2 := gk_inT (List.mem_of_getElem? (i := 297) (by decide +kernel)) rfl
theorem tw_304 : Cond.methodLink "StageDispatcher" 55 ⟨"StageDispatcher$Text", "append", "(C)Z"⟩ ∈ gk_Y.2.2.2 := gk_inT (List.mem_of_getElem? (i := 304) (by decide +kernel)) rfl
theorem tw_305 : Cond.instanceMethod ⟨"StageDispatcher$Text", "append", "(C)Z"⟩ ∈ gk_Y.2.2.2 := gk_inT (List.mem_of_getElem? (i := 305) (by decide +kernel)) rfl
theorem tw_306 : Cond.selects "StageDispatcher$Text" ⟨"StageDispatcher$Text", "append", "(C)Z"⟩ ⟨"StageDispatcher$Text", "append", "(C)Z"⟩ ∈ gk_Y.2.2.2 := gk_inT (List.mem_of_getElem? (i := 306) (by decide +kernel)) rfl
theorem tw_307 : Cond.code y_Text_append c_Text_append 3 (some .boolean) ∈ gk_Y.2.2.2 := gk_inT (List.mem_of_getElem? (i := 307) (by decide +kernel)) rfl
theorem tw_312 : Cond.methodLink "StageDispatcher" 63 ⟨"StageDispatcher$Template", "isGood", "(LStageDispatcher$Text;)Z"⟩ ∈ gk_Y.2.2.2 := gk_inT (List.mem_of_getElem? (i := 312) (by decide +kernel)) rfl
theorem tw_313 : Cond.static ⟨"StageDispatcher$Template", "isGood", "(LStageDispatcher$Text;)Z"⟩ ∈ gk_Y.2.2.2 := gk_inT (List.mem_of_getElem? (i := 313) (by decide +kernel)) rfl
theorem tw_314 : Cond.code y_Template_isGood c_Template_isGood 5 (some .boolean) ∈ gk_Y.2.2.2 := gk_inT (List.mem_of_getElem? (i := 314) (by decide +kernel)) rfl
theorem tw_315 : Cond.methodLink "StageDispatcher$Template" 15 ⟨"StageDispatcher$Template", "pieceSize", "(LStageDispatcher$Text;I)I"⟩ ∈ gk_Y.2.2.2 := gk_inT (List.mem_of_getElem? (i := 315) (by decide +kernel)) rfl
theorem tw_316 : Cond.static ⟨"StageDispatcher$Template", "pieceSize", "(LStageDispatcher$Text;I)I"⟩ ∈ gk_Y.2.2.2 := gk_inT (List.mem_of_getElem? (i := 316) (by decide +kernel)) rfl
theorem tw_317 : Cond.code y_Template_pieceSize c_Template_pieceSize 3 (some .int) ∈ gk_Y.2.2.2 := gk_inT (List.mem_of_getElem? (i := 317) (by decide +kernel)) rfl
theorem tw_318 : Cond.methodLink "StageDispatcher$Template" 50 ⟨"StageDispatcher$Text", "has", "(IC)Z"⟩ ∈ gk_Y.2.2.2 := gk_inT (List.mem_of_getElem? (i := 318) (by decide +kernel)) rfl
theorem tw_319 : Cond.instanceMethod ⟨"StageDispatcher$Text", "has", "(IC)Z"⟩ ∈ gk_Y.2.2.2 := gk_inT (List.mem_of_getElem? (i := 319) (by decide +kernel)) rfl
theorem tw_320 : Cond.selects "StageDispatcher$Text" ⟨"StageDispatcher$Text", "has", "(IC)Z"⟩ ⟨"StageDispatcher$Text", "has", "(IC)Z"⟩ ∈ gk_Y.2.2.2 := gk_inT (List.mem_of_getElem? (i := 320) (by decide +kernel)) rfl
theorem tw_321 : Cond.code y_Text_has c_Text_has 3 (some .boolean) ∈ gk_Y.2.2.2 := gk_inT (List.mem_of_getElem? (i := 321) (by decide +kernel)) rfl
theorem tw_322 : Cond.classLink "StageDispatcher" 64 "StageDispatcher$Template" ∈ gk_Y.2.2.2 := gk_inT (List.mem_of_getElem? (i := 322) (by decide +kernel)) rfl
theorem tw_323 : Cond.instantiable "StageDispatcher$Template" 5 ∈ gk_Y.2.2.2 := gk_inT (List.mem_of_getElem? (i := 323) (by decide +kernel)) rfl
theorem tw_324 : Cond.methodLink "StageDispatcher" 69 ⟨"StageDispatcher$Template", "<init>", "(LStageDispatcher$Text;)V"⟩ ∈ gk_Y.2.2.2 := gk_inT (List.mem_of_getElem? (i := 324) (by decide +kernel)) rfl
theorem tw_325 : Cond.instanceMethod ⟨"StageDispatcher$Template", "<init>", "(LStageDispatcher$Text;)V"⟩ ∈ gk_Y.2.2.2 := gk_inT (List.mem_of_getElem? (i := 325) (by decide +kernel)) rfl
theorem tw_326 : Cond.code y_Template_init c_Template_init 8 none ∈ gk_Y.2.2.2 := gk_inT (List.mem_of_getElem? (i := 326) (by decide +kernel)) rfl
theorem tw_327 : Cond.methodLink "StageDispatcher$Template" 3 Lib.objectInit ∈ gk_Y.2.2.2 := gk_inT (List.mem_of_getElem? (i := 327) (by decide +kernel)) rfl
theorem tw_328 : Cond.methodLink "StageDispatcher$Template" 21 Lib.Math.max.name ∈ gk_Y.2.2.2 := gk_inT (List.mem_of_getElem? (i := 328) (by decide +kernel)) rfl
theorem tw_329 : Cond.static Lib.Math.max.name ∈ gk_Y.2.2.2 := gk_inT (List.mem_of_getElem? (i := 329) (by decide +kernel)) rfl
theorem tw_330 : Cond.code Lib.Math.max.name Lib.Math.max.code 2 (some .int) ∈ gk_Y.2.2.2 := gk_inT (List.mem_of_getElem? (i := 330) (by decide +kernel)) rfl
theorem tw_331 : Cond.methodLink "StageDispatcher$Template" 27 ⟨"StageDispatcher$Template", "pieceAt", "(LStageDispatcher$Text;I)I"⟩ ∈ gk_Y.2.2.2 := gk_inT (List.mem_of_getElem? (i := 331) (by decide +kernel)) rfl
theorem tw_332 : Cond.static ⟨"StageDispatcher$Template", "pieceAt", "(LStageDispatcher$Text;I)I"⟩ ∈ gk_Y.2.2.2 := gk_inT (List.mem_of_getElem? (i := 332) (by decide +kernel)) rfl
theorem tw_333 : Cond.code y_Template_pieceAt c_Template_pieceAt 2 (some .int) ∈ gk_Y.2.2.2 := gk_inT (List.mem_of_getElem? (i := 333) (by decide +kernel)) rfl
theorem tw_334 : Cond.methodLink "StageDispatcher$Template" 30 ⟨"StageDispatcher$Template", "isGroup", "(I)Z"⟩ ∈ gk_Y.2.2.2 := gk_inT (List.mem_of_getElem? (i := 334) (by decide +kernel)) rfl
theorem tw_335 : Cond.static ⟨"StageDispatcher$Template", "isGroup", "(I)Z"⟩ ∈ gk_Y.2.2.2 := gk_inT (List.mem_of_getElem? (i := 335) (by decide +kernel)) rfl
theorem tw_336 : Cond.code y_Template_isGroup c_Template_isGroup 1 (some .boolean) ∈ gk_Y.2.2.2 := gk_inT (List.mem_of_getElem? (i := 336) (by decide +kernel)) rfl
theorem tw_337 : Cond.fieldLink "StageDispatcher$Template" 34 "StageDispatcher$Template" "pieces" "[I" ∈ gk_Y.2.2.2 := gk_inT (List.mem_of_getElem? (i := 337) (by decide +kernel)) rfl
theorem tw_338 : Cond.fieldLink "StageDispatcher$Fit" 41 "StageDispatcher$Template" "pieces" "[I" ∈ gk_Y.2.2.2 := gk_inT (List.mem_of_getElem? (i := 338) (by decide +kernel)) rfl
theorem tw_339 : Cond.fieldLink "StageDispatcher$Template" 38 "StageDispatcher$Template" "count" "I" ∈ gk_Y.2.2.2 := gk_inT (List.mem_of_getElem? (i := 339) (by decide +kernel)) rfl
theorem tw_340 : Cond.fieldLink "StageDispatcher$Fit" 36 "StageDispatcher$Template" "count" "I" ∈ gk_Y.2.2.2 := gk_inT (List.mem_of_getElem? (i := 340) (by decide +kernel)) rfl
theorem tw_341 : Cond.fieldLink "StageDispatcher$Template" 41 "StageDispatcher$Template" "literals" "I" ∈ gk_Y.2.2.2 := gk_inT (List.mem_of_getElem? (i := 341) (by decide +kernel)) rfl
theorem tw_342 : Cond.fieldLink "StageDispatcher$Template" 44 "StageDispatcher$Template" "groups" "I" ∈ gk_Y.2.2.2 := gk_inT (List.mem_of_getElem? (i := 342) (by decide +kernel)) rfl
theorem tw_343 : Cond.fieldLink "StageDispatcher$Template" 47 "StageDispatcher$Template" "narrowGroups" "I" ∈ gk_Y.2.2.2 := gk_inT (List.mem_of_getElem? (i := 343) (by decide +kernel)) rfl
theorem tw_344 : Cond.laysFinal "StageDispatcher$Template" "StageDispatcher$Template" "pieces" "[I" ∈ gk_Y.2.2.2 := gk_inT (List.mem_of_getElem? (i := 344) (by decide +kernel)) rfl
theorem tw_346 : Cond.laysFinal "StageDispatcher$Template" "StageDispatcher$Template" "count" "I" ∈ gk_Y.2.2.2 := gk_inT (List.mem_of_getElem? (i := 346) (by decide +kernel)) rfl
theorem tw_348 : Cond.laysFinal "StageDispatcher$Template" "StageDispatcher$Template" "literals" "I" ∈ gk_Y.2.2.2 := gk_inT (List.mem_of_getElem? (i := 348) (by decide +kernel)) rfl
theorem tw_350 : Cond.laysFinal "StageDispatcher$Template" "StageDispatcher$Template" "groups" "I" ∈ gk_Y.2.2.2 := gk_inT (List.mem_of_getElem? (i := 350) (by decide +kernel)) rfl
theorem tw_352 : Cond.laysFinal "StageDispatcher$Template" "StageDispatcher$Template" "narrowGroups" "I" ∈ gk_Y.2.2.2 := gk_inT (List.mem_of_getElem? (i := 352) (by decide +kernel)) rfl
theorem tw_355 : Cond.methodLink "StageDispatcher" 72 ⟨"StageDispatcher$Catalog", "addResource", "(LStageDispatcher$Template;)I"⟩ ∈ gk_Y.2.2.2 := gk_inT (List.mem_of_getElem? (i := 355) (by decide +kernel)) rfl
theorem tw_356 : Cond.instanceMethod ⟨"StageDispatcher$Catalog", "addResource", "(LStageDispatcher$Template;)I"⟩ ∈ gk_Y.2.2.2 := gk_inT (List.mem_of_getElem? (i := 356) (by decide +kernel)) rfl
theorem tw_357 : Cond.selects "StageDispatcher$Catalog" ⟨"StageDispatcher$Catalog", "addResource", "(LStageDispatcher$Template;)I"⟩ ⟨"StageDispatcher$Catalog", "addResource", "(LStageDispatcher$Template;)I"⟩ ∈ gk_Y.2.2.2 := gk_inT (List.mem_of_getElem? (i := 357) (by decide +kernel)) rfl
theorem tw_358 : Cond.code y_Catalog_addResource c_Catalog_addResource 2 (some .int) ∈ gk_Y.2.2.2 := gk_inT (List.mem_of_getElem? (i := 358) (by decide +kernel)) rfl
theorem tw_359 : Cond.methodLink "StageDispatcher" 76 ⟨"StageDispatcher$Text", "clear", "()V"⟩ ∈ gk_Y.2.2.2 := gk_inT (List.mem_of_getElem? (i := 359) (by decide +kernel)) rfl
theorem tw_360 : Cond.instanceMethod ⟨"StageDispatcher$Text", "clear", "()V"⟩ ∈ gk_Y.2.2.2 := gk_inT (List.mem_of_getElem? (i := 360) (by decide +kernel)) rfl
theorem tw_361 : Cond.selects "StageDispatcher$Text" ⟨"StageDispatcher$Text", "clear", "()V"⟩ ⟨"StageDispatcher$Text", "clear", "()V"⟩ ∈ gk_Y.2.2.2 := gk_inT (List.mem_of_getElem? (i := 361) (by decide +kernel)) rfl
theorem tw_362 : Cond.code y_Text_clear c_Text_clear 1 none ∈ gk_Y.2.2.2 := gk_inT (List.mem_of_getElem? (i := 362) (by decide +kernel)) rfl
theorem tw_367 : Cond.methodLink "StageDispatcher" 85 ⟨"StageDispatcher$Catalog", "isResource", "(I)Z"⟩ ∈ gk_Y.2.2.2 := gk_inT (List.mem_of_getElem? (i := 367) (by decide +kernel)) rfl
theorem tw_368 : Cond.instanceMethod ⟨"StageDispatcher$Catalog", "isResource", "(I)Z"⟩ ∈ gk_Y.2.2.2 := gk_inT (List.mem_of_getElem? (i := 368) (by decide +kernel)) rfl
theorem tw_369 : Cond.selects "StageDispatcher$Catalog" ⟨"StageDispatcher$Catalog", "isResource", "(I)Z"⟩ ⟨"StageDispatcher$Catalog", "isResource", "(I)Z"⟩ ∈ gk_Y.2.2.2 := gk_inT (List.mem_of_getElem? (i := 369) (by decide +kernel)) rfl
theorem tw_370 : Cond.code y_Catalog_isResource c_Catalog_isResource 2 (some .boolean) ∈ gk_Y.2.2.2 := gk_inT (List.mem_of_getElem? (i := 370) (by decide +kernel)) rfl
theorem tw_372 : Cond.static ⟨"StageDispatcher", "isWithin", "(III)Z"⟩ ∈ gk_Y.2.2.2 := gk_inT (List.mem_of_getElem? (i := 372) (by decide +kernel)) rfl
theorem tw_373 : Cond.code y_SD_isWithin c_SD_isWithin 3 (some .boolean) ∈ gk_Y.2.2.2 := gk_inT (List.mem_of_getElem? (i := 373) (by decide +kernel)) rfl
theorem tw_374 : Cond.methodLink "StageDispatcher" 89 ⟨"StageDispatcher", "isVerb", "(I)Z"⟩ ∈ gk_Y.2.2.2 := gk_inT (List.mem_of_getElem? (i := 374) (by decide +kernel)) rfl
theorem tw_375 : Cond.static ⟨"StageDispatcher", "isVerb", "(I)Z"⟩ ∈ gk_Y.2.2.2 := gk_inT (List.mem_of_getElem? (i := 375) (by decide +kernel)) rfl
theorem tw_376 : Cond.code y_SD_isVerb c_SD_isVerb 1 (some .boolean) ∈ gk_Y.2.2.2 := gk_inT (List.mem_of_getElem? (i := 376) (by decide +kernel)) rfl
theorem tw_377 : Cond.methodLink "StageDispatcher" 95 ⟨"StageDispatcher", "isWithin", "(III)Z"⟩ ∈ gk_Y.2.2.2 := gk_inT (List.mem_of_getElem? (i := 377) (by decide +kernel)) rfl
theorem tw_378 : Cond.methodLink "StageDispatcher" 92 ⟨"StageDispatcher", "isType", "(I)Z"⟩ ∈ gk_Y.2.2.2 := gk_inT (List.mem_of_getElem? (i := 378) (by decide +kernel)) rfl
theorem tw_379 : Cond.static ⟨"StageDispatcher", "isType", "(I)Z"⟩ ∈ gk_Y.2.2.2 := gk_inT (List.mem_of_getElem? (i := 379) (by decide +kernel)) rfl
theorem tw_380 : Cond.code y_SD_isType c_SD_isType 2 (some .boolean) ∈ gk_Y.2.2.2 := gk_inT (List.mem_of_getElem? (i := 380) (by decide +kernel)) rfl
theorem tw_381 : Cond.classLink "StageDispatcher" 99 "StageDispatcher$Method" ∈ gk_Y.2.2.2 := gk_inT (List.mem_of_getElem? (i := 381) (by decide +kernel)) rfl
theorem tw_382 : Cond.instantiable "StageDispatcher$Method" 9 ∈ gk_Y.2.2.2 := gk_inT (List.mem_of_getElem? (i := 382) (by decide +kernel)) rfl
theorem tw_383 : Cond.methodLink "StageDispatcher" 101 ⟨"StageDispatcher$Method", "<init>", "(ILStageDispatcher$Template;IIII)V"⟩ ∈ gk_Y.2.2.2 := gk_inT (List.mem_of_getElem? (i := 383) (by decide +kernel)) rfl
theorem tw_384 : Cond.instanceMethod ⟨"StageDispatcher$Method", "<init>", "(ILStageDispatcher$Template;IIII)V"⟩ ∈ gk_Y.2.2.2 := gk_inT (List.mem_of_getElem? (i := 384) (by decide +kernel)) rfl
theorem tw_385 : Cond.code y_Method_init c_Method_init 7 none ∈ gk_Y.2.2.2 := gk_inT (List.mem_of_getElem? (i := 385) (by decide +kernel)) rfl
theorem tw_386 : Cond.methodLink "StageDispatcher$Method" 3 Lib.objectInit ∈ gk_Y.2.2.2 := gk_inT (List.mem_of_getElem? (i := 386) (by decide +kernel)) rfl
theorem tw_387 : Cond.fieldLink "StageDispatcher$Method" 21 "StageDispatcher$Method" "owner" "I" ∈ gk_Y.2.2.2 := gk_inT (List.mem_of_getElem? (i := 387) (by decide +kernel)) rfl
theorem tw_388 : Cond.fieldLink "StageDispatcher$Route" 112 "StageDispatcher$Method" "owner" "I" ∈ gk_Y.2.2.2 := gk_inT (List.mem_of_getElem? (i := 388) (by decide +kernel)) rfl
theorem tw_389 : Cond.fieldLink "StageDispatcher$Catalog" 43 "StageDispatcher$Method" "owner" "I" ∈ gk_Y.2.2.2 := gk_inT (List.mem_of_getElem? (i := 389) (by decide +kernel)) rfl
theorem tw_390 : Cond.fieldLink "StageDispatcher$Method" 24 "StageDispatcher$Method" "template" "LStageDispatcher$Template;" ∈ gk_Y.2.2.2 := gk_inT (List.mem_of_getElem? (i := 390) (by decide +kernel)) rfl
theorem tw_391 : Cond.fieldLink "StageDispatcher$Route" 109 "StageDispatcher$Method" "template" "LStageDispatcher$Template;" ∈ gk_Y.2.2.2 := gk_inT (List.mem_of_getElem? (i := 391) (by decide +kernel)) rfl
theorem tw_392 : Cond.fieldLink "StageDispatcher$Catalog" 46 "StageDispatcher$Method" "template" "LStageDispatcher$Template;" ∈ gk_Y.2.2.2 := gk_inT (List.mem_of_getElem? (i := 392) (by decide +kernel)) rfl
theorem tw_393 : Cond.fieldLink "StageDispatcher$Method" 28 "StageDispatcher$Method" "verb" "I" ∈ gk_Y.2.2.2 := gk_inT (List.mem_of_getElem? (i := 393) (by decide +kernel)) rfl
theorem tw_394 : Cond.fieldLink "StageDispatcher$Catalog" 59 "StageDispatcher$Method" "verb" "I" ∈ gk_Y.2.2.2 := gk_inT (List.mem_of_getElem? (i := 394) (by decide +kernel)) rfl
theorem tw_395 : Cond.fieldLink "StageDispatcher$Method" 31 "StageDispatcher$Method" "consumes" "I" ∈ gk_Y.2.2.2 := gk_inT (List.mem_of_getElem? (i := 395) (by decide +kernel)) rfl
theorem tw_396 : Cond.fieldLink "StageDispatcher$Catalog" 62 "StageDispatcher$Method" "consumes" "I" ∈ gk_Y.2.2.2 := gk_inT (List.mem_of_getElem? (i := 396) (by decide +kernel)) rfl
theorem tw_397 : Cond.fieldLink "StageDispatcher" 294 "StageDispatcher$Method" "consumes" "I" ∈ gk_Y.2.2.2 := gk_inT (List.mem_of_getElem? (i := 397) (by decide +kernel)) rfl
theorem tw_398 : Cond.fieldLink "StageDispatcher$Method" 34 "StageDispatcher$Method" "produces" "I" ∈ gk_Y.2.2.2 := gk_inT (List.mem_of_getElem? (i := 398) (by decide +kernel)) rfl
theorem tw_399 : Cond.fieldLink "StageDispatcher$Accepted" 30 "StageDispatcher$Method" "produces" "I" ∈ gk_Y.2.2.2 := gk_inT (List.mem_of_getElem? (i := 399) (by decide +kernel)) rfl
theorem tw_400 : Cond.fieldLink "StageDispatcher" 308 "StageDispatcher$Method" "produces" "I" ∈ gk_Y.2.2.2 := gk_inT (List.mem_of_getElem? (i := 400) (by decide +kernel)) rfl
theorem tw_401 : Cond.fieldLink "StageDispatcher$Method" 37 "StageDispatcher$Method" "quality" "I" ∈ gk_Y.2.2.2 := gk_inT (List.mem_of_getElem? (i := 401) (by decide +kernel)) rfl
theorem tw_402 : Cond.fieldLink "StageDispatcher$Accepted" 48 "StageDispatcher$Method" "quality" "I" ∈ gk_Y.2.2.2 := gk_inT (List.mem_of_getElem? (i := 402) (by decide +kernel)) rfl
theorem tw_403 : Cond.fieldLink "StageDispatcher$Method" 9 "StageDispatcher$Method" "converts" "I" ∈ gk_Y.2.2.2 := gk_inT (List.mem_of_getElem? (i := 403) (by decide +kernel)) rfl
theorem tw_404 : Cond.fieldLink "StageDispatcher" 115 "StageDispatcher$Method" "converts" "I" ∈ gk_Y.2.2.2 := gk_inT (List.mem_of_getElem? (i := 404) (by decide +kernel)) rfl
theorem tw_405 : Cond.fieldLink "StageDispatcher$Method" 15 "StageDispatcher$Method" "name" "I" ∈ gk_Y.2.2.2 := gk_inT (List.mem_of_getElem? (i := 405) (by decide +kernel)) rfl
theorem tw_406 : Cond.fieldLink "StageDispatcher" 118 "StageDispatcher$Method" "name" "I" ∈ gk_Y.2.2.2 := gk_inT (List.mem_of_getElem? (i := 406) (by decide +kernel)) rfl
theorem tw_407 : Cond.fieldLink "StageDispatcher$Method" 18 "StageDispatcher$Method" "throwing" "I" ∈ gk_Y.2.2.2 := gk_inT (List.mem_of_getElem? (i := 407) (by decide +kernel)) rfl
theorem tw_408 : Cond.fieldLink "StageDispatcher" 121 "StageDispatcher$Method" "throwing" "I" ∈ gk_Y.2.2.2 := gk_inT (List.mem_of_getElem? (i := 408) (by decide +kernel)) rfl
theorem tw_409 : Cond.laysFinal "StageDispatcher$Method" "StageDispatcher$Method" "owner" "I" ∈ gk_Y.2.2.2 := gk_inT (List.mem_of_getElem? (i := 409) (by decide +kernel)) rfl
theorem tw_411 : Cond.laysFinal "StageDispatcher$Method" "StageDispatcher$Method" "template" "LStageDispatcher$Template;" ∈ gk_Y.2.2.2 := gk_inT (List.mem_of_getElem? (i := 411) (by decide +kernel)) rfl
theorem tw_413 : Cond.laysFinal "StageDispatcher$Method" "StageDispatcher$Method" "verb" "I" ∈ gk_Y.2.2.2 := gk_inT (List.mem_of_getElem? (i := 413) (by decide +kernel)) rfl
theorem tw_415 : Cond.laysFinal "StageDispatcher$Method" "StageDispatcher$Method" "consumes" "I" ∈ gk_Y.2.2.2 := gk_inT (List.mem_of_getElem? (i := 415) (by decide +kernel)) rfl
theorem tw_417 : Cond.laysFinal "StageDispatcher$Method" "StageDispatcher$Method" "produces" "I" ∈ gk_Y.2.2.2 := gk_inT (List.mem_of_getElem? (i := 417) (by decide +kernel)) rfl
theorem tw_419 : Cond.laysFinal "StageDispatcher$Method" "StageDispatcher$Method" "quality" "I" ∈ gk_Y.2.2.2 := gk_inT (List.mem_of_getElem? (i := 419) (by decide +kernel)) rfl
theorem tw_421 : Cond.lays "StageDispatcher$Method" "StageDispatcher$Method" "converts" "I" ∈ gk_Y.2.2.2 := gk_inT (List.mem_of_getElem? (i := 421) (by decide +kernel)) rfl
theorem tw_423 : Cond.lays "StageDispatcher$Method" "StageDispatcher$Method" "name" "I" ∈ gk_Y.2.2.2 := gk_inT (List.mem_of_getElem? (i := 423) (by decide +kernel)) rfl
theorem tw_425 : Cond.lays "StageDispatcher$Method" "StageDispatcher$Method" "throwing" "I" ∈ gk_Y.2.2.2 := gk_inT (List.mem_of_getElem? (i := 425) (by decide +kernel)) rfl
theorem tw_428 : Cond.methodLink "StageDispatcher" 104 ⟨"StageDispatcher$Catalog", "addMethod", "(LStageDispatcher$Method;)I"⟩ ∈ gk_Y.2.2.2 := gk_inT (List.mem_of_getElem? (i := 428) (by decide +kernel)) rfl
theorem tw_429 : Cond.instanceMethod ⟨"StageDispatcher$Catalog", "addMethod", "(LStageDispatcher$Method;)I"⟩ ∈ gk_Y.2.2.2 := gk_inT (List.mem_of_getElem? (i := 429) (by decide +kernel)) rfl
theorem tw_430 : Cond.selects "StageDispatcher$Catalog" ⟨"StageDispatcher$Catalog", "addMethod", "(LStageDispatcher$Method;)I"⟩ ⟨"StageDispatcher$Catalog", "addMethod", "(LStageDispatcher$Method;)I"⟩ ∈ gk_Y.2.2.2 := gk_inT (List.mem_of_getElem? (i := 430) (by decide +kernel)) rfl
theorem tw_431 : Cond.code y_Catalog_addMethod c_Catalog_addMethod 2 (some .int) ∈ gk_Y.2.2.2 := gk_inT (List.mem_of_getElem? (i := 431) (by decide +kernel)) rfl
theorem tw_436 : Cond.methodLink "StageDispatcher" 108 ⟨"StageDispatcher", "isThrown", "(I)Z"⟩ ∈ gk_Y.2.2.2 := gk_inT (List.mem_of_getElem? (i := 436) (by decide +kernel)) rfl
theorem tw_437 : Cond.static ⟨"StageDispatcher", "isThrown", "(I)Z"⟩ ∈ gk_Y.2.2.2 := gk_inT (List.mem_of_getElem? (i := 437) (by decide +kernel)) rfl
theorem tw_438 : Cond.code y_SD_isThrown c_SD_isThrown 1 (some .boolean) ∈ gk_Y.2.2.2 := gk_inT (List.mem_of_getElem? (i := 438) (by decide +kernel)) rfl
theorem tw_443 : Cond.classLink "StageDispatcher" 127 "StageDispatcher$Locator" ∈ gk_Y.2.2.2 := gk_inT (List.mem_of_getElem? (i := 443) (by decide +kernel)) rfl
theorem tw_444 : Cond.instantiable "StageDispatcher$Locator" 3 ∈ gk_Y.2.2.2 := gk_inT (List.mem_of_getElem? (i := 444) (by decide +kernel)) rfl
theorem tw_446 : Cond.instanceMethod ⟨"StageDispatcher$Locator", "<init>", "(ILStageDispatcher$Template;I)V"⟩ ∈ gk_Y.2.2.2 := gk_inT (List.mem_of_getElem? (i := 446) (by decide +kernel)) rfl
theorem tw_447 : Cond.code y_Locator_init c_Locator_init 4 none ∈ gk_Y.2.2.2 := gk_inT (List.mem_of_getElem? (i := 447) (by decide +kernel)) rfl
theorem tw_448 : Cond.methodLink "StageDispatcher$Locator" 1 ⟨"java/lang/Record", "<init>", "()V"⟩ ∈ gk_Y.2.2.2 := gk_inT (List.mem_of_getElem? (i := 448) (by decide +kernel)) rfl
theorem tw_449 : Cond.instanceMethod ⟨"java/lang/Record", "<init>", "()V"⟩ ∈ gk_Y.2.2.2 := gk_inT (List.mem_of_getElem? (i := 449) (by decide +kernel)) rfl
theorem tw_450 : Cond.code y_Record_init c_Record_init 1 none ∈ gk_Y.2.2.2 := gk_inT (List.mem_of_getElem? (i := 450) (by decide +kernel)) rfl
theorem tw_451 : Cond.methodLink "java/lang/Record" 1 Lib.objectInit ∈ gk_Y.2.2.2 := gk_inT (List.mem_of_getElem? (i := 451) (by decide +kernel)) rfl
theorem tw_452 : Cond.fieldLink "StageDispatcher$Locator" 7 "StageDispatcher$Locator" "owner" "I" ∈ gk_Y.2.2.2 := gk_inT (List.mem_of_getElem? (i := 452) (by decide +kernel)) rfl
theorem tw_455 : Cond.fieldLink "StageDispatcher$Locator" 13 "StageDispatcher$Locator" "template" "LStageDispatcher$Template;" ∈ gk_Y.2.2.2 := gk_inT (List.mem_of_getElem? (i := 455) (by decide +kernel)) rfl
theorem tw_457 : Cond.fieldLink "StageDispatcher$Locator" 17 "StageDispatcher$Locator" "target" "I" ∈ gk_Y.2.2.2 := gk_inT (List.mem_of_getElem? (i := 457) (by decide +kernel)) rfl
theorem tw_459 : Cond.laysFinal "StageDispatcher$Locator" "StageDispatcher$Locator" "owner" "I" ∈ gk_Y.2.2.2 := gk_inT (List.mem_of_getElem? (i := 459) (by decide +kernel)) rfl
theorem tw_461 : Cond.laysFinal "StageDispatcher$Locator" "StageDispatcher$Locator" "template" "LStageDispatcher$Template;" ∈ gk_Y.2.2.2 := gk_inT (List.mem_of_getElem? (i := 461) (by decide +kernel)) rfl
theorem tw_463 : Cond.laysFinal "StageDispatcher$Locator" "StageDispatcher$Locator" "target" "I" ∈ gk_Y.2.2.2 := gk_inT (List.mem_of_getElem? (i := 463) (by decide +kernel)) rfl
theorem tw_466 : Cond.methodLink "StageDispatcher" 132 ⟨"StageDispatcher$Catalog", "addLocator", "(LStageDispatcher$Locator;)I"⟩ ∈ gk_Y.2.2.2 := gk_inT (List.mem_of_getElem? (i := 466) (by decide +kernel)) rfl
theorem tw_467 : Cond.instanceMethod ⟨"StageDispatcher$Catalog", "addLocator", "(LStageDispatcher$Locator;)I"⟩ ∈ gk_Y.2.2.2 := gk_inT (List.mem_of_getElem? (i := 467) (by decide +kernel)) rfl
theorem tw_468 : Cond.selects "StageDispatcher$Catalog" ⟨"StageDispatcher$Catalog", "addLocator", "(LStageDispatcher$Locator;)I"⟩ ⟨"StageDispatcher$Catalog", "addLocator", "(LStageDispatcher$Locator;)I"⟩ ∈ gk_Y.2.2.2 := gk_inT (List.mem_of_getElem? (i := 468) (by decide +kernel)) rfl
theorem tw_469 : Cond.code y_Catalog_addLocator c_Catalog_addLocator 2 (some .int) ∈ gk_Y.2.2.2 := gk_inT (List.mem_of_getElem? (i := 469) (by decide +kernel)) rfl
theorem tw_474 : Cond.methodLink "StageDispatcher" 139 ⟨"StageDispatcher", "isStatus", "(I)Z"⟩ ∈ gk_Y.2.2.2 := gk_inT (List.mem_of_getElem? (i := 474) (by decide +kernel)) rfl
theorem tw_475 : Cond.static ⟨"StageDispatcher", "isStatus", "(I)Z"⟩ ∈ gk_Y.2.2.2 := gk_inT (List.mem_of_getElem? (i := 475) (by decide +kernel)) rfl
theorem tw_476 : Cond.code y_SD_isStatus c_SD_isStatus 1 (some .boolean) ∈ gk_Y.2.2.2 := gk_inT (List.mem_of_getElem? (i := 476) (by decide +kernel)) rfl
theorem tw_477 : Cond.classLink "StageDispatcher" 142 "StageDispatcher$Filter" ∈ gk_Y.2.2.2 := gk_inT (List.mem_of_getElem? (i := 477) (by decide +kernel)) rfl
theorem tw_478 : Cond.instantiable "StageDispatcher$Filter" 5 ∈ gk_Y.2.2.2 := gk_inT (List.mem_of_getElem? (i := 478) (by decide +kernel)) rfl
theorem tw_480 : Cond.instanceMethod ⟨"StageDispatcher$Filter", "<init>", "(IIIII)V"⟩ ∈ gk_Y.2.2.2 := gk_inT (List.mem_of_getElem? (i := 480) (by decide +kernel)) rfl
theorem tw_481 : Cond.code y_Filter_init c_Filter_init 6 none ∈ gk_Y.2.2.2 := gk_inT (List.mem_of_getElem? (i := 481) (by decide +kernel)) rfl
theorem tw_482 : Cond.methodLink "StageDispatcher$Filter" 1 ⟨"java/lang/Record", "<init>", "()V"⟩ ∈ gk_Y.2.2.2 := gk_inT (List.mem_of_getElem? (i := 482) (by decide +kernel)) rfl
theorem tw_483 : Cond.fieldLink "StageDispatcher$Filter" 7 "StageDispatcher$Filter" "priority" "I" ∈ gk_Y.2.2.2 := gk_inT (List.mem_of_getElem? (i := 483) (by decide +kernel)) rfl
theorem tw_485 : Cond.fieldLink "StageDispatcher$Filter" 13 "StageDispatcher$Filter" "name" "I" ∈ gk_Y.2.2.2 := gk_inT (List.mem_of_getElem? (i := 485) (by decide +kernel)) rfl
theorem tw_487 : Cond.fieldLink "StageDispatcher$Filter" 16 "StageDispatcher$Filter" "kind" "I" ∈ gk_Y.2.2.2 := gk_inT (List.mem_of_getElem? (i := 487) (by decide +kernel)) rfl
theorem tw_489 : Cond.fieldLink "StageDispatcher$Filter" 19 "StageDispatcher$Filter" "x" "I" ∈ gk_Y.2.2.2 := gk_inT (List.mem_of_getElem? (i := 489) (by decide +kernel)) rfl
theorem tw_491 : Cond.fieldLink "StageDispatcher$Filter" 22 "StageDispatcher$Filter" "status" "I" ∈ gk_Y.2.2.2 := gk_inT (List.mem_of_getElem? (i := 491) (by decide +kernel)) rfl
theorem tw_493 : Cond.laysFinal "StageDispatcher$Filter" "StageDispatcher$Filter" "priority" "I" ∈ gk_Y.2.2.2 := gk_inT (List.mem_of_getElem? (i := 493) (by decide +kernel)) rfl
theorem tw_495 : Cond.laysFinal "StageDispatcher$Filter" "StageDispatcher$Filter" "name" "I" ∈ gk_Y.2.2.2 := gk_inT (List.mem_of_getElem? (i := 495) (by decide +kernel)) rfl
theorem tw_497 : Cond.laysFinal "StageDispatcher$Filter" "StageDispatcher$Filter" "kind" "I" ∈ gk_Y.2.2.2 := gk_inT (List.mem_of_getElem? (i := 497) (by decide +kernel)) rfl
theorem tw_499 : Cond.laysFinal "StageDispatcher$Filter" "StageDispatcher$Filter" "x" "I" ∈ gk_Y.2.2.2 := gk_inT (List.mem_of_getElem? (i := 499) (by decide +kernel)) rfl
theorem tw_501 : Cond.laysFinal "StageDispatcher$Filter" "StageDispatcher$Filter" "status" "I" ∈ gk_Y.2.2.2 := gk_inT (List.mem_of_getElem? (i := 501) (by decide +kernel)) rfl
theorem tw_504 : Cond.methodLink "StageDispatcher" 147 ⟨"StageDispatcher$FilterChain", "add", "(LStageDispatcher$Filter;)I"⟩ ∈ gk_Y.2.2.2 := gk_inT (List.mem_of_getElem? (i := 504) (by decide +kernel)) rfl
theorem tw_505 : Cond.instanceMethod ⟨"StageDispatcher$FilterChain", "add", "(LStageDispatcher$Filter;)I"⟩ ∈ gk_Y.2.2.2 := gk_inT (List.mem_of_getElem? (i := 505) (by decide +kernel)) rfl
theorem tw_506 : Cond.selects "StageDispatcher$FilterChain" ⟨"StageDispatcher$FilterChain", "add", "(LStageDispatcher$Filter;)I"⟩ ⟨"StageDispatcher$FilterChain", "add", "(LStageDispatcher$Filter;)I"⟩ ∈ gk_Y.2.2.2 := gk_inT (List.mem_of_getElem? (i := 506) (by decide +kernel)) rfl
theorem tw_507 : Cond.code y_FilterChain_add c_FilterChain_add 4 (some .int) ∈ gk_Y.2.2.2 := gk_inT (List.mem_of_getElem? (i := 507) (by decide +kernel)) rfl
theorem tw_516 : Cond.methodLink "StageDispatcher" 152 ⟨"StageDispatcher$Accepted", "add", "(II)V"⟩ ∈ gk_Y.2.2.2 := gk_inT (List.mem_of_getElem? (i := 516) (by decide +kernel)) rfl
theorem tw_517 : Cond.instanceMethod ⟨"StageDispatcher$Accepted", "add", "(II)V"⟩ ∈ gk_Y.2.2.2 := gk_inT (List.mem_of_getElem? (i := 517) (by decide +kernel)) rfl
theorem tw_518 : Cond.selects "StageDispatcher$Accepted" ⟨"StageDispatcher$Accepted", "add", "(II)V"⟩ ⟨"StageDispatcher$Accepted", "add", "(II)V"⟩ ∈ gk_Y.2.2.2 := gk_inT (List.mem_of_getElem? (i := 518) (by decide +kernel)) rfl
theorem tw_519 : Cond.code y_Accepted_add c_Accepted_add 3 none ∈ gk_Y.2.2.2 := gk_inT (List.mem_of_getElem? (i := 519) (by decide +kernel)) rfl
theorem tw_524 : Cond.methodLink "StageDispatcher" 155 ⟨"StageDispatcher$Text", "isPath", "()Z"⟩ ∈ gk_Y.2.2.2 := gk_inT (List.mem_of_getElem? (i := 524) (by decide +kernel)) rfl
theorem tw_525 : Cond.instanceMethod ⟨"StageDispatcher$Text", "isPath", "()Z"⟩ ∈ gk_Y.2.2.2 := gk_inT (List.mem_of_getElem? (i := 525) (by decide +kernel)) rfl
theorem tw_526 : Cond.selects "StageDispatcher$Text" ⟨"StageDispatcher$Text", "isPath", "()Z"⟩ ⟨"StageDispatcher$Text", "isPath", "()Z"⟩ ∈ gk_Y.2.2.2 := gk_inT (List.mem_of_getElem? (i := 526) (by decide +kernel)) rfl
theorem tw_527 : Cond.code y_Text_isPath c_Text_isPath 2 (some .boolean) ∈ gk_Y.2.2.2 := gk_inT (List.mem_of_getElem? (i := 527) (by decide +kernel)) rfl
theorem tw_528 : Cond.methodLink "StageDispatcher$Text" 25 ⟨"StageDispatcher$Text", "has", "(IC)Z"⟩ ∈ gk_Y.2.2.2 := gk_inT (List.mem_of_getElem? (i := 528) (by decide +kernel)) rfl
theorem tw_529 : Cond.methodLink "StageDispatcher" 159 ⟨"StageDispatcher", "isConcrete", "(I)Z"⟩ ∈ gk_Y.2.2.2 := gk_inT (List.mem_of_getElem? (i := 529) (by decide +kernel)) rfl
theorem tw_530 : Cond.static ⟨"StageDispatcher", "isConcrete", "(I)Z"⟩ ∈ gk_Y.2.2.2 := gk_inT (List.mem_of_getElem? (i := 530) (by decide +kernel)) rfl
theorem tw_531 : Cond.code y_SD_isConcrete c_SD_isConcrete 1 (some .boolean) ∈ gk_Y.2.2.2 := gk_inT (List.mem_of_getElem? (i := 531) (by decide +kernel)) rfl
theorem tw_532 : Cond.methodLink "StageDispatcher" 162 ⟨"StageDispatcher$Outcome", "begin", "(LStageDispatcher$Text;)V"⟩ ∈ gk_Y.2.2.2 := gk_inT (List.mem_of_getElem? (i := 532) (by decide +kernel)) rfl
theorem tw_533 : Cond.instanceMethod ⟨"StageDispatcher$Outcome", "begin", "(LStageDispatcher$Text;)V"⟩ ∈ gk_Y.2.2.2 := gk_inT (List.mem_of_getElem? (i := 533) (by decide +kernel)) rfl
theorem tw_534 : Cond.selects "StageDispatcher$Outcome" ⟨"StageDispatcher$Outcome", "begin", "(LStageDispatcher$Text;)V"⟩ ⟨"StageDispatcher$Outcome", "begin", "(LStageDispatcher$Text;)V"⟩ ∈ gk_Y.2.2.2 := gk_inT (List.mem_of_getElem? (i := 534) (by decide +kernel)) rfl
theorem tw_535 : Cond.code y_Outcome_begin c_Outcome_begin 2 none ∈ gk_Y.2.2.2 := gk_inT (List.mem_of_getElem? (i := 535) (by decide +kernel)) rfl
theorem tw_536 : Cond.methodLink "StageDispatcher$Outcome" 56 ⟨"StageDispatcher$Text", "copyFrom", "(LStageDispatcher$Text;)V"⟩ ∈ gk_Y.2.2.2 := gk_inT (List.mem_of_getElem? (i := 536) (by decide +kernel)) rfl
theorem tw_537 : Cond.instanceMethod ⟨"StageDispatcher$Text", "copyFrom", "(LStageDispatcher$Text;)V"⟩ ∈ gk_Y.2.2.2 := gk_inT (List.mem_of_getElem? (i := 537) (by decide +kernel)) rfl
theorem tw_538 : Cond.selects "StageDispatcher$Text" ⟨"StageDispatcher$Text", "copyFrom", "(LStageDispatcher$Text;)V"⟩ ⟨"StageDispatcher$Text", "copyFrom", "(LStageDispatcher$Text;)V"⟩ ∈ gk_Y.2.2.2 := gk_inT (List.mem_of_getElem? (i := 538) (by decide +kernel)) rfl
theorem tw_539 : Cond.code y_Text_copyFrom c_Text_copyFrom 2 none ∈ gk_Y.2.2.2 := gk_inT (List.mem_of_getElem? (i := 539) (by decide +kernel)) rfl
theorem tw_540 : Cond.methodLink "StageDispatcher$Text" 19 arraycopyName ∈ gk_Y.2.2.2 := gk_inT (List.mem_of_getElem? (i := 540) (by decide +kernel)) rfl
theorem tw_541 : Cond.static arraycopyName ∈ gk_Y.2.2.2 := gk_inT (List.mem_of_getElem? (i := 541) (by decide +kernel)) rfl
theorem tw_542 : Cond.native arraycopyName ∈ gk_Y.2.2.2 := gk_inT (List.mem_of_getElem? (i := 542) (by decide +kernel)) rfl
theorem tw_543 : Cond.methodLink "StageDispatcher" 165 ⟨"StageDispatcher$Accepted", "addDefault", "()V"⟩ ∈ gk_Y.2.2.2 := gk_inT (List.mem_of_getElem? (i := 543) (by decide +kernel)) rfl
theorem tw_544 : Cond.instanceMethod ⟨"StageDispatcher$Accepted", "addDefault", "()V"⟩ ∈ gk_Y.2.2.2 := gk_inT (List.mem_of_getElem? (i := 544) (by decide +kernel)) rfl
theorem tw_545 : Cond.selects "StageDispatcher$Accepted" ⟨"StageDispatcher$Accepted", "addDefault", "()V"⟩ ⟨"StageDispatcher$Accepted", "addDefault", "()V"⟩ ∈ gk_Y.2.2.2 := gk_inT (List.mem_of_getElem? (i := 545) (by decide +kernel)) rfl
theorem tw_546 : Cond.code y_Accepted_addDefault c_Accepted_addDefault 1 none ∈ gk_Y.2.2.2 := gk_inT (List.mem_of_getElem? (i := 546) (by decide +kernel)) rfl
theorem tw_547 : Cond.methodLink "StageDispatcher$Accepted" 22 ⟨"StageDispatcher$Accepted", "add", "(II)V"⟩ ∈ gk_Y.2.2.2 := gk_inT (List.mem_of_getElem? (i := 547) (by decide +kernel)) rfl
theorem tw_548 : Cond.methodLink "StageDispatcher" 168 ⟨"StageDispatcher", "runSteps", "(III)I"⟩ ∈ gk_Y.2.2.2 := gk_inT (List.mem_of_getElem? (i := 548) (by decide +kernel)) rfl
theorem tw_550 : Cond.instanceMethod ⟨"StageDispatcher", "runSteps", "(III)I"⟩ ∈ gk_Y.2.2.2 := gk_inT (List.mem_of_getElem? (i := 550) (by decide +kernel)) rfl
theorem tw_551 : Cond.code y_SD_runSteps c_SD_runSteps 7 (some .int) ∈ gk_Y.2.2.2 := gk_inT (List.mem_of_getElem? (i := 551) (by decide +kernel)) rfl
theorem tw_552 : Cond.methodLink "StageDispatcher" 216 ⟨"StageDispatcher", "runFilters", "(III)I"⟩ ∈ gk_Y.2.2.2 := gk_inT (List.mem_of_getElem? (i := 552) (by decide +kernel)) rfl
theorem tw_554 : Cond.instanceMethod ⟨"StageDispatcher", "runFilters", "(III)I"⟩ ∈ gk_Y.2.2.2 := gk_inT (List.mem_of_getElem? (i := 554) (by decide +kernel)) rfl
theorem tw_555 : Cond.code y_SD_runFilters c_SD_runFilters 8 (some .int) ∈ gk_Y.2.2.2 := gk_inT (List.mem_of_getElem? (i := 555) (by decide +kernel)) rfl
theorem tw_556 : Cond.methodLink "StageDispatcher" 252 ⟨"StageDispatcher", "isBound", "(LStageDispatcher$Filter;)Z"⟩ ∈ gk_Y.2.2.2 := gk_inT (List.mem_of_getElem? (i := 556) (by decide +kernel)) rfl
theorem tw_558 : Cond.instanceMethod ⟨"StageDispatcher", "isBound", "(LStageDispatcher$Filter;)Z"⟩ ∈ gk_Y.2.2.2 := gk_inT (List.mem_of_getElem? (i := 558) (by decide +kernel)) rfl
theorem tw_559 : Cond.code y_SD_isBound c_SD_isBound 3 (some .boolean) ∈ gk_Y.2.2.2 := gk_inT (List.mem_of_getElem? (i := 559) (by decide +kernel)) rfl
theorem tw_560 : Cond.methodLink "StageDispatcher" 256 ⟨"StageDispatcher$Outcome", "addRan", "(I)V"⟩ ∈ gk_Y.2.2.2 := gk_inT (List.mem_of_getElem? (i := 560) (by decide +kernel)) rfl
theorem tw_561 : Cond.instanceMethod ⟨"StageDispatcher$Outcome", "addRan", "(I)V"⟩ ∈ gk_Y.2.2.2 := gk_inT (List.mem_of_getElem? (i := 561) (by decide +kernel)) rfl
theorem tw_562 : Cond.selects "StageDispatcher$Outcome" ⟨"StageDispatcher$Outcome", "addRan", "(I)V"⟩ ⟨"StageDispatcher$Outcome", "addRan", "(I)V"⟩ ∈ gk_Y.2.2.2 := gk_inT (List.mem_of_getElem? (i := 562) (by decide +kernel)) rfl
theorem tw_563 : Cond.code y_Outcome_addRan c_Outcome_addRan 2 none ∈ gk_Y.2.2.2 := gk_inT (List.mem_of_getElem? (i := 563) (by decide +kernel)) rfl
theorem tw_564 : Cond.methodLink "StageDispatcher" 219 ⟨"StageDispatcher$Route", "findClasses", "(LStageDispatcher$Catalog;LStageDispatcher$Outcome;)Z"⟩ ∈ gk_Y.2.2.2 := gk_inT (List.mem_of_getElem? (i := 564) (by decide +kernel)) rfl
theorem tw_565 : Cond.instanceMethod ⟨"StageDispatcher$Route", "findClasses", "(LStageDispatcher$Catalog;LStageDispatcher$Outcome;)Z"⟩ ∈ gk_Y.2.2.2 := gk_inT (List.mem_of_getElem? (i := 565) (by decide +kernel)) rfl
theorem tw_566 : Cond.selects "StageDispatcher$Route" ⟨"StageDispatcher$Route", "findClasses", "(LStageDispatcher$Catalog;LStageDispatcher$Outcome;)Z"⟩ ⟨"StageDispatcher$Route", "findClasses", "(LStageDispatcher$Catalog;LStageDispatcher$Outcome;)Z"⟩ ∈ gk_Y.2.2.2 := gk_inT (List.mem_of_getElem? (i := 566) (by decide +kernel)) rfl
theorem tw_567 : Cond.code y_Route_findClasses c_Route_findClasses 6 (some .boolean) ∈ gk_Y.2.2.2 := gk_inT (List.mem_of_getElem? (i := 567) (by decide +kernel)) rfl
theorem tw_568 : Cond.methodLink "StageDispatcher$Route" 37 ⟨"StageDispatcher$Template", "isHeavierThan", "(LStageDispatcher$Template;)Z"⟩ ∈ gk_Y.2.2.2 := gk_inT (List.mem_of_getElem? (i := 568) (by decide +kernel)) rfl
theorem tw_569 : Cond.instanceMethod ⟨"StageDispatcher$Template", "isHeavierThan", "(LStageDispatcher$Template;)Z"⟩ ∈ gk_Y.2.2.2 := gk_inT (List.mem_of_getElem? (i := 569) (by decide +kernel)) rfl
theorem tw_570 : Cond.selects "StageDispatcher$Template" ⟨"StageDispatcher$Template", "isHeavierThan", "(LStageDispatcher$Template;)Z"⟩ ⟨"StageDispatcher$Template", "isHeavierThan", "(LStageDispatcher$Template;)Z"⟩ ∈ gk_Y.2.2.2 := gk_inT (List.mem_of_getElem? (i := 570) (by decide +kernel)) rfl
theorem tw_571 : Cond.code y_Template_isHeavierThan c_Template_isHeavierThan 2 (some .boolean) ∈ gk_Y.2.2.2 := gk_inT (List.mem_of_getElem? (i := 571) (by decide +kernel)) rfl
theorem tw_572 : Cond.methodLink "StageDispatcher$Route" 49 ⟨"StageDispatcher$Fit", "find", "(LStageDispatcher$Template;LStageDispatcher$Text;I)Z"⟩ ∈ gk_Y.2.2.2 := gk_inT (List.mem_of_getElem? (i := 572) (by decide +kernel)) rfl
theorem tw_573 : Cond.instanceMethod ⟨"StageDispatcher$Fit", "find", "(LStageDispatcher$Template;LStageDispatcher$Text;I)Z"⟩ ∈ gk_Y.2.2.2 := gk_inT (List.mem_of_getElem? (i := 573) (by decide +kernel)) rfl
theorem tw_574 : Cond.selects "StageDispatcher$Fit" ⟨"StageDispatcher$Fit", "find", "(LStageDispatcher$Template;LStageDispatcher$Text;I)Z"⟩ ⟨"StageDispatcher$Fit", "find", "(LStageDispatcher$Template;LStageDispatcher$Text;I)Z"⟩ ∈ gk_Y.2.2.2 := gk_inT (List.mem_of_getElem? (i := 574) (by decide +kernel)) rfl
theorem tw_575 : Cond.code y_Fit_find c_Fit_find 7 (some .boolean) ∈ gk_Y.2.2.2 := gk_inT (List.mem_of_getElem? (i := 575) (by decide +kernel)) rfl
theorem tw_576 : Cond.methodLink "StageDispatcher$Fit" 28 ⟨"StageDispatcher$Fit", "openPlaces", "(LStageDispatcher$Template;LStageDispatcher$Text;I)V"⟩ ∈ gk_Y.2.2.2 := gk_inT (List.mem_of_getElem? (i := 576) (by decide +kernel)) rfl
theorem tw_578 : Cond.instanceMethod ⟨"StageDispatcher$Fit", "openPlaces", "(LStageDispatcher$Template;LStageDispatcher$Text;I)V"⟩ ∈ gk_Y.2.2.2 := gk_inT (List.mem_of_getElem? (i := 578) (by decide +kernel)) rfl
theorem tw_579 : Cond.code y_Fit_openPlaces c_Fit_openPlaces 8 none ∈ gk_Y.2.2.2 := gk_inT (List.mem_of_getElem? (i := 579) (by decide +kernel)) rfl
theorem tw_580 : Cond.methodLink "StageDispatcher$Fit" 57 ⟨"StageDispatcher$Text", "has", "(IC)Z"⟩ ∈ gk_Y.2.2.2 := gk_inT (List.mem_of_getElem? (i := 580) (by decide +kernel)) rfl
theorem tw_581 : Cond.methodLink "StageDispatcher$Fit" 44 ⟨"StageDispatcher$Fit", "lastEnd", "(ILStageDispatcher$Text;II)I"⟩ ∈ gk_Y.2.2.2 := gk_inT (List.mem_of_getElem? (i := 581) (by decide +kernel)) rfl
theorem tw_582 : Cond.static ⟨"StageDispatcher$Fit", "lastEnd", "(ILStageDispatcher$Text;II)I"⟩ ∈ gk_Y.2.2.2 := gk_inT (List.mem_of_getElem? (i := 582) (by decide +kernel)) rfl
theorem tw_583 : Cond.code y_Fit_lastEnd c_Fit_lastEnd 7 (some .int) ∈ gk_Y.2.2.2 := gk_inT (List.mem_of_getElem? (i := 583) (by decide +kernel)) rfl
theorem tw_584 : Cond.methodLink "StageDispatcher$Fit" 48 ⟨"StageDispatcher$Template", "isGroup", "(I)Z"⟩ ∈ gk_Y.2.2.2 := gk_inT (List.mem_of_getElem? (i := 584) (by decide +kernel)) rfl
theorem tw_585 : Cond.methodLink "StageDispatcher$Fit" 61 Lib.Math.min.name ∈ gk_Y.2.2.2 := gk_inT (List.mem_of_getElem? (i := 585) (by decide +kernel)) rfl
theorem tw_586 : Cond.static Lib.Math.min.name ∈ gk_Y.2.2.2 := gk_inT (List.mem_of_getElem? (i := 586) (by decide +kernel)) rfl
theorem tw_587 : Cond.code Lib.Math.min.name Lib.Math.min.code 2 (some .int) ∈ gk_Y.2.2.2 := gk_inT (List.mem_of_getElem? (i := 587) (by decide +kernel)) rfl
theorem tw_588 : Cond.methodLink "StageDispatcher$Fit" 71 ⟨"StageDispatcher$Fit", "mayHold", "(IC)Z"⟩ ∈ gk_Y.2.2.2 := gk_inT (List.mem_of_getElem? (i := 588) (by decide +kernel)) rfl
theorem tw_589 : Cond.static ⟨"StageDispatcher$Fit", "mayHold", "(IC)Z"⟩ ∈ gk_Y.2.2.2 := gk_inT (List.mem_of_getElem? (i := 589) (by decide +kernel)) rfl
theorem tw_590 : Cond.code y_Fit_mayHold c_Fit_mayHold 2 (some .boolean) ∈ gk_Y.2.2.2 := gk_inT (List.mem_of_getElem? (i := 590) (by decide +kernel)) rfl
theorem tw_592 : Cond.static ⟨"StageDispatcher", "holds", "(II)Z"⟩ ∈ gk_Y.2.2.2 := gk_inT (List.mem_of_getElem? (i := 592) (by decide +kernel)) rfl
theorem tw_593 : Cond.code y_SD_holds c_SD_holds 2 (some .boolean) ∈ gk_Y.2.2.2 := gk_inT (List.mem_of_getElem? (i := 593) (by decide +kernel)) rfl
theorem tw_594 : Cond.methodLink "StageDispatcher$Route" 56 ⟨"StageDispatcher$Text", "endsAt", "(I)Z"⟩ ∈ gk_Y.2.2.2 := gk_inT (List.mem_of_getElem? (i := 594) (by decide +kernel)) rfl
theorem tw_595 : Cond.instanceMethod ⟨"StageDispatcher$Text", "endsAt", "(I)Z"⟩ ∈ gk_Y.2.2.2 := gk_inT (List.mem_of_getElem? (i := 595) (by decide +kernel)) rfl
theorem tw_596 : Cond.selects "StageDispatcher$Text" ⟨"StageDispatcher$Text", "endsAt", "(I)Z"⟩ ⟨"StageDispatcher$Text", "endsAt", "(I)Z"⟩ ∈ gk_Y.2.2.2 := gk_inT (List.mem_of_getElem? (i := 596) (by decide +kernel)) rfl
theorem tw_597 : Cond.code y_Text_endsAt c_Text_endsAt 2 (some .boolean) ∈ gk_Y.2.2.2 := gk_inT (List.mem_of_getElem? (i := 597) (by decide +kernel)) rfl
theorem tw_598 : Cond.methodLink "StageDispatcher$Route" 62 ⟨"StageDispatcher$Catalog", "leadsDeeper", "(I)Z"⟩ ∈ gk_Y.2.2.2 := gk_inT (List.mem_of_getElem? (i := 598) (by decide +kernel)) rfl
theorem tw_599 : Cond.instanceMethod ⟨"StageDispatcher$Catalog", "leadsDeeper", "(I)Z"⟩ ∈ gk_Y.2.2.2 := gk_inT (List.mem_of_getElem? (i := 599) (by decide +kernel)) rfl
theorem tw_600 : Cond.selects "StageDispatcher$Catalog" ⟨"StageDispatcher$Catalog", "leadsDeeper", "(I)Z"⟩ ⟨"StageDispatcher$Catalog", "leadsDeeper", "(I)Z"⟩ ∈ gk_Y.2.2.2 := gk_inT (List.mem_of_getElem? (i := 600) (by decide +kernel)) rfl
theorem tw_601 : Cond.code y_Catalog_leadsDeeper c_Catalog_leadsDeeper 3 (some .boolean) ∈ gk_Y.2.2.2 := gk_inT (List.mem_of_getElem? (i := 601) (by decide +kernel)) rfl
theorem tw_602 : Cond.methodLink "StageDispatcher$Route" 65 ⟨"StageDispatcher$Route", "follow", "(LStageDispatcher$Template;LStageDispatcher$Outcome;)V"⟩ ∈ gk_Y.2.2.2 := gk_inT (List.mem_of_getElem? (i := 602) (by decide +kernel)) rfl
theorem tw_604 : Cond.instanceMethod ⟨"StageDispatcher$Route", "follow", "(LStageDispatcher$Template;LStageDispatcher$Outcome;)V"⟩ ∈ gk_Y.2.2.2 := gk_inT (List.mem_of_getElem? (i := 604) (by decide +kernel)) rfl
theorem tw_605 : Cond.code y_Route_follow c_Route_follow 4 none ∈ gk_Y.2.2.2 := gk_inT (List.mem_of_getElem? (i := 605) (by decide +kernel)) rfl
theorem tw_606 : Cond.methodLink "StageDispatcher$Route" 137 ⟨"StageDispatcher$Outcome", "addParameter", "(II)V"⟩ ∈ gk_Y.2.2.2 := gk_inT (List.mem_of_getElem? (i := 606) (by decide +kernel)) rfl
theorem tw_607 : Cond.instanceMethod ⟨"StageDispatcher$Outcome", "addParameter", "(II)V"⟩ ∈ gk_Y.2.2.2 := gk_inT (List.mem_of_getElem? (i := 607) (by decide +kernel)) rfl
theorem tw_608 : Cond.selects "StageDispatcher$Outcome" ⟨"StageDispatcher$Outcome", "addParameter", "(II)V"⟩ ⟨"StageDispatcher$Outcome", "addParameter", "(II)V"⟩ ∈ gk_Y.2.2.2 := gk_inT (List.mem_of_getElem? (i := 608) (by decide +kernel)) rfl
theorem tw_609 : Cond.code y_Outcome_addParameter c_Outcome_addParameter 3 none ∈ gk_Y.2.2.2 := gk_inT (List.mem_of_getElem? (i := 609) (by decide +kernel)) rfl
theorem tw_610 : Cond.methodLink "StageDispatcher$Route" 69 ⟨"StageDispatcher$Catalog", "rootsWith", "(LStageDispatcher$Template;)I"⟩ ∈ gk_Y.2.2.2 := gk_inT (List.mem_of_getElem? (i := 610) (by decide +kernel)) rfl
theorem tw_611 : Cond.instanceMethod ⟨"StageDispatcher$Catalog", "rootsWith", "(LStageDispatcher$Template;)I"⟩ ∈ gk_Y.2.2.2 := gk_inT (List.mem_of_getElem? (i := 611) (by decide +kernel)) rfl
theorem tw_612 : Cond.selects "StageDispatcher$Catalog" ⟨"StageDispatcher$Catalog", "rootsWith", "(LStageDispatcher$Template;)I"⟩ ⟨"StageDispatcher$Catalog", "rootsWith", "(LStageDispatcher$Template;)I"⟩ ∈ gk_Y.2.2.2 := gk_inT (List.mem_of_getElem? (i := 612) (by decide +kernel)) rfl
theorem tw_613 : Cond.code y_Catalog_rootsWith c_Catalog_rootsWith 4 (some .int) ∈ gk_Y.2.2.2 := gk_inT (List.mem_of_getElem? (i := 613) (by decide +kernel)) rfl
theorem tw_614 : Cond.methodLink "StageDispatcher$Catalog" 51 ⟨"StageDispatcher$Template", "isSameAs", "(LStageDispatcher$Template;)Z"⟩ ∈ gk_Y.2.2.2 := gk_inT (List.mem_of_getElem? (i := 614) (by decide +kernel)) rfl
theorem tw_615 : Cond.instanceMethod ⟨"StageDispatcher$Template", "isSameAs", "(LStageDispatcher$Template;)Z"⟩ ∈ gk_Y.2.2.2 := gk_inT (List.mem_of_getElem? (i := 615) (by decide +kernel)) rfl
theorem tw_616 : Cond.selects "StageDispatcher$Template" ⟨"StageDispatcher$Template", "isSameAs", "(LStageDispatcher$Template;)Z"⟩ ⟨"StageDispatcher$Template", "isSameAs", "(LStageDispatcher$Template;)Z"⟩ ∈ gk_Y.2.2.2 := gk_inT (List.mem_of_getElem? (i := 616) (by decide +kernel)) rfl
theorem tw_617 : Cond.code y_Template_isSameAs c_Template_isSameAs 3 (some .boolean) ∈ gk_Y.2.2.2 := gk_inT (List.mem_of_getElem? (i := 617) (by decide +kernel)) rfl
theorem tw_618 : Cond.methodLink "StageDispatcher" 223 ⟨"StageDispatcher$Route", "findCandidates", "(LStageDispatcher$Catalog;LStageDispatcher$Outcome;)Z"⟩ ∈ gk_Y.2.2.2 := gk_inT (List.mem_of_getElem? (i := 618) (by decide +kernel)) rfl
theorem tw_619 : Cond.instanceMethod ⟨"StageDispatcher$Route", "findCandidates", "(LStageDispatcher$Catalog;LStageDispatcher$Outcome;)Z"⟩ ∈ gk_Y.2.2.2 := gk_inT (List.mem_of_getElem? (i := 619) (by decide +kernel)) rfl
theorem tw_620 : Cond.selects "StageDispatcher$Route" ⟨"StageDispatcher$Route", "findCandidates", "(LStageDispatcher$Catalog;LStageDispatcher$Outcome;)Z"⟩ ⟨"StageDispatcher$Route", "findCandidates", "(LStageDispatcher$Catalog;LStageDispatcher$Outcome;)Z"⟩ ∈ gk_Y.2.2.2 := gk_inT (List.mem_of_getElem? (i := 620) (by decide +kernel)) rfl
theorem tw_621 : Cond.code y_Route_findCandidates c_Route_findCandidates 6 (some .boolean) ∈ gk_Y.2.2.2 := gk_inT (List.mem_of_getElem? (i := 621) (by decide +kernel)) rfl
theorem tw_622 : Cond.methodLink "StageDispatcher$Route" 73 ⟨"StageDispatcher$Catalog", "bareMethods", "(I)I"⟩ ∈ gk_Y.2.2.2 := gk_inT (List.mem_of_getElem? (i := 622) (by decide +kernel)) rfl
theorem tw_623 : Cond.instanceMethod ⟨"StageDispatcher$Catalog", "bareMethods", "(I)I"⟩ ∈ gk_Y.2.2.2 := gk_inT (List.mem_of_getElem? (i := 623) (by decide +kernel)) rfl
theorem tw_624 : Cond.selects "StageDispatcher$Catalog" ⟨"StageDispatcher$Catalog", "bareMethods", "(I)I"⟩ ⟨"StageDispatcher$Catalog", "bareMethods", "(I)I"⟩ ∈ gk_Y.2.2.2 := gk_inT (List.mem_of_getElem? (i := 624) (by decide +kernel)) rfl
theorem tw_625 : Cond.code y_Catalog_bareMethods c_Catalog_bareMethods 4 (some .int) ∈ gk_Y.2.2.2 := gk_inT (List.mem_of_getElem? (i := 625) (by decide +kernel)) rfl
theorem tw_627 : Cond.methodLink "StageDispatcher$Route" 77 ⟨"StageDispatcher$Route", "heaviestOfMethods", "(LStageDispatcher$Catalog;LStageDispatcher$Text;)LStageDispatcher$Template;"⟩ ∈ gk_Y.2.2.2 := gk_inT (List.mem_of_getElem? (i := 627) (by decide +kernel)) rfl
theorem tw_629 : Cond.instanceMethod ⟨"StageDispatcher$Route", "heaviestOfMethods", "(LStageDispatcher$Catalog;LStageDispatcher$Text;)LStageDispatcher$Template;"⟩ ∈ gk_Y.2.2.2 := gk_inT (List.mem_of_getElem? (i := 629) (by decide +kernel)) rfl
theorem tw_630 : Cond.code y_Route_heaviestOfMethods c_Route_heaviestOfMethods 6 (some (.object "StageDispatcher$Template")) ∈ gk_Y.2.2.2 := gk_inT (List.mem_of_getElem? (i := 630) (by decide +kernel)) rfl
theorem tw_632 : Cond.methodLink "StageDispatcher$Route" 81 ⟨"StageDispatcher$Route", "heaviestLocator", "(LStageDispatcher$Catalog;LStageDispatcher$Text;)LStageDispatcher$Locator;"⟩ ∈ gk_Y.2.2.2 := gk_inT (List.mem_of_getElem? (i := 632) (by decide +kernel)) rfl
theorem tw_634 : Cond.instanceMethod ⟨"StageDispatcher$Route", "heaviestLocator", "(LStageDispatcher$Catalog;LStageDispatcher$Text;)LStageDispatcher$Locator;"⟩ ∈ gk_Y.2.2.2 := gk_inT (List.mem_of_getElem? (i := 634) (by decide +kernel)) rfl
theorem tw_635 : Cond.code y_Route_heaviestLocator c_Route_heaviestLocator 6 (some (.object "StageDispatcher$Locator")) ∈ gk_Y.2.2.2 := gk_inT (List.mem_of_getElem? (i := 635) (by decide +kernel)) rfl
theorem tw_636 : Cond.methodLink "StageDispatcher$Route" 94 ⟨"StageDispatcher$Outcome", "addHop", "(I)V"⟩ ∈ gk_Y.2.2.2 := gk_inT (List.mem_of_getElem? (i := 636) (by decide +kernel)) rfl
theorem tw_637 : Cond.instanceMethod ⟨"StageDispatcher$Outcome", "addHop", "(I)V"⟩ ∈ gk_Y.2.2.2 := gk_inT (List.mem_of_getElem? (i := 637) (by decide +kernel)) rfl
theorem tw_638 : Cond.selects "StageDispatcher$Outcome" ⟨"StageDispatcher$Outcome", "addHop", "(I)V"⟩ ⟨"StageDispatcher$Outcome", "addHop", "(I)V"⟩ ∈ gk_Y.2.2.2 := gk_inT (List.mem_of_getElem? (i := 638) (by decide +kernel)) rfl
theorem tw_639 : Cond.code y_Outcome_addHop c_Outcome_addHop 2 none ∈ gk_Y.2.2.2 := gk_inT (List.mem_of_getElem? (i := 639) (by decide +kernel)) rfl
theorem tw_640 : Cond.methodLink "StageDispatcher$Route" 98 ⟨"StageDispatcher$Catalog", "methodsWith", "(ILStageDispatcher$Template;)I"⟩ ∈ gk_Y.2.2.2 := gk_inT (List.mem_of_getElem? (i := 640) (by decide +kernel)) rfl
theorem tw_641 : Cond.instanceMethod ⟨"StageDispatcher$Catalog", "methodsWith", "(ILStageDispatcher$Template;)I"⟩ ∈ gk_Y.2.2.2 := gk_inT (List.mem_of_getElem? (i := 641) (by decide +kernel)) rfl
theorem tw_642 : Cond.selects "StageDispatcher$Catalog" ⟨"StageDispatcher$Catalog", "methodsWith", "(ILStageDispatcher$Template;)I"⟩ ⟨"StageDispatcher$Catalog", "methodsWith", "(ILStageDispatcher$Template;)I"⟩ ∈ gk_Y.2.2.2 := gk_inT (List.mem_of_getElem? (i := 642) (by decide +kernel)) rfl
theorem tw_643 : Cond.code y_Catalog_methodsWith c_Catalog_methodsWith 6 (some .int) ∈ gk_Y.2.2.2 := gk_inT (List.mem_of_getElem? (i := 643) (by decide +kernel)) rfl
theorem tw_644 : Cond.methodLink "StageDispatcher" 229 ⟨"StageDispatcher", "choose", "(III)I"⟩ ∈ gk_Y.2.2.2 := gk_inT (List.mem_of_getElem? (i := 644) (by decide +kernel)) rfl
theorem tw_646 : Cond.instanceMethod ⟨"StageDispatcher", "choose", "(III)I"⟩ ∈ gk_Y.2.2.2 := gk_inT (List.mem_of_getElem? (i := 646) (by decide +kernel)) rfl
theorem tw_647 : Cond.code y_SD_choose c_SD_choose 7 (some .int) ∈ gk_Y.2.2.2 := gk_inT (List.mem_of_getElem? (i := 647) (by decide +kernel)) rfl
theorem tw_648 : Cond.methodLink "StageDispatcher" 270 ⟨"StageDispatcher$Catalog", "verbsAllowedBy", "(I)I"⟩ ∈ gk_Y.2.2.2 := gk_inT (List.mem_of_getElem? (i := 648) (by decide +kernel)) rfl
theorem tw_649 : Cond.instanceMethod ⟨"StageDispatcher$Catalog", "verbsAllowedBy", "(I)I"⟩ ∈ gk_Y.2.2.2 := gk_inT (List.mem_of_getElem? (i := 649) (by decide +kernel)) rfl
theorem tw_650 : Cond.selects "StageDispatcher$Catalog" ⟨"StageDispatcher$Catalog", "verbsAllowedBy", "(I)I"⟩ ⟨"StageDispatcher$Catalog", "verbsAllowedBy", "(I)I"⟩ ∈ gk_Y.2.2.2 := gk_inT (List.mem_of_getElem? (i := 650) (by decide +kernel)) rfl
theorem tw_651 : Cond.code y_Catalog_verbsAllowedBy c_Catalog_verbsAllowedBy 4 (some .int) ∈ gk_Y.2.2.2 := gk_inT (List.mem_of_getElem? (i := 651) (by decide +kernel)) rfl
theorem tw_652 : Cond.methodLink "StageDispatcher" 273 ⟨"StageDispatcher$Catalog", "withVerb", "(II)I"⟩ ∈ gk_Y.2.2.2 := gk_inT (List.mem_of_getElem? (i := 652) (by decide +kernel)) rfl
theorem tw_653 : Cond.instanceMethod ⟨"StageDispatcher$Catalog", "withVerb", "(II)I"⟩ ∈ gk_Y.2.2.2 := gk_inT (List.mem_of_getElem? (i := 653) (by decide +kernel)) rfl
theorem tw_654 : Cond.selects "StageDispatcher$Catalog" ⟨"StageDispatcher$Catalog", "withVerb", "(II)I"⟩ ⟨"StageDispatcher$Catalog", "withVerb", "(II)I"⟩ ∈ gk_Y.2.2.2 := gk_inT (List.mem_of_getElem? (i := 654) (by decide +kernel)) rfl
theorem tw_655 : Cond.code y_Catalog_withVerb c_Catalog_withVerb 5 (some .int) ∈ gk_Y.2.2.2 := gk_inT (List.mem_of_getElem? (i := 655) (by decide +kernel)) rfl
theorem tw_656 : Cond.methodLink "StageDispatcher" 277 ⟨"StageDispatcher$Catalog", "consuming", "(II)I"⟩ ∈ gk_Y.2.2.2 := gk_inT (List.mem_of_getElem? (i := 656) (by decide +kernel)) rfl
theorem tw_657 : Cond.instanceMethod ⟨"StageDispatcher$Catalog", "consuming", "(II)I"⟩ ∈ gk_Y.2.2.2 := gk_inT (List.mem_of_getElem? (i := 657) (by decide +kernel)) rfl
theorem tw_658 : Cond.selects "StageDispatcher$Catalog" ⟨"StageDispatcher$Catalog", "consuming", "(II)I"⟩ ⟨"StageDispatcher$Catalog", "consuming", "(II)I"⟩ ∈ gk_Y.2.2.2 := gk_inT (List.mem_of_getElem? (i := 658) (by decide +kernel)) rfl
theorem tw_659 : Cond.code y_Catalog_consuming c_Catalog_consuming 5 (some .int) ∈ gk_Y.2.2.2 := gk_inT (List.mem_of_getElem? (i := 659) (by decide +kernel)) rfl
theorem tw_661 : Cond.static ⟨"StageDispatcher", "covers", "(II)Z"⟩ ∈ gk_Y.2.2.2 := gk_inT (List.mem_of_getElem? (i := 661) (by decide +kernel)) rfl
theorem tw_662 : Cond.code y_SD_covers c_SD_covers 2 (some .boolean) ∈ gk_Y.2.2.2 := gk_inT (List.mem_of_getElem? (i := 662) (by decide +kernel)) rfl
theorem tw_663 : Cond.methodLink "StageDispatcher" 280 ⟨"StageDispatcher", "bestOf", "(IZ)I"⟩ ∈ gk_Y.2.2.2 := gk_inT (List.mem_of_getElem? (i := 663) (by decide +kernel)) rfl
theorem tw_665 : Cond.instanceMethod ⟨"StageDispatcher", "bestOf", "(IZ)I"⟩ ∈ gk_Y.2.2.2 := gk_inT (List.mem_of_getElem? (i := 665) (by decide +kernel)) rfl
theorem tw_666 : Cond.code y_SD_bestOf c_SD_bestOf 10 (some .int) ∈ gk_Y.2.2.2 := gk_inT (List.mem_of_getElem? (i := 666) (by decide +kernel)) rfl
theorem tw_667 : Cond.methodLink "StageDispatcher" 287 ⟨"StageDispatcher", "holds", "(II)Z"⟩ ∈ gk_Y.2.2.2 := gk_inT (List.mem_of_getElem? (i := 667) (by decide +kernel)) rfl
theorem tw_668 : Cond.methodLink "StageDispatcher" 291 ⟨"StageDispatcher$Accepted", "bestFor", "(LStageDispatcher$Method;)I"⟩ ∈ gk_Y.2.2.2 := gk_inT (List.mem_of_getElem? (i := 668) (by decide +kernel)) rfl
theorem tw_669 : Cond.instanceMethod ⟨"StageDispatcher$Accepted", "bestFor", "(LStageDispatcher$Method;)I"⟩ ∈ gk_Y.2.2.2 := gk_inT (List.mem_of_getElem? (i := 669) (by decide +kernel)) rfl
theorem tw_670 : Cond.selects "StageDispatcher$Accepted" ⟨"StageDispatcher$Accepted", "bestFor", "(LStageDispatcher$Method;)I"⟩ ⟨"StageDispatcher$Accepted", "bestFor", "(LStageDispatcher$Method;)I"⟩ ∈ gk_Y.2.2.2 := gk_inT (List.mem_of_getElem? (i := 670) (by decide +kernel)) rfl
theorem tw_671 : Cond.code y_Accepted_bestFor c_Accepted_bestFor 6 (some .int) ∈ gk_Y.2.2.2 := gk_inT (List.mem_of_getElem? (i := 671) (by decide +kernel)) rfl
theorem tw_672 : Cond.methodLink "StageDispatcher$Accepted" 26 ⟨"StageDispatcher$Accepted", "worth", "(ILStageDispatcher$Method;)I"⟩ ∈ gk_Y.2.2.2 := gk_inT (List.mem_of_getElem? (i := 672) (by decide +kernel)) rfl
theorem tw_673 : Cond.instanceMethod ⟨"StageDispatcher$Accepted", "worth", "(ILStageDispatcher$Method;)I"⟩ ∈ gk_Y.2.2.2 := gk_inT (List.mem_of_getElem? (i := 673) (by decide +kernel)) rfl
theorem tw_674 : Cond.selects "StageDispatcher$Accepted" ⟨"StageDispatcher$Accepted", "worth", "(ILStageDispatcher$Method;)I"⟩ ⟨"StageDispatcher$Accepted", "worth", "(ILStageDispatcher$Method;)I"⟩ ∈ gk_Y.2.2.2 := gk_inT (List.mem_of_getElem? (i := 674) (by decide +kernel)) rfl
theorem tw_675 : Cond.code y_Accepted_worth c_Accepted_worth 6 (some .int) ∈ gk_Y.2.2.2 := gk_inT (List.mem_of_getElem? (i := 675) (by decide +kernel)) rfl
theorem tw_677 : Cond.static ⟨"StageDispatcher", "meeting", "(II)I"⟩ ∈ gk_Y.2.2.2 := gk_inT (List.mem_of_getElem? (i := 677) (by decide +kernel)) rfl
theorem tw_678 : Cond.code y_SD_meeting c_SD_meeting 2 (some .int) ∈ gk_Y.2.2.2 := gk_inT (List.mem_of_getElem? (i := 678) (by decide +kernel)) rfl
theorem tw_679 : Cond.methodLink "StageDispatcher" 317 ⟨"StageDispatcher", "covers", "(II)Z"⟩ ∈ gk_Y.2.2.2 := gk_inT (List.mem_of_getElem? (i := 679) (by decide +kernel)) rfl
theorem tw_681 : Cond.static ⟨"StageDispatcher", "rankOf", "(I)I"⟩ ∈ gk_Y.2.2.2 := gk_inT (List.mem_of_getElem? (i := 681) (by decide +kernel)) rfl
theorem tw_682 : Cond.code y_SD_rankOf c_SD_rankOf 1 (some .int) ∈ gk_Y.2.2.2 := gk_inT (List.mem_of_getElem? (i := 682) (by decide +kernel)) rfl
theorem tw_683 : Cond.methodLink "StageDispatcher$Accepted" 43 Lib.Math.abs.name ∈ gk_Y.2.2.2 := gk_inT (List.mem_of_getElem? (i := 683) (by decide +kernel)) rfl
theorem tw_684 : Cond.static Lib.Math.abs.name ∈ gk_Y.2.2.2 := gk_inT (List.mem_of_getElem? (i := 684) (by decide +kernel)) rfl
theorem tw_685 : Cond.code Lib.Math.abs.name Lib.Math.abs.code 1 (some .int) ∈ gk_Y.2.2.2 := gk_inT (List.mem_of_getElem? (i := 685) (by decide +kernel)) rfl
theorem tw_686 : Cond.methodLink "StageDispatcher" 297 ⟨"StageDispatcher", "rankOf", "(I)I"⟩ ∈ gk_Y.2.2.2 := gk_inT (List.mem_of_getElem? (i := 686) (by decide +kernel)) rfl
theorem tw_687 : Cond.constant "StageDispatcher" 300 9018009 ∈ gk_Y.2.2.2 := gk_inT (List.mem_of_getElem? (i := 687) (by decide +kernel)) rfl
theorem tw_688 : Cond.methodLink "StageDispatcher" 301 ⟨"StageDispatcher$Accepted", "worth", "(ILStageDispatcher$Method;)I"⟩ ∈ gk_Y.2.2.2 := gk_inT (List.mem_of_getElem? (i := 688) (by decide +kernel)) rfl
theorem tw_689 : Cond.methodLink "StageDispatcher" 284 ⟨"StageDispatcher", "answeredType", "(LStageDispatcher$Method;)I"⟩ ∈ gk_Y.2.2.2 := gk_inT (List.mem_of_getElem? (i := 689) (by decide +kernel)) rfl
theorem tw_691 : Cond.instanceMethod ⟨"StageDispatcher", "answeredType", "(LStageDispatcher$Method;)I"⟩ ∈ gk_Y.2.2.2 := gk_inT (List.mem_of_getElem? (i := 691) (by decide +kernel)) rfl
theorem tw_692 : Cond.code y_SD_answeredType c_SD_answeredType 4 (some .int) ∈ gk_Y.2.2.2 := gk_inT (List.mem_of_getElem? (i := 692) (by decide +kernel)) rfl
theorem tw_693 : Cond.methodLink "StageDispatcher" 311 ⟨"StageDispatcher", "meeting", "(II)I"⟩ ∈ gk_Y.2.2.2 := gk_inT (List.mem_of_getElem? (i := 693) (by decide +kernel)) rfl
theorem tw_694 : Cond.methodLink "StageDispatcher" 232 ⟨"StageDispatcher", "statusOf", "(I)I"⟩ ∈ gk_Y.2.2.2 := gk_inT (List.mem_of_getElem? (i := 694) (by decide +kernel)) rfl
theorem tw_696 : Cond.instanceMethod ⟨"StageDispatcher", "statusOf", "(I)I"⟩ ∈ gk_Y.2.2.2 := gk_inT (List.mem_of_getElem? (i := 696) (by decide +kernel)) rfl
theorem tw_697 : Cond.code y_SD_statusOf c_SD_statusOf 3 (some .int) ∈ gk_Y.2.2.2 := gk_inT (List.mem_of_getElem? (i := 697) (by decide +kernel)) rfl
theorem tw_698 : Cond.methodLink "StageDispatcher" 239 ⟨"StageDispatcher", "invoke", "(LStageDispatcher$Method;)I"⟩ ∈ gk_Y.2.2.2 := gk_inT (List.mem_of_getElem? (i := 698) (by decide +kernel)) rfl
theorem tw_700 : Cond.instanceMethod ⟨"StageDispatcher", "invoke", "(LStageDispatcher$Method;)I"⟩ ∈ gk_Y.2.2.2 := gk_inT (List.mem_of_getElem? (i := 700) (by decide +kernel)) rfl
theorem tw_701 : Cond.code y_SD_invoke c_SD_invoke 3 (some .int) ∈ gk_Y.2.2.2 := gk_inT (List.mem_of_getElem? (i := 701) (by decide +kernel)) rfl
theorem tw_702 : Cond.methodLink "StageDispatcher" 314 ⟨"StageDispatcher$Outcome", "numberIn", "(I)I"⟩ ∈ gk_Y.2.2.2 := gk_inT (List.mem_of_getElem? (i := 702) (by decide +kernel)) rfl
theorem tw_703 : Cond.instanceMethod ⟨"StageDispatcher$Outcome", "numberIn", "(I)I"⟩ ∈ gk_Y.2.2.2 := gk_inT (List.mem_of_getElem? (i := 703) (by decide +kernel)) rfl
theorem tw_704 : Cond.selects "StageDispatcher$Outcome" ⟨"StageDispatcher$Outcome", "numberIn", "(I)I"⟩ ⟨"StageDispatcher$Outcome", "numberIn", "(I)I"⟩ ∈ gk_Y.2.2.2 := gk_inT (List.mem_of_getElem? (i := 704) (by decide +kernel)) rfl
theorem tw_705 : Cond.code y_Outcome_numberIn c_Outcome_numberIn 8 (some .int) ∈ gk_Y.2.2.2 := gk_inT (List.mem_of_getElem? (i := 705) (by decide +kernel)) rfl
theorem tw_707 : Cond.constantLong "StageDispatcher$Outcome" 68 10 ∈ gk_Y.2.2.2 := gk_inT (List.mem_of_getElem? (i := 707) (by decide +kernel)) rfl
theorem tw_708 : Cond.constantLong "StageDispatcher$Outcome" 70 2147483648 ∈ gk_Y.2.2.2 := gk_inT (List.mem_of_getElem? (i := 708) (by decide +kernel)) rfl
theorem tw_709 : Cond.methodLink "StageDispatcher$Outcome" 72 Lib.MathLoose.min_long.x ∈ gk_Y.2.2.2 := gk_inT (List.mem_of_getElem? (i := 709) (by decide +kernel)) rfl
theorem tw_710 : Cond.static Lib.MathLoose.min_long.x ∈ gk_Y.2.2.2 := gk_inT (List.mem_of_getElem? (i := 710) (by decide +kernel)) rfl
theorem tw_711 : Cond.code Lib.MathLoose.min_long.x Lib.MathLoose.min_long.code 4 (some .long) ∈ gk_Y.2.2.2 := gk_inT (List.mem_of_getElem? (i := 711) (by decide +kernel)) rfl
theorem tw_712 : Cond.constantLong "StageDispatcher$Outcome" 78 2147483647 ∈ gk_Y.2.2.2 := gk_inT (List.mem_of_getElem? (i := 712) (by decide +kernel)) rfl
theorem tw_713 : Cond.methodLink "StageDispatcher" 172 ⟨"StageDispatcher", "runFiltersAtTheEnd", "()V"⟩ ∈ gk_Y.2.2.2 := gk_inT (List.mem_of_getElem? (i := 713) (by decide +kernel)) rfl
theorem tw_715 : Cond.instanceMethod ⟨"StageDispatcher", "runFiltersAtTheEnd", "()V"⟩ ∈ gk_Y.2.2.2 := gk_inT (List.mem_of_getElem? (i := 715) (by decide +kernel)) rfl
theorem tw_716 : Cond.code y_SD_runFiltersAtTheEnd c_SD_runFiltersAtTheEnd 4 none ∈ gk_Y.2.2.2 := gk_inT (List.mem_of_getElem? (i := 716) (by decide +kernel)) rfl
theorem tw_717 : Cond.methodLink "StageDispatcher" 175 ⟨"StageDispatcher$Accepted", "clear", "()V"⟩ ∈ gk_Y.2.2.2 := gk_inT (List.mem_of_getElem? (i := 717) (by decide +kernel)) rfl
theorem tw_718 : Cond.instanceMethod ⟨"StageDispatcher$Accepted", "clear", "()V"⟩ ∈ gk_Y.2.2.2 := gk_inT (List.mem_of_getElem? (i := 718) (by decide +kernel)) rfl
theorem tw_719 : Cond.selects "StageDispatcher$Accepted" ⟨"StageDispatcher$Accepted", "clear", "()V"⟩ ⟨"StageDispatcher$Accepted", "clear", "()V"⟩ ∈ gk_Y.2.2.2 := gk_inT (List.mem_of_getElem? (i := 719) (by decide +kernel)) rfl
theorem tw_720 : Cond.code y_Accepted_clear c_Accepted_clear 1 none ∈ gk_Y.2.2.2 := gk_inT (List.mem_of_getElem? (i := 720) (by decide +kernel)) rfl
theorem tw_754 : Cond.methodLink "StageDispatcherModel" 1 Lib.objectInit ∈ gk_Y.2.2.2 := gk_inT (List.mem_of_getElem? (i := 754) (by decide +kernel)) rfl
theorem tw_755 : Cond.fieldLink "StageDispatcherModel" 7 "StageDispatcherModel" "buffer" "[C" ∈ gk_Y.2.2.2 := gk_inT (List.mem_of_getElem? (i := 755) (by decide +kernel)) rfl
theorem tw_756 : Cond.fieldLink "StageDispatcherModel" 118 "StageDispatcherModel" "typed" "I" ∈ gk_Y.2.2.2 := gk_inT (List.mem_of_getElem? (i := 756) (by decide +kernel)) rfl
theorem tw_757 : Cond.fieldLink "StageDispatcherModel" 13 "StageDispatcherModel" "template" "[C" ∈ gk_Y.2.2.2 := gk_inT (List.mem_of_getElem? (i := 757) (by decide +kernel)) rfl
theorem tw_758 : Cond.fieldLink "StageDispatcherModel" 16 "StageDispatcherModel" "size" "[I" ∈ gk_Y.2.2.2 := gk_inT (List.mem_of_getElem? (i := 758) (by decide +kernel)) rfl
theorem tw_759 : Cond.fieldLink "StageDispatcherModel" 156 "StageDispatcherModel" "resources" "I" ∈ gk_Y.2.2.2 := gk_inT (List.mem_of_getElem? (i := 759) (by decide +kernel)) rfl
theorem tw_760 : Cond.fieldLink "StageDispatcherModel" 175 "StageDispatcherModel" "methods" "I" ∈ gk_Y.2.2.2 := gk_inT (List.mem_of_getElem? (i := 760) (by decide +kernel)) rfl
theorem tw_761 : Cond.fieldLink "StageDispatcherModel" 20 "StageDispatcherModel" "mResource" "[I" ∈ gk_Y.2.2.2 := gk_inT (List.mem_of_getElem? (i := 761) (by decide +kernel)) rfl
theorem tw_762 : Cond.fieldLink "StageDispatcherModel" 23 "StageDispatcherModel" "mVerb" "[I" ∈ gk_Y.2.2.2 := gk_inT (List.mem_of_getElem? (i := 762) (by decide +kernel)) rfl
theorem tw_763 : Cond.fieldLink "StageDispatcherModel" 26 "StageDispatcherModel" "mConsumes" "[I" ∈ gk_Y.2.2.2 := gk_inT (List.mem_of_getElem? (i := 763) (by decide +kernel)) rfl
theorem tw_764 : Cond.fieldLink "StageDispatcherModel" 29 "StageDispatcherModel" "mProduces" "[I" ∈ gk_Y.2.2.2 := gk_inT (List.mem_of_getElem? (i := 764) (by decide +kernel)) rfl
theorem tw_765 : Cond.fieldLink "StageDispatcherModel" 32 "StageDispatcherModel" "mQuality" "[I" ∈ gk_Y.2.2.2 := gk_inT (List.mem_of_getElem? (i := 765) (by decide +kernel)) rfl
theorem tw_766 : Cond.fieldLink "StageDispatcherModel" 35 "StageDispatcherModel" "mConverts" "[I" ∈ gk_Y.2.2.2 := gk_inT (List.mem_of_getElem? (i := 766) (by decide +kernel)) rfl
theorem tw_767 : Cond.fieldLink "StageDispatcherModel" 38 "StageDispatcherModel" "mName" "[I" ∈ gk_Y.2.2.2 := gk_inT (List.mem_of_getElem? (i := 767) (by decide +kernel)) rfl
theorem tw_768 : Cond.fieldLink "StageDispatcherModel" 41 "StageDispatcherModel" "mThrows" "[I" ∈ gk_Y.2.2.2 := gk_inT (List.mem_of_getElem? (i := 768) (by decide +kernel)) rfl
theorem tw_769 : Cond.fieldLink "StageDispatcherModel" 178 "StageDispatcherModel" "locators" "I" ∈ gk_Y.2.2.2 := gk_inT (List.mem_of_getElem? (i := 769) (by decide +kernel)) rfl
theorem tw_770 : Cond.fieldLink "StageDispatcherModel" 44 "StageDispatcherModel" "lResource" "[I" ∈ gk_Y.2.2.2 := gk_inT (List.mem_of_getElem? (i := 770) (by decide +kernel)) rfl
theorem tw_771 : Cond.fieldLink "StageDispatcherModel" 47 "StageDispatcherModel" "lTarget" "[I" ∈ gk_Y.2.2.2 := gk_inT (List.mem_of_getElem? (i := 771) (by decide +kernel)) rfl
theorem tw_772 : Cond.fieldLink "StageDispatcherModel" 181 "StageDispatcherModel" "filters" "I" ∈ gk_Y.2.2.2 := gk_inT (List.mem_of_getElem? (i := 772) (by decide +kernel)) rfl
theorem tw_773 : Cond.fieldLink "StageDispatcherModel" 50 "StageDispatcherModel" "fPriority" "[I" ∈ gk_Y.2.2.2 := gk_inT (List.mem_of_getElem? (i := 773) (by decide +kernel)) rfl
theorem tw_774 : Cond.fieldLink "StageDispatcherModel" 53 "StageDispatcherModel" "fName" "[I" ∈ gk_Y.2.2.2 := gk_inT (List.mem_of_getElem? (i := 774) (by decide +kernel)) rfl
theorem tw_775 : Cond.fieldLink "StageDispatcherModel" 56 "StageDispatcherModel" "fKind" "[I" ∈ gk_Y.2.2.2 := gk_inT (List.mem_of_getElem? (i := 775) (by decide +kernel)) rfl
theorem tw_776 : Cond.fieldLink "StageDispatcherModel" 59 "StageDispatcherModel" "fHeader" "[I" ∈ gk_Y.2.2.2 := gk_inT (List.mem_of_getElem? (i := 776) (by decide +kernel)) rfl
theorem tw_777 : Cond.fieldLink "StageDispatcherModel" 62 "StageDispatcherModel" "fStatus" "[I" ∈ gk_Y.2.2.2 := gk_inT (List.mem_of_getElem? (i := 777) (by decide +kernel)) rfl
theorem tw_778 : Cond.fieldLink "StageDispatcherModel" 65 "StageDispatcherModel" "fDone" "[Z" ∈ gk_Y.2.2.2 := gk_inT (List.mem_of_getElem? (i := 778) (by decide +kernel)) rfl
theorem tw_779 : Cond.fieldLink "StageDispatcherModel" 69 "StageDispatcherModel" "mappers" "[I" ∈ gk_Y.2.2.2 := gk_inT (List.mem_of_getElem? (i := 779) (by decide +kernel)) rfl
theorem tw_780 : Cond.fieldLink "StageDispatcherModel" 184 "StageDispatcherModel" "accepts" "I" ∈ gk_Y.2.2.2 := gk_inT (List.mem_of_getElem? (i := 780) (by decide +kernel)) rfl
theorem tw_781 : Cond.fieldLink "StageDispatcherModel" 72 "StageDispatcherModel" "aType" "[I" ∈ gk_Y.2.2.2 := gk_inT (List.mem_of_getElem? (i := 781) (by decide +kernel)) rfl
theorem tw_782 : Cond.fieldLink "StageDispatcherModel" 75 "StageDispatcherModel" "aQ" "[I" ∈ gk_Y.2.2.2 := gk_inT (List.mem_of_getElem? (i := 782) (by decide +kernel)) rfl
theorem tw_783 : Cond.fieldLink "StageDispatcherModel" 78 "StageDispatcherModel" "path" "[C" ∈ gk_Y.2.2.2 := gk_inT (List.mem_of_getElem? (i := 783) (by decide +kernel)) rfl
theorem tw_784 : Cond.fieldLink "StageDispatcherModel" 132 "StageDispatcherModel" "length" "I" ∈ gk_Y.2.2.2 := gk_inT (List.mem_of_getElem? (i := 784) (by decide +kernel)) rfl
theorem tw_785 : Cond.fieldLink "StageDispatcherModel" 234 "StageDispatcherModel" "verb" "I" ∈ gk_Y.2.2.2 := gk_inT (List.mem_of_getElem? (i := 785) (by decide +kernel)) rfl
theorem tw_786 : Cond.fieldLink "StageDispatcherModel" 262 "StageDispatcherModel" "header" "I" ∈ gk_Y.2.2.2 := gk_inT (List.mem_of_getElem? (i := 786) (by decide +kernel)) rfl
theorem tw_787 : Cond.fieldLink "StageDispatcherModel" 268 "StageDispatcherModel" "status" "I" ∈ gk_Y.2.2.2 := gk_inT (List.mem_of_getElem? (i := 787) (by decide +kernel)) rfl
theorem tw_788 : Cond.fieldLink "StageDispatcherModel" 255 "StageDispatcherModel" "over" "Z" ∈ gk_Y.2.2.2 := gk_inT (List.mem_of_getElem? (i := 788) (by decide +kernel)) rfl
theorem tw_789 : Cond.fieldLink "StageDispatcherModel" 202 "StageDispatcherModel" "from" "I" ∈ gk_Y.2.2.2 := gk_inT (List.mem_of_getElem? (i := 789) (by decide +kernel)) rfl
theorem tw_790 : Cond.fieldLink "StageDispatcherModel" 115 "StageDispatcherModel" "method" "I" ∈ gk_Y.2.2.2 := gk_inT (List.mem_of_getElem? (i := 790) (by decide +kernel)) rfl
theorem tw_791 : Cond.fieldLink "StageDispatcherModel" 292 "StageDispatcherModel" "called" "Z" ∈ gk_Y.2.2.2 := gk_inT (List.mem_of_getElem? (i := 791) (by decide +kernel)) rfl
theorem tw_792 : Cond.fieldLink "StageDispatcherModel" 295 "StageDispatcherModel" "number" "I" ∈ gk_Y.2.2.2 := gk_inT (List.mem_of_getElem? (i := 792) (by decide +kernel)) rfl
theorem tw_793 : Cond.fieldLink "StageDispatcherModel" 231 "StageDispatcherModel" "verbs" "I" ∈ gk_Y.2.2.2 := gk_inT (List.mem_of_getElem? (i := 793) (by decide +kernel)) rfl
theorem tw_794 : Cond.fieldLink "StageDispatcherModel" 111 "StageDispatcherModel" "answer" "I" ∈ gk_Y.2.2.2 := gk_inT (List.mem_of_getElem? (i := 794) (by decide +kernel)) rfl
theorem tw_795 : Cond.fieldLink "StageDispatcherModel" 209 "StageDispatcherModel" "hops" "I" ∈ gk_Y.2.2.2 := gk_inT (List.mem_of_getElem? (i := 795) (by decide +kernel)) rfl
theorem tw_796 : Cond.fieldLink "StageDispatcherModel" 81 "StageDispatcherModel" "hopTo" "[I" ∈ gk_Y.2.2.2 := gk_inT (List.mem_of_getElem? (i := 796) (by decide +kernel)) rfl
theorem tw_797 : Cond.fieldLink "StageDispatcherModel" 149 "StageDispatcherModel" "parameters" "I" ∈ gk_Y.2.2.2 := gk_inT (List.mem_of_getElem? (i := 797) (by decide +kernel)) rfl
theorem tw_798 : Cond.fieldLink "StageDispatcherModel" 84 "StageDispatcherModel" "pStart" "[I" ∈ gk_Y.2.2.2 := gk_inT (List.mem_of_getElem? (i := 798) (by decide +kernel)) rfl
theorem tw_799 : Cond.fieldLink "StageDispatcherModel" 87 "StageDispatcherModel" "pLength" "[I" ∈ gk_Y.2.2.2 := gk_inT (List.mem_of_getElem? (i := 799) (by decide +kernel)) rfl
theorem tw_800 : Cond.fieldLink "StageDispatcherModel" 259 "StageDispatcherModel" "runs" "I" ∈ gk_Y.2.2.2 := gk_inT (List.mem_of_getElem? (i := 800) (by decide +kernel)) rfl
theorem tw_801 : Cond.fieldLink "StageDispatcherModel" 90 "StageDispatcherModel" "run" "[I" ∈ gk_Y.2.2.2 := gk_inT (List.mem_of_getElem? (i := 801) (by decide +kernel)) rfl
theorem tw_802 : Cond.fieldLink "StageDispatcherModel" 125 "StageDispatcherModel" "pieces" "I" ∈ gk_Y.2.2.2 := gk_inT (List.mem_of_getElem? (i := 802) (by decide +kernel)) rfl
theorem tw_803 : Cond.fieldLink "StageDispatcherModel" 93 "StageDispatcherModel" "piece" "[I" ∈ gk_Y.2.2.2 := gk_inT (List.mem_of_getElem? (i := 803) (by decide +kernel)) rfl
theorem tw_804 : Cond.fieldLink "StageDispatcherModel" 96 "StageDispatcherModel" "can" "[Z" ∈ gk_Y.2.2.2 := gk_inT (List.mem_of_getElem? (i := 804) (by decide +kernel)) rfl
theorem tw_805 : Cond.fieldLink "StageDispatcherModel" 143 "StageDispatcherModel" "groups" "I" ∈ gk_Y.2.2.2 := gk_inT (List.mem_of_getElem? (i := 805) (by decide +kernel)) rfl
theorem tw_806 : Cond.fieldLink "StageDispatcherModel" 99 "StageDispatcherModel" "gStart" "[I" ∈ gk_Y.2.2.2 := gk_inT (List.mem_of_getElem? (i := 806) (by decide +kernel)) rfl
theorem tw_807 : Cond.fieldLink "StageDispatcherModel" 102 "StageDispatcherModel" "gLength" "[I" ∈ gk_Y.2.2.2 := gk_inT (List.mem_of_getElem? (i := 807) (by decide +kernel)) rfl
theorem tw_808 : Cond.fieldLink "StageDispatcherModel" 105 "StageDispatcherModel" "classes" "[Z" ∈ gk_Y.2.2.2 := gk_inT (List.mem_of_getElem? (i := 808) (by decide +kernel)) rfl
theorem tw_809 : Cond.fieldLink "StageDispatcherModel" 108 "StageDispatcherModel" "candidate" "[Z" ∈ gk_Y.2.2.2 := gk_inT (List.mem_of_getElem? (i := 809) (by decide +kernel)) rfl
theorem tw_810 : Cond.fieldLink "StageDispatcherModel" 224 "StageDispatcherModel" "bestKey" "J" ∈ gk_Y.2.2.2 := gk_inT (List.mem_of_getElem? (i := 810) (by decide +kernel)) rfl
theorem tw_811 : Cond.fieldLink "StageDispatcherModel" 228 "StageDispatcherModel" "bestType" "I" ∈ gk_Y.2.2.2 := gk_inT (List.mem_of_getElem? (i := 811) (by decide +kernel)) rfl
theorem tw_812 : Cond.laysFinal "StageDispatcherModel" "StageDispatcherModel" "buffer" "[C" ∈ gk_Y.2.2.2 := gk_inT (List.mem_of_getElem? (i := 812) (by decide +kernel)) rfl
theorem tw_814 : Cond.lays "StageDispatcherModel" "StageDispatcherModel" "typed" "I" ∈ gk_Y.2.2.2 := gk_inT (List.mem_of_getElem? (i := 814) (by decide +kernel)) rfl
theorem tw_816 : Cond.laysFinal "StageDispatcherModel" "StageDispatcherModel" "template" "[C" ∈ gk_Y.2.2.2 := gk_inT (List.mem_of_getElem? (i := 816) (by decide +kernel)) rfl
theorem tw_818 : Cond.laysFinal "StageDispatcherModel" "StageDispatcherModel" "size" "[I" ∈ gk_Y.2.2.2 := gk_inT (List.mem_of_getElem? (i := 818) (by decide +kernel)) rfl
theorem tw_820 : Cond.lays "StageDispatcherModel" "StageDispatcherModel" "resources" "I" ∈ gk_Y.2.2.2 := gk_inT (List.mem_of_getElem? (i := 820) (by decide +kernel)) rfl
theorem tw_822 : Cond.lays "StageDispatcherModel" "StageDispatcherModel" "methods" "I" ∈ gk_Y.2.2.2 := gk_inT (List.mem_of_getElem? (i := 822) (by decide +kernel)) rfl
theorem tw_824 : Cond.laysFinal "StageDispatcherModel" "StageDispatcherModel" "mResource" "[I" ∈ gk_Y.2.2.2 := gk_inT (List.mem_of_getElem? (i := 824) (by decide +kernel)) rfl
theorem tw_826 : Cond.laysFinal "StageDispatcherModel" "StageDispatcherModel" "mVerb" "[I" ∈ gk_Y.2.2.2 := gk_inT (List.mem_of_getElem? (i := 826) (by decide +kernel)) rfl
theorem tw_828 : Cond.laysFinal "StageDispatcherModel" "StageDispatcherModel" "mConsumes" "[I" ∈ gk_Y.2.2.2 := gk_inT (List.mem_of_getElem? (i := 828) (by decide +kernel)) rfl
theorem tw_830 : Cond.laysFinal "StageDispatcherModel" "StageDispatcherModel" "mProduces" "[I" ∈ gk_Y.2.2.2 := gk_inT (List.mem_of_getElem? (i := 830) (by decide +kernel)) rfl
theorem tw_832 : Cond.laysFinal "StageDispatcherModel" "StageDispatcherModel" "mQuality" "[I" ∈ gk_Y.2.2.2 := gk_inT (List.mem_of_getElem? (i := 832) (by decide +kernel)) rfl
theorem tw_834 : Cond.laysFinal "StageDispatcherModel" "StageDispatcherModel" "mConverts" "[I" ∈ gk_Y.2.2.2 := gk_inT (List.mem_of_getElem? (i := 834) (by decide +kernel)) rfl
theorem tw_836 : Cond.laysFinal "StageDispatcherModel" "StageDispatcherModel" "mName" "[I" ∈ gk_Y.2.2.2 := gk_inT (List.mem_of_getElem? (i := 836) (by decide +kernel)) rfl
theorem tw_838 : Cond.laysFinal "StageDispatcherModel" "StageDispatcherModel" "mThrows" "[I" ∈ gk_Y.2.2.2 := gk_inT (List.mem_of_getElem? (i := 838) (by decide +kernel)) rfl
theorem tw_840 : Cond.lays "StageDispatcherModel" "StageDispatcherModel" "locators" "I" ∈ gk_Y.2.2.2 := gk_inT (List.mem_of_getElem? (i := 840) (by decide +kernel)) rfl
theorem tw_842 : Cond.laysFinal "StageDispatcherModel" "StageDispatcherModel" "lResource" "[I" ∈ gk_Y.2.2.2 := gk_inT (List.mem_of_getElem? (i := 842) (by decide +kernel)) rfl
theorem tw_844 : Cond.laysFinal "StageDispatcherModel" "StageDispatcherModel" "lTarget" "[I" ∈ gk_Y.2.2.2 := gk_inT (List.mem_of_getElem? (i := 844) (by decide +kernel)) rfl
theorem tw_846 : Cond.lays "StageDispatcherModel" "StageDispatcherModel" "filters" "I" ∈ gk_Y.2.2.2 := gk_inT (List.mem_of_getElem? (i := 846) (by decide +kernel)) rfl
theorem tw_848 : Cond.laysFinal "StageDispatcherModel" "StageDispatcherModel" "fPriority" "[I" ∈ gk_Y.2.2.2 := gk_inT (List.mem_of_getElem? (i := 848) (by decide +kernel)) rfl
theorem tw_850 : Cond.laysFinal "StageDispatcherModel" "StageDispatcherModel" "fName" "[I" ∈ gk_Y.2.2.2 := gk_inT (List.mem_of_getElem? (i := 850) (by decide +kernel)) rfl
theorem tw_852 : Cond.laysFinal "StageDispatcherModel" "StageDispatcherModel" "fKind" "[I" ∈ gk_Y.2.2.2 := gk_inT (List.mem_of_getElem? (i := 852) (by decide +kernel)) rfl
theorem tw_854 : Cond.laysFinal "StageDispatcherModel" "StageDispatcherModel" "fHeader" "[I" ∈ gk_Y.2.2.2 := gk_inT (List.mem_of_getElem? (i := 854) (by decide +kernel)) rfl
theorem tw_856 : Cond.laysFinal "StageDispatcherModel" "StageDispatcherModel" "fStatus" "[I" ∈ gk_Y.2.2.2 := gk_inT (List.mem_of_getElem? (i := 856) (by decide +kernel)) rfl
theorem tw_858 : Cond.laysFinal "StageDispatcherModel" "StageDispatcherModel" "fDone" "[Z" ∈ gk_Y.2.2.2 := gk_inT (List.mem_of_getElem? (i := 858) (by decide +kernel)) rfl
theorem tw_860 : Cond.laysFinal "StageDispatcherModel" "StageDispatcherModel" "mappers" "[I" ∈ gk_Y.2.2.2 := gk_inT (List.mem_of_getElem? (i := 860) (by decide +kernel)) rfl
theorem tw_862 : Cond.lays "StageDispatcherModel" "StageDispatcherModel" "accepts" "I" ∈ gk_Y.2.2.2 := gk_inT (List.mem_of_getElem? (i := 862) (by decide +kernel)) rfl
theorem tw_864 : Cond.laysFinal "StageDispatcherModel" "StageDispatcherModel" "aType" "[I" ∈ gk_Y.2.2.2 := gk_inT (List.mem_of_getElem? (i := 864) (by decide +kernel)) rfl
theorem tw_866 : Cond.laysFinal "StageDispatcherModel" "StageDispatcherModel" "aQ" "[I" ∈ gk_Y.2.2.2 := gk_inT (List.mem_of_getElem? (i := 866) (by decide +kernel)) rfl
theorem tw_868 : Cond.laysFinal "StageDispatcherModel" "StageDispatcherModel" "path" "[C" ∈ gk_Y.2.2.2 := gk_inT (List.mem_of_getElem? (i := 868) (by decide +kernel)) rfl
theorem tw_870 : Cond.lays "StageDispatcherModel" "StageDispatcherModel" "length" "I" ∈ gk_Y.2.2.2 := gk_inT (List.mem_of_getElem? (i := 870) (by decide +kernel)) rfl
theorem tw_872 : Cond.lays "StageDispatcherModel" "StageDispatcherModel" "verb" "I" ∈ gk_Y.2.2.2 := gk_inT (List.mem_of_getElem? (i := 872) (by decide +kernel)) rfl
theorem tw_874 : Cond.lays "StageDispatcherModel" "StageDispatcherModel" "header" "I" ∈ gk_Y.2.2.2 := gk_inT (List.mem_of_getElem? (i := 874) (by decide +kernel)) rfl
theorem tw_876 : Cond.lays "StageDispatcherModel" "StageDispatcherModel" "status" "I" ∈ gk_Y.2.2.2 := gk_inT (List.mem_of_getElem? (i := 876) (by decide +kernel)) rfl
theorem tw_878 : Cond.lays "StageDispatcherModel" "StageDispatcherModel" "over" "Z" ∈ gk_Y.2.2.2 := gk_inT (List.mem_of_getElem? (i := 878) (by decide +kernel)) rfl
theorem tw_880 : Cond.lays "StageDispatcherModel" "StageDispatcherModel" "from" "I" ∈ gk_Y.2.2.2 := gk_inT (List.mem_of_getElem? (i := 880) (by decide +kernel)) rfl
theorem tw_882 : Cond.lays "StageDispatcherModel" "StageDispatcherModel" "method" "I" ∈ gk_Y.2.2.2 := gk_inT (List.mem_of_getElem? (i := 882) (by decide +kernel)) rfl
theorem tw_884 : Cond.lays "StageDispatcherModel" "StageDispatcherModel" "called" "Z" ∈ gk_Y.2.2.2 := gk_inT (List.mem_of_getElem? (i := 884) (by decide +kernel)) rfl
theorem tw_886 : Cond.lays "StageDispatcherModel" "StageDispatcherModel" "number" "I" ∈ gk_Y.2.2.2 := gk_inT (List.mem_of_getElem? (i := 886) (by decide +kernel)) rfl
theorem tw_888 : Cond.lays "StageDispatcherModel" "StageDispatcherModel" "verbs" "I" ∈ gk_Y.2.2.2 := gk_inT (List.mem_of_getElem? (i := 888) (by decide +kernel)) rfl
theorem tw_890 : Cond.lays "StageDispatcherModel" "StageDispatcherModel" "answer" "I" ∈ gk_Y.2.2.2 := gk_inT (List.mem_of_getElem? (i := 890) (by decide +kernel)) rfl
theorem tw_892 : Cond.lays "StageDispatcherModel" "StageDispatcherModel" "hops" "I" ∈ gk_Y.2.2.2 := gk_inT (List.mem_of_getElem? (i := 892) (by decide +kernel)) rfl
theorem tw_894 : Cond.laysFinal "StageDispatcherModel" "StageDispatcherModel" "hopTo" "[I" ∈ gk_Y.2.2.2 := gk_inT (List.mem_of_getElem? (i := 894) (by decide +kernel)) rfl
theorem tw_896 : Cond.lays "StageDispatcherModel" "StageDispatcherModel" "parameters" "I" ∈ gk_Y.2.2.2 := gk_inT (List.mem_of_getElem? (i := 896) (by decide +kernel)) rfl
theorem tw_898 : Cond.laysFinal "StageDispatcherModel" "StageDispatcherModel" "pStart" "[I" ∈ gk_Y.2.2.2 := gk_inT (List.mem_of_getElem? (i := 898) (by decide +kernel)) rfl
theorem tw_900 : Cond.laysFinal "StageDispatcherModel" "StageDispatcherModel" "pLength" "[I" ∈ gk_Y.2.2.2 := gk_inT (List.mem_of_getElem? (i := 900) (by decide +kernel)) rfl
theorem tw_902 : Cond.lays "StageDispatcherModel" "StageDispatcherModel" "runs" "I" ∈ gk_Y.2.2.2 := gk_inT (List.mem_of_getElem? (i := 902) (by decide +kernel)) rfl
theorem tw_904 : Cond.laysFinal "StageDispatcherModel" "StageDispatcherModel" "run" "[I" ∈ gk_Y.2.2.2 := gk_inT (List.mem_of_getElem? (i := 904) (by decide +kernel)) rfl
theorem tw_906 : Cond.lays "StageDispatcherModel" "StageDispatcherModel" "pieces" "I" ∈ gk_Y.2.2.2 := gk_inT (List.mem_of_getElem? (i := 906) (by decide +kernel)) rfl
theorem tw_908 : Cond.laysFinal "StageDispatcherModel" "StageDispatcherModel" "piece" "[I" ∈ gk_Y.2.2.2 := gk_inT (List.mem_of_getElem? (i := 908) (by decide +kernel)) rfl
theorem tw_910 : Cond.laysFinal "StageDispatcherModel" "StageDispatcherModel" "can" "[Z" ∈ gk_Y.2.2.2 := gk_inT (List.mem_of_getElem? (i := 910) (by decide +kernel)) rfl
theorem tw_912 : Cond.lays "StageDispatcherModel" "StageDispatcherModel" "groups" "I" ∈ gk_Y.2.2.2 := gk_inT (List.mem_of_getElem? (i := 912) (by decide +kernel)) rfl
theorem tw_914 : Cond.laysFinal "StageDispatcherModel" "StageDispatcherModel" "gStart" "[I" ∈ gk_Y.2.2.2 := gk_inT (List.mem_of_getElem? (i := 914) (by decide +kernel)) rfl
theorem tw_916 : Cond.laysFinal "StageDispatcherModel" "StageDispatcherModel" "gLength" "[I" ∈ gk_Y.2.2.2 := gk_inT (List.mem_of_getElem? (i := 916) (by decide +kernel)) rfl
theorem tw_918 : Cond.laysFinal "StageDispatcherModel" "StageDispatcherModel" "classes" "[Z" ∈ gk_Y.2.2.2 := gk_inT (List.mem_of_getElem? (i := 918) (by decide +kernel)) rfl
theorem tw_920 : Cond.laysFinal "StageDispatcherModel" "StageDispatcherModel" "candidate" "[Z" ∈ gk_Y.2.2.2 := gk_inT (List.mem_of_getElem? (i := 920) (by decide +kernel)) rfl
theorem tw_922 : Cond.lays "StageDispatcherModel" "StageDispatcherModel" "bestKey" "J" ∈ gk_Y.2.2.2 := gk_inT (List.mem_of_getElem? (i := 922) (by decide +kernel)) rfl
theorem tw_924 : Cond.lays "StageDispatcherModel" "StageDispatcherModel" "bestType" "I" ∈ gk_Y.2.2.2 := gk_inT (List.mem_of_getElem? (i := 924) (by decide +kernel)) rfl
theorem tw_927 : Cond.arrayClass .boolean ∈ gk_Y.2.2.2 := gk_inT (List.mem_of_getElem? (i := 927) (by decide +kernel)) rfl
theorem tw_936 : Cond.methodLink "StageDispatcherModel" 159 ⟨"StageDispatcherModel", "goodTemplate", "()Z"⟩ ∈ gk_Y.2.2.2 := gk_inT (List.mem_of_getElem? (i := 936) (by decide +kernel)) rfl
theorem tw_938 : Cond.instanceMethod ⟨"StageDispatcherModel", "goodTemplate", "()Z"⟩ ∈ gk_Y.2.2.2 := gk_inT (List.mem_of_getElem? (i := 938) (by decide +kernel)) rfl
theorem tw_939 : Cond.code y_Mo_goodTemplate c_Mo_goodTemplate 5 (some .boolean) ∈ gk_Y.2.2.2 := gk_inT (List.mem_of_getElem? (i := 939) (by decide +kernel)) rfl
theorem tw_940 : Cond.methodLink "StageDispatcherModel" 121 ⟨"StageDispatcherModel", "groupAt", "(I)I"⟩ ∈ gk_Y.2.2.2 := gk_inT (List.mem_of_getElem? (i := 940) (by decide +kernel)) rfl
theorem tw_942 : Cond.instanceMethod ⟨"StageDispatcherModel", "groupAt", "(I)I"⟩ ∈ gk_Y.2.2.2 := gk_inT (List.mem_of_getElem? (i := 942) (by decide +kernel)) rfl
theorem tw_943 : Cond.code y_Mo_groupAt c_Mo_groupAt 4 (some .int) ∈ gk_Y.2.2.2 := gk_inT (List.mem_of_getElem? (i := 943) (by decide +kernel)) rfl
theorem tw_944 : Cond.methodLink "StageDispatcherModel" 163 ⟨"StageDispatcherModel", "keep", "(IZ)V"⟩ ∈ gk_Y.2.2.2 := gk_inT (List.mem_of_getElem? (i := 944) (by decide +kernel)) rfl
theorem tw_946 : Cond.instanceMethod ⟨"StageDispatcherModel", "keep", "(IZ)V"⟩ ∈ gk_Y.2.2.2 := gk_inT (List.mem_of_getElem? (i := 946) (by decide +kernel)) rfl
theorem tw_947 : Cond.code y_Mo_keep c_Mo_keep 4 none ∈ gk_Y.2.2.2 := gk_inT (List.mem_of_getElem? (i := 947) (by decide +kernel)) rfl
theorem tw_952 : Cond.methodLink "StageDispatcherModel" 167 ⟨"StageDispatcherModel", "outside", "(III)Z"⟩ ∈ gk_Y.2.2.2 := gk_inT (List.mem_of_getElem? (i := 952) (by decide +kernel)) rfl
theorem tw_953 : Cond.static ⟨"StageDispatcherModel", "outside", "(III)Z"⟩ ∈ gk_Y.2.2.2 := gk_inT (List.mem_of_getElem? (i := 953) (by decide +kernel)) rfl
theorem tw_954 : Cond.code y_Mo_outside c_Mo_outside 3 (some .boolean) ∈ gk_Y.2.2.2 := gk_inT (List.mem_of_getElem? (i := 954) (by decide +kernel)) rfl
theorem tw_955 : Cond.methodLink "StageDispatcherModel" 171 ⟨"StageDispatcherModel", "isType", "(I)Z"⟩ ∈ gk_Y.2.2.2 := gk_inT (List.mem_of_getElem? (i := 955) (by decide +kernel)) rfl
theorem tw_956 : Cond.static ⟨"StageDispatcherModel", "isType", "(I)Z"⟩ ∈ gk_Y.2.2.2 := gk_inT (List.mem_of_getElem? (i := 956) (by decide +kernel)) rfl
theorem tw_957 : Cond.code y_Mo_isType c_Mo_isType 1 (some .boolean) ∈ gk_Y.2.2.2 := gk_inT (List.mem_of_getElem? (i := 957) (by decide +kernel)) rfl
theorem tw_982 : Cond.methodLink "StageDispatcherModel" 298 ⟨"StageDispatcherModel", "filterAll", "(II)V"⟩ ∈ gk_Y.2.2.2 := gk_inT (List.mem_of_getElem? (i := 982) (by decide +kernel)) rfl
theorem tw_984 : Cond.instanceMethod ⟨"StageDispatcherModel", "filterAll", "(II)V"⟩ ∈ gk_Y.2.2.2 := gk_inT (List.mem_of_getElem? (i := 984) (by decide +kernel)) rfl
theorem tw_985 : Cond.code y_Mo_filterAll c_Mo_filterAll 7 none ∈ gk_Y.2.2.2 := gk_inT (List.mem_of_getElem? (i := 985) (by decide +kernel)) rfl
theorem tw_986 : Cond.methodLink "StageDispatcherModel" 252 ⟨"StageDispatcherModel", "bound", "(II)Z"⟩ ∈ gk_Y.2.2.2 := gk_inT (List.mem_of_getElem? (i := 986) (by decide +kernel)) rfl
theorem tw_988 : Cond.instanceMethod ⟨"StageDispatcherModel", "bound", "(II)Z"⟩ ∈ gk_Y.2.2.2 := gk_inT (List.mem_of_getElem? (i := 988) (by decide +kernel)) rfl
theorem tw_989 : Cond.code y_Mo_bound c_Mo_bound 3 (some .boolean) ∈ gk_Y.2.2.2 := gk_inT (List.mem_of_getElem? (i := 989) (by decide +kernel)) rfl
theorem tw_990 : Cond.methodLink "StageDispatcherModel" 265 ⟨"StageDispatcherModel", "meetHeader", "(I)V"⟩ ∈ gk_Y.2.2.2 := gk_inT (List.mem_of_getElem? (i := 990) (by decide +kernel)) rfl
theorem tw_992 : Cond.instanceMethod ⟨"StageDispatcherModel", "meetHeader", "(I)V"⟩ ∈ gk_Y.2.2.2 := gk_inT (List.mem_of_getElem? (i := 992) (by decide +kernel)) rfl
theorem tw_993 : Cond.code y_Mo_meetHeader c_Mo_meetHeader 2 none ∈ gk_Y.2.2.2 := gk_inT (List.mem_of_getElem? (i := 993) (by decide +kernel)) rfl
theorem tw_994 : Cond.methodLink "StageDispatcherModel" 302 ⟨"StageDispatcherModel", "matching", "(I)V"⟩ ∈ gk_Y.2.2.2 := gk_inT (List.mem_of_getElem? (i := 994) (by decide +kernel)) rfl
theorem tw_996 : Cond.instanceMethod ⟨"StageDispatcherModel", "matching", "(I)V"⟩ ∈ gk_Y.2.2.2 := gk_inT (List.mem_of_getElem? (i := 996) (by decide +kernel)) rfl
theorem tw_997 : Cond.code y_Mo_matching c_Mo_matching 3 none ∈ gk_Y.2.2.2 := gk_inT (List.mem_of_getElem? (i := 997) (by decide +kernel)) rfl
theorem tw_998 : Cond.methodLink "StageDispatcherModel" 271 ⟨"StageDispatcherModel", "stageOne", "()I"⟩ ∈ gk_Y.2.2.2 := gk_inT (List.mem_of_getElem? (i := 998) (by decide +kernel)) rfl
theorem tw_1000 : Cond.instanceMethod ⟨"StageDispatcherModel", "stageOne", "()I"⟩ ∈ gk_Y.2.2.2 := gk_inT (List.mem_of_getElem? (i := 1000) (by decide +kernel)) rfl
theorem tw_1001 : Cond.code y_Mo_stageOne c_Mo_stageOne 5 (some .int) ∈ gk_Y.2.2.2 := gk_inT (List.mem_of_getElem? (i := 1001) (by decide +kernel)) rfl
theorem tw_1002 : Cond.methodLink "StageDispatcherModel" 146 ⟨"StageDispatcherModel", "match", "(II)I"⟩ ∈ gk_Y.2.2.2 := gk_inT (List.mem_of_getElem? (i := 1002) (by decide +kernel)) rfl
theorem tw_1004 : Cond.instanceMethod ⟨"StageDispatcherModel", "match", "(II)I"⟩ ∈ gk_Y.2.2.2 := gk_inT (List.mem_of_getElem? (i := 1004) (by decide +kernel)) rfl
theorem tw_1005 : Cond.code y_Mo_match c_Mo_match 6 (some .int) ∈ gk_Y.2.2.2 := gk_inT (List.mem_of_getElem? (i := 1005) (by decide +kernel)) rfl
theorem tw_1006 : Cond.methodLink "StageDispatcherModel" 128 ⟨"StageDispatcherModel", "cut", "(I)V"⟩ ∈ gk_Y.2.2.2 := gk_inT (List.mem_of_getElem? (i := 1006) (by decide +kernel)) rfl
theorem tw_1008 : Cond.instanceMethod ⟨"StageDispatcherModel", "cut", "(I)V"⟩ ∈ gk_Y.2.2.2 := gk_inT (List.mem_of_getElem? (i := 1008) (by decide +kernel)) rfl
theorem tw_1009 : Cond.code y_Mo_cut c_Mo_cut 6 none ∈ gk_Y.2.2.2 := gk_inT (List.mem_of_getElem? (i := 1009) (by decide +kernel)) rfl
theorem tw_1010 : Cond.methodLink "StageDispatcherModel" 139 ⟨"StageDispatcherModel", "longest", "(II)I"⟩ ∈ gk_Y.2.2.2 := gk_inT (List.mem_of_getElem? (i := 1010) (by decide +kernel)) rfl
theorem tw_1012 : Cond.instanceMethod ⟨"StageDispatcherModel", "longest", "(II)I"⟩ ∈ gk_Y.2.2.2 := gk_inT (List.mem_of_getElem? (i := 1012) (by decide +kernel)) rfl
theorem tw_1013 : Cond.code y_Mo_longest c_Mo_longest 6 (some .int) ∈ gk_Y.2.2.2 := gk_inT (List.mem_of_getElem? (i := 1013) (by decide +kernel)) rfl
theorem tw_1014 : Cond.methodLink "StageDispatcherModel" 135 ⟨"StageDispatcherModel", "fits", "(IC)Z"⟩ ∈ gk_Y.2.2.2 := gk_inT (List.mem_of_getElem? (i := 1014) (by decide +kernel)) rfl
theorem tw_1015 : Cond.static ⟨"StageDispatcherModel", "fits", "(IC)Z"⟩ ∈ gk_Y.2.2.2 := gk_inT (List.mem_of_getElem? (i := 1015) (by decide +kernel)) rfl
theorem tw_1016 : Cond.code y_Mo_fits c_Mo_fits 2 (some .boolean) ∈ gk_Y.2.2.2 := gk_inT (List.mem_of_getElem? (i := 1016) (by decide +kernel)) rfl
theorem tw_1017 : Cond.methodLink "StageDispatcherModel" 187 ⟨"StageDispatcherModel", "ends", "(I)Z"⟩ ∈ gk_Y.2.2.2 := gk_inT (List.mem_of_getElem? (i := 1017) (by decide +kernel)) rfl
theorem tw_1019 : Cond.instanceMethod ⟨"StageDispatcherModel", "ends", "(I)Z"⟩ ∈ gk_Y.2.2.2 := gk_inT (List.mem_of_getElem? (i := 1019) (by decide +kernel)) rfl
theorem tw_1020 : Cond.code y_Mo_ends c_Mo_ends 2 (some .boolean) ∈ gk_Y.2.2.2 := gk_inT (List.mem_of_getElem? (i := 1020) (by decide +kernel)) rfl
theorem tw_1021 : Cond.methodLink "StageDispatcherModel" 190 ⟨"StageDispatcherModel", "hasTemplates", "(I)Z"⟩ ∈ gk_Y.2.2.2 := gk_inT (List.mem_of_getElem? (i := 1021) (by decide +kernel)) rfl
theorem tw_1023 : Cond.instanceMethod ⟨"StageDispatcherModel", "hasTemplates", "(I)Z"⟩ ∈ gk_Y.2.2.2 := gk_inT (List.mem_of_getElem? (i := 1023) (by decide +kernel)) rfl
theorem tw_1024 : Cond.code y_Mo_hasTemplates c_Mo_hasTemplates 4 (some .boolean) ∈ gk_Y.2.2.2 := gk_inT (List.mem_of_getElem? (i := 1024) (by decide +kernel)) rfl
theorem tw_1025 : Cond.methodLink "StageDispatcherModel" 193 ⟨"StageDispatcherModel", "weight", "(I)I"⟩ ∈ gk_Y.2.2.2 := gk_inT (List.mem_of_getElem? (i := 1025) (by decide +kernel)) rfl
theorem tw_1027 : Cond.instanceMethod ⟨"StageDispatcherModel", "weight", "(I)I"⟩ ∈ gk_Y.2.2.2 := gk_inT (List.mem_of_getElem? (i := 1027) (by decide +kernel)) rfl
theorem tw_1028 : Cond.code y_Mo_weight c_Mo_weight 5 (some .int) ∈ gk_Y.2.2.2 := gk_inT (List.mem_of_getElem? (i := 1028) (by decide +kernel)) rfl
theorem tw_1029 : Cond.methodLink "StageDispatcherModel" 196 ⟨"StageDispatcherModel", "same", "(II)Z"⟩ ∈ gk_Y.2.2.2 := gk_inT (List.mem_of_getElem? (i := 1029) (by decide +kernel)) rfl
theorem tw_1031 : Cond.instanceMethod ⟨"StageDispatcherModel", "same", "(II)Z"⟩ ∈ gk_Y.2.2.2 := gk_inT (List.mem_of_getElem? (i := 1031) (by decide +kernel)) rfl
theorem tw_1032 : Cond.code y_Mo_same c_Mo_same 5 (some .boolean) ∈ gk_Y.2.2.2 := gk_inT (List.mem_of_getElem? (i := 1032) (by decide +kernel)) rfl
theorem tw_1033 : Cond.methodLink "StageDispatcherModel" 199 ⟨"StageDispatcherModel", "count", "(II)I"⟩ ∈ gk_Y.2.2.2 := gk_inT (List.mem_of_getElem? (i := 1033) (by decide +kernel)) rfl
theorem tw_1035 : Cond.instanceMethod ⟨"StageDispatcherModel", "count", "(II)I"⟩ ∈ gk_Y.2.2.2 := gk_inT (List.mem_of_getElem? (i := 1035) (by decide +kernel)) rfl
theorem tw_1036 : Cond.code y_Mo_count c_Mo_count 5 (some .int) ∈ gk_Y.2.2.2 := gk_inT (List.mem_of_getElem? (i := 1036) (by decide +kernel)) rfl
theorem tw_1037 : Cond.methodLink "StageDispatcherModel" 274 ⟨"StageDispatcherModel", "stageTwo", "()I"⟩ ∈ gk_Y.2.2.2 := gk_inT (List.mem_of_getElem? (i := 1037) (by decide +kernel)) rfl
theorem tw_1039 : Cond.instanceMethod ⟨"StageDispatcherModel", "stageTwo", "()I"⟩ ∈ gk_Y.2.2.2 := gk_inT (List.mem_of_getElem? (i := 1039) (by decide +kernel)) rfl
theorem tw_1040 : Cond.code y_Mo_stageTwo c_Mo_stageTwo 6 (some .int) ∈ gk_Y.2.2.2 := gk_inT (List.mem_of_getElem? (i := 1040) (by decide +kernel)) rfl
theorem tw_1041 : Cond.methodLink "StageDispatcherModel" 205 ⟨"StageDispatcherModel", "heaviest", "()I"⟩ ∈ gk_Y.2.2.2 := gk_inT (List.mem_of_getElem? (i := 1041) (by decide +kernel)) rfl
theorem tw_1043 : Cond.instanceMethod ⟨"StageDispatcherModel", "heaviest", "()I"⟩ ∈ gk_Y.2.2.2 := gk_inT (List.mem_of_getElem? (i := 1043) (by decide +kernel)) rfl
theorem tw_1044 : Cond.code y_Mo_heaviest c_Mo_heaviest 4 (some .int) ∈ gk_Y.2.2.2 := gk_inT (List.mem_of_getElem? (i := 1044) (by decide +kernel)) rfl
theorem tw_1045 : Cond.methodLink "StageDispatcherModel" 277 ⟨"StageDispatcherModel", "stageThree", "(I)I"⟩ ∈ gk_Y.2.2.2 := gk_inT (List.mem_of_getElem? (i := 1045) (by decide +kernel)) rfl
theorem tw_1047 : Cond.instanceMethod ⟨"StageDispatcherModel", "stageThree", "(I)I"⟩ ∈ gk_Y.2.2.2 := gk_inT (List.mem_of_getElem? (i := 1047) (by decide +kernel)) rfl
theorem tw_1048 : Cond.code y_Mo_stageThree c_Mo_stageThree 6 (some .int) ∈ gk_Y.2.2.2 := gk_inT (List.mem_of_getElem? (i := 1048) (by decide +kernel)) rfl
theorem tw_1049 : Cond.methodLink "StageDispatcherModel" 237 ⟨"StageDispatcherModel", "only", "(I)Z"⟩ ∈ gk_Y.2.2.2 := gk_inT (List.mem_of_getElem? (i := 1049) (by decide +kernel)) rfl
theorem tw_1051 : Cond.instanceMethod ⟨"StageDispatcherModel", "only", "(I)Z"⟩ ∈ gk_Y.2.2.2 := gk_inT (List.mem_of_getElem? (i := 1051) (by decide +kernel)) rfl
theorem tw_1052 : Cond.code y_Mo_only c_Mo_only 4 (some .boolean) ∈ gk_Y.2.2.2 := gk_inT (List.mem_of_getElem? (i := 1052) (by decide +kernel)) rfl
theorem tw_1053 : Cond.methodLink "StageDispatcherModel" 152 ⟨"StageDispatcherModel", "covers", "(II)Z"⟩ ∈ gk_Y.2.2.2 := gk_inT (List.mem_of_getElem? (i := 1053) (by decide +kernel)) rfl
theorem tw_1054 : Cond.static ⟨"StageDispatcherModel", "covers", "(II)Z"⟩ ∈ gk_Y.2.2.2 := gk_inT (List.mem_of_getElem? (i := 1054) (by decide +kernel)) rfl
theorem tw_1055 : Cond.code y_Mo_covers c_Mo_covers 2 (some .boolean) ∈ gk_Y.2.2.2 := gk_inT (List.mem_of_getElem? (i := 1055) (by decide +kernel)) rfl
theorem tw_1056 : Cond.methodLink "StageDispatcherModel" 240 ⟨"StageDispatcherModel", "any", "()Z"⟩ ∈ gk_Y.2.2.2 := gk_inT (List.mem_of_getElem? (i := 1056) (by decide +kernel)) rfl
theorem tw_1058 : Cond.instanceMethod ⟨"StageDispatcherModel", "any", "()Z"⟩ ∈ gk_Y.2.2.2 := gk_inT (List.mem_of_getElem? (i := 1058) (by decide +kernel)) rfl
theorem tw_1059 : Cond.code y_Mo_any c_Mo_any 3 (some .boolean) ∈ gk_Y.2.2.2 := gk_inT (List.mem_of_getElem? (i := 1059) (by decide +kernel)) rfl
theorem tw_1060 : Cond.methodLink "StageDispatcherModel" 243 ⟨"StageDispatcherModel", "accepted", "(I)Z"⟩ ∈ gk_Y.2.2.2 := gk_inT (List.mem_of_getElem? (i := 1060) (by decide +kernel)) rfl
theorem tw_1062 : Cond.instanceMethod ⟨"StageDispatcherModel", "accepted", "(I)Z"⟩ ∈ gk_Y.2.2.2 := gk_inT (List.mem_of_getElem? (i := 1062) (by decide +kernel)) rfl
theorem tw_1063 : Cond.code y_Mo_accepted c_Mo_accepted 4 (some .boolean) ∈ gk_Y.2.2.2 := gk_inT (List.mem_of_getElem? (i := 1063) (by decide +kernel)) rfl
theorem tw_1064 : Cond.methodLink "StageDispatcherModel" 212 ⟨"StageDispatcherModel", "meet", "(II)Z"⟩ ∈ gk_Y.2.2.2 := gk_inT (List.mem_of_getElem? (i := 1064) (by decide +kernel)) rfl
theorem tw_1065 : Cond.static ⟨"StageDispatcherModel", "meet", "(II)Z"⟩ ∈ gk_Y.2.2.2 := gk_inT (List.mem_of_getElem? (i := 1065) (by decide +kernel)) rfl
theorem tw_1066 : Cond.code y_Mo_meet c_Mo_meet 2 (some .boolean) ∈ gk_Y.2.2.2 := gk_inT (List.mem_of_getElem? (i := 1066) (by decide +kernel)) rfl
theorem tw_1067 : Cond.constantLong "StageDispatcherModel" 246 (-1) ∈ gk_Y.2.2.2 := gk_inT (List.mem_of_getElem? (i := 1067) (by decide +kernel)) rfl
theorem tw_1068 : Cond.methodLink "StageDispatcherModel" 248 ⟨"StageDispatcherModel", "weigh", "(IIII)V"⟩ ∈ gk_Y.2.2.2 := gk_inT (List.mem_of_getElem? (i := 1068) (by decide +kernel)) rfl
theorem tw_1070 : Cond.instanceMethod ⟨"StageDispatcherModel", "weigh", "(IIII)V"⟩ ∈ gk_Y.2.2.2 := gk_inT (List.mem_of_getElem? (i := 1070) (by decide +kernel)) rfl
theorem tw_1071 : Cond.code y_Mo_weigh c_Mo_weigh 10 none ∈ gk_Y.2.2.2 := gk_inT (List.mem_of_getElem? (i := 1071) (by decide +kernel)) rfl
theorem tw_1072 : Cond.methodLink "StageDispatcherModel" 215 ⟨"StageDispatcherModel", "rank", "(I)I"⟩ ∈ gk_Y.2.2.2 := gk_inT (List.mem_of_getElem? (i := 1072) (by decide +kernel)) rfl
theorem tw_1073 : Cond.static ⟨"StageDispatcherModel", "rank", "(I)I"⟩ ∈ gk_Y.2.2.2 := gk_inT (List.mem_of_getElem? (i := 1073) (by decide +kernel)) rfl
theorem tw_1074 : Cond.code y_Mo_rank c_Mo_rank 1 (some .int) ∈ gk_Y.2.2.2 := gk_inT (List.mem_of_getElem? (i := 1074) (by decide +kernel)) rfl
theorem tw_1075 : Cond.constantLong "StageDispatcherModel" 218 3 ∈ gk_Y.2.2.2 := gk_inT (List.mem_of_getElem? (i := 1075) (by decide +kernel)) rfl
theorem tw_1076 : Cond.constantLong "StageDispatcherModel" 220 1001 ∈ gk_Y.2.2.2 := gk_inT (List.mem_of_getElem? (i := 1076) (by decide +kernel)) rfl
theorem tw_1077 : Cond.constantLong "StageDispatcherModel" 222 2 ∈ gk_Y.2.2.2 := gk_inT (List.mem_of_getElem? (i := 1077) (by decide +kernel)) rfl
theorem tw_1078 : Cond.methodLink "StageDispatcherModel" 280 ⟨"StageDispatcherModel", "raise", "(I)V"⟩ ∈ gk_Y.2.2.2 := gk_inT (List.mem_of_getElem? (i := 1078) (by decide +kernel)) rfl
theorem tw_1080 : Cond.instanceMethod ⟨"StageDispatcherModel", "raise", "(I)V"⟩ ∈ gk_Y.2.2.2 := gk_inT (List.mem_of_getElem? (i := 1080) (by decide +kernel)) rfl
theorem tw_1081 : Cond.code y_Mo_raise c_Mo_raise 3 none ∈ gk_Y.2.2.2 := gk_inT (List.mem_of_getElem? (i := 1081) (by decide +kernel)) rfl
theorem tw_1082 : Cond.methodLink "StageDispatcherModel" 305 ⟨"StageDispatcherModel", "invoke", "()V"⟩ ∈ gk_Y.2.2.2 := gk_inT (List.mem_of_getElem? (i := 1082) (by decide +kernel)) rfl
theorem tw_1084 : Cond.instanceMethod ⟨"StageDispatcherModel", "invoke", "()V"⟩ ∈ gk_Y.2.2.2 := gk_inT (List.mem_of_getElem? (i := 1084) (by decide +kernel)) rfl
theorem tw_1085 : Cond.code y_Mo_invoke c_Mo_invoke 3 none ∈ gk_Y.2.2.2 := gk_inT (List.mem_of_getElem? (i := 1085) (by decide +kernel)) rfl
theorem tw_1086 : Cond.methodLink "StageDispatcherModel" 289 ⟨"StageDispatcherModel", "numberOf", "(I)I"⟩ ∈ gk_Y.2.2.2 := gk_inT (List.mem_of_getElem? (i := 1086) (by decide +kernel)) rfl
theorem tw_1088 : Cond.instanceMethod ⟨"StageDispatcherModel", "numberOf", "(I)I"⟩ ∈ gk_Y.2.2.2 := gk_inT (List.mem_of_getElem? (i := 1088) (by decide +kernel)) rfl
theorem tw_1089 : Cond.code y_Mo_numberOf c_Mo_numberOf 6 (some .int) ∈ gk_Y.2.2.2 := gk_inT (List.mem_of_getElem? (i := 1089) (by decide +kernel)) rfl
theorem tw_1090 : Cond.constantLong "StageDispatcherModel" 283 10 ∈ gk_Y.2.2.2 := gk_inT (List.mem_of_getElem? (i := 1090) (by decide +kernel)) rfl
theorem tw_1091 : Cond.constantLong "StageDispatcherModel" 285 48 ∈ gk_Y.2.2.2 := gk_inT (List.mem_of_getElem? (i := 1091) (by decide +kernel)) rfl
theorem tw_1092 : Cond.constantLong "StageDispatcherModel" 287 2147483647 ∈ gk_Y.2.2.2 := gk_inT (List.mem_of_getElem? (i := 1092) (by decide +kernel)) rfl
theorem nw_66 : Cond.methodLinkNest "StageDispatcher" 9 ⟨"StageDispatcher$Text", "<init>", "()V"⟩ "StageDispatcher" ∈ gk_Y.2.2.1 := gk_inN (List.mem_of_getElem? (i := 66) (by decide +kernel)) rfl
theorem nw_87 : Cond.methodLinkNest "StageDispatcher" 18 ⟨"StageDispatcher$Catalog", "<init>", "()V"⟩ "StageDispatcher" ∈ gk_Y.2.2.1 := gk_inN (List.mem_of_getElem? (i := 87) (by decide +kernel)) rfl
theorem nw_92 : Cond.arrayOver (.object "StageDispatcher$Template") ∈ gk_Y.2.2.1 := gk_inN (List.mem_of_getElem? (i := 92) (by decide +kernel)) rfl
theorem nw_94 : Cond.arrayOver (.object "StageDispatcher$Method") ∈ gk_Y.2.2.1 := gk_inN (List.mem_of_getElem? (i := 94) (by decide +kernel)) rfl
theorem nw_96 : Cond.arrayOver (.object "StageDispatcher$Locator") ∈ gk_Y.2.2.1 := gk_inN (List.mem_of_getElem? (i := 96) (by decide +kernel)) rfl
theorem nw_128 : Cond.methodLinkNest "StageDispatcher" 25 ⟨"StageDispatcher$FilterChain", "<init>", "()V"⟩ "StageDispatcher" ∈ gk_Y.2.2.1 := gk_inN (List.mem_of_getElem? (i := 128) (by decide +kernel)) rfl
theorem nw_133 : Cond.arrayOver (.object "StageDispatcher$Filter") ∈ gk_Y.2.2.1 := gk_inN (List.mem_of_getElem? (i := 133) (by decide +kernel)) rfl
theorem nw_154 : Cond.methodLinkNest "StageDispatcher" 32 ⟨"StageDispatcher$Accepted", "<init>", "()V"⟩ "StageDispatcher" ∈ gk_Y.2.2.1 := gk_inN (List.mem_of_getElem? (i := 154) (by decide +kernel)) rfl
theorem nw_172 : Cond.methodLinkNest "StageDispatcher" 39 ⟨"StageDispatcher$Route", "<init>", "()V"⟩ "StageDispatcher" ∈ gk_Y.2.2.1 := gk_inN (List.mem_of_getElem? (i := 172) (by decide +kernel)) rfl
theorem nw_178 : Cond.methodLinkNest "StageDispatcher$Route" 11 ⟨"StageDispatcher$Fit", "<init>", "()V"⟩ "StageDispatcher" ∈ gk_Y.2.2.1 := gk_inN (List.mem_of_getElem? (i := 178) (by decide +kernel)) rfl
theorem nw_218 : Cond.methodLinkNest "StageDispatcher" 46 ⟨"StageDispatcher$Outcome", "<init>", "()V"⟩ "StageDispatcher" ∈ gk_Y.2.2.1 := gk_inN (List.mem_of_getElem? (i := 218) (by decide +kernel)) rfl
theorem nw_223 : Cond.methodLinkNest "StageDispatcher$Outcome" 11 ⟨"StageDispatcher$Text", "<init>", "()V"⟩ "StageDispatcher" ∈ gk_Y.2.2.1 := gk_inN (List.mem_of_getElem? (i := 223) (by decide +kernel)) rfl
theorem nw_371 : Cond.methodLinkNest "StageDispatcher$Catalog" 39 ⟨"StageDispatcher", "isWithin", "(III)Z"⟩ "StageDispatcher" ∈ gk_Y.2.2.1 := gk_inN (List.mem_of_getElem? (i := 371) (by decide +kernel)) rfl
theorem nw_445 : Cond.methodLinkNest "StageDispatcher" 129 ⟨"StageDispatcher$Locator", "<init>", "(ILStageDispatcher$Template;I)V"⟩ "StageDispatcher" ∈ gk_Y.2.2.1 := gk_inN (List.mem_of_getElem? (i := 445) (by decide +kernel)) rfl
theorem nw_453 : Cond.fieldLinkNest "StageDispatcher$Route" 126 "StageDispatcher$Locator" "owner" "I" "StageDispatcher" ∈ gk_Y.2.2.1 := gk_inN (List.mem_of_getElem? (i := 453) (by decide +kernel)) rfl
theorem nw_454 : Cond.fieldLinkNest "StageDispatcher$Catalog" 50 "StageDispatcher$Locator" "owner" "I" "StageDispatcher" ∈ gk_Y.2.2.1 := gk_inN (List.mem_of_getElem? (i := 454) (by decide +kernel)) rfl
theorem nw_456 : Cond.fieldLinkNest "StageDispatcher$Route" 85 "StageDispatcher$Locator" "template" "LStageDispatcher$Template;" "StageDispatcher" ∈ gk_Y.2.2.1 := gk_inN (List.mem_of_getElem? (i := 456) (by decide +kernel)) rfl
theorem nw_458 : Cond.fieldLinkNest "StageDispatcher$Route" 91 "StageDispatcher$Locator" "target" "I" "StageDispatcher" ∈ gk_Y.2.2.1 := gk_inN (List.mem_of_getElem? (i := 458) (by decide +kernel)) rfl
theorem nw_479 : Cond.methodLinkNest "StageDispatcher" 144 ⟨"StageDispatcher$Filter", "<init>", "(IIIII)V"⟩ "StageDispatcher" ∈ gk_Y.2.2.1 := gk_inN (List.mem_of_getElem? (i := 479) (by decide +kernel)) rfl
theorem nw_484 : Cond.fieldLinkNest "StageDispatcher$FilterChain" 28 "StageDispatcher$Filter" "priority" "I" "StageDispatcher" ∈ gk_Y.2.2.1 := gk_inN (List.mem_of_getElem? (i := 484) (by decide +kernel)) rfl
theorem nw_486 : Cond.fieldLinkNest "StageDispatcher" 269 "StageDispatcher$Filter" "name" "I" "StageDispatcher" ∈ gk_Y.2.2.1 := gk_inN (List.mem_of_getElem? (i := 486) (by decide +kernel)) rfl
theorem nw_488 : Cond.fieldLinkNest "StageDispatcher" 249 "StageDispatcher$Filter" "kind" "I" "StageDispatcher" ∈ gk_Y.2.2.1 := gk_inN (List.mem_of_getElem? (i := 488) (by decide +kernel)) rfl
theorem nw_490 : Cond.fieldLinkNest "StageDispatcher" 260 "StageDispatcher$Filter" "x" "I" "StageDispatcher" ∈ gk_Y.2.2.1 := gk_inN (List.mem_of_getElem? (i := 490) (by decide +kernel)) rfl
theorem nw_492 : Cond.fieldLinkNest "StageDispatcher" 263 "StageDispatcher$Filter" "status" "I" "StageDispatcher" ∈ gk_Y.2.2.1 := gk_inN (List.mem_of_getElem? (i := 492) (by decide +kernel)) rfl
theorem nw_591 : Cond.methodLinkNest "StageDispatcher$Fit" 32 ⟨"StageDispatcher", "holds", "(II)Z"⟩ "StageDispatcher" ∈ gk_Y.2.2.1 := gk_inN (List.mem_of_getElem? (i := 591) (by decide +kernel)) rfl
theorem nw_626 : Cond.methodLinkNest "StageDispatcher$Catalog" 55 ⟨"StageDispatcher", "holds", "(II)Z"⟩ "StageDispatcher" ∈ gk_Y.2.2.1 := gk_inN (List.mem_of_getElem? (i := 626) (by decide +kernel)) rfl
theorem nw_631 : Cond.methodLinkNest "StageDispatcher$Route" 115 ⟨"StageDispatcher", "holds", "(II)Z"⟩ "StageDispatcher" ∈ gk_Y.2.2.1 := gk_inN (List.mem_of_getElem? (i := 631) (by decide +kernel)) rfl
theorem nw_660 : Cond.methodLinkNest "StageDispatcher$Catalog" 65 ⟨"StageDispatcher", "covers", "(II)Z"⟩ "StageDispatcher" ∈ gk_Y.2.2.1 := gk_inN (List.mem_of_getElem? (i := 660) (by decide +kernel)) rfl
theorem nw_676 : Cond.methodLinkNest "StageDispatcher$Accepted" 35 ⟨"StageDispatcher", "meeting", "(II)I"⟩ "StageDispatcher" ∈ gk_Y.2.2.1 := gk_inN (List.mem_of_getElem? (i := 676) (by decide +kernel)) rfl
theorem nw_680 : Cond.methodLinkNest "StageDispatcher$Accepted" 39 ⟨"StageDispatcher", "rankOf", "(I)I"⟩ "StageDispatcher" ∈ gk_Y.2.2.1 := gk_inN (List.mem_of_getElem? (i := 680) (by decide +kernel)) rfl
theorem nw_706 : Cond.methodLinkNest "StageDispatcher$Outcome" 64 ⟨"StageDispatcher", "isWithin", "(III)Z"⟩ "StageDispatcher" ∈ gk_Y.2.2.1 := gk_inN (List.mem_of_getElem? (i := 706) (by decide +kernel)) rfl
theorem in_SD : ∀ w ∈ u_ws "StageDispatcher" F_SD 7, w ∈ gk_Y.2.2.2 := by
  intro w hw
  have e : u_ws "StageDispatcher" F_SD 7 = [Cond.laysFinal "StageDispatcher" "StageDispatcher" "buffer" "LStageDispatcher$Text;", Cond.laysFinal "StageDispatcher" "StageDispatcher" "catalog" "LStageDispatcher$Catalog;", Cond.laysFinal "StageDispatcher" "StageDispatcher" "chain" "LStageDispatcher$FilterChain;", Cond.laysFinal "StageDispatcher" "StageDispatcher" "accepted" "LStageDispatcher$Accepted;", Cond.laysFinal "StageDispatcher" "StageDispatcher" "route" "LStageDispatcher$Route;", Cond.laysFinal "StageDispatcher" "StageDispatcher" "latest" "LStageDispatcher$Outcome;", Cond.laysFinal "StageDispatcher" "StageDispatcher" "mapped" "[I"] := by decide +kernel
  rw [e] at hw
  simp only [List.mem_cons, List.not_mem_nil, or_false] at hw
  rcases hw with rfl | rfl | rfl | rfl | rfl | rfl | rfl
  · exact tw_285
  · exact tw_287
  · exact tw_289
  · exact tw_291
  · exact tw_293
  · exact tw_295
  · exact tw_297
theorem in_Text : ∀ w ∈ u_ws "StageDispatcher$Text" F_Text 2, w ∈ gk_Y.2.2.2 := by
  intro w hw
  have e : u_ws "StageDispatcher$Text" F_Text 2 = [Cond.laysFinal "StageDispatcher$Text" "StageDispatcher$Text" "chars" "[C", Cond.lays "StageDispatcher$Text" "StageDispatcher$Text" "length" "I"] := by decide +kernel
  rw [e] at hw
  simp only [List.mem_cons, List.not_mem_nil, or_false] at hw
  rcases hw with rfl | rfl
  · exact tw_79
  · exact tw_81
theorem in_Template : ∀ w ∈ u_ws "StageDispatcher$Template" F_Template 5, w ∈ gk_Y.2.2.2 := by
  intro w hw
  have e : u_ws "StageDispatcher$Template" F_Template 5 = [Cond.laysFinal "StageDispatcher$Template" "StageDispatcher$Template" "pieces" "[I", Cond.laysFinal "StageDispatcher$Template" "StageDispatcher$Template" "count" "I", Cond.laysFinal "StageDispatcher$Template" "StageDispatcher$Template" "literals" "I", Cond.laysFinal "StageDispatcher$Template" "StageDispatcher$Template" "groups" "I", Cond.laysFinal "StageDispatcher$Template" "StageDispatcher$Template" "narrowGroups" "I"] := by decide +kernel
  rw [e] at hw
  simp only [List.mem_cons, List.not_mem_nil, or_false] at hw
  rcases hw with rfl | rfl | rfl | rfl | rfl
  · exact tw_344
  · exact tw_346
  · exact tw_348
  · exact tw_350
  · exact tw_352
theorem in_Fit : ∀ w ∈ u_ws "StageDispatcher$Fit" F_Fit 5, w ∈ gk_Y.2.2.2 := by
  intro w hw
  have e : u_ws "StageDispatcher$Fit" F_Fit 5 = [Cond.laysFinal "StageDispatcher$Fit" "StageDispatcher$Fit" "open" "[I", Cond.laysFinal "StageDispatcher$Fit" "StageDispatcher$Fit" "groupStart" "[I", Cond.laysFinal "StageDispatcher$Fit" "StageDispatcher$Fit" "groupEnd" "[I", Cond.lays "StageDispatcher$Fit" "StageDispatcher$Fit" "groupCount" "I", Cond.lays "StageDispatcher$Fit" "StageDispatcher$Fit" "rest" "I"] := by decide +kernel
  rw [e] at hw
  simp only [List.mem_cons, List.not_mem_nil, or_false] at hw
  rcases hw with rfl | rfl | rfl | rfl | rfl
  · exact tw_191
  · exact tw_193
  · exact tw_195
  · exact tw_197
  · exact tw_199
theorem in_Method : ∀ w ∈ u_ws "StageDispatcher$Method" F_Method 9, w ∈ gk_Y.2.2.2 := by
  intro w hw
  have e : u_ws "StageDispatcher$Method" F_Method 9 = [Cond.laysFinal "StageDispatcher$Method" "StageDispatcher$Method" "owner" "I", Cond.laysFinal "StageDispatcher$Method" "StageDispatcher$Method" "template" "LStageDispatcher$Template;", Cond.laysFinal "StageDispatcher$Method" "StageDispatcher$Method" "verb" "I", Cond.laysFinal "StageDispatcher$Method" "StageDispatcher$Method" "consumes" "I", Cond.laysFinal "StageDispatcher$Method" "StageDispatcher$Method" "produces" "I", Cond.laysFinal "StageDispatcher$Method" "StageDispatcher$Method" "quality" "I", Cond.lays "StageDispatcher$Method" "StageDispatcher$Method" "converts" "I", Cond.lays "StageDispatcher$Method" "StageDispatcher$Method" "name" "I", Cond.lays "StageDispatcher$Method" "StageDispatcher$Method" "throwing" "I"] := by decide +kernel
  rw [e] at hw
  simp only [List.mem_cons, List.not_mem_nil, or_false] at hw
  rcases hw with rfl | rfl | rfl | rfl | rfl | rfl | rfl | rfl | rfl
  · exact tw_409
  · exact tw_411
  · exact tw_413
  · exact tw_415
  · exact tw_417
  · exact tw_419
  · exact tw_421
  · exact tw_423
  · exact tw_425
theorem in_Locator : ∀ w ∈ u_ws "StageDispatcher$Locator" F_Locator 3, w ∈ gk_Y.2.2.2 := by
  intro w hw
  have e : u_ws "StageDispatcher$Locator" F_Locator 3 = [Cond.laysFinal "StageDispatcher$Locator" "StageDispatcher$Locator" "owner" "I", Cond.laysFinal "StageDispatcher$Locator" "StageDispatcher$Locator" "template" "LStageDispatcher$Template;", Cond.laysFinal "StageDispatcher$Locator" "StageDispatcher$Locator" "target" "I"] := by decide +kernel
  rw [e] at hw
  simp only [List.mem_cons, List.not_mem_nil, or_false] at hw
  rcases hw with rfl | rfl | rfl
  · exact tw_459
  · exact tw_461
  · exact tw_463
theorem in_Filter : ∀ w ∈ u_ws "StageDispatcher$Filter" F_Filter 5, w ∈ gk_Y.2.2.2 := by
  intro w hw
  have e : u_ws "StageDispatcher$Filter" F_Filter 5 = [Cond.laysFinal "StageDispatcher$Filter" "StageDispatcher$Filter" "priority" "I", Cond.laysFinal "StageDispatcher$Filter" "StageDispatcher$Filter" "name" "I", Cond.laysFinal "StageDispatcher$Filter" "StageDispatcher$Filter" "kind" "I", Cond.laysFinal "StageDispatcher$Filter" "StageDispatcher$Filter" "x" "I", Cond.laysFinal "StageDispatcher$Filter" "StageDispatcher$Filter" "status" "I"] := by decide +kernel
  rw [e] at hw
  simp only [List.mem_cons, List.not_mem_nil, or_false] at hw
  rcases hw with rfl | rfl | rfl | rfl | rfl
  · exact tw_493
  · exact tw_495
  · exact tw_497
  · exact tw_499
  · exact tw_501
theorem in_Catalog : ∀ w ∈ u_ws "StageDispatcher$Catalog" F_Catalog 6, w ∈ gk_Y.2.2.2 := by
  intro w hw
  have e : u_ws "StageDispatcher$Catalog" F_Catalog 6 = [Cond.laysFinal "StageDispatcher$Catalog" "StageDispatcher$Catalog" "roots" "[LStageDispatcher$Template;", Cond.laysFinal "StageDispatcher$Catalog" "StageDispatcher$Catalog" "methods" "[LStageDispatcher$Method;", Cond.laysFinal "StageDispatcher$Catalog" "StageDispatcher$Catalog" "locators" "[LStageDispatcher$Locator;", Cond.lays "StageDispatcher$Catalog" "StageDispatcher$Catalog" "resourceCount" "I", Cond.lays "StageDispatcher$Catalog" "StageDispatcher$Catalog" "methodCount" "I", Cond.lays "StageDispatcher$Catalog" "StageDispatcher$Catalog" "locatorCount" "I"] := by decide +kernel
  rw [e] at hw
  simp only [List.mem_cons, List.not_mem_nil, or_false] at hw
  rcases hw with rfl | rfl | rfl | rfl | rfl | rfl
  · exact tw_113
  · exact tw_115
  · exact tw_117
  · exact tw_119
  · exact tw_121
  · exact tw_123
theorem in_Route : ∀ w ∈ u_ws "StageDispatcher$Route" F_Route 4, w ∈ gk_Y.2.2.2 := by
  intro w hw
  have e : u_ws "StageDispatcher$Route" F_Route 4 = [Cond.laysFinal "StageDispatcher$Route" "StageDispatcher$Route" "fit" "LStageDispatcher$Fit;", Cond.lays "StageDispatcher$Route" "StageDispatcher$Route" "from" "I", Cond.lays "StageDispatcher$Route" "StageDispatcher$Route" "classes" "I", Cond.lays "StageDispatcher$Route" "StageDispatcher$Route" "candidates" "I"] := by decide +kernel
  rw [e] at hw
  simp only [List.mem_cons, List.not_mem_nil, or_false] at hw
  rcases hw with rfl | rfl | rfl | rfl
  · exact tw_207
  · exact tw_209
  · exact tw_211
  · exact tw_213
theorem in_Accepted : ∀ w ∈ u_ws "StageDispatcher$Accepted" F_Accepted 3, w ∈ gk_Y.2.2.2 := by
  intro w hw
  have e : u_ws "StageDispatcher$Accepted" F_Accepted 3 = [Cond.laysFinal "StageDispatcher$Accepted" "StageDispatcher$Accepted" "types" "[I", Cond.laysFinal "StageDispatcher$Accepted" "StageDispatcher$Accepted" "qs" "[I", Cond.lays "StageDispatcher$Accepted" "StageDispatcher$Accepted" "count" "I"] := by decide +kernel
  rw [e] at hw
  simp only [List.mem_cons, List.not_mem_nil, or_false] at hw
  rcases hw with rfl | rfl | rfl
  · exact tw_163
  · exact tw_165
  · exact tw_167
theorem in_FilterChain : ∀ w ∈ u_ws "StageDispatcher$FilterChain" F_FilterChain 4, w ∈ gk_Y.2.2.2 := by
  intro w hw
  have e : u_ws "StageDispatcher$FilterChain" F_FilterChain 4 = [Cond.laysFinal "StageDispatcher$FilterChain" "StageDispatcher$FilterChain" "filters" "[LStageDispatcher$Filter;", Cond.laysFinal "StageDispatcher$FilterChain" "StageDispatcher$FilterChain" "rising" "[I", Cond.laysFinal "StageDispatcher$FilterChain" "StageDispatcher$FilterChain" "falling" "[I", Cond.lays "StageDispatcher$FilterChain" "StageDispatcher$FilterChain" "count" "I"] := by decide +kernel
  rw [e] at hw
  simp only [List.mem_cons, List.not_mem_nil, or_false] at hw
  rcases hw with rfl | rfl | rfl | rfl
  · exact tw_142
  · exact tw_144
  · exact tw_146
  · exact tw_148
theorem in_Outcome : ∀ w ∈ u_ws "StageDispatcher$Outcome" F_Outcome 13, w ∈ gk_Y.2.2.2 := by
  intro w hw
  have e : u_ws "StageDispatcher$Outcome" F_Outcome 13 = [Cond.laysFinal "StageDispatcher$Outcome" "StageDispatcher$Outcome" "path" "LStageDispatcher$Text;", Cond.laysFinal "StageDispatcher$Outcome" "StageDispatcher$Outcome" "hops" "[I", Cond.laysFinal "StageDispatcher$Outcome" "StageDispatcher$Outcome" "parameterStart" "[I", Cond.laysFinal "StageDispatcher$Outcome" "StageDispatcher$Outcome" "parameterEnd" "[I", Cond.laysFinal "StageDispatcher$Outcome" "StageDispatcher$Outcome" "ran" "[I", Cond.lays "StageDispatcher$Outcome" "StageDispatcher$Outcome" "hopCount" "I", Cond.lays "StageDispatcher$Outcome" "StageDispatcher$Outcome" "parameterCount" "I", Cond.lays "StageDispatcher$Outcome" "StageDispatcher$Outcome" "ranCount" "I", Cond.lays "StageDispatcher$Outcome" "StageDispatcher$Outcome" "matched" "I", Cond.lays "StageDispatcher$Outcome" "StageDispatcher$Outcome" "invoked" "I", Cond.lays "StageDispatcher$Outcome" "StageDispatcher$Outcome" "argument" "I", Cond.lays "StageDispatcher$Outcome" "StageDispatcher$Outcome" "allowed" "I", Cond.lays "StageDispatcher$Outcome" "StageDispatcher$Outcome" "produced" "I"] := by decide +kernel
  rw [e] at hw
  simp only [List.mem_cons, List.not_mem_nil, or_false] at hw
  rcases hw with rfl | rfl | rfl | rfl | rfl | rfl | rfl | rfl | rfl | rfl | rfl | rfl | rfl
  · exact tw_251
  · exact tw_253
  · exact tw_255
  · exact tw_257
  · exact tw_259
  · exact tw_261
  · exact tw_263
  · exact tw_265
  · exact tw_267
  · exact tw_269
  · exact tw_271
  · exact tw_273
  · exact tw_275
theorem in_Mo : ∀ w ∈ u_ws "StageDispatcherModel" F_Mo 57, w ∈ gk_Y.2.2.2 := by
  intro w hw
  have e : u_ws "StageDispatcherModel" F_Mo 57 = [Cond.laysFinal "StageDispatcherModel" "StageDispatcherModel" "buffer" "[C", Cond.lays "StageDispatcherModel" "StageDispatcherModel" "typed" "I", Cond.laysFinal "StageDispatcherModel" "StageDispatcherModel" "template" "[C", Cond.laysFinal "StageDispatcherModel" "StageDispatcherModel" "size" "[I", Cond.lays "StageDispatcherModel" "StageDispatcherModel" "resources" "I", Cond.lays "StageDispatcherModel" "StageDispatcherModel" "methods" "I", Cond.laysFinal "StageDispatcherModel" "StageDispatcherModel" "mResource" "[I", Cond.laysFinal "StageDispatcherModel" "StageDispatcherModel" "mVerb" "[I", Cond.laysFinal "StageDispatcherModel" "StageDispatcherModel" "mConsumes" "[I", Cond.laysFinal "StageDispatcherModel" "StageDispatcherModel" "mProduces" "[I", Cond.laysFinal "StageDispatcherModel" "StageDispatcherModel" "mQuality" "[I", Cond.laysFinal "StageDispatcherModel" "StageDispatcherModel" "mConverts" "[I", Cond.laysFinal "StageDispatcherModel" "StageDispatcherModel" "mName" "[I", Cond.laysFinal "StageDispatcherModel" "StageDispatcherModel" "mThrows" "[I", Cond.lays "StageDispatcherModel" "StageDispatcherModel" "locators" "I", Cond.laysFinal "StageDispatcherModel" "StageDispatcherModel" "lResource" "[I", Cond.laysFinal "StageDispatcherModel" "StageDispatcherModel" "lTarget" "[I", Cond.lays "StageDispatcherModel" "StageDispatcherModel" "filters" "I", Cond.laysFinal "StageDispatcherModel" "StageDispatcherModel" "fPriority" "[I", Cond.laysFinal "StageDispatcherModel" "StageDispatcherModel" "fName" "[I", Cond.laysFinal "StageDispatcherModel" "StageDispatcherModel" "fKind" "[I", Cond.laysFinal "StageDispatcherModel" "StageDispatcherModel" "fHeader" "[I", Cond.laysFinal "StageDispatcherModel" "StageDispatcherModel" "fStatus" "[I", Cond.laysFinal "StageDispatcherModel" "StageDispatcherModel" "fDone" "[Z", Cond.laysFinal "StageDispatcherModel" "StageDispatcherModel" "mappers" "[I", Cond.lays "StageDispatcherModel" "StageDispatcherModel" "accepts" "I", Cond.laysFinal "StageDispatcherModel" "StageDispatcherModel" "aType" "[I", Cond.laysFinal "StageDispatcherModel" "StageDispatcherModel" "aQ" "[I", Cond.laysFinal "StageDispatcherModel" "StageDispatcherModel" "path" "[C", Cond.lays "StageDispatcherModel" "StageDispatcherModel" "length" "I", Cond.lays "StageDispatcherModel" "StageDispatcherModel" "verb" "I", Cond.lays "StageDispatcherModel" "StageDispatcherModel" "header" "I", Cond.lays "StageDispatcherModel" "StageDispatcherModel" "status" "I", Cond.lays "StageDispatcherModel" "StageDispatcherModel" "over" "Z", Cond.lays "StageDispatcherModel" "StageDispatcherModel" "from" "I", Cond.lays "StageDispatcherModel" "StageDispatcherModel" "method" "I", Cond.lays "StageDispatcherModel" "StageDispatcherModel" "called" "Z", Cond.lays "StageDispatcherModel" "StageDispatcherModel" "number" "I", Cond.lays "StageDispatcherModel" "StageDispatcherModel" "verbs" "I", Cond.lays "StageDispatcherModel" "StageDispatcherModel" "answer" "I", Cond.lays "StageDispatcherModel" "StageDispatcherModel" "hops" "I", Cond.laysFinal "StageDispatcherModel" "StageDispatcherModel" "hopTo" "[I", Cond.lays "StageDispatcherModel" "StageDispatcherModel" "parameters" "I", Cond.laysFinal "StageDispatcherModel" "StageDispatcherModel" "pStart" "[I", Cond.laysFinal "StageDispatcherModel" "StageDispatcherModel" "pLength" "[I", Cond.lays "StageDispatcherModel" "StageDispatcherModel" "runs" "I", Cond.laysFinal "StageDispatcherModel" "StageDispatcherModel" "run" "[I", Cond.lays "StageDispatcherModel" "StageDispatcherModel" "pieces" "I", Cond.laysFinal "StageDispatcherModel" "StageDispatcherModel" "piece" "[I", Cond.laysFinal "StageDispatcherModel" "StageDispatcherModel" "can" "[Z", Cond.lays "StageDispatcherModel" "StageDispatcherModel" "groups" "I", Cond.laysFinal "StageDispatcherModel" "StageDispatcherModel" "gStart" "[I", Cond.laysFinal "StageDispatcherModel" "StageDispatcherModel" "gLength" "[I", Cond.laysFinal "StageDispatcherModel" "StageDispatcherModel" "classes" "[Z", Cond.laysFinal "StageDispatcherModel" "StageDispatcherModel" "candidate" "[Z", Cond.lays "StageDispatcherModel" "StageDispatcherModel" "bestKey" "J", Cond.lays "StageDispatcherModel" "StageDispatcherModel" "bestType" "I"] := by decide +kernel
  rw [e] at hw
  simp only [List.mem_cons, List.not_mem_nil, or_false] at hw
  rcases hw with rfl | rfl | rfl | rfl | rfl | rfl | rfl | rfl | rfl | rfl | rfl | rfl | rfl | rfl | rfl | rfl | rfl | rfl | rfl | rfl | rfl | rfl | rfl | rfl | rfl | rfl | rfl | rfl | rfl | rfl | rfl | rfl | rfl | rfl | rfl | rfl | rfl | rfl | rfl | rfl | rfl | rfl | rfl | rfl | rfl | rfl | rfl | rfl | rfl | rfl | rfl | rfl | rfl | rfl | rfl | rfl | rfl
  · exact tw_812
  · exact tw_814
  · exact tw_816
  · exact tw_818
  · exact tw_820
  · exact tw_822
  · exact tw_824
  · exact tw_826
  · exact tw_828
  · exact tw_830
  · exact tw_832
  · exact tw_834
  · exact tw_836
  · exact tw_838
  · exact tw_840
  · exact tw_842
  · exact tw_844
  · exact tw_846
  · exact tw_848
  · exact tw_850
  · exact tw_852
  · exact tw_854
  · exact tw_856
  · exact tw_858
  · exact tw_860
  · exact tw_862
  · exact tw_864
  · exact tw_866
  · exact tw_868
  · exact tw_870
  · exact tw_872
  · exact tw_874
  · exact tw_876
  · exact tw_878
  · exact tw_880
  · exact tw_882
  · exact tw_884
  · exact tw_886
  · exact tw_888
  · exact tw_890
  · exact tw_892
  · exact tw_894
  · exact tw_896
  · exact tw_898
  · exact tw_900
  · exact tw_902
  · exact tw_904
  · exact tw_906
  · exact tw_908
  · exact tw_910
  · exact tw_912
  · exact tw_914
  · exact tw_916
  · exact tw_918
  · exact tw_920
  · exact tw_922
  · exact tw_924
