theorem tw_56 : Cond.classLink "StageDispatcherLaw" 7 "StageDispatcher" ∈ gk_Y.2.2.2 := gk_inT (List.mem_of_getElem? (i := 56) (by decide +kernel)) rfl
theorem tw_57 : Cond.instantiable "StageDispatcher" 7 ∈ gk_Y.2.2.2 := gk_inT (List.mem_of_getElem? (i := 57) (by decide +kernel)) rfl
theorem tw_58 : Cond.methodLink "StageDispatcherLaw" 9 ⟨"StageDispatcher", "<init>", "()V"⟩ ∈ gk_Y.2.2.2 := gk_inT (List.mem_of_getElem? (i := 58) (by decide +kernel)) rfl
theorem tw_59 : Cond.instanceMethod ⟨"StageDispatcher", "<init>", "()V"⟩ ∈ gk_Y.2.2.2 := gk_inT (List.mem_of_getElem? (i := 59) (by decide +kernel)) rfl
theorem tw_60 : Cond.code y_SD_init c_SD_init 1 none ∈ gk_Y.2.2.2 := gk_inT (List.mem_of_getElem? (i := 60) (by decide +kernel)) rfl
theorem tw_300 : Cond.methodLink "StageDispatcherLaw" 13 ⟨"StageDispatcher", "put", "(C)Z"⟩ ∈ gk_Y.2.2.2 := gk_inT (List.mem_of_getElem? (i := 300) (by decide +kernel)) rfl
theorem tw_301 : Cond.instanceMethod ⟨"StageDispatcher", "put", "(C)Z"⟩ ∈ gk_Y.2.2.2 := gk_inT (List.mem_of_getElem? (i := 301) (by decide +kernel)) rfl
theorem tw_302 : Cond.selects "StageDispatcher" ⟨"StageDispatcher", "put", "(C)Z"⟩ ⟨"StageDispatcher", "put", "(C)Z"⟩ ∈ gk_Y.2.2.2 := gk_inT (List.mem_of_getElem? (i := 302) (by decide +kernel)) rfl
theorem tw_303 : Cond.code y_SD_put c_SD_put 2 (some .boolean) ∈ gk_Y.2.2.2 := gk_inT (List.mem_of_getElem? (i := 303) (by decide +kernel)) rfl
theorem tw_308 : Cond.methodLink "StageDispatcherLaw" 18 ⟨"StageDispatcher", "resource", "(Z)I"⟩ ∈ gk_Y.2.2.2 := gk_inT (List.mem_of_getElem? (i := 308) (by decide +kernel)) rfl
theorem tw_309 : Cond.instanceMethod ⟨"StageDispatcher", "resource", "(Z)I"⟩ ∈ gk_Y.2.2.2 := gk_inT (List.mem_of_getElem? (i := 309) (by decide +kernel)) rfl
theorem tw_310 : Cond.selects "StageDispatcher" ⟨"StageDispatcher", "resource", "(Z)I"⟩ ⟨"StageDispatcher", "resource", "(Z)I"⟩ ∈ gk_Y.2.2.2 := gk_inT (List.mem_of_getElem? (i := 310) (by decide +kernel)) rfl
theorem tw_311 : Cond.code y_SD_resource c_SD_resource 4 (some .int) ∈ gk_Y.2.2.2 := gk_inT (List.mem_of_getElem? (i := 311) (by decide +kernel)) rfl
theorem tw_363 : Cond.methodLink "StageDispatcherLaw" 23 ⟨"StageDispatcher", "method", "(IIIII)I"⟩ ∈ gk_Y.2.2.2 := gk_inT (List.mem_of_getElem? (i := 363) (by decide +kernel)) rfl
theorem tw_364 : Cond.instanceMethod ⟨"StageDispatcher", "method", "(IIIII)I"⟩ ∈ gk_Y.2.2.2 := gk_inT (List.mem_of_getElem? (i := 364) (by decide +kernel)) rfl
theorem tw_365 : Cond.selects "StageDispatcher" ⟨"StageDispatcher", "method", "(IIIII)I"⟩ ⟨"StageDispatcher", "method", "(IIIII)I"⟩ ∈ gk_Y.2.2.2 := gk_inT (List.mem_of_getElem? (i := 365) (by decide +kernel)) rfl
theorem tw_366 : Cond.code y_SD_method c_SD_method 9 (some .int) ∈ gk_Y.2.2.2 := gk_inT (List.mem_of_getElem? (i := 366) (by decide +kernel)) rfl
theorem tw_432 : Cond.methodLink "StageDispatcherLaw" 28 ⟨"StageDispatcher", "detail", "(IIII)Z"⟩ ∈ gk_Y.2.2.2 := gk_inT (List.mem_of_getElem? (i := 432) (by decide +kernel)) rfl
theorem tw_433 : Cond.instanceMethod ⟨"StageDispatcher", "detail", "(IIII)Z"⟩ ∈ gk_Y.2.2.2 := gk_inT (List.mem_of_getElem? (i := 433) (by decide +kernel)) rfl
theorem tw_434 : Cond.selects "StageDispatcher" ⟨"StageDispatcher", "detail", "(IIII)Z"⟩ ⟨"StageDispatcher", "detail", "(IIII)Z"⟩ ∈ gk_Y.2.2.2 := gk_inT (List.mem_of_getElem? (i := 434) (by decide +kernel)) rfl
theorem tw_435 : Cond.code y_SD_detail c_SD_detail 7 (some .boolean) ∈ gk_Y.2.2.2 := gk_inT (List.mem_of_getElem? (i := 435) (by decide +kernel)) rfl
theorem tw_439 : Cond.methodLink "StageDispatcherLaw" 33 ⟨"StageDispatcher", "locator", "(II)I"⟩ ∈ gk_Y.2.2.2 := gk_inT (List.mem_of_getElem? (i := 439) (by decide +kernel)) rfl
theorem tw_440 : Cond.instanceMethod ⟨"StageDispatcher", "locator", "(II)I"⟩ ∈ gk_Y.2.2.2 := gk_inT (List.mem_of_getElem? (i := 440) (by decide +kernel)) rfl
theorem tw_441 : Cond.selects "StageDispatcher" ⟨"StageDispatcher", "locator", "(II)I"⟩ ⟨"StageDispatcher", "locator", "(II)I"⟩ ∈ gk_Y.2.2.2 := gk_inT (List.mem_of_getElem? (i := 441) (by decide +kernel)) rfl
theorem tw_442 : Cond.code y_SD_locator c_SD_locator 5 (some .int) ∈ gk_Y.2.2.2 := gk_inT (List.mem_of_getElem? (i := 442) (by decide +kernel)) rfl
theorem tw_470 : Cond.methodLink "StageDispatcherLaw" 38 ⟨"StageDispatcher", "filter", "(IIIII)I"⟩ ∈ gk_Y.2.2.2 := gk_inT (List.mem_of_getElem? (i := 470) (by decide +kernel)) rfl
theorem tw_471 : Cond.instanceMethod ⟨"StageDispatcher", "filter", "(IIIII)I"⟩ ∈ gk_Y.2.2.2 := gk_inT (List.mem_of_getElem? (i := 471) (by decide +kernel)) rfl
theorem tw_472 : Cond.selects "StageDispatcher" ⟨"StageDispatcher", "filter", "(IIIII)I"⟩ ⟨"StageDispatcher", "filter", "(IIIII)I"⟩ ∈ gk_Y.2.2.2 := gk_inT (List.mem_of_getElem? (i := 472) (by decide +kernel)) rfl
theorem tw_473 : Cond.code y_SD_filter c_SD_filter 7 (some .int) ∈ gk_Y.2.2.2 := gk_inT (List.mem_of_getElem? (i := 473) (by decide +kernel)) rfl
theorem tw_508 : Cond.methodLink "StageDispatcherLaw" 42 ⟨"StageDispatcher", "mapper", "(II)Z"⟩ ∈ gk_Y.2.2.2 := gk_inT (List.mem_of_getElem? (i := 508) (by decide +kernel)) rfl
theorem tw_509 : Cond.instanceMethod ⟨"StageDispatcher", "mapper", "(II)Z"⟩ ∈ gk_Y.2.2.2 := gk_inT (List.mem_of_getElem? (i := 509) (by decide +kernel)) rfl
theorem tw_510 : Cond.selects "StageDispatcher" ⟨"StageDispatcher", "mapper", "(II)Z"⟩ ⟨"StageDispatcher", "mapper", "(II)Z"⟩ ∈ gk_Y.2.2.2 := gk_inT (List.mem_of_getElem? (i := 510) (by decide +kernel)) rfl
theorem tw_511 : Cond.code y_SD_mapper c_SD_mapper 4 (some .boolean) ∈ gk_Y.2.2.2 := gk_inT (List.mem_of_getElem? (i := 511) (by decide +kernel)) rfl
theorem tw_512 : Cond.methodLink "StageDispatcherLaw" 47 ⟨"StageDispatcher", "accept", "(II)Z"⟩ ∈ gk_Y.2.2.2 := gk_inT (List.mem_of_getElem? (i := 512) (by decide +kernel)) rfl
theorem tw_513 : Cond.instanceMethod ⟨"StageDispatcher", "accept", "(II)Z"⟩ ∈ gk_Y.2.2.2 := gk_inT (List.mem_of_getElem? (i := 513) (by decide +kernel)) rfl
theorem tw_514 : Cond.selects "StageDispatcher" ⟨"StageDispatcher", "accept", "(II)Z"⟩ ⟨"StageDispatcher", "accept", "(II)Z"⟩ ∈ gk_Y.2.2.2 := gk_inT (List.mem_of_getElem? (i := 514) (by decide +kernel)) rfl
theorem tw_515 : Cond.code y_SD_accept c_SD_accept 4 (some .boolean) ∈ gk_Y.2.2.2 := gk_inT (List.mem_of_getElem? (i := 515) (by decide +kernel)) rfl
theorem tw_520 : Cond.methodLink "StageDispatcherLaw" 51 ⟨"StageDispatcher", "request", "(III)I"⟩ ∈ gk_Y.2.2.2 := gk_inT (List.mem_of_getElem? (i := 520) (by decide +kernel)) rfl
theorem tw_521 : Cond.instanceMethod ⟨"StageDispatcher", "request", "(III)I"⟩ ∈ gk_Y.2.2.2 := gk_inT (List.mem_of_getElem? (i := 521) (by decide +kernel)) rfl
theorem tw_522 : Cond.selects "StageDispatcher" ⟨"StageDispatcher", "request", "(III)I"⟩ ⟨"StageDispatcher", "request", "(III)I"⟩ ∈ gk_Y.2.2.2 := gk_inT (List.mem_of_getElem? (i := 522) (by decide +kernel)) rfl
theorem tw_523 : Cond.code y_SD_request c_SD_request 6 (some .int) ∈ gk_Y.2.2.2 := gk_inT (List.mem_of_getElem? (i := 523) (by decide +kernel)) rfl
theorem tw_721 : Cond.methodLink "StageDispatcherLaw" 56 ⟨"StageDispatcher", "invoked", "()I"⟩ ∈ gk_Y.2.2.2 := gk_inT (List.mem_of_getElem? (i := 721) (by decide +kernel)) rfl
theorem tw_722 : Cond.instanceMethod ⟨"StageDispatcher", "invoked", "()I"⟩ ∈ gk_Y.2.2.2 := gk_inT (List.mem_of_getElem? (i := 722) (by decide +kernel)) rfl
theorem tw_723 : Cond.selects "StageDispatcher" ⟨"StageDispatcher", "invoked", "()I"⟩ ⟨"StageDispatcher", "invoked", "()I"⟩ ∈ gk_Y.2.2.2 := gk_inT (List.mem_of_getElem? (i := 723) (by decide +kernel)) rfl
theorem tw_724 : Cond.code y_SD_invoked c_SD_invoked 1 (some .int) ∈ gk_Y.2.2.2 := gk_inT (List.mem_of_getElem? (i := 724) (by decide +kernel)) rfl
theorem tw_725 : Cond.methodLink "StageDispatcherLaw" 61 ⟨"StageDispatcher", "argument", "()I"⟩ ∈ gk_Y.2.2.2 := gk_inT (List.mem_of_getElem? (i := 725) (by decide +kernel)) rfl
theorem tw_726 : Cond.instanceMethod ⟨"StageDispatcher", "argument", "()I"⟩ ∈ gk_Y.2.2.2 := gk_inT (List.mem_of_getElem? (i := 726) (by decide +kernel)) rfl
theorem tw_727 : Cond.selects "StageDispatcher" ⟨"StageDispatcher", "argument", "()I"⟩ ⟨"StageDispatcher", "argument", "()I"⟩ ∈ gk_Y.2.2.2 := gk_inT (List.mem_of_getElem? (i := 727) (by decide +kernel)) rfl
theorem tw_728 : Cond.code y_SD_argument c_SD_argument 1 (some .int) ∈ gk_Y.2.2.2 := gk_inT (List.mem_of_getElem? (i := 728) (by decide +kernel)) rfl
theorem tw_729 : Cond.methodLink "StageDispatcherLaw" 65 ⟨"StageDispatcher", "hop", "(I)I"⟩ ∈ gk_Y.2.2.2 := gk_inT (List.mem_of_getElem? (i := 729) (by decide +kernel)) rfl
theorem tw_730 : Cond.instanceMethod ⟨"StageDispatcher", "hop", "(I)I"⟩ ∈ gk_Y.2.2.2 := gk_inT (List.mem_of_getElem? (i := 730) (by decide +kernel)) rfl
theorem tw_731 : Cond.selects "StageDispatcher" ⟨"StageDispatcher", "hop", "(I)I"⟩ ⟨"StageDispatcher", "hop", "(I)I"⟩ ∈ gk_Y.2.2.2 := gk_inT (List.mem_of_getElem? (i := 731) (by decide +kernel)) rfl
theorem tw_732 : Cond.code y_SD_hop c_SD_hop 2 (some .int) ∈ gk_Y.2.2.2 := gk_inT (List.mem_of_getElem? (i := 732) (by decide +kernel)) rfl
theorem tw_733 : Cond.methodLink "StageDispatcherLaw" 70 ⟨"StageDispatcher", "parameter", "(II)I"⟩ ∈ gk_Y.2.2.2 := gk_inT (List.mem_of_getElem? (i := 733) (by decide +kernel)) rfl
theorem tw_734 : Cond.instanceMethod ⟨"StageDispatcher", "parameter", "(II)I"⟩ ∈ gk_Y.2.2.2 := gk_inT (List.mem_of_getElem? (i := 734) (by decide +kernel)) rfl
theorem tw_735 : Cond.selects "StageDispatcher" ⟨"StageDispatcher", "parameter", "(II)I"⟩ ⟨"StageDispatcher", "parameter", "(II)I"⟩ ∈ gk_Y.2.2.2 := gk_inT (List.mem_of_getElem? (i := 735) (by decide +kernel)) rfl
theorem tw_736 : Cond.code y_SD_parameter c_SD_parameter 5 (some .int) ∈ gk_Y.2.2.2 := gk_inT (List.mem_of_getElem? (i := 736) (by decide +kernel)) rfl
theorem tw_737 : Cond.methodLink "StageDispatcherLaw" 74 ⟨"StageDispatcher", "allowed", "()I"⟩ ∈ gk_Y.2.2.2 := gk_inT (List.mem_of_getElem? (i := 737) (by decide +kernel)) rfl
theorem tw_738 : Cond.instanceMethod ⟨"StageDispatcher", "allowed", "()I"⟩ ∈ gk_Y.2.2.2 := gk_inT (List.mem_of_getElem? (i := 738) (by decide +kernel)) rfl
theorem tw_739 : Cond.selects "StageDispatcher" ⟨"StageDispatcher", "allowed", "()I"⟩ ⟨"StageDispatcher", "allowed", "()I"⟩ ∈ gk_Y.2.2.2 := gk_inT (List.mem_of_getElem? (i := 739) (by decide +kernel)) rfl
theorem tw_740 : Cond.code y_SD_allowed c_SD_allowed 1 (some .int) ∈ gk_Y.2.2.2 := gk_inT (List.mem_of_getElem? (i := 740) (by decide +kernel)) rfl
theorem tw_741 : Cond.methodLink "StageDispatcherLaw" 78 ⟨"StageDispatcher", "produced", "()I"⟩ ∈ gk_Y.2.2.2 := gk_inT (List.mem_of_getElem? (i := 741) (by decide +kernel)) rfl
theorem tw_742 : Cond.instanceMethod ⟨"StageDispatcher", "produced", "()I"⟩ ∈ gk_Y.2.2.2 := gk_inT (List.mem_of_getElem? (i := 742) (by decide +kernel)) rfl
theorem tw_743 : Cond.selects "StageDispatcher" ⟨"StageDispatcher", "produced", "()I"⟩ ⟨"StageDispatcher", "produced", "()I"⟩ ∈ gk_Y.2.2.2 := gk_inT (List.mem_of_getElem? (i := 743) (by decide +kernel)) rfl
theorem tw_744 : Cond.code y_SD_produced c_SD_produced 1 (some .int) ∈ gk_Y.2.2.2 := gk_inT (List.mem_of_getElem? (i := 744) (by decide +kernel)) rfl
theorem tw_745 : Cond.methodLink "StageDispatcherLaw" 82 ⟨"StageDispatcher", "ran", "(I)I"⟩ ∈ gk_Y.2.2.2 := gk_inT (List.mem_of_getElem? (i := 745) (by decide +kernel)) rfl
theorem tw_746 : Cond.instanceMethod ⟨"StageDispatcher", "ran", "(I)I"⟩ ∈ gk_Y.2.2.2 := gk_inT (List.mem_of_getElem? (i := 746) (by decide +kernel)) rfl
theorem tw_747 : Cond.selects "StageDispatcher" ⟨"StageDispatcher", "ran", "(I)I"⟩ ⟨"StageDispatcher", "ran", "(I)I"⟩ ∈ gk_Y.2.2.2 := gk_inT (List.mem_of_getElem? (i := 747) (by decide +kernel)) rfl
theorem tw_748 : Cond.code y_SD_ran c_SD_ran 2 (some .int) ∈ gk_Y.2.2.2 := gk_inT (List.mem_of_getElem? (i := 748) (by decide +kernel)) rfl
theorem tw_749 : Cond.classLink "StageDispatcherLaw" 10 "StageDispatcherModel" ∈ gk_Y.2.2.2 := gk_inT (List.mem_of_getElem? (i := 749) (by decide +kernel)) rfl
theorem tw_750 : Cond.instantiable "StageDispatcherModel" 57 ∈ gk_Y.2.2.2 := gk_inT (List.mem_of_getElem? (i := 750) (by decide +kernel)) rfl
theorem tw_751 : Cond.methodLink "StageDispatcherLaw" 12 ⟨"StageDispatcherModel", "<init>", "()V"⟩ ∈ gk_Y.2.2.2 := gk_inT (List.mem_of_getElem? (i := 751) (by decide +kernel)) rfl
theorem tw_752 : Cond.instanceMethod ⟨"StageDispatcherModel", "<init>", "()V"⟩ ∈ gk_Y.2.2.2 := gk_inT (List.mem_of_getElem? (i := 752) (by decide +kernel)) rfl
theorem tw_753 : Cond.code y_Mo_init c_Mo_init 1 none ∈ gk_Y.2.2.2 := gk_inT (List.mem_of_getElem? (i := 753) (by decide +kernel)) rfl
theorem tw_928 : Cond.methodLink "StageDispatcherLaw" 17 ⟨"StageDispatcherModel", "put", "(C)Z"⟩ ∈ gk_Y.2.2.2 := gk_inT (List.mem_of_getElem? (i := 928) (by decide +kernel)) rfl
theorem tw_929 : Cond.instanceMethod ⟨"StageDispatcherModel", "put", "(C)Z"⟩ ∈ gk_Y.2.2.2 := gk_inT (List.mem_of_getElem? (i := 929) (by decide +kernel)) rfl
theorem tw_930 : Cond.selects "StageDispatcherModel" ⟨"StageDispatcherModel", "put", "(C)Z"⟩ ⟨"StageDispatcherModel", "put", "(C)Z"⟩ ∈ gk_Y.2.2.2 := gk_inT (List.mem_of_getElem? (i := 930) (by decide +kernel)) rfl
theorem tw_931 : Cond.code y_Mo_put c_Mo_put 3 (some .boolean) ∈ gk_Y.2.2.2 := gk_inT (List.mem_of_getElem? (i := 931) (by decide +kernel)) rfl
theorem tw_932 : Cond.methodLink "StageDispatcherLaw" 22 ⟨"StageDispatcherModel", "resource", "(Z)I"⟩ ∈ gk_Y.2.2.2 := gk_inT (List.mem_of_getElem? (i := 932) (by decide +kernel)) rfl
theorem tw_933 : Cond.instanceMethod ⟨"StageDispatcherModel", "resource", "(Z)I"⟩ ∈ gk_Y.2.2.2 := gk_inT (List.mem_of_getElem? (i := 933) (by decide +kernel)) rfl
theorem tw_934 : Cond.selects "StageDispatcherModel" ⟨"StageDispatcherModel", "resource", "(Z)I"⟩ ⟨"StageDispatcherModel", "resource", "(Z)I"⟩ ∈ gk_Y.2.2.2 := gk_inT (List.mem_of_getElem? (i := 934) (by decide +kernel)) rfl
theorem tw_935 : Cond.code y_Mo_resource c_Mo_resource 3 (some .int) ∈ gk_Y.2.2.2 := gk_inT (List.mem_of_getElem? (i := 935) (by decide +kernel)) rfl
theorem tw_948 : Cond.methodLink "StageDispatcherLaw" 27 ⟨"StageDispatcherModel", "method", "(IIIII)I"⟩ ∈ gk_Y.2.2.2 := gk_inT (List.mem_of_getElem? (i := 948) (by decide +kernel)) rfl
theorem tw_949 : Cond.instanceMethod ⟨"StageDispatcherModel", "method", "(IIIII)I"⟩ ∈ gk_Y.2.2.2 := gk_inT (List.mem_of_getElem? (i := 949) (by decide +kernel)) rfl
theorem tw_950 : Cond.selects "StageDispatcherModel" ⟨"StageDispatcherModel", "method", "(IIIII)I"⟩ ⟨"StageDispatcherModel", "method", "(IIIII)I"⟩ ∈ gk_Y.2.2.2 := gk_inT (List.mem_of_getElem? (i := 950) (by decide +kernel)) rfl
theorem tw_951 : Cond.code y_Mo_method c_Mo_method 7 (some .int) ∈ gk_Y.2.2.2 := gk_inT (List.mem_of_getElem? (i := 951) (by decide +kernel)) rfl
theorem tw_958 : Cond.methodLink "StageDispatcherLaw" 32 ⟨"StageDispatcherModel", "detail", "(IIII)Z"⟩ ∈ gk_Y.2.2.2 := gk_inT (List.mem_of_getElem? (i := 958) (by decide +kernel)) rfl
theorem tw_959 : Cond.instanceMethod ⟨"StageDispatcherModel", "detail", "(IIII)Z"⟩ ∈ gk_Y.2.2.2 := gk_inT (List.mem_of_getElem? (i := 959) (by decide +kernel)) rfl
theorem tw_960 : Cond.selects "StageDispatcherModel" ⟨"StageDispatcherModel", "detail", "(IIII)Z"⟩ ⟨"StageDispatcherModel", "detail", "(IIII)Z"⟩ ∈ gk_Y.2.2.2 := gk_inT (List.mem_of_getElem? (i := 960) (by decide +kernel)) rfl
theorem tw_961 : Cond.code y_Mo_detail c_Mo_detail 5 (some .boolean) ∈ gk_Y.2.2.2 := gk_inT (List.mem_of_getElem? (i := 961) (by decide +kernel)) rfl
theorem tw_962 : Cond.methodLink "StageDispatcherLaw" 37 ⟨"StageDispatcherModel", "locator", "(II)I"⟩ ∈ gk_Y.2.2.2 := gk_inT (List.mem_of_getElem? (i := 962) (by decide +kernel)) rfl
theorem tw_963 : Cond.instanceMethod ⟨"StageDispatcherModel", "locator", "(II)I"⟩ ∈ gk_Y.2.2.2 := gk_inT (List.mem_of_getElem? (i := 963) (by decide +kernel)) rfl
theorem tw_964 : Cond.selects "StageDispatcherModel" ⟨"StageDispatcherModel", "locator", "(II)I"⟩ ⟨"StageDispatcherModel", "locator", "(II)I"⟩ ∈ gk_Y.2.2.2 := gk_inT (List.mem_of_getElem? (i := 964) (by decide +kernel)) rfl
theorem tw_965 : Cond.code y_Mo_locator c_Mo_locator 4 (some .int) ∈ gk_Y.2.2.2 := gk_inT (List.mem_of_getElem? (i := 965) (by decide +kernel)) rfl
theorem tw_966 : Cond.methodLink "StageDispatcherLaw" 41 ⟨"StageDispatcherModel", "filter", "(IIIII)I"⟩ ∈ gk_Y.2.2.2 := gk_inT (List.mem_of_getElem? (i := 966) (by decide +kernel)) rfl
theorem tw_967 : Cond.instanceMethod ⟨"StageDispatcherModel", "filter", "(IIIII)I"⟩ ∈ gk_Y.2.2.2 := gk_inT (List.mem_of_getElem? (i := 967) (by decide +kernel)) rfl
theorem tw_968 : Cond.selects "StageDispatcherModel" ⟨"StageDispatcherModel", "filter", "(IIIII)I"⟩ ⟨"StageDispatcherModel", "filter", "(IIIII)I"⟩ ∈ gk_Y.2.2.2 := gk_inT (List.mem_of_getElem? (i := 968) (by decide +kernel)) rfl
theorem tw_969 : Cond.code y_Mo_filter c_Mo_filter 7 (some .int) ∈ gk_Y.2.2.2 := gk_inT (List.mem_of_getElem? (i := 969) (by decide +kernel)) rfl
theorem tw_970 : Cond.methodLink "StageDispatcherLaw" 46 ⟨"StageDispatcherModel", "mapper", "(II)Z"⟩ ∈ gk_Y.2.2.2 := gk_inT (List.mem_of_getElem? (i := 970) (by decide +kernel)) rfl
theorem tw_971 : Cond.instanceMethod ⟨"StageDispatcherModel", "mapper", "(II)Z"⟩ ∈ gk_Y.2.2.2 := gk_inT (List.mem_of_getElem? (i := 971) (by decide +kernel)) rfl
theorem tw_972 : Cond.selects "StageDispatcherModel" ⟨"StageDispatcherModel", "mapper", "(II)Z"⟩ ⟨"StageDispatcherModel", "mapper", "(II)Z"⟩ ∈ gk_Y.2.2.2 := gk_inT (List.mem_of_getElem? (i := 972) (by decide +kernel)) rfl
theorem tw_973 : Cond.code y_Mo_mapper c_Mo_mapper 3 (some .boolean) ∈ gk_Y.2.2.2 := gk_inT (List.mem_of_getElem? (i := 973) (by decide +kernel)) rfl
theorem tw_974 : Cond.methodLink "StageDispatcherLaw" 50 ⟨"StageDispatcherModel", "accept", "(II)Z"⟩ ∈ gk_Y.2.2.2 := gk_inT (List.mem_of_getElem? (i := 974) (by decide +kernel)) rfl
theorem tw_975 : Cond.instanceMethod ⟨"StageDispatcherModel", "accept", "(II)Z"⟩ ∈ gk_Y.2.2.2 := gk_inT (List.mem_of_getElem? (i := 975) (by decide +kernel)) rfl
theorem tw_976 : Cond.selects "StageDispatcherModel" ⟨"StageDispatcherModel", "accept", "(II)Z"⟩ ⟨"StageDispatcherModel", "accept", "(II)Z"⟩ ∈ gk_Y.2.2.2 := gk_inT (List.mem_of_getElem? (i := 976) (by decide +kernel)) rfl
theorem tw_977 : Cond.code y_Mo_accept c_Mo_accept 3 (some .boolean) ∈ gk_Y.2.2.2 := gk_inT (List.mem_of_getElem? (i := 977) (by decide +kernel)) rfl
theorem tw_978 : Cond.methodLink "StageDispatcherLaw" 55 ⟨"StageDispatcherModel", "request", "(III)I"⟩ ∈ gk_Y.2.2.2 := gk_inT (List.mem_of_getElem? (i := 978) (by decide +kernel)) rfl
theorem tw_979 : Cond.instanceMethod ⟨"StageDispatcherModel", "request", "(III)I"⟩ ∈ gk_Y.2.2.2 := gk_inT (List.mem_of_getElem? (i := 979) (by decide +kernel)) rfl
theorem tw_980 : Cond.selects "StageDispatcherModel" ⟨"StageDispatcherModel", "request", "(III)I"⟩ ⟨"StageDispatcherModel", "request", "(III)I"⟩ ∈ gk_Y.2.2.2 := gk_inT (List.mem_of_getElem? (i := 980) (by decide +kernel)) rfl
theorem tw_981 : Cond.code y_Mo_request c_Mo_request 7 (some .int) ∈ gk_Y.2.2.2 := gk_inT (List.mem_of_getElem? (i := 981) (by decide +kernel)) rfl
theorem tw_1093 : Cond.methodLink "StageDispatcherLaw" 60 ⟨"StageDispatcherModel", "invoked", "()I"⟩ ∈ gk_Y.2.2.2 := gk_inT (List.mem_of_getElem? (i := 1093) (by decide +kernel)) rfl
theorem tw_1094 : Cond.instanceMethod ⟨"StageDispatcherModel", "invoked", "()I"⟩ ∈ gk_Y.2.2.2 := gk_inT (List.mem_of_getElem? (i := 1094) (by decide +kernel)) rfl
theorem tw_1095 : Cond.selects "StageDispatcherModel" ⟨"StageDispatcherModel", "invoked", "()I"⟩ ⟨"StageDispatcherModel", "invoked", "()I"⟩ ∈ gk_Y.2.2.2 := gk_inT (List.mem_of_getElem? (i := 1095) (by decide +kernel)) rfl
theorem tw_1096 : Cond.code y_Mo_invoked c_Mo_invoked 1 (some .int) ∈ gk_Y.2.2.2 := gk_inT (List.mem_of_getElem? (i := 1096) (by decide +kernel)) rfl
theorem tw_1097 : Cond.methodLink "StageDispatcherLaw" 64 ⟨"StageDispatcherModel", "argument", "()I"⟩ ∈ gk_Y.2.2.2 := gk_inT (List.mem_of_getElem? (i := 1097) (by decide +kernel)) rfl
theorem tw_1098 : Cond.instanceMethod ⟨"StageDispatcherModel", "argument", "()I"⟩ ∈ gk_Y.2.2.2 := gk_inT (List.mem_of_getElem? (i := 1098) (by decide +kernel)) rfl
theorem tw_1099 : Cond.selects "StageDispatcherModel" ⟨"StageDispatcherModel", "argument", "()I"⟩ ⟨"StageDispatcherModel", "argument", "()I"⟩ ∈ gk_Y.2.2.2 := gk_inT (List.mem_of_getElem? (i := 1099) (by decide +kernel)) rfl
theorem tw_1100 : Cond.code y_Mo_argument c_Mo_argument 1 (some .int) ∈ gk_Y.2.2.2 := gk_inT (List.mem_of_getElem? (i := 1100) (by decide +kernel)) rfl
theorem tw_1101 : Cond.methodLink "StageDispatcherLaw" 69 ⟨"StageDispatcherModel", "hop", "(I)I"⟩ ∈ gk_Y.2.2.2 := gk_inT (List.mem_of_getElem? (i := 1101) (by decide +kernel)) rfl
theorem tw_1102 : Cond.instanceMethod ⟨"StageDispatcherModel", "hop", "(I)I"⟩ ∈ gk_Y.2.2.2 := gk_inT (List.mem_of_getElem? (i := 1102) (by decide +kernel)) rfl
theorem tw_1103 : Cond.selects "StageDispatcherModel" ⟨"StageDispatcherModel", "hop", "(I)I"⟩ ⟨"StageDispatcherModel", "hop", "(I)I"⟩ ∈ gk_Y.2.2.2 := gk_inT (List.mem_of_getElem? (i := 1103) (by decide +kernel)) rfl
theorem tw_1104 : Cond.code y_Mo_hop c_Mo_hop 2 (some .int) ∈ gk_Y.2.2.2 := gk_inT (List.mem_of_getElem? (i := 1104) (by decide +kernel)) rfl
theorem tw_1105 : Cond.methodLink "StageDispatcherLaw" 73 ⟨"StageDispatcherModel", "parameter", "(II)I"⟩ ∈ gk_Y.2.2.2 := gk_inT (List.mem_of_getElem? (i := 1105) (by decide +kernel)) rfl
theorem tw_1106 : Cond.instanceMethod ⟨"StageDispatcherModel", "parameter", "(II)I"⟩ ∈ gk_Y.2.2.2 := gk_inT (List.mem_of_getElem? (i := 1106) (by decide +kernel)) rfl
theorem tw_1107 : Cond.selects "StageDispatcherModel" ⟨"StageDispatcherModel", "parameter", "(II)I"⟩ ⟨"StageDispatcherModel", "parameter", "(II)I"⟩ ∈ gk_Y.2.2.2 := gk_inT (List.mem_of_getElem? (i := 1107) (by decide +kernel)) rfl
theorem tw_1108 : Cond.code y_Mo_parameter c_Mo_parameter 3 (some .int) ∈ gk_Y.2.2.2 := gk_inT (List.mem_of_getElem? (i := 1108) (by decide +kernel)) rfl
theorem tw_1109 : Cond.methodLink "StageDispatcherLaw" 77 ⟨"StageDispatcherModel", "allowed", "()I"⟩ ∈ gk_Y.2.2.2 := gk_inT (List.mem_of_getElem? (i := 1109) (by decide +kernel)) rfl
theorem tw_1110 : Cond.instanceMethod ⟨"StageDispatcherModel", "allowed", "()I"⟩ ∈ gk_Y.2.2.2 := gk_inT (List.mem_of_getElem? (i := 1110) (by decide +kernel)) rfl
theorem tw_1111 : Cond.selects "StageDispatcherModel" ⟨"StageDispatcherModel", "allowed", "()I"⟩ ⟨"StageDispatcherModel", "allowed", "()I"⟩ ∈ gk_Y.2.2.2 := gk_inT (List.mem_of_getElem? (i := 1111) (by decide +kernel)) rfl
theorem tw_1112 : Cond.code y_Mo_allowed c_Mo_allowed 1 (some .int) ∈ gk_Y.2.2.2 := gk_inT (List.mem_of_getElem? (i := 1112) (by decide +kernel)) rfl
theorem tw_1113 : Cond.methodLink "StageDispatcherLaw" 81 ⟨"StageDispatcherModel", "produced", "()I"⟩ ∈ gk_Y.2.2.2 := gk_inT (List.mem_of_getElem? (i := 1113) (by decide +kernel)) rfl
theorem tw_1114 : Cond.instanceMethod ⟨"StageDispatcherModel", "produced", "()I"⟩ ∈ gk_Y.2.2.2 := gk_inT (List.mem_of_getElem? (i := 1114) (by decide +kernel)) rfl
theorem tw_1115 : Cond.selects "StageDispatcherModel" ⟨"StageDispatcherModel", "produced", "()I"⟩ ⟨"StageDispatcherModel", "produced", "()I"⟩ ∈ gk_Y.2.2.2 := gk_inT (List.mem_of_getElem? (i := 1115) (by decide +kernel)) rfl
theorem tw_1116 : Cond.code y_Mo_produced c_Mo_produced 1 (some .int) ∈ gk_Y.2.2.2 := gk_inT (List.mem_of_getElem? (i := 1116) (by decide +kernel)) rfl
theorem tw_1117 : Cond.methodLink "StageDispatcherLaw" 85 ⟨"StageDispatcherModel", "ran", "(I)I"⟩ ∈ gk_Y.2.2.2 := gk_inT (List.mem_of_getElem? (i := 1117) (by decide +kernel)) rfl
theorem tw_1118 : Cond.instanceMethod ⟨"StageDispatcherModel", "ran", "(I)I"⟩ ∈ gk_Y.2.2.2 := gk_inT (List.mem_of_getElem? (i := 1118) (by decide +kernel)) rfl
theorem tw_1119 : Cond.selects "StageDispatcherModel" ⟨"StageDispatcherModel", "ran", "(I)I"⟩ ⟨"StageDispatcherModel", "ran", "(I)I"⟩ ∈ gk_Y.2.2.2 := gk_inT (List.mem_of_getElem? (i := 1119) (by decide +kernel)) rfl
theorem tw_1120 : Cond.code y_Mo_ran c_Mo_ran 2 (some .int) ∈ gk_Y.2.2.2 := gk_inT (List.mem_of_getElem? (i := 1120) (by decide +kernel)) rfl
