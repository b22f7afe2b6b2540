set_option maxRecDepth 100000 in
theorem lk_B_init : sLi 0 mB_init = true := by decide +kernel
set_option maxRecDepth 100000 in
theorem lk_B_symbol : sLv 2 mB_symbol = true := by decide +kernel
set_option maxRecDepth 100000 in
theorem lk_B_put : sLv 1 mB_put = true := by decide +kernel
set_option maxRecDepth 100000 in
theorem lk_B_keep : sLv 1 mB_keep = true := by decide +kernel
set_option maxRecDepth 100000 in
theorem lk_B_order : sLv 2 mB_order = true := by decide +kernel
set_option maxRecDepth 100000 in
theorem lk_B_unify : sLv 4 mB_unify = true := by decide +kernel
set_option maxRecDepth 100000 in
theorem lk_B_match : sLv 2 mB_match = true := by decide +kernel
set_option maxRecDepth 100000 in
theorem lk_B_bound : sLv 2 mB_bound = true := by decide +kernel
set_option maxRecDepth 100000 in
theorem lk_B_replace : sLv 4 mB_replace = true := by decide +kernel
set_option maxRecDepth 100000 in
theorem lk_B_rewrite : sLv 4 mB_rewrite = true := by decide +kernel
set_option maxRecDepth 100000 in
theorem lk_B_code : sLv 2 mB_code = true := by decide +kernel
set_option maxRecDepth 100000 in
theorem lk_B_told : sLv 2 mB_told = true := by decide +kernel
set_option maxRecDepth 100000 in
theorem lk_B_count : sLv 1 mB_count = true := by decide +kernel
set_option maxRecDepth 100000 in
theorem lk_B_requireSlot : sLs 1 mB_requireSlot = true := by decide +kernel
set_option maxRecDepth 100000 in
theorem lk_B_requirePlace : sLs 2 mB_requirePlace = true := by decide +kernel
set_option maxRecDepth 100000 in
theorem lk_B_store : sLv 2 mB_store = true := by decide +kernel
set_option maxRecDepth 100000 in
theorem lk_B_splice : sLv 3 mB_splice = true := by decide +kernel
set_option maxRecDepth 100000 in
theorem lk_B_rewriteFirstPlace : sLv 2 mB_rewriteFirstPlace = true := by decide +kernel
set_option maxRecDepth 100000 in
theorem lk_B_fillsToLess : sLv 2 mB_fillsToLess = true := by decide +kernel
set_option maxRecDepth 100000 in
theorem lk_M_init : sLi 0 mM_init = true := by decide +kernel
set_option maxRecDepth 100000 in
theorem lk_M_thrown : sLv 0 mM_thrown = true := by decide +kernel
set_option maxRecDepth 100000 in
theorem lk_M_refuse : sLv 2 mM_refuse = true := by decide +kernel
set_option maxRecDepth 100000 in
theorem lk_M_noSlot : sLv 1 mM_noSlot = true := by decide +kernel
set_option maxRecDepth 100000 in
theorem lk_M_noSlots : sLv 4 mM_noSlots = true := by decide +kernel
set_option maxRecDepth 100000 in
theorem lk_M_fresh : sLv 1 mM_fresh = true := by decide +kernel
set_option maxRecDepth 100000 in
theorem lk_M_under : sLv 3 mM_under = true := by decide +kernel
set_option maxRecDepth 100000 in
theorem lk_M_tree : sLv 1 mM_tree = true := by decide +kernel
set_option maxRecDepth 100000 in
theorem lk_M_next : sLv 1 mM_next = true := by decide +kernel
set_option maxRecDepth 100000 in
theorem lk_M_written : sLv 2 mM_written = true := by decide +kernel
set_option maxRecDepth 100000 in
theorem lk_M_write : sLv 2 mM_write = true := by decide +kernel
set_option maxRecDepth 100000 in
theorem lk_M_same : sLv 2 mM_same = true := by decide +kernel
set_option maxRecDepth 100000 in
theorem lk_M_copy : sLv 1 mM_copy = true := by decide +kernel
set_option maxRecDepth 100000 in
theorem lk_M_isPredicate : sLv 1 mM_isPredicate = true := by decide +kernel
set_option maxRecDepth 100000 in
theorem lk_M_times : sLv 2 mM_times = true := by decide +kernel
set_option maxRecDepth 100000 in
theorem lk_M_greater : sLv 2 mM_greater = true := by decide +kernel
set_option maxRecDepth 100000 in
theorem lk_M_unify4 : sLv 4 mM_unify4 = true := by decide +kernel
set_option maxRecDepth 100000 in
theorem lk_M_bind : sLv 3 mM_bind = true := by decide +kernel
set_option maxRecDepth 100000 in
theorem lk_M_occurs : sLv 3 mM_occurs = true := by decide +kernel
set_option maxRecDepth 100000 in
theorem lk_M_weigh : sLv 2 mM_weigh = true := by decide +kernel
set_option maxRecDepth 100000 in
theorem lk_M_with : sLv 2 mM_with = true := by decide +kernel
set_option maxRecDepth 100000 in
theorem lk_M_number : sLv 1 mM_number = true := by decide +kernel
set_option maxRecDepth 100000 in
theorem lk_M_matches : sLv 2 mM_matches = true := by decide +kernel
set_option maxRecDepth 100000 in
theorem lk_M_tried : sLv 2 mM_tried = true := by decide +kernel
set_option maxRecDepth 100000 in
theorem lk_M_hasAll : sLv 1 mM_hasAll = true := by decide +kernel
set_option maxRecDepth 100000 in
theorem lk_M_weighMatched : sLv 1 mM_weighMatched = true := by decide +kernel
set_option maxRecDepth 100000 in
theorem lk_M_withMatched : sLv 1 mM_withMatched = true := by decide +kernel
set_option maxRecDepth 100000 in
theorem lk_M_replaced : sLv 1 mM_replaced = true := by decide +kernel
set_option maxRecDepth 100000 in
theorem lk_M_nth : sLv 2 mM_nth = true := by decide +kernel
set_option maxRecDepth 100000 in
theorem lk_M_found : sLv 3 mM_found = true := by decide +kernel
set_option maxRecDepth 100000 in
theorem lk_M_symbol : sLv 2 mM_symbol = true := by decide +kernel
set_option maxRecDepth 100000 in
theorem lk_M_put : sLv 1 mM_put = true := by decide +kernel
set_option maxRecDepth 100000 in
theorem lk_M_keep : sLv 1 mM_keep = true := by decide +kernel
set_option maxRecDepth 100000 in
theorem lk_M_order : sLv 2 mM_order = true := by decide +kernel
set_option maxRecDepth 100000 in
theorem lk_M_unify : sLv 4 mM_unify = true := by decide +kernel
set_option maxRecDepth 100000 in
theorem lk_M_match : sLv 2 mM_match = true := by decide +kernel
set_option maxRecDepth 100000 in
theorem lk_M_bound : sLv 2 mM_bound = true := by decide +kernel
set_option maxRecDepth 100000 in
theorem lk_M_replace : sLv 4 mM_replace = true := by decide +kernel
set_option maxRecDepth 100000 in
theorem lk_M_rewrite : sLv 4 mM_rewrite = true := by decide +kernel
set_option maxRecDepth 100000 in
theorem lk_M_code : sLv 2 mM_code = true := by decide +kernel
set_option maxRecDepth 100000 in
theorem lk_M_depth : sLv 1 mM_depth = true := by decide +kernel
set_option maxRecDepth 100000 in
theorem lk_M_told : sLv 2 mM_told = true := by decide +kernel
set_option maxRecDepth 100000 in
theorem lk_M_count : sLv 1 mM_count = true := by decide +kernel
set_option maxRecDepth 100000 in
theorem lk_A_init : sLi 0 mA_init = true := by decide +kernel
set_option maxRecDepth 100000 in
theorem lk_A_enter : sLv 2 mA_enter = true := by decide +kernel
set_option maxRecDepth 100000 in
theorem lk_A_termsOf : sLv 1 mA_termsOf = true := by decide +kernel
set_option maxRecDepth 100000 in
theorem lk_A_isPredicate : sLv 1 mA_isPredicate = true := by decide +kernel
set_option maxRecDepth 100000 in
theorem lk_O_init : sLi 0 mO_init = true := by decide +kernel
set_option maxRecDepth 100000 in
theorem lk_O_isGreater : sLv 3 mO_isGreater = true := by decide +kernel
set_option maxRecDepth 100000 in
theorem lk_O_compareHere : sLv 4 mO_compareHere = true := by decide +kernel
set_option maxRecDepth 100000 in
theorem lk_O_hasEachVariableAsOften : sLv 4 mO_hasEachVariableAsOften = true := by decide +kernel
set_option maxRecDepth 100000 in
theorem lk_O_addOccurrences : sLv 3 mO_addOccurrences = true := by decide +kernel
set_option maxRecDepth 100000 in
theorem lk_T_init : sLi 0 mT_init = true := by decide +kernel
set_option maxRecDepth 100000 in
theorem lk_T_add : sLv 1 mT_add = true := by decide +kernel
set_option maxRecDepth 100000 in
theorem lk_T_addPart : sLv 3 mT_addPart = true := by decide +kernel
set_option maxRecDepth 100000 in
theorem lk_T_become : sLv 1 mT_become = true := by decide +kernel
set_option maxRecDepth 100000 in
theorem lk_T_findEnds : sLv 1 mT_findEnds = true := by decide +kernel
set_option maxRecDepth 100000 in
theorem lk_T_weightAt : sLv 1 mT_weightAt = true := by decide +kernel
set_option maxRecDepth 100000 in
theorem lk_T_firstDifference : sLv 3 mT_firstDifference = true := by decide +kernel
set_option maxRecDepth 100000 in
theorem lk_T_isAt : sLv 3 mT_isAt = true := by decide +kernel
set_option maxRecDepth 100000 in
theorem lk_T_variables : sLv 0 mT_variables = true := by decide +kernel
set_option maxRecDepth 100000 in
theorem lk_T_depth : sLv 0 mT_depth = true := by decide +kernel
set_option maxRecDepth 100000 in
theorem lk_T_levelOf : sLv 1 mT_levelOf = true := by decide +kernel
set_option maxRecDepth 100000 in
theorem lk_U_init : sLi 0 mU_init = true := by decide +kernel
set_option maxRecDepth 100000 in
theorem lk_U_load : sLv 3 mU_load = true := by decide +kernel
set_option maxRecDepth 100000 in
theorem lk_U_loadOne : sLv 3 mU_loadOne = true := by decide +kernel
set_option maxRecDepth 100000 in
theorem lk_U_addPair : sLv 2 mU_addPair = true := by decide +kernel
set_option maxRecDepth 100000 in
theorem lk_U_hasValues : sLv 1 mU_hasValues = true := by decide +kernel
set_option maxRecDepth 100000 in
theorem lk_U_nodeAt : sLv 1 mU_nodeAt = true := by decide +kernel
set_option maxRecDepth 100000 in
theorem lk_U_root : sLv 1 mU_root = true := by decide +kernel
set_option maxRecDepth 100000 in
theorem lk_U_join : sLv 3 mU_join = true := by decide +kernel
set_option maxRecDepth 100000 in
theorem lk_U_addPairsOfTerms : sLv 3 mU_addPairsOfTerms = true := by decide +kernel
set_option maxRecDepth 100000 in
theorem lk_U_schemaOf : sLv 1 mU_schemaOf = true := by decide +kernel
set_option maxRecDepth 100000 in
theorem lk_U_noValueBeginsWithPredicate : sLv 1 mU_noValueBeginsWithPredicate = true := by decide +kernel
set_option maxRecDepth 100000 in
theorem lk_U_weighValues : sLv 0 mU_weighValues = true := by decide +kernel
set_option maxRecDepth 100000 in
theorem lk_U_weightWithValues : sLv 1 mU_weightWithValues = true := by decide +kernel
set_option maxRecDepth 100000 in
theorem lk_U_write : sLv 2 mU_write = true := by decide +kernel
set_option maxRecDepth 100000 in
theorem lk_U_addPlaces : sLv 2 mU_addPlaces = true := by decide +kernel
set_option maxRecDepth 100000 in
theorem lk_U_putValuesIn : sLv 2 mU_putValuesIn = true := by decide +kernel
set_option maxRecDepth 100000 in
theorem lk_U_nameVariables : sLv 1 mU_nameVariables = true := by decide +kernel
set_option maxRecDepth 100000 in
theorem lk_V_init : sLi 0 mV_init = true := by decide +kernel
set_option maxRecDepth 100000 in
theorem lk_V_become : sLv 1 mV_become = true := by decide +kernel
set_option maxRecDepth 100000 in
theorem lk_V_has : sLv 1 mV_has = true := by decide +kernel
set_option maxRecDepth 100000 in
theorem lk_V_find : sLv 4 mV_find = true := by decide +kernel
set_option maxRecDepth 100000 in
theorem lk_V_take : sLv 4 mV_take = true := by decide +kernel
set_option maxRecDepth 100000 in
theorem lk_V_weightOf : sLv 2 mV_weightOf = true := by decide +kernel
set_option maxRecDepth 100000 in
theorem lk_V_fill : sLv 3 mV_fill = true := by decide +kernel
set_option maxRecDepth 100000 in
theorem lk_L_symbol : sLs 4 mL_symbol = true := by decide +kernel
set_option maxRecDepth 100000 in
theorem lk_L_put : sLs 3 mL_put = true := by decide +kernel
set_option maxRecDepth 100000 in
theorem lk_L_keep : sLs 3 mL_keep = true := by decide +kernel
set_option maxRecDepth 100000 in
theorem lk_L_order : sLs 4 mL_order = true := by decide +kernel
set_option maxRecDepth 100000 in
theorem lk_L_unify : sLs 6 mL_unify = true := by decide +kernel
set_option maxRecDepth 100000 in
theorem lk_L_match : sLs 4 mL_match = true := by decide +kernel
set_option maxRecDepth 100000 in
theorem lk_L_bound : sLs 4 mL_bound = true := by decide +kernel
set_option maxRecDepth 100000 in
theorem lk_L_replace : sLs 6 mL_replace = true := by decide +kernel
set_option maxRecDepth 100000 in
theorem lk_L_rewrite : sLs 6 mL_rewrite = true := by decide +kernel
set_option maxRecDepth 100000 in
theorem lk_L_code : sLs 4 mL_code = true := by decide +kernel
set_option maxRecDepth 100000 in
theorem lk_L_told : sLs 4 mL_told = true := by decide +kernel
