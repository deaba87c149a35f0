/-! ===== the tables, by name: methods (mX.. their records, kX.. that they are the tables'), links, fields, constants (written by wip/whole/gen_tab2.py) ===== -/
theorem jL : Cond.initialized RL ∈ vm_G := vm_inG (i := 70) (by decide +kernel) rfl
theorem jX10 : Cond.initialized RX10 ∈ vm_G := vm_inG (i := 71) (by decide +kernel) rfl
theorem jX7 : Cond.initialized RX7 ∈ vm_G := vm_inG (i := 72) (by decide +kernel) rfl
theorem jX9 : Cond.initialized RX9 ∈ vm_G := vm_inG (i := 73) (by decide +kernel) rfl
theorem jX1 : Cond.initialized RX1 ∈ vm_G := vm_inG (i := 74) (by decide +kernel) rfl
theorem jX2 : Cond.initialized RX2 ∈ vm_G := vm_inG (i := 75) (by decide +kernel) rfl
theorem jX8 : Cond.initialized RX8 ∈ vm_G := vm_inG (i := 76) (by decide +kernel) rfl
theorem jX6 : Cond.initialized RX6 ∈ vm_G := vm_inG (i := 77) (by decide +kernel) rfl
theorem jX5 : Cond.initialized RX5 ∈ vm_G := vm_inG (i := 78) (by decide +kernel) rfl
theorem jX3 : Cond.initialized RX3 ∈ vm_G := vm_inG (i := 79) (by decide +kernel) rfl
theorem jX4 : Cond.initialized RX4 ∈ vm_G := vm_inG (i := 80) (by decide +kernel) rfl
theorem jX0 : Cond.initialized RX0 ∈ vm_G := vm_inG (i := 81) (by decide +kernel) rfl
theorem jX11 : Cond.initialized RX11 ∈ vm_G := vm_inG (i := 82) (by decide +kernel) rfl
theorem jJ9 : Cond.initialized RJ9 ∈ vm_G := vm_inG (i := 83) (by decide +kernel) rfl
theorem jJ13 : Cond.initialized RJ13 ∈ vm_G := vm_inG (i := 84) (by decide +kernel) rfl
theorem jJ6 : Cond.initialized RJ6 ∈ vm_G := vm_inG (i := 85) (by decide +kernel) rfl
def mX10_init : vM := (yX10_init, cX10_init, 1, none, RX10, 0)
set_option maxRecDepth 100000 in
theorem kX10_init : vm_Mok mX10_init := ⟨vm_inG (i := 90) (by rfl) rfl, jX10, ⟨by decide +kernel, by decide +kernel, by decide +kernel⟩, by decide +kernel, by decide +kernel, rfl⟩
def mX7_init : vM := (yX7_init, cX7_init, 1, none, RX7, 0)
set_option maxRecDepth 100000 in
theorem kX7_init : vm_Mok mX7_init := ⟨vm_inG (i := 98) (by rfl) rfl, jX7, ⟨by decide +kernel, by decide +kernel, by decide +kernel⟩, by decide +kernel, by decide +kernel, rfl⟩
def mX9_init : vM := (yX9_init, cX9_init, 1, none, RX9, 0)
set_option maxRecDepth 100000 in
theorem kX9_init : vm_Mok mX9_init := ⟨vm_inG (i := 104) (by rfl) rfl, jX9, ⟨by decide +kernel, by decide +kernel, by decide +kernel⟩, by decide +kernel, by decide +kernel, rfl⟩
def mX1_init : vM := (yX1_init, cX1_init, 1, none, RX1, 0)
set_option maxRecDepth 100000 in
theorem kX1_init : vm_Mok mX1_init := ⟨vm_inG (i := 122) (by rfl) rfl, jX1, ⟨by decide +kernel, by decide +kernel, by decide +kernel⟩, by decide +kernel, by decide +kernel, rfl⟩
def mX1_makeFirst : vM := (yX1_makeFirst, cX1_makeFirst, 1, none, RX1, 0)
set_option maxRecDepth 100000 in
theorem kX1_makeFirst : vm_Mok mX1_makeFirst := ⟨vm_inG (i := 132) (by rfl) rfl, jX1, ⟨by decide +kernel, by decide +kernel, by decide +kernel⟩, by decide +kernel, by decide +kernel, rfl⟩
def mX1_fill : vM := (yX1_fill, cX1_fill, 4, none, RX1, 1)
set_option maxRecDepth 100000 in
theorem kX1_fill : vm_Mok mX1_fill := ⟨vm_inG (i := 136) (by rfl) rfl, jX1, ⟨by decide +kernel, by decide +kernel, by decide +kernel⟩, by decide +kernel, by decide +kernel, rfl⟩
def mX2_init : vM := (yX2_init, cX2_init, 2, none, RX2, 0)
set_option maxRecDepth 100000 in
theorem kX2_init : vm_Mok mX2_init := ⟨vm_inG (i := 164) (by rfl) rfl, jX2, ⟨by decide +kernel, by decide +kernel, by decide +kernel⟩, by decide +kernel, by decide +kernel, rfl⟩
def mX8_init : vM := (yX8_init, cX8_init, 1, none, RX8, 0)
set_option maxRecDepth 100000 in
theorem kX8_init : vm_Mok mX8_init := ⟨vm_inG (i := 184) (by rfl) rfl, jX8, ⟨by decide +kernel, by decide +kernel, by decide +kernel⟩, by decide +kernel, by decide +kernel, rfl⟩
def mX6_init : vM := (yX6_init, cX6_init, 3, none, RX6, 1)
set_option maxRecDepth 100000 in
theorem kX6_init : vm_Mok mX6_init := ⟨vm_inG (i := 200) (by rfl) rfl, jX6, ⟨by decide +kernel, by decide +kernel, by decide +kernel⟩, by decide +kernel, by decide +kernel, rfl⟩
def mX5_init : vM := (yX5_init, cX5_init, 1, none, RX5, 0)
set_option maxRecDepth 100000 in
theorem kX5_init : vm_Mok mX5_init := ⟨vm_inG (i := 207) (by rfl) rfl, jX5, ⟨by decide +kernel, by decide +kernel, by decide +kernel⟩, by decide +kernel, by decide +kernel, rfl⟩
def mX3_init : vM := (yX3_init, cX3_init, 1, none, RX3, 0)
set_option maxRecDepth 100000 in
theorem kX3_init : vm_Mok mX3_init := ⟨vm_inG (i := 296) (by rfl) rfl, jX3, ⟨by decide +kernel, by decide +kernel, by decide +kernel⟩, by decide +kernel, by decide +kernel, rfl⟩
def mX4_init : vM := (yX4_init, cX4_init, 2, none, RX4, 1)
set_option maxRecDepth 100000 in
theorem kX4_init : vm_Mok mX4_init := ⟨vm_inG (i := 315) (by rfl) rfl, jX4, ⟨by decide +kernel, by decide +kernel, by decide +kernel⟩, by decide +kernel, by decide +kernel, rfl⟩
def mX0_init : vM := (yX0_init, cX0_init, 2, none, RX0, 1)
set_option maxRecDepth 100000 in
theorem kX0_init : vm_Mok mX0_init := ⟨vm_inG (i := 325) (by rfl) rfl, jX0, ⟨by decide +kernel, by decide +kernel, by decide +kernel⟩, by decide +kernel, by decide +kernel, rfl⟩
def mX10_setIndividuals : vM := (yX10_setIndividuals, cX10_setIndividuals, 3, some (FieldType.int), RX10, 1)
set_option maxRecDepth 100000 in
theorem kX10_setIndividuals : vm_Mok mX10_setIndividuals := ⟨vm_inG (i := 386) (by rfl) rfl, jX10, ⟨by decide +kernel, by decide +kernel, by decide +kernel⟩, by decide +kernel, by decide +kernel, rfl⟩
def mX2_record : vM := (yX2_record, cX2_record, 2, none, RX2, 1)
set_option maxRecDepth 100000 in
theorem kX2_record : vm_Mok mX2_record := ⟨vm_inG (i := 390) (by rfl) rfl, jX2, ⟨by decide +kernel, by decide +kernel, by decide +kernel⟩, by decide +kernel, by decide +kernel, rfl⟩
def mX7_copyFrom : vM := (yX7_copyFrom, cX7_copyFrom, 2, none, RX7, 1)
set_option maxRecDepth 100000 in
theorem kX7_copyFrom : vm_Mok mX7_copyFrom := ⟨vm_inG (i := 394) (by rfl) rfl, jX7, ⟨by decide +kernel, by decide +kernel, by decide +kernel⟩, by decide +kernel, by decide +kernel, rfl⟩
def mX9_copyFrom : vM := (yX9_copyFrom, cX9_copyFrom, 3, none, RX9, 1)
set_option maxRecDepth 100000 in
theorem kX9_copyFrom : vm_Mok mX9_copyFrom := ⟨vm_inG (i := 398) (by rfl) rfl, jX9, ⟨by decide +kernel, by decide +kernel, by decide +kernel⟩, by decide +kernel, by decide +kernel, rfl⟩
def mX1_copyFrom : vM := (yX1_copyFrom, cX1_copyFrom, 3, none, RX1, 1)
set_option maxRecDepth 100000 in
theorem kX1_copyFrom : vm_Mok mX1_copyFrom := ⟨vm_inG (i := 402) (by rfl) rfl, jX1, ⟨by decide +kernel, by decide +kernel, by decide +kernel⟩, by decide +kernel, by decide +kernel, rfl⟩
def mX9_begin : vM := (yX9_begin, cX9_begin, 3, none, RX9, 1)
set_option maxRecDepth 100000 in
theorem kX9_begin : vm_Mok mX9_begin := ⟨vm_inG (i := 409) (by rfl) rfl, jX9, ⟨by decide +kernel, by decide +kernel, by decide +kernel⟩, by decide +kernel, by decide +kernel, rfl⟩
def mX7_forgetContext : vM := (yX7_forgetContext, cX7_forgetContext, 1, none, RX7, 0)
set_option maxRecDepth 100000 in
theorem kX7_forgetContext : vm_Mok mX7_forgetContext := ⟨vm_inG (i := 413) (by rfl) rfl, jX7, ⟨by decide +kernel, by decide +kernel, by decide +kernel⟩, by decide +kernel, by decide +kernel, rfl⟩
def mX10_setPredicate : vM := (yX10_setPredicate, cX10_setPredicate, 4, some (FieldType.int), RX10, 2)
set_option maxRecDepth 100000 in
theorem kX10_setPredicate : vm_Mok mX10_setPredicate := ⟨vm_inG (i := 417) (by rfl) rfl, jX10, ⟨by decide +kernel, by decide +kernel, by decide +kernel⟩, by decide +kernel, by decide +kernel, rfl⟩
def mX10_isPredicate : vM := (yX10_isPredicate, cX10_isPredicate, 1, some (FieldType.boolean), RX10, 1)
set_option maxRecDepth 100000 in
theorem kX10_isPredicate : vm_Mok mX10_isPredicate := ⟨vm_inG (i := 420) (by rfl) rfl, jX10, ⟨by decide +kernel, by decide +kernel, by decide +kernel⟩, by decide +kernel, by decide +kernel, rfl⟩
def mX9_everybody : vM := (yX9_everybody, cX9_everybody, 1, some (FieldType.int), RX9, 0)
set_option maxRecDepth 100000 in
theorem kX9_everybody : vm_Mok mX9_everybody := ⟨vm_inG (i := 424) (by rfl) rfl, jX9, ⟨by decide +kernel, by decide +kernel, by decide +kernel⟩, by decide +kernel, by decide +kernel, rfl⟩
def mX9_setOf : vM := (yX9_setOf, cX9_setOf, 2, some (FieldType.int), RX9, 1)
set_option maxRecDepth 100000 in
theorem kX9_setOf : vm_Mok mX9_setOf := ⟨vm_inG (i := 428) (by rfl) rfl, jX9, ⟨by decide +kernel, by decide +kernel, by decide +kernel⟩, by decide +kernel, by decide +kernel, rfl⟩
def mX9_giveSet : vM := (yX9_giveSet, cX9_giveSet, 3, none, RX9, 2)
set_option maxRecDepth 100000 in
theorem kX9_giveSet : vm_Mok mX9_giveSet := ⟨vm_inG (i := 433) (by rfl) rfl, jX9, ⟨by decide +kernel, by decide +kernel, by decide +kernel⟩, by decide +kernel, by decide +kernel, rfl⟩
def mX10_setPair : vM := (yX10_setPair, cX10_setPair, 6, some (FieldType.int), RX10, 4)
set_option maxRecDepth 100000 in
theorem kX10_setPair : vm_Mok mX10_setPair := ⟨vm_inG (i := 437) (by rfl) rfl, jX10, ⟨by decide +kernel, by decide +kernel, by decide +kernel⟩, by decide +kernel, by decide +kernel, rfl⟩
def mX10_isRelation : vM := (yX10_isRelation, cX10_isRelation, 1, some (FieldType.boolean), RX10, 1)
set_option maxRecDepth 100000 in
theorem kX10_isRelation : vm_Mok mX10_isRelation := ⟨vm_inG (i := 440) (by rfl) rfl, jX10, ⟨by decide +kernel, by decide +kernel, by decide +kernel⟩, by decide +kernel, by decide +kernel, rfl⟩
def mX10_isIndividual : vM := (yX10_isIndividual, cX10_isIndividual, 2, some (FieldType.boolean), RX10, 1)
set_option maxRecDepth 100000 in
theorem kX10_isIndividual : vm_Mok mX10_isIndividual := ⟨vm_inG (i := 444) (by rfl) rfl, jX10, ⟨by decide +kernel, by decide +kernel, by decide +kernel⟩, by decide +kernel, by decide +kernel, rfl⟩
def mX10_isSwitch : vM := (yX10_isSwitch, cX10_isSwitch, 1, some (FieldType.boolean), RX10, 1)
set_option maxRecDepth 100000 in
theorem kX10_isSwitch : vm_Mok mX10_isSwitch := ⟨vm_inG (i := 447) (by rfl) rfl, jX10, ⟨by decide +kernel, by decide +kernel, by decide +kernel⟩, by decide +kernel, by decide +kernel, rfl⟩
def mX9_hasPair : vM := (yX9_hasPair, cX9_hasPair, 4, some (FieldType.boolean), RX9, 3)
set_option maxRecDepth 100000 in
theorem kX9_hasPair : vm_Mok mX9_hasPair := ⟨vm_inG (i := 451) (by rfl) rfl, jX9, ⟨by decide +kernel, by decide +kernel, by decide +kernel⟩, by decide +kernel, by decide +kernel, rfl⟩
def mX9_putPair : vM := (yX9_putPair, cX9_putPair, 6, none, RX9, 4)
set_option maxRecDepth 100000 in
theorem kX9_putPair : vm_Mok mX9_putPair := ⟨vm_inG (i := 456) (by rfl) rfl, jX9, ⟨by decide +kernel, by decide +kernel, by decide +kernel⟩, by decide +kernel, by decide +kernel, rfl⟩
def mX10_individuals : vM := (yX10_individuals, cX10_individuals, 1, some (FieldType.int), RX10, 0)
set_option maxRecDepth 100000 in
theorem kX10_individuals : vm_Mok mX10_individuals := ⟨vm_inG (i := 460) (by rfl) rfl, jX10, ⟨by decide +kernel, by decide +kernel, by decide +kernel⟩, by decide +kernel, by decide +kernel, rfl⟩
def mX10_predicate : vM := (yX10_predicate, cX10_predicate, 2, some (FieldType.int), RX10, 1)
set_option maxRecDepth 100000 in
theorem kX10_predicate : vm_Mok mX10_predicate := ⟨vm_inG (i := 464) (by rfl) rfl, jX10, ⟨by decide +kernel, by decide +kernel, by decide +kernel⟩, by decide +kernel, by decide +kernel, rfl⟩
def mX10_relationHolds : vM := (yX10_relationHolds, cX10_relationHolds, 4, some (FieldType.int), RX10, 3)
set_option maxRecDepth 100000 in
theorem kX10_relationHolds : vm_Mok mX10_relationHolds := ⟨vm_inG (i := 468) (by rfl) rfl, jX10, ⟨by decide +kernel, by decide +kernel, by decide +kernel⟩, by decide +kernel, by decide +kernel, rfl⟩
def mX10_isObject : vM := (yX10_isObject, cX10_isObject, 2, some (FieldType.boolean), RX10, 1)
set_option maxRecDepth 100000 in
theorem kX10_isObject : vm_Mok mX10_isObject := ⟨vm_inG (i := 472) (by rfl) rfl, jX10, ⟨by decide +kernel, by decide +kernel, by decide +kernel⟩, by decide +kernel, by decide +kernel, rfl⟩
def mX9_relates : vM := (yX9_relates, cX9_relates, 7, some (FieldType.boolean), RX9, 3)
set_option maxRecDepth 100000 in
theorem kX9_relates : vm_Mok mX9_relates := ⟨vm_inG (i := 476) (by rfl) rfl, jX9, ⟨by decide +kernel, by decide +kernel, by decide +kernel⟩, by decide +kernel, by decide +kernel, rfl⟩
def mX10_type : vM := (yX10_type, cX10_type, 2, some (FieldType.int), RX10, 1)
set_option maxRecDepth 100000 in
theorem kX10_type : vm_Mok mX10_type := ⟨vm_inG (i := 480) (by rfl) rfl, jX10, ⟨by decide +kernel, by decide +kernel, by decide +kernel⟩, by decide +kernel, by decide +kernel, rfl⟩
def mX8_append : vM := (yX8_append, cX8_append, 2, some (FieldType.boolean), RX8, 1)
set_option maxRecDepth 100000 in
theorem kX8_append : vm_Mok mX8_append := ⟨vm_inG (i := 484) (by rfl) rfl, jX8, ⟨by decide +kernel, by decide +kernel, by decide +kernel⟩, by decide +kernel, by decide +kernel, rfl⟩
def mX10_clearText : vM := (yX10_clearText, cX10_clearText, 2, some (FieldType.int), RX10, 0)
set_option maxRecDepth 100000 in
theorem kX10_clearText : vm_Mok mX10_clearText := ⟨vm_inG (i := 488) (by rfl) rfl, jX10, ⟨by decide +kernel, by decide +kernel, by decide +kernel⟩, by decide +kernel, by decide +kernel, rfl⟩
def mX10_syntaxFault : vM := (yX10_syntaxFault, cX10_syntaxFault, 1, some (FieldType.int), RX10, 0)
set_option maxRecDepth 100000 in
theorem kX10_syntaxFault : vm_Mok mX10_syntaxFault := ⟨vm_inG (i := 492) (by rfl) rfl, jX10, ⟨by decide +kernel, by decide +kernel, by decide +kernel⟩, by decide +kernel, by decide +kernel, rfl⟩
def mX6_discourse : vM := (yX6_discourse, cX6_discourse, 3, some ((FieldType.object "DiscourseContexts$Node")), RX6, 0)
set_option maxRecDepth 100000 in
theorem kX6_discourse : vm_Mok mX6_discourse := ⟨vm_inG (i := 496) (by rfl) rfl, jX6, ⟨by decide +kernel, by decide +kernel, by decide +kernel⟩, by decide +kernel, by decide +kernel, rfl⟩
def mX6_part : vM := (yX6_part, cX6_part, 5, some ((FieldType.object "DiscourseContexts$Node")), RX6, 0)
set_option maxRecDepth 100000 in
theorem kX6_part : vm_Mok mX6_part := ⟨vm_inG (i := 500) (by rfl) rfl, jX6, ⟨by decide +kernel, by decide +kernel, by decide +kernel⟩, by decide +kernel, by decide +kernel, rfl⟩
def mX6_skip : vM := (yX6_skip, cX6_skip, 2, some (FieldType.boolean), RX6, 1)
set_option maxRecDepth 100000 in
theorem kX6_skip : vm_Mok mX6_skip := ⟨vm_inG (i := 504) (by rfl) rfl, jX6, ⟨by decide +kernel, by decide +kernel, by decide +kernel⟩, by decide +kernel, by decide +kernel, rfl⟩
def mX8_at : vM := (yX8_at, cX8_at, 2, some (FieldType.char), RX8, 1)
set_option maxRecDepth 100000 in
theorem kX8_at : vm_Mok mX8_at := ⟨vm_inG (i := 508) (by rfl) rfl, jX8, ⟨by decide +kernel, by decide +kernel, by decide +kernel⟩, by decide +kernel, by decide +kernel, rfl⟩
def mX6_formula : vM := (yX6_formula, cX6_formula, 3, some ((FieldType.object "DiscourseContexts$Node")), RX6, 0)
set_option maxRecDepth 100000 in
theorem kX6_formula : vm_Mok mX6_formula := ⟨vm_inG (i := 512) (by rfl) rfl, jX6, ⟨by decide +kernel, by decide +kernel, by decide +kernel⟩, by decide +kernel, by decide +kernel, rfl⟩
def mX6_choice : vM := (yX6_choice, cX6_choice, 3, some ((FieldType.object "DiscourseContexts$Node")), RX6, 0)
set_option maxRecDepth 100000 in
theorem kX6_choice : vm_Mok mX6_choice := ⟨vm_inG (i := 516) (by rfl) rfl, jX6, ⟨by decide +kernel, by decide +kernel, by decide +kernel⟩, by decide +kernel, by decide +kernel, rfl⟩
def mX6_row : vM := (yX6_row, cX6_row, 3, some ((FieldType.object "DiscourseContexts$Node")), RX6, 0)
set_option maxRecDepth 100000 in
theorem kX6_row : vm_Mok mX6_row := ⟨vm_inG (i := 520) (by rfl) rfl, jX6, ⟨by decide +kernel, by decide +kernel, by decide +kernel⟩, by decide +kernel, by decide +kernel, rfl⟩
def mX6_unit : vM := (yX6_unit, cX6_unit, 2, some ((FieldType.object "DiscourseContexts$Node")), RX6, 0)
set_option maxRecDepth 100000 in
theorem kX6_unit : vm_Mok mX6_unit := ⟨vm_inG (i := 524) (by rfl) rfl, jX6, ⟨by decide +kernel, by decide +kernel, by decide +kernel⟩, by decide +kernel, by decide +kernel, rfl⟩
def mX6_negation : vM := (yX6_negation, cX6_negation, 2, some ((FieldType.object "DiscourseContexts$Node")), RX6, 0)
set_option maxRecDepth 100000 in
theorem kX6_negation : vm_Mok mX6_negation := ⟨vm_inG (i := 528) (by rfl) rfl, jX6, ⟨by decide +kernel, by decide +kernel, by decide +kernel⟩, by decide +kernel, by decide +kernel, rfl⟩
def mX6_openSign : vM := (yX6_openSign, cX6_openSign, 1, some (FieldType.boolean), RX6, 0)
set_option maxRecDepth 100000 in
theorem kX6_openSign : vm_Mok mX6_openSign := ⟨vm_inG (i := 532) (by rfl) rfl, jX6, ⟨by decide +kernel, by decide +kernel, by decide +kernel⟩, by decide +kernel, by decide +kernel, rfl⟩
def mX6_holding : vM := (yX6_holding, cX6_holding, 3, some ((FieldType.object "DiscourseContexts$Node")), RX6, 2)
set_option maxRecDepth 100000 in
theorem kX6_holding : vm_Mok mX6_holding := ⟨vm_inG (i := 536) (by rfl) rfl, jX6, ⟨by decide +kernel, by decide +kernel, by decide +kernel⟩, by decide +kernel, by decide +kernel, rfl⟩
def mX6_taken : vM := (yX6_taken, cX6_taken, 3, some ((FieldType.object "DiscourseContexts$Node")), RX6, 1)
set_option maxRecDepth 100000 in
theorem kX6_taken : vm_Mok mX6_taken := ⟨vm_inG (i := 540) (by rfl) rfl, jX6, ⟨by decide +kernel, by decide +kernel, by decide +kernel⟩, by decide +kernel, by decide +kernel, rfl⟩
def mX6_joined : vM := (yX6_joined, cX6_joined, 3, some ((FieldType.object "DiscourseContexts$Node")), RX6, 2)
set_option maxRecDepth 100000 in
theorem kX6_joined : vm_Mok mX6_joined := ⟨vm_inG (i := 544) (by rfl) rfl, jX6, ⟨by decide +kernel, by decide +kernel, by decide +kernel⟩, by decide +kernel, by decide +kernel, rfl⟩
def mX5_add : vM := (yX5_add, cX5_add, 2, none, RX5, 1)
set_option maxRecDepth 100000 in
theorem kX5_add : vm_Mok mX5_add := ⟨vm_inG (i := 548) (by rfl) rfl, jX5, ⟨by decide +kernel, by decide +kernel, by decide +kernel⟩, by decide +kernel, by decide +kernel, rfl⟩
def mX6_group : vM := (yX6_group, cX6_group, 2, some ((FieldType.object "DiscourseContexts$Node")), RX6, 0)
set_option maxRecDepth 100000 in
theorem kX6_group : vm_Mok mX6_group := ⟨vm_inG (i := 552) (by rfl) rfl, jX6, ⟨by decide +kernel, by decide +kernel, by decide +kernel⟩, by decide +kernel, by decide +kernel, rfl⟩
def mX6_aboutOne : vM := (yX6_aboutOne, cX6_aboutOne, 4, some ((FieldType.object "DiscourseContexts$Node")), RX6, 2)
set_option maxRecDepth 100000 in
theorem kX6_aboutOne : vm_Mok mX6_aboutOne := ⟨vm_inG (i := 556) (by rfl) rfl, jX6, ⟨by decide +kernel, by decide +kernel, by decide +kernel⟩, by decide +kernel, by decide +kernel, rfl⟩
def mX6_skipVariable : vM := (yX6_skipVariable, cX6_skipVariable, 2, some (FieldType.boolean), RX6, 0)
set_option maxRecDepth 100000 in
theorem kX6_skipVariable : vm_Mok mX6_skipVariable := ⟨vm_inG (i := 560) (by rfl) rfl, jX6, ⟨by decide +kernel, by decide +kernel, by decide +kernel⟩, by decide +kernel, by decide +kernel, rfl⟩
def mX6_simple : vM := (yX6_simple, cX6_simple, 6, some ((FieldType.object "DiscourseContexts$Node")), RX6, 4)
set_option maxRecDepth 100000 in
theorem kX6_simple : vm_Mok mX6_simple := ⟨vm_inG (i := 564) (by rfl) rfl, jX6, ⟨by decide +kernel, by decide +kernel, by decide +kernel⟩, by decide +kernel, by decide +kernel, rfl⟩
def mX6_aboutTwo : vM := (yX6_aboutTwo, cX6_aboutTwo, 3, some ((FieldType.object "DiscourseContexts$Node")), RX6, 1)
set_option maxRecDepth 100000 in
theorem kX6_aboutTwo : vm_Mok mX6_aboutTwo := ⟨vm_inG (i := 568) (by rfl) rfl, jX6, ⟨by decide +kernel, by decide +kernel, by decide +kernel⟩, by decide +kernel, by decide +kernel, rfl⟩
def mX6_count : vM := (yX6_count, cX6_count, 2, some ((FieldType.object "DiscourseContexts$Node")), RX6, 1)
set_option maxRecDepth 100000 in
theorem kX6_count : vm_Mok mX6_count := ⟨vm_inG (i := 572) (by rfl) rfl, jX6, ⟨by decide +kernel, by decide +kernel, by decide +kernel⟩, by decide +kernel, by decide +kernel, rfl⟩
def mX6_comparison : vM := (yX6_comparison, cX6_comparison, 3, some ((FieldType.object "DiscourseContexts$Node")), RX6, 0)
set_option maxRecDepth 100000 in
theorem kX6_comparison : vm_Mok mX6_comparison := ⟨vm_inG (i := 576) (by rfl) rfl, jX6, ⟨by decide +kernel, by decide +kernel, by decide +kernel⟩, by decide +kernel, by decide +kernel, rfl⟩
def mX10_unknownVariable : vM := (yX10_unknownVariable, cX10_unknownVariable, 2, some (FieldType.int), RX10, 0)
set_option maxRecDepth 100000 in
theorem kX10_unknownVariable : vm_Mok mX10_unknownVariable := ⟨vm_inG (i := 580) (by rfl) rfl, jX10, ⟨by decide +kernel, by decide +kernel, by decide +kernel⟩, by decide +kernel, by decide +kernel, rfl⟩
def mX3_suffices : vM := (yX3_suffices, cX3_suffices, 3, some (FieldType.boolean), RX3, 2)
set_option maxRecDepth 100000 in
theorem kX3_suffices : vm_Mok mX3_suffices := ⟨vm_inG (i := 584) (by rfl) rfl, jX3, ⟨by decide +kernel, by decide +kernel, by decide +kernel⟩, by decide +kernel, by decide +kernel, rfl⟩
def mX3_readOver : vM := (yX3_readOver, cX3_readOver, 4, some (FieldType.int), RX3, 3)
set_option maxRecDepth 100000 in
theorem kX3_readOver : vm_Mok mX3_readOver := ⟨vm_inG (i := 588) (by rfl) rfl, jX3, ⟨by decide +kernel, by decide +kernel, by decide +kernel⟩, by decide +kernel, by decide +kernel, rfl⟩
def mX3_readChain : vM := (yX3_readChain, cX3_readChain, 6, some (FieldType.int), RX3, 3)
set_option maxRecDepth 100000 in
theorem kX3_readChain : vm_Mok mX3_readChain := ⟨vm_inG (i := 592) (by rfl) rfl, jX3, ⟨by decide +kernel, by decide +kernel, by decide +kernel⟩, by decide +kernel, by decide +kernel, rfl⟩
def mX3_readEach : vM := (yX3_readEach, cX3_readEach, 5, none, RX3, 3)
set_option maxRecDepth 100000 in
theorem kX3_readEach : vm_Mok mX3_readEach := ⟨vm_inG (i := 596) (by rfl) rfl, jX3, ⟨by decide +kernel, by decide +kernel, by decide +kernel⟩, by decide +kernel, by decide +kernel, rfl⟩
def mX3_look : vM := (yX3_look, cX3_look, 5, none, RX3, 4)
set_option maxRecDepth 100000 in
theorem kX3_look : vm_Mok mX3_look := ⟨vm_inG (i := 600) (by rfl) rfl, jX3, ⟨by decide +kernel, by decide +kernel, by decide +kernel⟩, by decide +kernel, by decide +kernel, rfl⟩
def mX10_unknownDepth : vM := (yX10_unknownDepth, cX10_unknownDepth, 2, some (FieldType.int), RX10, 0)
set_option maxRecDepth 100000 in
theorem kX10_unknownDepth : vm_Mok mX10_unknownDepth := ⟨vm_inG (i := 604) (by rfl) rfl, jX10, ⟨by decide +kernel, by decide +kernel, by decide +kernel⟩, by decide +kernel, by decide +kernel, rfl⟩
def mX10_partCount : vM := (yX10_partCount, cX10_partCount, 4, some (FieldType.int), RX10, 0)
set_option maxRecDepth 100000 in
theorem kX10_partCount : vm_Mok mX10_partCount := ⟨vm_inG (i := 608) (by rfl) rfl, jX10, ⟨by decide +kernel, by decide +kernel, by decide +kernel⟩, by decide +kernel, by decide +kernel, rfl⟩
def mX10_contextSize : vM := (yX10_contextSize, cX10_contextSize, 1, some (FieldType.int), RX10, 0)
set_option maxRecDepth 100000 in
theorem kX10_contextSize : vm_Mok mX10_contextSize := ⟨vm_inG (i := 612) (by rfl) rfl, jX10, ⟨by decide +kernel, by decide +kernel, by decide +kernel⟩, by decide +kernel, by decide +kernel, rfl⟩
def mX1_size : vM := (yX1_size, cX1_size, 3, some (FieldType.int), RX1, 0)
set_option maxRecDepth 100000 in
theorem kX1_size : vm_Mok mX1_size := ⟨vm_inG (i := 616) (by rfl) rfl, jX1, ⟨by decide +kernel, by decide +kernel, by decide +kernel⟩, by decide +kernel, by decide +kernel, rfl⟩
def mJ13_bitCount_95d88 : vM := (yJ13_bitCount_95d88, cJ13_bitCount_95d88, 2, some (FieldType.int), RJ13, 1)
set_option maxRecDepth 100000 in
theorem kJ13_bitCount_95d88 : vm_Mok mJ13_bitCount_95d88 := ⟨vm_inG (i := 619) (by rfl) rfl, jJ13, ⟨by decide +kernel, by decide +kernel, by decide +kernel⟩, by decide +kernel, by decide +kernel, rfl⟩
def mX10_known : vM := (yX10_known, cX10_known, 1, some (FieldType.int), RX10, 0)
set_option maxRecDepth 100000 in
theorem kX10_known : vm_Mok mX10_known := ⟨vm_inG (i := 626) (by rfl) rfl, jX10, ⟨by decide +kernel, by decide +kernel, by decide +kernel⟩, by decide +kernel, by decide +kernel, rfl⟩
def mX10_objects : vM := (yX10_objects, cX10_objects, 2, some (FieldType.int), RX10, 1)
set_option maxRecDepth 100000 in
theorem kX10_objects : vm_Mok mX10_objects := ⟨vm_inG (i := 630) (by rfl) rfl, jX10, ⟨by decide +kernel, by decide +kernel, by decide +kernel⟩, by decide +kernel, by decide +kernel, rfl⟩
def mX10_isVariable : vM := (yX10_isVariable, cX10_isVariable, 1, some (FieldType.boolean), RX10, 1)
set_option maxRecDepth 100000 in
theorem kX10_isVariable : vm_Mok mX10_isVariable := ⟨vm_inG (i := 633) (by rfl) rfl, jX10, ⟨by decide +kernel, by decide +kernel, by decide +kernel⟩, by decide +kernel, by decide +kernel, rfl⟩
def mX7_knows : vM := (yX7_knows, cX7_knows, 2, some (FieldType.boolean), RX7, 1)
set_option maxRecDepth 100000 in
theorem kX7_knows : vm_Mok mX7_knows := ⟨vm_inG (i := 637) (by rfl) rfl, jX7, ⟨by decide +kernel, by decide +kernel, by decide +kernel⟩, by decide +kernel, by decide +kernel, rfl⟩
def mX1_valuesOf : vM := (yX1_valuesOf, cX1_valuesOf, 4, some (FieldType.int), RX1, 1)
set_option maxRecDepth 100000 in
theorem kX1_valuesOf : vm_Mok mX1_valuesOf := ⟨vm_inG (i := 641) (by rfl) rfl, jX1, ⟨by decide +kernel, by decide +kernel, by decide +kernel⟩, by decide +kernel, by decide +kernel, rfl⟩
def mX1_countOf : vM := (yX1_countOf, cX1_countOf, 7, some (FieldType.int), RX1, 4)
set_option maxRecDepth 100000 in
theorem kX1_countOf : vm_Mok mX1_countOf := ⟨vm_inG (i := 645) (by rfl) rfl, jX1, ⟨by decide +kernel, by decide +kernel, by decide +kernel⟩, by decide +kernel, by decide +kernel, rfl⟩
def mX1_mask : vM := (yX1_mask, cX1_mask, 3, some (FieldType.long), RX1, 3)
set_option maxRecDepth 100000 in
theorem kX1_mask : vm_Mok mX1_mask := ⟨vm_inG (i := 648) (by rfl) rfl, jX1, ⟨by decide +kernel, by decide +kernel, by decide +kernel⟩, by decide +kernel, by decide +kernel, rfl⟩
def mX10_together : vM := (yX10_together, cX10_together, 5, some (FieldType.int), RX10, 4)
set_option maxRecDepth 100000 in
theorem kX10_together : vm_Mok mX10_together := ⟨vm_inG (i := 656) (by rfl) rfl, jX10, ⟨by decide +kernel, by decide +kernel, by decide +kernel⟩, by decide +kernel, by decide +kernel, rfl⟩
def mX10_resetContext : vM := (yX10_resetContext, cX10_resetContext, 2, some (FieldType.int), RX10, 0)
set_option maxRecDepth 100000 in
theorem kX10_resetContext : vm_Mok mX10_resetContext := ⟨vm_inG (i := 661) (by rfl) rfl, jX10, ⟨by decide +kernel, by decide +kernel, by decide +kernel⟩, by decide +kernel, by decide +kernel, rfl⟩
def mX10_setAccommodation : vM := (yX10_setAccommodation, cX10_setAccommodation, 3, some (FieldType.int), RX10, 1)
set_option maxRecDepth 100000 in
theorem kX10_setAccommodation : vm_Mok mX10_setAccommodation := ⟨vm_inG (i := 665) (by rfl) rfl, jX10, ⟨by decide +kernel, by decide +kernel, by decide +kernel⟩, by decide +kernel, by decide +kernel, rfl⟩
def mX10_accept : vM := (yX10_accept, cX10_accept, 2, some (FieldType.int), RX10, 0)
set_option maxRecDepth 100000 in
theorem kX10_accept : vm_Mok mX10_accept := ⟨vm_inG (i := 669) (by rfl) rfl, jX10, ⟨by decide +kernel, by decide +kernel, by decide +kernel⟩, by decide +kernel, by decide +kernel, rfl⟩
def mX10_tryAccepting : vM := (yX10_tryAccepting, cX10_tryAccepting, 2, some (FieldType.int), RX10, 1)
set_option maxRecDepth 100000 in
theorem kX10_tryAccepting : vm_Mok mX10_tryAccepting := ⟨vm_inG (i := 673) (by rfl) rfl, jX10, ⟨by decide +kernel, by decide +kernel, by decide +kernel⟩, by decide +kernel, by decide +kernel, rfl⟩
def mX0_succeeds : vM := (yX0_succeeds, cX0_succeeds, 6, some (FieldType.boolean), RX0, 2)
set_option maxRecDepth 100000 in
theorem kX0_succeeds : vm_Mok mX0_succeeds := ⟨vm_inG (i := 677) (by rfl) rfl, jX0, ⟨by decide +kernel, by decide +kernel, by decide +kernel⟩, by decide +kernel, by decide +kernel, rfl⟩
def mX4_findSupporting : vM := (yX4_findSupporting, cX4_findSupporting, 3, none, RX4, 2)
set_option maxRecDepth 100000 in
theorem kX4_findSupporting : vm_Mok mX4_findSupporting := ⟨vm_inG (i := 682) (by rfl) rfl, jX4, ⟨by decide +kernel, by decide +kernel, by decide +kernel⟩, by decide +kernel, by decide +kernel, rfl⟩
def mX4_turn : vM := (yX4_turn, cX4_turn, 4, none, RX4, 3)
set_option maxRecDepth 100000 in
theorem kX4_turn : vm_Mok mX4_turn := ⟨vm_inG (i := 688) (by rfl) rfl, jX4, ⟨by decide +kernel, by decide +kernel, by decide +kernel⟩, by decide +kernel, by decide +kernel, rfl⟩
def mX4_turnByChain : vM := (yX4_turnByChain, cX4_turnByChain, 5, none, RX4, 3)
set_option maxRecDepth 100000 in
theorem kX4_turnByChain : vm_Mok mX4_turnByChain := ⟨vm_inG (i := 692) (by rfl) rfl, jX4, ⟨by decide +kernel, by decide +kernel, by decide +kernel⟩, by decide +kernel, by decide +kernel, rfl⟩
def mX4_turnBySome : vM := (yX4_turnBySome, cX4_turnBySome, 7, none, RX4, 3)
set_option maxRecDepth 100000 in
theorem kX4_turnBySome : vm_Mok mX4_turnBySome := ⟨vm_inG (i := 696) (by rfl) rfl, jX4, ⟨by decide +kernel, by decide +kernel, by decide +kernel⟩, by decide +kernel, by decide +kernel, rfl⟩
def mX1_vary : vM := (yX1_vary, cX1_vary, 8, none, RX1, 3)
set_option maxRecDepth 100000 in
theorem kX1_vary : vm_Mok mX1_vary := ⟨vm_inG (i := 701) (by rfl) rfl, jX1, ⟨by decide +kernel, by decide +kernel, by decide +kernel⟩, by decide +kernel, by decide +kernel, rfl⟩
def mX1_varyWords : vM := (yX1_varyWords, cX1_varyWords, 6, none, RX1, 2)
set_option maxRecDepth 100000 in
theorem kX1_varyWords : vm_Mok mX1_varyWords := ⟨vm_inG (i := 705) (by rfl) rfl, jX1, ⟨by decide +kernel, by decide +kernel, by decide +kernel⟩, by decide +kernel, by decide +kernel, rfl⟩
def mX1_varied : vM := (yX1_varied, cX1_varied, 12, some (FieldType.long), RX1, 5)
set_option maxRecDepth 100000 in
theorem kX1_varied : vm_Mok mX1_varied := ⟨vm_inG (i := 708) (by rfl) rfl, jX1, ⟨by decide +kernel, by decide +kernel, by decide +kernel⟩, by decide +kernel, by decide +kernel, rfl⟩
def mX1_remove : vM := (yX1_remove, cX1_remove, 3, none, RX1, 1)
set_option maxRecDepth 100000 in
theorem kX1_remove : vm_Mok mX1_remove := ⟨vm_inG (i := 713) (by rfl) rfl, jX1, ⟨by decide +kernel, by decide +kernel, by decide +kernel⟩, by decide +kernel, by decide +kernel, rfl⟩
def mX4_keepByChoice : vM := (yX4_keepByChoice, cX4_keepByChoice, 4, none, RX4, 2)
set_option maxRecDepth 100000 in
theorem kX4_keepByChoice : vm_Mok mX4_keepByChoice := ⟨vm_inG (i := 717) (by rfl) rfl, jX4, ⟨by decide +kernel, by decide +kernel, by decide +kernel⟩, by decide +kernel, by decide +kernel, rfl⟩
def mX1_unite : vM := (yX1_unite, cX1_unite, 3, none, RX1, 1)
set_option maxRecDepth 100000 in
theorem kX1_unite : vm_Mok mX1_unite := ⟨vm_inG (i := 721) (by rfl) rfl, jX1, ⟨by decide +kernel, by decide +kernel, by decide +kernel⟩, by decide +kernel, by decide +kernel, rfl⟩
def mX1_keep : vM := (yX1_keep, cX1_keep, 3, none, RX1, 1)
set_option maxRecDepth 100000 in
theorem kX1_keep : vm_Mok mX1_keep := ⟨vm_inG (i := 725) (by rfl) rfl, jX1, ⟨by decide +kernel, by decide +kernel, by decide +kernel⟩, by decide +kernel, by decide +kernel, rfl⟩
def mX4_keepByCondition : vM := (yX4_keepByCondition, cX4_keepByCondition, 4, none, RX4, 2)
set_option maxRecDepth 100000 in
theorem kX4_keepByCondition : vm_Mok mX4_keepByCondition := ⟨vm_inG (i := 729) (by rfl) rfl, jX4, ⟨by decide +kernel, by decide +kernel, by decide +kernel⟩, by decide +kernel, by decide +kernel, rfl⟩
def mX1_complement : vM := (yX1_complement, cX1_complement, 2, none, RX1, 0)
set_option maxRecDepth 100000 in
theorem kX1_complement : vm_Mok mX1_complement := ⟨vm_inG (i := 733) (by rfl) rfl, jX1, ⟨by decide +kernel, by decide +kernel, by decide +kernel⟩, by decide +kernel, by decide +kernel, rfl⟩
def mX4_keepByOne : vM := (yX4_keepByOne, cX4_keepByOne, 6, none, RX4, 2)
set_option maxRecDepth 100000 in
theorem kX4_keepByOne : vm_Mok mX4_keepByOne := ⟨vm_inG (i := 737) (by rfl) rfl, jX4, ⟨by decide +kernel, by decide +kernel, by decide +kernel⟩, by decide +kernel, by decide +kernel, rfl⟩
def mX4_holds : vM := (yX4_holds, cX4_holds, 4, some (FieldType.boolean), RX4, 3)
set_option maxRecDepth 100000 in
theorem kX4_holds : vm_Mok mX4_holds := ⟨vm_inG (i := 741) (by rfl) rfl, jX4, ⟨by decide +kernel, by decide +kernel, by decide +kernel⟩, by decide +kernel, by decide +kernel, rfl⟩
def mJ6_bitCount_0f7a4 : vM := (yJ6_bitCount_0f7a4, cJ6_bitCount_0f7a4, 1, some (FieldType.int), RJ6, 1)
set_option maxRecDepth 100000 in
theorem kJ6_bitCount_0f7a4 : vm_Mok mJ6_bitCount_0f7a4 := ⟨vm_inG (i := 746) (by rfl) rfl, jJ6, ⟨by decide +kernel, by decide +kernel, by decide +kernel⟩, by decide +kernel, by decide +kernel, rfl⟩
def mX1_keepValues : vM := (yX1_keepValues, cX1_keepValues, 4, none, RX1, 2)
set_option maxRecDepth 100000 in
theorem kX1_keepValues : vm_Mok mX1_keepValues := ⟨vm_inG (i := 753) (by rfl) rfl, jX1, ⟨by decide +kernel, by decide +kernel, by decide +kernel⟩, by decide +kernel, by decide +kernel, rfl⟩
def mX4_keepByTwo : vM := (yX4_keepByTwo, cX4_keepByTwo, 7, none, RX4, 2)
set_option maxRecDepth 100000 in
theorem kX4_keepByTwo : vm_Mok mX4_keepByTwo := ⟨vm_inG (i := 757) (by rfl) rfl, jX4, ⟨by decide +kernel, by decide +kernel, by decide +kernel⟩, by decide +kernel, by decide +kernel, rfl⟩
def mX1_keepPartners : vM := (yX1_keepPartners, cX1_keepPartners, 6, none, RX1, 4)
set_option maxRecDepth 100000 in
theorem kX1_keepPartners : vm_Mok mX1_keepPartners := ⟨vm_inG (i := 761) (by rfl) rfl, jX1, ⟨by decide +kernel, by decide +kernel, by decide +kernel⟩, by decide +kernel, by decide +kernel, rfl⟩
def mX1_isWithin : vM := (yX1_isWithin, cX1_isWithin, 3, some (FieldType.boolean), RX1, 1)
set_option maxRecDepth 100000 in
theorem kX1_isWithin : vm_Mok mX1_isWithin := ⟨vm_inG (i := 765) (by rfl) rfl, jX1, ⟨by decide +kernel, by decide +kernel, by decide +kernel⟩, by decide +kernel, by decide +kernel, rfl⟩
def mX1_isEmpty : vM := (yX1_isEmpty, cX1_isEmpty, 1, some (FieldType.boolean), RX1, 0)
set_option maxRecDepth 100000 in
theorem kX1_isEmpty : vm_Mok mX1_isEmpty := ⟨vm_inG (i := 770) (by rfl) rfl, jX1, ⟨by decide +kernel, by decide +kernel, by decide +kernel⟩, by decide +kernel, by decide +kernel, rfl⟩
def mX10_acceptable : vM := (yX10_acceptable, cX10_acceptable, 1, some (FieldType.int), RX10, 0)
set_option maxRecDepth 100000 in
theorem kX10_acceptable : vm_Mok mX10_acceptable := ⟨vm_inG (i := 776) (by rfl) rfl, jX10, ⟨by decide +kernel, by decide +kernel, by decide +kernel⟩, by decide +kernel, by decide +kernel, rfl⟩
def mX10_failingAt : vM := (yX10_failingAt, cX10_failingAt, 2, some (FieldType.int), RX10, 0)
set_option maxRecDepth 100000 in
theorem kX10_failingAt : vm_Mok mX10_failingAt := ⟨vm_inG (i := 780) (by rfl) rfl, jX10, ⟨by decide +kernel, by decide +kernel, by decide +kernel⟩, by decide +kernel, by decide +kernel, rfl⟩
def mX10_accommodated : vM := (yX10_accommodated, cX10_accommodated, 1, some (FieldType.int), RX10, 0)
set_option maxRecDepth 100000 in
theorem kX10_accommodated : vm_Mok mX10_accommodated := ⟨vm_inG (i := 784) (by rfl) rfl, jX10, ⟨by decide +kernel, by decide +kernel, by decide +kernel⟩, by decide +kernel, by decide +kernel, rfl⟩
def mX10_accommodatedPart : vM := (yX10_accommodatedPart, cX10_accommodatedPart, 4, some (FieldType.int), RX10, 1)
set_option maxRecDepth 100000 in
theorem kX10_accommodatedPart : vm_Mok mX10_accommodatedPart := ⟨vm_inG (i := 789) (by rfl) rfl, jX10, ⟨by decide +kernel, by decide +kernel, by decide +kernel⟩, by decide +kernel, by decide +kernel, rfl⟩
def mX10_sizeBehind : vM := (yX10_sizeBehind, cX10_sizeBehind, 5, some (FieldType.int), RX10, 1)
set_option maxRecDepth 100000 in
theorem kX10_sizeBehind : vm_Mok mX10_sizeBehind := ⟨vm_inG (i := 793) (by rfl) rfl, jX10, ⟨by decide +kernel, by decide +kernel, by decide +kernel⟩, by decide +kernel, by decide +kernel, rfl⟩
def mX10_supports : vM := (yX10_supports, cX10_supports, 2, some (FieldType.int), RX10, 0)
set_option maxRecDepth 100000 in
theorem kX10_supports : vm_Mok mX10_supports := ⟨vm_inG (i := 798) (by rfl) rfl, jX10, ⟨by decide +kernel, by decide +kernel, by decide +kernel⟩, by decide +kernel, by decide +kernel, rfl⟩
def mX10_worldsTrue : vM := (yX10_worldsTrue, cX10_worldsTrue, 6, some (FieldType.int), RX10, 0)
set_option maxRecDepth 100000 in
theorem kX10_worldsTrue : vm_Mok mX10_worldsTrue := ⟨vm_inG (i := 804) (by rfl) rfl, jX10, ⟨by decide +kernel, by decide +kernel, by decide +kernel⟩, by decide +kernel, by decide +kernel, rfl⟩
def mX10_isTrueInOtherWorld : vM := (yX10_isTrueInOtherWorld, cX10_isTrueInOtherWorld, 2, some (FieldType.boolean), RX10, 1)
set_option maxRecDepth 100000 in
theorem kX10_isTrueInOtherWorld : vm_Mok mX10_isTrueInOtherWorld := ⟨vm_inG (i := 809) (by rfl) rfl, jX10, ⟨by decide +kernel, by decide +kernel, by decide +kernel⟩, by decide +kernel, by decide +kernel, rfl⟩
def mX10_historySize : vM := (yX10_historySize, cX10_historySize, 1, some (FieldType.int), RX10, 0)
set_option maxRecDepth 100000 in
theorem kX10_historySize : vm_Mok mX10_historySize := ⟨vm_inG (i := 815) (by rfl) rfl, jX10, ⟨by decide +kernel, by decide +kernel, by decide +kernel⟩, by decide +kernel, by decide +kernel, rfl⟩
def mX10_undo : vM := (yX10_undo, cX10_undo, 1, some (FieldType.int), RX10, 0)
set_option maxRecDepth 100000 in
theorem kX10_undo : vm_Mok mX10_undo := ⟨vm_inG (i := 819) (by rfl) rfl, jX10, ⟨by decide +kernel, by decide +kernel, by decide +kernel⟩, by decide +kernel, by decide +kernel, rfl⟩
def mX2_restore : vM := (yX2_restore, cX2_restore, 3, some (FieldType.boolean), RX2, 1)
set_option maxRecDepth 100000 in
theorem kX2_restore : vm_Mok mX2_restore := ⟨vm_inG (i := 823) (by rfl) rfl, jX2, ⟨by decide +kernel, by decide +kernel, by decide +kernel⟩, by decide +kernel, by decide +kernel, rfl⟩
def mX11_init : vM := (yX11_init, cX11_init, 1, none, RX11, 0)
set_option maxRecDepth 100000 in
theorem kX11_init : vm_Mok mX11_init := ⟨vm_inG (i := 828) (by rfl) rfl, jX11, ⟨by decide +kernel, by decide +kernel, by decide +kernel⟩, by decide +kernel, by decide +kernel, rfl⟩
def mX11_setIndividuals : vM := (yX11_setIndividuals, cX11_setIndividuals, 4, some (FieldType.int), RX11, 1)
set_option maxRecDepth 100000 in
theorem kX11_setIndividuals : vm_Mok mX11_setIndividuals := ⟨vm_inG (i := 922) (by rfl) rfl, jX11, ⟨by decide +kernel, by decide +kernel, by decide +kernel⟩, by decide +kernel, by decide +kernel, rfl⟩
def mX11_in : vM := (yX11_in, cX11_in, 3, some (FieldType.boolean), RX11, 3)
set_option maxRecDepth 100000 in
theorem kX11_in : vm_Mok mX11_in := ⟨vm_inG (i := 925) (by rfl) rfl, jX11, ⟨by decide +kernel, by decide +kernel, by decide +kernel⟩, by decide +kernel, by decide +kernel, rfl⟩
def mX11_acts : vM := (yX11_acts, cX11_acts, 2, none, RX11, 0)
set_option maxRecDepth 100000 in
theorem kX11_acts : vm_Mok mX11_acts := ⟨vm_inG (i := 929) (by rfl) rfl, jX11, ⟨by decide +kernel, by decide +kernel, by decide +kernel⟩, by decide +kernel, by decide +kernel, rfl⟩
def mX11_first : vM := (yX11_first, cX11_first, 2, none, RX11, 0)
set_option maxRecDepth 100000 in
theorem kX11_first : vm_Mok mX11_first := ⟨vm_inG (i := 933) (by rfl) rfl, jX11, ⟨by decide +kernel, by decide +kernel, by decide +kernel⟩, by decide +kernel, by decide +kernel, rfl⟩
def mX11_setPredicate : vM := (yX11_setPredicate, cX11_setPredicate, 4, some (FieldType.int), RX11, 2)
set_option maxRecDepth 100000 in
theorem kX11_setPredicate : vm_Mok mX11_setPredicate := ⟨vm_inG (i := 937) (by rfl) rfl, jX11, ⟨by decide +kernel, by decide +kernel, by decide +kernel⟩, by decide +kernel, by decide +kernel, rfl⟩
def mX11_full : vM := (yX11_full, cX11_full, 1, some (FieldType.int), RX11, 0)
set_option maxRecDepth 100000 in
theorem kX11_full : vm_Mok mX11_full := ⟨vm_inG (i := 941) (by rfl) rfl, jX11, ⟨by decide +kernel, by decide +kernel, by decide +kernel⟩, by decide +kernel, by decide +kernel, rfl⟩
def mX11_setPair : vM := (yX11_setPair, cX11_setPair, 7, some (FieldType.int), RX11, 4)
set_option maxRecDepth 100000 in
theorem kX11_setPair : vm_Mok mX11_setPair := ⟨vm_inG (i := 945) (by rfl) rfl, jX11, ⟨by decide +kernel, by decide +kernel, by decide +kernel⟩, by decide +kernel, by decide +kernel, rfl⟩
def mX11_individuals : vM := (yX11_individuals, cX11_individuals, 1, some (FieldType.int), RX11, 0)
set_option maxRecDepth 100000 in
theorem kX11_individuals : vm_Mok mX11_individuals := ⟨vm_inG (i := 949) (by rfl) rfl, jX11, ⟨by decide +kernel, by decide +kernel, by decide +kernel⟩, by decide +kernel, by decide +kernel, rfl⟩
def mX11_predicate : vM := (yX11_predicate, cX11_predicate, 2, some (FieldType.int), RX11, 1)
set_option maxRecDepth 100000 in
theorem kX11_predicate : vm_Mok mX11_predicate := ⟨vm_inG (i := 953) (by rfl) rfl, jX11, ⟨by decide +kernel, by decide +kernel, by decide +kernel⟩, by decide +kernel, by decide +kernel, rfl⟩
def mX11_relationHolds : vM := (yX11_relationHolds, cX11_relationHolds, 4, some (FieldType.int), RX11, 3)
set_option maxRecDepth 100000 in
theorem kX11_relationHolds : vm_Mok mX11_relationHolds := ⟨vm_inG (i := 957) (by rfl) rfl, jX11, ⟨by decide +kernel, by decide +kernel, by decide +kernel⟩, by decide +kernel, by decide +kernel, rfl⟩
def mX11_isObject : vM := (yX11_isObject, cX11_isObject, 2, some (FieldType.boolean), RX11, 1)
set_option maxRecDepth 100000 in
theorem kX11_isObject : vm_Mok mX11_isObject := ⟨vm_inG (i := 961) (by rfl) rfl, jX11, ⟨by decide +kernel, by decide +kernel, by decide +kernel⟩, by decide +kernel, by decide +kernel, rfl⟩
def mX11_holds : vM := (yX11_holds, cX11_holds, 10, some (FieldType.boolean), RX11, 3)
set_option maxRecDepth 100000 in
theorem kX11_holds : vm_Mok mX11_holds := ⟨vm_inG (i := 965) (by rfl) rfl, jX11, ⟨by decide +kernel, by decide +kernel, by decide +kernel⟩, by decide +kernel, by decide +kernel, rfl⟩
def mX11_type : vM := (yX11_type, cX11_type, 2, some (FieldType.int), RX11, 1)
set_option maxRecDepth 100000 in
theorem kX11_type : vm_Mok mX11_type := ⟨vm_inG (i := 969) (by rfl) rfl, jX11, ⟨by decide +kernel, by decide +kernel, by decide +kernel⟩, by decide +kernel, by decide +kernel, rfl⟩
def mX11_clearText : vM := (yX11_clearText, cX11_clearText, 2, some (FieldType.int), RX11, 0)
set_option maxRecDepth 100000 in
theorem kX11_clearText : vm_Mok mX11_clearText := ⟨vm_inG (i := 973) (by rfl) rfl, jX11, ⟨by decide +kernel, by decide +kernel, by decide +kernel⟩, by decide +kernel, by decide +kernel, rfl⟩
def mX11_syntaxFault : vM := (yX11_syntaxFault, cX11_syntaxFault, 1, some (FieldType.int), RX11, 0)
set_option maxRecDepth 100000 in
theorem kX11_syntaxFault : vm_Mok mX11_syntaxFault := ⟨vm_inG (i := 977) (by rfl) rfl, jX11, ⟨by decide +kernel, by decide +kernel, by decide +kernel⟩, by decide +kernel, by decide +kernel, rfl⟩
def mX11_reads : vM := (yX11_reads, cX11_reads, 6, some (FieldType.boolean), RX11, 2)
set_option maxRecDepth 100000 in
theorem kX11_reads : vm_Mok mX11_reads := ⟨vm_inG (i := 981) (by rfl) rfl, jX11, ⟨by decide +kernel, by decide +kernel, by decide +kernel⟩, by decide +kernel, by decide +kernel, rfl⟩
def mX11_next : vM := (yX11_next, cX11_next, 1, some (FieldType.int), RX11, 0)
set_option maxRecDepth 100000 in
theorem kX11_next : vm_Mok mX11_next := ⟨vm_inG (i := 985) (by rfl) rfl, jX11, ⟨by decide +kernel, by decide +kernel, by decide +kernel⟩, by decide +kernel, by decide +kernel, rfl⟩
def mX11_opens : vM := (yX11_opens, cX11_opens, 2, none, RX11, 1)
set_option maxRecDepth 100000 in
theorem kX11_opens : vm_Mok mX11_opens := ⟨vm_inG (i := 989) (by rfl) rfl, jX11, ⟨by decide +kernel, by decide +kernel, by decide +kernel⟩, by decide +kernel, by decide +kernel, rfl⟩
def mX11_readsFormula : vM := (yX11_readsFormula, cX11_readsFormula, 3, some (FieldType.boolean), RX11, 0)
set_option maxRecDepth 100000 in
theorem kX11_readsFormula : vm_Mok mX11_readsFormula := ⟨vm_inG (i := 993) (by rfl) rfl, jX11, ⟨by decide +kernel, by decide +kernel, by decide +kernel⟩, by decide +kernel, by decide +kernel, rfl⟩
def mX11_readsUnit : vM := (yX11_readsUnit, cX11_readsUnit, 4, some (FieldType.boolean), RX11, 0)
set_option maxRecDepth 100000 in
theorem kX11_readsUnit : vm_Mok mX11_readsUnit := ⟨vm_inG (i := 997) (by rfl) rfl, jX11, ⟨by decide +kernel, by decide +kernel, by decide +kernel⟩, by decide +kernel, by decide +kernel, rfl⟩
def mX11_variable : vM := (yX11_variable, cX11_variable, 3, some (FieldType.int), RX11, 1)
set_option maxRecDepth 100000 in
theorem kX11_variable : vm_Mok mX11_variable := ⟨vm_inG (i := 1001) (by rfl) rfl, jX11, ⟨by decide +kernel, by decide +kernel, by decide +kernel⟩, by decide +kernel, by decide +kernel, rfl⟩
def mX11_finds : vM := (yX11_finds, cX11_finds, 4, none, RX11, 1)
set_option maxRecDepth 100000 in
theorem kX11_finds : vm_Mok mX11_finds := ⟨vm_inG (i := 1005) (by rfl) rfl, jX11, ⟨by decide +kernel, by decide +kernel, by decide +kernel⟩, by decide +kernel, by decide +kernel, rfl⟩
def mX11_pushes : vM := (yX11_pushes, cX11_pushes, 2, none, RX11, 1)
set_option maxRecDepth 100000 in
theorem kX11_pushes : vm_Mok mX11_pushes := ⟨vm_inG (i := 1009) (by rfl) rfl, jX11, ⟨by decide +kernel, by decide +kernel, by decide +kernel⟩, by decide +kernel, by decide +kernel, rfl⟩
def mX11_tests : vM := (yX11_tests, cX11_tests, 5, some (FieldType.boolean), RX11, 3)
set_option maxRecDepth 100000 in
theorem kX11_tests : vm_Mok mX11_tests := ⟨vm_inG (i := 1013) (by rfl) rfl, jX11, ⟨by decide +kernel, by decide +kernel, by decide +kernel⟩, by decide +kernel, by decide +kernel, rfl⟩
def mX11_of : vM := (yX11_of, cX11_of, 2, some (FieldType.int), RX11, 2)
set_option maxRecDepth 100000 in
theorem kX11_of : vm_Mok mX11_of := ⟨vm_inG (i := 1016) (by rfl) rfl, jX11, ⟨by decide +kernel, by decide +kernel, by decide +kernel⟩, by decide +kernel, by decide +kernel, rfl⟩
def mX11_isSo : vM := (yX11_isSo, cX11_isSo, 4, some (FieldType.boolean), RX11, 3)
set_option maxRecDepth 100000 in
theorem kX11_isSo : vm_Mok mX11_isSo := ⟨vm_inG (i := 1020) (by rfl) rfl, jX11, ⟨by decide +kernel, by decide +kernel, by decide +kernel⟩, by decide +kernel, by decide +kernel, rfl⟩
def mX11_ones : vM := (yX11_ones, cX11_ones, 1, some (FieldType.int), RX11, 1)
set_option maxRecDepth 100000 in
theorem kX11_ones : vm_Mok mX11_ones := ⟨vm_inG (i := 1023) (by rfl) rfl, jX11, ⟨by decide +kernel, by decide +kernel, by decide +kernel⟩, by decide +kernel, by decide +kernel, rfl⟩
def mX11_pushesTest : vM := (yX11_pushesTest, cX11_pushesTest, 3, none, RX11, 1)
set_option maxRecDepth 100000 in
theorem kX11_pushesTest : vm_Mok mX11_pushesTest := ⟨vm_inG (i := 1027) (by rfl) rfl, jX11, ⟨by decide +kernel, by decide +kernel, by decide +kernel⟩, by decide +kernel, by decide +kernel, rfl⟩
def mX11_endsUnit : vM := (yX11_endsUnit, cX11_endsUnit, 1, none, RX11, 0)
set_option maxRecDepth 100000 in
theorem kX11_endsUnit : vm_Mok mX11_endsUnit := ⟨vm_inG (i := 1031) (by rfl) rfl, jX11, ⟨by decide +kernel, by decide +kernel, by decide +kernel⟩, by decide +kernel, by decide +kernel, rfl⟩
def mX11_hasResults : vM := (yX11_hasResults, cX11_hasResults, 3, none, RX11, 1)
set_option maxRecDepth 100000 in
theorem kX11_hasResults : vm_Mok mX11_hasResults := ⟨vm_inG (i := 1035) (by rfl) rfl, jX11, ⟨by decide +kernel, by decide +kernel, by decide +kernel⟩, by decide +kernel, by decide +kernel, rfl⟩
def mX11_leads : vM := (yX11_leads, cX11_leads, 6, none, RX11, 1)
set_option maxRecDepth 100000 in
theorem kX11_leads : vm_Mok mX11_leads := ⟨vm_inG (i := 1039) (by rfl) rfl, jX11, ⟨by decide +kernel, by decide +kernel, by decide +kernel⟩, by decide +kernel, by decide +kernel, rfl⟩
def mX11_endsRow : vM := (yX11_endsRow, cX11_endsRow, 2, none, RX11, 0)
set_option maxRecDepth 100000 in
theorem kX11_endsRow : vm_Mok mX11_endsRow := ⟨vm_inG (i := 1043) (by rfl) rfl, jX11, ⟨by decide +kernel, by decide +kernel, by decide +kernel⟩, by decide +kernel, by decide +kernel, rfl⟩
def mX11_endsChoice : vM := (yX11_endsChoice, cX11_endsChoice, 2, none, RX11, 0)
set_option maxRecDepth 100000 in
theorem kX11_endsChoice : vm_Mok mX11_endsChoice := ⟨vm_inG (i := 1047) (by rfl) rfl, jX11, ⟨by decide +kernel, by decide +kernel, by decide +kernel⟩, by decide +kernel, by decide +kernel, rfl⟩
def mX11_under : vM := (yX11_under, cX11_under, 2, some (FieldType.int), RX11, 0)
set_option maxRecDepth 100000 in
theorem kX11_under : vm_Mok mX11_under := ⟨vm_inG (i := 1051) (by rfl) rfl, jX11, ⟨by decide +kernel, by decide +kernel, by decide +kernel⟩, by decide +kernel, by decide +kernel, rfl⟩
def mX11_endsFormula : vM := (yX11_endsFormula, cX11_endsFormula, 2, none, RX11, 0)
set_option maxRecDepth 100000 in
theorem kX11_endsFormula : vm_Mok mX11_endsFormula := ⟨vm_inG (i := 1055) (by rfl) rfl, jX11, ⟨by decide +kernel, by decide +kernel, by decide +kernel⟩, by decide +kernel, by decide +kernel, rfl⟩
def mX11_takes : vM := (yX11_takes, cX11_takes, 6, some (FieldType.boolean), RX11, 3)
set_option maxRecDepth 100000 in
theorem kX11_takes : vm_Mok mX11_takes := ⟨vm_inG (i := 1059) (by rfl) rfl, jX11, ⟨by decide +kernel, by decide +kernel, by decide +kernel⟩, by decide +kernel, by decide +kernel, rfl⟩
def mX11_isSupported : vM := (yX11_isSupported, cX11_isSupported, 4, some (FieldType.boolean), RX11, 1)
set_option maxRecDepth 100000 in
theorem kX11_isSupported : vm_Mok mX11_isSupported := ⟨vm_inG (i := 1063) (by rfl) rfl, jX11, ⟨by decide +kernel, by decide +kernel, by decide +kernel⟩, by decide +kernel, by decide +kernel, rfl⟩
def mX11_turns : vM := (yX11_turns, cX11_turns, 5, none, RX11, 1)
set_option maxRecDepth 100000 in
theorem kX11_turns : vm_Mok mX11_turns := ⟨vm_inG (i := 1067) (by rfl) rfl, jX11, ⟨by decide +kernel, by decide +kernel, by decide +kernel⟩, by decide +kernel, by decide +kernel, rfl⟩
def mX11_inContext : vM := (yX11_inContext, cX11_inContext, 3, some (FieldType.int), RX11, 0)
set_option maxRecDepth 100000 in
theorem kX11_inContext : vm_Mok mX11_inContext := ⟨vm_inG (i := 1071) (by rfl) rfl, jX11, ⟨by decide +kernel, by decide +kernel, by decide +kernel⟩, by decide +kernel, by decide +kernel, rfl⟩
def mX11_unknownVariable : vM := (yX11_unknownVariable, cX11_unknownVariable, 1, some (FieldType.int), RX11, 0)
set_option maxRecDepth 100000 in
theorem kX11_unknownVariable : vm_Mok mX11_unknownVariable := ⟨vm_inG (i := 1075) (by rfl) rfl, jX11, ⟨by decide +kernel, by decide +kernel, by decide +kernel⟩, by decide +kernel, by decide +kernel, rfl⟩
def mX11_unknownDepth : vM := (yX11_unknownDepth, cX11_unknownDepth, 1, some (FieldType.int), RX11, 0)
set_option maxRecDepth 100000 in
theorem kX11_unknownDepth : vm_Mok mX11_unknownDepth := ⟨vm_inG (i := 1079) (by rfl) rfl, jX11, ⟨by decide +kernel, by decide +kernel, by decide +kernel⟩, by decide +kernel, by decide +kernel, rfl⟩
def mX11_partCount : vM := (yX11_partCount, cX11_partCount, 1, some (FieldType.int), RX11, 0)
set_option maxRecDepth 100000 in
theorem kX11_partCount : vm_Mok mX11_partCount := ⟨vm_inG (i := 1083) (by rfl) rfl, jX11, ⟨by decide +kernel, by decide +kernel, by decide +kernel⟩, by decide +kernel, by decide +kernel, rfl⟩
def mX11_contextSize : vM := (yX11_contextSize, cX11_contextSize, 1, some (FieldType.int), RX11, 0)
set_option maxRecDepth 100000 in
theorem kX11_contextSize : vm_Mok mX11_contextSize := ⟨vm_inG (i := 1087) (by rfl) rfl, jX11, ⟨by decide +kernel, by decide +kernel, by decide +kernel⟩, by decide +kernel, by decide +kernel, rfl⟩
def mX11_size : vM := (yX11_size, cX11_size, 3, some (FieldType.int), RX11, 0)
set_option maxRecDepth 100000 in
theorem kX11_size : vm_Mok mX11_size := ⟨vm_inG (i := 1091) (by rfl) rfl, jX11, ⟨by decide +kernel, by decide +kernel, by decide +kernel⟩, by decide +kernel, by decide +kernel, rfl⟩
def mX11_isThere : vM := (yX11_isThere, cX11_isThere, 2, some (FieldType.boolean), RX11, 1)
set_option maxRecDepth 100000 in
theorem kX11_isThere : vm_Mok mX11_isThere := ⟨vm_inG (i := 1095) (by rfl) rfl, jX11, ⟨by decide +kernel, by decide +kernel, by decide +kernel⟩, by decide +kernel, by decide +kernel, rfl⟩
def mX11_known : vM := (yX11_known, cX11_known, 1, some (FieldType.int), RX11, 0)
set_option maxRecDepth 100000 in
theorem kX11_known : vm_Mok mX11_known := ⟨vm_inG (i := 1099) (by rfl) rfl, jX11, ⟨by decide +kernel, by decide +kernel, by decide +kernel⟩, by decide +kernel, by decide +kernel, rfl⟩
def mX11_objects : vM := (yX11_objects, cX11_objects, 4, some (FieldType.int), RX11, 1)
set_option maxRecDepth 100000 in
theorem kX11_objects : vm_Mok mX11_objects := ⟨vm_inG (i := 1103) (by rfl) rfl, jX11, ⟨by decide +kernel, by decide +kernel, by decide +kernel⟩, by decide +kernel, by decide +kernel, rfl⟩
def mX11_isKnown : vM := (yX11_isKnown, cX11_isKnown, 2, some (FieldType.boolean), RX11, 1)
set_option maxRecDepth 100000 in
theorem kX11_isKnown : vm_Mok mX11_isKnown := ⟨vm_inG (i := 1107) (by rfl) rfl, jX11, ⟨by decide +kernel, by decide +kernel, by decide +kernel⟩, by decide +kernel, by decide +kernel, rfl⟩
def mX11_together : vM := (yX11_together, cX11_together, 7, some (FieldType.int), RX11, 4)
set_option maxRecDepth 100000 in
theorem kX11_together : vm_Mok mX11_together := ⟨vm_inG (i := 1111) (by rfl) rfl, jX11, ⟨by decide +kernel, by decide +kernel, by decide +kernel⟩, by decide +kernel, by decide +kernel, rfl⟩
def mX11_resetContext : vM := (yX11_resetContext, cX11_resetContext, 2, some (FieldType.int), RX11, 0)
set_option maxRecDepth 100000 in
theorem kX11_resetContext : vm_Mok mX11_resetContext := ⟨vm_inG (i := 1115) (by rfl) rfl, jX11, ⟨by decide +kernel, by decide +kernel, by decide +kernel⟩, by decide +kernel, by decide +kernel, rfl⟩
def mX11_setAccommodation : vM := (yX11_setAccommodation, cX11_setAccommodation, 3, some (FieldType.int), RX11, 1)
set_option maxRecDepth 100000 in
theorem kX11_setAccommodation : vm_Mok mX11_setAccommodation := ⟨vm_inG (i := 1119) (by rfl) rfl, jX11, ⟨by decide +kernel, by decide +kernel, by decide +kernel⟩, by decide +kernel, by decide +kernel, rfl⟩
def mX11_accept : vM := (yX11_accept, cX11_accept, 3, some (FieldType.int), RX11, 0)
set_option maxRecDepth 100000 in
theorem kX11_accept : vm_Mok mX11_accept := ⟨vm_inG (i := 1123) (by rfl) rfl, jX11, ⟨by decide +kernel, by decide +kernel, by decide +kernel⟩, by decide +kernel, by decide +kernel, rfl⟩
def mX11_tries : vM := (yX11_tries, cX11_tries, 3, some (FieldType.int), RX11, 0)
set_option maxRecDepth 100000 in
theorem kX11_tries : vm_Mok mX11_tries := ⟨vm_inG (i := 1127) (by rfl) rfl, jX11, ⟨by decide +kernel, by decide +kernel, by decide +kernel⟩, by decide +kernel, by decide +kernel, rfl⟩
def mX11_error : vM := (yX11_error, cX11_error, 2, some (FieldType.int), RX11, 1)
set_option maxRecDepth 100000 in
theorem kX11_error : vm_Mok mX11_error := ⟨vm_inG (i := 1131) (by rfl) rfl, jX11, ⟨by decide +kernel, by decide +kernel, by decide +kernel⟩, by decide +kernel, by decide +kernel, rfl⟩
def mX11_takesContext : vM := (yX11_takesContext, cX11_takesContext, 3, none, RX11, 1)
set_option maxRecDepth 100000 in
theorem kX11_takesContext : vm_Mok mX11_takesContext := ⟨vm_inG (i := 1135) (by rfl) rfl, jX11, ⟨by decide +kernel, by decide +kernel, by decide +kernel⟩, by decide +kernel, by decide +kernel, rfl⟩
def mX11_acceptable : vM := (yX11_acceptable, cX11_acceptable, 1, some (FieldType.int), RX11, 0)
set_option maxRecDepth 100000 in
theorem kX11_acceptable : vm_Mok mX11_acceptable := ⟨vm_inG (i := 1139) (by rfl) rfl, jX11, ⟨by decide +kernel, by decide +kernel, by decide +kernel⟩, by decide +kernel, by decide +kernel, rfl⟩
def mX11_failingAt : vM := (yX11_failingAt, cX11_failingAt, 2, some (FieldType.int), RX11, 0)
set_option maxRecDepth 100000 in
theorem kX11_failingAt : vm_Mok mX11_failingAt := ⟨vm_inG (i := 1143) (by rfl) rfl, jX11, ⟨by decide +kernel, by decide +kernel, by decide +kernel⟩, by decide +kernel, by decide +kernel, rfl⟩
def mX11_accommodated : vM := (yX11_accommodated, cX11_accommodated, 3, some (FieldType.int), RX11, 0)
set_option maxRecDepth 100000 in
theorem kX11_accommodated : vm_Mok mX11_accommodated := ⟨vm_inG (i := 1147) (by rfl) rfl, jX11, ⟨by decide +kernel, by decide +kernel, by decide +kernel⟩, by decide +kernel, by decide +kernel, rfl⟩
def mX11_accommodatedPart : vM := (yX11_accommodatedPart, cX11_accommodatedPart, 5, some (FieldType.int), RX11, 1)
set_option maxRecDepth 100000 in
theorem kX11_accommodatedPart : vm_Mok mX11_accommodatedPart := ⟨vm_inG (i := 1151) (by rfl) rfl, jX11, ⟨by decide +kernel, by decide +kernel, by decide +kernel⟩, by decide +kernel, by decide +kernel, rfl⟩
def mX11_sizeBehind : vM := (yX11_sizeBehind, cX11_sizeBehind, 3, some (FieldType.int), RX11, 1)
set_option maxRecDepth 100000 in
theorem kX11_sizeBehind : vm_Mok mX11_sizeBehind := ⟨vm_inG (i := 1155) (by rfl) rfl, jX11, ⟨by decide +kernel, by decide +kernel, by decide +kernel⟩, by decide +kernel, by decide +kernel, rfl⟩
def mX11_supports : vM := (yX11_supports, cX11_supports, 2, some (FieldType.int), RX11, 0)
set_option maxRecDepth 100000 in
theorem kX11_supports : vm_Mok mX11_supports := ⟨vm_inG (i := 1159) (by rfl) rfl, jX11, ⟨by decide +kernel, by decide +kernel, by decide +kernel⟩, by decide +kernel, by decide +kernel, rfl⟩
def mX11_isAllSupported : vM := (yX11_isAllSupported, cX11_isAllSupported, 2, some (FieldType.boolean), RX11, 1)
set_option maxRecDepth 100000 in
theorem kX11_isAllSupported : vm_Mok mX11_isAllSupported := ⟨vm_inG (i := 1163) (by rfl) rfl, jX11, ⟨by decide +kernel, by decide +kernel, by decide +kernel⟩, by decide +kernel, by decide +kernel, rfl⟩
def mX11_worldsTrue : vM := (yX11_worldsTrue, cX11_worldsTrue, 6, some (FieldType.int), RX11, 0)
set_option maxRecDepth 100000 in
theorem kX11_worldsTrue : vm_Mok mX11_worldsTrue := ⟨vm_inG (i := 1167) (by rfl) rfl, jX11, ⟨by decide +kernel, by decide +kernel, by decide +kernel⟩, by decide +kernel, by decide +kernel, rfl⟩
def mX11_historySize : vM := (yX11_historySize, cX11_historySize, 1, some (FieldType.int), RX11, 0)
set_option maxRecDepth 100000 in
theorem kX11_historySize : vm_Mok mX11_historySize := ⟨vm_inG (i := 1171) (by rfl) rfl, jX11, ⟨by decide +kernel, by decide +kernel, by decide +kernel⟩, by decide +kernel, by decide +kernel, rfl⟩
def mX11_undo : vM := (yX11_undo, cX11_undo, 2, some (FieldType.int), RX11, 0)
set_option maxRecDepth 100000 in
theorem kX11_undo : vm_Mok mX11_undo := ⟨vm_inG (i := 1175) (by rfl) rfl, jX11, ⟨by decide +kernel, by decide +kernel, by decide +kernel⟩, by decide +kernel, by decide +kernel, rfl⟩
def mL_law : vM := (yL_law, cL_law, 4, ret, RL, 1)
theorem iX10_init : Cond.instanceMethod yX10_init ∈ vm_G := vm_inG (i := 89) (by decide +kernel) rfl
theorem iX7_init : Cond.instanceMethod yX7_init ∈ vm_G := vm_inG (i := 97) (by decide +kernel) rfl
theorem iX9_init : Cond.instanceMethod yX9_init ∈ vm_G := vm_inG (i := 103) (by decide +kernel) rfl
theorem iX1_init : Cond.instanceMethod yX1_init ∈ vm_G := vm_inG (i := 121) (by decide +kernel) rfl
theorem iX1_makeFirst : Cond.instanceMethod yX1_makeFirst ∈ vm_G := vm_inG (i := 130) (by decide +kernel) rfl
theorem sX1_makeFirst : Cond.selects (mY mX1_makeFirst).cls (mY mX1_makeFirst) (mY mX1_makeFirst) ∈ vm_G := vm_inG (i := 131) (by decide +kernel) rfl
theorem iX1_fill : Cond.instanceMethod yX1_fill ∈ vm_G := vm_inG (i := 134) (by decide +kernel) rfl
theorem sX1_fill : Cond.selects (mY mX1_fill).cls (mY mX1_fill) (mY mX1_fill) ∈ vm_G := vm_inG (i := 135) (by decide +kernel) rfl
theorem iX2_init : Cond.instanceMethod yX2_init ∈ vm_G := vm_inG (i := 163) (by decide +kernel) rfl
theorem iX8_init : Cond.instanceMethod yX8_init ∈ vm_G := vm_inG (i := 183) (by decide +kernel) rfl
theorem iX6_init : Cond.instanceMethod yX6_init ∈ vm_G := vm_inG (i := 199) (by decide +kernel) rfl
theorem iX5_init : Cond.instanceMethod yX5_init ∈ vm_G := vm_inG (i := 206) (by decide +kernel) rfl
theorem iX3_init : Cond.instanceMethod yX3_init ∈ vm_G := vm_inG (i := 295) (by decide +kernel) rfl
theorem iX4_init : Cond.instanceMethod yX4_init ∈ vm_G := vm_inG (i := 314) (by decide +kernel) rfl
theorem iX0_init : Cond.instanceMethod yX0_init ∈ vm_G := vm_inG (i := 324) (by decide +kernel) rfl
theorem iX10_setIndividuals : Cond.instanceMethod yX10_setIndividuals ∈ vm_G := vm_inG (i := 384) (by decide +kernel) rfl
theorem sX10_setIndividuals : Cond.selects (mY mX10_setIndividuals).cls (mY mX10_setIndividuals) (mY mX10_setIndividuals) ∈ vm_G := vm_inG (i := 385) (by decide +kernel) rfl
theorem iX2_record : Cond.instanceMethod yX2_record ∈ vm_G := vm_inG (i := 388) (by decide +kernel) rfl
theorem sX2_record : Cond.selects (mY mX2_record).cls (mY mX2_record) (mY mX2_record) ∈ vm_G := vm_inG (i := 389) (by decide +kernel) rfl
theorem iX7_copyFrom : Cond.instanceMethod yX7_copyFrom ∈ vm_G := vm_inG (i := 392) (by decide +kernel) rfl
theorem sX7_copyFrom : Cond.selects (mY mX7_copyFrom).cls (mY mX7_copyFrom) (mY mX7_copyFrom) ∈ vm_G := vm_inG (i := 393) (by decide +kernel) rfl
theorem iX9_copyFrom : Cond.instanceMethod yX9_copyFrom ∈ vm_G := vm_inG (i := 396) (by decide +kernel) rfl
theorem sX9_copyFrom : Cond.selects (mY mX9_copyFrom).cls (mY mX9_copyFrom) (mY mX9_copyFrom) ∈ vm_G := vm_inG (i := 397) (by decide +kernel) rfl
theorem iX1_copyFrom : Cond.instanceMethod yX1_copyFrom ∈ vm_G := vm_inG (i := 400) (by decide +kernel) rfl
theorem sX1_copyFrom : Cond.selects (mY mX1_copyFrom).cls (mY mX1_copyFrom) (mY mX1_copyFrom) ∈ vm_G := vm_inG (i := 401) (by decide +kernel) rfl
theorem iX9_begin : Cond.instanceMethod yX9_begin ∈ vm_G := vm_inG (i := 407) (by decide +kernel) rfl
theorem sX9_begin : Cond.selects (mY mX9_begin).cls (mY mX9_begin) (mY mX9_begin) ∈ vm_G := vm_inG (i := 408) (by decide +kernel) rfl
theorem iX7_forgetContext : Cond.instanceMethod yX7_forgetContext ∈ vm_G := vm_inG (i := 411) (by decide +kernel) rfl
theorem sX7_forgetContext : Cond.selects (mY mX7_forgetContext).cls (mY mX7_forgetContext) (mY mX7_forgetContext) ∈ vm_G := vm_inG (i := 412) (by decide +kernel) rfl
theorem iX10_setPredicate : Cond.instanceMethod yX10_setPredicate ∈ vm_G := vm_inG (i := 415) (by decide +kernel) rfl
theorem sX10_setPredicate : Cond.selects (mY mX10_setPredicate).cls (mY mX10_setPredicate) (mY mX10_setPredicate) ∈ vm_G := vm_inG (i := 416) (by decide +kernel) rfl
theorem tX10_isPredicate : Cond.static yX10_isPredicate ∈ vm_G := vm_inG (i := 419) (by decide +kernel) rfl
theorem iX9_everybody : Cond.instanceMethod yX9_everybody ∈ vm_G := vm_inG (i := 422) (by decide +kernel) rfl
theorem sX9_everybody : Cond.selects (mY mX9_everybody).cls (mY mX9_everybody) (mY mX9_everybody) ∈ vm_G := vm_inG (i := 423) (by decide +kernel) rfl
theorem iX9_setOf : Cond.instanceMethod yX9_setOf ∈ vm_G := vm_inG (i := 426) (by decide +kernel) rfl
theorem sX9_setOf : Cond.selects (mY mX9_setOf).cls (mY mX9_setOf) (mY mX9_setOf) ∈ vm_G := vm_inG (i := 427) (by decide +kernel) rfl
theorem iX9_giveSet : Cond.instanceMethod yX9_giveSet ∈ vm_G := vm_inG (i := 431) (by decide +kernel) rfl
theorem sX9_giveSet : Cond.selects (mY mX9_giveSet).cls (mY mX9_giveSet) (mY mX9_giveSet) ∈ vm_G := vm_inG (i := 432) (by decide +kernel) rfl
theorem iX10_setPair : Cond.instanceMethod yX10_setPair ∈ vm_G := vm_inG (i := 435) (by decide +kernel) rfl
theorem sX10_setPair : Cond.selects (mY mX10_setPair).cls (mY mX10_setPair) (mY mX10_setPair) ∈ vm_G := vm_inG (i := 436) (by decide +kernel) rfl
theorem tX10_isRelation : Cond.static yX10_isRelation ∈ vm_G := vm_inG (i := 439) (by decide +kernel) rfl
theorem iX10_isIndividual : Cond.instanceMethod yX10_isIndividual ∈ vm_G := vm_inG (i := 443) (by decide +kernel) rfl
theorem tX10_isSwitch : Cond.static yX10_isSwitch ∈ vm_G := vm_inG (i := 446) (by decide +kernel) rfl
theorem iX9_hasPair : Cond.instanceMethod yX9_hasPair ∈ vm_G := vm_inG (i := 449) (by decide +kernel) rfl
theorem sX9_hasPair : Cond.selects (mY mX9_hasPair).cls (mY mX9_hasPair) (mY mX9_hasPair) ∈ vm_G := vm_inG (i := 450) (by decide +kernel) rfl
theorem iX9_putPair : Cond.instanceMethod yX9_putPair ∈ vm_G := vm_inG (i := 454) (by decide +kernel) rfl
theorem sX9_putPair : Cond.selects (mY mX9_putPair).cls (mY mX9_putPair) (mY mX9_putPair) ∈ vm_G := vm_inG (i := 455) (by decide +kernel) rfl
theorem iX10_individuals : Cond.instanceMethod yX10_individuals ∈ vm_G := vm_inG (i := 458) (by decide +kernel) rfl
theorem sX10_individuals : Cond.selects (mY mX10_individuals).cls (mY mX10_individuals) (mY mX10_individuals) ∈ vm_G := vm_inG (i := 459) (by decide +kernel) rfl
theorem iX10_predicate : Cond.instanceMethod yX10_predicate ∈ vm_G := vm_inG (i := 462) (by decide +kernel) rfl
theorem sX10_predicate : Cond.selects (mY mX10_predicate).cls (mY mX10_predicate) (mY mX10_predicate) ∈ vm_G := vm_inG (i := 463) (by decide +kernel) rfl
theorem iX10_relationHolds : Cond.instanceMethod yX10_relationHolds ∈ vm_G := vm_inG (i := 466) (by decide +kernel) rfl
theorem sX10_relationHolds : Cond.selects (mY mX10_relationHolds).cls (mY mX10_relationHolds) (mY mX10_relationHolds) ∈ vm_G := vm_inG (i := 467) (by decide +kernel) rfl
theorem iX10_isObject : Cond.instanceMethod yX10_isObject ∈ vm_G := vm_inG (i := 471) (by decide +kernel) rfl
theorem iX9_relates : Cond.instanceMethod yX9_relates ∈ vm_G := vm_inG (i := 474) (by decide +kernel) rfl
theorem sX9_relates : Cond.selects (mY mX9_relates).cls (mY mX9_relates) (mY mX9_relates) ∈ vm_G := vm_inG (i := 475) (by decide +kernel) rfl
theorem iX10_type : Cond.instanceMethod yX10_type ∈ vm_G := vm_inG (i := 478) (by decide +kernel) rfl
theorem sX10_type : Cond.selects (mY mX10_type).cls (mY mX10_type) (mY mX10_type) ∈ vm_G := vm_inG (i := 479) (by decide +kernel) rfl
theorem iX8_append : Cond.instanceMethod yX8_append ∈ vm_G := vm_inG (i := 482) (by decide +kernel) rfl
theorem sX8_append : Cond.selects (mY mX8_append).cls (mY mX8_append) (mY mX8_append) ∈ vm_G := vm_inG (i := 483) (by decide +kernel) rfl
theorem iX10_clearText : Cond.instanceMethod yX10_clearText ∈ vm_G := vm_inG (i := 486) (by decide +kernel) rfl
theorem sX10_clearText : Cond.selects (mY mX10_clearText).cls (mY mX10_clearText) (mY mX10_clearText) ∈ vm_G := vm_inG (i := 487) (by decide +kernel) rfl
theorem iX10_syntaxFault : Cond.instanceMethod yX10_syntaxFault ∈ vm_G := vm_inG (i := 490) (by decide +kernel) rfl
theorem sX10_syntaxFault : Cond.selects (mY mX10_syntaxFault).cls (mY mX10_syntaxFault) (mY mX10_syntaxFault) ∈ vm_G := vm_inG (i := 491) (by decide +kernel) rfl
theorem iX6_discourse : Cond.instanceMethod yX6_discourse ∈ vm_G := vm_inG (i := 494) (by decide +kernel) rfl
theorem sX6_discourse : Cond.selects (mY mX6_discourse).cls (mY mX6_discourse) (mY mX6_discourse) ∈ vm_G := vm_inG (i := 495) (by decide +kernel) rfl
theorem iX6_part : Cond.instanceMethod yX6_part ∈ vm_G := vm_inG (i := 499) (by decide +kernel) rfl
theorem iX6_skip : Cond.instanceMethod yX6_skip ∈ vm_G := vm_inG (i := 503) (by decide +kernel) rfl
theorem iX8_at : Cond.instanceMethod yX8_at ∈ vm_G := vm_inG (i := 506) (by decide +kernel) rfl
theorem sX8_at : Cond.selects (mY mX8_at).cls (mY mX8_at) (mY mX8_at) ∈ vm_G := vm_inG (i := 507) (by decide +kernel) rfl
theorem iX6_formula : Cond.instanceMethod yX6_formula ∈ vm_G := vm_inG (i := 511) (by decide +kernel) rfl
theorem iX6_choice : Cond.instanceMethod yX6_choice ∈ vm_G := vm_inG (i := 515) (by decide +kernel) rfl
theorem iX6_row : Cond.instanceMethod yX6_row ∈ vm_G := vm_inG (i := 519) (by decide +kernel) rfl
theorem iX6_unit : Cond.instanceMethod yX6_unit ∈ vm_G := vm_inG (i := 523) (by decide +kernel) rfl
theorem iX6_negation : Cond.instanceMethod yX6_negation ∈ vm_G := vm_inG (i := 527) (by decide +kernel) rfl
theorem iX6_openSign : Cond.instanceMethod yX6_openSign ∈ vm_G := vm_inG (i := 531) (by decide +kernel) rfl
theorem iX6_holding : Cond.instanceMethod yX6_holding ∈ vm_G := vm_inG (i := 535) (by decide +kernel) rfl
theorem iX6_taken : Cond.instanceMethod yX6_taken ∈ vm_G := vm_inG (i := 539) (by decide +kernel) rfl
theorem iX6_joined : Cond.instanceMethod yX6_joined ∈ vm_G := vm_inG (i := 543) (by decide +kernel) rfl
theorem iX5_add : Cond.instanceMethod yX5_add ∈ vm_G := vm_inG (i := 546) (by decide +kernel) rfl
theorem sX5_add : Cond.selects (mY mX5_add).cls (mY mX5_add) (mY mX5_add) ∈ vm_G := vm_inG (i := 547) (by decide +kernel) rfl
theorem iX6_group : Cond.instanceMethod yX6_group ∈ vm_G := vm_inG (i := 551) (by decide +kernel) rfl
theorem iX6_aboutOne : Cond.instanceMethod yX6_aboutOne ∈ vm_G := vm_inG (i := 555) (by decide +kernel) rfl
theorem iX6_skipVariable : Cond.instanceMethod yX6_skipVariable ∈ vm_G := vm_inG (i := 559) (by decide +kernel) rfl
theorem iX6_simple : Cond.instanceMethod yX6_simple ∈ vm_G := vm_inG (i := 563) (by decide +kernel) rfl
theorem iX6_aboutTwo : Cond.instanceMethod yX6_aboutTwo ∈ vm_G := vm_inG (i := 567) (by decide +kernel) rfl
theorem iX6_count : Cond.instanceMethod yX6_count ∈ vm_G := vm_inG (i := 571) (by decide +kernel) rfl
theorem iX6_comparison : Cond.instanceMethod yX6_comparison ∈ vm_G := vm_inG (i := 575) (by decide +kernel) rfl
theorem iX10_unknownVariable : Cond.instanceMethod yX10_unknownVariable ∈ vm_G := vm_inG (i := 578) (by decide +kernel) rfl
theorem sX10_unknownVariable : Cond.selects (mY mX10_unknownVariable).cls (mY mX10_unknownVariable) (mY mX10_unknownVariable) ∈ vm_G := vm_inG (i := 579) (by decide +kernel) rfl
theorem iX3_suffices : Cond.instanceMethod yX3_suffices ∈ vm_G := vm_inG (i := 582) (by decide +kernel) rfl
theorem sX3_suffices : Cond.selects (mY mX3_suffices).cls (mY mX3_suffices) (mY mX3_suffices) ∈ vm_G := vm_inG (i := 583) (by decide +kernel) rfl
theorem iX3_readOver : Cond.instanceMethod yX3_readOver ∈ vm_G := vm_inG (i := 587) (by decide +kernel) rfl
theorem iX3_readChain : Cond.instanceMethod yX3_readChain ∈ vm_G := vm_inG (i := 591) (by decide +kernel) rfl
theorem iX3_readEach : Cond.instanceMethod yX3_readEach ∈ vm_G := vm_inG (i := 595) (by decide +kernel) rfl
theorem iX3_look : Cond.instanceMethod yX3_look ∈ vm_G := vm_inG (i := 599) (by decide +kernel) rfl
theorem iX10_unknownDepth : Cond.instanceMethod yX10_unknownDepth ∈ vm_G := vm_inG (i := 602) (by decide +kernel) rfl
theorem sX10_unknownDepth : Cond.selects (mY mX10_unknownDepth).cls (mY mX10_unknownDepth) (mY mX10_unknownDepth) ∈ vm_G := vm_inG (i := 603) (by decide +kernel) rfl
theorem iX10_partCount : Cond.instanceMethod yX10_partCount ∈ vm_G := vm_inG (i := 606) (by decide +kernel) rfl
theorem sX10_partCount : Cond.selects (mY mX10_partCount).cls (mY mX10_partCount) (mY mX10_partCount) ∈ vm_G := vm_inG (i := 607) (by decide +kernel) rfl
theorem iX10_contextSize : Cond.instanceMethod yX10_contextSize ∈ vm_G := vm_inG (i := 610) (by decide +kernel) rfl
theorem sX10_contextSize : Cond.selects (mY mX10_contextSize).cls (mY mX10_contextSize) (mY mX10_contextSize) ∈ vm_G := vm_inG (i := 611) (by decide +kernel) rfl
theorem iX1_size : Cond.instanceMethod yX1_size ∈ vm_G := vm_inG (i := 614) (by decide +kernel) rfl
theorem sX1_size : Cond.selects (mY mX1_size).cls (mY mX1_size) (mY mX1_size) ∈ vm_G := vm_inG (i := 615) (by decide +kernel) rfl
theorem tJ13_bitCount_95d88 : Cond.static yJ13_bitCount_95d88 ∈ vm_G := vm_inG (i := 618) (by decide +kernel) rfl
theorem iX10_known : Cond.instanceMethod yX10_known ∈ vm_G := vm_inG (i := 624) (by decide +kernel) rfl
theorem sX10_known : Cond.selects (mY mX10_known).cls (mY mX10_known) (mY mX10_known) ∈ vm_G := vm_inG (i := 625) (by decide +kernel) rfl
theorem iX10_objects : Cond.instanceMethod yX10_objects ∈ vm_G := vm_inG (i := 628) (by decide +kernel) rfl
theorem sX10_objects : Cond.selects (mY mX10_objects).cls (mY mX10_objects) (mY mX10_objects) ∈ vm_G := vm_inG (i := 629) (by decide +kernel) rfl
theorem tX10_isVariable : Cond.static yX10_isVariable ∈ vm_G := vm_inG (i := 632) (by decide +kernel) rfl
theorem iX7_knows : Cond.instanceMethod yX7_knows ∈ vm_G := vm_inG (i := 635) (by decide +kernel) rfl
theorem sX7_knows : Cond.selects (mY mX7_knows).cls (mY mX7_knows) (mY mX7_knows) ∈ vm_G := vm_inG (i := 636) (by decide +kernel) rfl
theorem iX1_valuesOf : Cond.instanceMethod yX1_valuesOf ∈ vm_G := vm_inG (i := 639) (by decide +kernel) rfl
theorem sX1_valuesOf : Cond.selects (mY mX1_valuesOf).cls (mY mX1_valuesOf) (mY mX1_valuesOf) ∈ vm_G := vm_inG (i := 640) (by decide +kernel) rfl
theorem iX1_countOf : Cond.instanceMethod yX1_countOf ∈ vm_G := vm_inG (i := 643) (by decide +kernel) rfl
theorem sX1_countOf : Cond.selects (mY mX1_countOf).cls (mY mX1_countOf) (mY mX1_countOf) ∈ vm_G := vm_inG (i := 644) (by decide +kernel) rfl
theorem tX1_mask : Cond.static yX1_mask ∈ vm_G := vm_inG (i := 647) (by decide +kernel) rfl
theorem iX10_together : Cond.instanceMethod yX10_together ∈ vm_G := vm_inG (i := 654) (by decide +kernel) rfl
theorem sX10_together : Cond.selects (mY mX10_together).cls (mY mX10_together) (mY mX10_together) ∈ vm_G := vm_inG (i := 655) (by decide +kernel) rfl
theorem iX10_resetContext : Cond.instanceMethod yX10_resetContext ∈ vm_G := vm_inG (i := 659) (by decide +kernel) rfl
theorem sX10_resetContext : Cond.selects (mY mX10_resetContext).cls (mY mX10_resetContext) (mY mX10_resetContext) ∈ vm_G := vm_inG (i := 660) (by decide +kernel) rfl
theorem iX10_setAccommodation : Cond.instanceMethod yX10_setAccommodation ∈ vm_G := vm_inG (i := 663) (by decide +kernel) rfl
theorem sX10_setAccommodation : Cond.selects (mY mX10_setAccommodation).cls (mY mX10_setAccommodation) (mY mX10_setAccommodation) ∈ vm_G := vm_inG (i := 664) (by decide +kernel) rfl
theorem iX10_accept : Cond.instanceMethod yX10_accept ∈ vm_G := vm_inG (i := 667) (by decide +kernel) rfl
theorem sX10_accept : Cond.selects (mY mX10_accept).cls (mY mX10_accept) (mY mX10_accept) ∈ vm_G := vm_inG (i := 668) (by decide +kernel) rfl
theorem iX10_tryAccepting : Cond.instanceMethod yX10_tryAccepting ∈ vm_G := vm_inG (i := 672) (by decide +kernel) rfl
theorem iX0_succeeds : Cond.instanceMethod yX0_succeeds ∈ vm_G := vm_inG (i := 675) (by decide +kernel) rfl
theorem sX0_succeeds : Cond.selects (mY mX0_succeeds).cls (mY mX0_succeeds) (mY mX0_succeeds) ∈ vm_G := vm_inG (i := 676) (by decide +kernel) rfl
theorem iX4_findSupporting : Cond.instanceMethod yX4_findSupporting ∈ vm_G := vm_inG (i := 681) (by decide +kernel) rfl
theorem iX4_turn : Cond.instanceMethod yX4_turn ∈ vm_G := vm_inG (i := 687) (by decide +kernel) rfl
theorem iX4_turnByChain : Cond.instanceMethod yX4_turnByChain ∈ vm_G := vm_inG (i := 691) (by decide +kernel) rfl
theorem iX4_turnBySome : Cond.instanceMethod yX4_turnBySome ∈ vm_G := vm_inG (i := 695) (by decide +kernel) rfl
theorem iX1_vary : Cond.instanceMethod yX1_vary ∈ vm_G := vm_inG (i := 699) (by decide +kernel) rfl
theorem sX1_vary : Cond.selects (mY mX1_vary).cls (mY mX1_vary) (mY mX1_vary) ∈ vm_G := vm_inG (i := 700) (by decide +kernel) rfl
theorem iX1_varyWords : Cond.instanceMethod yX1_varyWords ∈ vm_G := vm_inG (i := 704) (by decide +kernel) rfl
theorem tX1_varied : Cond.static yX1_varied ∈ vm_G := vm_inG (i := 707) (by decide +kernel) rfl
theorem iX1_remove : Cond.instanceMethod yX1_remove ∈ vm_G := vm_inG (i := 711) (by decide +kernel) rfl
theorem sX1_remove : Cond.selects (mY mX1_remove).cls (mY mX1_remove) (mY mX1_remove) ∈ vm_G := vm_inG (i := 712) (by decide +kernel) rfl
theorem iX4_keepByChoice : Cond.instanceMethod yX4_keepByChoice ∈ vm_G := vm_inG (i := 716) (by decide +kernel) rfl
theorem iX1_unite : Cond.instanceMethod yX1_unite ∈ vm_G := vm_inG (i := 719) (by decide +kernel) rfl
theorem sX1_unite : Cond.selects (mY mX1_unite).cls (mY mX1_unite) (mY mX1_unite) ∈ vm_G := vm_inG (i := 720) (by decide +kernel) rfl
theorem iX1_keep : Cond.instanceMethod yX1_keep ∈ vm_G := vm_inG (i := 723) (by decide +kernel) rfl
theorem sX1_keep : Cond.selects (mY mX1_keep).cls (mY mX1_keep) (mY mX1_keep) ∈ vm_G := vm_inG (i := 724) (by decide +kernel) rfl
theorem iX4_keepByCondition : Cond.instanceMethod yX4_keepByCondition ∈ vm_G := vm_inG (i := 728) (by decide +kernel) rfl
theorem iX1_complement : Cond.instanceMethod yX1_complement ∈ vm_G := vm_inG (i := 731) (by decide +kernel) rfl
theorem sX1_complement : Cond.selects (mY mX1_complement).cls (mY mX1_complement) (mY mX1_complement) ∈ vm_G := vm_inG (i := 732) (by decide +kernel) rfl
theorem iX4_keepByOne : Cond.instanceMethod yX4_keepByOne ∈ vm_G := vm_inG (i := 736) (by decide +kernel) rfl
theorem iX4_holds : Cond.instanceMethod yX4_holds ∈ vm_G := vm_inG (i := 740) (by decide +kernel) rfl
theorem tJ6_bitCount_0f7a4 : Cond.static yJ6_bitCount_0f7a4 ∈ vm_G := vm_inG (i := 745) (by decide +kernel) rfl
theorem iX1_keepValues : Cond.instanceMethod yX1_keepValues ∈ vm_G := vm_inG (i := 751) (by decide +kernel) rfl
theorem sX1_keepValues : Cond.selects (mY mX1_keepValues).cls (mY mX1_keepValues) (mY mX1_keepValues) ∈ vm_G := vm_inG (i := 752) (by decide +kernel) rfl
theorem iX4_keepByTwo : Cond.instanceMethod yX4_keepByTwo ∈ vm_G := vm_inG (i := 756) (by decide +kernel) rfl
theorem iX1_keepPartners : Cond.instanceMethod yX1_keepPartners ∈ vm_G := vm_inG (i := 759) (by decide +kernel) rfl
theorem sX1_keepPartners : Cond.selects (mY mX1_keepPartners).cls (mY mX1_keepPartners) (mY mX1_keepPartners) ∈ vm_G := vm_inG (i := 760) (by decide +kernel) rfl
theorem iX1_isWithin : Cond.instanceMethod yX1_isWithin ∈ vm_G := vm_inG (i := 763) (by decide +kernel) rfl
theorem sX1_isWithin : Cond.selects (mY mX1_isWithin).cls (mY mX1_isWithin) (mY mX1_isWithin) ∈ vm_G := vm_inG (i := 764) (by decide +kernel) rfl
theorem iX1_isEmpty : Cond.instanceMethod yX1_isEmpty ∈ vm_G := vm_inG (i := 768) (by decide +kernel) rfl
theorem sX1_isEmpty : Cond.selects (mY mX1_isEmpty).cls (mY mX1_isEmpty) (mY mX1_isEmpty) ∈ vm_G := vm_inG (i := 769) (by decide +kernel) rfl
theorem iX10_acceptable : Cond.instanceMethod yX10_acceptable ∈ vm_G := vm_inG (i := 774) (by decide +kernel) rfl
theorem sX10_acceptable : Cond.selects (mY mX10_acceptable).cls (mY mX10_acceptable) (mY mX10_acceptable) ∈ vm_G := vm_inG (i := 775) (by decide +kernel) rfl
theorem iX10_failingAt : Cond.instanceMethod yX10_failingAt ∈ vm_G := vm_inG (i := 778) (by decide +kernel) rfl
theorem sX10_failingAt : Cond.selects (mY mX10_failingAt).cls (mY mX10_failingAt) (mY mX10_failingAt) ∈ vm_G := vm_inG (i := 779) (by decide +kernel) rfl
theorem iX10_accommodated : Cond.instanceMethod yX10_accommodated ∈ vm_G := vm_inG (i := 782) (by decide +kernel) rfl
theorem sX10_accommodated : Cond.selects (mY mX10_accommodated).cls (mY mX10_accommodated) (mY mX10_accommodated) ∈ vm_G := vm_inG (i := 783) (by decide +kernel) rfl
theorem iX10_accommodatedPart : Cond.instanceMethod yX10_accommodatedPart ∈ vm_G := vm_inG (i := 787) (by decide +kernel) rfl
theorem sX10_accommodatedPart : Cond.selects (mY mX10_accommodatedPart).cls (mY mX10_accommodatedPart) (mY mX10_accommodatedPart) ∈ vm_G := vm_inG (i := 788) (by decide +kernel) rfl
theorem iX10_sizeBehind : Cond.instanceMethod yX10_sizeBehind ∈ vm_G := vm_inG (i := 791) (by decide +kernel) rfl
theorem sX10_sizeBehind : Cond.selects (mY mX10_sizeBehind).cls (mY mX10_sizeBehind) (mY mX10_sizeBehind) ∈ vm_G := vm_inG (i := 792) (by decide +kernel) rfl
theorem iX10_supports : Cond.instanceMethod yX10_supports ∈ vm_G := vm_inG (i := 796) (by decide +kernel) rfl
theorem sX10_supports : Cond.selects (mY mX10_supports).cls (mY mX10_supports) (mY mX10_supports) ∈ vm_G := vm_inG (i := 797) (by decide +kernel) rfl
theorem iX10_worldsTrue : Cond.instanceMethod yX10_worldsTrue ∈ vm_G := vm_inG (i := 802) (by decide +kernel) rfl
theorem sX10_worldsTrue : Cond.selects (mY mX10_worldsTrue).cls (mY mX10_worldsTrue) (mY mX10_worldsTrue) ∈ vm_G := vm_inG (i := 803) (by decide +kernel) rfl
theorem iX10_isTrueInOtherWorld : Cond.instanceMethod yX10_isTrueInOtherWorld ∈ vm_G := vm_inG (i := 808) (by decide +kernel) rfl
theorem iX10_historySize : Cond.instanceMethod yX10_historySize ∈ vm_G := vm_inG (i := 813) (by decide +kernel) rfl
theorem sX10_historySize : Cond.selects (mY mX10_historySize).cls (mY mX10_historySize) (mY mX10_historySize) ∈ vm_G := vm_inG (i := 814) (by decide +kernel) rfl
theorem iX10_undo : Cond.instanceMethod yX10_undo ∈ vm_G := vm_inG (i := 817) (by decide +kernel) rfl
theorem sX10_undo : Cond.selects (mY mX10_undo).cls (mY mX10_undo) (mY mX10_undo) ∈ vm_G := vm_inG (i := 818) (by decide +kernel) rfl
theorem iX2_restore : Cond.instanceMethod yX2_restore ∈ vm_G := vm_inG (i := 821) (by decide +kernel) rfl
theorem sX2_restore : Cond.selects (mY mX2_restore).cls (mY mX2_restore) (mY mX2_restore) ∈ vm_G := vm_inG (i := 822) (by decide +kernel) rfl
theorem iX11_init : Cond.instanceMethod yX11_init ∈ vm_G := vm_inG (i := 827) (by decide +kernel) rfl
theorem iX11_setIndividuals : Cond.instanceMethod yX11_setIndividuals ∈ vm_G := vm_inG (i := 920) (by decide +kernel) rfl
theorem sX11_setIndividuals : Cond.selects (mY mX11_setIndividuals).cls (mY mX11_setIndividuals) (mY mX11_setIndividuals) ∈ vm_G := vm_inG (i := 921) (by decide +kernel) rfl
theorem tX11_in : Cond.static yX11_in ∈ vm_G := vm_inG (i := 924) (by decide +kernel) rfl
theorem iX11_acts : Cond.instanceMethod yX11_acts ∈ vm_G := vm_inG (i := 928) (by decide +kernel) rfl
theorem iX11_first : Cond.instanceMethod yX11_first ∈ vm_G := vm_inG (i := 932) (by decide +kernel) rfl
theorem iX11_setPredicate : Cond.instanceMethod yX11_setPredicate ∈ vm_G := vm_inG (i := 935) (by decide +kernel) rfl
theorem sX11_setPredicate : Cond.selects (mY mX11_setPredicate).cls (mY mX11_setPredicate) (mY mX11_setPredicate) ∈ vm_G := vm_inG (i := 936) (by decide +kernel) rfl
theorem iX11_full : Cond.instanceMethod yX11_full ∈ vm_G := vm_inG (i := 940) (by decide +kernel) rfl
theorem iX11_setPair : Cond.instanceMethod yX11_setPair ∈ vm_G := vm_inG (i := 943) (by decide +kernel) rfl
theorem sX11_setPair : Cond.selects (mY mX11_setPair).cls (mY mX11_setPair) (mY mX11_setPair) ∈ vm_G := vm_inG (i := 944) (by decide +kernel) rfl
theorem iX11_individuals : Cond.instanceMethod yX11_individuals ∈ vm_G := vm_inG (i := 947) (by decide +kernel) rfl
theorem sX11_individuals : Cond.selects (mY mX11_individuals).cls (mY mX11_individuals) (mY mX11_individuals) ∈ vm_G := vm_inG (i := 948) (by decide +kernel) rfl
theorem iX11_predicate : Cond.instanceMethod yX11_predicate ∈ vm_G := vm_inG (i := 951) (by decide +kernel) rfl
theorem sX11_predicate : Cond.selects (mY mX11_predicate).cls (mY mX11_predicate) (mY mX11_predicate) ∈ vm_G := vm_inG (i := 952) (by decide +kernel) rfl
theorem iX11_relationHolds : Cond.instanceMethod yX11_relationHolds ∈ vm_G := vm_inG (i := 955) (by decide +kernel) rfl
theorem sX11_relationHolds : Cond.selects (mY mX11_relationHolds).cls (mY mX11_relationHolds) (mY mX11_relationHolds) ∈ vm_G := vm_inG (i := 956) (by decide +kernel) rfl
theorem iX11_isObject : Cond.instanceMethod yX11_isObject ∈ vm_G := vm_inG (i := 960) (by decide +kernel) rfl
theorem iX11_holds : Cond.instanceMethod yX11_holds ∈ vm_G := vm_inG (i := 964) (by decide +kernel) rfl
theorem iX11_type : Cond.instanceMethod yX11_type ∈ vm_G := vm_inG (i := 967) (by decide +kernel) rfl
theorem sX11_type : Cond.selects (mY mX11_type).cls (mY mX11_type) (mY mX11_type) ∈ vm_G := vm_inG (i := 968) (by decide +kernel) rfl
theorem iX11_clearText : Cond.instanceMethod yX11_clearText ∈ vm_G := vm_inG (i := 971) (by decide +kernel) rfl
theorem sX11_clearText : Cond.selects (mY mX11_clearText).cls (mY mX11_clearText) (mY mX11_clearText) ∈ vm_G := vm_inG (i := 972) (by decide +kernel) rfl
theorem iX11_syntaxFault : Cond.instanceMethod yX11_syntaxFault ∈ vm_G := vm_inG (i := 975) (by decide +kernel) rfl
theorem sX11_syntaxFault : Cond.selects (mY mX11_syntaxFault).cls (mY mX11_syntaxFault) (mY mX11_syntaxFault) ∈ vm_G := vm_inG (i := 976) (by decide +kernel) rfl
theorem iX11_reads : Cond.instanceMethod yX11_reads ∈ vm_G := vm_inG (i := 980) (by decide +kernel) rfl
theorem iX11_next : Cond.instanceMethod yX11_next ∈ vm_G := vm_inG (i := 984) (by decide +kernel) rfl
theorem iX11_opens : Cond.instanceMethod yX11_opens ∈ vm_G := vm_inG (i := 988) (by decide +kernel) rfl
theorem iX11_readsFormula : Cond.instanceMethod yX11_readsFormula ∈ vm_G := vm_inG (i := 992) (by decide +kernel) rfl
theorem iX11_readsUnit : Cond.instanceMethod yX11_readsUnit ∈ vm_G := vm_inG (i := 996) (by decide +kernel) rfl
theorem iX11_variable : Cond.instanceMethod yX11_variable ∈ vm_G := vm_inG (i := 1000) (by decide +kernel) rfl
theorem iX11_finds : Cond.instanceMethod yX11_finds ∈ vm_G := vm_inG (i := 1004) (by decide +kernel) rfl
theorem iX11_pushes : Cond.instanceMethod yX11_pushes ∈ vm_G := vm_inG (i := 1008) (by decide +kernel) rfl
theorem iX11_tests : Cond.instanceMethod yX11_tests ∈ vm_G := vm_inG (i := 1012) (by decide +kernel) rfl
theorem tX11_of : Cond.static yX11_of ∈ vm_G := vm_inG (i := 1015) (by decide +kernel) rfl
theorem iX11_isSo : Cond.instanceMethod yX11_isSo ∈ vm_G := vm_inG (i := 1019) (by decide +kernel) rfl
theorem tX11_ones : Cond.static yX11_ones ∈ vm_G := vm_inG (i := 1022) (by decide +kernel) rfl
theorem iX11_pushesTest : Cond.instanceMethod yX11_pushesTest ∈ vm_G := vm_inG (i := 1026) (by decide +kernel) rfl
theorem iX11_endsUnit : Cond.instanceMethod yX11_endsUnit ∈ vm_G := vm_inG (i := 1030) (by decide +kernel) rfl
theorem iX11_hasResults : Cond.instanceMethod yX11_hasResults ∈ vm_G := vm_inG (i := 1034) (by decide +kernel) rfl
theorem iX11_leads : Cond.instanceMethod yX11_leads ∈ vm_G := vm_inG (i := 1038) (by decide +kernel) rfl
theorem iX11_endsRow : Cond.instanceMethod yX11_endsRow ∈ vm_G := vm_inG (i := 1042) (by decide +kernel) rfl
theorem iX11_endsChoice : Cond.instanceMethod yX11_endsChoice ∈ vm_G := vm_inG (i := 1046) (by decide +kernel) rfl
theorem iX11_under : Cond.instanceMethod yX11_under ∈ vm_G := vm_inG (i := 1050) (by decide +kernel) rfl
theorem iX11_endsFormula : Cond.instanceMethod yX11_endsFormula ∈ vm_G := vm_inG (i := 1054) (by decide +kernel) rfl
theorem iX11_takes : Cond.instanceMethod yX11_takes ∈ vm_G := vm_inG (i := 1058) (by decide +kernel) rfl
theorem iX11_isSupported : Cond.instanceMethod yX11_isSupported ∈ vm_G := vm_inG (i := 1062) (by decide +kernel) rfl
theorem iX11_turns : Cond.instanceMethod yX11_turns ∈ vm_G := vm_inG (i := 1066) (by decide +kernel) rfl
theorem iX11_inContext : Cond.instanceMethod yX11_inContext ∈ vm_G := vm_inG (i := 1070) (by decide +kernel) rfl
theorem iX11_unknownVariable : Cond.instanceMethod yX11_unknownVariable ∈ vm_G := vm_inG (i := 1073) (by decide +kernel) rfl
theorem sX11_unknownVariable : Cond.selects (mY mX11_unknownVariable).cls (mY mX11_unknownVariable) (mY mX11_unknownVariable) ∈ vm_G := vm_inG (i := 1074) (by decide +kernel) rfl
theorem iX11_unknownDepth : Cond.instanceMethod yX11_unknownDepth ∈ vm_G := vm_inG (i := 1077) (by decide +kernel) rfl
theorem sX11_unknownDepth : Cond.selects (mY mX11_unknownDepth).cls (mY mX11_unknownDepth) (mY mX11_unknownDepth) ∈ vm_G := vm_inG (i := 1078) (by decide +kernel) rfl
theorem iX11_partCount : Cond.instanceMethod yX11_partCount ∈ vm_G := vm_inG (i := 1081) (by decide +kernel) rfl
theorem sX11_partCount : Cond.selects (mY mX11_partCount).cls (mY mX11_partCount) (mY mX11_partCount) ∈ vm_G := vm_inG (i := 1082) (by decide +kernel) rfl
theorem iX11_contextSize : Cond.instanceMethod yX11_contextSize ∈ vm_G := vm_inG (i := 1085) (by decide +kernel) rfl
theorem sX11_contextSize : Cond.selects (mY mX11_contextSize).cls (mY mX11_contextSize) (mY mX11_contextSize) ∈ vm_G := vm_inG (i := 1086) (by decide +kernel) rfl
theorem iX11_size : Cond.instanceMethod yX11_size ∈ vm_G := vm_inG (i := 1090) (by decide +kernel) rfl
theorem iX11_isThere : Cond.instanceMethod yX11_isThere ∈ vm_G := vm_inG (i := 1094) (by decide +kernel) rfl
theorem iX11_known : Cond.instanceMethod yX11_known ∈ vm_G := vm_inG (i := 1097) (by decide +kernel) rfl
theorem sX11_known : Cond.selects (mY mX11_known).cls (mY mX11_known) (mY mX11_known) ∈ vm_G := vm_inG (i := 1098) (by decide +kernel) rfl
theorem iX11_objects : Cond.instanceMethod yX11_objects ∈ vm_G := vm_inG (i := 1101) (by decide +kernel) rfl
theorem sX11_objects : Cond.selects (mY mX11_objects).cls (mY mX11_objects) (mY mX11_objects) ∈ vm_G := vm_inG (i := 1102) (by decide +kernel) rfl
theorem iX11_isKnown : Cond.instanceMethod yX11_isKnown ∈ vm_G := vm_inG (i := 1106) (by decide +kernel) rfl
theorem iX11_together : Cond.instanceMethod yX11_together ∈ vm_G := vm_inG (i := 1109) (by decide +kernel) rfl
theorem sX11_together : Cond.selects (mY mX11_together).cls (mY mX11_together) (mY mX11_together) ∈ vm_G := vm_inG (i := 1110) (by decide +kernel) rfl
theorem iX11_resetContext : Cond.instanceMethod yX11_resetContext ∈ vm_G := vm_inG (i := 1113) (by decide +kernel) rfl
theorem sX11_resetContext : Cond.selects (mY mX11_resetContext).cls (mY mX11_resetContext) (mY mX11_resetContext) ∈ vm_G := vm_inG (i := 1114) (by decide +kernel) rfl
theorem iX11_setAccommodation : Cond.instanceMethod yX11_setAccommodation ∈ vm_G := vm_inG (i := 1117) (by decide +kernel) rfl
theorem sX11_setAccommodation : Cond.selects (mY mX11_setAccommodation).cls (mY mX11_setAccommodation) (mY mX11_setAccommodation) ∈ vm_G := vm_inG (i := 1118) (by decide +kernel) rfl
theorem iX11_accept : Cond.instanceMethod yX11_accept ∈ vm_G := vm_inG (i := 1121) (by decide +kernel) rfl
theorem sX11_accept : Cond.selects (mY mX11_accept).cls (mY mX11_accept) (mY mX11_accept) ∈ vm_G := vm_inG (i := 1122) (by decide +kernel) rfl
theorem iX11_tries : Cond.instanceMethod yX11_tries ∈ vm_G := vm_inG (i := 1126) (by decide +kernel) rfl
theorem iX11_error : Cond.instanceMethod yX11_error ∈ vm_G := vm_inG (i := 1130) (by decide +kernel) rfl
theorem iX11_takesContext : Cond.instanceMethod yX11_takesContext ∈ vm_G := vm_inG (i := 1134) (by decide +kernel) rfl
theorem iX11_acceptable : Cond.instanceMethod yX11_acceptable ∈ vm_G := vm_inG (i := 1137) (by decide +kernel) rfl
theorem sX11_acceptable : Cond.selects (mY mX11_acceptable).cls (mY mX11_acceptable) (mY mX11_acceptable) ∈ vm_G := vm_inG (i := 1138) (by decide +kernel) rfl
theorem iX11_failingAt : Cond.instanceMethod yX11_failingAt ∈ vm_G := vm_inG (i := 1141) (by decide +kernel) rfl
theorem sX11_failingAt : Cond.selects (mY mX11_failingAt).cls (mY mX11_failingAt) (mY mX11_failingAt) ∈ vm_G := vm_inG (i := 1142) (by decide +kernel) rfl
theorem iX11_accommodated : Cond.instanceMethod yX11_accommodated ∈ vm_G := vm_inG (i := 1145) (by decide +kernel) rfl
theorem sX11_accommodated : Cond.selects (mY mX11_accommodated).cls (mY mX11_accommodated) (mY mX11_accommodated) ∈ vm_G := vm_inG (i := 1146) (by decide +kernel) rfl
theorem iX11_accommodatedPart : Cond.instanceMethod yX11_accommodatedPart ∈ vm_G := vm_inG (i := 1149) (by decide +kernel) rfl
theorem sX11_accommodatedPart : Cond.selects (mY mX11_accommodatedPart).cls (mY mX11_accommodatedPart) (mY mX11_accommodatedPart) ∈ vm_G := vm_inG (i := 1150) (by decide +kernel) rfl
theorem iX11_sizeBehind : Cond.instanceMethod yX11_sizeBehind ∈ vm_G := vm_inG (i := 1153) (by decide +kernel) rfl
theorem sX11_sizeBehind : Cond.selects (mY mX11_sizeBehind).cls (mY mX11_sizeBehind) (mY mX11_sizeBehind) ∈ vm_G := vm_inG (i := 1154) (by decide +kernel) rfl
theorem iX11_supports : Cond.instanceMethod yX11_supports ∈ vm_G := vm_inG (i := 1157) (by decide +kernel) rfl
theorem sX11_supports : Cond.selects (mY mX11_supports).cls (mY mX11_supports) (mY mX11_supports) ∈ vm_G := vm_inG (i := 1158) (by decide +kernel) rfl
theorem iX11_isAllSupported : Cond.instanceMethod yX11_isAllSupported ∈ vm_G := vm_inG (i := 1162) (by decide +kernel) rfl
theorem iX11_worldsTrue : Cond.instanceMethod yX11_worldsTrue ∈ vm_G := vm_inG (i := 1165) (by decide +kernel) rfl
theorem sX11_worldsTrue : Cond.selects (mY mX11_worldsTrue).cls (mY mX11_worldsTrue) (mY mX11_worldsTrue) ∈ vm_G := vm_inG (i := 1166) (by decide +kernel) rfl
theorem iX11_historySize : Cond.instanceMethod yX11_historySize ∈ vm_G := vm_inG (i := 1169) (by decide +kernel) rfl
theorem sX11_historySize : Cond.selects (mY mX11_historySize).cls (mY mX11_historySize) (mY mX11_historySize) ∈ vm_G := vm_inG (i := 1170) (by decide +kernel) rfl
theorem iX11_undo : Cond.instanceMethod yX11_undo ∈ vm_G := vm_inG (i := 1173) (by decide +kernel) rfl
theorem sX11_undo : Cond.selects (mY mX11_undo).cls (mY mX11_undo) (mY mX11_undo) ∈ vm_G := vm_inG (i := 1174) (by decide +kernel) rfl
theorem sX10_isIndividual : Cond.selects (mY mX10_isIndividual).cls (mY mX10_isIndividual) (mY mX10_isIndividual) ∈ vm_G := vm_inG (i := 0) (by decide +kernel) rfl
theorem sX10_isObject : Cond.selects (mY mX10_isObject).cls (mY mX10_isObject) (mY mX10_isObject) ∈ vm_G := vm_inG (i := 1) (by decide +kernel) rfl
theorem sX6_part : Cond.selects (mY mX6_part).cls (mY mX6_part) (mY mX6_part) ∈ vm_G := vm_inG (i := 2) (by decide +kernel) rfl
theorem sX6_skip : Cond.selects (mY mX6_skip).cls (mY mX6_skip) (mY mX6_skip) ∈ vm_G := vm_inG (i := 3) (by decide +kernel) rfl
theorem sX6_formula : Cond.selects (mY mX6_formula).cls (mY mX6_formula) (mY mX6_formula) ∈ vm_G := vm_inG (i := 4) (by decide +kernel) rfl
theorem sX6_choice : Cond.selects (mY mX6_choice).cls (mY mX6_choice) (mY mX6_choice) ∈ vm_G := vm_inG (i := 5) (by decide +kernel) rfl
theorem sX6_row : Cond.selects (mY mX6_row).cls (mY mX6_row) (mY mX6_row) ∈ vm_G := vm_inG (i := 6) (by decide +kernel) rfl
theorem sX6_unit : Cond.selects (mY mX6_unit).cls (mY mX6_unit) (mY mX6_unit) ∈ vm_G := vm_inG (i := 7) (by decide +kernel) rfl
theorem sX6_negation : Cond.selects (mY mX6_negation).cls (mY mX6_negation) (mY mX6_negation) ∈ vm_G := vm_inG (i := 8) (by decide +kernel) rfl
theorem sX6_openSign : Cond.selects (mY mX6_openSign).cls (mY mX6_openSign) (mY mX6_openSign) ∈ vm_G := vm_inG (i := 9) (by decide +kernel) rfl
theorem sX6_holding : Cond.selects (mY mX6_holding).cls (mY mX6_holding) (mY mX6_holding) ∈ vm_G := vm_inG (i := 10) (by decide +kernel) rfl
theorem sX6_taken : Cond.selects (mY mX6_taken).cls (mY mX6_taken) (mY mX6_taken) ∈ vm_G := vm_inG (i := 11) (by decide +kernel) rfl
theorem sX6_joined : Cond.selects (mY mX6_joined).cls (mY mX6_joined) (mY mX6_joined) ∈ vm_G := vm_inG (i := 12) (by decide +kernel) rfl
theorem sX6_group : Cond.selects (mY mX6_group).cls (mY mX6_group) (mY mX6_group) ∈ vm_G := vm_inG (i := 13) (by decide +kernel) rfl
theorem sX6_aboutOne : Cond.selects (mY mX6_aboutOne).cls (mY mX6_aboutOne) (mY mX6_aboutOne) ∈ vm_G := vm_inG (i := 14) (by decide +kernel) rfl
theorem sX6_skipVariable : Cond.selects (mY mX6_skipVariable).cls (mY mX6_skipVariable) (mY mX6_skipVariable) ∈ vm_G := vm_inG (i := 15) (by decide +kernel) rfl
theorem sX6_simple : Cond.selects (mY mX6_simple).cls (mY mX6_simple) (mY mX6_simple) ∈ vm_G := vm_inG (i := 16) (by decide +kernel) rfl
theorem sX6_aboutTwo : Cond.selects (mY mX6_aboutTwo).cls (mY mX6_aboutTwo) (mY mX6_aboutTwo) ∈ vm_G := vm_inG (i := 17) (by decide +kernel) rfl
theorem sX6_count : Cond.selects (mY mX6_count).cls (mY mX6_count) (mY mX6_count) ∈ vm_G := vm_inG (i := 18) (by decide +kernel) rfl
theorem sX6_comparison : Cond.selects (mY mX6_comparison).cls (mY mX6_comparison) (mY mX6_comparison) ∈ vm_G := vm_inG (i := 19) (by decide +kernel) rfl
theorem sX3_readOver : Cond.selects (mY mX3_readOver).cls (mY mX3_readOver) (mY mX3_readOver) ∈ vm_G := vm_inG (i := 20) (by decide +kernel) rfl
theorem sX3_readChain : Cond.selects (mY mX3_readChain).cls (mY mX3_readChain) (mY mX3_readChain) ∈ vm_G := vm_inG (i := 21) (by decide +kernel) rfl
theorem sX3_readEach : Cond.selects (mY mX3_readEach).cls (mY mX3_readEach) (mY mX3_readEach) ∈ vm_G := vm_inG (i := 22) (by decide +kernel) rfl
theorem sX3_look : Cond.selects (mY mX3_look).cls (mY mX3_look) (mY mX3_look) ∈ vm_G := vm_inG (i := 23) (by decide +kernel) rfl
theorem sX10_tryAccepting : Cond.selects (mY mX10_tryAccepting).cls (mY mX10_tryAccepting) (mY mX10_tryAccepting) ∈ vm_G := vm_inG (i := 24) (by decide +kernel) rfl
theorem sX4_findSupporting : Cond.selects (mY mX4_findSupporting).cls (mY mX4_findSupporting) (mY mX4_findSupporting) ∈ vm_G := vm_inG (i := 25) (by decide +kernel) rfl
theorem sX4_turn : Cond.selects (mY mX4_turn).cls (mY mX4_turn) (mY mX4_turn) ∈ vm_G := vm_inG (i := 26) (by decide +kernel) rfl
theorem sX4_turnByChain : Cond.selects (mY mX4_turnByChain).cls (mY mX4_turnByChain) (mY mX4_turnByChain) ∈ vm_G := vm_inG (i := 27) (by decide +kernel) rfl
theorem sX4_turnBySome : Cond.selects (mY mX4_turnBySome).cls (mY mX4_turnBySome) (mY mX4_turnBySome) ∈ vm_G := vm_inG (i := 28) (by decide +kernel) rfl
theorem sX1_varyWords : Cond.selects (mY mX1_varyWords).cls (mY mX1_varyWords) (mY mX1_varyWords) ∈ vm_G := vm_inG (i := 29) (by decide +kernel) rfl
theorem sX4_keepByChoice : Cond.selects (mY mX4_keepByChoice).cls (mY mX4_keepByChoice) (mY mX4_keepByChoice) ∈ vm_G := vm_inG (i := 30) (by decide +kernel) rfl
theorem sX4_keepByCondition : Cond.selects (mY mX4_keepByCondition).cls (mY mX4_keepByCondition) (mY mX4_keepByCondition) ∈ vm_G := vm_inG (i := 31) (by decide +kernel) rfl
theorem sX4_keepByOne : Cond.selects (mY mX4_keepByOne).cls (mY mX4_keepByOne) (mY mX4_keepByOne) ∈ vm_G := vm_inG (i := 32) (by decide +kernel) rfl
theorem sX4_holds : Cond.selects (mY mX4_holds).cls (mY mX4_holds) (mY mX4_holds) ∈ vm_G := vm_inG (i := 33) (by decide +kernel) rfl
theorem sX4_keepByTwo : Cond.selects (mY mX4_keepByTwo).cls (mY mX4_keepByTwo) (mY mX4_keepByTwo) ∈ vm_G := vm_inG (i := 34) (by decide +kernel) rfl
theorem sX10_isTrueInOtherWorld : Cond.selects (mY mX10_isTrueInOtherWorld).cls (mY mX10_isTrueInOtherWorld) (mY mX10_isTrueInOtherWorld) ∈ vm_G := vm_inG (i := 35) (by decide +kernel) rfl
theorem sX11_acts : Cond.selects (mY mX11_acts).cls (mY mX11_acts) (mY mX11_acts) ∈ vm_G := vm_inG (i := 36) (by decide +kernel) rfl
theorem sX11_first : Cond.selects (mY mX11_first).cls (mY mX11_first) (mY mX11_first) ∈ vm_G := vm_inG (i := 37) (by decide +kernel) rfl
theorem sX11_full : Cond.selects (mY mX11_full).cls (mY mX11_full) (mY mX11_full) ∈ vm_G := vm_inG (i := 38) (by decide +kernel) rfl
theorem sX11_isObject : Cond.selects (mY mX11_isObject).cls (mY mX11_isObject) (mY mX11_isObject) ∈ vm_G := vm_inG (i := 39) (by decide +kernel) rfl
theorem sX11_holds : Cond.selects (mY mX11_holds).cls (mY mX11_holds) (mY mX11_holds) ∈ vm_G := vm_inG (i := 40) (by decide +kernel) rfl
theorem sX11_reads : Cond.selects (mY mX11_reads).cls (mY mX11_reads) (mY mX11_reads) ∈ vm_G := vm_inG (i := 41) (by decide +kernel) rfl
theorem sX11_next : Cond.selects (mY mX11_next).cls (mY mX11_next) (mY mX11_next) ∈ vm_G := vm_inG (i := 42) (by decide +kernel) rfl
theorem sX11_opens : Cond.selects (mY mX11_opens).cls (mY mX11_opens) (mY mX11_opens) ∈ vm_G := vm_inG (i := 43) (by decide +kernel) rfl
theorem sX11_readsFormula : Cond.selects (mY mX11_readsFormula).cls (mY mX11_readsFormula) (mY mX11_readsFormula) ∈ vm_G := vm_inG (i := 44) (by decide +kernel) rfl
theorem sX11_readsUnit : Cond.selects (mY mX11_readsUnit).cls (mY mX11_readsUnit) (mY mX11_readsUnit) ∈ vm_G := vm_inG (i := 45) (by decide +kernel) rfl
theorem sX11_variable : Cond.selects (mY mX11_variable).cls (mY mX11_variable) (mY mX11_variable) ∈ vm_G := vm_inG (i := 46) (by decide +kernel) rfl
theorem sX11_finds : Cond.selects (mY mX11_finds).cls (mY mX11_finds) (mY mX11_finds) ∈ vm_G := vm_inG (i := 47) (by decide +kernel) rfl
theorem sX11_pushes : Cond.selects (mY mX11_pushes).cls (mY mX11_pushes) (mY mX11_pushes) ∈ vm_G := vm_inG (i := 48) (by decide +kernel) rfl
theorem sX11_tests : Cond.selects (mY mX11_tests).cls (mY mX11_tests) (mY mX11_tests) ∈ vm_G := vm_inG (i := 49) (by decide +kernel) rfl
theorem sX11_isSo : Cond.selects (mY mX11_isSo).cls (mY mX11_isSo) (mY mX11_isSo) ∈ vm_G := vm_inG (i := 50) (by decide +kernel) rfl
theorem sX11_pushesTest : Cond.selects (mY mX11_pushesTest).cls (mY mX11_pushesTest) (mY mX11_pushesTest) ∈ vm_G := vm_inG (i := 51) (by decide +kernel) rfl
theorem sX11_endsUnit : Cond.selects (mY mX11_endsUnit).cls (mY mX11_endsUnit) (mY mX11_endsUnit) ∈ vm_G := vm_inG (i := 52) (by decide +kernel) rfl
theorem sX11_hasResults : Cond.selects (mY mX11_hasResults).cls (mY mX11_hasResults) (mY mX11_hasResults) ∈ vm_G := vm_inG (i := 53) (by decide +kernel) rfl
theorem sX11_leads : Cond.selects (mY mX11_leads).cls (mY mX11_leads) (mY mX11_leads) ∈ vm_G := vm_inG (i := 54) (by decide +kernel) rfl
theorem sX11_endsRow : Cond.selects (mY mX11_endsRow).cls (mY mX11_endsRow) (mY mX11_endsRow) ∈ vm_G := vm_inG (i := 55) (by decide +kernel) rfl
theorem sX11_endsChoice : Cond.selects (mY mX11_endsChoice).cls (mY mX11_endsChoice) (mY mX11_endsChoice) ∈ vm_G := vm_inG (i := 56) (by decide +kernel) rfl
theorem sX11_under : Cond.selects (mY mX11_under).cls (mY mX11_under) (mY mX11_under) ∈ vm_G := vm_inG (i := 57) (by decide +kernel) rfl
theorem sX11_endsFormula : Cond.selects (mY mX11_endsFormula).cls (mY mX11_endsFormula) (mY mX11_endsFormula) ∈ vm_G := vm_inG (i := 58) (by decide +kernel) rfl
theorem sX11_takes : Cond.selects (mY mX11_takes).cls (mY mX11_takes) (mY mX11_takes) ∈ vm_G := vm_inG (i := 59) (by decide +kernel) rfl
theorem sX11_isSupported : Cond.selects (mY mX11_isSupported).cls (mY mX11_isSupported) (mY mX11_isSupported) ∈ vm_G := vm_inG (i := 60) (by decide +kernel) rfl
theorem sX11_turns : Cond.selects (mY mX11_turns).cls (mY mX11_turns) (mY mX11_turns) ∈ vm_G := vm_inG (i := 61) (by decide +kernel) rfl
theorem sX11_inContext : Cond.selects (mY mX11_inContext).cls (mY mX11_inContext) (mY mX11_inContext) ∈ vm_G := vm_inG (i := 62) (by decide +kernel) rfl
theorem sX11_size : Cond.selects (mY mX11_size).cls (mY mX11_size) (mY mX11_size) ∈ vm_G := vm_inG (i := 63) (by decide +kernel) rfl
theorem sX11_isThere : Cond.selects (mY mX11_isThere).cls (mY mX11_isThere) (mY mX11_isThere) ∈ vm_G := vm_inG (i := 64) (by decide +kernel) rfl
theorem sX11_isKnown : Cond.selects (mY mX11_isKnown).cls (mY mX11_isKnown) (mY mX11_isKnown) ∈ vm_G := vm_inG (i := 65) (by decide +kernel) rfl
theorem sX11_tries : Cond.selects (mY mX11_tries).cls (mY mX11_tries) (mY mX11_tries) ∈ vm_G := vm_inG (i := 66) (by decide +kernel) rfl
theorem sX11_error : Cond.selects (mY mX11_error).cls (mY mX11_error) (mY mX11_error) ∈ vm_G := vm_inG (i := 67) (by decide +kernel) rfl
theorem sX11_takesContext : Cond.selects (mY mX11_takesContext).cls (mY mX11_takesContext) (mY mX11_takesContext) ∈ vm_G := vm_inG (i := 68) (by decide +kernel) rfl
theorem sX11_isAllSupported : Cond.selects (mY mX11_isAllSupported).cls (mY mX11_isAllSupported) (mY mX11_isAllSupported) ∈ vm_G := vm_inG (i := 69) (by decide +kernel) rfl
theorem wL_7 : Cond.classLink RL 7 RX10 ∈ vm_G := vm_inG (i := 86) (by decide +kernel) rfl
theorem zX10 : Cond.instantiable RX10 10 ∈ vm_G := vm_inG (i := 87) (by decide +kernel) rfl
theorem nL_9 : vm_Lok RL 9 (mY mX10_init) := Or.inl (vm_inG (i := 88) (by decide +kernel) rfl)
theorem oX10_1 : Cond.methodLink RX10 1 Lib.objectInit ∈ vm_G := vm_inG (i := 91) (by decide +kernel) rfl
theorem wX10_7 : Cond.classLink RX10 7 RX7 ∈ vm_G := vm_inG (i := 94) (by decide +kernel) rfl
theorem zX7 : Cond.instantiable RX7 5 ∈ vm_G := vm_inG (i := 95) (by decide +kernel) rfl
theorem nX10_9 : vm_Lok RX10 9 (mY mX7_init) := Or.inl (vm_inG (i := 96) (by decide +kernel) rfl)
theorem oX7_1 : Cond.methodLink RX7 1 Lib.objectInit ∈ vm_G := vm_inG (i := 99) (by decide +kernel) rfl
theorem wX7_7 : Cond.classLink RX7 7 RX9 ∈ vm_G := vm_inG (i := 100) (by decide +kernel) rfl
theorem zX9 : Cond.instantiable RX9 3 ∈ vm_G := vm_inG (i := 101) (by decide +kernel) rfl
theorem nX7_9 : vm_Lok RX7 9 (mY mX9_init) := Or.inr (vm_inN (i := 102) (by decide +kernel) rfl)
theorem oX9_3 : Cond.methodLink RX9 3 Lib.objectInit ∈ vm_G := vm_inG (i := 105) (by decide +kernel) rfl
theorem fX9_9 : vm_Fok RX9 9 9 0 := ⟨_, rfl, by decide +kernel, by decide +kernel, Or.inl (vm_inG (i := 106) (by decide +kernel) rfl)⟩
theorem fX10_84 : vm_Fok RX10 84 9 0 := ⟨_, rfl, by decide +kernel, by decide +kernel, Or.inr (vm_inN (i := 107) (by decide +kernel) rfl)⟩
theorem fX9_15 : vm_Fok RX9 15 9 1 := ⟨_, rfl, by decide +kernel, by decide +kernel, Or.inl (vm_inG (i := 108) (by decide +kernel) rfl)⟩
theorem fX9_15F : ∃ q : vw_C, vCls[9]? = some q ∧ Cond.fieldLink RX9 15 q.1 (q.2.1 1).2.1 (q.2.1 1).2.2.1 ∈ vm_G := ⟨_, rfl, vm_inG (i := 108) (by decide +kernel) rfl⟩
theorem fX9_19 : vm_Fok RX9 19 9 2 := ⟨_, rfl, by decide +kernel, by decide +kernel, Or.inl (vm_inG (i := 109) (by decide +kernel) rfl)⟩
theorem fX9_19F : ∃ q : vw_C, vCls[9]? = some q ∧ Cond.fieldLink RX9 19 q.1 (q.2.1 2).2.1 (q.2.1 2).2.2.1 ∈ vm_G := ⟨_, rfl, vm_inG (i := 109) (by decide +kernel) rfl⟩
theorem wX7_16 : Cond.classLink RX7 16 RX1 ∈ vm_G := vm_inG (i := 118) (by decide +kernel) rfl
theorem zX1 : Cond.instantiable RX1 1 ∈ vm_G := vm_inG (i := 119) (by decide +kernel) rfl
theorem nX7_18 : vm_Lok RX7 18 (mY mX1_init) := Or.inr (vm_inN (i := 120) (by decide +kernel) rfl)
theorem oX1_3 : Cond.methodLink RX1 3 Lib.objectInit ∈ vm_G := vm_inG (i := 123) (by decide +kernel) rfl
theorem fX1_11 : vm_Fok RX1 11 1 0 := ⟨_, rfl, by decide +kernel, by decide +kernel, Or.inl (vm_inG (i := 124) (by decide +kernel) rfl)⟩
theorem fX1_11F : ∃ q : vw_C, vCls[1]? = some q ∧ Cond.fieldLink RX1 11 q.1 (q.2.1 0).2.1 (q.2.1 0).2.2.1 ∈ vm_G := ⟨_, rfl, vm_inG (i := 124) (by decide +kernel) rfl⟩
theorem nX7_23 : vm_Lok RX7 23 (mY mX1_makeFirst) := Or.inl (vm_inG (i := 129) (by decide +kernel) rfl)
theorem nX1_15 : vm_Lok RX1 15 (mY mX1_fill) := Or.inl (vm_inG (i := 133) (by decide +kernel) rfl)
theorem fX7_10 : vm_Fok RX7 10 7 0 := ⟨_, rfl, by decide +kernel, by decide +kernel, Or.inl (vm_inG (i := 137) (by decide +kernel) rfl)⟩
theorem fX7_10F : ∃ q : vw_C, vCls[7]? = some q ∧ Cond.fieldLink RX7 10 q.1 (q.2.1 0).2.1 (q.2.1 0).2.2.1 ∈ vm_G := ⟨_, rfl, vm_inG (i := 137) (by decide +kernel) rfl⟩
theorem fX10_48 : vm_Fok RX10 48 7 0 := ⟨_, rfl, by decide +kernel, by decide +kernel, Or.inr (vm_inN (i := 138) (by decide +kernel) rfl)⟩
theorem fX7_19 : vm_Fok RX7 19 7 1 := ⟨_, rfl, by decide +kernel, by decide +kernel, Or.inl (vm_inG (i := 139) (by decide +kernel) rfl)⟩
theorem fX7_19F : ∃ q : vw_C, vCls[7]? = some q ∧ Cond.fieldLink RX7 19 q.1 (q.2.1 1).2.1 (q.2.1 1).2.2.1 ∈ vm_G := ⟨_, rfl, vm_inG (i := 139) (by decide +kernel) rfl⟩
theorem fX0_25 : vm_Fok RX0 25 7 1 := ⟨_, rfl, by decide +kernel, by decide +kernel, Or.inr (vm_inN (i := 140) (by decide +kernel) rfl)⟩
theorem fX10_174 : vm_Fok RX10 174 7 1 := ⟨_, rfl, by decide +kernel, by decide +kernel, Or.inr (vm_inN (i := 141) (by decide +kernel) rfl)⟩
theorem fX7_26 : vm_Fok RX7 26 7 2 := ⟨_, rfl, by decide +kernel, by decide +kernel, Or.inl (vm_inG (i := 142) (by decide +kernel) rfl)⟩
theorem fX10_152 : vm_Fok RX10 152 7 2 := ⟨_, rfl, by decide +kernel, by decide +kernel, Or.inr (vm_inN (i := 143) (by decide +kernel) rfl)⟩
theorem fX0_63 : vm_Fok RX0 63 7 3 := ⟨_, rfl, by decide +kernel, by decide +kernel, Or.inr (vm_inN (i := 144) (by decide +kernel) rfl)⟩
theorem fX7_37 : vm_Fok RX7 37 7 3 := ⟨_, rfl, by decide +kernel, by decide +kernel, Or.inl (vm_inG (i := 145) (by decide +kernel) rfl)⟩
theorem fX10_193 : vm_Fok RX10 193 7 3 := ⟨_, rfl, by decide +kernel, by decide +kernel, Or.inr (vm_inN (i := 146) (by decide +kernel) rfl)⟩
theorem fX7_41 : vm_Fok RX7 41 7 4 := ⟨_, rfl, by decide +kernel, by decide +kernel, Or.inl (vm_inG (i := 147) (by decide +kernel) rfl)⟩
theorem fX10_213 : vm_Fok RX10 213 7 4 := ⟨_, rfl, by decide +kernel, by decide +kernel, Or.inr (vm_inN (i := 148) (by decide +kernel) rfl)⟩
theorem wX10_16 : Cond.classLink RX10 16 RX2 ∈ vm_G := vm_inG (i := 160) (by decide +kernel) rfl
theorem zX2 : Cond.instantiable RX2 3 ∈ vm_G := vm_inG (i := 161) (by decide +kernel) rfl
theorem nX10_18 : vm_Lok RX10 18 (mY mX2_init) := Or.inl (vm_inG (i := 162) (by decide +kernel) rfl)
theorem oX2_3 : Cond.methodLink RX2 3 Lib.objectInit ∈ vm_G := vm_inG (i := 165) (by decide +kernel) rfl
theorem wX2_9 : Cond.classLink RX2 9 RX7 ∈ vm_G := vm_inG (i := 166) (by decide +kernel) rfl
theorem nX2_17 : vm_Lok RX2 17 (mY mX7_init) := Or.inl (vm_inG (i := 168) (by decide +kernel) rfl)
theorem fX2_11 : vm_Fok RX2 11 2 0 := ⟨_, rfl, by decide +kernel, by decide +kernel, Or.inl (vm_inG (i := 169) (by decide +kernel) rfl)⟩
theorem fX2_11F : ∃ q : vw_C, vCls[2]? = some q ∧ Cond.fieldLink RX2 11 q.1 (q.2.1 0).2.1 (q.2.1 0).2.2.1 ∈ vm_G := ⟨_, rfl, vm_inG (i := 169) (by decide +kernel) rfl⟩
theorem fX2_18 : vm_Fok RX2 18 2 1 := ⟨_, rfl, by decide +kernel, by decide +kernel, Or.inl (vm_inG (i := 170) (by decide +kernel) rfl)⟩
theorem fX2_26 : vm_Fok RX2 26 2 2 := ⟨_, rfl, by decide +kernel, by decide +kernel, Or.inl (vm_inG (i := 171) (by decide +kernel) rfl)⟩
theorem fX10_241 : vm_Fok RX10 241 2 2 := ⟨_, rfl, by decide +kernel, by decide +kernel, Or.inr (vm_inN (i := 172) (by decide +kernel) rfl)⟩
theorem wX10_23 : Cond.classLink RX10 23 RX8 ∈ vm_G := vm_inG (i := 180) (by decide +kernel) rfl
theorem zX8 : Cond.instantiable RX8 2 ∈ vm_G := vm_inG (i := 181) (by decide +kernel) rfl
theorem nX10_25 : vm_Lok RX10 25 (mY mX8_init) := Or.inr (vm_inN (i := 182) (by decide +kernel) rfl)
theorem oX8_3 : Cond.methodLink RX8 3 Lib.objectInit ∈ vm_G := vm_inG (i := 185) (by decide +kernel) rfl
theorem fX8_9 : vm_Fok RX8 9 8 0 := ⟨_, rfl, by decide +kernel, by decide +kernel, Or.inl (vm_inG (i := 186) (by decide +kernel) rfl)⟩
theorem fX8_9F : ∃ q : vw_C, vCls[8]? = some q ∧ Cond.fieldLink RX8 9 q.1 (q.2.1 0).2.1 (q.2.1 0).2.2.1 ∈ vm_G := ⟨_, rfl, vm_inG (i := 186) (by decide +kernel) rfl⟩
theorem fX8_15 : vm_Fok RX8 15 8 1 := ⟨_, rfl, by decide +kernel, by decide +kernel, Or.inl (vm_inG (i := 187) (by decide +kernel) rfl)⟩
theorem fX6_48 : vm_Fok RX6 48 8 1 := ⟨_, rfl, by decide +kernel, by decide +kernel, Or.inr (vm_inN (i := 188) (by decide +kernel) rfl)⟩
theorem fX10_142 : vm_Fok RX10 142 8 1 := ⟨_, rfl, by decide +kernel, by decide +kernel, Or.inr (vm_inN (i := 189) (by decide +kernel) rfl)⟩
theorem wX10_30 : Cond.classLink RX10 30 RX6 ∈ vm_G := vm_inG (i := 196) (by decide +kernel) rfl
theorem zX6 : Cond.instantiable RX6 5 ∈ vm_G := vm_inG (i := 197) (by decide +kernel) rfl
theorem nX10_32 : vm_Lok RX10 32 (mY mX6_init) := Or.inl (vm_inG (i := 198) (by decide +kernel) rfl)
theorem oX6_3 : Cond.methodLink RX6 3 Lib.objectInit ∈ vm_G := vm_inG (i := 201) (by decide +kernel) rfl
theorem wX6_11 : Cond.classLink RX6 11 RX5 ∈ vm_G := vm_inG (i := 202) (by decide +kernel) rfl
theorem zX5 : Cond.instantiable RX5 12 ∈ vm_G := vm_inG (i := 204) (by decide +kernel) rfl
theorem nX6_21 : vm_Lok RX6 21 (mY mX5_init) := Or.inr (vm_inN (i := 205) (by decide +kernel) rfl)
theorem oX5_1 : Cond.methodLink RX5 1 Lib.objectInit ∈ vm_G := vm_inG (i := 208) (by decide +kernel) rfl
theorem wX5_7 : Cond.classLink RX5 7 RX1 ∈ vm_G := vm_inG (i := 209) (by decide +kernel) rfl
theorem nX5_9 : vm_Lok RX5 9 (mY mX1_init) := Or.inr (vm_inN (i := 210) (by decide +kernel) rfl)
theorem fX4_15 : vm_Fok RX4 15 5 0 := ⟨_, rfl, by decide +kernel, by decide +kernel, Or.inr (vm_inN (i := 211) (by decide +kernel) rfl)⟩
theorem fX0_46 : vm_Fok RX0 46 5 0 := ⟨_, rfl, by decide +kernel, by decide +kernel, Or.inr (vm_inN (i := 212) (by decide +kernel) rfl)⟩
theorem fX3_25 : vm_Fok RX3 25 5 0 := ⟨_, rfl, by decide +kernel, by decide +kernel, Or.inr (vm_inN (i := 213) (by decide +kernel) rfl)⟩
theorem fX6_122 : vm_Fok RX6 122 5 0 := ⟨_, rfl, by decide +kernel, by decide +kernel, Or.inr (vm_inN (i := 214) (by decide +kernel) rfl)⟩
theorem fX4_116 : vm_Fok RX4 116 5 1 := ⟨_, rfl, by decide +kernel, by decide +kernel, Or.inr (vm_inN (i := 215) (by decide +kernel) rfl)⟩
theorem fX6_106 : vm_Fok RX6 106 5 1 := ⟨_, rfl, by decide +kernel, by decide +kernel, Or.inr (vm_inN (i := 216) (by decide +kernel) rfl)⟩
theorem fX0_71 : vm_Fok RX0 71 5 2 := ⟨_, rfl, by decide +kernel, by decide +kernel, Or.inr (vm_inN (i := 217) (by decide +kernel) rfl)⟩
theorem fX6_56 : vm_Fok RX6 56 5 2 := ⟨_, rfl, by decide +kernel, by decide +kernel, Or.inr (vm_inN (i := 218) (by decide +kernel) rfl)⟩
theorem fX3_40 : vm_Fok RX3 40 5 2 := ⟨_, rfl, by decide +kernel, by decide +kernel, Or.inr (vm_inN (i := 219) (by decide +kernel) rfl)⟩
theorem fX3_50 : vm_Fok RX3 50 5 3 := ⟨_, rfl, by decide +kernel, by decide +kernel, Or.inr (vm_inN (i := 220) (by decide +kernel) rfl)⟩
theorem fX6_109 : vm_Fok RX6 109 5 3 := ⟨_, rfl, by decide +kernel, by decide +kernel, Or.inr (vm_inN (i := 221) (by decide +kernel) rfl)⟩
theorem fX3_37 : vm_Fok RX3 37 5 4 := ⟨_, rfl, by decide +kernel, by decide +kernel, Or.inr (vm_inN (i := 222) (by decide +kernel) rfl)⟩
theorem fX4_82 : vm_Fok RX4 82 5 4 := ⟨_, rfl, by decide +kernel, by decide +kernel, Or.inr (vm_inN (i := 223) (by decide +kernel) rfl)⟩
theorem fX6_112 : vm_Fok RX6 112 5 4 := ⟨_, rfl, by decide +kernel, by decide +kernel, Or.inr (vm_inN (i := 224) (by decide +kernel) rfl)⟩
theorem fX3_47 : vm_Fok RX3 47 5 5 := ⟨_, rfl, by decide +kernel, by decide +kernel, Or.inr (vm_inN (i := 225) (by decide +kernel) rfl)⟩
theorem fX4_109 : vm_Fok RX4 109 5 5 := ⟨_, rfl, by decide +kernel, by decide +kernel, Or.inr (vm_inN (i := 226) (by decide +kernel) rfl)⟩
theorem fX6_115 : vm_Fok RX6 115 5 5 := ⟨_, rfl, by decide +kernel, by decide +kernel, Or.inr (vm_inN (i := 227) (by decide +kernel) rfl)⟩
theorem fX5_26 : vm_Fok RX5 26 5 6 := ⟨_, rfl, by decide +kernel, by decide +kernel, Or.inl (vm_inG (i := 228) (by decide +kernel) rfl)⟩
theorem fX0_40 : vm_Fok RX0 40 5 6 := ⟨_, rfl, by decide +kernel, by decide +kernel, Or.inr (vm_inN (i := 229) (by decide +kernel) rfl)⟩
theorem fX4_28 : vm_Fok RX4 28 5 6 := ⟨_, rfl, by decide +kernel, by decide +kernel, Or.inr (vm_inN (i := 230) (by decide +kernel) rfl)⟩
theorem fX3_53 : vm_Fok RX3 53 5 6 := ⟨_, rfl, by decide +kernel, by decide +kernel, Or.inr (vm_inN (i := 231) (by decide +kernel) rfl)⟩
theorem fX10_165 : vm_Fok RX10 165 5 6 := ⟨_, rfl, by decide +kernel, by decide +kernel, Or.inr (vm_inN (i := 232) (by decide +kernel) rfl)⟩
theorem fX6_125 : vm_Fok RX6 125 5 6 := ⟨_, rfl, by decide +kernel, by decide +kernel, Or.inr (vm_inN (i := 233) (by decide +kernel) rfl)⟩
theorem fX5_19 : vm_Fok RX5 19 5 7 := ⟨_, rfl, by decide +kernel, by decide +kernel, Or.inl (vm_inG (i := 234) (by decide +kernel) rfl)⟩
theorem fX4_67 : vm_Fok RX4 67 5 7 := ⟨_, rfl, by decide +kernel, by decide +kernel, Or.inr (vm_inN (i := 235) (by decide +kernel) rfl)⟩
theorem fX6_129 : vm_Fok RX6 129 5 7 := ⟨_, rfl, by decide +kernel, by decide +kernel, Or.inr (vm_inN (i := 236) (by decide +kernel) rfl)⟩
theorem fX5_29 : vm_Fok RX5 29 5 8 := ⟨_, rfl, by decide +kernel, by decide +kernel, Or.inl (vm_inG (i := 237) (by decide +kernel) rfl)⟩
theorem fX0_74 : vm_Fok RX0 74 5 8 := ⟨_, rfl, by decide +kernel, by decide +kernel, Or.inr (vm_inN (i := 238) (by decide +kernel) rfl)⟩
theorem fX3_57 : vm_Fok RX3 57 5 8 := ⟨_, rfl, by decide +kernel, by decide +kernel, Or.inr (vm_inN (i := 239) (by decide +kernel) rfl)⟩
theorem fX4_73 : vm_Fok RX4 73 5 8 := ⟨_, rfl, by decide +kernel, by decide +kernel, Or.inr (vm_inN (i := 240) (by decide +kernel) rfl)⟩
theorem fX10_171 : vm_Fok RX10 171 5 8 := ⟨_, rfl, by decide +kernel, by decide +kernel, Or.inr (vm_inN (i := 241) (by decide +kernel) rfl)⟩
theorem fX6_132 : vm_Fok RX6 132 5 8 := ⟨_, rfl, by decide +kernel, by decide +kernel, Or.inr (vm_inN (i := 242) (by decide +kernel) rfl)⟩
theorem fX5_23 : vm_Fok RX5 23 5 9 := ⟨_, rfl, by decide +kernel, by decide +kernel, Or.inl (vm_inG (i := 243) (by decide +kernel) rfl)⟩
theorem fX4_70 : vm_Fok RX4 70 5 9 := ⟨_, rfl, by decide +kernel, by decide +kernel, Or.inr (vm_inN (i := 244) (by decide +kernel) rfl)⟩
theorem fX6_135 : vm_Fok RX6 135 5 9 := ⟨_, rfl, by decide +kernel, by decide +kernel, Or.inr (vm_inN (i := 245) (by decide +kernel) rfl)⟩
theorem fX5_10 : vm_Fok RX5 10 5 10 := ⟨_, rfl, by decide +kernel, by decide +kernel, Or.inl (vm_inG (i := 246) (by decide +kernel) rfl)⟩
theorem fX5_10F : ∃ q : vw_C, vCls[5]? = some q ∧ Cond.fieldLink RX5 10 q.1 (q.2.1 10).2.1 (q.2.1 10).2.2.1 ∈ vm_G := ⟨_, rfl, vm_inG (i := 246) (by decide +kernel) rfl⟩
theorem fX4_32 : vm_Fok RX4 32 5 10 := ⟨_, rfl, by decide +kernel, by decide +kernel, Or.inr (vm_inN (i := 247) (by decide +kernel) rfl)⟩
theorem fX5_16 : vm_Fok RX5 16 5 11 := ⟨_, rfl, by decide +kernel, by decide +kernel, Or.inl (vm_inG (i := 248) (by decide +kernel) rfl)⟩
theorem fX5_16F : ∃ q : vw_C, vCls[5]? = some q ∧ Cond.fieldLink RX5 16 q.1 (q.2.1 11).2.1 (q.2.1 11).2.2.1 ∈ vm_G := ⟨_, rfl, vm_inG (i := 248) (by decide +kernel) rfl⟩
theorem fX4_89 : vm_Fok RX4 89 5 11 := ⟨_, rfl, by decide +kernel, by decide +kernel, Or.inr (vm_inN (i := 249) (by decide +kernel) rfl)⟩
theorem fX6_17 : vm_Fok RX6 17 6 0 := ⟨_, rfl, by decide +kernel, by decide +kernel, Or.inl (vm_inG (i := 275) (by decide +kernel) rfl)⟩
theorem fX6_17F : ∃ q : vw_C, vCls[6]? = some q ∧ Cond.fieldLink RX6 17 q.1 (q.2.1 0).2.1 (q.2.1 0).2.2.1 ∈ vm_G := ⟨_, rfl, vm_inG (i := 275) (by decide +kernel) rfl⟩
theorem fX6_13 : vm_Fok RX6 13 6 1 := ⟨_, rfl, by decide +kernel, by decide +kernel, Or.inl (vm_inG (i := 276) (by decide +kernel) rfl)⟩
theorem fX6_13F : ∃ q : vw_C, vCls[6]? = some q ∧ Cond.fieldLink RX6 13 q.1 (q.2.1 1).2.1 (q.2.1 1).2.2.1 ∈ vm_G := ⟨_, rfl, vm_inG (i := 276) (by decide +kernel) rfl⟩
theorem fX6_22 : vm_Fok RX6 22 6 2 := ⟨_, rfl, by decide +kernel, by decide +kernel, Or.inl (vm_inG (i := 277) (by decide +kernel) rfl)⟩
theorem fX6_26 : vm_Fok RX6 26 6 3 := ⟨_, rfl, by decide +kernel, by decide +kernel, Or.inl (vm_inG (i := 278) (by decide +kernel) rfl)⟩
theorem fX6_29 : vm_Fok RX6 29 6 4 := ⟨_, rfl, by decide +kernel, by decide +kernel, Or.inl (vm_inG (i := 279) (by decide +kernel) rfl)⟩
theorem fX10_149 : vm_Fok RX10 149 6 4 := ⟨_, rfl, by decide +kernel, by decide +kernel, Or.inr (vm_inN (i := 280) (by decide +kernel) rfl)⟩
theorem wX10_39 : Cond.classLink RX10 39 RX3 ∈ vm_G := vm_inG (i := 292) (by decide +kernel) rfl
theorem zX3 : Cond.instantiable RX3 3 ∈ vm_G := vm_inG (i := 293) (by decide +kernel) rfl
theorem nX10_41 : vm_Lok RX10 41 (mY mX3_init) := Or.inr (vm_inN (i := 294) (by decide +kernel) rfl)
theorem oX3_3 : Cond.methodLink RX3 3 Lib.objectInit ∈ vm_G := vm_inG (i := 297) (by decide +kernel) rfl
theorem fX3_22 : vm_Fok RX3 22 3 0 := ⟨_, rfl, by decide +kernel, by decide +kernel, Or.inl (vm_inG (i := 298) (by decide +kernel) rfl)⟩
theorem fX10_206 : vm_Fok RX10 206 3 0 := ⟨_, rfl, by decide +kernel, by decide +kernel, Or.inr (vm_inN (i := 299) (by decide +kernel) rfl)⟩
theorem fX3_9 : vm_Fok RX3 9 3 1 := ⟨_, rfl, by decide +kernel, by decide +kernel, Or.inl (vm_inG (i := 300) (by decide +kernel) rfl)⟩
theorem fX10_159 : vm_Fok RX10 159 3 1 := ⟨_, rfl, by decide +kernel, by decide +kernel, Or.inr (vm_inN (i := 301) (by decide +kernel) rfl)⟩
theorem fX3_15 : vm_Fok RX3 15 3 2 := ⟨_, rfl, by decide +kernel, by decide +kernel, Or.inl (vm_inG (i := 302) (by decide +kernel) rfl)⟩
theorem fX10_162 : vm_Fok RX10 162 3 2 := ⟨_, rfl, by decide +kernel, by decide +kernel, Or.inr (vm_inN (i := 303) (by decide +kernel) rfl)⟩
theorem wX10_46 : Cond.classLink RX10 46 RX4 ∈ vm_G := vm_inG (i := 311) (by decide +kernel) rfl
theorem zX4 : Cond.instantiable RX4 1 ∈ vm_G := vm_inG (i := 312) (by decide +kernel) rfl
theorem nX10_52 : vm_Lok RX10 52 (mY mX4_init) := Or.inl (vm_inG (i := 313) (by decide +kernel) rfl)
theorem oX4_3 : Cond.methodLink RX4 3 Lib.objectInit ∈ vm_G := vm_inG (i := 316) (by decide +kernel) rfl
theorem fX4_9 : vm_Fok RX4 9 4 0 := ⟨_, rfl, by decide +kernel, by decide +kernel, Or.inl (vm_inG (i := 317) (by decide +kernel) rfl)⟩
theorem fX4_9F : ∃ q : vw_C, vCls[4]? = some q ∧ Cond.fieldLink RX4 9 q.1 (q.2.1 0).2.1 (q.2.1 0).2.2.1 ∈ vm_G := ⟨_, rfl, vm_inG (i := 317) (by decide +kernel) rfl⟩
theorem wX10_59 : Cond.classLink RX10 59 RX0 ∈ vm_G := vm_inG (i := 321) (by decide +kernel) rfl
theorem zX0 : Cond.instantiable RX0 5 ∈ vm_G := vm_inG (i := 322) (by decide +kernel) rfl
theorem nX10_61 : vm_Lok RX10 61 (mY mX0_init) := Or.inl (vm_inG (i := 323) (by decide +kernel) rfl)
theorem oX0_3 : Cond.methodLink RX0 3 Lib.objectInit ∈ vm_G := vm_inG (i := 326) (by decide +kernel) rfl
theorem wX0_9 : Cond.classLink RX0 9 RX1 ∈ vm_G := vm_inG (i := 327) (by decide +kernel) rfl
theorem nX0_11 : vm_Lok RX0 11 (mY mX1_init) := Or.inr (vm_inN (i := 328) (by decide +kernel) rfl)
theorem fX0_21 : vm_Fok RX0 21 0 0 := ⟨_, rfl, by decide +kernel, by decide +kernel, Or.inl (vm_inG (i := 329) (by decide +kernel) rfl)⟩
theorem fX0_21F : ∃ q : vw_C, vCls[0]? = some q ∧ Cond.fieldLink RX0 21 q.1 (q.2.1 0).2.1 (q.2.1 0).2.2.1 ∈ vm_G := ⟨_, rfl, vm_inG (i := 329) (by decide +kernel) rfl⟩
theorem fX0_12 : vm_Fok RX0 12 0 1 := ⟨_, rfl, by decide +kernel, by decide +kernel, Or.inl (vm_inG (i := 330) (by decide +kernel) rfl)⟩
theorem fX0_12F : ∃ q : vw_C, vCls[0]? = some q ∧ Cond.fieldLink RX0 12 q.1 (q.2.1 1).2.1 (q.2.1 1).2.2.1 ∈ vm_G := ⟨_, rfl, vm_inG (i := 330) (by decide +kernel) rfl⟩
theorem fX10_201 : vm_Fok RX10 201 0 1 := ⟨_, rfl, by decide +kernel, by decide +kernel, Or.inr (vm_inN (i := 331) (by decide +kernel) rfl)⟩
theorem fX0_18 : vm_Fok RX0 18 0 2 := ⟨_, rfl, by decide +kernel, by decide +kernel, Or.inl (vm_inG (i := 332) (by decide +kernel) rfl)⟩
theorem fX0_18F : ∃ q : vw_C, vCls[0]? = some q ∧ Cond.fieldLink RX0 18 q.1 (q.2.1 2).2.1 (q.2.1 2).2.2.1 ∈ vm_G := ⟨_, rfl, vm_inG (i := 332) (by decide +kernel) rfl⟩
theorem fX0_32 : vm_Fok RX0 32 0 3 := ⟨_, rfl, by decide +kernel, by decide +kernel, Or.inl (vm_inG (i := 333) (by decide +kernel) rfl)⟩
theorem fX10_209 : vm_Fok RX10 209 0 3 := ⟨_, rfl, by decide +kernel, by decide +kernel, Or.inr (vm_inN (i := 334) (by decide +kernel) rfl)⟩
theorem fX0_36 : vm_Fok RX0 36 0 4 := ⟨_, rfl, by decide +kernel, by decide +kernel, Or.inl (vm_inG (i := 335) (by decide +kernel) rfl)⟩
theorem fX10_214 : vm_Fok RX10 214 0 4 := ⟨_, rfl, by decide +kernel, by decide +kernel, Or.inr (vm_inN (i := 336) (by decide +kernel) rfl)⟩
theorem wX10_68 : Cond.classLink RX10 68 RX9 ∈ vm_G := vm_inG (i := 348) (by decide +kernel) rfl
theorem nX10_70 : vm_Lok RX10 70 (mY mX9_init) := Or.inr (vm_inN (i := 349) (by decide +kernel) rfl)
theorem wX10_77 : Cond.classLink RX10 77 RX1 ∈ vm_G := vm_inG (i := 350) (by decide +kernel) rfl
theorem nX10_79 : vm_Lok RX10 79 (mY mX1_init) := Or.inr (vm_inN (i := 351) (by decide +kernel) rfl)
theorem fX10_10 : vm_Fok RX10 10 10 0 := ⟨_, rfl, by decide +kernel, by decide +kernel, Or.inl (vm_inG (i := 352) (by decide +kernel) rfl)⟩
theorem fX10_10F : ∃ q : vw_C, vCls[10]? = some q ∧ Cond.fieldLink RX10 10 q.1 (q.2.1 0).2.1 (q.2.1 0).2.2.1 ∈ vm_G := ⟨_, rfl, vm_inG (i := 352) (by decide +kernel) rfl⟩
theorem fX10_19 : vm_Fok RX10 19 10 1 := ⟨_, rfl, by decide +kernel, by decide +kernel, Or.inl (vm_inG (i := 353) (by decide +kernel) rfl)⟩
theorem fX10_19F : ∃ q : vw_C, vCls[10]? = some q ∧ Cond.fieldLink RX10 19 q.1 (q.2.1 1).2.1 (q.2.1 1).2.2.1 ∈ vm_G := ⟨_, rfl, vm_inG (i := 353) (by decide +kernel) rfl⟩
theorem fX10_26 : vm_Fok RX10 26 10 2 := ⟨_, rfl, by decide +kernel, by decide +kernel, Or.inl (vm_inG (i := 354) (by decide +kernel) rfl)⟩
theorem fX10_26F : ∃ q : vw_C, vCls[10]? = some q ∧ Cond.fieldLink RX10 26 q.1 (q.2.1 2).2.1 (q.2.1 2).2.2.1 ∈ vm_G := ⟨_, rfl, vm_inG (i := 354) (by decide +kernel) rfl⟩
theorem fX10_35 : vm_Fok RX10 35 10 3 := ⟨_, rfl, by decide +kernel, by decide +kernel, Or.inl (vm_inG (i := 355) (by decide +kernel) rfl)⟩
theorem fX10_35F : ∃ q : vw_C, vCls[10]? = some q ∧ Cond.fieldLink RX10 35 q.1 (q.2.1 3).2.1 (q.2.1 3).2.2.1 ∈ vm_G := ⟨_, rfl, vm_inG (i := 355) (by decide +kernel) rfl⟩
theorem fX10_42 : vm_Fok RX10 42 10 4 := ⟨_, rfl, by decide +kernel, by decide +kernel, Or.inl (vm_inG (i := 356) (by decide +kernel) rfl)⟩
theorem fX10_42F : ∃ q : vw_C, vCls[10]? = some q ∧ Cond.fieldLink RX10 42 q.1 (q.2.1 4).2.1 (q.2.1 4).2.2.1 ∈ vm_G := ⟨_, rfl, vm_inG (i := 356) (by decide +kernel) rfl⟩
theorem fX10_55 : vm_Fok RX10 55 10 5 := ⟨_, rfl, by decide +kernel, by decide +kernel, Or.inl (vm_inG (i := 357) (by decide +kernel) rfl)⟩
theorem fX10_55F : ∃ q : vw_C, vCls[10]? = some q ∧ Cond.fieldLink RX10 55 q.1 (q.2.1 5).2.1 (q.2.1 5).2.2.1 ∈ vm_G := ⟨_, rfl, vm_inG (i := 357) (by decide +kernel) rfl⟩
theorem fX10_64 : vm_Fok RX10 64 10 6 := ⟨_, rfl, by decide +kernel, by decide +kernel, Or.inl (vm_inG (i := 358) (by decide +kernel) rfl)⟩
theorem fX10_64F : ∃ q : vw_C, vCls[10]? = some q ∧ Cond.fieldLink RX10 64 q.1 (q.2.1 6).2.1 (q.2.1 6).2.2.1 ∈ vm_G := ⟨_, rfl, vm_inG (i := 358) (by decide +kernel) rfl⟩
theorem fX10_71 : vm_Fok RX10 71 10 7 := ⟨_, rfl, by decide +kernel, by decide +kernel, Or.inl (vm_inG (i := 359) (by decide +kernel) rfl)⟩
theorem fX10_71F : ∃ q : vw_C, vCls[10]? = some q ∧ Cond.fieldLink RX10 71 q.1 (q.2.1 7).2.1 (q.2.1 7).2.2.1 ∈ vm_G := ⟨_, rfl, vm_inG (i := 359) (by decide +kernel) rfl⟩
theorem fX10_74 : vm_Fok RX10 74 10 8 := ⟨_, rfl, by decide +kernel, by decide +kernel, Or.inl (vm_inG (i := 360) (by decide +kernel) rfl)⟩
theorem fX10_74F : ∃ q : vw_C, vCls[10]? = some q ∧ Cond.fieldLink RX10 74 q.1 (q.2.1 8).2.1 (q.2.1 8).2.2.1 ∈ vm_G := ⟨_, rfl, vm_inG (i := 360) (by decide +kernel) rfl⟩
theorem fX10_80 : vm_Fok RX10 80 10 9 := ⟨_, rfl, by decide +kernel, by decide +kernel, Or.inl (vm_inG (i := 361) (by decide +kernel) rfl)⟩
theorem fX10_80F : ∃ q : vw_C, vCls[10]? = some q ∧ Cond.fieldLink RX10 80 q.1 (q.2.1 9).2.1 (q.2.1 9).2.2.1 ∈ vm_G := ⟨_, rfl, vm_inG (i := 361) (by decide +kernel) rfl⟩
theorem nL_13 : vm_Lok RL 13 (mY mX10_setIndividuals) := Or.inl (vm_inG (i := 383) (by decide +kernel) rfl)
theorem nX10_88 : vm_Lok RX10 88 (mY mX2_record) := Or.inl (vm_inG (i := 387) (by decide +kernel) rfl)
theorem nX2_22 : vm_Lok RX2 22 (mY mX7_copyFrom) := Or.inl (vm_inG (i := 391) (by decide +kernel) rfl)
theorem nX7_30 : vm_Lok RX7 30 (mY mX9_copyFrom) := Or.inl (vm_inG (i := 395) (by decide +kernel) rfl)
theorem nX7_34 : vm_Lok RX7 34 (mY mX1_copyFrom) := Or.inl (vm_inG (i := 399) (by decide +kernel) rfl)
theorem nX2_29 : Cond.methodLink RX2 29 Lib.Math.min.name ∈ vm_G := vm_inG (i := 403) (by decide +kernel) rfl
theorem nX10_92 : vm_Lok RX10 92 (mY mX9_begin) := Or.inl (vm_inG (i := 406) (by decide +kernel) rfl)
theorem nX10_96 : vm_Lok RX10 96 (mY mX7_forgetContext) := Or.inl (vm_inG (i := 410) (by decide +kernel) rfl)
theorem nL_18 : vm_Lok RL 18 (mY mX10_setPredicate) := Or.inl (vm_inG (i := 414) (by decide +kernel) rfl)
theorem nX10_99 : vm_Lok RX10 99 (mY mX10_isPredicate) := Or.inl (vm_inG (i := 418) (by decide +kernel) rfl)
theorem nX10_103 : vm_Lok RX10 103 (mY mX9_everybody) := Or.inl (vm_inG (i := 421) (by decide +kernel) rfl)
theorem nX10_107 : vm_Lok RX10 107 (mY mX9_setOf) := Or.inl (vm_inG (i := 425) (by decide +kernel) rfl)
theorem nX9_22 : vm_Lok RX9 22 (mY mX10_isPredicate) := Or.inr (vm_inN (i := 429) (by decide +kernel) rfl)
theorem nX10_111 : vm_Lok RX10 111 (mY mX9_giveSet) := Or.inl (vm_inG (i := 430) (by decide +kernel) rfl)
theorem nL_23 : vm_Lok RL 23 (mY mX10_setPair) := Or.inl (vm_inG (i := 434) (by decide +kernel) rfl)
theorem nX10_115 : vm_Lok RX10 115 (mY mX10_isRelation) := Or.inl (vm_inG (i := 438) (by decide +kernel) rfl)
theorem nX10_118 : vm_Lok RX10 118 (mY mX10_isIndividual) := Or.inl (vm_inG (i := 441) (by decide +kernel) rfl)
theorem nX10_121 : vm_Lok RX10 121 (mY mX10_isSwitch) := Or.inl (vm_inG (i := 445) (by decide +kernel) rfl)
theorem nX10_124 : vm_Lok RX10 124 (mY mX9_hasPair) := Or.inl (vm_inG (i := 448) (by decide +kernel) rfl)
theorem nX9_26 : vm_Lok RX9 26 (mY mX10_isRelation) := Or.inr (vm_inN (i := 452) (by decide +kernel) rfl)
theorem nX10_128 : vm_Lok RX10 128 (mY mX9_putPair) := Or.inl (vm_inG (i := 453) (by decide +kernel) rfl)
theorem nL_28 : vm_Lok RL 28 (mY mX10_individuals) := Or.inl (vm_inG (i := 457) (by decide +kernel) rfl)
theorem nL_33 : vm_Lok RL 33 (mY mX10_predicate) := Or.inl (vm_inG (i := 461) (by decide +kernel) rfl)
theorem nL_37 : vm_Lok RL 37 (mY mX10_relationHolds) := Or.inl (vm_inG (i := 465) (by decide +kernel) rfl)
theorem nX10_132 : vm_Lok RX10 132 (mY mX10_isObject) := Or.inl (vm_inG (i := 469) (by decide +kernel) rfl)
theorem nX10_135 : vm_Lok RX10 135 (mY mX9_relates) := Or.inl (vm_inG (i := 473) (by decide +kernel) rfl)
theorem nL_42 : vm_Lok RL 42 (mY mX10_type) := Or.inl (vm_inG (i := 477) (by decide +kernel) rfl)
theorem nX10_138 : vm_Lok RX10 138 (mY mX8_append) := Or.inl (vm_inG (i := 481) (by decide +kernel) rfl)
theorem nL_46 : vm_Lok RL 46 (mY mX10_clearText) := Or.inl (vm_inG (i := 485) (by decide +kernel) rfl)
theorem nL_50 : vm_Lok RL 50 (mY mX10_syntaxFault) := Or.inl (vm_inG (i := 489) (by decide +kernel) rfl)
theorem nX10_145 : vm_Lok RX10 145 (mY mX6_discourse) := Or.inl (vm_inG (i := 493) (by decide +kernel) rfl)
theorem nX6_32 : vm_Lok RX6 32 (mY mX6_part) := Or.inl (vm_inG (i := 497) (by decide +kernel) rfl)
theorem nX6_40 : vm_Lok RX6 40 (mY mX6_skip) := Or.inl (vm_inG (i := 501) (by decide +kernel) rfl)
theorem nX6_62 : vm_Lok RX6 62 (mY mX8_at) := Or.inl (vm_inG (i := 505) (by decide +kernel) rfl)
theorem nX6_53 : vm_Lok RX6 53 (mY mX6_formula) := Or.inl (vm_inG (i := 509) (by decide +kernel) rfl)
theorem nX6_59 : vm_Lok RX6 59 (mY mX6_choice) := Or.inl (vm_inG (i := 513) (by decide +kernel) rfl)
theorem nX6_70 : vm_Lok RX6 70 (mY mX6_row) := Or.inl (vm_inG (i := 517) (by decide +kernel) rfl)
theorem nX6_73 : vm_Lok RX6 73 (mY mX6_unit) := Or.inl (vm_inG (i := 521) (by decide +kernel) rfl)
theorem nX6_76 : vm_Lok RX6 76 (mY mX6_negation) := Or.inl (vm_inG (i := 525) (by decide +kernel) rfl)
theorem nX6_66 : vm_Lok RX6 66 (mY mX6_openSign) := Or.inl (vm_inG (i := 529) (by decide +kernel) rfl)
theorem nX6_36 : vm_Lok RX6 36 (mY mX6_holding) := Or.inl (vm_inG (i := 533) (by decide +kernel) rfl)
theorem nX6_103 : vm_Lok RX6 103 (mY mX6_taken) := Or.inl (vm_inG (i := 537) (by decide +kernel) rfl)
theorem nX6_44 : vm_Lok RX6 44 (mY mX6_joined) := Or.inl (vm_inG (i := 541) (by decide +kernel) rfl)
theorem nX6_118 : vm_Lok RX6 118 (mY mX5_add) := Or.inl (vm_inG (i := 545) (by decide +kernel) rfl)
theorem nX6_79 : vm_Lok RX6 79 (mY mX6_group) := Or.inl (vm_inG (i := 549) (by decide +kernel) rfl)
theorem nX6_82 : vm_Lok RX6 82 (mY mX6_aboutOne) := Or.inl (vm_inG (i := 553) (by decide +kernel) rfl)
theorem nX6_96 : vm_Lok RX6 96 (mY mX6_skipVariable) := Or.inl (vm_inG (i := 557) (by decide +kernel) rfl)
theorem nX6_99 : vm_Lok RX6 99 (mY mX6_simple) := Or.inl (vm_inG (i := 561) (by decide +kernel) rfl)
theorem nX6_86 : vm_Lok RX6 86 (mY mX6_aboutTwo) := Or.inl (vm_inG (i := 565) (by decide +kernel) rfl)
theorem nX6_90 : vm_Lok RX6 90 (mY mX6_count) := Or.inl (vm_inG (i := 569) (by decide +kernel) rfl)
theorem nX6_93 : vm_Lok RX6 93 (mY mX6_comparison) := Or.inl (vm_inG (i := 573) (by decide +kernel) rfl)
theorem nL_54 : vm_Lok RL 54 (mY mX10_unknownVariable) := Or.inl (vm_inG (i := 577) (by decide +kernel) rfl)
theorem nX10_155 : vm_Lok RX10 155 (mY mX3_suffices) := Or.inl (vm_inG (i := 581) (by decide +kernel) rfl)
theorem nX3_18 : vm_Lok RX3 18 (mY mX3_readOver) := Or.inl (vm_inG (i := 585) (by decide +kernel) rfl)
theorem nX3_30 : vm_Lok RX3 30 (mY mX3_readChain) := Or.inl (vm_inG (i := 589) (by decide +kernel) rfl)
theorem nX3_33 : vm_Lok RX3 33 (mY mX3_readEach) := Or.inl (vm_inG (i := 593) (by decide +kernel) rfl)
theorem nX3_43 : vm_Lok RX3 43 (mY mX3_look) := Or.inl (vm_inG (i := 597) (by decide +kernel) rfl)
theorem nL_58 : vm_Lok RL 58 (mY mX10_unknownDepth) := Or.inl (vm_inG (i := 601) (by decide +kernel) rfl)
theorem nL_62 : vm_Lok RL 62 (mY mX10_partCount) := Or.inl (vm_inG (i := 605) (by decide +kernel) rfl)
theorem nL_66 : vm_Lok RL 66 (mY mX10_contextSize) := Or.inl (vm_inG (i := 609) (by decide +kernel) rfl)
theorem nX10_177 : vm_Lok RX10 177 (mY mX1_size) := Or.inl (vm_inG (i := 613) (by decide +kernel) rfl)
theorem nX1_25 : vm_Lok RX1 25 (mY mJ13_bitCount_95d88) := Or.inl (vm_inG (i := 617) (by decide +kernel) rfl)
theorem qJ13_314 : Cond.constantLong RJ13 314 (6148914691236517205) ∈ vm_G := vm_inG (i := 620) (by decide +kernel) rfl
theorem qJ13_316 : Cond.constantLong RJ13 316 (3689348814741910323) ∈ vm_G := vm_inG (i := 621) (by decide +kernel) rfl
theorem qJ13_318 : Cond.constantLong RJ13 318 (1085102592571150095) ∈ vm_G := vm_inG (i := 622) (by decide +kernel) rfl
theorem nL_70 : vm_Lok RL 70 (mY mX10_known) := Or.inl (vm_inG (i := 623) (by decide +kernel) rfl)
theorem nL_74 : vm_Lok RL 74 (mY mX10_objects) := Or.inl (vm_inG (i := 627) (by decide +kernel) rfl)
theorem nX10_180 : vm_Lok RX10 180 (mY mX10_isVariable) := Or.inl (vm_inG (i := 631) (by decide +kernel) rfl)
theorem nX10_183 : vm_Lok RX10 183 (mY mX7_knows) := Or.inl (vm_inG (i := 634) (by decide +kernel) rfl)
theorem nX10_186 : vm_Lok RX10 186 (mY mX1_valuesOf) := Or.inl (vm_inG (i := 638) (by decide +kernel) rfl)
theorem nX1_35 : vm_Lok RX1 35 (mY mX1_countOf) := Or.inl (vm_inG (i := 642) (by decide +kernel) rfl)
theorem nX1_31 : vm_Lok RX1 31 (mY mX1_mask) := Or.inl (vm_inG (i := 646) (by decide +kernel) rfl)
theorem qX1_43 : Cond.constantLong RX1 43 (72340172838076673) ∈ vm_G := vm_inG (i := 649) (by decide +kernel) rfl
theorem qX1_19 : Cond.constantLong RX1 19 (-1) ∈ vm_G := vm_inG (i := 650) (by decide +kernel) rfl
theorem qX1_51 : Cond.constantLong RX1 51 (567382630219905) ∈ vm_G := vm_inG (i := 651) (by decide +kernel) rfl
theorem qX1_45 : Cond.constantLong RX1 45 (255) ∈ vm_G := vm_inG (i := 652) (by decide +kernel) rfl
theorem nL_78 : vm_Lok RL 78 (mY mX10_together) := Or.inl (vm_inG (i := 653) (by decide +kernel) rfl)
theorem nX10_189 : vm_Lok RX10 189 (mY mX1_countOf) := Or.inl (vm_inG (i := 657) (by decide +kernel) rfl)
theorem nL_82 : vm_Lok RL 82 (mY mX10_resetContext) := Or.inl (vm_inG (i := 658) (by decide +kernel) rfl)
theorem nL_86 : vm_Lok RL 86 (mY mX10_setAccommodation) := Or.inl (vm_inG (i := 662) (by decide +kernel) rfl)
theorem nL_90 : vm_Lok RL 90 (mY mX10_accept) := Or.inl (vm_inG (i := 666) (by decide +kernel) rfl)
theorem nX10_197 : vm_Lok RX10 197 (mY mX10_tryAccepting) := Or.inl (vm_inG (i := 670) (by decide +kernel) rfl)
theorem nX10_247 : vm_Lok RX10 247 (mY mX0_succeeds) := Or.inl (vm_inG (i := 674) (by decide +kernel) rfl)
theorem nX0_28 : vm_Lok RX0 28 (mY mX1_copyFrom) := Or.inl (vm_inG (i := 678) (by decide +kernel) rfl)
theorem nX0_49 : vm_Lok RX0 49 (mY mX4_findSupporting) := Or.inr (vm_inN (i := 679) (by decide +kernel) rfl)
theorem qX4_58 : Cond.constantLong RX4 58 (-1) ∈ vm_G := vm_inG (i := 683) (by decide +kernel) rfl
theorem nX4_60 : vm_Lok RX4 60 (mY mX1_fill) := Or.inl (vm_inG (i := 684) (by decide +kernel) rfl)
theorem nX4_64 : vm_Lok RX4 64 (mY mX4_turn) := Or.inl (vm_inG (i := 685) (by decide +kernel) rfl)
theorem nX4_21 : vm_Lok RX4 21 (mY mX4_turnByChain) := Or.inl (vm_inG (i := 689) (by decide +kernel) rfl)
theorem nX4_25 : vm_Lok RX4 25 (mY mX4_turnBySome) := Or.inl (vm_inG (i := 693) (by decide +kernel) rfl)
theorem nX4_76 : vm_Lok RX4 76 (mY mX9_everybody) := Or.inl (vm_inG (i := 697) (by decide +kernel) rfl)
theorem nX4_85 : vm_Lok RX4 85 (mY mX1_vary) := Or.inl (vm_inG (i := 698) (by decide +kernel) rfl)
theorem nX1_39 : vm_Lok RX1 39 (mY mX1_varyWords) := Or.inl (vm_inG (i := 702) (by decide +kernel) rfl)
theorem nX1_47 : vm_Lok RX1 47 (mY mX1_varied) := Or.inl (vm_inG (i := 706) (by decide +kernel) rfl)
theorem nX4_36 : vm_Lok RX4 36 (mY mX4_findSupporting) := Or.inl (vm_inG (i := 709) (by decide +kernel) rfl)
theorem nX4_40 : vm_Lok RX4 40 (mY mX1_remove) := Or.inl (vm_inG (i := 710) (by decide +kernel) rfl)
theorem nX4_46 : vm_Lok RX4 46 (mY mX4_keepByChoice) := Or.inl (vm_inG (i := 714) (by decide +kernel) rfl)
theorem nX4_92 : vm_Lok RX4 92 (mY mX1_unite) := Or.inl (vm_inG (i := 718) (by decide +kernel) rfl)
theorem nX4_95 : vm_Lok RX4 95 (mY mX1_keep) := Or.inl (vm_inG (i := 722) (by decide +kernel) rfl)
theorem nX4_49 : vm_Lok RX4 49 (mY mX4_keepByCondition) := Or.inl (vm_inG (i := 726) (by decide +kernel) rfl)
theorem nX4_98 : vm_Lok RX4 98 (mY mX1_complement) := Or.inl (vm_inG (i := 730) (by decide +kernel) rfl)
theorem nX4_52 : vm_Lok RX4 52 (mY mX4_keepByOne) := Or.inl (vm_inG (i := 734) (by decide +kernel) rfl)
theorem nX4_101 : vm_Lok RX4 101 (mY mX4_holds) := Or.inl (vm_inG (i := 738) (by decide +kernel) rfl)
theorem nX4_119 : vm_Lok RX4 119 (mY mX9_setOf) := Or.inl (vm_inG (i := 742) (by decide +kernel) rfl)
theorem nX4_123 : vm_Lok RX4 123 (mY mX9_relates) := Or.inl (vm_inG (i := 743) (by decide +kernel) rfl)
theorem nX4_127 : vm_Lok RX4 127 (mY mJ6_bitCount_0f7a4) := Or.inl (vm_inG (i := 744) (by decide +kernel) rfl)
theorem qJ6_265 : Cond.constant RJ6 265 (1431655765) ∈ vm_G := vm_inG (i := 747) (by decide +kernel) rfl
theorem qJ6_266 : Cond.constant RJ6 266 (858993459) ∈ vm_G := vm_inG (i := 748) (by decide +kernel) rfl
theorem qJ6_267 : Cond.constant RJ6 267 (252645135) ∈ vm_G := vm_inG (i := 749) (by decide +kernel) rfl
theorem nX4_105 : vm_Lok RX4 105 (mY mX1_keepValues) := Or.inl (vm_inG (i := 750) (by decide +kernel) rfl)
theorem nX4_55 : vm_Lok RX4 55 (mY mX4_keepByTwo) := Or.inl (vm_inG (i := 754) (by decide +kernel) rfl)
theorem nX4_112 : vm_Lok RX4 112 (mY mX1_keepPartners) := Or.inl (vm_inG (i := 758) (by decide +kernel) rfl)
theorem nX0_55 : vm_Lok RX0 55 (mY mX1_isWithin) := Or.inl (vm_inG (i := 762) (by decide +kernel) rfl)
theorem nX0_59 : vm_Lok RX0 59 (mY mX4_turn) := Or.inr (vm_inN (i := 766) (by decide +kernel) rfl)
theorem nX0_67 : vm_Lok RX0 67 (mY mX1_isEmpty) := Or.inl (vm_inG (i := 767) (by decide +kernel) rfl)
theorem nX1_21 : vm_Lok RX1 21 (mY mX1_size) := Or.inl (vm_inG (i := 771) (by decide +kernel) rfl)
theorem nX10_202 : vm_Lok RX10 202 (mY mX1_copyFrom) := Or.inl (vm_inG (i := 772) (by decide +kernel) rfl)
theorem nL_94 : vm_Lok RL 94 (mY mX10_acceptable) := Or.inl (vm_inG (i := 773) (by decide +kernel) rfl)
theorem nL_98 : vm_Lok RL 98 (mY mX10_failingAt) := Or.inl (vm_inG (i := 777) (by decide +kernel) rfl)
theorem nL_102 : vm_Lok RL 102 (mY mX10_accommodated) := Or.inl (vm_inG (i := 781) (by decide +kernel) rfl)
theorem nX10_217 : vm_Lok RX10 217 (mY mJ13_bitCount_95d88) := Or.inl (vm_inG (i := 785) (by decide +kernel) rfl)
theorem nL_106 : vm_Lok RL 106 (mY mX10_accommodatedPart) := Or.inl (vm_inG (i := 786) (by decide +kernel) rfl)
theorem nL_110 : vm_Lok RL 110 (mY mX10_sizeBehind) := Or.inl (vm_inG (i := 790) (by decide +kernel) rfl)
theorem nX10_223 : vm_Lok RX10 223 (mY mX4_turn) := Or.inr (vm_inN (i := 794) (by decide +kernel) rfl)
theorem nL_114 : vm_Lok RL 114 (mY mX10_supports) := Or.inl (vm_inG (i := 795) (by decide +kernel) rfl)
theorem nX10_227 : vm_Lok RX10 227 (mY mX4_findSupporting) := Or.inr (vm_inN (i := 799) (by decide +kernel) rfl)
theorem nX10_231 : vm_Lok RX10 231 (mY mX1_isWithin) := Or.inl (vm_inG (i := 800) (by decide +kernel) rfl)
theorem nL_118 : vm_Lok RL 118 (mY mX10_worldsTrue) := Or.inl (vm_inG (i := 801) (by decide +kernel) rfl)
theorem nX10_235 : vm_Lok RX10 235 (mY mX9_copyFrom) := Or.inl (vm_inG (i := 805) (by decide +kernel) rfl)
theorem nX10_237 : vm_Lok RX10 237 (mY mX10_isTrueInOtherWorld) := Or.inl (vm_inG (i := 806) (by decide +kernel) rfl)
theorem nX10_251 : vm_Lok RX10 251 (mY mX1_makeFirst) := Or.inl (vm_inG (i := 810) (by decide +kernel) rfl)
theorem nX10_254 : vm_Lok RX10 254 (mY mX1_isEmpty) := Or.inl (vm_inG (i := 811) (by decide +kernel) rfl)
theorem nL_122 : vm_Lok RL 122 (mY mX10_historySize) := Or.inl (vm_inG (i := 812) (by decide +kernel) rfl)
theorem nL_126 : vm_Lok RL 126 (mY mX10_undo) := Or.inl (vm_inG (i := 816) (by decide +kernel) rfl)
theorem nX10_243 : vm_Lok RX10 243 (mY mX2_restore) := Or.inl (vm_inG (i := 820) (by decide +kernel) rfl)
theorem wL_10 : Cond.classLink RL 10 RX11 ∈ vm_G := vm_inG (i := 824) (by decide +kernel) rfl
theorem zX11 : Cond.instantiable RX11 29 ∈ vm_G := vm_inG (i := 825) (by decide +kernel) rfl
theorem nL_12 : vm_Lok RL 12 (mY mX11_init) := Or.inl (vm_inG (i := 826) (by decide +kernel) rfl)
theorem oX11_1 : Cond.methodLink RX11 1 Lib.objectInit ∈ vm_G := vm_inG (i := 829) (by decide +kernel) rfl
theorem fX11_7 : vm_Fok RX11 7 11 0 := ⟨_, rfl, by decide +kernel, by decide +kernel, Or.inl (vm_inG (i := 830) (by decide +kernel) rfl)⟩
theorem fX11_7F : ∃ q : vw_C, vCls[11]? = some q ∧ Cond.fieldLink RX11 7 q.1 (q.2.1 0).2.1 (q.2.1 0).2.2.1 ∈ vm_G := ⟨_, rfl, vm_inG (i := 830) (by decide +kernel) rfl⟩
theorem fX11_13 : vm_Fok RX11 13 11 1 := ⟨_, rfl, by decide +kernel, by decide +kernel, Or.inl (vm_inG (i := 831) (by decide +kernel) rfl)⟩
theorem fX11_13F : ∃ q : vw_C, vCls[11]? = some q ∧ Cond.fieldLink RX11 13 q.1 (q.2.1 1).2.1 (q.2.1 1).2.2.1 ∈ vm_G := ⟨_, rfl, vm_inG (i := 831) (by decide +kernel) rfl⟩
theorem fX11_59 : vm_Fok RX11 59 11 2 := ⟨_, rfl, by decide +kernel, by decide +kernel, Or.inl (vm_inG (i := 832) (by decide +kernel) rfl)⟩
theorem fX11_16 : vm_Fok RX11 16 11 3 := ⟨_, rfl, by decide +kernel, by decide +kernel, Or.inl (vm_inG (i := 833) (by decide +kernel) rfl)⟩
theorem fX11_16F : ∃ q : vw_C, vCls[11]? = some q ∧ Cond.fieldLink RX11 16 q.1 (q.2.1 3).2.1 (q.2.1 3).2.2.1 ∈ vm_G := ⟨_, rfl, vm_inG (i := 833) (by decide +kernel) rfl⟩
theorem fX11_87 : vm_Fok RX11 87 11 4 := ⟨_, rfl, by decide +kernel, by decide +kernel, Or.inl (vm_inG (i := 834) (by decide +kernel) rfl)⟩
theorem fX11_19 : vm_Fok RX11 19 11 5 := ⟨_, rfl, by decide +kernel, by decide +kernel, Or.inl (vm_inG (i := 835) (by decide +kernel) rfl)⟩
theorem fX11_19F : ∃ q : vw_C, vCls[11]? = some q ∧ Cond.fieldLink RX11 19 q.1 (q.2.1 5).2.1 (q.2.1 5).2.2.1 ∈ vm_G := ⟨_, rfl, vm_inG (i := 835) (by decide +kernel) rfl⟩
theorem fX11_22 : vm_Fok RX11 22 11 6 := ⟨_, rfl, by decide +kernel, by decide +kernel, Or.inl (vm_inG (i := 836) (by decide +kernel) rfl)⟩
theorem fX11_22F : ∃ q : vw_C, vCls[11]? = some q ∧ Cond.fieldLink RX11 22 q.1 (q.2.1 6).2.1 (q.2.1 6).2.2.1 ∈ vm_G := ⟨_, rfl, vm_inG (i := 836) (by decide +kernel) rfl⟩
theorem fX11_90 : vm_Fok RX11 90 11 7 := ⟨_, rfl, by decide +kernel, by decide +kernel, Or.inl (vm_inG (i := 837) (by decide +kernel) rfl)⟩
theorem fX11_26 : vm_Fok RX11 26 11 8 := ⟨_, rfl, by decide +kernel, by decide +kernel, Or.inl (vm_inG (i := 838) (by decide +kernel) rfl)⟩
theorem fX11_26F : ∃ q : vw_C, vCls[11]? = some q ∧ Cond.fieldLink RX11 26 q.1 (q.2.1 8).2.1 (q.2.1 8).2.2.1 ∈ vm_G := ⟨_, rfl, vm_inG (i := 838) (by decide +kernel) rfl⟩
theorem fX11_29 : vm_Fok RX11 29 11 9 := ⟨_, rfl, by decide +kernel, by decide +kernel, Or.inl (vm_inG (i := 839) (by decide +kernel) rfl)⟩
theorem fX11_29F : ∃ q : vw_C, vCls[11]? = some q ∧ Cond.fieldLink RX11 29 q.1 (q.2.1 9).2.1 (q.2.1 9).2.2.1 ∈ vm_G := ⟨_, rfl, vm_inG (i := 839) (by decide +kernel) rfl⟩
theorem fX11_32 : vm_Fok RX11 32 11 10 := ⟨_, rfl, by decide +kernel, by decide +kernel, Or.inl (vm_inG (i := 840) (by decide +kernel) rfl)⟩
theorem fX11_32F : ∃ q : vw_C, vCls[11]? = some q ∧ Cond.fieldLink RX11 32 q.1 (q.2.1 10).2.1 (q.2.1 10).2.2.1 ∈ vm_G := ⟨_, rfl, vm_inG (i := 840) (by decide +kernel) rfl⟩
theorem fX11_93 : vm_Fok RX11 93 11 11 := ⟨_, rfl, by decide +kernel, by decide +kernel, Or.inl (vm_inG (i := 841) (by decide +kernel) rfl)⟩
theorem fX11_104 : vm_Fok RX11 104 11 12 := ⟨_, rfl, by decide +kernel, by decide +kernel, Or.inl (vm_inG (i := 842) (by decide +kernel) rfl)⟩
theorem fX11_110 : vm_Fok RX11 110 11 13 := ⟨_, rfl, by decide +kernel, by decide +kernel, Or.inl (vm_inG (i := 843) (by decide +kernel) rfl)⟩
theorem fX11_113 : vm_Fok RX11 113 11 14 := ⟨_, rfl, by decide +kernel, by decide +kernel, Or.inl (vm_inG (i := 844) (by decide +kernel) rfl)⟩
theorem fX11_116 : vm_Fok RX11 116 11 15 := ⟨_, rfl, by decide +kernel, by decide +kernel, Or.inl (vm_inG (i := 845) (by decide +kernel) rfl)⟩
theorem fX11_107 : vm_Fok RX11 107 11 16 := ⟨_, rfl, by decide +kernel, by decide +kernel, Or.inl (vm_inG (i := 846) (by decide +kernel) rfl)⟩
theorem fX11_35 : vm_Fok RX11 35 11 17 := ⟨_, rfl, by decide +kernel, by decide +kernel, Or.inl (vm_inG (i := 847) (by decide +kernel) rfl)⟩
theorem fX11_35F : ∃ q : vw_C, vCls[11]? = some q ∧ Cond.fieldLink RX11 35 q.1 (q.2.1 17).2.1 (q.2.1 17).2.2.1 ∈ vm_G := ⟨_, rfl, vm_inG (i := 847) (by decide +kernel) rfl⟩
theorem fX11_38 : vm_Fok RX11 38 11 18 := ⟨_, rfl, by decide +kernel, by decide +kernel, Or.inl (vm_inG (i := 848) (by decide +kernel) rfl)⟩
theorem fX11_38F : ∃ q : vw_C, vCls[11]? = some q ∧ Cond.fieldLink RX11 38 q.1 (q.2.1 18).2.1 (q.2.1 18).2.2.1 ∈ vm_G := ⟨_, rfl, vm_inG (i := 848) (by decide +kernel) rfl⟩
theorem fX11_41 : vm_Fok RX11 41 11 19 := ⟨_, rfl, by decide +kernel, by decide +kernel, Or.inl (vm_inG (i := 849) (by decide +kernel) rfl)⟩
theorem fX11_41F : ∃ q : vw_C, vCls[11]? = some q ∧ Cond.fieldLink RX11 41 q.1 (q.2.1 19).2.1 (q.2.1 19).2.2.1 ∈ vm_G := ⟨_, rfl, vm_inG (i := 849) (by decide +kernel) rfl⟩
theorem fX11_44 : vm_Fok RX11 44 11 20 := ⟨_, rfl, by decide +kernel, by decide +kernel, Or.inl (vm_inG (i := 850) (by decide +kernel) rfl)⟩
theorem fX11_44F : ∃ q : vw_C, vCls[11]? = some q ∧ Cond.fieldLink RX11 44 q.1 (q.2.1 20).2.1 (q.2.1 20).2.2.1 ∈ vm_G := ⟨_, rfl, vm_inG (i := 850) (by decide +kernel) rfl⟩
theorem fX11_47 : vm_Fok RX11 47 11 21 := ⟨_, rfl, by decide +kernel, by decide +kernel, Or.inl (vm_inG (i := 851) (by decide +kernel) rfl)⟩
theorem fX11_47F : ∃ q : vw_C, vCls[11]? = some q ∧ Cond.fieldLink RX11 47 q.1 (q.2.1 21).2.1 (q.2.1 21).2.2.1 ∈ vm_G := ⟨_, rfl, vm_inG (i := 851) (by decide +kernel) rfl⟩
theorem fX11_50 : vm_Fok RX11 50 11 22 := ⟨_, rfl, by decide +kernel, by decide +kernel, Or.inl (vm_inG (i := 852) (by decide +kernel) rfl)⟩
theorem fX11_50F : ∃ q : vw_C, vCls[11]? = some q ∧ Cond.fieldLink RX11 50 q.1 (q.2.1 22).2.1 (q.2.1 22).2.2.1 ∈ vm_G := ⟨_, rfl, vm_inG (i := 852) (by decide +kernel) rfl⟩
theorem fX11_53 : vm_Fok RX11 53 11 23 := ⟨_, rfl, by decide +kernel, by decide +kernel, Or.inl (vm_inG (i := 853) (by decide +kernel) rfl)⟩
theorem fX11_53F : ∃ q : vw_C, vCls[11]? = some q ∧ Cond.fieldLink RX11 53 q.1 (q.2.1 23).2.1 (q.2.1 23).2.2.1 ∈ vm_G := ⟨_, rfl, vm_inG (i := 853) (by decide +kernel) rfl⟩
theorem fX11_56 : vm_Fok RX11 56 11 24 := ⟨_, rfl, by decide +kernel, by decide +kernel, Or.inl (vm_inG (i := 854) (by decide +kernel) rfl)⟩
theorem fX11_56F : ∃ q : vw_C, vCls[11]? = some q ∧ Cond.fieldLink RX11 56 q.1 (q.2.1 24).2.1 (q.2.1 24).2.2.1 ∈ vm_G := ⟨_, rfl, vm_inG (i := 854) (by decide +kernel) rfl⟩
theorem fX11_175 : vm_Fok RX11 175 11 25 := ⟨_, rfl, by decide +kernel, by decide +kernel, Or.inl (vm_inG (i := 855) (by decide +kernel) rfl)⟩
theorem fX11_178 : vm_Fok RX11 178 11 26 := ⟨_, rfl, by decide +kernel, by decide +kernel, Or.inl (vm_inG (i := 856) (by decide +kernel) rfl)⟩
theorem fX11_187 : vm_Fok RX11 187 11 27 := ⟨_, rfl, by decide +kernel, by decide +kernel, Or.inl (vm_inG (i := 857) (by decide +kernel) rfl)⟩
theorem fX11_190 : vm_Fok RX11 190 11 28 := ⟨_, rfl, by decide +kernel, by decide +kernel, Or.inl (vm_inG (i := 858) (by decide +kernel) rfl)⟩
theorem nL_17 : vm_Lok RL 17 (mY mX11_setIndividuals) := Or.inl (vm_inG (i := 919) (by decide +kernel) rfl)
theorem nX11_67 : vm_Lok RX11 67 (mY mX11_in) := Or.inl (vm_inG (i := 923) (by decide +kernel) rfl)
theorem nX11_75 : vm_Lok RX11 75 (mY mX11_acts) := Or.inl (vm_inG (i := 926) (by decide +kernel) rfl)
theorem nX11_78 : vm_Lok RX11 78 (mY mX11_first) := Or.inl (vm_inG (i := 930) (by decide +kernel) rfl)
theorem nL_22 : vm_Lok RL 22 (mY mX11_setPredicate) := Or.inl (vm_inG (i := 934) (by decide +kernel) rfl)
theorem nX11_63 : vm_Lok RX11 63 (mY mX11_full) := Or.inl (vm_inG (i := 938) (by decide +kernel) rfl)
theorem nL_27 : vm_Lok RL 27 (mY mX11_setPair) := Or.inl (vm_inG (i := 942) (by decide +kernel) rfl)
theorem nL_32 : vm_Lok RL 32 (mY mX11_individuals) := Or.inl (vm_inG (i := 946) (by decide +kernel) rfl)
theorem nL_36 : vm_Lok RL 36 (mY mX11_predicate) := Or.inl (vm_inG (i := 950) (by decide +kernel) rfl)
theorem nL_41 : vm_Lok RL 41 (mY mX11_relationHolds) := Or.inl (vm_inG (i := 954) (by decide +kernel) rfl)
theorem nX11_81 : vm_Lok RX11 81 (mY mX11_isObject) := Or.inl (vm_inG (i := 958) (by decide +kernel) rfl)
theorem nX11_84 : vm_Lok RX11 84 (mY mX11_holds) := Or.inl (vm_inG (i := 962) (by decide +kernel) rfl)
theorem nL_45 : vm_Lok RL 45 (mY mX11_type) := Or.inl (vm_inG (i := 966) (by decide +kernel) rfl)
theorem nL_49 : vm_Lok RL 49 (mY mX11_clearText) := Or.inl (vm_inG (i := 970) (by decide +kernel) rfl)
theorem nL_53 : vm_Lok RL 53 (mY mX11_syntaxFault) := Or.inl (vm_inG (i := 974) (by decide +kernel) rfl)
theorem nX11_200 : vm_Lok RX11 200 (mY mX11_reads) := Or.inl (vm_inG (i := 978) (by decide +kernel) rfl)
theorem nX11_119 : vm_Lok RX11 119 (mY mX11_next) := Or.inl (vm_inG (i := 982) (by decide +kernel) rfl)
theorem nX11_156 : vm_Lok RX11 156 (mY mX11_opens) := Or.inl (vm_inG (i := 986) (by decide +kernel) rfl)
theorem nX11_193 : vm_Lok RX11 193 (mY mX11_readsFormula) := Or.inl (vm_inG (i := 990) (by decide +kernel) rfl)
theorem nX11_159 : vm_Lok RX11 159 (mY mX11_readsUnit) := Or.inl (vm_inG (i := 994) (by decide +kernel) rfl)
theorem nX11_140 : vm_Lok RX11 140 (mY mX11_variable) := Or.inl (vm_inG (i := 998) (by decide +kernel) rfl)
theorem nX11_122 : vm_Lok RX11 122 (mY mX11_finds) := Or.inl (vm_inG (i := 1002) (by decide +kernel) rfl)
theorem nX11_97 : vm_Lok RX11 97 (mY mX11_pushes) := Or.inl (vm_inG (i := 1006) (by decide +kernel) rfl)
theorem nX11_144 : vm_Lok RX11 144 (mY mX11_tests) := Or.inl (vm_inG (i := 1010) (by decide +kernel) rfl)
theorem nX11_129 : vm_Lok RX11 129 (mY mX11_of) := Or.inl (vm_inG (i := 1014) (by decide +kernel) rfl)
theorem nX11_133 : vm_Lok RX11 133 (mY mX11_isSo) := Or.inl (vm_inG (i := 1017) (by decide +kernel) rfl)
theorem nX11_125 : vm_Lok RX11 125 (mY mX11_ones) := Or.inl (vm_inG (i := 1021) (by decide +kernel) rfl)
theorem nX11_136 : vm_Lok RX11 136 (mY mX11_pushesTest) := Or.inl (vm_inG (i := 1024) (by decide +kernel) rfl)
theorem nX11_163 : vm_Lok RX11 163 (mY mX11_endsUnit) := Or.inl (vm_inG (i := 1028) (by decide +kernel) rfl)
theorem nX11_147 : vm_Lok RX11 147 (mY mX11_hasResults) := Or.inl (vm_inG (i := 1032) (by decide +kernel) rfl)
theorem nX11_101 : vm_Lok RX11 101 (mY mX11_leads) := Or.inl (vm_inG (i := 1036) (by decide +kernel) rfl)
theorem nX11_150 : vm_Lok RX11 150 (mY mX11_endsRow) := Or.inl (vm_inG (i := 1040) (by decide +kernel) rfl)
theorem nX11_153 : vm_Lok RX11 153 (mY mX11_endsChoice) := Or.inl (vm_inG (i := 1044) (by decide +kernel) rfl)
theorem nX11_166 : vm_Lok RX11 166 (mY mX11_under) := Or.inl (vm_inG (i := 1048) (by decide +kernel) rfl)
theorem nX11_169 : vm_Lok RX11 169 (mY mX11_endsFormula) := Or.inl (vm_inG (i := 1052) (by decide +kernel) rfl)
theorem nX11_196 : vm_Lok RX11 196 (mY mX11_takes) := Or.inl (vm_inG (i := 1056) (by decide +kernel) rfl)
theorem nX11_172 : vm_Lok RX11 172 (mY mX11_isSupported) := Or.inl (vm_inG (i := 1060) (by decide +kernel) rfl)
theorem nX11_181 : vm_Lok RX11 181 (mY mX11_turns) := Or.inl (vm_inG (i := 1064) (by decide +kernel) rfl)
theorem nX11_184 : vm_Lok RX11 184 (mY mX11_inContext) := Or.inl (vm_inG (i := 1068) (by decide +kernel) rfl)
theorem nL_57 : vm_Lok RL 57 (mY mX11_unknownVariable) := Or.inl (vm_inG (i := 1072) (by decide +kernel) rfl)
theorem nL_61 : vm_Lok RL 61 (mY mX11_unknownDepth) := Or.inl (vm_inG (i := 1076) (by decide +kernel) rfl)
theorem nL_65 : vm_Lok RL 65 (mY mX11_partCount) := Or.inl (vm_inG (i := 1080) (by decide +kernel) rfl)
theorem nL_69 : vm_Lok RL 69 (mY mX11_contextSize) := Or.inl (vm_inG (i := 1084) (by decide +kernel) rfl)
theorem nX11_204 : vm_Lok RX11 204 (mY mX11_size) := Or.inl (vm_inG (i := 1088) (by decide +kernel) rfl)
theorem nX11_71 : vm_Lok RX11 71 (mY mX11_isThere) := Or.inl (vm_inG (i := 1092) (by decide +kernel) rfl)
theorem nL_73 : vm_Lok RL 73 (mY mX11_known) := Or.inl (vm_inG (i := 1096) (by decide +kernel) rfl)
theorem nL_77 : vm_Lok RL 77 (mY mX11_objects) := Or.inl (vm_inG (i := 1100) (by decide +kernel) rfl)
theorem nX11_207 : vm_Lok RX11 207 (mY mX11_isKnown) := Or.inl (vm_inG (i := 1104) (by decide +kernel) rfl)
theorem nL_81 : vm_Lok RL 81 (mY mX11_together) := Or.inl (vm_inG (i := 1108) (by decide +kernel) rfl)
theorem nL_85 : vm_Lok RL 85 (mY mX11_resetContext) := Or.inl (vm_inG (i := 1112) (by decide +kernel) rfl)
theorem nL_89 : vm_Lok RL 89 (mY mX11_setAccommodation) := Or.inl (vm_inG (i := 1116) (by decide +kernel) rfl)
theorem nL_93 : vm_Lok RL 93 (mY mX11_accept) := Or.inl (vm_inG (i := 1120) (by decide +kernel) rfl)
theorem nX11_216 : vm_Lok RX11 216 (mY mX11_tries) := Or.inl (vm_inG (i := 1124) (by decide +kernel) rfl)
theorem nX11_210 : vm_Lok RX11 210 (mY mX11_error) := Or.inl (vm_inG (i := 1128) (by decide +kernel) rfl)
theorem nX11_213 : vm_Lok RX11 213 (mY mX11_takesContext) := Or.inl (vm_inG (i := 1132) (by decide +kernel) rfl)
theorem nL_97 : vm_Lok RL 97 (mY mX11_acceptable) := Or.inl (vm_inG (i := 1136) (by decide +kernel) rfl)
theorem nL_101 : vm_Lok RL 101 (mY mX11_failingAt) := Or.inl (vm_inG (i := 1140) (by decide +kernel) rfl)
theorem nL_105 : vm_Lok RL 105 (mY mX11_accommodated) := Or.inl (vm_inG (i := 1144) (by decide +kernel) rfl)
theorem nL_109 : vm_Lok RL 109 (mY mX11_accommodatedPart) := Or.inl (vm_inG (i := 1148) (by decide +kernel) rfl)
theorem nL_113 : vm_Lok RL 113 (mY mX11_sizeBehind) := Or.inl (vm_inG (i := 1152) (by decide +kernel) rfl)
theorem nL_117 : vm_Lok RL 117 (mY mX11_supports) := Or.inl (vm_inG (i := 1156) (by decide +kernel) rfl)
theorem nX11_219 : vm_Lok RX11 219 (mY mX11_isAllSupported) := Or.inl (vm_inG (i := 1160) (by decide +kernel) rfl)
theorem nL_121 : vm_Lok RL 121 (mY mX11_worldsTrue) := Or.inl (vm_inG (i := 1164) (by decide +kernel) rfl)
theorem nL_125 : vm_Lok RL 125 (mY mX11_historySize) := Or.inl (vm_inG (i := 1168) (by decide +kernel) rfl)
theorem nL_129 : vm_Lok RL 129 (mY mX11_undo) := Or.inl (vm_inG (i := 1172) (by decide +kernel) rfl)
