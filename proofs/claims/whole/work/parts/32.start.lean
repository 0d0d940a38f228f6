/-! what the Statement gives of the start -/
def nrL : List Cond := [(Jvm.Cond.count (1 : Nat)), (Jvm.Cond.isRef (Jvm.Term.arg (0 : Nat))), (Jvm.Cond.arrayOf (Jvm.Term.arg (0 : Nat)) Jvm.ClassFile.FieldType.int), (Jvm.Cond.le (Jvm.Term.length (Jvm.Term.arg (0 : Nat))) (Jvm.Term.int (3584 : Int32))), (Jvm.Cond.eq (Jvm.Term.static "java/lang/String" "COMPACT_STRINGS" "Z") (Jvm.Term.int (1 : Int32))), (Jvm.Cond.isRef (Jvm.Term.static "jdk/internal/util/Preconditions" "SIOOBE_FORMATTER" "Ljava/util/function/BiFunction;")), (Jvm.Cond.eq (Jvm.Term.static "java/lang/StringUTF16" "$assertionsDisabled" "Z") (Jvm.Term.int (1 : Int32))), (Jvm.Cond.eq (Jvm.Term.static "java/lang/StringUTF16" "HI_BYTE_SHIFT" "I") (Jvm.Term.int (0 : Int32))), (Jvm.Cond.eq (Jvm.Term.static "java/lang/StringUTF16" "LO_BYTE_SHIFT" "I") (Jvm.Term.int (8 : Int32))), (Jvm.Cond.isRef (Jvm.Term.static "AnchorThatDrags" "MOST_SAID" "[I")), (Jvm.Cond.arrayOf (Jvm.Term.static "AnchorThatDrags" "MOST_SAID" "[I") Jvm.ClassFile.FieldType.int), (Jvm.Cond.eq (Jvm.Term.length (Jvm.Term.static "AnchorThatDrags" "MOST_SAID" "[I")) (Jvm.Term.int (3 : Int32))), (Jvm.Cond.eq (Jvm.Term.elem (Jvm.Term.static "AnchorThatDrags" "MOST_SAID" "[I") (Jvm.Term.int (0 : Int32))) (Jvm.Term.int (999 : Int32))), (Jvm.Cond.eq (Jvm.Term.elem (Jvm.Term.static "AnchorThatDrags" "MOST_SAID" "[I") (Jvm.Term.int (1 : Int32))) (Jvm.Term.int (999 : Int32))), (Jvm.Cond.eq (Jvm.Term.elem (Jvm.Term.static "AnchorThatDrags" "MOST_SAID" "[I") (Jvm.Term.int (2 : Int32))) (Jvm.Term.int (100 : Int32))), (Jvm.Cond.isRef (Jvm.Term.static "AnchorThatDrags" "STEP_Y" "[I")), (Jvm.Cond.arrayOf (Jvm.Term.static "AnchorThatDrags" "STEP_Y" "[I") Jvm.ClassFile.FieldType.int), (Jvm.Cond.eq (Jvm.Term.length (Jvm.Term.static "AnchorThatDrags" "STEP_Y" "[I")) (Jvm.Term.int (8 : Int32))), (Jvm.Cond.eq (Jvm.Term.elem (Jvm.Term.static "AnchorThatDrags" "STEP_Y" "[I") (Jvm.Term.int (0 : Int32))) (Jvm.Term.int (1 : Int32))), (Jvm.Cond.eq (Jvm.Term.elem (Jvm.Term.static "AnchorThatDrags" "STEP_Y" "[I") (Jvm.Term.int (1 : Int32))) (Jvm.Term.int (1 : Int32))), (Jvm.Cond.eq (Jvm.Term.elem (Jvm.Term.static "AnchorThatDrags" "STEP_Y" "[I") (Jvm.Term.int (2 : Int32))) (Jvm.Term.int (0 : Int32))), (Jvm.Cond.eq (Jvm.Term.elem (Jvm.Term.static "AnchorThatDrags" "STEP_Y" "[I") (Jvm.Term.int (3 : Int32))) (Jvm.Term.int (-1 : Int32))), (Jvm.Cond.eq (Jvm.Term.elem (Jvm.Term.static "AnchorThatDrags" "STEP_Y" "[I") (Jvm.Term.int (4 : Int32))) (Jvm.Term.int (-1 : Int32))), (Jvm.Cond.eq (Jvm.Term.elem (Jvm.Term.static "AnchorThatDrags" "STEP_Y" "[I") (Jvm.Term.int (5 : Int32))) (Jvm.Term.int (-1 : Int32))), (Jvm.Cond.eq (Jvm.Term.elem (Jvm.Term.static "AnchorThatDrags" "STEP_Y" "[I") (Jvm.Term.int (6 : Int32))) (Jvm.Term.int (0 : Int32))), (Jvm.Cond.eq (Jvm.Term.elem (Jvm.Term.static "AnchorThatDrags" "STEP_Y" "[I") (Jvm.Term.int (7 : Int32))) (Jvm.Term.int (1 : Int32))), (Jvm.Cond.isRef (Jvm.Term.static "AnchorThatDrags" "STEP_X" "[I")), (Jvm.Cond.arrayOf (Jvm.Term.static "AnchorThatDrags" "STEP_X" "[I") Jvm.ClassFile.FieldType.int), (Jvm.Cond.eq (Jvm.Term.length (Jvm.Term.static "AnchorThatDrags" "STEP_X" "[I")) (Jvm.Term.int (8 : Int32))), (Jvm.Cond.eq (Jvm.Term.elem (Jvm.Term.static "AnchorThatDrags" "STEP_X" "[I") (Jvm.Term.int (0 : Int32))) (Jvm.Term.int (0 : Int32))), (Jvm.Cond.eq (Jvm.Term.elem (Jvm.Term.static "AnchorThatDrags" "STEP_X" "[I") (Jvm.Term.int (1 : Int32))) (Jvm.Term.int (1 : Int32))), (Jvm.Cond.eq (Jvm.Term.elem (Jvm.Term.static "AnchorThatDrags" "STEP_X" "[I") (Jvm.Term.int (2 : Int32))) (Jvm.Term.int (1 : Int32))), (Jvm.Cond.eq (Jvm.Term.elem (Jvm.Term.static "AnchorThatDrags" "STEP_X" "[I") (Jvm.Term.int (3 : Int32))) (Jvm.Term.int (1 : Int32))), (Jvm.Cond.eq (Jvm.Term.elem (Jvm.Term.static "AnchorThatDrags" "STEP_X" "[I") (Jvm.Term.int (4 : Int32))) (Jvm.Term.int (0 : Int32))), (Jvm.Cond.eq (Jvm.Term.elem (Jvm.Term.static "AnchorThatDrags" "STEP_X" "[I") (Jvm.Term.int (5 : Int32))) (Jvm.Term.int (-1 : Int32))), (Jvm.Cond.eq (Jvm.Term.elem (Jvm.Term.static "AnchorThatDrags" "STEP_X" "[I") (Jvm.Term.int (6 : Int32))) (Jvm.Term.int (-1 : Int32))), (Jvm.Cond.eq (Jvm.Term.elem (Jvm.Term.static "AnchorThatDrags" "STEP_X" "[I") (Jvm.Term.int (7 : Int32))) (Jvm.Term.int (-1 : Int32))), (Jvm.Cond.isRef (Jvm.Term.static "AnchorThatDrags" "ACT_COST" "[I")), (Jvm.Cond.arrayOf (Jvm.Term.static "AnchorThatDrags" "ACT_COST" "[I") Jvm.ClassFile.FieldType.int), (Jvm.Cond.eq (Jvm.Term.length (Jvm.Term.static "AnchorThatDrags" "ACT_COST" "[I")) (Jvm.Term.int (5 : Int32))), (Jvm.Cond.eq (Jvm.Term.elem (Jvm.Term.static "AnchorThatDrags" "ACT_COST" "[I") (Jvm.Term.int (0 : Int32))) (Jvm.Term.int (0 : Int32))), (Jvm.Cond.eq (Jvm.Term.elem (Jvm.Term.static "AnchorThatDrags" "ACT_COST" "[I") (Jvm.Term.int (1 : Int32))) (Jvm.Term.int (1 : Int32))), (Jvm.Cond.eq (Jvm.Term.elem (Jvm.Term.static "AnchorThatDrags" "ACT_COST" "[I") (Jvm.Term.int (2 : Int32))) (Jvm.Term.int (2 : Int32))), (Jvm.Cond.eq (Jvm.Term.elem (Jvm.Term.static "AnchorThatDrags" "ACT_COST" "[I") (Jvm.Term.int (3 : Int32))) (Jvm.Term.int (4 : Int32))), (Jvm.Cond.eq (Jvm.Term.elem (Jvm.Term.static "AnchorThatDrags" "ACT_COST" "[I") (Jvm.Term.int (4 : Int32))) (Jvm.Term.int (9 : Int32))), (Jvm.Cond.isRef (Jvm.Term.static "AnchorThatDrags" "BORNE" "[I")), (Jvm.Cond.arrayOf (Jvm.Term.static "AnchorThatDrags" "BORNE" "[I") Jvm.ClassFile.FieldType.int), (Jvm.Cond.eq (Jvm.Term.length (Jvm.Term.static "AnchorThatDrags" "BORNE" "[I")) (Jvm.Term.int (4 : Int32))), (Jvm.Cond.eq (Jvm.Term.elem (Jvm.Term.static "AnchorThatDrags" "BORNE" "[I") (Jvm.Term.int (0 : Int32))) (Jvm.Term.int (50 : Int32))), (Jvm.Cond.eq (Jvm.Term.elem (Jvm.Term.static "AnchorThatDrags" "BORNE" "[I") (Jvm.Term.int (1 : Int32))) (Jvm.Term.int (54 : Int32))), (Jvm.Cond.eq (Jvm.Term.elem (Jvm.Term.static "AnchorThatDrags" "BORNE" "[I") (Jvm.Term.int (2 : Int32))) (Jvm.Term.int (71 : Int32))), (Jvm.Cond.eq (Jvm.Term.elem (Jvm.Term.static "AnchorThatDrags" "BORNE" "[I") (Jvm.Term.int (3 : Int32))) (Jvm.Term.int (131 : Int32))), (Jvm.Cond.not (Jvm.Cond.castable "AnchorThatDrags" "AnchorThatDrags$Program")), (Jvm.Cond.not (Jvm.Cond.castable "AnchorThatDrags$Bay" "AnchorThatDrags$Program")), (Jvm.Cond.not (Jvm.Cond.castable "AnchorThatDrags$Reader" "AnchorThatDrags$Program")), (Jvm.Cond.not (Jvm.Cond.castable "AnchorThatDrags$Scales" "AnchorThatDrags$Program")), (Jvm.Cond.not (Jvm.Cond.castable "AnchorThatDrags$Forms" "AnchorThatDrags$Program")), (Jvm.Cond.not (Jvm.Cond.castable "AnchorThatDrags$Image" "AnchorThatDrags$Program")), (Jvm.Cond.not (Jvm.Cond.castable "AnchorThatDrags$Course" "AnchorThatDrags$Program")), (Jvm.Cond.not (Jvm.Cond.castable "AnchorThatDrags$Sheet" "AnchorThatDrags$Program")), (Jvm.Cond.not (Jvm.Cond.castable "AnchorThatDragsModel" "AnchorThatDrags$Program")), (Jvm.Cond.not (Jvm.Cond.castable "AnchorThatDrags$Boat" "AnchorThatDrags$Program")), (Jvm.Cond.not (Jvm.Cond.castable "java/lang/String" "AnchorThatDrags$Program")), (Jvm.Cond.not (Jvm.Cond.castable "AnchorThatDrags" "AnchorThatDrags$Boat")), (Jvm.Cond.not (Jvm.Cond.castable "AnchorThatDrags$Bay" "AnchorThatDrags$Boat")), (Jvm.Cond.not (Jvm.Cond.castable "AnchorThatDrags$Reader" "AnchorThatDrags$Boat")), (Jvm.Cond.not (Jvm.Cond.castable "AnchorThatDrags$Scales" "AnchorThatDrags$Boat")), (Jvm.Cond.not (Jvm.Cond.castable "AnchorThatDrags$Forms" "AnchorThatDrags$Boat")), (Jvm.Cond.not (Jvm.Cond.castable "AnchorThatDrags$Image" "AnchorThatDrags$Boat")), (Jvm.Cond.not (Jvm.Cond.castable "AnchorThatDrags$Course" "AnchorThatDrags$Boat")), (Jvm.Cond.not (Jvm.Cond.castable "AnchorThatDrags$Sheet" "AnchorThatDrags$Boat")), (Jvm.Cond.not (Jvm.Cond.castable "AnchorThatDrags$Program" "AnchorThatDrags$Boat")), (Jvm.Cond.not (Jvm.Cond.castable "AnchorThatDragsModel" "AnchorThatDrags$Boat")), (Jvm.Cond.not (Jvm.Cond.castable "java/lang/String" "AnchorThatDrags$Boat")), (Jvm.Cond.not (Jvm.Cond.castable "AnchorThatDrags" "AnchorThatDrags$Course")), (Jvm.Cond.not (Jvm.Cond.castable "AnchorThatDrags$Bay" "AnchorThatDrags$Course")), (Jvm.Cond.not (Jvm.Cond.castable "AnchorThatDrags$Reader" "AnchorThatDrags$Course")), (Jvm.Cond.not (Jvm.Cond.castable "AnchorThatDrags$Scales" "AnchorThatDrags$Course")), (Jvm.Cond.not (Jvm.Cond.castable "AnchorThatDrags$Forms" "AnchorThatDrags$Course")), (Jvm.Cond.not (Jvm.Cond.castable "AnchorThatDrags$Image" "AnchorThatDrags$Course")), (Jvm.Cond.not (Jvm.Cond.castable "AnchorThatDrags$Sheet" "AnchorThatDrags$Course")), (Jvm.Cond.not (Jvm.Cond.castable "AnchorThatDrags$Program" "AnchorThatDrags$Course")), (Jvm.Cond.not (Jvm.Cond.castable "AnchorThatDragsModel" "AnchorThatDrags$Course")), (Jvm.Cond.not (Jvm.Cond.castable "AnchorThatDrags$Boat" "AnchorThatDrags$Course")), (Jvm.Cond.not (Jvm.Cond.castable "java/lang/String" "AnchorThatDrags$Course")), (Jvm.Cond.not (Jvm.Cond.castable "AnchorThatDrags" "AnchorThatDrags$Sheet")), (Jvm.Cond.not (Jvm.Cond.castable "AnchorThatDrags$Bay" "AnchorThatDrags$Sheet")), (Jvm.Cond.not (Jvm.Cond.castable "AnchorThatDrags$Reader" "AnchorThatDrags$Sheet")), (Jvm.Cond.not (Jvm.Cond.castable "AnchorThatDrags$Scales" "AnchorThatDrags$Sheet")), (Jvm.Cond.not (Jvm.Cond.castable "AnchorThatDrags$Forms" "AnchorThatDrags$Sheet")), (Jvm.Cond.not (Jvm.Cond.castable "AnchorThatDrags$Image" "AnchorThatDrags$Sheet")), (Jvm.Cond.not (Jvm.Cond.castable "AnchorThatDrags$Course" "AnchorThatDrags$Sheet")), (Jvm.Cond.not (Jvm.Cond.castable "AnchorThatDrags$Program" "AnchorThatDrags$Sheet")), (Jvm.Cond.not (Jvm.Cond.castable "AnchorThatDragsModel" "AnchorThatDrags$Sheet")), (Jvm.Cond.not (Jvm.Cond.castable "AnchorThatDrags$Boat" "AnchorThatDrags$Sheet")), (Jvm.Cond.not (Jvm.Cond.castable "java/lang/String" "AnchorThatDrags$Sheet")), (Jvm.Cond.exactly (Jvm.Term.string "AnchorThatDrags" (93 : Nat)) "java/lang/String"), (Jvm.Cond.eq (Jvm.Term.field (Jvm.Term.string "AnchorThatDrags" (93 : Nat)) "java/lang/String" "coder" "B") (Jvm.Term.int (0 : Int32))), (Jvm.Cond.arrayOf (Jvm.Term.field (Jvm.Term.string "AnchorThatDrags" (93 : Nat)) "java/lang/String" "value" "[B") Jvm.ClassFile.FieldType.byte), (Jvm.Cond.eq (Jvm.Term.length (Jvm.Term.field (Jvm.Term.string "AnchorThatDrags" (93 : Nat)) "java/lang/String" "value" "[B")) (Jvm.Term.int (70 : Int32))), (Jvm.Cond.eq (Jvm.Term.elem (Jvm.Term.field (Jvm.Term.string "AnchorThatDrags" (93 : Nat)) "java/lang/String" "value" "[B") (Jvm.Term.int (0 : Int32))) (Jvm.Term.int (112 : Int32))), (Jvm.Cond.eq (Jvm.Term.elem (Jvm.Term.field (Jvm.Term.string "AnchorThatDrags" (93 : Nat)) "java/lang/String" "value" "[B") (Jvm.Term.int (1 : Int32))) (Jvm.Term.int (117 : Int32))), (Jvm.Cond.eq (Jvm.Term.elem (Jvm.Term.field (Jvm.Term.string "AnchorThatDrags" (93 : Nat)) "java/lang/String" "value" "[B") (Jvm.Term.int (2 : Int32))) (Jvm.Term.int (108 : Int32))), (Jvm.Cond.eq (Jvm.Term.elem (Jvm.Term.field (Jvm.Term.string "AnchorThatDrags" (93 : Nat)) "java/lang/String" "value" "[B") (Jvm.Term.int (3 : Int32))) (Jvm.Term.int (108 : Int32))), (Jvm.Cond.eq (Jvm.Term.elem (Jvm.Term.field (Jvm.Term.string "AnchorThatDrags" (93 : Nat)) "java/lang/String" "value" "[B") (Jvm.Term.int (4 : Int32))) (Jvm.Term.int (32 : Int32))), (Jvm.Cond.eq (Jvm.Term.elem (Jvm.Term.field (Jvm.Term.string "AnchorThatDrags" (93 : Nat)) "java/lang/String" "value" "[B") (Jvm.Term.int (5 : Int32))) (Jvm.Term.int (119 : Int32))), (Jvm.Cond.eq (Jvm.Term.elem (Jvm.Term.field (Jvm.Term.string "AnchorThatDrags" (93 : Nat)) "java/lang/String" "value" "[B") (Jvm.Term.int (6 : Int32))) (Jvm.Term.int (105 : Int32))), (Jvm.Cond.eq (Jvm.Term.elem (Jvm.Term.field (Jvm.Term.string "AnchorThatDrags" (93 : Nat)) "java/lang/String" "value" "[B") (Jvm.Term.int (7 : Int32))) (Jvm.Term.int (110 : Int32))), (Jvm.Cond.eq (Jvm.Term.elem (Jvm.Term.field (Jvm.Term.string "AnchorThatDrags" (93 : Nat)) "java/lang/String" "value" "[B") (Jvm.Term.int (8 : Int32))) (Jvm.Term.int (100 : Int32))), (Jvm.Cond.eq (Jvm.Term.elem (Jvm.Term.field (Jvm.Term.string "AnchorThatDrags" (93 : Nat)) "java/lang/String" "value" "[B") (Jvm.Term.int (9 : Int32))) (Jvm.Term.int (32 : Int32))), (Jvm.Cond.eq (Jvm.Term.elem (Jvm.Term.field (Jvm.Term.string "AnchorThatDrags" (93 : Nat)) "java/lang/String" "value" "[B") (Jvm.Term.int (10 : Int32))) (Jvm.Term.int (42 : Int32))), (Jvm.Cond.eq (Jvm.Term.elem (Jvm.Term.field (Jvm.Term.string "AnchorThatDrags" (93 : Nat)) "java/lang/String" "value" "[B") (Jvm.Term.int (11 : Int32))) (Jvm.Term.int (32 : Int32))), (Jvm.Cond.eq (Jvm.Term.elem (Jvm.Term.field (Jvm.Term.string "AnchorThatDrags" (93 : Nat)) "java/lang/String" "value" "[B") (Jvm.Term.int (12 : Int32))) (Jvm.Term.int (97 : Int32))), (Jvm.Cond.eq (Jvm.Term.elem (Jvm.Term.field (Jvm.Term.string "AnchorThatDrags" (93 : Nat)) "java/lang/String" "value" "[B") (Jvm.Term.int (13 : Int32))) (Jvm.Term.int (114 : Int32))), (Jvm.Cond.eq (Jvm.Term.elem (Jvm.Term.field (Jvm.Term.string "AnchorThatDrags" (93 : Nat)) "java/lang/String" "value" "[B") (Jvm.Term.int (14 : Int32))) (Jvm.Term.int (101 : Int32))), (Jvm.Cond.eq (Jvm.Term.elem (Jvm.Term.field (Jvm.Term.string "AnchorThatDrags" (93 : Nat)) "java/lang/String" "value" "[B") (Jvm.Term.int (15 : Int32))) (Jvm.Term.int (97 : Int32))), (Jvm.Cond.eq (Jvm.Term.elem (Jvm.Term.field (Jvm.Term.string "AnchorThatDrags" (93 : Nat)) "java/lang/String" "value" "[B") (Jvm.Term.int (16 : Int32))) (Jvm.Term.int (32 : Int32))), (Jvm.Cond.eq (Jvm.Term.elem (Jvm.Term.field (Jvm.Term.string "AnchorThatDrags" (93 : Nat)) "java/lang/String" "value" "[B") (Jvm.Term.int (17 : Int32))) (Jvm.Term.int (59 : Int32))), (Jvm.Cond.eq (Jvm.Term.elem (Jvm.Term.field (Jvm.Term.string "AnchorThatDrags" (93 : Nat)) "java/lang/String" "value" "[B") (Jvm.Term.int (18 : Int32))) (Jvm.Term.int (32 : Int32))), (Jvm.Cond.eq (Jvm.Term.elem (Jvm.Term.field (Jvm.Term.string "AnchorThatDrags" (93 : Nat)) "java/lang/String" "value" "[B") (Jvm.Term.int (19 : Int32))) (Jvm.Term.int (104 : Int32))), (Jvm.Cond.eq (Jvm.Term.elem (Jvm.Term.field (Jvm.Term.string "AnchorThatDrags" (93 : Nat)) "java/lang/String" "value" "[B") (Jvm.Term.int (20 : Int32))) (Jvm.Term.int (111 : Int32))), (Jvm.Cond.eq (Jvm.Term.elem (Jvm.Term.field (Jvm.Term.string "AnchorThatDrags" (93 : Nat)) "java/lang/String" "value" "[B") (Jvm.Term.int (21 : Int32))) (Jvm.Term.int (108 : Int32))), (Jvm.Cond.eq (Jvm.Term.elem (Jvm.Term.field (Jvm.Term.string "AnchorThatDrags" (93 : Nat)) "java/lang/String" "value" "[B") (Jvm.Term.int (22 : Int32))) (Jvm.Term.int (100 : Int32))), (Jvm.Cond.eq (Jvm.Term.elem (Jvm.Term.field (Jvm.Term.string "AnchorThatDrags" (93 : Nat)) "java/lang/String" "value" "[B") (Jvm.Term.int (23 : Int32))) (Jvm.Term.int (32 : Int32))), (Jvm.Cond.eq (Jvm.Term.elem (Jvm.Term.field (Jvm.Term.string "AnchorThatDrags" (93 : Nat)) "java/lang/String" "value" "[B") (Jvm.Term.int (24 : Int32))) (Jvm.Term.int (54 : Int32))), (Jvm.Cond.eq (Jvm.Term.elem (Jvm.Term.field (Jvm.Term.string "AnchorThatDrags" (93 : Nat)) "java/lang/String" "value" "[B") (Jvm.Term.int (25 : Int32))) (Jvm.Term.int (48 : Int32))), (Jvm.Cond.eq (Jvm.Term.elem (Jvm.Term.field (Jvm.Term.string "AnchorThatDrags" (93 : Nat)) "java/lang/String" "value" "[B") (Jvm.Term.int (26 : Int32))) (Jvm.Term.int (32 : Int32))), (Jvm.Cond.eq (Jvm.Term.elem (Jvm.Term.field (Jvm.Term.string "AnchorThatDrags" (93 : Nat)) "java/lang/String" "value" "[B") (Jvm.Term.int (27 : Int32))) (Jvm.Term.int (43 : Int32))), (Jvm.Cond.eq (Jvm.Term.elem (Jvm.Term.field (Jvm.Term.string "AnchorThatDrags" (93 : Nat)) "java/lang/String" "value" "[B") (Jvm.Term.int (28 : Int32))) (Jvm.Term.int (32 : Int32))), (Jvm.Cond.eq (Jvm.Term.elem (Jvm.Term.field (Jvm.Term.string "AnchorThatDrags" (93 : Nat)) "java/lang/String" "value" "[B") (Jvm.Term.int (29 : Int32))) (Jvm.Term.int (104 : Int32))), (Jvm.Cond.eq (Jvm.Term.elem (Jvm.Term.field (Jvm.Term.string "AnchorThatDrags" (93 : Nat)) "java/lang/String" "value" "[B") (Jvm.Term.int (30 : Int32))) (Jvm.Term.int (101 : Int32))), (Jvm.Cond.eq (Jvm.Term.elem (Jvm.Term.field (Jvm.Term.string "AnchorThatDrags" (93 : Nat)) "java/lang/String" "value" "[B") (Jvm.Term.int (31 : Int32))) (Jvm.Term.int (97 : Int32))), (Jvm.Cond.eq (Jvm.Term.elem (Jvm.Term.field (Jvm.Term.string "AnchorThatDrags" (93 : Nat)) "java/lang/String" "value" "[B") (Jvm.Term.int (32 : Int32))) (Jvm.Term.int (118 : Int32))), (Jvm.Cond.eq (Jvm.Term.elem (Jvm.Term.field (Jvm.Term.string "AnchorThatDrags" (93 : Nat)) "java/lang/String" "value" "[B") (Jvm.Term.int (33 : Int32))) (Jvm.Term.int (121 : Int32))), (Jvm.Cond.eq (Jvm.Term.elem (Jvm.Term.field (Jvm.Term.string "AnchorThatDrags" (93 : Nat)) "java/lang/String" "value" "[B") (Jvm.Term.int (34 : Int32))) (Jvm.Term.int (32 : Int32))), (Jvm.Cond.eq (Jvm.Term.elem (Jvm.Term.field (Jvm.Term.string "AnchorThatDrags" (93 : Nat)) "java/lang/String" "value" "[B") (Jvm.Term.int (35 : Int32))) (Jvm.Term.int (42 : Int32))), (Jvm.Cond.eq (Jvm.Term.elem (Jvm.Term.field (Jvm.Term.string "AnchorThatDrags" (93 : Nat)) "java/lang/String" "value" "[B") (Jvm.Term.int (36 : Int32))) (Jvm.Term.int (32 : Int32))), (Jvm.Cond.eq (Jvm.Term.elem (Jvm.Term.field (Jvm.Term.string "AnchorThatDrags" (93 : Nat)) "java/lang/String" "value" "[B") (Jvm.Term.int (37 : Int32))) (Jvm.Term.int (49 : Int32))), (Jvm.Cond.eq (Jvm.Term.elem (Jvm.Term.field (Jvm.Term.string "AnchorThatDrags" (93 : Nat)) "java/lang/String" "value" "[B") (Jvm.Term.int (38 : Int32))) (Jvm.Term.int (48 : Int32))), (Jvm.Cond.eq (Jvm.Term.elem (Jvm.Term.field (Jvm.Term.string "AnchorThatDrags" (93 : Nat)) "java/lang/String" "value" "[B") (Jvm.Term.int (39 : Int32))) (Jvm.Term.int (32 : Int32))), (Jvm.Cond.eq (Jvm.Term.elem (Jvm.Term.field (Jvm.Term.string "AnchorThatDrags" (93 : Nat)) "java/lang/String" "value" "[B") (Jvm.Term.int (40 : Int32))) (Jvm.Term.int (45 : Int32))), (Jvm.Cond.eq (Jvm.Term.elem (Jvm.Term.field (Jvm.Term.string "AnchorThatDrags" (93 : Nat)) "java/lang/String" "value" "[B") (Jvm.Term.int (41 : Int32))) (Jvm.Term.int (32 : Int32))), (Jvm.Cond.eq (Jvm.Term.elem (Jvm.Term.field (Jvm.Term.string "AnchorThatDrags" (93 : Nat)) "java/lang/String" "value" "[B") (Jvm.Term.int (42 : Int32))) (Jvm.Term.int (98 : Int32))), (Jvm.Cond.eq (Jvm.Term.elem (Jvm.Term.field (Jvm.Term.string "AnchorThatDrags" (93 : Nat)) "java/lang/String" "value" "[B") (Jvm.Term.int (43 : Int32))) (Jvm.Term.int (101 : Int32))), (Jvm.Cond.eq (Jvm.Term.elem (Jvm.Term.field (Jvm.Term.string "AnchorThatDrags" (93 : Nat)) "java/lang/String" "value" "[B") (Jvm.Term.int (44 : Int32))) (Jvm.Term.int (100 : Int32))), (Jvm.Cond.eq (Jvm.Term.elem (Jvm.Term.field (Jvm.Term.string "AnchorThatDrags" (93 : Nat)) "java/lang/String" "value" "[B") (Jvm.Term.int (45 : Int32))) (Jvm.Term.int (32 : Int32))), (Jvm.Cond.eq (Jvm.Term.elem (Jvm.Term.field (Jvm.Term.string "AnchorThatDrags" (93 : Nat)) "java/lang/String" "value" "[B") (Jvm.Term.int (46 : Int32))) (Jvm.Term.int (42 : Int32))), (Jvm.Cond.eq (Jvm.Term.elem (Jvm.Term.field (Jvm.Term.string "AnchorThatDrags" (93 : Nat)) "java/lang/String" "value" "[B") (Jvm.Term.int (47 : Int32))) (Jvm.Term.int (32 : Int32))), (Jvm.Cond.eq (Jvm.Term.elem (Jvm.Term.field (Jvm.Term.string "AnchorThatDrags" (93 : Nat)) "java/lang/String" "value" "[B") (Jvm.Term.int (48 : Int32))) (Jvm.Term.int (50 : Int32))), (Jvm.Cond.eq (Jvm.Term.elem (Jvm.Term.field (Jvm.Term.string "AnchorThatDrags" (93 : Nat)) "java/lang/String" "value" "[B") (Jvm.Term.int (49 : Int32))) (Jvm.Term.int (48 : Int32))), (Jvm.Cond.eq (Jvm.Term.elem (Jvm.Term.field (Jvm.Term.string "AnchorThatDrags" (93 : Nat)) "java/lang/String" "value" "[B") (Jvm.Term.int (50 : Int32))) (Jvm.Term.int (32 : Int32))), (Jvm.Cond.eq (Jvm.Term.elem (Jvm.Term.field (Jvm.Term.string "AnchorThatDrags" (93 : Nat)) "java/lang/String" "value" "[B") (Jvm.Term.int (51 : Int32))) (Jvm.Term.int (59 : Int32))), (Jvm.Cond.eq (Jvm.Term.elem (Jvm.Term.field (Jvm.Term.string "AnchorThatDrags" (93 : Nat)) "java/lang/String" "value" "[B") (Jvm.Term.int (52 : Int32))) (Jvm.Term.int (32 : Int32))), (Jvm.Cond.eq (Jvm.Term.elem (Jvm.Term.field (Jvm.Term.string "AnchorThatDrags" (93 : Nat)) "java/lang/String" "value" "[B") (Jvm.Term.int (53 : Int32))) (Jvm.Term.int (106 : Int32))), (Jvm.Cond.eq (Jvm.Term.elem (Jvm.Term.field (Jvm.Term.string "AnchorThatDrags" (93 : Nat)) "java/lang/String" "value" "[B") (Jvm.Term.int (54 : Int32))) (Jvm.Term.int (101 : Int32))), (Jvm.Cond.eq (Jvm.Term.elem (Jvm.Term.field (Jvm.Term.string "AnchorThatDrags" (93 : Nat)) "java/lang/String" "value" "[B") (Jvm.Term.int (55 : Int32))) (Jvm.Term.int (114 : Int32))), (Jvm.Cond.eq (Jvm.Term.elem (Jvm.Term.field (Jvm.Term.string "AnchorThatDrags" (93 : Nat)) "java/lang/String" "value" "[B") (Jvm.Term.int (56 : Int32))) (Jvm.Term.int (107 : Int32))), (Jvm.Cond.eq (Jvm.Term.elem (Jvm.Term.field (Jvm.Term.string "AnchorThatDrags" (93 : Nat)) "java/lang/String" "value" "[B") (Jvm.Term.int (57 : Int32))) (Jvm.Term.int (32 : Int32))), (Jvm.Cond.eq (Jvm.Term.elem (Jvm.Term.field (Jvm.Term.string "AnchorThatDrags" (93 : Nat)) "java/lang/String" "value" "[B") (Jvm.Term.int (58 : Int32))) (Jvm.Term.int (119 : Int32))), (Jvm.Cond.eq (Jvm.Term.elem (Jvm.Term.field (Jvm.Term.string "AnchorThatDrags" (93 : Nat)) "java/lang/String" "value" "[B") (Jvm.Term.int (59 : Int32))) (Jvm.Term.int (105 : Int32))), (Jvm.Cond.eq (Jvm.Term.elem (Jvm.Term.field (Jvm.Term.string "AnchorThatDrags" (93 : Nat)) "java/lang/String" "value" "[B") (Jvm.Term.int (60 : Int32))) (Jvm.Term.int (110 : Int32))), (Jvm.Cond.eq (Jvm.Term.elem (Jvm.Term.field (Jvm.Term.string "AnchorThatDrags" (93 : Nat)) "java/lang/String" "value" "[B") (Jvm.Term.int (61 : Int32))) (Jvm.Term.int (100 : Int32))), (Jvm.Cond.eq (Jvm.Term.elem (Jvm.Term.field (Jvm.Term.string "AnchorThatDrags" (93 : Nat)) "java/lang/String" "value" "[B") (Jvm.Term.int (62 : Int32))) (Jvm.Term.int (32 : Int32))), (Jvm.Cond.eq (Jvm.Term.elem (Jvm.Term.field (Jvm.Term.string "AnchorThatDrags" (93 : Nat)) "java/lang/String" "value" "[B") (Jvm.Term.int (63 : Int32))) (Jvm.Term.int (45 : Int32))), (Jvm.Cond.eq (Jvm.Term.elem (Jvm.Term.field (Jvm.Term.string "AnchorThatDrags" (93 : Nat)) "java/lang/String" "value" "[B") (Jvm.Term.int (64 : Int32))) (Jvm.Term.int (32 : Int32))), (Jvm.Cond.eq (Jvm.Term.elem (Jvm.Term.field (Jvm.Term.string "AnchorThatDrags" (93 : Nat)) "java/lang/String" "value" "[B") (Jvm.Term.int (65 : Int32))) (Jvm.Term.int (111 : Int32))), (Jvm.Cond.eq (Jvm.Term.elem (Jvm.Term.field (Jvm.Term.string "AnchorThatDrags" (93 : Nat)) "java/lang/String" "value" "[B") (Jvm.Term.int (66 : Int32))) (Jvm.Term.int (117 : Int32))), (Jvm.Cond.eq (Jvm.Term.elem (Jvm.Term.field (Jvm.Term.string "AnchorThatDrags" (93 : Nat)) "java/lang/String" "value" "[B") (Jvm.Term.int (67 : Int32))) (Jvm.Term.int (116 : Int32))), (Jvm.Cond.eq (Jvm.Term.elem (Jvm.Term.field (Jvm.Term.string "AnchorThatDrags" (93 : Nat)) "java/lang/String" "value" "[B") (Jvm.Term.int (68 : Int32))) (Jvm.Term.int (32 : Int32))), (Jvm.Cond.eq (Jvm.Term.elem (Jvm.Term.field (Jvm.Term.string "AnchorThatDrags" (93 : Nat)) "java/lang/String" "value" "[B") (Jvm.Term.int (69 : Int32))) (Jvm.Term.int (59 : Int32))), (Jvm.Cond.exactly (Jvm.Term.string "AnchorThatDrags$Reader" (105 : Nat)) "java/lang/String"), (Jvm.Cond.eq (Jvm.Term.field (Jvm.Term.string "AnchorThatDrags$Reader" (105 : Nat)) "java/lang/String" "coder" "B") (Jvm.Term.int (0 : Int32))), (Jvm.Cond.arrayOf (Jvm.Term.field (Jvm.Term.string "AnchorThatDrags$Reader" (105 : Nat)) "java/lang/String" "value" "[B") Jvm.ClassFile.FieldType.byte), (Jvm.Cond.eq (Jvm.Term.length (Jvm.Term.field (Jvm.Term.string "AnchorThatDrags$Reader" (105 : Nat)) "java/lang/String" "value" "[B")) (Jvm.Term.int (4 : Int32))), (Jvm.Cond.eq (Jvm.Term.elem (Jvm.Term.field (Jvm.Term.string "AnchorThatDrags$Reader" (105 : Nat)) "java/lang/String" "value" "[B") (Jvm.Term.int (0 : Int32))) (Jvm.Term.int (119 : Int32))), (Jvm.Cond.eq (Jvm.Term.elem (Jvm.Term.field (Jvm.Term.string "AnchorThatDrags$Reader" (105 : Nat)) "java/lang/String" "value" "[B") (Jvm.Term.int (1 : Int32))) (Jvm.Term.int (105 : Int32))), (Jvm.Cond.eq (Jvm.Term.elem (Jvm.Term.field (Jvm.Term.string "AnchorThatDrags$Reader" (105 : Nat)) "java/lang/String" "value" "[B") (Jvm.Term.int (2 : Int32))) (Jvm.Term.int (110 : Int32))), (Jvm.Cond.eq (Jvm.Term.elem (Jvm.Term.field (Jvm.Term.string "AnchorThatDrags$Reader" (105 : Nat)) "java/lang/String" "value" "[B") (Jvm.Term.int (3 : Int32))) (Jvm.Term.int (100 : Int32))), (Jvm.Cond.not (Jvm.Cond.eq (Jvm.Term.string "AnchorThatDrags" (93 : Nat)) (Jvm.Term.string "AnchorThatDrags$Reader" (105 : Nat)))), (Jvm.Cond.exactly (Jvm.Term.string "AnchorThatDrags$Reader" (107 : Nat)) "java/lang/String"), (Jvm.Cond.eq (Jvm.Term.field (Jvm.Term.string "AnchorThatDrags$Reader" (107 : Nat)) "java/lang/String" "coder" "B") (Jvm.Term.int (0 : Int32))), (Jvm.Cond.arrayOf (Jvm.Term.field (Jvm.Term.string "AnchorThatDrags$Reader" (107 : Nat)) "java/lang/String" "value" "[B") Jvm.ClassFile.FieldType.byte), (Jvm.Cond.eq (Jvm.Term.length (Jvm.Term.field (Jvm.Term.string "AnchorThatDrags$Reader" (107 : Nat)) "java/lang/String" "value" "[B")) (Jvm.Term.int (4 : Int32))), (Jvm.Cond.eq (Jvm.Term.elem (Jvm.Term.field (Jvm.Term.string "AnchorThatDrags$Reader" (107 : Nat)) "java/lang/String" "value" "[B") (Jvm.Term.int (0 : Int32))) (Jvm.Term.int (97 : Int32))), (Jvm.Cond.eq (Jvm.Term.elem (Jvm.Term.field (Jvm.Term.string "AnchorThatDrags$Reader" (107 : Nat)) "java/lang/String" "value" "[B") (Jvm.Term.int (1 : Int32))) (Jvm.Term.int (114 : Int32))), (Jvm.Cond.eq (Jvm.Term.elem (Jvm.Term.field (Jvm.Term.string "AnchorThatDrags$Reader" (107 : Nat)) "java/lang/String" "value" "[B") (Jvm.Term.int (2 : Int32))) (Jvm.Term.int (101 : Int32))), (Jvm.Cond.eq (Jvm.Term.elem (Jvm.Term.field (Jvm.Term.string "AnchorThatDrags$Reader" (107 : Nat)) "java/lang/String" "value" "[B") (Jvm.Term.int (3 : Int32))) (Jvm.Term.int (97 : Int32))), (Jvm.Cond.not (Jvm.Cond.eq (Jvm.Term.string "AnchorThatDrags" (93 : Nat)) (Jvm.Term.string "AnchorThatDrags$Reader" (107 : Nat)))), (Jvm.Cond.not (Jvm.Cond.eq (Jvm.Term.string "AnchorThatDrags$Reader" (105 : Nat)) (Jvm.Term.string "AnchorThatDrags$Reader" (107 : Nat)))), (Jvm.Cond.exactly (Jvm.Term.string "AnchorThatDrags$Reader" (109 : Nat)) "java/lang/String"), (Jvm.Cond.eq (Jvm.Term.field (Jvm.Term.string "AnchorThatDrags$Reader" (109 : Nat)) "java/lang/String" "coder" "B") (Jvm.Term.int (0 : Int32))), (Jvm.Cond.arrayOf (Jvm.Term.field (Jvm.Term.string "AnchorThatDrags$Reader" (109 : Nat)) "java/lang/String" "value" "[B") Jvm.ClassFile.FieldType.byte), (Jvm.Cond.eq (Jvm.Term.length (Jvm.Term.field (Jvm.Term.string "AnchorThatDrags$Reader" (109 : Nat)) "java/lang/String" "value" "[B")) (Jvm.Term.int (4 : Int32))), (Jvm.Cond.eq (Jvm.Term.elem (Jvm.Term.field (Jvm.Term.string "AnchorThatDrags$Reader" (109 : Nat)) "java/lang/String" "value" "[B") (Jvm.Term.int (0 : Int32))) (Jvm.Term.int (100 : Int32))), (Jvm.Cond.eq (Jvm.Term.elem (Jvm.Term.field (Jvm.Term.string "AnchorThatDrags$Reader" (109 : Nat)) "java/lang/String" "value" "[B") (Jvm.Term.int (1 : Int32))) (Jvm.Term.int (101 : Int32))), (Jvm.Cond.eq (Jvm.Term.elem (Jvm.Term.field (Jvm.Term.string "AnchorThatDrags$Reader" (109 : Nat)) "java/lang/String" "value" "[B") (Jvm.Term.int (2 : Int32))) (Jvm.Term.int (101 : Int32))), (Jvm.Cond.eq (Jvm.Term.elem (Jvm.Term.field (Jvm.Term.string "AnchorThatDrags$Reader" (109 : Nat)) "java/lang/String" "value" "[B") (Jvm.Term.int (3 : Int32))) (Jvm.Term.int (112 : Int32))), (Jvm.Cond.not (Jvm.Cond.eq (Jvm.Term.string "AnchorThatDrags" (93 : Nat)) (Jvm.Term.string "AnchorThatDrags$Reader" (109 : Nat)))), (Jvm.Cond.not (Jvm.Cond.eq (Jvm.Term.string "AnchorThatDrags$Reader" (105 : Nat)) (Jvm.Term.string "AnchorThatDrags$Reader" (109 : Nat)))), (Jvm.Cond.not (Jvm.Cond.eq (Jvm.Term.string "AnchorThatDrags$Reader" (107 : Nat)) (Jvm.Term.string "AnchorThatDrags$Reader" (109 : Nat)))), (Jvm.Cond.exactly (Jvm.Term.string "AnchorThatDrags$Reader" (111 : Nat)) "java/lang/String"), (Jvm.Cond.eq (Jvm.Term.field (Jvm.Term.string "AnchorThatDrags$Reader" (111 : Nat)) "java/lang/String" "coder" "B") (Jvm.Term.int (0 : Int32))), (Jvm.Cond.arrayOf (Jvm.Term.field (Jvm.Term.string "AnchorThatDrags$Reader" (111 : Nat)) "java/lang/String" "value" "[B") Jvm.ClassFile.FieldType.byte), (Jvm.Cond.eq (Jvm.Term.length (Jvm.Term.field (Jvm.Term.string "AnchorThatDrags$Reader" (111 : Nat)) "java/lang/String" "value" "[B")) (Jvm.Term.int (3 : Int32))), (Jvm.Cond.eq (Jvm.Term.elem (Jvm.Term.field (Jvm.Term.string "AnchorThatDrags$Reader" (111 : Nat)) "java/lang/String" "value" "[B") (Jvm.Term.int (0 : Int32))) (Jvm.Term.int (111 : Int32))), (Jvm.Cond.eq (Jvm.Term.elem (Jvm.Term.field (Jvm.Term.string "AnchorThatDrags$Reader" (111 : Nat)) "java/lang/String" "value" "[B") (Jvm.Term.int (1 : Int32))) (Jvm.Term.int (117 : Int32))), (Jvm.Cond.eq (Jvm.Term.elem (Jvm.Term.field (Jvm.Term.string "AnchorThatDrags$Reader" (111 : Nat)) "java/lang/String" "value" "[B") (Jvm.Term.int (2 : Int32))) (Jvm.Term.int (116 : Int32))), (Jvm.Cond.not (Jvm.Cond.eq (Jvm.Term.string "AnchorThatDrags" (93 : Nat)) (Jvm.Term.string "AnchorThatDrags$Reader" (111 : Nat)))), (Jvm.Cond.not (Jvm.Cond.eq (Jvm.Term.string "AnchorThatDrags$Reader" (105 : Nat)) (Jvm.Term.string "AnchorThatDrags$Reader" (111 : Nat)))), (Jvm.Cond.not (Jvm.Cond.eq (Jvm.Term.string "AnchorThatDrags$Reader" (107 : Nat)) (Jvm.Term.string "AnchorThatDrags$Reader" (111 : Nat)))), (Jvm.Cond.not (Jvm.Cond.eq (Jvm.Term.string "AnchorThatDrags$Reader" (109 : Nat)) (Jvm.Term.string "AnchorThatDrags$Reader" (111 : Nat)))), (Jvm.Cond.exactly (Jvm.Term.string "AnchorThatDrags$Reader" (113 : Nat)) "java/lang/String"), (Jvm.Cond.eq (Jvm.Term.field (Jvm.Term.string "AnchorThatDrags$Reader" (113 : Nat)) "java/lang/String" "coder" "B") (Jvm.Term.int (0 : Int32))), (Jvm.Cond.arrayOf (Jvm.Term.field (Jvm.Term.string "AnchorThatDrags$Reader" (113 : Nat)) "java/lang/String" "value" "[B") Jvm.ClassFile.FieldType.byte), (Jvm.Cond.eq (Jvm.Term.length (Jvm.Term.field (Jvm.Term.string "AnchorThatDrags$Reader" (113 : Nat)) "java/lang/String" "value" "[B")) (Jvm.Term.int (3 : Int32))), (Jvm.Cond.eq (Jvm.Term.elem (Jvm.Term.field (Jvm.Term.string "AnchorThatDrags$Reader" (113 : Nat)) "java/lang/String" "value" "[B") (Jvm.Term.int (0 : Int32))) (Jvm.Term.int (98 : Int32))), (Jvm.Cond.eq (Jvm.Term.elem (Jvm.Term.field (Jvm.Term.string "AnchorThatDrags$Reader" (113 : Nat)) "java/lang/String" "value" "[B") (Jvm.Term.int (1 : Int32))) (Jvm.Term.int (101 : Int32))), (Jvm.Cond.eq (Jvm.Term.elem (Jvm.Term.field (Jvm.Term.string "AnchorThatDrags$Reader" (113 : Nat)) "java/lang/String" "value" "[B") (Jvm.Term.int (2 : Int32))) (Jvm.Term.int (100 : Int32))), (Jvm.Cond.not (Jvm.Cond.eq (Jvm.Term.string "AnchorThatDrags" (93 : Nat)) (Jvm.Term.string "AnchorThatDrags$Reader" (113 : Nat)))), (Jvm.Cond.not (Jvm.Cond.eq (Jvm.Term.string "AnchorThatDrags$Reader" (105 : Nat)) (Jvm.Term.string "AnchorThatDrags$Reader" (113 : Nat)))), (Jvm.Cond.not (Jvm.Cond.eq (Jvm.Term.string "AnchorThatDrags$Reader" (107 : Nat)) (Jvm.Term.string "AnchorThatDrags$Reader" (113 : Nat)))), (Jvm.Cond.not (Jvm.Cond.eq (Jvm.Term.string "AnchorThatDrags$Reader" (109 : Nat)) (Jvm.Term.string "AnchorThatDrags$Reader" (113 : Nat)))), (Jvm.Cond.not (Jvm.Cond.eq (Jvm.Term.string "AnchorThatDrags$Reader" (111 : Nat)) (Jvm.Term.string "AnchorThatDrags$Reader" (113 : Nat)))), (Jvm.Cond.exactly (Jvm.Term.string "AnchorThatDrags$Reader" (115 : Nat)) "java/lang/String"), (Jvm.Cond.eq (Jvm.Term.field (Jvm.Term.string "AnchorThatDrags$Reader" (115 : Nat)) "java/lang/String" "coder" "B") (Jvm.Term.int (0 : Int32))), (Jvm.Cond.arrayOf (Jvm.Term.field (Jvm.Term.string "AnchorThatDrags$Reader" (115 : Nat)) "java/lang/String" "value" "[B") Jvm.ClassFile.FieldType.byte), (Jvm.Cond.eq (Jvm.Term.length (Jvm.Term.field (Jvm.Term.string "AnchorThatDrags$Reader" (115 : Nat)) "java/lang/String" "value" "[B")) (Jvm.Term.int (5 : Int32))), (Jvm.Cond.eq (Jvm.Term.elem (Jvm.Term.field (Jvm.Term.string "AnchorThatDrags$Reader" (115 : Nat)) "java/lang/String" "value" "[B") (Jvm.Term.int (0 : Int32))) (Jvm.Term.int (104 : Int32))), (Jvm.Cond.eq (Jvm.Term.elem (Jvm.Term.field (Jvm.Term.string "AnchorThatDrags$Reader" (115 : Nat)) "java/lang/String" "value" "[B") (Jvm.Term.int (1 : Int32))) (Jvm.Term.int (101 : Int32))), (Jvm.Cond.eq (Jvm.Term.elem (Jvm.Term.field (Jvm.Term.string "AnchorThatDrags$Reader" (115 : Nat)) "java/lang/String" "value" "[B") (Jvm.Term.int (2 : Int32))) (Jvm.Term.int (97 : Int32))), (Jvm.Cond.eq (Jvm.Term.elem (Jvm.Term.field (Jvm.Term.string "AnchorThatDrags$Reader" (115 : Nat)) "java/lang/String" "value" "[B") (Jvm.Term.int (3 : Int32))) (Jvm.Term.int (118 : Int32))), (Jvm.Cond.eq (Jvm.Term.elem (Jvm.Term.field (Jvm.Term.string "AnchorThatDrags$Reader" (115 : Nat)) "java/lang/String" "value" "[B") (Jvm.Term.int (4 : Int32))) (Jvm.Term.int (121 : Int32))), (Jvm.Cond.not (Jvm.Cond.eq (Jvm.Term.string "AnchorThatDrags" (93 : Nat)) (Jvm.Term.string "AnchorThatDrags$Reader" (115 : Nat)))), (Jvm.Cond.not (Jvm.Cond.eq (Jvm.Term.string "AnchorThatDrags$Reader" (105 : Nat)) (Jvm.Term.string "AnchorThatDrags$Reader" (115 : Nat)))), (Jvm.Cond.not (Jvm.Cond.eq (Jvm.Term.string "AnchorThatDrags$Reader" (107 : Nat)) (Jvm.Term.string "AnchorThatDrags$Reader" (115 : Nat)))), (Jvm.Cond.not (Jvm.Cond.eq (Jvm.Term.string "AnchorThatDrags$Reader" (109 : Nat)) (Jvm.Term.string "AnchorThatDrags$Reader" (115 : Nat)))), (Jvm.Cond.not (Jvm.Cond.eq (Jvm.Term.string "AnchorThatDrags$Reader" (111 : Nat)) (Jvm.Term.string "AnchorThatDrags$Reader" (115 : Nat)))), (Jvm.Cond.not (Jvm.Cond.eq (Jvm.Term.string "AnchorThatDrags$Reader" (113 : Nat)) (Jvm.Term.string "AnchorThatDrags$Reader" (115 : Nat)))), (Jvm.Cond.exactly (Jvm.Term.string "AnchorThatDrags$Reader" (117 : Nat)) "java/lang/String"), (Jvm.Cond.eq (Jvm.Term.field (Jvm.Term.string "AnchorThatDrags$Reader" (117 : Nat)) "java/lang/String" "coder" "B") (Jvm.Term.int (0 : Int32))), (Jvm.Cond.arrayOf (Jvm.Term.field (Jvm.Term.string "AnchorThatDrags$Reader" (117 : Nat)) "java/lang/String" "value" "[B") Jvm.ClassFile.FieldType.byte), (Jvm.Cond.eq (Jvm.Term.length (Jvm.Term.field (Jvm.Term.string "AnchorThatDrags$Reader" (117 : Nat)) "java/lang/String" "value" "[B")) (Jvm.Term.int (4 : Int32))), (Jvm.Cond.eq (Jvm.Term.elem (Jvm.Term.field (Jvm.Term.string "AnchorThatDrags$Reader" (117 : Nat)) "java/lang/String" "value" "[B") (Jvm.Term.int (0 : Int32))) (Jvm.Term.int (112 : Int32))), (Jvm.Cond.eq (Jvm.Term.elem (Jvm.Term.field (Jvm.Term.string "AnchorThatDrags$Reader" (117 : Nat)) "java/lang/String" "value" "[B") (Jvm.Term.int (1 : Int32))) (Jvm.Term.int (117 : Int32))), (Jvm.Cond.eq (Jvm.Term.elem (Jvm.Term.field (Jvm.Term.string "AnchorThatDrags$Reader" (117 : Nat)) "java/lang/String" "value" "[B") (Jvm.Term.int (2 : Int32))) (Jvm.Term.int (108 : Int32))), (Jvm.Cond.eq (Jvm.Term.elem (Jvm.Term.field (Jvm.Term.string "AnchorThatDrags$Reader" (117 : Nat)) "java/lang/String" "value" "[B") (Jvm.Term.int (3 : Int32))) (Jvm.Term.int (108 : Int32))), (Jvm.Cond.not (Jvm.Cond.eq (Jvm.Term.string "AnchorThatDrags" (93 : Nat)) (Jvm.Term.string "AnchorThatDrags$Reader" (117 : Nat)))), (Jvm.Cond.not (Jvm.Cond.eq (Jvm.Term.string "AnchorThatDrags$Reader" (105 : Nat)) (Jvm.Term.string "AnchorThatDrags$Reader" (117 : Nat)))), (Jvm.Cond.not (Jvm.Cond.eq (Jvm.Term.string "AnchorThatDrags$Reader" (107 : Nat)) (Jvm.Term.string "AnchorThatDrags$Reader" (117 : Nat)))), (Jvm.Cond.not (Jvm.Cond.eq (Jvm.Term.string "AnchorThatDrags$Reader" (109 : Nat)) (Jvm.Term.string "AnchorThatDrags$Reader" (117 : Nat)))), (Jvm.Cond.not (Jvm.Cond.eq (Jvm.Term.string "AnchorThatDrags$Reader" (111 : Nat)) (Jvm.Term.string "AnchorThatDrags$Reader" (117 : Nat)))), (Jvm.Cond.not (Jvm.Cond.eq (Jvm.Term.string "AnchorThatDrags$Reader" (113 : Nat)) (Jvm.Term.string "AnchorThatDrags$Reader" (117 : Nat)))), (Jvm.Cond.not (Jvm.Cond.eq (Jvm.Term.string "AnchorThatDrags$Reader" (115 : Nat)) (Jvm.Term.string "AnchorThatDrags$Reader" (117 : Nat)))), (Jvm.Cond.exactly (Jvm.Term.string "AnchorThatDrags$Reader" (119 : Nat)) "java/lang/String"), (Jvm.Cond.eq (Jvm.Term.field (Jvm.Term.string "AnchorThatDrags$Reader" (119 : Nat)) "java/lang/String" "coder" "B") (Jvm.Term.int (0 : Int32))), (Jvm.Cond.arrayOf (Jvm.Term.field (Jvm.Term.string "AnchorThatDrags$Reader" (119 : Nat)) "java/lang/String" "value" "[B") Jvm.ClassFile.FieldType.byte), (Jvm.Cond.eq (Jvm.Term.length (Jvm.Term.field (Jvm.Term.string "AnchorThatDrags$Reader" (119 : Nat)) "java/lang/String" "value" "[B")) (Jvm.Term.int (4 : Int32))), (Jvm.Cond.eq (Jvm.Term.elem (Jvm.Term.field (Jvm.Term.string "AnchorThatDrags$Reader" (119 : Nat)) "java/lang/String" "value" "[B") (Jvm.Term.int (0 : Int32))) (Jvm.Term.int (104 : Int32))), (Jvm.Cond.eq (Jvm.Term.elem (Jvm.Term.field (Jvm.Term.string "AnchorThatDrags$Reader" (119 : Nat)) "java/lang/String" "value" "[B") (Jvm.Term.int (1 : Int32))) (Jvm.Term.int (111 : Int32))), (Jvm.Cond.eq (Jvm.Term.elem (Jvm.Term.field (Jvm.Term.string "AnchorThatDrags$Reader" (119 : Nat)) "java/lang/String" "value" "[B") (Jvm.Term.int (2 : Int32))) (Jvm.Term.int (108 : Int32))), (Jvm.Cond.eq (Jvm.Term.elem (Jvm.Term.field (Jvm.Term.string "AnchorThatDrags$Reader" (119 : Nat)) "java/lang/String" "value" "[B") (Jvm.Term.int (3 : Int32))) (Jvm.Term.int (100 : Int32))), (Jvm.Cond.not (Jvm.Cond.eq (Jvm.Term.string "AnchorThatDrags" (93 : Nat)) (Jvm.Term.string "AnchorThatDrags$Reader" (119 : Nat)))), (Jvm.Cond.not (Jvm.Cond.eq (Jvm.Term.string "AnchorThatDrags$Reader" (105 : Nat)) (Jvm.Term.string "AnchorThatDrags$Reader" (119 : Nat)))), (Jvm.Cond.not (Jvm.Cond.eq (Jvm.Term.string "AnchorThatDrags$Reader" (107 : Nat)) (Jvm.Term.string "AnchorThatDrags$Reader" (119 : Nat)))), (Jvm.Cond.not (Jvm.Cond.eq (Jvm.Term.string "AnchorThatDrags$Reader" (109 : Nat)) (Jvm.Term.string "AnchorThatDrags$Reader" (119 : Nat)))), (Jvm.Cond.not (Jvm.Cond.eq (Jvm.Term.string "AnchorThatDrags$Reader" (111 : Nat)) (Jvm.Term.string "AnchorThatDrags$Reader" (119 : Nat)))), (Jvm.Cond.not (Jvm.Cond.eq (Jvm.Term.string "AnchorThatDrags$Reader" (113 : Nat)) (Jvm.Term.string "AnchorThatDrags$Reader" (119 : Nat)))), (Jvm.Cond.not (Jvm.Cond.eq (Jvm.Term.string "AnchorThatDrags$Reader" (115 : Nat)) (Jvm.Term.string "AnchorThatDrags$Reader" (119 : Nat)))), (Jvm.Cond.not (Jvm.Cond.eq (Jvm.Term.string "AnchorThatDrags$Reader" (117 : Nat)) (Jvm.Term.string "AnchorThatDrags$Reader" (119 : Nat)))), (Jvm.Cond.exactly (Jvm.Term.string "AnchorThatDrags$Reader" (121 : Nat)) "java/lang/String"), (Jvm.Cond.eq (Jvm.Term.field (Jvm.Term.string "AnchorThatDrags$Reader" (121 : Nat)) "java/lang/String" "coder" "B") (Jvm.Term.int (0 : Int32))), (Jvm.Cond.arrayOf (Jvm.Term.field (Jvm.Term.string "AnchorThatDrags$Reader" (121 : Nat)) "java/lang/String" "value" "[B") Jvm.ClassFile.FieldType.byte), (Jvm.Cond.eq (Jvm.Term.length (Jvm.Term.field (Jvm.Term.string "AnchorThatDrags$Reader" (121 : Nat)) "java/lang/String" "value" "[B")) (Jvm.Term.int (4 : Int32))), (Jvm.Cond.eq (Jvm.Term.elem (Jvm.Term.field (Jvm.Term.string "AnchorThatDrags$Reader" (121 : Nat)) "java/lang/String" "value" "[B") (Jvm.Term.int (0 : Int32))) (Jvm.Term.int (106 : Int32))), (Jvm.Cond.eq (Jvm.Term.elem (Jvm.Term.field (Jvm.Term.string "AnchorThatDrags$Reader" (121 : Nat)) "java/lang/String" "value" "[B") (Jvm.Term.int (1 : Int32))) (Jvm.Term.int (101 : Int32))), (Jvm.Cond.eq (Jvm.Term.elem (Jvm.Term.field (Jvm.Term.string "AnchorThatDrags$Reader" (121 : Nat)) "java/lang/String" "value" "[B") (Jvm.Term.int (2 : Int32))) (Jvm.Term.int (114 : Int32))), (Jvm.Cond.eq (Jvm.Term.elem (Jvm.Term.field (Jvm.Term.string "AnchorThatDrags$Reader" (121 : Nat)) "java/lang/String" "value" "[B") (Jvm.Term.int (3 : Int32))) (Jvm.Term.int (107 : Int32))), (Jvm.Cond.not (Jvm.Cond.eq (Jvm.Term.string "AnchorThatDrags" (93 : Nat)) (Jvm.Term.string "AnchorThatDrags$Reader" (121 : Nat)))), (Jvm.Cond.not (Jvm.Cond.eq (Jvm.Term.string "AnchorThatDrags$Reader" (105 : Nat)) (Jvm.Term.string "AnchorThatDrags$Reader" (121 : Nat)))), (Jvm.Cond.not (Jvm.Cond.eq (Jvm.Term.string "AnchorThatDrags$Reader" (107 : Nat)) (Jvm.Term.string "AnchorThatDrags$Reader" (121 : Nat)))), (Jvm.Cond.not (Jvm.Cond.eq (Jvm.Term.string "AnchorThatDrags$Reader" (109 : Nat)) (Jvm.Term.string "AnchorThatDrags$Reader" (121 : Nat)))), (Jvm.Cond.not (Jvm.Cond.eq (Jvm.Term.string "AnchorThatDrags$Reader" (111 : Nat)) (Jvm.Term.string "AnchorThatDrags$Reader" (121 : Nat)))), (Jvm.Cond.not (Jvm.Cond.eq (Jvm.Term.string "AnchorThatDrags$Reader" (113 : Nat)) (Jvm.Term.string "AnchorThatDrags$Reader" (121 : Nat)))), (Jvm.Cond.not (Jvm.Cond.eq (Jvm.Term.string "AnchorThatDrags$Reader" (115 : Nat)) (Jvm.Term.string "AnchorThatDrags$Reader" (121 : Nat)))), (Jvm.Cond.not (Jvm.Cond.eq (Jvm.Term.string "AnchorThatDrags$Reader" (117 : Nat)) (Jvm.Term.string "AnchorThatDrags$Reader" (121 : Nat)))), (Jvm.Cond.not (Jvm.Cond.eq (Jvm.Term.string "AnchorThatDrags$Reader" (119 : Nat)) (Jvm.Term.string "AnchorThatDrags$Reader" (121 : Nat)))), (Jvm.Cond.exactly (Jvm.Term.string "AnchorThatDrags$Reader" (123 : Nat)) "java/lang/String"), (Jvm.Cond.eq (Jvm.Term.field (Jvm.Term.string "AnchorThatDrags$Reader" (123 : Nat)) "java/lang/String" "coder" "B") (Jvm.Term.int (0 : Int32))), (Jvm.Cond.arrayOf (Jvm.Term.field (Jvm.Term.string "AnchorThatDrags$Reader" (123 : Nat)) "java/lang/String" "value" "[B") Jvm.ClassFile.FieldType.byte), (Jvm.Cond.eq (Jvm.Term.length (Jvm.Term.field (Jvm.Term.string "AnchorThatDrags$Reader" (123 : Nat)) "java/lang/String" "value" "[B")) (Jvm.Term.int (2 : Int32))), (Jvm.Cond.eq (Jvm.Term.elem (Jvm.Term.field (Jvm.Term.string "AnchorThatDrags$Reader" (123 : Nat)) "java/lang/String" "value" "[B") (Jvm.Term.int (0 : Int32))) (Jvm.Term.int (111 : Int32))), (Jvm.Cond.eq (Jvm.Term.elem (Jvm.Term.field (Jvm.Term.string "AnchorThatDrags$Reader" (123 : Nat)) "java/lang/String" "value" "[B") (Jvm.Term.int (1 : Int32))) (Jvm.Term.int (114 : Int32))), (Jvm.Cond.not (Jvm.Cond.eq (Jvm.Term.string "AnchorThatDrags" (93 : Nat)) (Jvm.Term.string "AnchorThatDrags$Reader" (123 : Nat)))), (Jvm.Cond.not (Jvm.Cond.eq (Jvm.Term.string "AnchorThatDrags$Reader" (105 : Nat)) (Jvm.Term.string "AnchorThatDrags$Reader" (123 : Nat)))), (Jvm.Cond.not (Jvm.Cond.eq (Jvm.Term.string "AnchorThatDrags$Reader" (107 : Nat)) (Jvm.Term.string "AnchorThatDrags$Reader" (123 : Nat)))), (Jvm.Cond.not (Jvm.Cond.eq (Jvm.Term.string "AnchorThatDrags$Reader" (109 : Nat)) (Jvm.Term.string "AnchorThatDrags$Reader" (123 : Nat)))), (Jvm.Cond.not (Jvm.Cond.eq (Jvm.Term.string "AnchorThatDrags$Reader" (111 : Nat)) (Jvm.Term.string "AnchorThatDrags$Reader" (123 : Nat)))), (Jvm.Cond.not (Jvm.Cond.eq (Jvm.Term.string "AnchorThatDrags$Reader" (113 : Nat)) (Jvm.Term.string "AnchorThatDrags$Reader" (123 : Nat)))), (Jvm.Cond.not (Jvm.Cond.eq (Jvm.Term.string "AnchorThatDrags$Reader" (115 : Nat)) (Jvm.Term.string "AnchorThatDrags$Reader" (123 : Nat)))), (Jvm.Cond.not (Jvm.Cond.eq (Jvm.Term.string "AnchorThatDrags$Reader" (117 : Nat)) (Jvm.Term.string "AnchorThatDrags$Reader" (123 : Nat)))), (Jvm.Cond.not (Jvm.Cond.eq (Jvm.Term.string "AnchorThatDrags$Reader" (119 : Nat)) (Jvm.Term.string "AnchorThatDrags$Reader" (123 : Nat)))), (Jvm.Cond.not (Jvm.Cond.eq (Jvm.Term.string "AnchorThatDrags$Reader" (121 : Nat)) (Jvm.Term.string "AnchorThatDrags$Reader" (123 : Nat)))), (Jvm.Cond.exactly (Jvm.Term.string "AnchorThatDrags$Reader" (125 : Nat)) "java/lang/String"), (Jvm.Cond.eq (Jvm.Term.field (Jvm.Term.string "AnchorThatDrags$Reader" (125 : Nat)) "java/lang/String" "coder" "B") (Jvm.Term.int (0 : Int32))), (Jvm.Cond.arrayOf (Jvm.Term.field (Jvm.Term.string "AnchorThatDrags$Reader" (125 : Nat)) "java/lang/String" "value" "[B") Jvm.ClassFile.FieldType.byte), (Jvm.Cond.eq (Jvm.Term.length (Jvm.Term.field (Jvm.Term.string "AnchorThatDrags$Reader" (125 : Nat)) "java/lang/String" "value" "[B")) (Jvm.Term.int (3 : Int32))), (Jvm.Cond.eq (Jvm.Term.elem (Jvm.Term.field (Jvm.Term.string "AnchorThatDrags$Reader" (125 : Nat)) "java/lang/String" "value" "[B") (Jvm.Term.int (0 : Int32))) (Jvm.Term.int (97 : Int32))), (Jvm.Cond.eq (Jvm.Term.elem (Jvm.Term.field (Jvm.Term.string "AnchorThatDrags$Reader" (125 : Nat)) "java/lang/String" "value" "[B") (Jvm.Term.int (1 : Int32))) (Jvm.Term.int (110 : Int32))), (Jvm.Cond.eq (Jvm.Term.elem (Jvm.Term.field (Jvm.Term.string "AnchorThatDrags$Reader" (125 : Nat)) "java/lang/String" "value" "[B") (Jvm.Term.int (2 : Int32))) (Jvm.Term.int (100 : Int32))), (Jvm.Cond.not (Jvm.Cond.eq (Jvm.Term.string "AnchorThatDrags" (93 : Nat)) (Jvm.Term.string "AnchorThatDrags$Reader" (125 : Nat)))), (Jvm.Cond.not (Jvm.Cond.eq (Jvm.Term.string "AnchorThatDrags$Reader" (105 : Nat)) (Jvm.Term.string "AnchorThatDrags$Reader" (125 : Nat)))), (Jvm.Cond.not (Jvm.Cond.eq (Jvm.Term.string "AnchorThatDrags$Reader" (107 : Nat)) (Jvm.Term.string "AnchorThatDrags$Reader" (125 : Nat)))), (Jvm.Cond.not (Jvm.Cond.eq (Jvm.Term.string "AnchorThatDrags$Reader" (109 : Nat)) (Jvm.Term.string "AnchorThatDrags$Reader" (125 : Nat)))), (Jvm.Cond.not (Jvm.Cond.eq (Jvm.Term.string "AnchorThatDrags$Reader" (111 : Nat)) (Jvm.Term.string "AnchorThatDrags$Reader" (125 : Nat)))), (Jvm.Cond.not (Jvm.Cond.eq (Jvm.Term.string "AnchorThatDrags$Reader" (113 : Nat)) (Jvm.Term.string "AnchorThatDrags$Reader" (125 : Nat)))), (Jvm.Cond.not (Jvm.Cond.eq (Jvm.Term.string "AnchorThatDrags$Reader" (115 : Nat)) (Jvm.Term.string "AnchorThatDrags$Reader" (125 : Nat)))), (Jvm.Cond.not (Jvm.Cond.eq (Jvm.Term.string "AnchorThatDrags$Reader" (117 : Nat)) (Jvm.Term.string "AnchorThatDrags$Reader" (125 : Nat)))), (Jvm.Cond.not (Jvm.Cond.eq (Jvm.Term.string "AnchorThatDrags$Reader" (119 : Nat)) (Jvm.Term.string "AnchorThatDrags$Reader" (125 : Nat)))), (Jvm.Cond.not (Jvm.Cond.eq (Jvm.Term.string "AnchorThatDrags$Reader" (121 : Nat)) (Jvm.Term.string "AnchorThatDrags$Reader" (125 : Nat)))), (Jvm.Cond.not (Jvm.Cond.eq (Jvm.Term.string "AnchorThatDrags$Reader" (123 : Nat)) (Jvm.Term.string "AnchorThatDrags$Reader" (125 : Nat)))), (Jvm.Cond.exactly (Jvm.Term.string "AnchorThatDrags$Reader" (127 : Nat)) "java/lang/String"), (Jvm.Cond.eq (Jvm.Term.field (Jvm.Term.string "AnchorThatDrags$Reader" (127 : Nat)) "java/lang/String" "coder" "B") (Jvm.Term.int (0 : Int32))), (Jvm.Cond.arrayOf (Jvm.Term.field (Jvm.Term.string "AnchorThatDrags$Reader" (127 : Nat)) "java/lang/String" "value" "[B") Jvm.ClassFile.FieldType.byte), (Jvm.Cond.eq (Jvm.Term.length (Jvm.Term.field (Jvm.Term.string "AnchorThatDrags$Reader" (127 : Nat)) "java/lang/String" "value" "[B")) (Jvm.Term.int (3 : Int32))), (Jvm.Cond.eq (Jvm.Term.elem (Jvm.Term.field (Jvm.Term.string "AnchorThatDrags$Reader" (127 : Nat)) "java/lang/String" "value" "[B") (Jvm.Term.int (0 : Int32))) (Jvm.Term.int (110 : Int32))), (Jvm.Cond.eq (Jvm.Term.elem (Jvm.Term.field (Jvm.Term.string "AnchorThatDrags$Reader" (127 : Nat)) "java/lang/String" "value" "[B") (Jvm.Term.int (1 : Int32))) (Jvm.Term.int (111 : Int32))), (Jvm.Cond.eq (Jvm.Term.elem (Jvm.Term.field (Jvm.Term.string "AnchorThatDrags$Reader" (127 : Nat)) "java/lang/String" "value" "[B") (Jvm.Term.int (2 : Int32))) (Jvm.Term.int (116 : Int32))), (Jvm.Cond.not (Jvm.Cond.eq (Jvm.Term.string "AnchorThatDrags" (93 : Nat)) (Jvm.Term.string "AnchorThatDrags$Reader" (127 : Nat)))), (Jvm.Cond.not (Jvm.Cond.eq (Jvm.Term.string "AnchorThatDrags$Reader" (105 : Nat)) (Jvm.Term.string "AnchorThatDrags$Reader" (127 : Nat)))), (Jvm.Cond.not (Jvm.Cond.eq (Jvm.Term.string "AnchorThatDrags$Reader" (107 : Nat)) (Jvm.Term.string "AnchorThatDrags$Reader" (127 : Nat)))), (Jvm.Cond.not (Jvm.Cond.eq (Jvm.Term.string "AnchorThatDrags$Reader" (109 : Nat)) (Jvm.Term.string "AnchorThatDrags$Reader" (127 : Nat)))), (Jvm.Cond.not (Jvm.Cond.eq (Jvm.Term.string "AnchorThatDrags$Reader" (111 : Nat)) (Jvm.Term.string "AnchorThatDrags$Reader" (127 : Nat)))), (Jvm.Cond.not (Jvm.Cond.eq (Jvm.Term.string "AnchorThatDrags$Reader" (113 : Nat)) (Jvm.Term.string "AnchorThatDrags$Reader" (127 : Nat)))), (Jvm.Cond.not (Jvm.Cond.eq (Jvm.Term.string "AnchorThatDrags$Reader" (115 : Nat)) (Jvm.Term.string "AnchorThatDrags$Reader" (127 : Nat)))), (Jvm.Cond.not (Jvm.Cond.eq (Jvm.Term.string "AnchorThatDrags$Reader" (117 : Nat)) (Jvm.Term.string "AnchorThatDrags$Reader" (127 : Nat)))), (Jvm.Cond.not (Jvm.Cond.eq (Jvm.Term.string "AnchorThatDrags$Reader" (119 : Nat)) (Jvm.Term.string "AnchorThatDrags$Reader" (127 : Nat)))), (Jvm.Cond.not (Jvm.Cond.eq (Jvm.Term.string "AnchorThatDrags$Reader" (121 : Nat)) (Jvm.Term.string "AnchorThatDrags$Reader" (127 : Nat)))), (Jvm.Cond.not (Jvm.Cond.eq (Jvm.Term.string "AnchorThatDrags$Reader" (123 : Nat)) (Jvm.Term.string "AnchorThatDrags$Reader" (127 : Nat)))), (Jvm.Cond.not (Jvm.Cond.eq (Jvm.Term.string "AnchorThatDrags$Reader" (125 : Nat)) (Jvm.Term.string "AnchorThatDrags$Reader" (127 : Nat)))), (Jvm.Cond.not (Jvm.Cond.eq (Jvm.Term.arg (0 : Nat)) (Jvm.Term.static "AnchorThatDrags" "MOST_SAID" "[I"))), (Jvm.Cond.not (Jvm.Cond.eq (Jvm.Term.arg (0 : Nat)) (Jvm.Term.static "AnchorThatDrags" "STEP_Y" "[I"))), (Jvm.Cond.not (Jvm.Cond.eq (Jvm.Term.arg (0 : Nat)) (Jvm.Term.static "AnchorThatDrags" "STEP_X" "[I"))), (Jvm.Cond.not (Jvm.Cond.eq (Jvm.Term.arg (0 : Nat)) (Jvm.Term.static "AnchorThatDrags" "ACT_COST" "[I"))), (Jvm.Cond.not (Jvm.Cond.eq (Jvm.Term.arg (0 : Nat)) (Jvm.Term.static "AnchorThatDrags" "BORNE" "[I")))]
set_option maxRecDepth 100000 in
theorem nrL_eq : flatC (Jvm.Cond.and given_1 narrow_1) = nrL := rfl
set_option maxRecDepth 100000 in
theorem nwL_in : ∀ w ∈ nwL, w ∈ lw_tbl := List.forall_mem_cons.mpr ⟨List.mem_of_getElem? (i := 241) (by decide +kernel), List.forall_mem_cons.mpr ⟨List.mem_of_getElem? (i := 280) (by decide +kernel), List.forall_mem_cons.mpr ⟨List.mem_of_getElem? (i := 366) (by decide +kernel), List.forall_mem_cons.mpr ⟨List.mem_of_getElem? (i := 427) (by decide +kernel), List.forall_mem_cons.mpr ⟨List.mem_of_getElem? (i := 546) (by decide +kernel), List.forall_mem_cons.mpr ⟨List.mem_of_getElem? (i := 547) (by decide +kernel), List.forall_mem_cons.mpr ⟨List.mem_of_getElem? (i := 626) (by decide +kernel), List.forall_mem_cons.mpr ⟨List.mem_of_getElem? (i := 636) (by decide +kernel), List.forall_mem_cons.mpr ⟨List.mem_of_getElem? (i := 638) (by decide +kernel), List.forall_mem_cons.mpr ⟨List.mem_of_getElem? (i := 696) (by decide +kernel), List.forall_mem_cons.mpr ⟨List.mem_of_getElem? (i := 700) (by decide +kernel), List.forall_mem_cons.mpr ⟨List.mem_of_getElem? (i := 701) (by decide +kernel), List.forall_mem_cons.mpr ⟨List.mem_of_getElem? (i := 703) (by decide +kernel), List.forall_mem_cons.mpr ⟨List.mem_of_getElem? (i := 715) (by decide +kernel), List.forall_mem_cons.mpr ⟨List.mem_of_getElem? (i := 881) (by decide +kernel), List.forall_mem_cons.mpr ⟨List.mem_of_getElem? (i := 951) (by decide +kernel), fun _ h => absurd h List.not_mem_nil⟩⟩⟩⟩⟩⟩⟩⟩⟩⟩⟩⟩⟩⟩⟩⟩
theorem vk_Rx {own tx : String} {k a : Nat} {A : Array Value} {U : State} (h1 : (Cond.stringRef own k tx).before A U = true) (h2 : (Term.string own k).eval A U none [] U = some (.ref a)) : vk_R own k tx a U := vk_R.of h1 h2
/-- what is left once the machine is walked: the two functions agree -/
def PureOK : Prop := ∃ (X : XW) (M : MW), fX9_init_t xw0 = some X ∧ fX10_init_t mw0 = some M ∧ ∀ (xs : Nat → Int32) (L : Nat), L ≤ 3584 → lo4 (fL_law_l18 xs L) FU X M 0 0 = some 1
set_option maxHeartbeats 16000000 in
set_option maxRecDepth 100000 in
theorem whole_start_open (hPure : PureOK) {p : Program} {e : Env} {s : State} {m : MethodId} {below : List Frame} {meth : Method} {c : Code} (l : Launch) {b L : Nat} {xs : Nat → Int32} (hL : L ≤ 3584) (C0 : lw_At p s m meth c b L xs) : W p l e room_1 s m #[Value.ref b] below meth c s.heap [] 0 0 (lw_Z below #[Value.ref b] s) (entryFrame m ([Value.ref b] : List Value).toArray 4) := by
  obtain ⟨hx, hb, hr, hml, hown, hts, hX, hbl, hlocks, hgv⟩ := id C0
  have hs : ∀ q ∈ nrL, q.before #[Value.ref b] s = true := by rw [← nrL_eq]; exact flat_of_before _ hgv
  have htw : ∀ w ∈ wsL_law, w.before #[Value.ref b] s = true := fun w hw => hts w (wsL_law_in w hw)
  have hA : ∀ a : Nat, a < s.heap.size → ¬ (fun q : Nat => s.heap.size ≤ q) a := fun a ha => Nat.not_le.mpr ha
  obtain ⟨k0, i0, hk0⟩ := u_known (C := RX0) (T := TX0) (N := 5) (n := 5) htw inlX0 (htw _ wd_1_13)
  obtain ⟨k1, i1, hk1⟩ := u_known (C := RX1) (T := TX1) (N := 6) (n := 6) htw inlX1 (htw _ wd_21_22)
  obtain ⟨k2, i2, hk2⟩ := u_known (C := RX2) (T := TX2) (N := 4) (n := 4) htw inlX2 (htw _ wd_2_23)
  obtain ⟨k3, i3, hk3⟩ := u_known (C := RX3) (T := TX3) (N := 2) (n := 2) htw inlX3 (htw _ wd_2_10)
  obtain ⟨k4, i4, hk4⟩ := u_known (C := RX4) (T := TX4) (N := 6) (n := 6) htw inlX4 (htw _ wd_2_16)
  obtain ⟨k5, i5, hk5⟩ := u_known (C := RX5) (T := TX5) (N := 3) (n := 3) htw inlX5 (htw _ wd_3_3)
  obtain ⟨k6, i6, hk6⟩ := u_known (C := RX6) (T := TX6) (N := 7) (n := 7) htw inlX6 (htw _ wd_1_17)
  obtain ⟨k7, i7, hk7⟩ := u_known (C := RX7) (T := TX7) (N := 5) (n := 5) htw inlX7 (htw _ wd_1_23)
  obtain ⟨k8, i8, hk8⟩ := u_known (C := RX8) (T := TX8) (N := 3) (n := 3) htw inlX8 (htw _ wd_3_1)
  obtain ⟨k9, i9, hk9⟩ := u_known (C := RX9) (T := TX9) (N := 15) (n := 15) htw inlX9 (htw _ wd_1_1)
  obtain ⟨k10, i10, hk10⟩ := u_known (C := RX10) (T := TX10) (N := 56) (n := 56) htw inlX10 (htw _ wd_1_4)
  obtain ⟨cI, kI, mI, fI1, fI2, fI3⟩ := Cond.arrayClass_spec (htw _ wd_2_6)
  have ho2 : (Cond.arrayOver (.object RX1)).before #[Value.ref b] s = true := hts (.arrayOver (.object RX1)) (List.mem_of_getElem? (i := 187) (by decide +kernel))
  obtain ⟨m2, c2, q2, g21, -, g23, g24, g25⟩ := Cond.arrayOver_spec ho2
  have ho3 : (Cond.arrayOver (.object RX2)).before #[Value.ref b] s = true := hts (.arrayOver (.object RX2)) (List.mem_of_getElem? (i := 189) (by decide +kernel))
  obtain ⟨m3, c3, q3, g31, -, g33, g34, g35⟩ := Cond.arrayOver_spec ho3
  have ho4 : (Cond.arrayOver (.object RX5)).before #[Value.ref b] s = true := hts (.arrayOver (.object RX5)) (List.mem_of_getElem? (i := 159) (by decide +kernel))
  obtain ⟨m4, c4, q4, g41, -, g43, g44, g45⟩ := Cond.arrayOver_spec ho4
  have ho5 : (Cond.arrayOver (.object RX8)).before #[Value.ref b] s = true := hts (.arrayOver (.object RX8)) (List.mem_of_getElem? (i := 206) (by decide +kernel))
  obtain ⟨m5, c5, q5, g51, -, g53, g54, g55⟩ := Cond.arrayOver_spec ho5
  obtain ⟨t0, et0, hT0⟩ := va_Tof (args := #[Value.ref b]) (tm := (.static "AnchorThatDrags" "STEP_Y" "[I")) (ty := .int) (N := 8) (f := fun j => .int ((stR 0).getD j 0)) (A := fun q : Nat => s.heap.size ≤ q) (by decide) (hs _ (List.mem_of_getElem? (i := 16) rfl)) (va_eqt (z := 8) (hs _ (List.mem_of_getElem? (i := 17) rfl))) (fun j hj => by
        rcases (show j = 0 ∨ j = 1 ∨ j = 2 ∨ j = 3 ∨ j = 4 ∨ j = 5 ∨ j = 6 ∨ j = 7 by omega) with rfl | rfl | rfl | rfl | rfl | rfl | rfl | rfl
        · exact va_eqt (hs _ (List.mem_of_getElem? (i := 18) rfl))
        · exact va_eqt (hs _ (List.mem_of_getElem? (i := 19) rfl))
        · exact va_eqt (hs _ (List.mem_of_getElem? (i := 20) rfl))
        · exact va_eqt (hs _ (List.mem_of_getElem? (i := 21) rfl))
        · exact va_eqt (hs _ (List.mem_of_getElem? (i := 22) rfl))
        · exact va_eqt (hs _ (List.mem_of_getElem? (i := 23) rfl))
        · exact va_eqt (hs _ (List.mem_of_getElem? (i := 24) rfl))
        · exact va_eqt (hs _ (List.mem_of_getElem? (i := 25) rfl))) hA
  have hZ0 : va_Z RX9 "STEP_Y" "[I" (.ref t0) (fun q : Nat => s.heap.size ≤ q) s s.heap := va_Zof (args := #[Value.ref b]) (hts (.laysStatic RX9 "STEP_Y" "[I") (List.mem_of_getElem? (i := 702) (by decide +kernel))) (htw _ wd_1_2) et0 hA
  obtain ⟨t1, et1, hT1⟩ := va_Tof (args := #[Value.ref b]) (tm := (.static "AnchorThatDrags" "STEP_X" "[I")) (ty := .int) (N := 8) (f := fun j => .int ((stR 1).getD j 0)) (A := fun q : Nat => s.heap.size ≤ q) (by decide) (hs _ (List.mem_of_getElem? (i := 27) rfl)) (va_eqt (z := 8) (hs _ (List.mem_of_getElem? (i := 28) rfl))) (fun j hj => by
        rcases (show j = 0 ∨ j = 1 ∨ j = 2 ∨ j = 3 ∨ j = 4 ∨ j = 5 ∨ j = 6 ∨ j = 7 by omega) with rfl | rfl | rfl | rfl | rfl | rfl | rfl | rfl
        · exact va_eqt (hs _ (List.mem_of_getElem? (i := 29) rfl))
        · exact va_eqt (hs _ (List.mem_of_getElem? (i := 30) rfl))
        · exact va_eqt (hs _ (List.mem_of_getElem? (i := 31) rfl))
        · exact va_eqt (hs _ (List.mem_of_getElem? (i := 32) rfl))
        · exact va_eqt (hs _ (List.mem_of_getElem? (i := 33) rfl))
        · exact va_eqt (hs _ (List.mem_of_getElem? (i := 34) rfl))
        · exact va_eqt (hs _ (List.mem_of_getElem? (i := 35) rfl))
        · exact va_eqt (hs _ (List.mem_of_getElem? (i := 36) rfl))) hA
  have hZ1 : va_Z RX9 "STEP_X" "[I" (.ref t1) (fun q : Nat => s.heap.size ≤ q) s s.heap := va_Zof (args := #[Value.ref b]) (hts (.laysStatic RX9 "STEP_X" "[I") (List.mem_of_getElem? (i := 704) (by decide +kernel))) (htw _ wd_1_2) et1 hA
  obtain ⟨t2, et2, hT2⟩ := va_Tof (args := #[Value.ref b]) (tm := (.static "AnchorThatDrags" "MOST_SAID" "[I")) (ty := .int) (N := 3) (f := fun j => .int ((stR 2).getD j 0)) (A := fun q : Nat => s.heap.size ≤ q) (by decide) (hs _ (List.mem_of_getElem? (i := 10) rfl)) (va_eqt (z := 3) (hs _ (List.mem_of_getElem? (i := 11) rfl))) (fun j hj => by
        rcases (show j = 0 ∨ j = 1 ∨ j = 2 by omega) with rfl | rfl | rfl
        · exact va_eqt (hs _ (List.mem_of_getElem? (i := 12) rfl))
        · exact va_eqt (hs _ (List.mem_of_getElem? (i := 13) rfl))
        · exact va_eqt (hs _ (List.mem_of_getElem? (i := 14) rfl))) hA
  have hZ2 : va_Z RX9 "MOST_SAID" "[I" (.ref t2) (fun q : Nat => s.heap.size ≤ q) s s.heap := va_Zof (args := #[Value.ref b]) (hts (.laysStatic RX9 "MOST_SAID" "[I") (List.mem_of_getElem? (i := 548) (by decide +kernel))) (htw _ wd_1_2) et2 hA
  obtain ⟨t3, et3, hT3⟩ := va_Tof (args := #[Value.ref b]) (tm := (.static "AnchorThatDrags" "ACT_COST" "[I")) (ty := .int) (N := 5) (f := fun j => .int ((stR 3).getD j 0)) (A := fun q : Nat => s.heap.size ≤ q) (by decide) (hs _ (List.mem_of_getElem? (i := 38) rfl)) (va_eqt (z := 5) (hs _ (List.mem_of_getElem? (i := 39) rfl))) (fun j hj => by
        rcases (show j = 0 ∨ j = 1 ∨ j = 2 ∨ j = 3 ∨ j = 4 by omega) with rfl | rfl | rfl | rfl | rfl
        · exact va_eqt (hs _ (List.mem_of_getElem? (i := 40) rfl))
        · exact va_eqt (hs _ (List.mem_of_getElem? (i := 41) rfl))
        · exact va_eqt (hs _ (List.mem_of_getElem? (i := 42) rfl))
        · exact va_eqt (hs _ (List.mem_of_getElem? (i := 43) rfl))
        · exact va_eqt (hs _ (List.mem_of_getElem? (i := 44) rfl))) hA
  have hZ3 : va_Z RX9 "ACT_COST" "[I" (.ref t3) (fun q : Nat => s.heap.size ≤ q) s s.heap := va_Zof (args := #[Value.ref b]) (hts (.laysStatic RX9 "ACT_COST" "[I") (List.mem_of_getElem? (i := 825) (by decide +kernel))) (htw _ wd_1_2) et3 hA
  obtain ⟨t4, et4, hT4⟩ := va_Tof (args := #[Value.ref b]) (tm := (.static "AnchorThatDrags" "BORNE" "[I")) (ty := .int) (N := 4) (f := fun j => .int ((stR 4).getD j 0)) (A := fun q : Nat => s.heap.size ≤ q) (by decide) (hs _ (List.mem_of_getElem? (i := 46) rfl)) (va_eqt (z := 4) (hs _ (List.mem_of_getElem? (i := 47) rfl))) (fun j hj => by
        rcases (show j = 0 ∨ j = 1 ∨ j = 2 ∨ j = 3 by omega) with rfl | rfl | rfl | rfl
        · exact va_eqt (hs _ (List.mem_of_getElem? (i := 48) rfl))
        · exact va_eqt (hs _ (List.mem_of_getElem? (i := 49) rfl))
        · exact va_eqt (hs _ (List.mem_of_getElem? (i := 50) rfl))
        · exact va_eqt (hs _ (List.mem_of_getElem? (i := 51) rfl))) hA
  have hZ4 : va_Z RX9 "BORNE" "[I" (.ref t4) (fun q : Nat => s.heap.size ≤ q) s s.heap := va_Zof (args := #[Value.ref b]) (hts (.laysStatic RX9 "BORNE" "[I") (List.mem_of_getElem? (i := 840) (by decide +kernel))) (htw _ wd_1_2) et4 hA
  have hZc : va_Z "java/lang/String" "COMPACT_STRINGS" "Z" (.int 1) (fun q : Nat => s.heap.size ≤ q) s s.heap := va_Zof (args := #[Value.ref b]) (hts (.laysStatic "java/lang/String" "COMPACT_STRINGS" "Z") (List.mem_of_getElem? (i := 304) (by decide +kernel))) (htw _ wd_6_9) (va_eqt (hs _ (List.mem_of_getElem? (i := 4) rfl))) hA
  have hZq : va_Zq "jdk/internal/util/Preconditions" "SIOOBE_FORMATTER" "Ljava/util/function/BiFunction;" (fun q : Nat => s.heap.size ≤ q) s s.heap := va_Zqof (args := #[Value.ref b]) (hts (.laysStatic "jdk/internal/util/Preconditions" "SIOOBE_FORMATTER" "Ljava/util/function/BiFunction;") (List.mem_of_getElem? (i := 320) (by decide +kernel))) (htw _ wd_7_12) (hs _ (List.mem_of_getElem? (i := 5) rfl)) hA
  have e0 : ∀ j : Nat, j < 4 → (Cond.eq (.elem (.field (.string (srO 0) (srK 0)) "java/lang/String" "value" "[B") (.int (Int32.ofNat j))) (.int ((srB 0).getD j 0))).before #[Value.ref b] s = true := fun j hj => by
      rcases (show j = 0 ∨ j = 1 ∨ j = 2 ∨ j = 3 by omega) with rfl | rfl | rfl | rfl
      · exact (hs _ (List.mem_of_getElem? (i := 174) rfl))
      · exact (hs _ (List.mem_of_getElem? (i := 175) rfl))
      · exact (hs _ (List.mem_of_getElem? (i := 176) rfl))
      · exact (hs _ (List.mem_of_getElem? (i := 177) rfl))
  have e1 : ∀ j : Nat, j < 4 → (Cond.eq (.elem (.field (.string (srO 1) (srK 1)) "java/lang/String" "value" "[B") (.int (Int32.ofNat j))) (.int ((srB 1).getD j 0))).before #[Value.ref b] s = true := fun j hj => by
      rcases (show j = 0 ∨ j = 1 ∨ j = 2 ∨ j = 3 by omega) with rfl | rfl | rfl | rfl
      · exact (hs _ (List.mem_of_getElem? (i := 183) rfl))
      · exact (hs _ (List.mem_of_getElem? (i := 184) rfl))
      · exact (hs _ (List.mem_of_getElem? (i := 185) rfl))
      · exact (hs _ (List.mem_of_getElem? (i := 186) rfl))
  have e2 : ∀ j : Nat, j < 4 → (Cond.eq (.elem (.field (.string (srO 2) (srK 2)) "java/lang/String" "value" "[B") (.int (Int32.ofNat j))) (.int ((srB 2).getD j 0))).before #[Value.ref b] s = true := fun j hj => by
      rcases (show j = 0 ∨ j = 1 ∨ j = 2 ∨ j = 3 by omega) with rfl | rfl | rfl | rfl
      · exact (hs _ (List.mem_of_getElem? (i := 193) rfl))
      · exact (hs _ (List.mem_of_getElem? (i := 194) rfl))
      · exact (hs _ (List.mem_of_getElem? (i := 195) rfl))
      · exact (hs _ (List.mem_of_getElem? (i := 196) rfl))
  have e3 : ∀ j : Nat, j < 3 → (Cond.eq (.elem (.field (.string (srO 3) (srK 3)) "java/lang/String" "value" "[B") (.int (Int32.ofNat j))) (.int ((srB 3).getD j 0))).before #[Value.ref b] s = true := fun j hj => by
      rcases (show j = 0 ∨ j = 1 ∨ j = 2 by omega) with rfl | rfl | rfl
      · exact (hs _ (List.mem_of_getElem? (i := 204) rfl))
      · exact (hs _ (List.mem_of_getElem? (i := 205) rfl))
      · exact (hs _ (List.mem_of_getElem? (i := 206) rfl))
  have e4 : ∀ j : Nat, j < 3 → (Cond.eq (.elem (.field (.string (srO 4) (srK 4)) "java/lang/String" "value" "[B") (.int (Int32.ofNat j))) (.int ((srB 4).getD j 0))).before #[Value.ref b] s = true := fun j hj => by
      rcases (show j = 0 ∨ j = 1 ∨ j = 2 by omega) with rfl | rfl | rfl
      · exact (hs _ (List.mem_of_getElem? (i := 215) rfl))
      · exact (hs _ (List.mem_of_getElem? (i := 216) rfl))
      · exact (hs _ (List.mem_of_getElem? (i := 217) rfl))
  have e5 : ∀ j : Nat, j < 5 → (Cond.eq (.elem (.field (.string (srO 5) (srK 5)) "java/lang/String" "value" "[B") (.int (Int32.ofNat j))) (.int ((srB 5).getD j 0))).before #[Value.ref b] s = true := fun j hj => by
      rcases (show j = 0 ∨ j = 1 ∨ j = 2 ∨ j = 3 ∨ j = 4 by omega) with rfl | rfl | rfl | rfl | rfl
      · exact (hs _ (List.mem_of_getElem? (i := 227) rfl))
      · exact (hs _ (List.mem_of_getElem? (i := 228) rfl))
      · exact (hs _ (List.mem_of_getElem? (i := 229) rfl))
      · exact (hs _ (List.mem_of_getElem? (i := 230) rfl))
      · exact (hs _ (List.mem_of_getElem? (i := 231) rfl))
  have e6 : ∀ j : Nat, j < 4 → (Cond.eq (.elem (.field (.string (srO 6) (srK 6)) "java/lang/String" "value" "[B") (.int (Int32.ofNat j))) (.int ((srB 6).getD j 0))).before #[Value.ref b] s = true := fun j hj => by
      rcases (show j = 0 ∨ j = 1 ∨ j = 2 ∨ j = 3 by omega) with rfl | rfl | rfl | rfl
      · exact (hs _ (List.mem_of_getElem? (i := 242) rfl))
      · exact (hs _ (List.mem_of_getElem? (i := 243) rfl))
      · exact (hs _ (List.mem_of_getElem? (i := 244) rfl))
      · exact (hs _ (List.mem_of_getElem? (i := 245) rfl))
  have e7 : ∀ j : Nat, j < 4 → (Cond.eq (.elem (.field (.string (srO 7) (srK 7)) "java/lang/String" "value" "[B") (.int (Int32.ofNat j))) (.int ((srB 7).getD j 0))).before #[Value.ref b] s = true := fun j hj => by
      rcases (show j = 0 ∨ j = 1 ∨ j = 2 ∨ j = 3 by omega) with rfl | rfl | rfl | rfl
      · exact (hs _ (List.mem_of_getElem? (i := 257) rfl))
      · exact (hs _ (List.mem_of_getElem? (i := 258) rfl))
      · exact (hs _ (List.mem_of_getElem? (i := 259) rfl))
      · exact (hs _ (List.mem_of_getElem? (i := 260) rfl))
  have e8 : ∀ j : Nat, j < 4 → (Cond.eq (.elem (.field (.string (srO 8) (srK 8)) "java/lang/String" "value" "[B") (.int (Int32.ofNat j))) (.int ((srB 8).getD j 0))).before #[Value.ref b] s = true := fun j hj => by
      rcases (show j = 0 ∨ j = 1 ∨ j = 2 ∨ j = 3 by omega) with rfl | rfl | rfl | rfl
      · exact (hs _ (List.mem_of_getElem? (i := 273) rfl))
      · exact (hs _ (List.mem_of_getElem? (i := 274) rfl))
      · exact (hs _ (List.mem_of_getElem? (i := 275) rfl))
      · exact (hs _ (List.mem_of_getElem? (i := 276) rfl))
  have e9 : ∀ j : Nat, j < 2 → (Cond.eq (.elem (.field (.string (srO 9) (srK 9)) "java/lang/String" "value" "[B") (.int (Int32.ofNat j))) (.int ((srB 9).getD j 0))).before #[Value.ref b] s = true := fun j hj => by
      rcases (show j = 0 ∨ j = 1 by omega) with rfl | rfl
      · exact (hs _ (List.mem_of_getElem? (i := 290) rfl))
      · exact (hs _ (List.mem_of_getElem? (i := 291) rfl))
  have e10 : ∀ j : Nat, j < 3 → (Cond.eq (.elem (.field (.string (srO 10) (srK 10)) "java/lang/String" "value" "[B") (.int (Int32.ofNat j))) (.int ((srB 10).getD j 0))).before #[Value.ref b] s = true := fun j hj => by
      rcases (show j = 0 ∨ j = 1 ∨ j = 2 by omega) with rfl | rfl | rfl
      · exact (hs _ (List.mem_of_getElem? (i := 306) rfl))
      · exact (hs _ (List.mem_of_getElem? (i := 307) rfl))
      · exact (hs _ (List.mem_of_getElem? (i := 308) rfl))
  have e11 : ∀ j : Nat, j < 3 → (Cond.eq (.elem (.field (.string (srO 11) (srK 11)) "java/lang/String" "value" "[B") (.int (Int32.ofNat j))) (.int ((srB 11).getD j 0))).before #[Value.ref b] s = true := fun j hj => by
      rcases (show j = 0 ∨ j = 1 ∨ j = 2 by omega) with rfl | rfl | rfl
      · exact (hs _ (List.mem_of_getElem? (i := 324) rfl))
      · exact (hs _ (List.mem_of_getElem? (i := 325) rfl))
      · exact (hs _ (List.mem_of_getElem? (i := 326) rfl))
  have e12 : ∀ j : Nat, j < 70 → (Cond.eq (.elem (.field (.string (srO 12) (srK 12)) "java/lang/String" "value" "[B") (.int (Int32.ofNat j))) (.int ((srB 12).getD j 0))).before #[Value.ref b] s = true := fun j hj => by
      rcases (show j = 0 ∨ j = 1 ∨ j = 2 ∨ j = 3 ∨ j = 4 ∨ j = 5 ∨ j = 6 ∨ j = 7 ∨ j = 8 ∨ j = 9 ∨ j = 10 ∨ j = 11 ∨ j = 12 ∨ j = 13 ∨ j = 14 ∨ j = 15 ∨ j = 16 ∨ j = 17 ∨ j = 18 ∨ j = 19 ∨ j = 20 ∨ j = 21 ∨ j = 22 ∨ j = 23 ∨ j = 24 ∨ j = 25 ∨ j = 26 ∨ j = 27 ∨ j = 28 ∨ j = 29 ∨ j = 30 ∨ j = 31 ∨ j = 32 ∨ j = 33 ∨ j = 34 ∨ j = 35 ∨ j = 36 ∨ j = 37 ∨ j = 38 ∨ j = 39 ∨ j = 40 ∨ j = 41 ∨ j = 42 ∨ j = 43 ∨ j = 44 ∨ j = 45 ∨ j = 46 ∨ j = 47 ∨ j = 48 ∨ j = 49 ∨ j = 50 ∨ j = 51 ∨ j = 52 ∨ j = 53 ∨ j = 54 ∨ j = 55 ∨ j = 56 ∨ j = 57 ∨ j = 58 ∨ j = 59 ∨ j = 60 ∨ j = 61 ∨ j = 62 ∨ j = 63 ∨ j = 64 ∨ j = 65 ∨ j = 66 ∨ j = 67 ∨ j = 68 ∨ j = 69 by omega) with rfl | rfl | rfl | rfl | rfl | rfl | rfl | rfl | rfl | rfl | rfl | rfl | rfl | rfl | rfl | rfl | rfl | rfl | rfl | rfl | rfl | rfl | rfl | rfl | rfl | rfl | rfl | rfl | rfl | rfl | rfl | rfl | rfl | rfl | rfl | rfl | rfl | rfl | rfl | rfl | rfl | rfl | rfl | rfl | rfl | rfl | rfl | rfl | rfl | rfl | rfl | rfl | rfl | rfl | rfl | rfl | rfl | rfl | rfl | rfl | rfl | rfl | rfl | rfl | rfl | rfl | rfl | rfl | rfl | rfl
      · exact (hs _ (List.mem_of_getElem? (i := 100) rfl))
      · exact (hs _ (List.mem_of_getElem? (i := 101) rfl))
      · exact (hs _ (List.mem_of_getElem? (i := 102) rfl))
      · exact (hs _ (List.mem_of_getElem? (i := 103) rfl))
      · exact (hs _ (List.mem_of_getElem? (i := 104) rfl))
      · exact (hs _ (List.mem_of_getElem? (i := 105) rfl))
      · exact (hs _ (List.mem_of_getElem? (i := 106) rfl))
      · exact (hs _ (List.mem_of_getElem? (i := 107) rfl))
      · exact (hs _ (List.mem_of_getElem? (i := 108) rfl))
      · exact (hs _ (List.mem_of_getElem? (i := 109) rfl))
      · exact (hs _ (List.mem_of_getElem? (i := 110) rfl))
      · exact (hs _ (List.mem_of_getElem? (i := 111) rfl))
      · exact (hs _ (List.mem_of_getElem? (i := 112) rfl))
      · exact (hs _ (List.mem_of_getElem? (i := 113) rfl))
      · exact (hs _ (List.mem_of_getElem? (i := 114) rfl))
      · exact (hs _ (List.mem_of_getElem? (i := 115) rfl))
      · exact (hs _ (List.mem_of_getElem? (i := 116) rfl))
      · exact (hs _ (List.mem_of_getElem? (i := 117) rfl))
      · exact (hs _ (List.mem_of_getElem? (i := 118) rfl))
      · exact (hs _ (List.mem_of_getElem? (i := 119) rfl))
      · exact (hs _ (List.mem_of_getElem? (i := 120) rfl))
      · exact (hs _ (List.mem_of_getElem? (i := 121) rfl))
      · exact (hs _ (List.mem_of_getElem? (i := 122) rfl))
      · exact (hs _ (List.mem_of_getElem? (i := 123) rfl))
      · exact (hs _ (List.mem_of_getElem? (i := 124) rfl))
      · exact (hs _ (List.mem_of_getElem? (i := 125) rfl))
      · exact (hs _ (List.mem_of_getElem? (i := 126) rfl))
      · exact (hs _ (List.mem_of_getElem? (i := 127) rfl))
      · exact (hs _ (List.mem_of_getElem? (i := 128) rfl))
      · exact (hs _ (List.mem_of_getElem? (i := 129) rfl))
      · exact (hs _ (List.mem_of_getElem? (i := 130) rfl))
      · exact (hs _ (List.mem_of_getElem? (i := 131) rfl))
      · exact (hs _ (List.mem_of_getElem? (i := 132) rfl))
      · exact (hs _ (List.mem_of_getElem? (i := 133) rfl))
      · exact (hs _ (List.mem_of_getElem? (i := 134) rfl))
      · exact (hs _ (List.mem_of_getElem? (i := 135) rfl))
      · exact (hs _ (List.mem_of_getElem? (i := 136) rfl))
      · exact (hs _ (List.mem_of_getElem? (i := 137) rfl))
      · exact (hs _ (List.mem_of_getElem? (i := 138) rfl))
      · exact (hs _ (List.mem_of_getElem? (i := 139) rfl))
      · exact (hs _ (List.mem_of_getElem? (i := 140) rfl))
      · exact (hs _ (List.mem_of_getElem? (i := 141) rfl))
      · exact (hs _ (List.mem_of_getElem? (i := 142) rfl))
      · exact (hs _ (List.mem_of_getElem? (i := 143) rfl))
      · exact (hs _ (List.mem_of_getElem? (i := 144) rfl))
      · exact (hs _ (List.mem_of_getElem? (i := 145) rfl))
      · exact (hs _ (List.mem_of_getElem? (i := 146) rfl))
      · exact (hs _ (List.mem_of_getElem? (i := 147) rfl))
      · exact (hs _ (List.mem_of_getElem? (i := 148) rfl))
      · exact (hs _ (List.mem_of_getElem? (i := 149) rfl))
      · exact (hs _ (List.mem_of_getElem? (i := 150) rfl))
      · exact (hs _ (List.mem_of_getElem? (i := 151) rfl))
      · exact (hs _ (List.mem_of_getElem? (i := 152) rfl))
      · exact (hs _ (List.mem_of_getElem? (i := 153) rfl))
      · exact (hs _ (List.mem_of_getElem? (i := 154) rfl))
      · exact (hs _ (List.mem_of_getElem? (i := 155) rfl))
      · exact (hs _ (List.mem_of_getElem? (i := 156) rfl))
      · exact (hs _ (List.mem_of_getElem? (i := 157) rfl))
      · exact (hs _ (List.mem_of_getElem? (i := 158) rfl))
      · exact (hs _ (List.mem_of_getElem? (i := 159) rfl))
      · exact (hs _ (List.mem_of_getElem? (i := 160) rfl))
      · exact (hs _ (List.mem_of_getElem? (i := 161) rfl))
      · exact (hs _ (List.mem_of_getElem? (i := 162) rfl))
      · exact (hs _ (List.mem_of_getElem? (i := 163) rfl))
      · exact (hs _ (List.mem_of_getElem? (i := 164) rfl))
      · exact (hs _ (List.mem_of_getElem? (i := 165) rfl))
      · exact (hs _ (List.mem_of_getElem? (i := 166) rfl))
      · exact (hs _ (List.mem_of_getElem? (i := 167) rfl))
      · exact (hs _ (List.mem_of_getElem? (i := 168) rfl))
      · exact (hs _ (List.mem_of_getElem? (i := 169) rfl))
  have n0 : ∀ j : Nat, j < 13 → 0 ≠ j → (Cond.not (Cond.eq (.string (srO 0) (srK 0)) (.string (srO j) (srK j)))).before #[Value.ref b] s = true ∨ (Cond.not (Cond.eq (.string (srO j) (srK j)) (.string (srO 0) (srK 0)))).before #[Value.ref b] s = true := fun j hj => by
      rcases (show j = 0 ∨ j = 1 ∨ j = 2 ∨ j = 3 ∨ j = 4 ∨ j = 5 ∨ j = 6 ∨ j = 7 ∨ j = 8 ∨ j = 9 ∨ j = 10 ∨ j = 11 ∨ j = 12 by omega) with rfl | rfl | rfl | rfl | rfl | rfl | rfl | rfl | rfl | rfl | rfl | rfl | rfl
      · exact fun q => absurd rfl q
      · exact fun _ => Or.inl (hs _ (List.mem_of_getElem? (i := 188) rfl))
      · exact fun _ => Or.inl (hs _ (List.mem_of_getElem? (i := 198) rfl))
      · exact fun _ => Or.inl (hs _ (List.mem_of_getElem? (i := 208) rfl))
      · exact fun _ => Or.inl (hs _ (List.mem_of_getElem? (i := 219) rfl))
      · exact fun _ => Or.inl (hs _ (List.mem_of_getElem? (i := 233) rfl))
      · exact fun _ => Or.inl (hs _ (List.mem_of_getElem? (i := 247) rfl))
      · exact fun _ => Or.inl (hs _ (List.mem_of_getElem? (i := 262) rfl))
      · exact fun _ => Or.inl (hs _ (List.mem_of_getElem? (i := 278) rfl))
      · exact fun _ => Or.inl (hs _ (List.mem_of_getElem? (i := 293) rfl))
      · exact fun _ => Or.inl (hs _ (List.mem_of_getElem? (i := 310) rfl))
      · exact fun _ => Or.inl (hs _ (List.mem_of_getElem? (i := 328) rfl))
      · exact fun _ => Or.inr (hs _ (List.mem_of_getElem? (i := 178) rfl))
  have n1 : ∀ j : Nat, j < 13 → 1 ≠ j → (Cond.not (Cond.eq (.string (srO 1) (srK 1)) (.string (srO j) (srK j)))).before #[Value.ref b] s = true ∨ (Cond.not (Cond.eq (.string (srO j) (srK j)) (.string (srO 1) (srK 1)))).before #[Value.ref b] s = true := fun j hj => by
      rcases (show j = 0 ∨ j = 1 ∨ j = 2 ∨ j = 3 ∨ j = 4 ∨ j = 5 ∨ j = 6 ∨ j = 7 ∨ j = 8 ∨ j = 9 ∨ j = 10 ∨ j = 11 ∨ j = 12 by omega) with rfl | rfl | rfl | rfl | rfl | rfl | rfl | rfl | rfl | rfl | rfl | rfl | rfl
      · exact fun _ => Or.inr (hs _ (List.mem_of_getElem? (i := 188) rfl))
      · exact fun q => absurd rfl q
      · exact fun _ => Or.inl (hs _ (List.mem_of_getElem? (i := 199) rfl))
      · exact fun _ => Or.inl (hs _ (List.mem_of_getElem? (i := 209) rfl))
      · exact fun _ => Or.inl (hs _ (List.mem_of_getElem? (i := 220) rfl))
      · exact fun _ => Or.inl (hs _ (List.mem_of_getElem? (i := 234) rfl))
      · exact fun _ => Or.inl (hs _ (List.mem_of_getElem? (i := 248) rfl))
      · exact fun _ => Or.inl (hs _ (List.mem_of_getElem? (i := 263) rfl))
      · exact fun _ => Or.inl (hs _ (List.mem_of_getElem? (i := 279) rfl))
      · exact fun _ => Or.inl (hs _ (List.mem_of_getElem? (i := 294) rfl))
      · exact fun _ => Or.inl (hs _ (List.mem_of_getElem? (i := 311) rfl))
      · exact fun _ => Or.inl (hs _ (List.mem_of_getElem? (i := 329) rfl))
      · exact fun _ => Or.inr (hs _ (List.mem_of_getElem? (i := 187) rfl))
  have n2 : ∀ j : Nat, j < 13 → 2 ≠ j → (Cond.not (Cond.eq (.string (srO 2) (srK 2)) (.string (srO j) (srK j)))).before #[Value.ref b] s = true ∨ (Cond.not (Cond.eq (.string (srO j) (srK j)) (.string (srO 2) (srK 2)))).before #[Value.ref b] s = true := fun j hj => by
      rcases (show j = 0 ∨ j = 1 ∨ j = 2 ∨ j = 3 ∨ j = 4 ∨ j = 5 ∨ j = 6 ∨ j = 7 ∨ j = 8 ∨ j = 9 ∨ j = 10 ∨ j = 11 ∨ j = 12 by omega) with rfl | rfl | rfl | rfl | rfl | rfl | rfl | rfl | rfl | rfl | rfl | rfl | rfl
      · exact fun _ => Or.inr (hs _ (List.mem_of_getElem? (i := 198) rfl))
      · exact fun _ => Or.inr (hs _ (List.mem_of_getElem? (i := 199) rfl))
      · exact fun q => absurd rfl q
      · exact fun _ => Or.inl (hs _ (List.mem_of_getElem? (i := 210) rfl))
      · exact fun _ => Or.inl (hs _ (List.mem_of_getElem? (i := 221) rfl))
      · exact fun _ => Or.inl (hs _ (List.mem_of_getElem? (i := 235) rfl))
      · exact fun _ => Or.inl (hs _ (List.mem_of_getElem? (i := 249) rfl))
      · exact fun _ => Or.inl (hs _ (List.mem_of_getElem? (i := 264) rfl))
      · exact fun _ => Or.inl (hs _ (List.mem_of_getElem? (i := 280) rfl))
      · exact fun _ => Or.inl (hs _ (List.mem_of_getElem? (i := 295) rfl))
      · exact fun _ => Or.inl (hs _ (List.mem_of_getElem? (i := 312) rfl))
      · exact fun _ => Or.inl (hs _ (List.mem_of_getElem? (i := 330) rfl))
      · exact fun _ => Or.inr (hs _ (List.mem_of_getElem? (i := 197) rfl))
  have n3 : ∀ j : Nat, j < 13 → 3 ≠ j → (Cond.not (Cond.eq (.string (srO 3) (srK 3)) (.string (srO j) (srK j)))).before #[Value.ref b] s = true ∨ (Cond.not (Cond.eq (.string (srO j) (srK j)) (.string (srO 3) (srK 3)))).before #[Value.ref b] s = true := fun j hj => by
      rcases (show j = 0 ∨ j = 1 ∨ j = 2 ∨ j = 3 ∨ j = 4 ∨ j = 5 ∨ j = 6 ∨ j = 7 ∨ j = 8 ∨ j = 9 ∨ j = 10 ∨ j = 11 ∨ j = 12 by omega) with rfl | rfl | rfl | rfl | rfl | rfl | rfl | rfl | rfl | rfl | rfl | rfl | rfl
      · exact fun _ => Or.inr (hs _ (List.mem_of_getElem? (i := 208) rfl))
      · exact fun _ => Or.inr (hs _ (List.mem_of_getElem? (i := 209) rfl))
      · exact fun _ => Or.inr (hs _ (List.mem_of_getElem? (i := 210) rfl))
      · exact fun q => absurd rfl q
      · exact fun _ => Or.inl (hs _ (List.mem_of_getElem? (i := 222) rfl))
      · exact fun _ => Or.inl (hs _ (List.mem_of_getElem? (i := 236) rfl))
      · exact fun _ => Or.inl (hs _ (List.mem_of_getElem? (i := 250) rfl))
      · exact fun _ => Or.inl (hs _ (List.mem_of_getElem? (i := 265) rfl))
      · exact fun _ => Or.inl (hs _ (List.mem_of_getElem? (i := 281) rfl))
      · exact fun _ => Or.inl (hs _ (List.mem_of_getElem? (i := 296) rfl))
      · exact fun _ => Or.inl (hs _ (List.mem_of_getElem? (i := 313) rfl))
      · exact fun _ => Or.inl (hs _ (List.mem_of_getElem? (i := 331) rfl))
      · exact fun _ => Or.inr (hs _ (List.mem_of_getElem? (i := 207) rfl))
  have n4 : ∀ j : Nat, j < 13 → 4 ≠ j → (Cond.not (Cond.eq (.string (srO 4) (srK 4)) (.string (srO j) (srK j)))).before #[Value.ref b] s = true ∨ (Cond.not (Cond.eq (.string (srO j) (srK j)) (.string (srO 4) (srK 4)))).before #[Value.ref b] s = true := fun j hj => by
      rcases (show j = 0 ∨ j = 1 ∨ j = 2 ∨ j = 3 ∨ j = 4 ∨ j = 5 ∨ j = 6 ∨ j = 7 ∨ j = 8 ∨ j = 9 ∨ j = 10 ∨ j = 11 ∨ j = 12 by omega) with rfl | rfl | rfl | rfl | rfl | rfl | rfl | rfl | rfl | rfl | rfl | rfl | rfl
      · exact fun _ => Or.inr (hs _ (List.mem_of_getElem? (i := 219) rfl))
      · exact fun _ => Or.inr (hs _ (List.mem_of_getElem? (i := 220) rfl))
      · exact fun _ => Or.inr (hs _ (List.mem_of_getElem? (i := 221) rfl))
      · exact fun _ => Or.inr (hs _ (List.mem_of_getElem? (i := 222) rfl))
      · exact fun q => absurd rfl q
      · exact fun _ => Or.inl (hs _ (List.mem_of_getElem? (i := 237) rfl))
      · exact fun _ => Or.inl (hs _ (List.mem_of_getElem? (i := 251) rfl))
      · exact fun _ => Or.inl (hs _ (List.mem_of_getElem? (i := 266) rfl))
      · exact fun _ => Or.inl (hs _ (List.mem_of_getElem? (i := 282) rfl))
      · exact fun _ => Or.inl (hs _ (List.mem_of_getElem? (i := 297) rfl))
      · exact fun _ => Or.inl (hs _ (List.mem_of_getElem? (i := 314) rfl))
      · exact fun _ => Or.inl (hs _ (List.mem_of_getElem? (i := 332) rfl))
      · exact fun _ => Or.inr (hs _ (List.mem_of_getElem? (i := 218) rfl))
  have n5 : ∀ j : Nat, j < 13 → 5 ≠ j → (Cond.not (Cond.eq (.string (srO 5) (srK 5)) (.string (srO j) (srK j)))).before #[Value.ref b] s = true ∨ (Cond.not (Cond.eq (.string (srO j) (srK j)) (.string (srO 5) (srK 5)))).before #[Value.ref b] s = true := fun j hj => by
      rcases (show j = 0 ∨ j = 1 ∨ j = 2 ∨ j = 3 ∨ j = 4 ∨ j = 5 ∨ j = 6 ∨ j = 7 ∨ j = 8 ∨ j = 9 ∨ j = 10 ∨ j = 11 ∨ j = 12 by omega) with rfl | rfl | rfl | rfl | rfl | rfl | rfl | rfl | rfl | rfl | rfl | rfl | rfl
      · exact fun _ => Or.inr (hs _ (List.mem_of_getElem? (i := 233) rfl))
      · exact fun _ => Or.inr (hs _ (List.mem_of_getElem? (i := 234) rfl))
      · exact fun _ => Or.inr (hs _ (List.mem_of_getElem? (i := 235) rfl))
      · exact fun _ => Or.inr (hs _ (List.mem_of_getElem? (i := 236) rfl))
      · exact fun _ => Or.inr (hs _ (List.mem_of_getElem? (i := 237) rfl))
      · exact fun q => absurd rfl q
      · exact fun _ => Or.inl (hs _ (List.mem_of_getElem? (i := 252) rfl))
      · exact fun _ => Or.inl (hs _ (List.mem_of_getElem? (i := 267) rfl))
      · exact fun _ => Or.inl (hs _ (List.mem_of_getElem? (i := 283) rfl))
      · exact fun _ => Or.inl (hs _ (List.mem_of_getElem? (i := 298) rfl))
      · exact fun _ => Or.inl (hs _ (List.mem_of_getElem? (i := 315) rfl))
      · exact fun _ => Or.inl (hs _ (List.mem_of_getElem? (i := 333) rfl))
      · exact fun _ => Or.inr (hs _ (List.mem_of_getElem? (i := 232) rfl))
  have n6 : ∀ j : Nat, j < 13 → 6 ≠ j → (Cond.not (Cond.eq (.string (srO 6) (srK 6)) (.string (srO j) (srK j)))).before #[Value.ref b] s = true ∨ (Cond.not (Cond.eq (.string (srO j) (srK j)) (.string (srO 6) (srK 6)))).before #[Value.ref b] s = true := fun j hj => by
      rcases (show j = 0 ∨ j = 1 ∨ j = 2 ∨ j = 3 ∨ j = 4 ∨ j = 5 ∨ j = 6 ∨ j = 7 ∨ j = 8 ∨ j = 9 ∨ j = 10 ∨ j = 11 ∨ j = 12 by omega) with rfl | rfl | rfl | rfl | rfl | rfl | rfl | rfl | rfl | rfl | rfl | rfl | rfl
      · exact fun _ => Or.inr (hs _ (List.mem_of_getElem? (i := 247) rfl))
      · exact fun _ => Or.inr (hs _ (List.mem_of_getElem? (i := 248) rfl))
      · exact fun _ => Or.inr (hs _ (List.mem_of_getElem? (i := 249) rfl))
      · exact fun _ => Or.inr (hs _ (List.mem_of_getElem? (i := 250) rfl))
      · exact fun _ => Or.inr (hs _ (List.mem_of_getElem? (i := 251) rfl))
      · exact fun _ => Or.inr (hs _ (List.mem_of_getElem? (i := 252) rfl))
      · exact fun q => absurd rfl q
      · exact fun _ => Or.inl (hs _ (List.mem_of_getElem? (i := 268) rfl))
      · exact fun _ => Or.inl (hs _ (List.mem_of_getElem? (i := 284) rfl))
      · exact fun _ => Or.inl (hs _ (List.mem_of_getElem? (i := 299) rfl))
      · exact fun _ => Or.inl (hs _ (List.mem_of_getElem? (i := 316) rfl))
      · exact fun _ => Or.inl (hs _ (List.mem_of_getElem? (i := 334) rfl))
      · exact fun _ => Or.inr (hs _ (List.mem_of_getElem? (i := 246) rfl))
  have n7 : ∀ j : Nat, j < 13 → 7 ≠ j → (Cond.not (Cond.eq (.string (srO 7) (srK 7)) (.string (srO j) (srK j)))).before #[Value.ref b] s = true ∨ (Cond.not (Cond.eq (.string (srO j) (srK j)) (.string (srO 7) (srK 7)))).before #[Value.ref b] s = true := fun j hj => by
      rcases (show j = 0 ∨ j = 1 ∨ j = 2 ∨ j = 3 ∨ j = 4 ∨ j = 5 ∨ j = 6 ∨ j = 7 ∨ j = 8 ∨ j = 9 ∨ j = 10 ∨ j = 11 ∨ j = 12 by omega) with rfl | rfl | rfl | rfl | rfl | rfl | rfl | rfl | rfl | rfl | rfl | rfl | rfl
      · exact fun _ => Or.inr (hs _ (List.mem_of_getElem? (i := 262) rfl))
      · exact fun _ => Or.inr (hs _ (List.mem_of_getElem? (i := 263) rfl))
      · exact fun _ => Or.inr (hs _ (List.mem_of_getElem? (i := 264) rfl))
      · exact fun _ => Or.inr (hs _ (List.mem_of_getElem? (i := 265) rfl))
      · exact fun _ => Or.inr (hs _ (List.mem_of_getElem? (i := 266) rfl))
      · exact fun _ => Or.inr (hs _ (List.mem_of_getElem? (i := 267) rfl))
      · exact fun _ => Or.inr (hs _ (List.mem_of_getElem? (i := 268) rfl))
      · exact fun q => absurd rfl q
      · exact fun _ => Or.inl (hs _ (List.mem_of_getElem? (i := 285) rfl))
      · exact fun _ => Or.inl (hs _ (List.mem_of_getElem? (i := 300) rfl))
      · exact fun _ => Or.inl (hs _ (List.mem_of_getElem? (i := 317) rfl))
      · exact fun _ => Or.inl (hs _ (List.mem_of_getElem? (i := 335) rfl))
      · exact fun _ => Or.inr (hs _ (List.mem_of_getElem? (i := 261) rfl))
  have n8 : ∀ j : Nat, j < 13 → 8 ≠ j → (Cond.not (Cond.eq (.string (srO 8) (srK 8)) (.string (srO j) (srK j)))).before #[Value.ref b] s = true ∨ (Cond.not (Cond.eq (.string (srO j) (srK j)) (.string (srO 8) (srK 8)))).before #[Value.ref b] s = true := fun j hj => by
      rcases (show j = 0 ∨ j = 1 ∨ j = 2 ∨ j = 3 ∨ j = 4 ∨ j = 5 ∨ j = 6 ∨ j = 7 ∨ j = 8 ∨ j = 9 ∨ j = 10 ∨ j = 11 ∨ j = 12 by omega) with rfl | rfl | rfl | rfl | rfl | rfl | rfl | rfl | rfl | rfl | rfl | rfl | rfl
      · exact fun _ => Or.inr (hs _ (List.mem_of_getElem? (i := 278) rfl))
      · exact fun _ => Or.inr (hs _ (List.mem_of_getElem? (i := 279) rfl))
      · exact fun _ => Or.inr (hs _ (List.mem_of_getElem? (i := 280) rfl))
      · exact fun _ => Or.inr (hs _ (List.mem_of_getElem? (i := 281) rfl))
      · exact fun _ => Or.inr (hs _ (List.mem_of_getElem? (i := 282) rfl))
      · exact fun _ => Or.inr (hs _ (List.mem_of_getElem? (i := 283) rfl))
      · exact fun _ => Or.inr (hs _ (List.mem_of_getElem? (i := 284) rfl))
      · exact fun _ => Or.inr (hs _ (List.mem_of_getElem? (i := 285) rfl))
      · exact fun q => absurd rfl q
      · exact fun _ => Or.inl (hs _ (List.mem_of_getElem? (i := 301) rfl))
      · exact fun _ => Or.inl (hs _ (List.mem_of_getElem? (i := 318) rfl))
      · exact fun _ => Or.inl (hs _ (List.mem_of_getElem? (i := 336) rfl))
      · exact fun _ => Or.inr (hs _ (List.mem_of_getElem? (i := 277) rfl))
  have n9 : ∀ j : Nat, j < 13 → 9 ≠ j → (Cond.not (Cond.eq (.string (srO 9) (srK 9)) (.string (srO j) (srK j)))).before #[Value.ref b] s = true ∨ (Cond.not (Cond.eq (.string (srO j) (srK j)) (.string (srO 9) (srK 9)))).before #[Value.ref b] s = true := fun j hj => by
      rcases (show j = 0 ∨ j = 1 ∨ j = 2 ∨ j = 3 ∨ j = 4 ∨ j = 5 ∨ j = 6 ∨ j = 7 ∨ j = 8 ∨ j = 9 ∨ j = 10 ∨ j = 11 ∨ j = 12 by omega) with rfl | rfl | rfl | rfl | rfl | rfl | rfl | rfl | rfl | rfl | rfl | rfl | rfl
      · exact fun _ => Or.inr (hs _ (List.mem_of_getElem? (i := 293) rfl))
      · exact fun _ => Or.inr (hs _ (List.mem_of_getElem? (i := 294) rfl))
      · exact fun _ => Or.inr (hs _ (List.mem_of_getElem? (i := 295) rfl))
      · exact fun _ => Or.inr (hs _ (List.mem_of_getElem? (i := 296) rfl))
      · exact fun _ => Or.inr (hs _ (List.mem_of_getElem? (i := 297) rfl))
      · exact fun _ => Or.inr (hs _ (List.mem_of_getElem? (i := 298) rfl))
      · exact fun _ => Or.inr (hs _ (List.mem_of_getElem? (i := 299) rfl))
      · exact fun _ => Or.inr (hs _ (List.mem_of_getElem? (i := 300) rfl))
      · exact fun _ => Or.inr (hs _ (List.mem_of_getElem? (i := 301) rfl))
      · exact fun q => absurd rfl q
      · exact fun _ => Or.inl (hs _ (List.mem_of_getElem? (i := 319) rfl))
      · exact fun _ => Or.inl (hs _ (List.mem_of_getElem? (i := 337) rfl))
      · exact fun _ => Or.inr (hs _ (List.mem_of_getElem? (i := 292) rfl))
  have n10 : ∀ j : Nat, j < 13 → 10 ≠ j → (Cond.not (Cond.eq (.string (srO 10) (srK 10)) (.string (srO j) (srK j)))).before #[Value.ref b] s = true ∨ (Cond.not (Cond.eq (.string (srO j) (srK j)) (.string (srO 10) (srK 10)))).before #[Value.ref b] s = true := fun j hj => by
      rcases (show j = 0 ∨ j = 1 ∨ j = 2 ∨ j = 3 ∨ j = 4 ∨ j = 5 ∨ j = 6 ∨ j = 7 ∨ j = 8 ∨ j = 9 ∨ j = 10 ∨ j = 11 ∨ j = 12 by omega) with rfl | rfl | rfl | rfl | rfl | rfl | rfl | rfl | rfl | rfl | rfl | rfl | rfl
      · exact fun _ => Or.inr (hs _ (List.mem_of_getElem? (i := 310) rfl))
      · exact fun _ => Or.inr (hs _ (List.mem_of_getElem? (i := 311) rfl))
      · exact fun _ => Or.inr (hs _ (List.mem_of_getElem? (i := 312) rfl))
      · exact fun _ => Or.inr (hs _ (List.mem_of_getElem? (i := 313) rfl))
      · exact fun _ => Or.inr (hs _ (List.mem_of_getElem? (i := 314) rfl))
      · exact fun _ => Or.inr (hs _ (List.mem_of_getElem? (i := 315) rfl))
      · exact fun _ => Or.inr (hs _ (List.mem_of_getElem? (i := 316) rfl))
      · exact fun _ => Or.inr (hs _ (List.mem_of_getElem? (i := 317) rfl))
      · exact fun _ => Or.inr (hs _ (List.mem_of_getElem? (i := 318) rfl))
      · exact fun _ => Or.inr (hs _ (List.mem_of_getElem? (i := 319) rfl))
      · exact fun q => absurd rfl q
      · exact fun _ => Or.inl (hs _ (List.mem_of_getElem? (i := 338) rfl))
      · exact fun _ => Or.inr (hs _ (List.mem_of_getElem? (i := 309) rfl))
  have n11 : ∀ j : Nat, j < 13 → 11 ≠ j → (Cond.not (Cond.eq (.string (srO 11) (srK 11)) (.string (srO j) (srK j)))).before #[Value.ref b] s = true ∨ (Cond.not (Cond.eq (.string (srO j) (srK j)) (.string (srO 11) (srK 11)))).before #[Value.ref b] s = true := fun j hj => by
      rcases (show j = 0 ∨ j = 1 ∨ j = 2 ∨ j = 3 ∨ j = 4 ∨ j = 5 ∨ j = 6 ∨ j = 7 ∨ j = 8 ∨ j = 9 ∨ j = 10 ∨ j = 11 ∨ j = 12 by omega) with rfl | rfl | rfl | rfl | rfl | rfl | rfl | rfl | rfl | rfl | rfl | rfl | rfl
      · exact fun _ => Or.inr (hs _ (List.mem_of_getElem? (i := 328) rfl))
      · exact fun _ => Or.inr (hs _ (List.mem_of_getElem? (i := 329) rfl))
      · exact fun _ => Or.inr (hs _ (List.mem_of_getElem? (i := 330) rfl))
      · exact fun _ => Or.inr (hs _ (List.mem_of_getElem? (i := 331) rfl))
      · exact fun _ => Or.inr (hs _ (List.mem_of_getElem? (i := 332) rfl))
      · exact fun _ => Or.inr (hs _ (List.mem_of_getElem? (i := 333) rfl))
      · exact fun _ => Or.inr (hs _ (List.mem_of_getElem? (i := 334) rfl))
      · exact fun _ => Or.inr (hs _ (List.mem_of_getElem? (i := 335) rfl))
      · exact fun _ => Or.inr (hs _ (List.mem_of_getElem? (i := 336) rfl))
      · exact fun _ => Or.inr (hs _ (List.mem_of_getElem? (i := 337) rfl))
      · exact fun _ => Or.inr (hs _ (List.mem_of_getElem? (i := 338) rfl))
      · exact fun q => absurd rfl q
      · exact fun _ => Or.inr (hs _ (List.mem_of_getElem? (i := 327) rfl))
  have n12 : ∀ j : Nat, j < 13 → 12 ≠ j → (Cond.not (Cond.eq (.string (srO 12) (srK 12)) (.string (srO j) (srK j)))).before #[Value.ref b] s = true ∨ (Cond.not (Cond.eq (.string (srO j) (srK j)) (.string (srO 12) (srK 12)))).before #[Value.ref b] s = true := fun j hj => by
      rcases (show j = 0 ∨ j = 1 ∨ j = 2 ∨ j = 3 ∨ j = 4 ∨ j = 5 ∨ j = 6 ∨ j = 7 ∨ j = 8 ∨ j = 9 ∨ j = 10 ∨ j = 11 ∨ j = 12 by omega) with rfl | rfl | rfl | rfl | rfl | rfl | rfl | rfl | rfl | rfl | rfl | rfl | rfl
      · exact fun _ => Or.inl (hs _ (List.mem_of_getElem? (i := 178) rfl))
      · exact fun _ => Or.inl (hs _ (List.mem_of_getElem? (i := 187) rfl))
      · exact fun _ => Or.inl (hs _ (List.mem_of_getElem? (i := 197) rfl))
      · exact fun _ => Or.inl (hs _ (List.mem_of_getElem? (i := 207) rfl))
      · exact fun _ => Or.inl (hs _ (List.mem_of_getElem? (i := 218) rfl))
      · exact fun _ => Or.inl (hs _ (List.mem_of_getElem? (i := 232) rfl))
      · exact fun _ => Or.inl (hs _ (List.mem_of_getElem? (i := 246) rfl))
      · exact fun _ => Or.inl (hs _ (List.mem_of_getElem? (i := 261) rfl))
      · exact fun _ => Or.inl (hs _ (List.mem_of_getElem? (i := 277) rfl))
      · exact fun _ => Or.inl (hs _ (List.mem_of_getElem? (i := 292) rfl))
      · exact fun _ => Or.inl (hs _ (List.mem_of_getElem? (i := 309) rfl))
      · exact fun _ => Or.inl (hs _ (List.mem_of_getElem? (i := 327) rfl))
      · exact fun q => absurd rfl q
  obtain ⟨adK, adV, hvS, heS⟩ := vk_Sof (args := #[Value.ref b]) (s := s) (N := 13) (tm := fun i => .string (srO i) (srK i)) (len := (List.range 13).map fun i => (srB i).length) (byt := (List.range 13).map srB) (A := fun q : Nat => s.heap.size ≤ q) (by decide +kernel) (fun i hi => by
        rcases (show i = 0 ∨ i = 1 ∨ i = 2 ∨ i = 3 ∨ i = 4 ∨ i = 5 ∨ i = 6 ∨ i = 7 ∨ i = 8 ∨ i = 9 ∨ i = 10 ∨ i = 11 ∨ i = 12 by omega) with rfl | rfl | rfl | rfl | rfl | rfl | rfl | rfl | rfl | rfl | rfl | rfl | rfl
        · exact (hs _ (List.mem_of_getElem? (i := 170) rfl))
        · exact (hs _ (List.mem_of_getElem? (i := 179) rfl))
        · exact (hs _ (List.mem_of_getElem? (i := 189) rfl))
        · exact (hs _ (List.mem_of_getElem? (i := 200) rfl))
        · exact (hs _ (List.mem_of_getElem? (i := 211) rfl))
        · exact (hs _ (List.mem_of_getElem? (i := 223) rfl))
        · exact (hs _ (List.mem_of_getElem? (i := 238) rfl))
        · exact (hs _ (List.mem_of_getElem? (i := 253) rfl))
        · exact (hs _ (List.mem_of_getElem? (i := 269) rfl))
        · exact (hs _ (List.mem_of_getElem? (i := 286) rfl))
        · exact (hs _ (List.mem_of_getElem? (i := 302) rfl))
        · exact (hs _ (List.mem_of_getElem? (i := 320) rfl))
        · exact (hs _ (List.mem_of_getElem? (i := 96) rfl))) (fun i hi => by
        rcases (show i = 0 ∨ i = 1 ∨ i = 2 ∨ i = 3 ∨ i = 4 ∨ i = 5 ∨ i = 6 ∨ i = 7 ∨ i = 8 ∨ i = 9 ∨ i = 10 ∨ i = 11 ∨ i = 12 by omega) with rfl | rfl | rfl | rfl | rfl | rfl | rfl | rfl | rfl | rfl | rfl | rfl | rfl
        · exact (hs _ (List.mem_of_getElem? (i := 171) rfl))
        · exact (hs _ (List.mem_of_getElem? (i := 180) rfl))
        · exact (hs _ (List.mem_of_getElem? (i := 190) rfl))
        · exact (hs _ (List.mem_of_getElem? (i := 201) rfl))
        · exact (hs _ (List.mem_of_getElem? (i := 212) rfl))
        · exact (hs _ (List.mem_of_getElem? (i := 224) rfl))
        · exact (hs _ (List.mem_of_getElem? (i := 239) rfl))
        · exact (hs _ (List.mem_of_getElem? (i := 254) rfl))
        · exact (hs _ (List.mem_of_getElem? (i := 270) rfl))
        · exact (hs _ (List.mem_of_getElem? (i := 287) rfl))
        · exact (hs _ (List.mem_of_getElem? (i := 303) rfl))
        · exact (hs _ (List.mem_of_getElem? (i := 321) rfl))
        · exact (hs _ (List.mem_of_getElem? (i := 97) rfl))) (fun i hi => by
        rcases (show i = 0 ∨ i = 1 ∨ i = 2 ∨ i = 3 ∨ i = 4 ∨ i = 5 ∨ i = 6 ∨ i = 7 ∨ i = 8 ∨ i = 9 ∨ i = 10 ∨ i = 11 ∨ i = 12 by omega) with rfl | rfl | rfl | rfl | rfl | rfl | rfl | rfl | rfl | rfl | rfl | rfl | rfl
        · exact (hs _ (List.mem_of_getElem? (i := 172) rfl))
        · exact (hs _ (List.mem_of_getElem? (i := 181) rfl))
        · exact (hs _ (List.mem_of_getElem? (i := 191) rfl))
        · exact (hs _ (List.mem_of_getElem? (i := 202) rfl))
        · exact (hs _ (List.mem_of_getElem? (i := 213) rfl))
        · exact (hs _ (List.mem_of_getElem? (i := 225) rfl))
        · exact (hs _ (List.mem_of_getElem? (i := 240) rfl))
        · exact (hs _ (List.mem_of_getElem? (i := 255) rfl))
        · exact (hs _ (List.mem_of_getElem? (i := 271) rfl))
        · exact (hs _ (List.mem_of_getElem? (i := 288) rfl))
        · exact (hs _ (List.mem_of_getElem? (i := 304) rfl))
        · exact (hs _ (List.mem_of_getElem? (i := 322) rfl))
        · exact (hs _ (List.mem_of_getElem? (i := 98) rfl))) (fun i hi => by
        rcases (show i = 0 ∨ i = 1 ∨ i = 2 ∨ i = 3 ∨ i = 4 ∨ i = 5 ∨ i = 6 ∨ i = 7 ∨ i = 8 ∨ i = 9 ∨ i = 10 ∨ i = 11 ∨ i = 12 by omega) with rfl | rfl | rfl | rfl | rfl | rfl | rfl | rfl | rfl | rfl | rfl | rfl | rfl
        · exact (hs _ (List.mem_of_getElem? (i := 173) rfl))
        · exact (hs _ (List.mem_of_getElem? (i := 182) rfl))
        · exact (hs _ (List.mem_of_getElem? (i := 192) rfl))
        · exact (hs _ (List.mem_of_getElem? (i := 203) rfl))
        · exact (hs _ (List.mem_of_getElem? (i := 214) rfl))
        · exact (hs _ (List.mem_of_getElem? (i := 226) rfl))
        · exact (hs _ (List.mem_of_getElem? (i := 241) rfl))
        · exact (hs _ (List.mem_of_getElem? (i := 256) rfl))
        · exact (hs _ (List.mem_of_getElem? (i := 272) rfl))
        · exact (hs _ (List.mem_of_getElem? (i := 289) rfl))
        · exact (hs _ (List.mem_of_getElem? (i := 305) rfl))
        · exact (hs _ (List.mem_of_getElem? (i := 323) rfl))
        · exact (hs _ (List.mem_of_getElem? (i := 99) rfl))) (fun i hi => by
        rcases (show i = 0 ∨ i = 1 ∨ i = 2 ∨ i = 3 ∨ i = 4 ∨ i = 5 ∨ i = 6 ∨ i = 7 ∨ i = 8 ∨ i = 9 ∨ i = 10 ∨ i = 11 ∨ i = 12 by omega) with rfl | rfl | rfl | rfl | rfl | rfl | rfl | rfl | rfl | rfl | rfl | rfl | rfl
        · exact e0
        · exact e1
        · exact e2
        · exact e3
        · exact e4
        · exact e5
        · exact e6
        · exact e7
        · exact e8
        · exact e9
        · exact e10
        · exact e11
        · exact e12) (fun i j hi hj => by
        rcases (show i = 0 ∨ i = 1 ∨ i = 2 ∨ i = 3 ∨ i = 4 ∨ i = 5 ∨ i = 6 ∨ i = 7 ∨ i = 8 ∨ i = 9 ∨ i = 10 ∨ i = 11 ∨ i = 12 by omega) with rfl | rfl | rfl | rfl | rfl | rfl | rfl | rfl | rfl | rfl | rfl | rfl | rfl
        · exact n0 j hj
        · exact n1 j hj
        · exact n2 j hj
        · exact n3 j hj
        · exact n4 j hj
        · exact n5 j hj
        · exact n6 j hj
        · exact n7 j hj
        · exact n8 j hj
        · exact n9 j hj
        · exact n10 j hj
        · exact n11 j hj
        · exact n12 j hj) hA
  obtain ⟨ev, e0, e1, e2, e3, e4, e5, eS, eK, eV⟩ : ∃ ev : Nat → Nat, ev 0 = s.heap.size ∧ ev 1 = cI ∧ ev 2 = c2 ∧ ev 3 = c3 ∧ ev 4 = c4 ∧ ev 5 = c5 ∧ (ev 10 = t0 ∧ ev 11 = t1 ∧ ev 12 = t2 ∧ ev 13 = t3 ∧ ev 14 = t4) ∧ (∀ i, i < 13 → ev (30 + i) = adK i) ∧ ∀ i, i < 13 → ev (50 + i) = adV i := by
    refine ⟨fun k => if 50 ≤ k then adV (k - 50) else if 30 ≤ k then adK (k - 30) else if k = 0 then s.heap.size else if k = 1 then cI else if k = 2 then c2 else if k = 3 then c3 else if k = 4 then c4 else if k = 5 then c5 else if k = 10 then t0 else if k = 11 then t1 else if k = 12 then t2 else if k = 13 then t3 else t4, rfl, rfl, rfl, rfl, rfl, rfl, ⟨rfl, rfl, rfl, rfl, rfl⟩, fun i hi => ?_, fun i hi => ?_⟩
    · show (if 50 ≤ 30 + i then _ else if 30 ≤ 30 + i then adK (30 + i - 30) else _) = _
      rw [if_neg (by omega), if_pos (by omega), Nat.add_sub_cancel_left]
    · show (if 50 ≤ 50 + i then adV (50 + i - 50) else _) = _
      rw [if_pos (by omega), Nat.add_sub_cancel_left]
  have hfA : frA ev = fun q : Nat => s.heap.size ≤ q := by unfold frA; rw [e0]
  obtain ⟨D, hD1⟩ : ∃ D : va_G, ∀ (k : Nat) (q : vw_C), vwCl[k]? = some q → u_Kn s q.1 q.2.1 q.2.2 (D.1 k) (D.2 k) := by
    refine ⟨(fun k => if k = 0 then k0 else if k = 1 then k1 else if k = 2 then k2 else if k = 3 then k3 else if k = 4 then k4 else if k = 5 then k5 else if k = 6 then k6 else if k = 7 then k7 else if k = 8 then k8 else if k = 9 then k9 else k10, fun k => if k = 0 then i0 else if k = 1 then i1 else if k = 2 then i2 else if k = 3 then i3 else if k = 4 then i4 else if k = 5 then i5 else if k = 6 then i6 else if k = 7 then i7 else if k = 8 then i8 else if k = 9 then i9 else i10), ?_⟩
    intro k q hq
    match k, hq with
    | 0, hq => cases hq; exact hk0
    | 1, hq => cases hq; exact hk1
    | 2, hq => cases hq; exact hk2
    | 3, hq => cases hq; exact hk3
    | 4, hq => cases hq; exact hk4
    | 5, hq => cases hq; exact hk5
    | 6, hq => cases hq; exact hk6
    | 7, hq => cases hq; exact hk7
    | 8, hq => cases hq; exact hk8
    | 9, hq => cases hq; exact hk9
    | 10, hq => cases hq; exact hk10
    | k + 11, hq => simp [vwCl] at hq
  have hK : va_K D vwCl (tysE ev) s := by
    refine ⟨hD1, fun k q hq => ?_⟩
    match k, hq with
    | 0, hq => cases hq; rw [e1]; exact ⟨fun N z => ⟨(fun k h => by cases h), kI, fI2, mI, fI3⟩, fI1⟩
    | 1, hq => cases hq; rw [e2]; exact ⟨fun N z => ⟨(fun k h => by cases h), q2, g23, m2, g24⟩, q2, m2, g23, g24, g21, g25⟩
    | 2, hq => cases hq; rw [e3]; exact ⟨fun N z => ⟨(fun k h => by cases h), q3, g33, m3, g34⟩, q3, m3, g33, g34, g31, g35⟩
    | 3, hq => cases hq; rw [e4]; exact ⟨fun N z => ⟨(fun k h => by cases h), q4, g43, m4, g44⟩, q4, m4, g43, g44, g41, g45⟩
    | 4, hq => cases hq; rw [e5]; exact ⟨fun N z => ⟨(fun k h => by cases h), q5, g53, m5, g54⟩, q5, m5, g53, g54, g51, g55⟩
    | k + 5, hq => simp [tysE] at hq
  have hSt : St ev s s.heap := by
    intro i hi
    obtain ⟨f0, f1, f2, f3, f4⟩ := eS
    rw [hfA]
    rcases (show i = 0 ∨ i = 1 ∨ i = 2 ∨ i = 3 ∨ i = 4 by omega) with rfl | rfl | rfl | rfl | rfl
    · show va_Z RX9 "STEP_Y" "[I" (.ref (ev 10)) _ s s.heap ∧ va_T .int (ev 10) _ _ _ s s.heap
      rw [f0]
      exact ⟨hZ0, hT0⟩
    · show va_Z RX9 "STEP_X" "[I" (.ref (ev 11)) _ s s.heap ∧ va_T .int (ev 11) _ _ _ s s.heap
      rw [f1]
      exact ⟨hZ1, hT1⟩
    · show va_Z RX9 "MOST_SAID" "[I" (.ref (ev 12)) _ s s.heap ∧ va_T .int (ev 12) _ _ _ s s.heap
      rw [f2]
      exact ⟨hZ2, hT2⟩
    · show va_Z RX9 "ACT_COST" "[I" (.ref (ev 13)) _ s s.heap ∧ va_T .int (ev 13) _ _ _ s s.heap
      rw [f3]
      exact ⟨hZ3, hT3⟩
    · show va_Z RX9 "BORNE" "[I" (.ref (ev 14)) _ s s.heap ∧ va_T .int (ev 14) _ _ _ s s.heap
      rw [f4]
      exact ⟨hZ4, hT4⟩
  have hStr : vk_S 13 ((List.range 13).map fun i => (srB i).length) ((List.range 13).map srB) (fun i => ev (30 + i)) (fun i => ev (50 + i)) (frA ev) s s.heap := by
    rw [hfA]
    refine ⟨fun i hi => ?_, fun i j hi hj e => ?_⟩
    · show va_O _ (ev (30 + i)) _ _ _ ∧ va_OF _ _ _ _ (ev (30 + i)) _ _ _ ∧ va_OF _ _ _ (.ref (ev (50 + i))) (ev (30 + i)) _ _ _ ∧ va_T _ (ev (50 + i)) _ _ _ _ _
      rw [eK i hi, eV i hi]
      exact hvS.1 i hi
    · have e2 : ev (30 + i) = ev (30 + j) := e
      rw [eK i hi, eK j hj] at e2
      exact hvS.2 i j hi hj e2
  have G0 : Gl s D ev := ⟨e0, hK, hSt, hStr, (by
      intro C hC
      rcases List.mem_cons.mp hC with rfl | hC
      · exact va_AO.of ho2
      rcases List.mem_cons.mp hC with rfl | hC
      · exact va_AO.of ho3
      rcases List.mem_cons.mp hC with rfl | hC
      · exact va_AO.of ho4
      rcases List.mem_cons.mp hC with rfl | hC
      · exact va_AO.of ho5
      · exact absurd hC List.not_mem_nil), by rw [hfA]; exact hZc, by rw [hfA]; exact hZq⟩
  have hSr : Sr ev s := by
    refine ⟨fun i hi => ?_, ?_⟩
    · rw [eK i hi]
      have h2 := heS i hi
      have h1 : (Cond.stringRef (srO i) (srK i) (srT i)).before #[Value.ref b] s = true := by
        rcases (show i = 0 ∨ i = 1 ∨ i = 2 ∨ i = 3 ∨ i = 4 ∨ i = 5 ∨ i = 6 ∨ i = 7 ∨ i = 8 ∨ i = 9 ∨ i = 10 ∨ i = 11 ∨ i = 12 by omega) with rfl | rfl | rfl | rfl | rfl | rfl | rfl | rfl | rfl | rfl | rfl | rfl | rfl
        · exact hts (.stringRef "AnchorThatDrags$Reader" 105 "wind") (List.mem_of_getElem? (i := 383) (by decide +kernel))
        · exact hts (.stringRef "AnchorThatDrags$Reader" 107 "area") (List.mem_of_getElem? (i := 384) (by decide +kernel))
        · exact hts (.stringRef "AnchorThatDrags$Reader" 109 "deep") (List.mem_of_getElem? (i := 385) (by decide +kernel))
        · exact hts (.stringRef "AnchorThatDrags$Reader" 111 "out") (List.mem_of_getElem? (i := 386) (by decide +kernel))
        · exact hts (.stringRef "AnchorThatDrags$Reader" 113 "bed") (List.mem_of_getElem? (i := 387) (by decide +kernel))
        · exact hts (.stringRef "AnchorThatDrags$Reader" 115 "heavy") (List.mem_of_getElem? (i := 388) (by decide +kernel))
        · exact hts (.stringRef "AnchorThatDrags$Reader" 117 "pull") (List.mem_of_getElem? (i := 389) (by decide +kernel))
        · exact hts (.stringRef "AnchorThatDrags$Reader" 119 "hold") (List.mem_of_getElem? (i := 390) (by decide +kernel))
        · exact hts (.stringRef "AnchorThatDrags$Reader" 121 "jerk") (List.mem_of_getElem? (i := 391) (by decide +kernel))
        · exact hts (.stringRef "AnchorThatDrags$Reader" 123 "or") (List.mem_of_getElem? (i := 392) (by decide +kernel))
        · exact hts (.stringRef "AnchorThatDrags$Reader" 125 "and") (List.mem_of_getElem? (i := 393) (by decide +kernel))
        · exact hts (.stringRef "AnchorThatDrags$Reader" 127 "not") (List.mem_of_getElem? (i := 394) (by decide +kernel))
        · exact hts (.stringRef "AnchorThatDrags" 93 "pull wind * area ; hold 60 + heavy * 10 - bed * 20 ; jerk wind - out ;") (List.mem_of_getElem? (i := 294) (by decide +kernel))
      exact vk_Rx h1 h2
    · intro w hw
      exact va_Nw.of (nwL_tab w hw) (hts w (nwL_in w hw))
  have F : Fx p s m #[Value.ref b] c s D ev code 4 R_law := ⟨G0, hx, hb, hml, hown, htw, Vm.Alike.refl _, hSr, fun _ _ => rfl, by rw [e0]; exact Nat.le_refl _⟩
  obtain ⟨X1, M1, hX1, hM1, hLaw⟩ := hPure
  have K : GJ p l e room_1 s m #[Value.ref b] below meth c (lw_Z below #[Value.ref b] s) s D ev 4 0 0 0 [(0, .ref b)] [] [] := by
    refine g_newP F (w := []) (L := []) (n := 0) rfl (fs := [.null, .null, .null, .null, .null, .null, .null, .null, .null, .null, .null, .int 0, .int 0, .int 0, .int 0]) tyX9 tyX9_ok (ci := 9) rfl inlX9 wd_1_0 wd_1_1 wd_1_2 rfl (Nat.le_of_ble_eq_true rfl) (Nat.le_of_ble_eq_true rfl) dL_law_0 ?_
    refine g_sw (st' := .ref (ev 0 + 0) :: []) (ws' := [] ++ [.inr (9, [.null, .null, .null, .null, .null, .null, .null, .null, .null, .null, .null, .int 0, .int 0, .int 0, .int 0])]) rfl rfl ?_
    refine g_dup F dL_law_3 rfl ?_
    refine g_callWi F (y := yX9_init) (id := 0) (As := []) rfl (c_X9_init G0 (M := mw0) hX1) wd_1_8 wd_1_6 wd_1_7 wd_1_2 ⟨by decide, by decide⟩ (nn := 0) (by decide) rfl rfl (Nat.le_of_ble_eq_true rfl) (by decide) (by decide) ⟨(Nat.le_of_ble_eq_true rfl), (Nat.le_of_ble_eq_true rfl)⟩ dL_law_4 ?_
    refine g_astore_n (i := 1) (lv' := [(1, .ref (ev 0 + 0)), (0, .ref b)]) F dL_law_7 rfl (by decide) rfl ?_
    refine g_sw (st' := []) (ws' := cells ev X1 mw0 0 ++ []) rfl (List.append_nil _).symm ?_
    refine g_newP F (L := []) (n := 65) cells_len (fs := [.null, .null, .null, .null, .null, .null, .null, .int 0, .int 0, .null, .null, .null, .null, .null, .null, .null, .null, .null, .int 0, .null, .null, .int 0, .int 0, .int 0, .int 0, .int 0, .int 0, .null, .null, .null, .null, .null, .null, .null, .null, .int 0, .int 0, .int 0, .int 0, .null, .null, .int 0, .int 0, .int 0, .null, .null, .int 0, .null, .null, .null, .null, .null, .null, .null, .null, .int 0]) tyX10 tyX10_ok (ci := 10) rfl inlX10 wd_1_3 wd_1_4 wd_1_5 rfl (Nat.le_of_ble_eq_true rfl) (Nat.le_of_ble_eq_true rfl) dL_law_8 ?_
    refine g_sw (st' := .ref (ev 0 + 65) :: []) (ws' := cells ev X1 mw0 0 ++ [.inr (10, [.null, .null, .null, .null, .null, .null, .null, .int 0, .int 0, .null, .null, .null, .null, .null, .null, .null, .null, .null, .int 0, .null, .null, .int 0, .int 0, .int 0, .int 0, .int 0, .int 0, .null, .null, .null, .null, .null, .null, .null, .null, .int 0, .int 0, .int 0, .int 0, .null, .null, .int 0, .int 0, .int 0, .null, .null, .int 0, .null, .null, .null, .null, .null, .null, .null, .null, .int 0])]) rfl rfl ?_
    refine g_dup F dL_law_11 rfl ?_
    refine g_callWi F (y := yX10_init) (id := 65) (As := []) rfl (c_X10_init G0 hM1) wd_11_12 wd_11_10 wd_11_11 wd_1_5 ⟨by decide, by decide⟩ (nn := 0) (by decide) rfl rfl (Nat.le_of_ble_eq_true rfl) (by decide) (by decide) ⟨(Nat.le_of_ble_eq_true rfl), (Nat.le_of_ble_eq_true rfl)⟩ dL_law_12 ?_
    refine g_astore_n (i := 2) (lv' := [(2, .ref (ev 0 + 65)), (1, .ref (ev 0 + 0)), (0, .ref b)]) F dL_law_15 rfl (by decide) rfl ?_
    refine g_iconst F dL_law_16 (v := 0) (by decide) ?_
    refine g_istore_n (i := 3) (lv' := [(3, .int 0), (2, .ref (ev 0 + 65)), (1, .ref (ev 0 + 0)), (0, .ref b)]) F dL_law_17 rfl (by decide) rfl ?_
    refine g_lv (lv' := [(0, .ref b), (1, .ref (ev 0 + 0)), (2, .ref (ev 0 + 65)), (3, .int 0)]) ⟨rfl, rfl, rfl, rfl, trivial⟩ ?_
    refine g_wd (cells' := 104) (slots' := 6000) (Nat.le_of_ble_eq_true rfl) (Nat.le_of_ble_eq_true rfl) ?_
    exact law_loop G0 F hb hr hlocks hX (by rw [e0]; exact hbl) FU 104 6000 X1 M1 0 0 (Nat.le_of_ble_eq_true rfl) (Nat.le_of_ble_eq_true rfl) (hLaw xs L hL)
  have hl := lv_entry ([.ref b]) (n := 4) (Nat.le_of_ble_eq_true rfl)
  rw [lg_entry_eq]
  exact K s.heap [] _ hl ⟨⟨by rw [e0]; rfl, fun _ _ => rfl, fun k e h => by simp at h⟩, Nat.le_refl _, fun q hq => absurd hq List.not_mem_nil⟩
