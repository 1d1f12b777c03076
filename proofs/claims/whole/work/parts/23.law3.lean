/-! THE START: what the Statement gives, the constructors, the loop -/
def gNr : List Cond := flatC (Jvm.Cond.and given_1 narrow_1)
theorem nz_1 : (Jvm.Cond.eq (Jvm.Term.static "java/lang/String" "COMPACT_STRINGS" "Z") (Jvm.Term.int (1 : Int32))) ∈ gNr := (List.mem_of_getElem? (i := 4) (by decide +kernel))
theorem nz_2 : (Jvm.Cond.isRef (Jvm.Term.static "jdk/internal/util/Preconditions" "SIOOBE_FORMATTER" "Ljava/util/function/BiFunction;")) ∈ gNr := (List.mem_of_getElem? (i := 5) (by decide +kernel))
theorem nz_3 : (Jvm.Cond.isRef (Jvm.Term.static "java/lang/Throwable" "UNASSIGNED_STACK" "[Ljava/lang/StackTraceElement;")) ∈ gNr := (List.mem_of_getElem? (i := 9) (by decide +kernel))
theorem nz_4 : (Jvm.Cond.isRef (Jvm.Term.static "java/lang/Throwable" "SUPPRESSED_SENTINEL" "Ljava/util/List;")) ∈ gNr := (List.mem_of_getElem? (i := 10) (by decide +kernel))
theorem nz_5 : (Jvm.Cond.laysStatic "java/lang/String" "COMPACT_STRINGS" "Z") ∈ lw_tbl := gt_3 (List.mem_of_getElem? (i := 181) (by decide +kernel))
theorem nz_6 : (Jvm.Cond.initialized "java/lang/String") ∈ lw_tbl := gt_1 (List.mem_of_getElem? (i := 16) (by decide +kernel))
theorem nz_7 : (Jvm.Cond.laysStatic "jdk/internal/util/Preconditions" "SIOOBE_FORMATTER" "Ljava/util/function/BiFunction;") ∈ lw_tbl := gt_3 (List.mem_of_getElem? (i := 197) (by decide +kernel))
theorem nz_8 : (Jvm.Cond.initialized "jdk/internal/util/Preconditions") ∈ lw_tbl := gt_1 (List.mem_of_getElem? (i := 18) (by decide +kernel))
theorem nz_9 : (Jvm.Cond.laysStatic "java/lang/Throwable" "UNASSIGNED_STACK" "[Ljava/lang/StackTraceElement;") ∈ lw_tbl := gt_4 (List.mem_of_getElem? (i := 67) (by decide +kernel))
theorem nz_10 : (Jvm.Cond.laysStatic "java/lang/Throwable" "SUPPRESSED_SENTINEL" "Ljava/util/List;") ∈ lw_tbl := gt_4 (List.mem_of_getElem? (i := 69) (by decide +kernel))
theorem nz_11 : (Jvm.Cond.initialized "java/lang/Throwable") ∈ lw_tbl := gt_1 (List.mem_of_getElem? (i := 20) (by decide +kernel))
theorem nz_12 : (Jvm.Cond.not (Jvm.Cond.castable "java/lang/IllegalStateException" "java/lang/IllegalArgumentException")) ∈ gNr := (List.mem_of_getElem? (i := 22) (by decide +kernel))
theorem nz_13 : (Jvm.Cond.not (Jvm.Cond.castable "java/util/NoSuchElementException" "java/lang/IndexOutOfBoundsException")) ∈ gNr := (List.mem_of_getElem? (i := 66) (by decide +kernel))
theorem nz_14 : (Jvm.Cond.not (Jvm.Cond.castable "java/lang/IllegalStateException" "java/lang/IndexOutOfBoundsException")) ∈ gNr := (List.mem_of_getElem? (i := 65) (by decide +kernel))
theorem nz_15 : (Jvm.Cond.not (Jvm.Cond.castable "java/lang/IllegalStateException" "java/util/NoSuchElementException")) ∈ gNr := (List.mem_of_getElem? (i := 51) (by decide +kernel))
theorem nz_16 : (Jvm.Cond.exactly (Jvm.Term.string "GateLifter$Reader" (61 : Nat)) "java/lang/String") ∈ gNr := (List.mem_of_getElem? (i := 67) (by decide +kernel))
theorem nz_17 : (Jvm.Cond.exactly (Jvm.Term.string "GateLifter$Reader" (67 : Nat)) "java/lang/String") ∈ gNr := (List.mem_of_getElem? (i := 74) (by decide +kernel))
theorem nz_18 : (Jvm.Cond.exactly (Jvm.Term.string "GateLifter$Reader" (69 : Nat)) "java/lang/String") ∈ gNr := (List.mem_of_getElem? (i := 83) (by decide +kernel))
theorem nz_19 : (Jvm.Cond.exactly (Jvm.Term.string "GateLifter$Reader" (71 : Nat)) "java/lang/String") ∈ gNr := (List.mem_of_getElem? (i := 93) (by decide +kernel))
theorem nz_20 : (Jvm.Cond.exactly (Jvm.Term.string "GateLifter$Reader" (73 : Nat)) "java/lang/String") ∈ gNr := (List.mem_of_getElem? (i := 103) (by decide +kernel))
theorem nz_21 : (Jvm.Cond.exactly (Jvm.Term.string "GateLifter$Reader" (75 : Nat)) "java/lang/String") ∈ gNr := (List.mem_of_getElem? (i := 115) (by decide +kernel))
theorem nz_22 : (Jvm.Cond.exactly (Jvm.Term.string "GateLifter$Reader" (77 : Nat)) "java/lang/String") ∈ gNr := (List.mem_of_getElem? (i := 128) (by decide +kernel))
theorem nz_23 : (Jvm.Cond.eq (Jvm.Term.field (Jvm.Term.string "GateLifter$Reader" (61 : Nat)) "java/lang/String" "coder" "B") (Jvm.Term.int (0 : Int32))) ∈ gNr := (List.mem_of_getElem? (i := 68) (by decide +kernel))
theorem nz_24 : (Jvm.Cond.eq (Jvm.Term.field (Jvm.Term.string "GateLifter$Reader" (67 : Nat)) "java/lang/String" "coder" "B") (Jvm.Term.int (0 : Int32))) ∈ gNr := (List.mem_of_getElem? (i := 75) (by decide +kernel))
theorem nz_25 : (Jvm.Cond.eq (Jvm.Term.field (Jvm.Term.string "GateLifter$Reader" (69 : Nat)) "java/lang/String" "coder" "B") (Jvm.Term.int (0 : Int32))) ∈ gNr := (List.mem_of_getElem? (i := 84) (by decide +kernel))
theorem nz_26 : (Jvm.Cond.eq (Jvm.Term.field (Jvm.Term.string "GateLifter$Reader" (71 : Nat)) "java/lang/String" "coder" "B") (Jvm.Term.int (0 : Int32))) ∈ gNr := (List.mem_of_getElem? (i := 94) (by decide +kernel))
theorem nz_27 : (Jvm.Cond.eq (Jvm.Term.field (Jvm.Term.string "GateLifter$Reader" (73 : Nat)) "java/lang/String" "coder" "B") (Jvm.Term.int (0 : Int32))) ∈ gNr := (List.mem_of_getElem? (i := 104) (by decide +kernel))
theorem nz_28 : (Jvm.Cond.eq (Jvm.Term.field (Jvm.Term.string "GateLifter$Reader" (75 : Nat)) "java/lang/String" "coder" "B") (Jvm.Term.int (0 : Int32))) ∈ gNr := (List.mem_of_getElem? (i := 116) (by decide +kernel))
theorem nz_29 : (Jvm.Cond.eq (Jvm.Term.field (Jvm.Term.string "GateLifter$Reader" (77 : Nat)) "java/lang/String" "coder" "B") (Jvm.Term.int (0 : Int32))) ∈ gNr := (List.mem_of_getElem? (i := 129) (by decide +kernel))
theorem nz_30 : (Jvm.Cond.arrayOf (Jvm.Term.field (Jvm.Term.string "GateLifter$Reader" (61 : Nat)) "java/lang/String" "value" "[B") Jvm.ClassFile.FieldType.byte) ∈ gNr := (List.mem_of_getElem? (i := 69) (by decide +kernel))
theorem nz_31 : (Jvm.Cond.arrayOf (Jvm.Term.field (Jvm.Term.string "GateLifter$Reader" (67 : Nat)) "java/lang/String" "value" "[B") Jvm.ClassFile.FieldType.byte) ∈ gNr := (List.mem_of_getElem? (i := 76) (by decide +kernel))
theorem nz_32 : (Jvm.Cond.arrayOf (Jvm.Term.field (Jvm.Term.string "GateLifter$Reader" (69 : Nat)) "java/lang/String" "value" "[B") Jvm.ClassFile.FieldType.byte) ∈ gNr := (List.mem_of_getElem? (i := 85) (by decide +kernel))
theorem nz_33 : (Jvm.Cond.arrayOf (Jvm.Term.field (Jvm.Term.string "GateLifter$Reader" (71 : Nat)) "java/lang/String" "value" "[B") Jvm.ClassFile.FieldType.byte) ∈ gNr := (List.mem_of_getElem? (i := 95) (by decide +kernel))
theorem nz_34 : (Jvm.Cond.arrayOf (Jvm.Term.field (Jvm.Term.string "GateLifter$Reader" (73 : Nat)) "java/lang/String" "value" "[B") Jvm.ClassFile.FieldType.byte) ∈ gNr := (List.mem_of_getElem? (i := 105) (by decide +kernel))
theorem nz_35 : (Jvm.Cond.arrayOf (Jvm.Term.field (Jvm.Term.string "GateLifter$Reader" (75 : Nat)) "java/lang/String" "value" "[B") Jvm.ClassFile.FieldType.byte) ∈ gNr := (List.mem_of_getElem? (i := 117) (by decide +kernel))
theorem nz_36 : (Jvm.Cond.arrayOf (Jvm.Term.field (Jvm.Term.string "GateLifter$Reader" (77 : Nat)) "java/lang/String" "value" "[B") Jvm.ClassFile.FieldType.byte) ∈ gNr := (List.mem_of_getElem? (i := 130) (by decide +kernel))
theorem nz_37 : (Jvm.Cond.eq (Jvm.Term.length (Jvm.Term.field (Jvm.Term.string "GateLifter$Reader" (61 : Nat)) "java/lang/String" "value" "[B")) (Jvm.Term.int (3 : Int32))) ∈ gNr := (List.mem_of_getElem? (i := 70) (by decide +kernel))
theorem nz_38 : (Jvm.Cond.eq (Jvm.Term.length (Jvm.Term.field (Jvm.Term.string "GateLifter$Reader" (67 : Nat)) "java/lang/String" "value" "[B")) (Jvm.Term.int (4 : Int32))) ∈ gNr := (List.mem_of_getElem? (i := 77) (by decide +kernel))
theorem nz_39 : (Jvm.Cond.eq (Jvm.Term.length (Jvm.Term.field (Jvm.Term.string "GateLifter$Reader" (69 : Nat)) "java/lang/String" "value" "[B")) (Jvm.Term.int (4 : Int32))) ∈ gNr := (List.mem_of_getElem? (i := 86) (by decide +kernel))
theorem nz_40 : (Jvm.Cond.eq (Jvm.Term.length (Jvm.Term.field (Jvm.Term.string "GateLifter$Reader" (71 : Nat)) "java/lang/String" "value" "[B")) (Jvm.Term.int (3 : Int32))) ∈ gNr := (List.mem_of_getElem? (i := 96) (by decide +kernel))
theorem nz_41 : (Jvm.Cond.eq (Jvm.Term.length (Jvm.Term.field (Jvm.Term.string "GateLifter$Reader" (73 : Nat)) "java/lang/String" "value" "[B")) (Jvm.Term.int (4 : Int32))) ∈ gNr := (List.mem_of_getElem? (i := 106) (by decide +kernel))
theorem nz_42 : (Jvm.Cond.eq (Jvm.Term.length (Jvm.Term.field (Jvm.Term.string "GateLifter$Reader" (75 : Nat)) "java/lang/String" "value" "[B")) (Jvm.Term.int (4 : Int32))) ∈ gNr := (List.mem_of_getElem? (i := 118) (by decide +kernel))
theorem nz_43 : (Jvm.Cond.eq (Jvm.Term.length (Jvm.Term.field (Jvm.Term.string "GateLifter$Reader" (77 : Nat)) "java/lang/String" "value" "[B")) (Jvm.Term.int (4 : Int32))) ∈ gNr := (List.mem_of_getElem? (i := 131) (by decide +kernel))
theorem nz_44 : (Jvm.Cond.eq (Jvm.Term.elem (Jvm.Term.field (Jvm.Term.string "GateLifter$Reader" (61 : Nat)) "java/lang/String" "value" "[B") (Jvm.Term.int (0 : Int32))) (Jvm.Term.int (110 : Int32))) ∈ gNr := (List.mem_of_getElem? (i := 71) (by decide +kernel))
theorem nz_45 : (Jvm.Cond.eq (Jvm.Term.elem (Jvm.Term.field (Jvm.Term.string "GateLifter$Reader" (61 : Nat)) "java/lang/String" "value" "[B") (Jvm.Term.int (1 : Int32))) (Jvm.Term.int (101 : Int32))) ∈ gNr := (List.mem_of_getElem? (i := 72) (by decide +kernel))
theorem nz_46 : (Jvm.Cond.eq (Jvm.Term.elem (Jvm.Term.field (Jvm.Term.string "GateLifter$Reader" (61 : Nat)) "java/lang/String" "value" "[B") (Jvm.Term.int (2 : Int32))) (Jvm.Term.int (116 : Int32))) ∈ gNr := (List.mem_of_getElem? (i := 73) (by decide +kernel))
theorem nz_47 : (Jvm.Cond.eq (Jvm.Term.elem (Jvm.Term.field (Jvm.Term.string "GateLifter$Reader" (67 : Nat)) "java/lang/String" "value" "[B") (Jvm.Term.int (0 : Int32))) (Jvm.Term.int (114 : Int32))) ∈ gNr := (List.mem_of_getElem? (i := 78) (by decide +kernel))
theorem nz_48 : (Jvm.Cond.eq (Jvm.Term.elem (Jvm.Term.field (Jvm.Term.string "GateLifter$Reader" (67 : Nat)) "java/lang/String" "value" "[B") (Jvm.Term.int (1 : Int32))) (Jvm.Term.int (111 : Int32))) ∈ gNr := (List.mem_of_getElem? (i := 79) (by decide +kernel))
theorem nz_49 : (Jvm.Cond.eq (Jvm.Term.elem (Jvm.Term.field (Jvm.Term.string "GateLifter$Reader" (67 : Nat)) "java/lang/String" "value" "[B") (Jvm.Term.int (2 : Int32))) (Jvm.Term.int (111 : Int32))) ∈ gNr := (List.mem_of_getElem? (i := 80) (by decide +kernel))
theorem nz_50 : (Jvm.Cond.eq (Jvm.Term.elem (Jvm.Term.field (Jvm.Term.string "GateLifter$Reader" (67 : Nat)) "java/lang/String" "value" "[B") (Jvm.Term.int (3 : Int32))) (Jvm.Term.int (116 : Int32))) ∈ gNr := (List.mem_of_getElem? (i := 81) (by decide +kernel))
theorem nz_51 : (Jvm.Cond.eq (Jvm.Term.elem (Jvm.Term.field (Jvm.Term.string "GateLifter$Reader" (69 : Nat)) "java/lang/String" "value" "[B") (Jvm.Term.int (0 : Int32))) (Jvm.Term.int (101 : Int32))) ∈ gNr := (List.mem_of_getElem? (i := 87) (by decide +kernel))
theorem nz_52 : (Jvm.Cond.eq (Jvm.Term.elem (Jvm.Term.field (Jvm.Term.string "GateLifter$Reader" (69 : Nat)) "java/lang/String" "value" "[B") (Jvm.Term.int (1 : Int32))) (Jvm.Term.int (120 : Int32))) ∈ gNr := (List.mem_of_getElem? (i := 88) (by decide +kernel))
theorem nz_53 : (Jvm.Cond.eq (Jvm.Term.elem (Jvm.Term.field (Jvm.Term.string "GateLifter$Reader" (69 : Nat)) "java/lang/String" "value" "[B") (Jvm.Term.int (2 : Int32))) (Jvm.Term.int (105 : Int32))) ∈ gNr := (List.mem_of_getElem? (i := 89) (by decide +kernel))
theorem nz_54 : (Jvm.Cond.eq (Jvm.Term.elem (Jvm.Term.field (Jvm.Term.string "GateLifter$Reader" (69 : Nat)) "java/lang/String" "value" "[B") (Jvm.Term.int (3 : Int32))) (Jvm.Term.int (116 : Int32))) ∈ gNr := (List.mem_of_getElem? (i := 90) (by decide +kernel))
theorem nz_55 : (Jvm.Cond.eq (Jvm.Term.elem (Jvm.Term.field (Jvm.Term.string "GateLifter$Reader" (71 : Nat)) "java/lang/String" "value" "[B") (Jvm.Term.int (0 : Int32))) (Jvm.Term.int (108 : Int32))) ∈ gNr := (List.mem_of_getElem? (i := 97) (by decide +kernel))
theorem nz_56 : (Jvm.Cond.eq (Jvm.Term.elem (Jvm.Term.field (Jvm.Term.string "GateLifter$Reader" (71 : Nat)) "java/lang/String" "value" "[B") (Jvm.Term.int (1 : Int32))) (Jvm.Term.int (97 : Int32))) ∈ gNr := (List.mem_of_getElem? (i := 98) (by decide +kernel))
theorem nz_57 : (Jvm.Cond.eq (Jvm.Term.elem (Jvm.Term.field (Jvm.Term.string "GateLifter$Reader" (71 : Nat)) "java/lang/String" "value" "[B") (Jvm.Term.int (2 : Int32))) (Jvm.Term.int (121 : Int32))) ∈ gNr := (List.mem_of_getElem? (i := 99) (by decide +kernel))
theorem nz_58 : (Jvm.Cond.eq (Jvm.Term.elem (Jvm.Term.field (Jvm.Term.string "GateLifter$Reader" (73 : Nat)) "java/lang/String" "value" "[B") (Jvm.Term.int (0 : Int32))) (Jvm.Term.int (115 : Int32))) ∈ gNr := (List.mem_of_getElem? (i := 107) (by decide +kernel))
theorem nz_59 : (Jvm.Cond.eq (Jvm.Term.elem (Jvm.Term.field (Jvm.Term.string "GateLifter$Reader" (73 : Nat)) "java/lang/String" "value" "[B") (Jvm.Term.int (1 : Int32))) (Jvm.Term.int (104 : Int32))) ∈ gNr := (List.mem_of_getElem? (i := 108) (by decide +kernel))
theorem nz_60 : (Jvm.Cond.eq (Jvm.Term.elem (Jvm.Term.field (Jvm.Term.string "GateLifter$Reader" (73 : Nat)) "java/lang/String" "value" "[B") (Jvm.Term.int (2 : Int32))) (Jvm.Term.int (117 : Int32))) ∈ gNr := (List.mem_of_getElem? (i := 109) (by decide +kernel))
theorem nz_61 : (Jvm.Cond.eq (Jvm.Term.elem (Jvm.Term.field (Jvm.Term.string "GateLifter$Reader" (73 : Nat)) "java/lang/String" "value" "[B") (Jvm.Term.int (3 : Int32))) (Jvm.Term.int (116 : Int32))) ∈ gNr := (List.mem_of_getElem? (i := 110) (by decide +kernel))
theorem nz_62 : (Jvm.Cond.eq (Jvm.Term.elem (Jvm.Term.field (Jvm.Term.string "GateLifter$Reader" (75 : Nat)) "java/lang/String" "value" "[B") (Jvm.Term.int (0 : Int32))) (Jvm.Term.int (111 : Int32))) ∈ gNr := (List.mem_of_getElem? (i := 119) (by decide +kernel))
theorem nz_63 : (Jvm.Cond.eq (Jvm.Term.elem (Jvm.Term.field (Jvm.Term.string "GateLifter$Reader" (75 : Nat)) "java/lang/String" "value" "[B") (Jvm.Term.int (1 : Int32))) (Jvm.Term.int (112 : Int32))) ∈ gNr := (List.mem_of_getElem? (i := 120) (by decide +kernel))
theorem nz_64 : (Jvm.Cond.eq (Jvm.Term.elem (Jvm.Term.field (Jvm.Term.string "GateLifter$Reader" (75 : Nat)) "java/lang/String" "value" "[B") (Jvm.Term.int (2 : Int32))) (Jvm.Term.int (101 : Int32))) ∈ gNr := (List.mem_of_getElem? (i := 121) (by decide +kernel))
theorem nz_65 : (Jvm.Cond.eq (Jvm.Term.elem (Jvm.Term.field (Jvm.Term.string "GateLifter$Reader" (75 : Nat)) "java/lang/String" "value" "[B") (Jvm.Term.int (3 : Int32))) (Jvm.Term.int (110 : Int32))) ∈ gNr := (List.mem_of_getElem? (i := 122) (by decide +kernel))
theorem nz_66 : (Jvm.Cond.eq (Jvm.Term.elem (Jvm.Term.field (Jvm.Term.string "GateLifter$Reader" (77 : Nat)) "java/lang/String" "value" "[B") (Jvm.Term.int (0 : Int32))) (Jvm.Term.int (116 : Int32))) ∈ gNr := (List.mem_of_getElem? (i := 132) (by decide +kernel))
theorem nz_67 : (Jvm.Cond.eq (Jvm.Term.elem (Jvm.Term.field (Jvm.Term.string "GateLifter$Reader" (77 : Nat)) "java/lang/String" "value" "[B") (Jvm.Term.int (1 : Int32))) (Jvm.Term.int (111 : Int32))) ∈ gNr := (List.mem_of_getElem? (i := 133) (by decide +kernel))
theorem nz_68 : (Jvm.Cond.eq (Jvm.Term.elem (Jvm.Term.field (Jvm.Term.string "GateLifter$Reader" (77 : Nat)) "java/lang/String" "value" "[B") (Jvm.Term.int (2 : Int32))) (Jvm.Term.int (108 : Int32))) ∈ gNr := (List.mem_of_getElem? (i := 134) (by decide +kernel))
theorem nz_69 : (Jvm.Cond.eq (Jvm.Term.elem (Jvm.Term.field (Jvm.Term.string "GateLifter$Reader" (77 : Nat)) "java/lang/String" "value" "[B") (Jvm.Term.int (3 : Int32))) (Jvm.Term.int (108 : Int32))) ∈ gNr := (List.mem_of_getElem? (i := 135) (by decide +kernel))
theorem nz_70 : (Jvm.Cond.not (Jvm.Cond.eq (Jvm.Term.string "GateLifter$Reader" (61 : Nat)) (Jvm.Term.string "GateLifter$Reader" (67 : Nat)))) ∈ gNr := (List.mem_of_getElem? (i := 82) (by decide +kernel))
theorem nz_71 : (Jvm.Cond.not (Jvm.Cond.eq (Jvm.Term.string "GateLifter$Reader" (61 : Nat)) (Jvm.Term.string "GateLifter$Reader" (69 : Nat)))) ∈ gNr := (List.mem_of_getElem? (i := 91) (by decide +kernel))
theorem nz_72 : (Jvm.Cond.not (Jvm.Cond.eq (Jvm.Term.string "GateLifter$Reader" (61 : Nat)) (Jvm.Term.string "GateLifter$Reader" (71 : Nat)))) ∈ gNr := (List.mem_of_getElem? (i := 100) (by decide +kernel))
theorem nz_73 : (Jvm.Cond.not (Jvm.Cond.eq (Jvm.Term.string "GateLifter$Reader" (61 : Nat)) (Jvm.Term.string "GateLifter$Reader" (73 : Nat)))) ∈ gNr := (List.mem_of_getElem? (i := 111) (by decide +kernel))
theorem nz_74 : (Jvm.Cond.not (Jvm.Cond.eq (Jvm.Term.string "GateLifter$Reader" (61 : Nat)) (Jvm.Term.string "GateLifter$Reader" (75 : Nat)))) ∈ gNr := (List.mem_of_getElem? (i := 123) (by decide +kernel))
theorem nz_75 : (Jvm.Cond.not (Jvm.Cond.eq (Jvm.Term.string "GateLifter$Reader" (61 : Nat)) (Jvm.Term.string "GateLifter$Reader" (77 : Nat)))) ∈ gNr := (List.mem_of_getElem? (i := 136) (by decide +kernel))
theorem nz_76 : (Jvm.Cond.not (Jvm.Cond.eq (Jvm.Term.string "GateLifter$Reader" (67 : Nat)) (Jvm.Term.string "GateLifter$Reader" (69 : Nat)))) ∈ gNr := (List.mem_of_getElem? (i := 92) (by decide +kernel))
theorem nz_77 : (Jvm.Cond.not (Jvm.Cond.eq (Jvm.Term.string "GateLifter$Reader" (67 : Nat)) (Jvm.Term.string "GateLifter$Reader" (71 : Nat)))) ∈ gNr := (List.mem_of_getElem? (i := 101) (by decide +kernel))
theorem nz_78 : (Jvm.Cond.not (Jvm.Cond.eq (Jvm.Term.string "GateLifter$Reader" (67 : Nat)) (Jvm.Term.string "GateLifter$Reader" (73 : Nat)))) ∈ gNr := (List.mem_of_getElem? (i := 112) (by decide +kernel))
theorem nz_79 : (Jvm.Cond.not (Jvm.Cond.eq (Jvm.Term.string "GateLifter$Reader" (67 : Nat)) (Jvm.Term.string "GateLifter$Reader" (75 : Nat)))) ∈ gNr := (List.mem_of_getElem? (i := 124) (by decide +kernel))
theorem nz_80 : (Jvm.Cond.not (Jvm.Cond.eq (Jvm.Term.string "GateLifter$Reader" (67 : Nat)) (Jvm.Term.string "GateLifter$Reader" (77 : Nat)))) ∈ gNr := (List.mem_of_getElem? (i := 137) (by decide +kernel))
theorem nz_81 : (Jvm.Cond.not (Jvm.Cond.eq (Jvm.Term.string "GateLifter$Reader" (69 : Nat)) (Jvm.Term.string "GateLifter$Reader" (71 : Nat)))) ∈ gNr := (List.mem_of_getElem? (i := 102) (by decide +kernel))
theorem nz_82 : (Jvm.Cond.not (Jvm.Cond.eq (Jvm.Term.string "GateLifter$Reader" (69 : Nat)) (Jvm.Term.string "GateLifter$Reader" (73 : Nat)))) ∈ gNr := (List.mem_of_getElem? (i := 113) (by decide +kernel))
theorem nz_83 : (Jvm.Cond.not (Jvm.Cond.eq (Jvm.Term.string "GateLifter$Reader" (69 : Nat)) (Jvm.Term.string "GateLifter$Reader" (75 : Nat)))) ∈ gNr := (List.mem_of_getElem? (i := 125) (by decide +kernel))
theorem nz_84 : (Jvm.Cond.not (Jvm.Cond.eq (Jvm.Term.string "GateLifter$Reader" (69 : Nat)) (Jvm.Term.string "GateLifter$Reader" (77 : Nat)))) ∈ gNr := (List.mem_of_getElem? (i := 138) (by decide +kernel))
theorem nz_85 : (Jvm.Cond.not (Jvm.Cond.eq (Jvm.Term.string "GateLifter$Reader" (71 : Nat)) (Jvm.Term.string "GateLifter$Reader" (73 : Nat)))) ∈ gNr := (List.mem_of_getElem? (i := 114) (by decide +kernel))
theorem nz_86 : (Jvm.Cond.not (Jvm.Cond.eq (Jvm.Term.string "GateLifter$Reader" (71 : Nat)) (Jvm.Term.string "GateLifter$Reader" (75 : Nat)))) ∈ gNr := (List.mem_of_getElem? (i := 126) (by decide +kernel))
theorem nz_87 : (Jvm.Cond.not (Jvm.Cond.eq (Jvm.Term.string "GateLifter$Reader" (71 : Nat)) (Jvm.Term.string "GateLifter$Reader" (77 : Nat)))) ∈ gNr := (List.mem_of_getElem? (i := 139) (by decide +kernel))
theorem nz_88 : (Jvm.Cond.not (Jvm.Cond.eq (Jvm.Term.string "GateLifter$Reader" (73 : Nat)) (Jvm.Term.string "GateLifter$Reader" (75 : Nat)))) ∈ gNr := (List.mem_of_getElem? (i := 127) (by decide +kernel))
theorem nz_89 : (Jvm.Cond.not (Jvm.Cond.eq (Jvm.Term.string "GateLifter$Reader" (73 : Nat)) (Jvm.Term.string "GateLifter$Reader" (77 : Nat)))) ∈ gNr := (List.mem_of_getElem? (i := 140) (by decide +kernel))
theorem nz_90 : (Jvm.Cond.not (Jvm.Cond.eq (Jvm.Term.string "GateLifter$Reader" (75 : Nat)) (Jvm.Term.string "GateLifter$Reader" (77 : Nat)))) ∈ gNr := (List.mem_of_getElem? (i := 141) (by decide +kernel))
theorem nz_91 : (Jvm.Cond.eq (Jvm.Term.string "GateLifter$Reader" (61 : Nat)) (Jvm.Term.string "GateLifterModel" (241 : Nat))) ∈ gNr := (List.mem_of_getElem? (i := 443) (by decide +kernel))
theorem nz_92 : (Jvm.Cond.eq (Jvm.Term.string "GateLifter$Reader" (67 : Nat)) (Jvm.Term.string "GateLifterModel" (247 : Nat))) ∈ gNr := (List.mem_of_getElem? (i := 468) (by decide +kernel))
theorem nz_93 : (Jvm.Cond.eq (Jvm.Term.string "GateLifter$Reader" (69 : Nat)) (Jvm.Term.string "GateLifterModel" (251 : Nat))) ∈ gNr := (List.mem_of_getElem? (i := 494) (by decide +kernel))
theorem nz_94 : (Jvm.Cond.eq (Jvm.Term.string "GateLifter$Reader" (71 : Nat)) (Jvm.Term.string "GateLifterModel" (253 : Nat))) ∈ gNr := (List.mem_of_getElem? (i := 520) (by decide +kernel))
theorem nz_95 : (Jvm.Cond.eq (Jvm.Term.string "GateLifter$Reader" (73 : Nat)) (Jvm.Term.string "GateLifterModel" (258 : Nat))) ∈ gNr := (List.mem_of_getElem? (i := 548) (by decide +kernel))
theorem nz_96 : (Jvm.Cond.eq (Jvm.Term.string "GateLifter$Reader" (75 : Nat)) (Jvm.Term.string "GateLifterModel" (263 : Nat))) ∈ gNr := (List.mem_of_getElem? (i := 577) (by decide +kernel))
theorem nz_97 : (Jvm.Cond.eq (Jvm.Term.string "GateLifter$Reader" (77 : Nat)) (Jvm.Term.string "GateLifterModel" (265 : Nat))) ∈ gNr := (List.mem_of_getElem? (i := 607) (by decide +kernel))
theorem nz_98 : (Jvm.Cond.exactly (Jvm.Term.string "GateLifter" (95 : Nat)) "java/lang/String") ∈ gNr := (List.mem_of_getElem? (i := 142) (by decide +kernel))
theorem nz_99 : (Jvm.Cond.exactly (Jvm.Term.string "GateLifter" (152 : Nat)) "java/lang/String") ∈ gNr := (List.mem_of_getElem? (i := 170) (by decide +kernel))
theorem nz_100 : (Jvm.Cond.exactly (Jvm.Term.string "GateLifter" (172 : Nat)) "java/lang/String") ∈ gNr := (List.mem_of_getElem? (i := 211) (by decide +kernel))
theorem nz_101 : (Jvm.Cond.exactly (Jvm.Term.string "GateLifter" (189 : Nat)) "java/lang/String") ∈ gNr := (List.mem_of_getElem? (i := 231) (by decide +kernel))
theorem nz_102 : (Jvm.Cond.exactly (Jvm.Term.string "GateLifter" (197 : Nat)) "java/lang/String") ∈ gNr := (List.mem_of_getElem? (i := 258) (by decide +kernel))
theorem nz_103 : (Jvm.Cond.exactly (Jvm.Term.string "GateLifter" (210 : Nat)) "java/lang/String") ∈ gNr := (List.mem_of_getElem? (i := 294) (by decide +kernel))
theorem nz_104 : (Jvm.Cond.exactly (Jvm.Term.string "GateLifter" (218 : Nat)) "java/lang/String") ∈ gNr := (List.mem_of_getElem? (i := 331) (by decide +kernel))
theorem nz_105 : (Jvm.Cond.exactly (Jvm.Term.string "GateLifter" (328 : Nat)) "java/lang/String") ∈ gNr := (List.mem_of_getElem? (i := 369) (by decide +kernel))
theorem nz_106 : (Jvm.Cond.exactly (Jvm.Term.string "GateLifter" (345 : Nat)) "java/lang/String") ∈ gNr := (List.mem_of_getElem? (i := 407) (by decide +kernel))
theorem nz_107 : (Jvm.Cond.stringRef "GateLifter$Reader" (61 : Nat) "net") ∈ lw_tbl := gt_3 (List.mem_of_getElem? (i := 167) (by decide +kernel))
theorem nz_108 : (Jvm.Cond.stringRef "GateLifter$Reader" (67 : Nat) "root") ∈ lw_tbl := gt_3 (List.mem_of_getElem? (i := 220) (by decide +kernel))
theorem nz_109 : (Jvm.Cond.stringRef "GateLifter$Reader" (69 : Nat) "exit") ∈ lw_tbl := gt_3 (List.mem_of_getElem? (i := 221) (by decide +kernel))
theorem nz_110 : (Jvm.Cond.stringRef "GateLifter$Reader" (71 : Nat) "lay") ∈ lw_tbl := gt_3 (List.mem_of_getElem? (i := 222) (by decide +kernel))
theorem nz_111 : (Jvm.Cond.stringRef "GateLifter$Reader" (73 : Nat) "shut") ∈ lw_tbl := gt_3 (List.mem_of_getElem? (i := 223) (by decide +kernel))
theorem nz_112 : (Jvm.Cond.stringRef "GateLifter$Reader" (75 : Nat) "open") ∈ lw_tbl := gt_3 (List.mem_of_getElem? (i := 224) (by decide +kernel))
theorem nz_113 : (Jvm.Cond.stringRef "GateLifter$Reader" (77 : Nat) "toll") ∈ lw_tbl := gt_3 (List.mem_of_getElem? (i := 225) (by decide +kernel))
theorem nz_114 : (Jvm.Cond.stringRef "GateLifterModel" (241 : Nat) "net") ∈ lw_tbl := gt_7 (List.mem_of_getElem? (i := 107) (by decide +kernel))
theorem nz_115 : (Jvm.Cond.stringRef "GateLifterModel" (247 : Nat) "root") ∈ lw_tbl := gt_7 (List.mem_of_getElem? (i := 118) (by decide +kernel))
theorem nz_116 : (Jvm.Cond.stringRef "GateLifterModel" (251 : Nat) "exit") ∈ lw_tbl := gt_7 (List.mem_of_getElem? (i := 123) (by decide +kernel))
theorem nz_117 : (Jvm.Cond.stringRef "GateLifterModel" (253 : Nat) "lay") ∈ lw_tbl := gt_7 (List.mem_of_getElem? (i := 124) (by decide +kernel))
theorem nz_118 : (Jvm.Cond.stringRef "GateLifterModel" (258 : Nat) "shut") ∈ lw_tbl := gt_7 (List.mem_of_getElem? (i := 137) (by decide +kernel))
theorem nz_119 : (Jvm.Cond.stringRef "GateLifterModel" (263 : Nat) "open") ∈ lw_tbl := gt_7 (List.mem_of_getElem? (i := 142) (by decide +kernel))
theorem nz_120 : (Jvm.Cond.stringRef "GateLifterModel" (265 : Nat) "toll") ∈ lw_tbl := gt_7 (List.mem_of_getElem? (i := 143) (by decide +kernel))
theorem nz_121 : (Jvm.Cond.stringRef "GateLifter" (95 : Nat) "the text is wrong") ∈ lw_tbl := gt_4 (List.mem_of_getElem? (i := 82) (by decide +kernel))
theorem nz_122 : (Jvm.Cond.stringRef "GateLifter" (152 : Nat) "there cannot be so many nodes") ∈ lw_tbl := gt_4 (List.mem_of_getElem? (i := 116) (by decide +kernel))
theorem nz_123 : (Jvm.Cond.stringRef "GateLifter" (172 : Nat) "refused") ∈ lw_tbl := gt_4 (List.mem_of_getElem? (i := 148) (by decide +kernel))
theorem nz_124 : (Jvm.Cond.stringRef "GateLifter" (189 : Nat) "it is no toll") ∈ lw_tbl := gt_4 (List.mem_of_getElem? (i := 183) (by decide +kernel))
theorem nz_125 : (Jvm.Cond.stringRef "GateLifter" (197 : Nat) "nothing is remembered") ∈ lw_tbl := gt_4 (List.mem_of_getElem? (i := 191) (by decide +kernel))
theorem nz_126 : (Jvm.Cond.stringRef "GateLifter" (210 : Nat) "there is no such what") ∈ lw_tbl := gt_4 (List.mem_of_getElem? (i := 213) (by decide +kernel))
theorem nz_127 : (Jvm.Cond.stringRef "GateLifter" (218 : Nat) "there is no such node") ∈ lw_tbl := gt_4 (List.mem_of_getElem? (i := 238) (by decide +kernel))
theorem nz_128 : (Jvm.Cond.stringRef "GateLifter" (328 : Nat) "there is no such arc") ∈ lw_tbl := gt_5 (List.mem_of_getElem? (i := 142) (by decide +kernel))
theorem nz_129 : (Jvm.Cond.stringRef "GateLifter" (345 : Nat) "it is shut") ∈ lw_tbl := gt_5 (List.mem_of_getElem? (i := 213) (by decide +kernel))
theorem nl_L_8 : NLk RL 8 9 := ⟨by decide, rfl, rfl, tyX9_ok, ul_X9, cl_L_8, in_X9, ini_X9⟩
theorem nl_L_94 : NLk RL 94 10 := ⟨by decide, rfl, rfl, tyX10_ok, ul_X10, cl_L_94, in_X10, ini_X10⟩
theorem nt_eq {args : Array Value} {s : State} {t u : Term} {a : Nat} (h : (Cond.eq t u).before args s = true) (ht : t.eval args s none [] s = some (.ref a)) : u.eval args s none [] s = some (.ref a) := by
  simp only [Cond.before, Cond.holds, Cond.value, ht] at h
  cases hu : u.eval args s none [] s with
  | none => rw [hu] at h; simp at h
  | some v =>
    rw [hu] at h
    cases v <;> simp at h
    rw [h]
theorem nt_eq2 {args : Array Value} {s : State} {t u : Term} {a : Nat} (h : (Cond.eq t u).before args s = true) (ht : u.eval args s none [] s = some (.ref a)) : t.eval args s none [] s = some (.ref a) := by
  simp only [Cond.before, Cond.holds, Cond.value, ht] at h
  cases hu : t.eval args s none [] s with
  | none => rw [hu] at h; simp at h
  | some v =>
    rw [hu] at h
    cases v <;> simp at h
    rw [h]
theorem nt_ex {args : Array Value} {s : State} {t : Term} {cls : String} (h : (Cond.exactly t cls).before args s = true) : ∃ a, t.eval args s none [] s = some (.ref a) := by
  obtain ⟨a, c, cA, kA, q1, -⟩ := Cond.exactly_spec (args := args) (first := s) (o := none) (s := s) (idx := []) (t := t) (cls := cls) h
  exact ⟨a, q1⟩
theorem kd_hi : ∀ c k, 81 ≤ c → gKD[c]? = some k → k.1 ≠ 0 := by
  intro c k h1 h2
  have h3 : c < 100 := by
    have := (List.getElem?_eq_some_iff.mp h2).1
    rw [gKD_len] at this
    exact this
  have h4 : ∀ c : Fin 100, 81 ≤ c.val → (gKD[c.val]?).all (fun k => k.1 != 0) = true := by decide +kernel
  have h5 := h4 ⟨c, h3⟩ h1
  rw [h2] at h5
  simpa using h5
set_option maxRecDepth 100000 in
set_option maxHeartbeats 8000000 in
/-- the texts of the acts: their cells, their bytes -/
theorem st_S {s : State} {b : Nat} (hs : ∀ w ∈ gNr, w.before #[Value.ref b] s = true) : ∃ adK adV : Nat → Nat, vk_S 7 gSL gSB adK adV (fun q => s.heap.size ≤ q) s s.heap ∧ ∀ i : Nat, i < 7 → ((fun i => Term.string "GateLifter$Reader" (([61, 67, 69, 71, 73, 75, 77] : List Nat).getD i 0)) i).eval #[Value.ref b] s none [] s = some (.ref (adK i)) := by
  refine vk_Sof (tm := (fun i => Term.string "GateLifter$Reader" (([61, 67, 69, 71, 73, 75, 77] : List Nat).getD i 0))) ?_ ?_ ?_ ?_ ?_ ?_ ?_ (fun a ha h => absurd ha (by omega))
  · decide +kernel
  · intro i hi
    match i, hi with
    | 0, _ => exact hs _ nz_16
    | 1, _ => exact hs _ nz_17
    | 2, _ => exact hs _ nz_18
    | 3, _ => exact hs _ nz_19
    | 4, _ => exact hs _ nz_20
    | 5, _ => exact hs _ nz_21
    | 6, _ => exact hs _ nz_22
    | n + 7, hi => exact absurd hi (by omega)
  · intro i hi
    match i, hi with
    | 0, _ => exact hs _ nz_23
    | 1, _ => exact hs _ nz_24
    | 2, _ => exact hs _ nz_25
    | 3, _ => exact hs _ nz_26
    | 4, _ => exact hs _ nz_27
    | 5, _ => exact hs _ nz_28
    | 6, _ => exact hs _ nz_29
    | n + 7, hi => exact absurd hi (by omega)
  · intro i hi
    match i, hi with
    | 0, _ => exact hs _ nz_30
    | 1, _ => exact hs _ nz_31
    | 2, _ => exact hs _ nz_32
    | 3, _ => exact hs _ nz_33
    | 4, _ => exact hs _ nz_34
    | 5, _ => exact hs _ nz_35
    | 6, _ => exact hs _ nz_36
    | n + 7, hi => exact absurd hi (by omega)
  · intro i hi
    match i, hi with
    | 0, _ => exact hs _ nz_37
    | 1, _ => exact hs _ nz_38
    | 2, _ => exact hs _ nz_39
    | 3, _ => exact hs _ nz_40
    | 4, _ => exact hs _ nz_41
    | 5, _ => exact hs _ nz_42
    | 6, _ => exact hs _ nz_43
    | n + 7, hi => exact absurd hi (by omega)
  · intro i hi j hj
    match i, hi, j, hj with
    | 0, _, 0, _ => exact hs _ nz_44
    | 0, _, 1, _ => exact hs _ nz_45
    | 0, _, 2, _ => exact hs _ nz_46
    | 0, _, n + 3, hj => exact absurd hj (by show ¬ n + 3 < 3; omega)
    | 1, _, 0, _ => exact hs _ nz_47
    | 1, _, 1, _ => exact hs _ nz_48
    | 1, _, 2, _ => exact hs _ nz_49
    | 1, _, 3, _ => exact hs _ nz_50
    | 1, _, n + 4, hj => exact absurd hj (by show ¬ n + 4 < 4; omega)
    | 2, _, 0, _ => exact hs _ nz_51
    | 2, _, 1, _ => exact hs _ nz_52
    | 2, _, 2, _ => exact hs _ nz_53
    | 2, _, 3, _ => exact hs _ nz_54
    | 2, _, n + 4, hj => exact absurd hj (by show ¬ n + 4 < 4; omega)
    | 3, _, 0, _ => exact hs _ nz_55
    | 3, _, 1, _ => exact hs _ nz_56
    | 3, _, 2, _ => exact hs _ nz_57
    | 3, _, n + 3, hj => exact absurd hj (by show ¬ n + 3 < 3; omega)
    | 4, _, 0, _ => exact hs _ nz_58
    | 4, _, 1, _ => exact hs _ nz_59
    | 4, _, 2, _ => exact hs _ nz_60
    | 4, _, 3, _ => exact hs _ nz_61
    | 4, _, n + 4, hj => exact absurd hj (by show ¬ n + 4 < 4; omega)
    | 5, _, 0, _ => exact hs _ nz_62
    | 5, _, 1, _ => exact hs _ nz_63
    | 5, _, 2, _ => exact hs _ nz_64
    | 5, _, 3, _ => exact hs _ nz_65
    | 5, _, n + 4, hj => exact absurd hj (by show ¬ n + 4 < 4; omega)
    | 6, _, 0, _ => exact hs _ nz_66
    | 6, _, 1, _ => exact hs _ nz_67
    | 6, _, 2, _ => exact hs _ nz_68
    | 6, _, 3, _ => exact hs _ nz_69
    | 6, _, n + 4, hj => exact absurd hj (by show ¬ n + 4 < 4; omega)
    | n + 7, hi, _, _ => exact absurd hi (by omega)
  · intro i j hi hj hne
    match i, hi, j, hj, hne with
    | 0, _, 0, _, hne => exact absurd rfl hne
    | 0, _, 1, _, _ => exact Or.inl (hs _ nz_70)
    | 0, _, 2, _, _ => exact Or.inl (hs _ nz_71)
    | 0, _, 3, _, _ => exact Or.inl (hs _ nz_72)
    | 0, _, 4, _, _ => exact Or.inl (hs _ nz_73)
    | 0, _, 5, _, _ => exact Or.inl (hs _ nz_74)
    | 0, _, 6, _, _ => exact Or.inl (hs _ nz_75)
    | 0, _, n + 7, hj, _ => exact absurd hj (by omega)
    | 1, _, 0, _, _ => exact Or.inr (hs _ nz_70)
    | 1, _, 1, _, hne => exact absurd rfl hne
    | 1, _, 2, _, _ => exact Or.inl (hs _ nz_76)
    | 1, _, 3, _, _ => exact Or.inl (hs _ nz_77)
    | 1, _, 4, _, _ => exact Or.inl (hs _ nz_78)
    | 1, _, 5, _, _ => exact Or.inl (hs _ nz_79)
    | 1, _, 6, _, _ => exact Or.inl (hs _ nz_80)
    | 1, _, n + 7, hj, _ => exact absurd hj (by omega)
    | 2, _, 0, _, _ => exact Or.inr (hs _ nz_71)
    | 2, _, 1, _, _ => exact Or.inr (hs _ nz_76)
    | 2, _, 2, _, hne => exact absurd rfl hne
    | 2, _, 3, _, _ => exact Or.inl (hs _ nz_81)
    | 2, _, 4, _, _ => exact Or.inl (hs _ nz_82)
    | 2, _, 5, _, _ => exact Or.inl (hs _ nz_83)
    | 2, _, 6, _, _ => exact Or.inl (hs _ nz_84)
    | 2, _, n + 7, hj, _ => exact absurd hj (by omega)
    | 3, _, 0, _, _ => exact Or.inr (hs _ nz_72)
    | 3, _, 1, _, _ => exact Or.inr (hs _ nz_77)
    | 3, _, 2, _, _ => exact Or.inr (hs _ nz_81)
    | 3, _, 3, _, hne => exact absurd rfl hne
    | 3, _, 4, _, _ => exact Or.inl (hs _ nz_85)
    | 3, _, 5, _, _ => exact Or.inl (hs _ nz_86)
    | 3, _, 6, _, _ => exact Or.inl (hs _ nz_87)
    | 3, _, n + 7, hj, _ => exact absurd hj (by omega)
    | 4, _, 0, _, _ => exact Or.inr (hs _ nz_73)
    | 4, _, 1, _, _ => exact Or.inr (hs _ nz_78)
    | 4, _, 2, _, _ => exact Or.inr (hs _ nz_82)
    | 4, _, 3, _, _ => exact Or.inr (hs _ nz_85)
    | 4, _, 4, _, hne => exact absurd rfl hne
    | 4, _, 5, _, _ => exact Or.inl (hs _ nz_88)
    | 4, _, 6, _, _ => exact Or.inl (hs _ nz_89)
    | 4, _, n + 7, hj, _ => exact absurd hj (by omega)
    | 5, _, 0, _, _ => exact Or.inr (hs _ nz_74)
    | 5, _, 1, _, _ => exact Or.inr (hs _ nz_79)
    | 5, _, 2, _, _ => exact Or.inr (hs _ nz_83)
    | 5, _, 3, _, _ => exact Or.inr (hs _ nz_86)
    | 5, _, 4, _, _ => exact Or.inr (hs _ nz_88)
    | 5, _, 5, _, hne => exact absurd rfl hne
    | 5, _, 6, _, _ => exact Or.inl (hs _ nz_90)
    | 5, _, n + 7, hj, _ => exact absurd hj (by omega)
    | 6, _, 0, _, _ => exact Or.inr (hs _ nz_75)
    | 6, _, 1, _, _ => exact Or.inr (hs _ nz_80)
    | 6, _, 2, _, _ => exact Or.inr (hs _ nz_84)
    | 6, _, 3, _, _ => exact Or.inr (hs _ nz_87)
    | 6, _, 4, _, _ => exact Or.inr (hs _ nz_89)
    | 6, _, 5, _, _ => exact Or.inr (hs _ nz_90)
    | 6, _, 6, _, hne => exact absurd rfl hne
    | 6, _, n + 7, hj, _ => exact absurd hj (by omega)
    | n + 7, hi, _, _, _ => exact absurd hi (by omega)
set_option maxRecDepth 100000 in
set_option maxHeartbeats 8000000 in
theorem st_J {l : Launch} {s : State} {b : Nat} (hs : ∀ w ∈ gNr, w.before #[Value.ref b] s = true) (hts : ∀ w ∈ lw_tbl, w.before #[Value.ref b] s = true) (D : va_G) (q : ClassId × ClassId × ClassId × ClassId × ClassId) : ∃ eK eV : Nat → Nat, gJS (l, D, q, s.heap.size, b, eK, eV) s s.heap := by
  obtain ⟨adK, adV, hS, hev⟩ := st_S hs
  obtain ⟨b0, hb0⟩ := nt_ex (hs _ nz_98)
  obtain ⟨b1, hb1⟩ := nt_ex (hs _ nz_99)
  obtain ⟨b2, hb2⟩ := nt_ex (hs _ nz_100)
  obtain ⟨b3, hb3⟩ := nt_ex (hs _ nz_101)
  obtain ⟨b4, hb4⟩ := nt_ex (hs _ nz_102)
  obtain ⟨b5, hb5⟩ := nt_ex (hs _ nz_103)
  obtain ⟨b6, hb6⟩ := nt_ex (hs _ nz_104)
  obtain ⟨b7, hb7⟩ := nt_ex (hs _ nz_105)
  obtain ⟨b8, hb8⟩ := nt_ex (hs _ nz_106)
  let eK : Nat → Nat := fun k => if k < 7 then adK k else ([b0, b1, b2, b3, b4, b5, b6, b7, b8] : List Nat).getD (k - 7) 0
  have hA : ∀ a : Nat, a < s.heap.size → ¬ (fun q : Nat => s.heap.size ≤ q) a := fun a ha h => absurd ha (Nat.not_lt.mpr h)
  refine ⟨eK, adV, ⟨fun i hi => ?_, fun i j hi hj he => ?_⟩, ?_, ?_, ?_, ?_, ?_, ?_, ?_⟩
  · have h1 := hS.1 i hi
    show va_O _ (if i < 7 then adK i else _) _ _ _ ∧ va_OF _ _ _ _ (if i < 7 then adK i else _) _ _ _ ∧ va_OF _ _ _ _ (if i < 7 then adK i else _) _ _ _ ∧ _
    rw [if_pos hi]
    exact h1
  · refine hS.2 i j hi hj ?_
    have he : (if i < 7 then adK i else _) = (if j < 7 then adK j else _) := he
    rwa [if_pos hi, if_pos hj] at he
  · intro z hz
    unfold gStr at hz
    simp only [List.mem_cons, List.not_mem_nil, or_false] at hz
    rcases hz with rfl | rfl | rfl | rfl | rfl | rfl | rfl | rfl | rfl | rfl | rfl | rfl | rfl | rfl | rfl | rfl | rfl | rfl | rfl | rfl | rfl | rfl | rfl
    · exact vk_R.of (hts _ nz_107) (hev 0 (by decide))
    · exact vk_R.of (hts _ nz_108) (hev 1 (by decide))
    · exact vk_R.of (hts _ nz_109) (hev 2 (by decide))
    · exact vk_R.of (hts _ nz_110) (hev 3 (by decide))
    · exact vk_R.of (hts _ nz_111) (hev 4 (by decide))
    · exact vk_R.of (hts _ nz_112) (hev 5 (by decide))
    · exact vk_R.of (hts _ nz_113) (hev 6 (by decide))
    · exact vk_R.of (hts _ nz_114) (nt_eq (hs _ nz_91) (hev 0 (by decide)))
    · exact vk_R.of (hts _ nz_115) (nt_eq (hs _ nz_92) (hev 1 (by decide)))
    · exact vk_R.of (hts _ nz_116) (nt_eq (hs _ nz_93) (hev 2 (by decide)))
    · exact vk_R.of (hts _ nz_117) (nt_eq (hs _ nz_94) (hev 3 (by decide)))
    · exact vk_R.of (hts _ nz_118) (nt_eq (hs _ nz_95) (hev 4 (by decide)))
    · exact vk_R.of (hts _ nz_119) (nt_eq (hs _ nz_96) (hev 5 (by decide)))
    · exact vk_R.of (hts _ nz_120) (nt_eq (hs _ nz_97) (hev 6 (by decide)))
    · exact vk_R.of (hts _ nz_121) hb0
    · exact vk_R.of (hts _ nz_122) hb1
    · exact vk_R.of (hts _ nz_123) hb2
    · exact vk_R.of (hts _ nz_124) hb3
    · exact vk_R.of (hts _ nz_125) hb4
    · exact vk_R.of (hts _ nz_126) hb5
    · exact vk_R.of (hts _ nz_127) hb6
    · exact vk_R.of (hts _ nz_128) hb7
    · exact vk_R.of (hts _ nz_129) hb8
  · exact vx_Zqof (hts _ nz_9) (hts _ nz_11) (hs _ nz_3) hA
  · exact vx_Zqof (hts _ nz_10) (hts _ nz_11) (hs _ nz_4) hA
  · exact va_Zof (hts _ nz_5) (hts _ nz_6) (va_eqt (hs _ nz_1)) hA
  · exact va_Zqof (hts _ nz_7) (hts _ nz_8) (hs _ nz_2) hA
  · intro w hw
    obtain ⟨h1, h2⟩ := List.mem_filter.mp hw
    have h3 := hts w h1
    unfold isNest at h2
    split at h2
    · exact va_Nw.of rfl h3
    · exact va_Nw.of rfl h3
    · exact va_Nw.of rfl h3
    · exact va_Nw.of rfl h3
    · exact va_AO.of h3
    · cases h2
  · intro z hz
    unfold gNC at hz
    simp only [List.mem_cons, List.not_mem_nil, or_false] at hz
    rcases hz with rfl | rfl | rfl | rfl
    · exact va_Nc.of (hs _ nz_12)
    · exact va_Nc.of (hs _ nz_13)
    · exact va_Nc.of (hs _ nz_14)
    · exact va_Nc.of (hs _ nz_15)
set_option maxHeartbeats 4000000 in
theorem st_K {s : State} {b : Nat} (hts : ∀ w ∈ lw_tbl, w.before #[Value.ref b] s = true) : ∃ (D : va_G) (q : ClassId × ClassId × ClassId × ClassId × ClassId), va_K D vwCl (tysO q) s := by
  have hg : ∀ w ∈ gW0, w.before #[Value.ref b] s = true := fun w hw => hts w (List.mem_filter.mp hw).1
  obtain ⟨c0, i0, k0⟩ := u_known (C := RX0) (T := TX0) (N := 2) (n := 2) hg ul_X0 (hg _ in_X0)
  obtain ⟨c1, i1, k1⟩ := u_known (C := RX1) (T := TX1) (N := 4) (n := 4) hg ul_X1 (hg _ in_X1)
  obtain ⟨c2, i2, k2⟩ := u_known (C := RX2) (T := TX2) (N := 3) (n := 3) hg ul_X2 (hg _ in_X2)
  obtain ⟨c3, i3, k3⟩ := u_known (C := RX3) (T := TX3) (N := 5) (n := 5) hg ul_X3 (hg _ in_X3)
  obtain ⟨c4, i4, k4⟩ := u_known (C := RX4) (T := TX4) (N := 2) (n := 2) hg ul_X4 (hg _ in_X4)
  obtain ⟨c5, i5, k5⟩ := u_known (C := RX5) (T := TX5) (N := 2) (n := 2) hg ul_X5 (hg _ in_X5)
  obtain ⟨c6, i6, k6⟩ := u_known (C := RX6) (T := TX6) (N := 8) (n := 8) hg ul_X6 (hg _ in_X6)
  obtain ⟨c7, i7, k7⟩ := u_known (C := RX7) (T := TX7) (N := 6) (n := 6) hg ul_X7 (hg _ in_X7)
  obtain ⟨c8, i8, k8⟩ := u_known (C := RX8) (T := TX8) (N := 11) (n := 11) hg ul_X8 (hg _ in_X8)
  obtain ⟨c9, i9, k9⟩ := u_known (C := RX9) (T := TX9) (N := 12) (n := 12) hg ul_X9 (hg _ in_X9)
  obtain ⟨c10, i10, k10⟩ := u_known (C := RX10) (T := TX10) (N := 42) (n := 42) hg ul_X10 (hg _ in_X10)
  obtain ⟨a0, ka0, co0, f0, g0, h0⟩ := Cond.arrayClass_spec (hg _ ac_int)
  obtain ⟨a1, ka1, co1, f1, g1, h1⟩ := Cond.arrayClass_spec (hg _ ac_byte)
  obtain ⟨a2, ka2, co2, f2, g2, h2⟩ := Cond.arrayClass_spec (hg _ ac_boolean)
  obtain ⟨a3, ka3, co3, f3, g3, h3⟩ := Cond.arrayClass_spec (hg _ ac_long)
  obtain ⟨co4, a4, ka4, z1, -, g4, h4, f4⟩ := Cond.arrayOver_spec (hts _ (List.mem_filter.mp wAO).1)
  refine ⟨(fun k => ([c0, c1, c2, c3, c4, c5, c6, c7, c8, c9, c10] : List ClassId).getD k c0, fun k => ([i0, i1, i2, i3, i4, i5, i6, i7, i8, i9, i10] : List (Nat → Nat)).getD k i0), (a0, a1, a2, a3, a4), fun k z hz => ?_, fun k z hz => ?_⟩
  · match k, hz with
    | 0, hz => cases hz; exact k0
    | 1, hz => cases hz; exact k1
    | 2, hz => cases hz; exact k2
    | 3, hz => cases hz; exact k3
    | 4, hz => cases hz; exact k4
    | 5, hz => cases hz; exact k5
    | 6, hz => cases hz; exact k6
    | 7, hz => cases hz; exact k7
    | 8, hz => cases hz; exact k8
    | 9, hz => cases hz; exact k9
    | 10, hz => cases hz; exact k10
    | k + 11, hz => simp [vwCl] at hz
  · match k, hz with
    | 0, hz => cases hz; exact ⟨fun n z => ⟨fun k h => (by cases h), ka0, g0, co0, h0⟩, f0⟩
    | 1, hz => cases hz; exact ⟨fun n z => ⟨fun k h => (by cases h), ka1, g1, co1, h1⟩, f1⟩
    | 2, hz => cases hz; exact ⟨fun n z => ⟨fun k h => (by cases h), ka2, g2, co2, h2⟩, f2⟩
    | 3, hz => cases hz; exact ⟨fun n z => ⟨fun k h => (by cases h), ka3, g3, co3, h3⟩, f3⟩
    | 4, hz => cases hz; exact ⟨fun n z => ⟨fun k h => (by cases h), ka4, g4, co4, h4⟩, ka4, co4, g4, h4, z1, f4⟩
    | k + 5, hz => simp [tysO] at hz
def x00 : gXH := (fun _ _ => 0, fun _ _ => 0)
def m00 : gIH := fun _ _ => 0
def MI (Rel : gRel) : Prop := ∃ oc, f_n9_0 x00 = some oc ∧ ∃ om, f_n10_81 m00 = some om ∧ Rel oc.1 oc.2.1 oc.2.2.1 oc.2.2.2 om
def LawM (Rel : gRel) : Prop := MG Rel ∧ MI Rel ∧ M0 Rel ∧ M1 Rel ∧ M2 Rel ∧ M3 Rel ∧ M4 Rel ∧ M5 Rel ∧ M6 Rel ∧ M7 Rel ∧ M8 Rel ∧ M9 Rel ∧ M10 Rel ∧ M11 Rel ∧ M12 Rel ∧ M13 Rel ∧ M14 Rel ∧ M15 Rel ∧ M16 Rel ∧ M17 Rel ∧ M18 Rel ∧ M19 Rel ∧ M20 Rel ∧ M21 Rel ∧ M22 Rel ∧ M23 Rel ∧ M24 Rel ∧ M25 Rel ∧ M26 Rel ∧ M27 Rel ∧ M28 Rel ∧ M29 Rel ∧ M30 Rel ∧ M31 Rel ∧ M32 Rel ∧ M33 Rel
theorem in_rng {m L : Nat} (hm : m < L) (hL : L ≤ 3072) : vp_in (Int32.ofNat m) L := nI_in hm (by omega)
section
variable {e : gEV} {C : gCx}
set_option maxRecDepth 100000 in
set_option maxHeartbeats 16000000 in
/-- THE LOOP: six ints a call, so many turns at most -/
theorem lw_loop {Ln : Nat} {xs : Nat → Int32} (hLn : Ln ≤ 3072) (hC : COk e C cL_law 7 RL 2048 601024 7293034) (hX : gScr e C Ln xs) (hl : (eL e).stackTraces = false) {Rel : gRel} (hM : LawM Rel)
    (hE : ∀ a b lv xc fa tr pm hm lo, a ≤ 700 → b ≤ 20000 → KW e C (100, a, b) 1895 lv [.int 1] (RR fa tr pm) (xc, hm, lo)) :
    ∀ (n j : Nat), 600 ≤ j + n → j ≤ 599 → ∀ (a b : Nat) (xc : gXH) (fa tr : Nat) (pm : Nat → Nat) (hm : gIH) (lo : gLH), Rel xc fa tr pm hm → a ≤ 100 + j → b ≤ 8000 + 6 * j → KW e C (100, a, b) 23 (lvL (Int32.ofNat (6 * j))) [] (RR fa tr pm) (xc, hm, lo) := by
  have hM' := hM
  obtain ⟨hG, hMI, h0_, h1_, h2_, h3_, h4_, h5_, h6_, h7_, h8_, h9_, h10_, h11_, h12_, h13_, h14_, h15_, h16_, h17_, h18_, h19_, h20_, h21_, h22_, h23_, h24_, h25_, h26_, h27_, h28_, h29_, h30_, h31_, h32_, h33_⟩ := hM'
  intro n
  induction n with
  | zero => intro j h1 h2; omega
  | succ n ih =>
  intro j h1 h2 a b xc fa tr pm hm lo hR ha hb
  obtain ⟨i, hi⟩ : ∃ i, Int32.ofNat (6 * j) = i := ⟨_, rfl⟩
  rw [hi]
  unfold lvL
  refine k_iload (q := 25) hC dL_law_23 rfl rfl ?_
  refine k_aload_nS (q := 26) hC dL_law_25 rfl rfl ?_
  refine k_slen (q := 27) hC hX dL_law_26 rfl rfl ?_
  refine k_bipush (q := 29) (v := (6 : Int32)) hC dL_law_27 (by decide) rfl ?_
  refine k_isub (q := 30) hC dL_law_29 rfl ?_
  refine k_icmp_gt (q := 33) (tgt := 1894) hC dL_law_30 (by decide) rfl (fun hc => ?_) (fun hc => ?_)
  · refine k_iconst (q := 1895) (v := (1 : Int32)) hC dL_law_1894 (by decide) rfl ?_
    exact hE _ _ _ _ _ _ _ _ _ (by omega) (by omega)
  · have hr : 6 * j + 6 ≤ Ln := by
      have e1 : (Int32.ofNat Ln).toInt = (Ln : Int) := Int32.toInt_ofNat_of_lt (by omega)
      have e2 : (Int32.ofNat (6 * j)).toInt = ((6 * j : Nat) : Int) := Int32.toInt_ofNat_of_lt (by omega)
      have e3 : (Int32.ofNat Ln - 6).toInt = (Ln : Int) - 6 := by
        rw [Int32.toInt_sub, e1]
        show Int.bmod ((Ln : Int) - 6) (2 ^ 32) = _
        exact Int.bmod_eq_of_le (by omega) (by omega)
      have e4 : ¬ (Int32.ofNat Ln - 6).toInt < (Int32.ofNat (6 * j)).toInt := fun q => hc (Int32.lt_iff_toInt_lt.mpr (by rw [← hi]; exact q))
      omega
    have hv : ∀ k : Nat, k < 6 → vp_in (i + Int32.ofNat k) Ln := by
      intro k hk
      rw [← hi, ← Int32.ofNat_add]
      exact in_rng (by omega) hLn
    have hv0 : vp_in i Ln := by
      rw [← hi]
      exact in_rng (by omega) hLn
    have hv1 : vp_in (i + (1 : Int32)) Ln := hv 1 (by omega)
    have hv2 : vp_in (i + (2 : Int32)) Ln := hv 2 (by omega)
    have hv3 : vp_in (i + (3 : Int32)) Ln := hv 3 (by omega)
    have hv4 : vp_in (i + (4 : Int32)) Ln := hv 4 (by omega)
    have hv5 : vp_in (i + (5 : Int32)) Ln := hv 5 (by omega)
    have hab : a + 1 ≤ 601024 ∧ b + 6 ≤ 7293034 := ⟨by omega, by omega⟩
    have hj : j + 1 ≤ 599 := by omega
    have kk : ∀ xc fa tr pm hm lo a' b', Rel xc fa tr pm hm → a' ≤ a + 1 → b' ≤ b + 6 → KW e C (100, a', b') 1888 (lvL i) [] (RR fa tr pm) (xc, hm, lo) := by
      intro xc fa tr pm hm lo a' b' hR' ha' hb'
      unfold lvL
      refine k_iinc (q := 1891) (y := i) (v := (6 : Int32)) (lv' := lvL (Int32.ofNat (6 * (j + 1)))) hC dL_law_1888 (by decide) rfl (by decide) ?_ rfl ?_
      · have : Int32.ofNat (6 * (j + 1)) = i + 6 := by
          rw [← hi, show 6 * (j + 1) = 6 * j + 6 by omega, Int32.ofNat_add]
          rfl
        rw [this]
        rfl
      refine k_goto (tgt := 23) hC dL_law_1891 (by decide) ?_
      exact ih (j + 1) (by omega) hj _ _ _ _ _ _ _ _ hR' (by omega) (by omega)
    refine k_aload_nS (q := 34) hC dL_law_33 rfl rfl ?_
    refine k_iload (q := 36) hC dL_law_34 rfl rfl ?_
    obtain ⟨y0, hy0⟩ : ∃ y, xs i.toNatClampNeg = y := ⟨_, rfl⟩
    refine k_sld (q := 37) (y := y0) hC hX dL_law_36 hv0 hy0 rfl ?_
    refine k_bipush (q := 39) (v := (63 : Int32)) hC dL_law_37 (by decide) rfl ?_
    refine k_iand (q := 40) hC dL_law_39 rfl ?_
    obtain ⟨y, hy⟩ : ∃ y, y0 &&& (63 : Int32) = y := ⟨_, rfl⟩
    refine k_topi hy ?_
    by_cases hc0 : y = (0 : Int32)
    · refine k_tin (k := (0 : Int32)) (tgt := 192) hC dL_law_40 hc0 (by decide) (by decide) rfl (by decide) ?_
      exact lc_0 hC hX hl hG h0_ hab hv1 hv2 hv3 hv4 hv5 hR kk
    by_cases hc1 : y = (1 : Int32)
    · refine k_tin (k := (1 : Int32)) (tgt := 265) hC dL_law_40 hc1 (by decide) (by decide) rfl (by decide) ?_
      exact lc_1 hC hX hl hG h1_ hab hv1 hR kk
    by_cases hc2 : y = (2 : Int32)
    · refine k_tin (k := (2 : Int32)) (tgt := 290) hC dL_law_40 hc2 (by decide) (by decide) rfl (by decide) ?_
      exact lc_2 hC hX hl hG h2_ hab hR kk
    by_cases hc3 : y = (3 : Int32)
    · refine k_tin (k := (3 : Int32)) (tgt := 334) hC dL_law_40 hc3 (by decide) (by decide) rfl (by decide) ?_
      exact lc_3 hC hX hl hG h3_ hab hR kk
    by_cases hc4 : y = (4 : Int32)
    · refine k_tin (k := (4 : Int32)) (tgt := 347) hC dL_law_40 hc4 (by decide) (by decide) rfl (by decide) ?_
      exact lc_4 hC hX hl hG h4_ hab hR kk
    by_cases hc5 : y = (5 : Int32)
    · refine k_tin (k := (5 : Int32)) (tgt := 360) hC dL_law_40 hc5 (by decide) (by decide) rfl (by decide) ?_
      exact lc_5 hC hX hl hG h5_ hab hv1 hR kk
    by_cases hc6 : y = (6 : Int32)
    · refine k_tin (k := (6 : Int32)) (tgt := 396) hC dL_law_40 hc6 (by decide) (by decide) rfl (by decide) ?_
      exact lc_6 hC hX hl hG h6_ hab hv1 hv2 hR kk
    by_cases hc7 : y = (7 : Int32)
    · refine k_tin (k := (7 : Int32)) (tgt := 480) hC dL_law_40 hc7 (by decide) (by decide) rfl (by decide) ?_
      exact lc_7 hC hX hl hG h7_ hab hv1 hv2 hR kk
    by_cases hc8 : y = (8 : Int32)
    · refine k_tin (k := (8 : Int32)) (tgt := 548) hC dL_law_40 hc8 (by decide) (by decide) rfl (by decide) ?_
      exact lc_8 hC hX hl hG h8_ hab hv1 hR kk
    by_cases hc9 : y = (9 : Int32)
    · refine k_tin (k := (9 : Int32)) (tgt := 604) hC dL_law_40 hc9 (by decide) (by decide) rfl (by decide) ?_
      exact lc_9 hC hX hl hG h9_ hab hv1 hR kk
    by_cases hc10 : y = (10 : Int32)
    · refine k_tin (k := (10 : Int32)) (tgt := 660) hC dL_law_40 hc10 (by decide) (by decide) rfl (by decide) ?_
      exact lc_10 hC hX hl hG h10_ hab hv1 hv2 hR kk
    by_cases hc11 : y = (11 : Int32)
    · refine k_tin (k := (11 : Int32)) (tgt := 728) hC dL_law_40 hc11 (by decide) (by decide) rfl (by decide) ?_
      exact lc_11 hC hX hl hG h11_ hab hR kk
    by_cases hc12 : y = (12 : Int32)
    · refine k_tin (k := (12 : Int32)) (tgt := 772) hC dL_law_40 hc12 (by decide) (by decide) rfl (by decide) ?_
      exact lc_12 hC hX hl hG h12_ hab hv1 hR kk
    by_cases hc13 : y = (13 : Int32)
    · refine k_tin (k := (13 : Int32)) (tgt := 828) hC dL_law_40 hc13 (by decide) (by decide) rfl (by decide) ?_
      exact lc_13 hC hX hl hG h13_ hab hv1 hv2 hR kk
    by_cases hc14 : y = (14 : Int32)
    · refine k_tin (k := (14 : Int32)) (tgt := 896) hC dL_law_40 hc14 (by decide) (by decide) rfl (by decide) ?_
      exact lc_14 hC hX hl hG h14_ hab hv1 hv2 hR kk
    by_cases hc15 : y = (15 : Int32)
    · refine k_tin (k := (15 : Int32)) (tgt := 971) hC dL_law_40 hc15 (by decide) (by decide) rfl (by decide) ?_
      exact lc_15 hC hX hl hG h15_ hab hv1 hv2 hR kk
    by_cases hc16 : y = (16 : Int32)
    · refine k_tin (k := (16 : Int32)) (tgt := 1039) hC dL_law_40 hc16 (by decide) (by decide) rfl (by decide) ?_
      exact lc_16 hC hX hl hG h16_ hab hv1 hR kk
    by_cases hc17 : y = (17 : Int32)
    · refine k_tin (k := (17 : Int32)) (tgt := 1064) hC dL_law_40 hc17 (by decide) (by decide) rfl (by decide) ?_
      exact lc_17 hC hX hl hG h17_ hab hv1 hv2 hR kk
    by_cases hc18 : y = (18 : Int32)
    · refine k_tin (k := (18 : Int32)) (tgt := 1132) hC dL_law_40 hc18 (by decide) (by decide) rfl (by decide) ?_
      exact lc_18 hC hX hl hG h18_ hab hv1 hR kk
    by_cases hc19 : y = (19 : Int32)
    · refine k_tin (k := (19 : Int32)) (tgt := 1188) hC dL_law_40 hc19 (by decide) (by decide) rfl (by decide) ?_
      exact lc_19 hC hX hl hG h19_ hab hv1 hR kk
    by_cases hc20 : y = (20 : Int32)
    · refine k_tin (k := (20 : Int32)) (tgt := 1244) hC dL_law_40 hc20 (by decide) (by decide) rfl (by decide) ?_
      exact lc_20 hC hX hl hG h20_ hab hv1 hv2 hR kk
    by_cases hc21 : y = (21 : Int32)
    · refine k_tin (k := (21 : Int32)) (tgt := 1312) hC dL_law_40 hc21 (by decide) (by decide) rfl (by decide) ?_
      exact lc_21 hC hX hl hG h21_ hab hv1 hR kk
    by_cases hc22 : y = (22 : Int32)
    · refine k_tin (k := (22 : Int32)) (tgt := 1337) hC dL_law_40 hc22 (by decide) (by decide) rfl (by decide) ?_
      exact lc_22 hC hX hl hG h22_ hab hv1 hv2 hR kk
    by_cases hc23 : y = (23 : Int32)
    · refine k_tin (k := (23 : Int32)) (tgt := 1405) hC dL_law_40 hc23 (by decide) (by decide) rfl (by decide) ?_
      exact lc_23 hC hX hl hG h23_ hab hv1 hv2 hR kk
    by_cases hc24 : y = (24 : Int32)
    · refine k_tin (k := (24 : Int32)) (tgt := 1473) hC dL_law_40 hc24 (by decide) (by decide) rfl (by decide) ?_
      exact lc_24 hC hX hl hG h24_ hab hv1 hv2 hR kk
    by_cases hc25 : y = (25 : Int32)
    · refine k_tin (k := (25 : Int32)) (tgt := 1541) hC dL_law_40 hc25 (by decide) (by decide) rfl (by decide) ?_
      exact lc_25 hC hX hl hG h25_ hab hv1 hR kk
    by_cases hc26 : y = (26 : Int32)
    · refine k_tin (k := (26 : Int32)) (tgt := 1566) hC dL_law_40 hc26 (by decide) (by decide) rfl (by decide) ?_
      exact lc_26 hC hX hl hG h26_ hab hv1 hR kk
    by_cases hc27 : y = (27 : Int32)
    · refine k_tin (k := (27 : Int32)) (tgt := 1622) hC dL_law_40 hc27 (by decide) (by decide) rfl (by decide) ?_
      exact lc_27 hC hX hl hG h27_ hab hv1 hv2 hv3 hR kk
    by_cases hc28 : y = (28 : Int32)
    · refine k_tin (k := (28 : Int32)) (tgt := 1702) hC dL_law_40 hc28 (by decide) (by decide) rfl (by decide) ?_
      exact lc_28 hC hX hl hG h28_ hab hv1 hR kk
    by_cases hc29 : y = (29 : Int32)
    · refine k_tin (k := (29 : Int32)) (tgt := 1758) hC dL_law_40 hc29 (by decide) (by decide) rfl (by decide) ?_
      exact lc_29 hC hX hl hG h29_ hab hv1 hR kk
    by_cases hc30 : y = (30 : Int32)
    · refine k_tin (k := (30 : Int32)) (tgt := 1814) hC dL_law_40 hc30 (by decide) (by decide) rfl (by decide) ?_
      exact lc_30 hC hX hl hG h30_ hab hv1 hR kk
    by_cases hc31 : y = (31 : Int32)
    · refine k_tin (k := (31 : Int32)) (tgt := 1839) hC dL_law_40 hc31 (by decide) (by decide) rfl (by decide) ?_
      exact lc_31 hC hX hl hG h31_ hab hR kk
    by_cases hc32 : y = (32 : Int32)
    · refine k_tin (k := (32 : Int32)) (tgt := 1850) hC dL_law_40 hc32 (by decide) (by decide) rfl (by decide) ?_
      exact lc_32 hC hX hl hG h32_ hab hR kk
    by_cases hc33 : y = (33 : Int32)
    · refine k_tin (k := (33 : Int32)) (tgt := 1863) hC dL_law_40 hc33 (by decide) (by decide) rfl (by decide) ?_
      exact lc_33 hC hX hl hG h33_ hab hv1 hR kk
    refine k_tout (tgt := 1888) hC dL_law_40 (by
      have hn0 := lv_neT hc0 (show (0 : Int32).toInt = 0 from rfl)
      have hn1 := lv_neT hc1 (show (1 : Int32).toInt = 1 from rfl)
      have hn2 := lv_neT hc2 (show (2 : Int32).toInt = 2 from rfl)
      have hn3 := lv_neT hc3 (show (3 : Int32).toInt = 3 from rfl)
      have hn4 := lv_neT hc4 (show (4 : Int32).toInt = 4 from rfl)
      have hn5 := lv_neT hc5 (show (5 : Int32).toInt = 5 from rfl)
      have hn6 := lv_neT hc6 (show (6 : Int32).toInt = 6 from rfl)
      have hn7 := lv_neT hc7 (show (7 : Int32).toInt = 7 from rfl)
      have hn8 := lv_neT hc8 (show (8 : Int32).toInt = 8 from rfl)
      have hn9 := lv_neT hc9 (show (9 : Int32).toInt = 9 from rfl)
      have hn10 := lv_neT hc10 (show (10 : Int32).toInt = 10 from rfl)
      have hn11 := lv_neT hc11 (show (11 : Int32).toInt = 11 from rfl)
      have hn12 := lv_neT hc12 (show (12 : Int32).toInt = 12 from rfl)
      have hn13 := lv_neT hc13 (show (13 : Int32).toInt = 13 from rfl)
      have hn14 := lv_neT hc14 (show (14 : Int32).toInt = 14 from rfl)
      have hn15 := lv_neT hc15 (show (15 : Int32).toInt = 15 from rfl)
      have hn16 := lv_neT hc16 (show (16 : Int32).toInt = 16 from rfl)
      have hn17 := lv_neT hc17 (show (17 : Int32).toInt = 17 from rfl)
      have hn18 := lv_neT hc18 (show (18 : Int32).toInt = 18 from rfl)
      have hn19 := lv_neT hc19 (show (19 : Int32).toInt = 19 from rfl)
      have hn20 := lv_neT hc20 (show (20 : Int32).toInt = 20 from rfl)
      have hn21 := lv_neT hc21 (show (21 : Int32).toInt = 21 from rfl)
      have hn22 := lv_neT hc22 (show (22 : Int32).toInt = 22 from rfl)
      have hn23 := lv_neT hc23 (show (23 : Int32).toInt = 23 from rfl)
      have hn24 := lv_neT hc24 (show (24 : Int32).toInt = 24 from rfl)
      have hn25 := lv_neT hc25 (show (25 : Int32).toInt = 25 from rfl)
      have hn26 := lv_neT hc26 (show (26 : Int32).toInt = 26 from rfl)
      have hn27 := lv_neT hc27 (show (27 : Int32).toInt = 27 from rfl)
      have hn28 := lv_neT hc28 (show (28 : Int32).toInt = 28 from rfl)
      have hn29 := lv_neT hc29 (show (29 : Int32).toInt = 29 from rfl)
      have hn30 := lv_neT hc30 (show (30 : Int32).toInt = 30 from rfl)
      have hn31 := lv_neT hc31 (show (31 : Int32).toInt = 31 from rfl)
      have hn32 := lv_neT hc32 (show (32 : Int32).toInt = 32 from rfl)
      have hn33 := lv_neT hc33 (show (33 : Int32).toInt = 33 from rfl)
      omega) (by decide) ?_
    exact kk _ _ _ _ _ _ _ _ hR (by omega) (by omega)
end
