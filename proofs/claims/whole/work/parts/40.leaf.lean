/-! ===== what the Statement gives of the start ===== -/
theorem nl {a b : Cond} {x : Array Value} {s : State} (h : (Cond.and a b).before x s = true) : a.before x s = true := by rw [Cond.before_and, Bool.and_eq_true] at h; exact h.1
theorem nr {a b : Cond} {x : Array Value} {s : State} (h : (Cond.and a b).before x s = true) : b.before x s = true := by rw [Cond.before_and, Bool.and_eq_true] at h; exact h.2
theorem nw_1 {x : Array Value} {s : State} (h : narrow_1.before x s = true) : (Cond.arrayOf (Term.static "NinepinAlley$Outlook" "NEXT" "[I") FieldType.int).before x s = true := nr (nl (nl (nr (nl (nl (nl (nl (nl (h)))))))))
theorem nw_2 {x : Array Value} {s : State} (h : narrow_1.before x s = true) : (Cond.eq (Term.length (Term.static "NinepinAlley$Outlook" "NEXT" "[I")) (Term.int (14 : Int32))).before x s = true := nl (nr (nl (nr (nl (nl (nl (nl (nl (h)))))))))
theorem nw_3 {x : Array Value} {s : State} (h : narrow_1.before x s = true) : (Cond.eq (Term.elem (Term.static "NinepinAlley$Outlook" "NEXT" "[I") (Term.int (0 : Int32))) (Term.int (0 : Int32))).before x s = true := nr (nr (nl (nr (nl (nl (nl (nl (nl (h)))))))))
theorem nw_4 {x : Array Value} {s : State} (h : narrow_1.before x s = true) : (Cond.eq (Term.elem (Term.static "NinepinAlley$Outlook" "NEXT" "[I") (Term.int (1 : Int32))) (Term.int (1 : Int32))).before x s = true := nl (nl (nr (nr (nl (nl (nl (nl (nl (h)))))))))
theorem nw_5 {x : Array Value} {s : State} (h : narrow_1.before x s = true) : (Cond.eq (Term.elem (Term.static "NinepinAlley$Outlook" "NEXT" "[I") (Term.int (2 : Int32))) (Term.int (1 : Int32))).before x s = true := nr (nl (nr (nr (nl (nl (nl (nl (nl (h)))))))))
theorem nw_6 {x : Array Value} {s : State} (h : narrow_1.before x s = true) : (Cond.eq (Term.elem (Term.static "NinepinAlley$Outlook" "NEXT" "[I") (Term.int (3 : Int32))) (Term.int (1 : Int32))).before x s = true := nl (nr (nr (nr (nl (nl (nl (nl (nl (h)))))))))
theorem nw_7 {x : Array Value} {s : State} (h : narrow_1.before x s = true) : (Cond.eq (Term.elem (Term.static "NinepinAlley$Outlook" "NEXT" "[I") (Term.int (4 : Int32))) (Term.int (2 : Int32))).before x s = true := nr (nr (nr (nr (nl (nl (nl (nl (nl (h)))))))))
theorem nw_8 {x : Array Value} {s : State} (h : narrow_1.before x s = true) : (Cond.eq (Term.elem (Term.static "NinepinAlley$Outlook" "NEXT" "[I") (Term.int (5 : Int32))) (Term.int (2 : Int32))).before x s = true := nl (nl (nl (nr (nl (nl (nl (nl (h))))))))
theorem nw_9 {x : Array Value} {s : State} (h : narrow_1.before x s = true) : (Cond.eq (Term.elem (Term.static "NinepinAlley$Outlook" "NEXT" "[I") (Term.int (6 : Int32))) (Term.int (2 : Int32))).before x s = true := nl (nr (nl (nl (nr (nl (nl (nl (nl (h)))))))))
theorem nw_10 {x : Array Value} {s : State} (h : narrow_1.before x s = true) : (Cond.eq (Term.elem (Term.static "NinepinAlley$Outlook" "NEXT" "[I") (Term.int (7 : Int32))) (Term.int (2 : Int32))).before x s = true := nr (nr (nl (nl (nr (nl (nl (nl (nl (h)))))))))
theorem nw_11 {x : Array Value} {s : State} (h : narrow_1.before x s = true) : (Cond.eq (Term.elem (Term.static "NinepinAlley$Outlook" "NEXT" "[I") (Term.int (8 : Int32))) (Term.int (2 : Int32))).before x s = true := nl (nl (nr (nl (nr (nl (nl (nl (nl (h)))))))))
theorem nw_12 {x : Array Value} {s : State} (h : narrow_1.before x s = true) : (Cond.eq (Term.elem (Term.static "NinepinAlley$Outlook" "NEXT" "[I") (Term.int (9 : Int32))) (Term.int (3 : Int32))).before x s = true := nr (nl (nr (nl (nr (nl (nl (nl (nl (h)))))))))
theorem nw_13 {x : Array Value} {s : State} (h : narrow_1.before x s = true) : (Cond.eq (Term.elem (Term.static "NinepinAlley$Outlook" "NEXT" "[I") (Term.int (10 : Int32))) (Term.int (3 : Int32))).before x s = true := nl (nr (nr (nl (nr (nl (nl (nl (nl (h)))))))))
theorem nw_14 {x : Array Value} {s : State} (h : narrow_1.before x s = true) : (Cond.eq (Term.elem (Term.static "NinepinAlley$Outlook" "NEXT" "[I") (Term.int (11 : Int32))) (Term.int (3 : Int32))).before x s = true := nr (nr (nr (nl (nr (nl (nl (nl (nl (h)))))))))
theorem nw_15 {x : Array Value} {s : State} (h : narrow_1.before x s = true) : (Cond.eq (Term.elem (Term.static "NinepinAlley$Outlook" "NEXT" "[I") (Term.int (12 : Int32))) (Term.int (3 : Int32))).before x s = true := nl (nl (nl (nr (nr (nl (nl (nl (nl (h)))))))))
theorem nw_16 {x : Array Value} {s : State} (h : narrow_1.before x s = true) : (Cond.eq (Term.elem (Term.static "NinepinAlley$Outlook" "NEXT" "[I") (Term.int (13 : Int32))) (Term.int (3 : Int32))).before x s = true := nr (nl (nl (nr (nr (nl (nl (nl (nl (h)))))))))
theorem nw_17 {x : Array Value} {s : State} (h : narrow_1.before x s = true) : (Cond.arrayOf (Term.static "NinepinAlley$Outlook" "SECOND" "[I") FieldType.int).before x s = true := nr (nr (nl (nr (nr (nl (nl (nl (nl (h)))))))))
theorem nw_18 {x : Array Value} {s : State} (h : narrow_1.before x s = true) : (Cond.eq (Term.length (Term.static "NinepinAlley$Outlook" "SECOND" "[I")) (Term.int (14 : Int32))).before x s = true := nl (nl (nr (nr (nr (nl (nl (nl (nl (h)))))))))
theorem nw_19 {x : Array Value} {s : State} (h : narrow_1.before x s = true) : (Cond.eq (Term.elem (Term.static "NinepinAlley$Outlook" "SECOND" "[I") (Term.int (0 : Int32))) (Term.int (0 : Int32))).before x s = true := nr (nl (nr (nr (nr (nl (nl (nl (nl (h)))))))))
theorem nw_20 {x : Array Value} {s : State} (h : narrow_1.before x s = true) : (Cond.eq (Term.elem (Term.static "NinepinAlley$Outlook" "SECOND" "[I") (Term.int (1 : Int32))) (Term.int (0 : Int32))).before x s = true := nl (nr (nr (nr (nr (nl (nl (nl (nl (h)))))))))
theorem nw_21 {x : Array Value} {s : State} (h : narrow_1.before x s = true) : (Cond.eq (Term.elem (Term.static "NinepinAlley$Outlook" "SECOND" "[I") (Term.int (2 : Int32))) (Term.int (1 : Int32))).before x s = true := nr (nr (nr (nr (nr (nl (nl (nl (nl (h)))))))))
theorem nw_22 {x : Array Value} {s : State} (h : narrow_1.before x s = true) : (Cond.eq (Term.elem (Term.static "NinepinAlley$Outlook" "SECOND" "[I") (Term.int (3 : Int32))) (Term.int (1 : Int32))).before x s = true := nl (nl (nl (nl (nr (nl (nl (nl (h))))))))
theorem nw_23 {x : Array Value} {s : State} (h : narrow_1.before x s = true) : (Cond.eq (Term.elem (Term.static "NinepinAlley$Outlook" "SECOND" "[I") (Term.int (4 : Int32))) (Term.int (0 : Int32))).before x s = true := nl (nr (nl (nl (nl (nr (nl (nl (nl (h)))))))))
theorem nw_24 {x : Array Value} {s : State} (h : narrow_1.before x s = true) : (Cond.eq (Term.elem (Term.static "NinepinAlley$Outlook" "SECOND" "[I") (Term.int (5 : Int32))) (Term.int (1 : Int32))).before x s = true := nr (nr (nl (nl (nl (nr (nl (nl (nl (h)))))))))
theorem nw_25 {x : Array Value} {s : State} (h : narrow_1.before x s = true) : (Cond.eq (Term.elem (Term.static "NinepinAlley$Outlook" "SECOND" "[I") (Term.int (6 : Int32))) (Term.int (1 : Int32))).before x s = true := nl (nl (nr (nl (nl (nr (nl (nl (nl (h)))))))))
theorem nw_26 {x : Array Value} {s : State} (h : narrow_1.before x s = true) : (Cond.eq (Term.elem (Term.static "NinepinAlley$Outlook" "SECOND" "[I") (Term.int (7 : Int32))) (Term.int (2 : Int32))).before x s = true := nr (nl (nr (nl (nl (nr (nl (nl (nl (h)))))))))
theorem nw_27 {x : Array Value} {s : State} (h : narrow_1.before x s = true) : (Cond.eq (Term.elem (Term.static "NinepinAlley$Outlook" "SECOND" "[I") (Term.int (8 : Int32))) (Term.int (2 : Int32))).before x s = true := nl (nr (nr (nl (nl (nr (nl (nl (nl (h)))))))))
theorem nw_28 {x : Array Value} {s : State} (h : narrow_1.before x s = true) : (Cond.eq (Term.elem (Term.static "NinepinAlley$Outlook" "SECOND" "[I") (Term.int (9 : Int32))) (Term.int (0 : Int32))).before x s = true := nr (nr (nr (nl (nl (nr (nl (nl (nl (h)))))))))
theorem nw_29 {x : Array Value} {s : State} (h : narrow_1.before x s = true) : (Cond.eq (Term.elem (Term.static "NinepinAlley$Outlook" "SECOND" "[I") (Term.int (10 : Int32))) (Term.int (1 : Int32))).before x s = true := nl (nl (nl (nr (nl (nr (nl (nl (nl (h)))))))))
theorem nw_30 {x : Array Value} {s : State} (h : narrow_1.before x s = true) : (Cond.eq (Term.elem (Term.static "NinepinAlley$Outlook" "SECOND" "[I") (Term.int (11 : Int32))) (Term.int (1 : Int32))).before x s = true := nr (nl (nl (nr (nl (nr (nl (nl (nl (h)))))))))
theorem nw_31 {x : Array Value} {s : State} (h : narrow_1.before x s = true) : (Cond.eq (Term.elem (Term.static "NinepinAlley$Outlook" "SECOND" "[I") (Term.int (12 : Int32))) (Term.int (2 : Int32))).before x s = true := nl (nr (nl (nr (nl (nr (nl (nl (nl (h)))))))))
theorem nw_32 {x : Array Value} {s : State} (h : narrow_1.before x s = true) : (Cond.eq (Term.elem (Term.static "NinepinAlley$Outlook" "SECOND" "[I") (Term.int (13 : Int32))) (Term.int (2 : Int32))).before x s = true := nr (nr (nl (nr (nl (nr (nl (nl (nl (h)))))))))
theorem nw_33 {x : Array Value} {s : State} (h : narrow_1.before x s = true) : (Cond.arrayOf (Term.static "NinepinAlley$Outlook" "THIRD" "[I") FieldType.int).before x s = true := nr (nl (nr (nr (nl (nr (nl (nl (nl (h)))))))))
theorem nw_34 {x : Array Value} {s : State} (h : narrow_1.before x s = true) : (Cond.eq (Term.length (Term.static "NinepinAlley$Outlook" "THIRD" "[I")) (Term.int (14 : Int32))).before x s = true := nl (nr (nr (nr (nl (nr (nl (nl (nl (h)))))))))
theorem nw_35 {x : Array Value} {s : State} (h : narrow_1.before x s = true) : (Cond.eq (Term.elem (Term.static "NinepinAlley$Outlook" "THIRD" "[I") (Term.int (0 : Int32))) (Term.int (0 : Int32))).before x s = true := nr (nr (nr (nr (nl (nr (nl (nl (nl (h)))))))))
theorem nw_36 {x : Array Value} {s : State} (h : narrow_1.before x s = true) : (Cond.eq (Term.elem (Term.static "NinepinAlley$Outlook" "THIRD" "[I") (Term.int (1 : Int32))) (Term.int (0 : Int32))).before x s = true := nl (nl (nl (nr (nr (nl (nl (nl (h))))))))
theorem nw_37 {x : Array Value} {s : State} (h : narrow_1.before x s = true) : (Cond.eq (Term.elem (Term.static "NinepinAlley$Outlook" "THIRD" "[I") (Term.int (2 : Int32))) (Term.int (0 : Int32))).before x s = true := nl (nr (nl (nl (nr (nr (nl (nl (nl (h)))))))))
theorem nw_38 {x : Array Value} {s : State} (h : narrow_1.before x s = true) : (Cond.eq (Term.elem (Term.static "NinepinAlley$Outlook" "THIRD" "[I") (Term.int (3 : Int32))) (Term.int (1 : Int32))).before x s = true := nr (nr (nl (nl (nr (nr (nl (nl (nl (h)))))))))
theorem nw_39 {x : Array Value} {s : State} (h : narrow_1.before x s = true) : (Cond.eq (Term.elem (Term.static "NinepinAlley$Outlook" "THIRD" "[I") (Term.int (4 : Int32))) (Term.int (0 : Int32))).before x s = true := nl (nl (nr (nl (nr (nr (nl (nl (nl (h)))))))))
theorem nw_40 {x : Array Value} {s : State} (h : narrow_1.before x s = true) : (Cond.eq (Term.elem (Term.static "NinepinAlley$Outlook" "THIRD" "[I") (Term.int (5 : Int32))) (Term.int (0 : Int32))).before x s = true := nr (nl (nr (nl (nr (nr (nl (nl (nl (h)))))))))
theorem nw_41 {x : Array Value} {s : State} (h : narrow_1.before x s = true) : (Cond.eq (Term.elem (Term.static "NinepinAlley$Outlook" "THIRD" "[I") (Term.int (6 : Int32))) (Term.int (1 : Int32))).before x s = true := nl (nr (nr (nl (nr (nr (nl (nl (nl (h)))))))))
theorem nw_42 {x : Array Value} {s : State} (h : narrow_1.before x s = true) : (Cond.eq (Term.elem (Term.static "NinepinAlley$Outlook" "THIRD" "[I") (Term.int (7 : Int32))) (Term.int (0 : Int32))).before x s = true := nr (nr (nr (nl (nr (nr (nl (nl (nl (h)))))))))
theorem nw_43 {x : Array Value} {s : State} (h : narrow_1.before x s = true) : (Cond.eq (Term.elem (Term.static "NinepinAlley$Outlook" "THIRD" "[I") (Term.int (8 : Int32))) (Term.int (1 : Int32))).before x s = true := nl (nl (nl (nr (nr (nr (nl (nl (nl (h)))))))))
theorem nw_44 {x : Array Value} {s : State} (h : narrow_1.before x s = true) : (Cond.eq (Term.elem (Term.static "NinepinAlley$Outlook" "THIRD" "[I") (Term.int (9 : Int32))) (Term.int (0 : Int32))).before x s = true := nr (nl (nl (nr (nr (nr (nl (nl (nl (h)))))))))
theorem nw_45 {x : Array Value} {s : State} (h : narrow_1.before x s = true) : (Cond.eq (Term.elem (Term.static "NinepinAlley$Outlook" "THIRD" "[I") (Term.int (10 : Int32))) (Term.int (0 : Int32))).before x s = true := nl (nr (nl (nr (nr (nr (nl (nl (nl (h)))))))))
theorem nw_46 {x : Array Value} {s : State} (h : narrow_1.before x s = true) : (Cond.eq (Term.elem (Term.static "NinepinAlley$Outlook" "THIRD" "[I") (Term.int (11 : Int32))) (Term.int (1 : Int32))).before x s = true := nr (nr (nl (nr (nr (nr (nl (nl (nl (h)))))))))
theorem nw_47 {x : Array Value} {s : State} (h : narrow_1.before x s = true) : (Cond.eq (Term.elem (Term.static "NinepinAlley$Outlook" "THIRD" "[I") (Term.int (12 : Int32))) (Term.int (0 : Int32))).before x s = true := nl (nl (nr (nr (nr (nr (nl (nl (nl (h)))))))))
theorem nw_48 {x : Array Value} {s : State} (h : narrow_1.before x s = true) : (Cond.eq (Term.elem (Term.static "NinepinAlley$Outlook" "THIRD" "[I") (Term.int (13 : Int32))) (Term.int (1 : Int32))).before x s = true := nr (nl (nr (nr (nr (nr (nl (nl (nl (h)))))))))
theorem nw_49 {x : Array Value} {s : State} (h : narrow_1.before x s = true) : (Cond.arrayOf (Term.static "NinepinAlley$Outlook" "STATE_OF_NEXT" "[I") FieldType.int).before x s = true := nr (nr (nr (nr (nr (nr (nl (nl (nl (h)))))))))
theorem nw_50 {x : Array Value} {s : State} (h : narrow_1.before x s = true) : (Cond.eq (Term.length (Term.static "NinepinAlley$Outlook" "STATE_OF_NEXT" "[I")) (Term.int (4 : Int32))).before x s = true := nl (nl (nl (nl (nl (nr (nl (nl (h))))))))
theorem nw_51 {x : Array Value} {s : State} (h : narrow_1.before x s = true) : (Cond.eq (Term.elem (Term.static "NinepinAlley$Outlook" "STATE_OF_NEXT" "[I") (Term.int (0 : Int32))) (Term.int (0 : Int32))).before x s = true := nl (nr (nl (nl (nl (nl (nr (nl (nl (h)))))))))
theorem nw_52 {x : Array Value} {s : State} (h : narrow_1.before x s = true) : (Cond.eq (Term.elem (Term.static "NinepinAlley$Outlook" "STATE_OF_NEXT" "[I") (Term.int (1 : Int32))) (Term.int (1 : Int32))).before x s = true := nr (nr (nl (nl (nl (nl (nr (nl (nl (h)))))))))
theorem nw_53 {x : Array Value} {s : State} (h : narrow_1.before x s = true) : (Cond.eq (Term.elem (Term.static "NinepinAlley$Outlook" "STATE_OF_NEXT" "[I") (Term.int (2 : Int32))) (Term.int (4 : Int32))).before x s = true := nl (nl (nr (nl (nl (nl (nr (nl (nl (h)))))))))
theorem nw_54 {x : Array Value} {s : State} (h : narrow_1.before x s = true) : (Cond.eq (Term.elem (Term.static "NinepinAlley$Outlook" "STATE_OF_NEXT" "[I") (Term.int (3 : Int32))) (Term.int (9 : Int32))).before x s = true := nr (nl (nr (nl (nl (nl (nr (nl (nl (h)))))))))
theorem nw_55 {x : Array Value} {s : State} (h : narrow_1.before x s = true) : (Cond.eq (Term.static "java/lang/String" "COMPACT_STRINGS" "Z") (Term.int (1 : Int32))).before x s = true := nr (nr (nl (nl (nl (nl (nl (nl (nl (h)))))))))
theorem nw_56 {x : Array Value} {s : State} (h : narrow_1.before x s = true) : (Cond.isRef (Term.static "jdk/internal/util/Preconditions" "SIOOBE_FORMATTER" "Ljava/util/function/BiFunction;")).before x s = true := nl (nl (nr (nl (nl (nl (nl (nl (nl (h)))))))))
theorem nw_57 {x : Array Value} {s : State} (h : narrow_1.before x s = true) : (Cond.exactly (Term.string "NinepinAlley$Reader" (61 : Nat)) "java/lang/String").before x s = true := nl (nr (nr (nl (nl (nl (nr (nl (nl (h)))))))))
theorem nw_58 {x : Array Value} {s : State} (h : narrow_1.before x s = true) : (Cond.eq (Term.field (Term.string "NinepinAlley$Reader" (61 : Nat)) "java/lang/String" "coder" "B") (Term.int (0 : Int32))).before x s = true := nr (nr (nr (nl (nl (nl (nr (nl (nl (h)))))))))
theorem nw_59 {x : Array Value} {s : State} (h : narrow_1.before x s = true) : (Cond.arrayOf (Term.field (Term.string "NinepinAlley$Reader" (61 : Nat)) "java/lang/String" "value" "[B") FieldType.byte).before x s = true := nl (nl (nl (nr (nl (nl (nr (nl (nl (h)))))))))
theorem nw_60 {x : Array Value} {s : State} (h : narrow_1.before x s = true) : (Cond.eq (Term.length (Term.field (Term.string "NinepinAlley$Reader" (61 : Nat)) "java/lang/String" "value" "[B")) (Term.int (4 : Int32))).before x s = true := nr (nl (nl (nr (nl (nl (nr (nl (nl (h)))))))))
theorem nw_61 {x : Array Value} {s : State} (h : narrow_1.before x s = true) : (Cond.eq (Term.elem (Term.field (Term.string "NinepinAlley$Reader" (61 : Nat)) "java/lang/String" "value" "[B") (Term.int (0 : Int32))) (Term.int (112 : Int32))).before x s = true := nl (nr (nl (nr (nl (nl (nr (nl (nl (h)))))))))
theorem nw_62 {x : Array Value} {s : State} (h : narrow_1.before x s = true) : (Cond.eq (Term.elem (Term.field (Term.string "NinepinAlley$Reader" (61 : Nat)) "java/lang/String" "value" "[B") (Term.int (1 : Int32))) (Term.int (105 : Int32))).before x s = true := nr (nr (nl (nr (nl (nl (nr (nl (nl (h)))))))))
theorem nw_63 {x : Array Value} {s : State} (h : narrow_1.before x s = true) : (Cond.eq (Term.elem (Term.field (Term.string "NinepinAlley$Reader" (61 : Nat)) "java/lang/String" "value" "[B") (Term.int (2 : Int32))) (Term.int (110 : Int32))).before x s = true := nl (nl (nr (nr (nl (nl (nr (nl (nl (h)))))))))
theorem nw_64 {x : Array Value} {s : State} (h : narrow_1.before x s = true) : (Cond.eq (Term.elem (Term.field (Term.string "NinepinAlley$Reader" (61 : Nat)) "java/lang/String" "value" "[B") (Term.int (3 : Int32))) (Term.int (115 : Int32))).before x s = true := nr (nl (nr (nr (nl (nl (nr (nl (nl (h)))))))))
theorem nw_65 {x : Array Value} {s : State} (h : narrow_1.before x s = true) : (Cond.exactly (Term.string "NinepinAlley$Reader" (72 : Nat)) "java/lang/String").before x s = true := nl (nr (nr (nr (nl (nl (nr (nl (nl (h)))))))))
theorem nw_66 {x : Array Value} {s : State} (h : narrow_1.before x s = true) : (Cond.eq (Term.field (Term.string "NinepinAlley$Reader" (72 : Nat)) "java/lang/String" "coder" "B") (Term.int (0 : Int32))).before x s = true := nr (nr (nr (nr (nl (nl (nr (nl (nl (h)))))))))
theorem nw_67 {x : Array Value} {s : State} (h : narrow_1.before x s = true) : (Cond.arrayOf (Term.field (Term.string "NinepinAlley$Reader" (72 : Nat)) "java/lang/String" "value" "[B") FieldType.byte).before x s = true := nl (nl (nl (nr (nl (nr (nl (nl (h))))))))
theorem nw_68 {x : Array Value} {s : State} (h : narrow_1.before x s = true) : (Cond.eq (Term.length (Term.field (Term.string "NinepinAlley$Reader" (72 : Nat)) "java/lang/String" "value" "[B")) (Term.int (6 : Int32))).before x s = true := nl (nr (nl (nl (nr (nl (nr (nl (nl (h)))))))))
theorem nw_69 {x : Array Value} {s : State} (h : narrow_1.before x s = true) : (Cond.eq (Term.elem (Term.field (Term.string "NinepinAlley$Reader" (72 : Nat)) "java/lang/String" "value" "[B") (Term.int (0 : Int32))) (Term.int (102 : Int32))).before x s = true := nr (nr (nl (nl (nr (nl (nr (nl (nl (h)))))))))
theorem nw_70 {x : Array Value} {s : State} (h : narrow_1.before x s = true) : (Cond.eq (Term.elem (Term.field (Term.string "NinepinAlley$Reader" (72 : Nat)) "java/lang/String" "value" "[B") (Term.int (1 : Int32))) (Term.int (114 : Int32))).before x s = true := nl (nl (nr (nl (nr (nl (nr (nl (nl (h)))))))))
theorem nw_71 {x : Array Value} {s : State} (h : narrow_1.before x s = true) : (Cond.eq (Term.elem (Term.field (Term.string "NinepinAlley$Reader" (72 : Nat)) "java/lang/String" "value" "[B") (Term.int (2 : Int32))) (Term.int (97 : Int32))).before x s = true := nr (nl (nr (nl (nr (nl (nr (nl (nl (h)))))))))
theorem nw_72 {x : Array Value} {s : State} (h : narrow_1.before x s = true) : (Cond.eq (Term.elem (Term.field (Term.string "NinepinAlley$Reader" (72 : Nat)) "java/lang/String" "value" "[B") (Term.int (3 : Int32))) (Term.int (109 : Int32))).before x s = true := nl (nr (nr (nl (nr (nl (nr (nl (nl (h)))))))))
theorem nw_73 {x : Array Value} {s : State} (h : narrow_1.before x s = true) : (Cond.eq (Term.elem (Term.field (Term.string "NinepinAlley$Reader" (72 : Nat)) "java/lang/String" "value" "[B") (Term.int (4 : Int32))) (Term.int (101 : Int32))).before x s = true := nr (nr (nr (nl (nr (nl (nr (nl (nl (h)))))))))
theorem nw_74 {x : Array Value} {s : State} (h : narrow_1.before x s = true) : (Cond.eq (Term.elem (Term.field (Term.string "NinepinAlley$Reader" (72 : Nat)) "java/lang/String" "value" "[B") (Term.int (5 : Int32))) (Term.int (115 : Int32))).before x s = true := nl (nl (nl (nr (nr (nl (nr (nl (nl (h)))))))))
theorem nw_75 {x : Array Value} {s : State} (h : narrow_1.before x s = true) : (Cond.exactly (Term.string "NinepinAlley$Reader" (76 : Nat)) "java/lang/String").before x s = true := nl (nr (nl (nr (nr (nl (nr (nl (nl (h)))))))))
theorem nw_76 {x : Array Value} {s : State} (h : narrow_1.before x s = true) : (Cond.eq (Term.field (Term.string "NinepinAlley$Reader" (76 : Nat)) "java/lang/String" "coder" "B") (Term.int (0 : Int32))).before x s = true := nr (nr (nl (nr (nr (nl (nr (nl (nl (h)))))))))
theorem nw_77 {x : Array Value} {s : State} (h : narrow_1.before x s = true) : (Cond.arrayOf (Term.field (Term.string "NinepinAlley$Reader" (76 : Nat)) "java/lang/String" "value" "[B") FieldType.byte).before x s = true := nl (nl (nr (nr (nr (nl (nr (nl (nl (h)))))))))
theorem nw_78 {x : Array Value} {s : State} (h : narrow_1.before x s = true) : (Cond.eq (Term.length (Term.field (Term.string "NinepinAlley$Reader" (76 : Nat)) "java/lang/String" "value" "[B")) (Term.int (5 : Int32))).before x s = true := nr (nl (nr (nr (nr (nl (nr (nl (nl (h)))))))))
theorem nw_79 {x : Array Value} {s : State} (h : narrow_1.before x s = true) : (Cond.eq (Term.elem (Term.field (Term.string "NinepinAlley$Reader" (76 : Nat)) "java/lang/String" "value" "[B") (Term.int (0 : Int32))) (Term.int (114 : Int32))).before x s = true := nl (nr (nr (nr (nr (nl (nr (nl (nl (h)))))))))
theorem nw_80 {x : Array Value} {s : State} (h : narrow_1.before x s = true) : (Cond.eq (Term.elem (Term.field (Term.string "NinepinAlley$Reader" (76 : Nat)) "java/lang/String" "value" "[B") (Term.int (1 : Int32))) (Term.int (111 : Int32))).before x s = true := nr (nr (nr (nr (nr (nl (nr (nl (nl (h)))))))))
theorem nw_81 {x : Array Value} {s : State} (h : narrow_1.before x s = true) : (Cond.eq (Term.elem (Term.field (Term.string "NinepinAlley$Reader" (76 : Nat)) "java/lang/String" "value" "[B") (Term.int (2 : Int32))) (Term.int (108 : Int32))).before x s = true := nl (nl (nl (nl (nr (nr (nl (nl (h))))))))
theorem nw_82 {x : Array Value} {s : State} (h : narrow_1.before x s = true) : (Cond.eq (Term.elem (Term.field (Term.string "NinepinAlley$Reader" (76 : Nat)) "java/lang/String" "value" "[B") (Term.int (3 : Int32))) (Term.int (108 : Int32))).before x s = true := nl (nr (nl (nl (nl (nr (nr (nl (nl (h)))))))))
theorem nw_83 {x : Array Value} {s : State} (h : narrow_1.before x s = true) : (Cond.eq (Term.elem (Term.field (Term.string "NinepinAlley$Reader" (76 : Nat)) "java/lang/String" "value" "[B") (Term.int (4 : Int32))) (Term.int (115 : Int32))).before x s = true := nr (nr (nl (nl (nl (nr (nr (nl (nl (h)))))))))
theorem nw_84 {x : Array Value} {s : State} (h : narrow_1.before x s = true) : (Cond.exactly (Term.string "NinepinAlley$Reader" (80 : Nat)) "java/lang/String").before x s = true := nl (nr (nr (nl (nl (nr (nr (nl (nl (h)))))))))
theorem nw_85 {x : Array Value} {s : State} (h : narrow_1.before x s = true) : (Cond.eq (Term.field (Term.string "NinepinAlley$Reader" (80 : Nat)) "java/lang/String" "coder" "B") (Term.int (0 : Int32))).before x s = true := nr (nr (nr (nl (nl (nr (nr (nl (nl (h)))))))))
theorem nw_86 {x : Array Value} {s : State} (h : narrow_1.before x s = true) : (Cond.arrayOf (Term.field (Term.string "NinepinAlley$Reader" (80 : Nat)) "java/lang/String" "value" "[B") FieldType.byte).before x s = true := nl (nl (nl (nr (nl (nr (nr (nl (nl (h)))))))))
theorem nw_87 {x : Array Value} {s : State} (h : narrow_1.before x s = true) : (Cond.eq (Term.length (Term.field (Term.string "NinepinAlley$Reader" (80 : Nat)) "java/lang/String" "value" "[B")) (Term.int (4 : Int32))).before x s = true := nr (nl (nl (nr (nl (nr (nr (nl (nl (h)))))))))
theorem nw_88 {x : Array Value} {s : State} (h : narrow_1.before x s = true) : (Cond.eq (Term.elem (Term.field (Term.string "NinepinAlley$Reader" (80 : Nat)) "java/lang/String" "value" "[B") (Term.int (0 : Int32))) (Term.int (102 : Int32))).before x s = true := nl (nr (nl (nr (nl (nr (nr (nl (nl (h)))))))))
theorem nw_89 {x : Array Value} {s : State} (h : narrow_1.before x s = true) : (Cond.eq (Term.elem (Term.field (Term.string "NinepinAlley$Reader" (80 : Nat)) "java/lang/String" "value" "[B") (Term.int (1 : Int32))) (Term.int (111 : Int32))).before x s = true := nr (nr (nl (nr (nl (nr (nr (nl (nl (h)))))))))
theorem nw_90 {x : Array Value} {s : State} (h : narrow_1.before x s = true) : (Cond.eq (Term.elem (Term.field (Term.string "NinepinAlley$Reader" (80 : Nat)) "java/lang/String" "value" "[B") (Term.int (2 : Int32))) (Term.int (117 : Int32))).before x s = true := nl (nl (nr (nr (nl (nr (nr (nl (nl (h)))))))))
theorem nw_91 {x : Array Value} {s : State} (h : narrow_1.before x s = true) : (Cond.eq (Term.elem (Term.field (Term.string "NinepinAlley$Reader" (80 : Nat)) "java/lang/String" "value" "[B") (Term.int (3 : Int32))) (Term.int (108 : Int32))).before x s = true := nr (nl (nr (nr (nl (nr (nr (nl (nl (h)))))))))
theorem nw_92 {x : Array Value} {s : State} (h : narrow_1.before x s = true) : (Cond.exactly (Term.string "NinepinAlley$Reader" (85 : Nat)) "java/lang/String").before x s = true := nl (nr (nl (nl (nr (nr (nr (nl (nl (h)))))))))
theorem nw_93 {x : Array Value} {s : State} (h : narrow_1.before x s = true) : (Cond.eq (Term.field (Term.string "NinepinAlley$Reader" (85 : Nat)) "java/lang/String" "coder" "B") (Term.int (0 : Int32))).before x s = true := nr (nr (nl (nl (nr (nr (nr (nl (nl (h)))))))))
theorem nw_94 {x : Array Value} {s : State} (h : narrow_1.before x s = true) : (Cond.arrayOf (Term.field (Term.string "NinepinAlley$Reader" (85 : Nat)) "java/lang/String" "value" "[B") FieldType.byte).before x s = true := nl (nl (nr (nl (nr (nr (nr (nl (nl (h)))))))))
theorem nw_95 {x : Array Value} {s : State} (h : narrow_1.before x s = true) : (Cond.eq (Term.length (Term.field (Term.string "NinepinAlley$Reader" (85 : Nat)) "java/lang/String" "value" "[B")) (Term.int (5 : Int32))).before x s = true := nr (nl (nr (nl (nr (nr (nr (nl (nl (h)))))))))
theorem nw_96 {x : Array Value} {s : State} (h : narrow_1.before x s = true) : (Cond.eq (Term.elem (Term.field (Term.string "NinepinAlley$Reader" (85 : Nat)) "java/lang/String" "value" "[B") (Term.int (0 : Int32))) (Term.int (99 : Int32))).before x s = true := nl (nr (nr (nl (nr (nr (nr (nl (nl (h)))))))))
theorem nw_97 {x : Array Value} {s : State} (h : narrow_1.before x s = true) : (Cond.eq (Term.elem (Term.field (Term.string "NinepinAlley$Reader" (85 : Nat)) "java/lang/String" "value" "[B") (Term.int (1 : Int32))) (Term.int (108 : Int32))).before x s = true := nr (nr (nr (nl (nr (nr (nr (nl (nl (h)))))))))
theorem nw_98 {x : Array Value} {s : State} (h : narrow_1.before x s = true) : (Cond.eq (Term.elem (Term.field (Term.string "NinepinAlley$Reader" (85 : Nat)) "java/lang/String" "value" "[B") (Term.int (2 : Int32))) (Term.int (101 : Int32))).before x s = true := nl (nl (nl (nr (nr (nr (nr (nl (nl (h)))))))))
theorem nw_99 {x : Array Value} {s : State} (h : narrow_1.before x s = true) : (Cond.eq (Term.elem (Term.field (Term.string "NinepinAlley$Reader" (85 : Nat)) "java/lang/String" "value" "[B") (Term.int (3 : Int32))) (Term.int (97 : Int32))).before x s = true := nr (nl (nl (nr (nr (nr (nr (nl (nl (h)))))))))
theorem nw_100 {x : Array Value} {s : State} (h : narrow_1.before x s = true) : (Cond.eq (Term.elem (Term.field (Term.string "NinepinAlley$Reader" (85 : Nat)) "java/lang/String" "value" "[B") (Term.int (4 : Int32))) (Term.int (110 : Int32))).before x s = true := nl (nr (nl (nr (nr (nr (nr (nl (nl (h)))))))))
theorem nw_101 {x : Array Value} {s : State} (h : narrow_1.before x s = true) : (Cond.exactly (Term.string "NinepinAlley$Reader" (101 : Nat)) "java/lang/String").before x s = true := nr (nr (nr (nr (nr (nr (nr (nl (nl (h)))))))))
theorem nw_102 {x : Array Value} {s : State} (h : narrow_1.before x s = true) : (Cond.eq (Term.field (Term.string "NinepinAlley$Reader" (101 : Nat)) "java/lang/String" "coder" "B") (Term.int (0 : Int32))).before x s = true := nl (nl (nl (nl (nl (nl (nr (nl (h))))))))
theorem nw_103 {x : Array Value} {s : State} (h : narrow_1.before x s = true) : (Cond.arrayOf (Term.field (Term.string "NinepinAlley$Reader" (101 : Nat)) "java/lang/String" "value" "[B") FieldType.byte).before x s = true := nl (nr (nl (nl (nl (nl (nl (nr (nl (h)))))))))
theorem nw_104 {x : Array Value} {s : State} (h : narrow_1.before x s = true) : (Cond.eq (Term.length (Term.field (Term.string "NinepinAlley$Reader" (101 : Nat)) "java/lang/String" "value" "[B")) (Term.int (5 : Int32))).before x s = true := nr (nr (nl (nl (nl (nl (nl (nr (nl (h)))))))))
theorem nw_105 {x : Array Value} {s : State} (h : narrow_1.before x s = true) : (Cond.eq (Term.elem (Term.field (Term.string "NinepinAlley$Reader" (101 : Nat)) "java/lang/String" "value" "[B") (Term.int (0 : Int32))) (Term.int (101 : Int32))).before x s = true := nl (nl (nr (nl (nl (nl (nl (nr (nl (h)))))))))
theorem nw_106 {x : Array Value} {s : State} (h : narrow_1.before x s = true) : (Cond.eq (Term.elem (Term.field (Term.string "NinepinAlley$Reader" (101 : Nat)) "java/lang/String" "value" "[B") (Term.int (1 : Int32))) (Term.int (97 : Int32))).before x s = true := nr (nl (nr (nl (nl (nl (nl (nr (nl (h)))))))))
theorem nw_107 {x : Array Value} {s : State} (h : narrow_1.before x s = true) : (Cond.eq (Term.elem (Term.field (Term.string "NinepinAlley$Reader" (101 : Nat)) "java/lang/String" "value" "[B") (Term.int (2 : Int32))) (Term.int (114 : Int32))).before x s = true := nl (nr (nr (nl (nl (nl (nl (nr (nl (h)))))))))
theorem nw_108 {x : Array Value} {s : State} (h : narrow_1.before x s = true) : (Cond.eq (Term.elem (Term.field (Term.string "NinepinAlley$Reader" (101 : Nat)) "java/lang/String" "value" "[B") (Term.int (3 : Int32))) (Term.int (110 : Int32))).before x s = true := nr (nr (nr (nl (nl (nl (nl (nr (nl (h)))))))))
theorem nw_109 {x : Array Value} {s : State} (h : narrow_1.before x s = true) : (Cond.eq (Term.elem (Term.field (Term.string "NinepinAlley$Reader" (101 : Nat)) "java/lang/String" "value" "[B") (Term.int (4 : Int32))) (Term.int (115 : Int32))).before x s = true := nl (nl (nl (nr (nl (nl (nl (nr (nl (h)))))))))
theorem nw_110 {x : Array Value} {s : State} (h : narrow_1.before x s = true) : (Cond.exactly (Term.string "NinepinAlley$Reader" (89 : Nat)) "java/lang/String").before x s = true := nl (nr (nr (nr (nl (nl (nl (nr (nl (h)))))))))
theorem nw_111 {x : Array Value} {s : State} (h : narrow_1.before x s = true) : (Cond.eq (Term.field (Term.string "NinepinAlley$Reader" (89 : Nat)) "java/lang/String" "coder" "B") (Term.int (0 : Int32))).before x s = true := nr (nr (nr (nr (nl (nl (nl (nr (nl (h)))))))))
theorem nw_112 {x : Array Value} {s : State} (h : narrow_1.before x s = true) : (Cond.arrayOf (Term.field (Term.string "NinepinAlley$Reader" (89 : Nat)) "java/lang/String" "value" "[B") FieldType.byte).before x s = true := nl (nl (nl (nr (nl (nl (nr (nl (h))))))))
theorem nw_113 {x : Array Value} {s : State} (h : narrow_1.before x s = true) : (Cond.eq (Term.length (Term.field (Term.string "NinepinAlley$Reader" (89 : Nat)) "java/lang/String" "value" "[B")) (Term.int (5 : Int32))).before x s = true := nl (nr (nl (nl (nr (nl (nl (nr (nl (h)))))))))
theorem nw_114 {x : Array Value} {s : State} (h : narrow_1.before x s = true) : (Cond.eq (Term.elem (Term.field (Term.string "NinepinAlley$Reader" (89 : Nat)) "java/lang/String" "value" "[B") (Term.int (0 : Int32))) (Term.int (119 : Int32))).before x s = true := nr (nr (nl (nl (nr (nl (nl (nr (nl (h)))))))))
theorem nw_115 {x : Array Value} {s : State} (h : narrow_1.before x s = true) : (Cond.eq (Term.elem (Term.field (Term.string "NinepinAlley$Reader" (89 : Nat)) "java/lang/String" "value" "[B") (Term.int (1 : Int32))) (Term.int (111 : Int32))).before x s = true := nl (nl (nr (nl (nr (nl (nl (nr (nl (h)))))))))
theorem nw_116 {x : Array Value} {s : State} (h : narrow_1.before x s = true) : (Cond.eq (Term.elem (Term.field (Term.string "NinepinAlley$Reader" (89 : Nat)) "java/lang/String" "value" "[B") (Term.int (2 : Int32))) (Term.int (114 : Int32))).before x s = true := nr (nl (nr (nl (nr (nl (nl (nr (nl (h)))))))))
theorem nw_117 {x : Array Value} {s : State} (h : narrow_1.before x s = true) : (Cond.eq (Term.elem (Term.field (Term.string "NinepinAlley$Reader" (89 : Nat)) "java/lang/String" "value" "[B") (Term.int (3 : Int32))) (Term.int (116 : Int32))).before x s = true := nl (nr (nr (nl (nr (nl (nl (nr (nl (h)))))))))
theorem nw_118 {x : Array Value} {s : State} (h : narrow_1.before x s = true) : (Cond.eq (Term.elem (Term.field (Term.string "NinepinAlley$Reader" (89 : Nat)) "java/lang/String" "value" "[B") (Term.int (4 : Int32))) (Term.int (104 : Int32))).before x s = true := nr (nr (nr (nl (nr (nl (nl (nr (nl (h)))))))))
theorem nw_119 {x : Array Value} {s : State} (h : narrow_1.before x s = true) : (Cond.exactly (Term.string "NinepinAlley$Reader" (165 : Nat)) "java/lang/String").before x s = true := nl (nr (nr (nr (nr (nl (nl (nr (nl (h)))))))))
theorem nw_120 {x : Array Value} {s : State} (h : narrow_1.before x s = true) : (Cond.eq (Term.field (Term.string "NinepinAlley$Reader" (165 : Nat)) "java/lang/String" "coder" "B") (Term.int (0 : Int32))).before x s = true := nr (nr (nr (nr (nr (nl (nl (nr (nl (h)))))))))
theorem nw_121 {x : Array Value} {s : State} (h : narrow_1.before x s = true) : (Cond.arrayOf (Term.field (Term.string "NinepinAlley$Reader" (165 : Nat)) "java/lang/String" "value" "[B") FieldType.byte).before x s = true := nl (nl (nl (nl (nr (nl (nr (nl (h))))))))
theorem nw_122 {x : Array Value} {s : State} (h : narrow_1.before x s = true) : (Cond.eq (Term.length (Term.field (Term.string "NinepinAlley$Reader" (165 : Nat)) "java/lang/String" "value" "[B")) (Term.int (3 : Int32))).before x s = true := nl (nr (nl (nl (nl (nr (nl (nr (nl (h)))))))))
theorem nw_123 {x : Array Value} {s : State} (h : narrow_1.before x s = true) : (Cond.eq (Term.elem (Term.field (Term.string "NinepinAlley$Reader" (165 : Nat)) "java/lang/String" "value" "[B") (Term.int (0 : Int32))) (Term.int (109 : Int32))).before x s = true := nr (nr (nl (nl (nl (nr (nl (nr (nl (h)))))))))
theorem nw_124 {x : Array Value} {s : State} (h : narrow_1.before x s = true) : (Cond.eq (Term.elem (Term.field (Term.string "NinepinAlley$Reader" (165 : Nat)) "java/lang/String" "value" "[B") (Term.int (1 : Int32))) (Term.int (105 : Int32))).before x s = true := nl (nl (nr (nl (nl (nr (nl (nr (nl (h)))))))))
theorem nw_125 {x : Array Value} {s : State} (h : narrow_1.before x s = true) : (Cond.eq (Term.elem (Term.field (Term.string "NinepinAlley$Reader" (165 : Nat)) "java/lang/String" "value" "[B") (Term.int (2 : Int32))) (Term.int (110 : Int32))).before x s = true := nr (nl (nr (nl (nl (nr (nl (nr (nl (h)))))))))
theorem nw_126 {x : Array Value} {s : State} (h : narrow_1.before x s = true) : (Cond.exactly (Term.string "NinepinAlley$Reader" (169 : Nat)) "java/lang/String").before x s = true := nr (nl (nr (nr (nl (nr (nl (nr (nl (h)))))))))
theorem nw_127 {x : Array Value} {s : State} (h : narrow_1.before x s = true) : (Cond.eq (Term.field (Term.string "NinepinAlley$Reader" (169 : Nat)) "java/lang/String" "coder" "B") (Term.int (0 : Int32))).before x s = true := nl (nr (nr (nr (nl (nr (nl (nr (nl (h)))))))))
theorem nw_128 {x : Array Value} {s : State} (h : narrow_1.before x s = true) : (Cond.arrayOf (Term.field (Term.string "NinepinAlley$Reader" (169 : Nat)) "java/lang/String" "value" "[B") FieldType.byte).before x s = true := nr (nr (nr (nr (nl (nr (nl (nr (nl (h)))))))))
theorem nw_129 {x : Array Value} {s : State} (h : narrow_1.before x s = true) : (Cond.eq (Term.length (Term.field (Term.string "NinepinAlley$Reader" (169 : Nat)) "java/lang/String" "value" "[B")) (Term.int (3 : Int32))).before x s = true := nl (nl (nl (nr (nr (nl (nr (nl (h))))))))
theorem nw_130 {x : Array Value} {s : State} (h : narrow_1.before x s = true) : (Cond.eq (Term.elem (Term.field (Term.string "NinepinAlley$Reader" (169 : Nat)) "java/lang/String" "value" "[B") (Term.int (0 : Int32))) (Term.int (109 : Int32))).before x s = true := nl (nr (nl (nl (nr (nr (nl (nr (nl (h)))))))))
theorem nw_131 {x : Array Value} {s : State} (h : narrow_1.before x s = true) : (Cond.eq (Term.elem (Term.field (Term.string "NinepinAlley$Reader" (169 : Nat)) "java/lang/String" "value" "[B") (Term.int (1 : Int32))) (Term.int (97 : Int32))).before x s = true := nr (nr (nl (nl (nr (nr (nl (nr (nl (h)))))))))
theorem nw_132 {x : Array Value} {s : State} (h : narrow_1.before x s = true) : (Cond.eq (Term.elem (Term.field (Term.string "NinepinAlley$Reader" (169 : Nat)) "java/lang/String" "value" "[B") (Term.int (2 : Int32))) (Term.int (120 : Int32))).before x s = true := nl (nl (nr (nl (nr (nr (nl (nr (nl (h)))))))))
theorem nw_133 {x : Array Value} {s : State} (h : narrow_1.before x s = true) : (Cond.exactly (Term.string "NinepinAlley$Reader" (171 : Nat)) "java/lang/String").before x s = true := nr (nl (nr (nr (nr (nr (nl (nr (nl (h)))))))))
theorem nw_134 {x : Array Value} {s : State} (h : narrow_1.before x s = true) : (Cond.eq (Term.field (Term.string "NinepinAlley$Reader" (171 : Nat)) "java/lang/String" "coder" "B") (Term.int (0 : Int32))).before x s = true := nl (nr (nr (nr (nr (nr (nl (nr (nl (h)))))))))
theorem nw_135 {x : Array Value} {s : State} (h : narrow_1.before x s = true) : (Cond.arrayOf (Term.field (Term.string "NinepinAlley$Reader" (171 : Nat)) "java/lang/String" "value" "[B") FieldType.byte).before x s = true := nr (nr (nr (nr (nr (nr (nl (nr (nl (h)))))))))
theorem nw_136 {x : Array Value} {s : State} (h : narrow_1.before x s = true) : (Cond.eq (Term.length (Term.field (Term.string "NinepinAlley$Reader" (171 : Nat)) "java/lang/String" "value" "[B")) (Term.int (5 : Int32))).before x s = true := nl (nl (nl (nl (nl (nr (nr (nl (h))))))))
theorem nw_137 {x : Array Value} {s : State} (h : narrow_1.before x s = true) : (Cond.eq (Term.elem (Term.field (Term.string "NinepinAlley$Reader" (171 : Nat)) "java/lang/String" "value" "[B") (Term.int (0 : Int32))) (Term.int (102 : Int32))).before x s = true := nl (nr (nl (nl (nl (nl (nr (nr (nl (h)))))))))
theorem nw_138 {x : Array Value} {s : State} (h : narrow_1.before x s = true) : (Cond.eq (Term.elem (Term.field (Term.string "NinepinAlley$Reader" (171 : Nat)) "java/lang/String" "value" "[B") (Term.int (1 : Int32))) (Term.int (114 : Int32))).before x s = true := nr (nr (nl (nl (nl (nl (nr (nr (nl (h)))))))))
theorem nw_139 {x : Array Value} {s : State} (h : narrow_1.before x s = true) : (Cond.eq (Term.elem (Term.field (Term.string "NinepinAlley$Reader" (171 : Nat)) "java/lang/String" "value" "[B") (Term.int (2 : Int32))) (Term.int (97 : Int32))).before x s = true := nl (nl (nr (nl (nl (nl (nr (nr (nl (h)))))))))
theorem nw_140 {x : Array Value} {s : State} (h : narrow_1.before x s = true) : (Cond.eq (Term.elem (Term.field (Term.string "NinepinAlley$Reader" (171 : Nat)) "java/lang/String" "value" "[B") (Term.int (3 : Int32))) (Term.int (109 : Int32))).before x s = true := nr (nl (nr (nl (nl (nl (nr (nr (nl (h)))))))))
theorem nw_141 {x : Array Value} {s : State} (h : narrow_1.before x s = true) : (Cond.eq (Term.elem (Term.field (Term.string "NinepinAlley$Reader" (171 : Nat)) "java/lang/String" "value" "[B") (Term.int (4 : Int32))) (Term.int (101 : Int32))).before x s = true := nl (nr (nr (nl (nl (nl (nr (nr (nl (h)))))))))
theorem nw_142 {x : Array Value} {s : State} (h : narrow_1.before x s = true) : (Cond.exactly (Term.string "NinepinAlley$Reader" (173 : Nat)) "java/lang/String").before x s = true := nl (nl (nl (nr (nl (nr (nr (nl (h))))))))
theorem nw_143 {x : Array Value} {s : State} (h : narrow_1.before x s = true) : (Cond.eq (Term.field (Term.string "NinepinAlley$Reader" (173 : Nat)) "java/lang/String" "coder" "B") (Term.int (0 : Int32))).before x s = true := nl (nr (nl (nl (nr (nl (nr (nr (nl (h)))))))))
theorem nw_144 {x : Array Value} {s : State} (h : narrow_1.before x s = true) : (Cond.arrayOf (Term.field (Term.string "NinepinAlley$Reader" (173 : Nat)) "java/lang/String" "value" "[B") FieldType.byte).before x s = true := nr (nr (nl (nl (nr (nl (nr (nr (nl (h)))))))))
theorem nw_145 {x : Array Value} {s : State} (h : narrow_1.before x s = true) : (Cond.eq (Term.length (Term.field (Term.string "NinepinAlley$Reader" (173 : Nat)) "java/lang/String" "value" "[B")) (Term.int (4 : Int32))).before x s = true := nl (nl (nr (nl (nr (nl (nr (nr (nl (h)))))))))
theorem nw_146 {x : Array Value} {s : State} (h : narrow_1.before x s = true) : (Cond.eq (Term.elem (Term.field (Term.string "NinepinAlley$Reader" (173 : Nat)) "java/lang/String" "value" "[B") (Term.int (0 : Int32))) (Term.int (100 : Int32))).before x s = true := nr (nl (nr (nl (nr (nl (nr (nr (nl (h)))))))))
theorem nw_147 {x : Array Value} {s : State} (h : narrow_1.before x s = true) : (Cond.eq (Term.elem (Term.field (Term.string "NinepinAlley$Reader" (173 : Nat)) "java/lang/String" "value" "[B") (Term.int (1 : Int32))) (Term.int (111 : Int32))).before x s = true := nl (nr (nr (nl (nr (nl (nr (nr (nl (h)))))))))
theorem nw_148 {x : Array Value} {s : State} (h : narrow_1.before x s = true) : (Cond.eq (Term.elem (Term.field (Term.string "NinepinAlley$Reader" (173 : Nat)) "java/lang/String" "value" "[B") (Term.int (2 : Int32))) (Term.int (119 : Int32))).before x s = true := nr (nr (nr (nl (nr (nl (nr (nr (nl (h)))))))))
theorem nw_149 {x : Array Value} {s : State} (h : narrow_1.before x s = true) : (Cond.eq (Term.elem (Term.field (Term.string "NinepinAlley$Reader" (173 : Nat)) "java/lang/String" "value" "[B") (Term.int (3 : Int32))) (Term.int (110 : Int32))).before x s = true := nl (nl (nl (nr (nr (nl (nr (nr (nl (h)))))))))
theorem nw_150 {x : Array Value} {s : State} (h : narrow_1.before x s = true) : (Cond.exactly (Term.string "NinepinAlley$Reader" (175 : Nat)) "java/lang/String").before x s = true := nl (nl (nr (nl (nl (nr (nr (nr (nl (h)))))))))
theorem nw_151 {x : Array Value} {s : State} (h : narrow_1.before x s = true) : (Cond.eq (Term.field (Term.string "NinepinAlley$Reader" (175 : Nat)) "java/lang/String" "coder" "B") (Term.int (0 : Int32))).before x s = true := nr (nl (nr (nl (nl (nr (nr (nr (nl (h)))))))))
theorem nw_152 {x : Array Value} {s : State} (h : narrow_1.before x s = true) : (Cond.arrayOf (Term.field (Term.string "NinepinAlley$Reader" (175 : Nat)) "java/lang/String" "value" "[B") FieldType.byte).before x s = true := nl (nr (nr (nl (nl (nr (nr (nr (nl (h)))))))))
theorem nw_153 {x : Array Value} {s : State} (h : narrow_1.before x s = true) : (Cond.eq (Term.length (Term.field (Term.string "NinepinAlley$Reader" (175 : Nat)) "java/lang/String" "value" "[B")) (Term.int (4 : Int32))).before x s = true := nr (nr (nr (nl (nl (nr (nr (nr (nl (h)))))))))
theorem nw_154 {x : Array Value} {s : State} (h : narrow_1.before x s = true) : (Cond.eq (Term.elem (Term.field (Term.string "NinepinAlley$Reader" (175 : Nat)) "java/lang/String" "value" "[B") (Term.int (0 : Int32))) (Term.int (117 : Int32))).before x s = true := nl (nl (nl (nr (nl (nr (nr (nr (nl (h)))))))))
theorem nw_155 {x : Array Value} {s : State} (h : narrow_1.before x s = true) : (Cond.eq (Term.elem (Term.field (Term.string "NinepinAlley$Reader" (175 : Nat)) "java/lang/String" "value" "[B") (Term.int (1 : Int32))) (Term.int (115 : Int32))).before x s = true := nr (nl (nl (nr (nl (nr (nr (nr (nl (h)))))))))
theorem nw_156 {x : Array Value} {s : State} (h : narrow_1.before x s = true) : (Cond.eq (Term.elem (Term.field (Term.string "NinepinAlley$Reader" (175 : Nat)) "java/lang/String" "value" "[B") (Term.int (2 : Int32))) (Term.int (101 : Int32))).before x s = true := nl (nr (nl (nr (nl (nr (nr (nr (nl (h)))))))))
theorem nw_157 {x : Array Value} {s : State} (h : narrow_1.before x s = true) : (Cond.eq (Term.elem (Term.field (Term.string "NinepinAlley$Reader" (175 : Nat)) "java/lang/String" "value" "[B") (Term.int (3 : Int32))) (Term.int (100 : Int32))).before x s = true := nr (nr (nl (nr (nl (nr (nr (nr (nl (h)))))))))
theorem nw_158 {x : Array Value} {s : State} (h : narrow_1.before x s = true) : (Cond.exactly (Term.string "NinepinAlley$Reader" (177 : Nat)) "java/lang/String").before x s = true := nr (nr (nr (nl (nr (nr (nr (nr (nl (h)))))))))
theorem nw_159 {x : Array Value} {s : State} (h : narrow_1.before x s = true) : (Cond.eq (Term.field (Term.string "NinepinAlley$Reader" (177 : Nat)) "java/lang/String" "coder" "B") (Term.int (0 : Int32))).before x s = true := nl (nl (nl (nr (nr (nr (nr (nr (nl (h)))))))))
theorem nw_160 {x : Array Value} {s : State} (h : narrow_1.before x s = true) : (Cond.arrayOf (Term.field (Term.string "NinepinAlley$Reader" (177 : Nat)) "java/lang/String" "value" "[B") FieldType.byte).before x s = true := nr (nl (nl (nr (nr (nr (nr (nr (nl (h)))))))))
theorem nw_161 {x : Array Value} {s : State} (h : narrow_1.before x s = true) : (Cond.eq (Term.length (Term.field (Term.string "NinepinAlley$Reader" (177 : Nat)) "java/lang/String" "value" "[B")) (Term.int (5 : Int32))).before x s = true := nl (nr (nl (nr (nr (nr (nr (nr (nl (h)))))))))
theorem nw_162 {x : Array Value} {s : State} (h : narrow_1.before x s = true) : (Cond.eq (Term.elem (Term.field (Term.string "NinepinAlley$Reader" (177 : Nat)) "java/lang/String" "value" "[B") (Term.int (0 : Int32))) (Term.int (102 : Int32))).before x s = true := nr (nr (nl (nr (nr (nr (nr (nr (nl (h)))))))))
theorem nw_163 {x : Array Value} {s : State} (h : narrow_1.before x s = true) : (Cond.eq (Term.elem (Term.field (Term.string "NinepinAlley$Reader" (177 : Nat)) "java/lang/String" "value" "[B") (Term.int (1 : Int32))) (Term.int (111 : Int32))).before x s = true := nl (nl (nr (nr (nr (nr (nr (nr (nl (h)))))))))
theorem nw_164 {x : Array Value} {s : State} (h : narrow_1.before x s = true) : (Cond.eq (Term.elem (Term.field (Term.string "NinepinAlley$Reader" (177 : Nat)) "java/lang/String" "value" "[B") (Term.int (2 : Int32))) (Term.int (117 : Int32))).before x s = true := nr (nl (nr (nr (nr (nr (nr (nr (nl (h)))))))))
theorem nw_165 {x : Array Value} {s : State} (h : narrow_1.before x s = true) : (Cond.eq (Term.elem (Term.field (Term.string "NinepinAlley$Reader" (177 : Nat)) "java/lang/String" "value" "[B") (Term.int (3 : Int32))) (Term.int (108 : Int32))).before x s = true := nl (nr (nr (nr (nr (nr (nr (nr (nl (h)))))))))
theorem nw_166 {x : Array Value} {s : State} (h : narrow_1.before x s = true) : (Cond.eq (Term.elem (Term.field (Term.string "NinepinAlley$Reader" (177 : Nat)) "java/lang/String" "value" "[B") (Term.int (4 : Int32))) (Term.int (115 : Int32))).before x s = true := nr (nr (nr (nr (nr (nr (nr (nr (nl (h)))))))))
theorem nw_167 {x : Array Value} {s : State} (h : narrow_1.before x s = true) : (Cond.exactly (Term.string "NinepinAlley$Reader" (179 : Nat)) "java/lang/String").before x s = true := nr (nl (nr (nr (nl (nl (nl (nl (nr (h)))))))))
theorem nw_168 {x : Array Value} {s : State} (h : narrow_1.before x s = true) : (Cond.eq (Term.field (Term.string "NinepinAlley$Reader" (179 : Nat)) "java/lang/String" "coder" "B") (Term.int (0 : Int32))).before x s = true := nl (nr (nr (nr (nl (nl (nl (nl (nr (h)))))))))
theorem nw_169 {x : Array Value} {s : State} (h : narrow_1.before x s = true) : (Cond.arrayOf (Term.field (Term.string "NinepinAlley$Reader" (179 : Nat)) "java/lang/String" "value" "[B") FieldType.byte).before x s = true := nr (nr (nr (nr (nl (nl (nl (nl (nr (h)))))))))
theorem nw_170 {x : Array Value} {s : State} (h : narrow_1.before x s = true) : (Cond.eq (Term.length (Term.field (Term.string "NinepinAlley$Reader" (179 : Nat)) "java/lang/String" "value" "[B")) (Term.int (4 : Int32))).before x s = true := nl (nl (nl (nr (nl (nl (nl (nr (h))))))))
theorem nw_171 {x : Array Value} {s : State} (h : narrow_1.before x s = true) : (Cond.eq (Term.elem (Term.field (Term.string "NinepinAlley$Reader" (179 : Nat)) "java/lang/String" "value" "[B") (Term.int (0 : Int32))) (Term.int (109 : Int32))).before x s = true := nl (nr (nl (nl (nr (nl (nl (nl (nr (h)))))))))
theorem nw_172 {x : Array Value} {s : State} (h : narrow_1.before x s = true) : (Cond.eq (Term.elem (Term.field (Term.string "NinepinAlley$Reader" (179 : Nat)) "java/lang/String" "value" "[B") (Term.int (1 : Int32))) (Term.int (101 : Int32))).before x s = true := nr (nr (nl (nl (nr (nl (nl (nl (nr (h)))))))))
theorem nw_173 {x : Array Value} {s : State} (h : narrow_1.before x s = true) : (Cond.eq (Term.elem (Term.field (Term.string "NinepinAlley$Reader" (179 : Nat)) "java/lang/String" "value" "[B") (Term.int (2 : Int32))) (Term.int (97 : Int32))).before x s = true := nl (nl (nr (nl (nr (nl (nl (nl (nr (h)))))))))
theorem nw_174 {x : Array Value} {s : State} (h : narrow_1.before x s = true) : (Cond.eq (Term.elem (Term.field (Term.string "NinepinAlley$Reader" (179 : Nat)) "java/lang/String" "value" "[B") (Term.int (3 : Int32))) (Term.int (110 : Int32))).before x s = true := nr (nl (nr (nl (nr (nl (nl (nl (nr (h)))))))))
theorem nw_175 {x : Array Value} {s : State} (h : narrow_1.before x s = true) : (Cond.exactly (Term.string "NinepinAlley$Reader" (181 : Nat)) "java/lang/String").before x s = true := nl (nl (nr (nl (nl (nr (nl (nl (nr (h)))))))))
theorem nw_176 {x : Array Value} {s : State} (h : narrow_1.before x s = true) : (Cond.eq (Term.field (Term.string "NinepinAlley$Reader" (181 : Nat)) "java/lang/String" "coder" "B") (Term.int (0 : Int32))).before x s = true := nr (nl (nr (nl (nl (nr (nl (nl (nr (h)))))))))
theorem nw_177 {x : Array Value} {s : State} (h : narrow_1.before x s = true) : (Cond.arrayOf (Term.field (Term.string "NinepinAlley$Reader" (181 : Nat)) "java/lang/String" "value" "[B") FieldType.byte).before x s = true := nl (nr (nr (nl (nl (nr (nl (nl (nr (h)))))))))
theorem nw_178 {x : Array Value} {s : State} (h : narrow_1.before x s = true) : (Cond.eq (Term.length (Term.field (Term.string "NinepinAlley$Reader" (181 : Nat)) "java/lang/String" "value" "[B")) (Term.int (5 : Int32))).before x s = true := nr (nr (nr (nl (nl (nr (nl (nl (nr (h)))))))))
theorem nw_179 {x : Array Value} {s : State} (h : narrow_1.before x s = true) : (Cond.eq (Term.elem (Term.field (Term.string "NinepinAlley$Reader" (181 : Nat)) "java/lang/String" "value" "[B") (Term.int (0 : Int32))) (Term.int (103 : Int32))).before x s = true := nl (nl (nl (nr (nl (nr (nl (nl (nr (h)))))))))
theorem nw_180 {x : Array Value} {s : State} (h : narrow_1.before x s = true) : (Cond.eq (Term.elem (Term.field (Term.string "NinepinAlley$Reader" (181 : Nat)) "java/lang/String" "value" "[B") (Term.int (1 : Int32))) (Term.int (97 : Int32))).before x s = true := nr (nl (nl (nr (nl (nr (nl (nl (nr (h)))))))))
theorem nw_181 {x : Array Value} {s : State} (h : narrow_1.before x s = true) : (Cond.eq (Term.elem (Term.field (Term.string "NinepinAlley$Reader" (181 : Nat)) "java/lang/String" "value" "[B") (Term.int (2 : Int32))) (Term.int (109 : Int32))).before x s = true := nl (nr (nl (nr (nl (nr (nl (nl (nr (h)))))))))
theorem nw_182 {x : Array Value} {s : State} (h : narrow_1.before x s = true) : (Cond.eq (Term.elem (Term.field (Term.string "NinepinAlley$Reader" (181 : Nat)) "java/lang/String" "value" "[B") (Term.int (3 : Int32))) (Term.int (101 : Int32))).before x s = true := nr (nr (nl (nr (nl (nr (nl (nl (nr (h)))))))))
theorem nw_183 {x : Array Value} {s : State} (h : narrow_1.before x s = true) : (Cond.eq (Term.elem (Term.field (Term.string "NinepinAlley$Reader" (181 : Nat)) "java/lang/String" "value" "[B") (Term.int (4 : Int32))) (Term.int (115 : Int32))).before x s = true := nl (nl (nr (nr (nl (nr (nl (nl (nr (h)))))))))
theorem nw_184 {x : Array Value} {s : State} (h : narrow_1.before x s = true) : (Cond.exactly (Term.string "NinepinAlley$Reader" (124 : Nat)) "java/lang/String").before x s = true := nl (nl (nr (nr (nr (nr (nl (nl (nr (h)))))))))
theorem nw_185 {x : Array Value} {s : State} (h : narrow_1.before x s = true) : (Cond.eq (Term.field (Term.string "NinepinAlley$Reader" (124 : Nat)) "java/lang/String" "coder" "B") (Term.int (0 : Int32))).before x s = true := nr (nl (nr (nr (nr (nr (nl (nl (nr (h)))))))))
theorem nw_186 {x : Array Value} {s : State} (h : narrow_1.before x s = true) : (Cond.arrayOf (Term.field (Term.string "NinepinAlley$Reader" (124 : Nat)) "java/lang/String" "value" "[B") FieldType.byte).before x s = true := nl (nr (nr (nr (nr (nr (nl (nl (nr (h)))))))))
theorem nw_187 {x : Array Value} {s : State} (h : narrow_1.before x s = true) : (Cond.eq (Term.length (Term.field (Term.string "NinepinAlley$Reader" (124 : Nat)) "java/lang/String" "value" "[B")) (Term.int (4 : Int32))).before x s = true := nr (nr (nr (nr (nr (nr (nl (nl (nr (h)))))))))
theorem nw_188 {x : Array Value} {s : State} (h : narrow_1.before x s = true) : (Cond.eq (Term.elem (Term.field (Term.string "NinepinAlley$Reader" (124 : Nat)) "java/lang/String" "value" "[B") (Term.int (0 : Int32))) (Term.int (119 : Int32))).before x s = true := nl (nl (nl (nl (nl (nr (nl (nr (h))))))))
theorem nw_189 {x : Array Value} {s : State} (h : narrow_1.before x s = true) : (Cond.eq (Term.elem (Term.field (Term.string "NinepinAlley$Reader" (124 : Nat)) "java/lang/String" "value" "[B") (Term.int (1 : Int32))) (Term.int (104 : Int32))).before x s = true := nl (nr (nl (nl (nl (nl (nr (nl (nr (h)))))))))
theorem nw_190 {x : Array Value} {s : State} (h : narrow_1.before x s = true) : (Cond.eq (Term.elem (Term.field (Term.string "NinepinAlley$Reader" (124 : Nat)) "java/lang/String" "value" "[B") (Term.int (2 : Int32))) (Term.int (101 : Int32))).before x s = true := nr (nr (nl (nl (nl (nl (nr (nl (nr (h)))))))))
theorem nw_191 {x : Array Value} {s : State} (h : narrow_1.before x s = true) : (Cond.eq (Term.elem (Term.field (Term.string "NinepinAlley$Reader" (124 : Nat)) "java/lang/String" "value" "[B") (Term.int (3 : Int32))) (Term.int (110 : Int32))).before x s = true := nl (nl (nr (nl (nl (nl (nr (nl (nr (h)))))))))
theorem nw_192 {x : Array Value} {s : State} (h : narrow_1.before x s = true) : (Cond.exactly (Term.string "NinepinAlley$Reader" (152 : Nat)) "java/lang/String").before x s = true := nr (nl (nr (nl (nr (nl (nr (nl (nr (h)))))))))
theorem nw_193 {x : Array Value} {s : State} (h : narrow_1.before x s = true) : (Cond.eq (Term.field (Term.string "NinepinAlley$Reader" (152 : Nat)) "java/lang/String" "coder" "B") (Term.int (0 : Int32))).before x s = true := nl (nr (nr (nl (nr (nl (nr (nl (nr (h)))))))))
theorem nw_194 {x : Array Value} {s : State} (h : narrow_1.before x s = true) : (Cond.arrayOf (Term.field (Term.string "NinepinAlley$Reader" (152 : Nat)) "java/lang/String" "value" "[B") FieldType.byte).before x s = true := nr (nr (nr (nl (nr (nl (nr (nl (nr (h)))))))))
theorem nw_195 {x : Array Value} {s : State} (h : narrow_1.before x s = true) : (Cond.eq (Term.length (Term.field (Term.string "NinepinAlley$Reader" (152 : Nat)) "java/lang/String" "value" "[B")) (Term.int (3 : Int32))).before x s = true := nl (nl (nl (nr (nr (nl (nr (nl (nr (h)))))))))
theorem nw_196 {x : Array Value} {s : State} (h : narrow_1.before x s = true) : (Cond.eq (Term.elem (Term.field (Term.string "NinepinAlley$Reader" (152 : Nat)) "java/lang/String" "value" "[B") (Term.int (0 : Int32))) (Term.int (110 : Int32))).before x s = true := nr (nl (nl (nr (nr (nl (nr (nl (nr (h)))))))))
theorem nw_197 {x : Array Value} {s : State} (h : narrow_1.before x s = true) : (Cond.eq (Term.elem (Term.field (Term.string "NinepinAlley$Reader" (152 : Nat)) "java/lang/String" "value" "[B") (Term.int (1 : Int32))) (Term.int (111 : Int32))).before x s = true := nl (nr (nl (nr (nr (nl (nr (nl (nr (h)))))))))
theorem nw_198 {x : Array Value} {s : State} (h : narrow_1.before x s = true) : (Cond.eq (Term.elem (Term.field (Term.string "NinepinAlley$Reader" (152 : Nat)) "java/lang/String" "value" "[B") (Term.int (2 : Int32))) (Term.int (116 : Int32))).before x s = true := nr (nr (nl (nr (nr (nl (nr (nl (nr (h)))))))))
theorem nw_199 {x : Array Value} {s : State} (h : narrow_1.before x s = true) : (Cond.exactly (Term.string "NinepinAlley$Reader" (157 : Nat)) "java/lang/String").before x s = true := nr (nl (nr (nr (nl (nr (nr (nl (nr (h)))))))))
theorem nw_200 {x : Array Value} {s : State} (h : narrow_1.before x s = true) : (Cond.eq (Term.field (Term.string "NinepinAlley$Reader" (157 : Nat)) "java/lang/String" "coder" "B") (Term.int (0 : Int32))).before x s = true := nl (nr (nr (nr (nl (nr (nr (nl (nr (h)))))))))
theorem nw_201 {x : Array Value} {s : State} (h : narrow_1.before x s = true) : (Cond.arrayOf (Term.field (Term.string "NinepinAlley$Reader" (157 : Nat)) "java/lang/String" "value" "[B") FieldType.byte).before x s = true := nr (nr (nr (nr (nl (nr (nr (nl (nr (h)))))))))
theorem nw_202 {x : Array Value} {s : State} (h : narrow_1.before x s = true) : (Cond.eq (Term.length (Term.field (Term.string "NinepinAlley$Reader" (157 : Nat)) "java/lang/String" "value" "[B")) (Term.int (3 : Int32))).before x s = true := nl (nl (nl (nl (nr (nr (nr (nl (nr (h)))))))))
theorem nw_203 {x : Array Value} {s : State} (h : narrow_1.before x s = true) : (Cond.eq (Term.elem (Term.field (Term.string "NinepinAlley$Reader" (157 : Nat)) "java/lang/String" "value" "[B") (Term.int (0 : Int32))) (Term.int (97 : Int32))).before x s = true := nr (nl (nl (nl (nr (nr (nr (nl (nr (h)))))))))
theorem nw_204 {x : Array Value} {s : State} (h : narrow_1.before x s = true) : (Cond.eq (Term.elem (Term.field (Term.string "NinepinAlley$Reader" (157 : Nat)) "java/lang/String" "value" "[B") (Term.int (1 : Int32))) (Term.int (108 : Int32))).before x s = true := nl (nr (nl (nl (nr (nr (nr (nl (nr (h)))))))))
theorem nw_205 {x : Array Value} {s : State} (h : narrow_1.before x s = true) : (Cond.eq (Term.elem (Term.field (Term.string "NinepinAlley$Reader" (157 : Nat)) "java/lang/String" "value" "[B") (Term.int (2 : Int32))) (Term.int (108 : Int32))).before x s = true := nr (nr (nl (nl (nr (nr (nr (nl (nr (h)))))))))
theorem nw_206 {x : Array Value} {s : State} (h : narrow_1.before x s = true) : (Cond.exactly (Term.string "NinepinAlley$Reader" (150 : Nat)) "java/lang/String").before x s = true := nl (nr (nr (nl (nl (nl (nl (nr (nr (h)))))))))
theorem nw_207 {x : Array Value} {s : State} (h : narrow_1.before x s = true) : (Cond.eq (Term.field (Term.string "NinepinAlley$Reader" (150 : Nat)) "java/lang/String" "coder" "B") (Term.int (0 : Int32))).before x s = true := nr (nr (nr (nl (nl (nl (nl (nr (nr (h)))))))))
theorem nw_208 {x : Array Value} {s : State} (h : narrow_1.before x s = true) : (Cond.arrayOf (Term.field (Term.string "NinepinAlley$Reader" (150 : Nat)) "java/lang/String" "value" "[B") FieldType.byte).before x s = true := nl (nl (nl (nr (nl (nl (nl (nr (nr (h)))))))))
theorem nw_209 {x : Array Value} {s : State} (h : narrow_1.before x s = true) : (Cond.eq (Term.length (Term.field (Term.string "NinepinAlley$Reader" (150 : Nat)) "java/lang/String" "value" "[B")) (Term.int (3 : Int32))).before x s = true := nr (nl (nl (nr (nl (nl (nl (nr (nr (h)))))))))
theorem nw_210 {x : Array Value} {s : State} (h : narrow_1.before x s = true) : (Cond.eq (Term.elem (Term.field (Term.string "NinepinAlley$Reader" (150 : Nat)) "java/lang/String" "value" "[B") (Term.int (0 : Int32))) (Term.int (97 : Int32))).before x s = true := nl (nr (nl (nr (nl (nl (nl (nr (nr (h)))))))))
theorem nw_211 {x : Array Value} {s : State} (h : narrow_1.before x s = true) : (Cond.eq (Term.elem (Term.field (Term.string "NinepinAlley$Reader" (150 : Nat)) "java/lang/String" "value" "[B") (Term.int (1 : Int32))) (Term.int (110 : Int32))).before x s = true := nr (nr (nl (nr (nl (nl (nl (nr (nr (h)))))))))
theorem nw_212 {x : Array Value} {s : State} (h : narrow_1.before x s = true) : (Cond.eq (Term.elem (Term.field (Term.string "NinepinAlley$Reader" (150 : Nat)) "java/lang/String" "value" "[B") (Term.int (2 : Int32))) (Term.int (100 : Int32))).before x s = true := nl (nl (nr (nr (nl (nl (nl (nr (nr (h)))))))))
theorem nw_213 {x : Array Value} {s : State} (h : narrow_1.before x s = true) : (Cond.exactly (Term.string "NinepinAlley$Reader" (142 : Nat)) "java/lang/String").before x s = true := nl (nl (nl (nl (nr (nl (nr (nr (h))))))))
theorem nw_214 {x : Array Value} {s : State} (h : narrow_1.before x s = true) : (Cond.eq (Term.field (Term.string "NinepinAlley$Reader" (142 : Nat)) "java/lang/String" "coder" "B") (Term.int (0 : Int32))).before x s = true := nl (nr (nl (nl (nl (nr (nl (nr (nr (h)))))))))
theorem nw_215 {x : Array Value} {s : State} (h : narrow_1.before x s = true) : (Cond.arrayOf (Term.field (Term.string "NinepinAlley$Reader" (142 : Nat)) "java/lang/String" "value" "[B") FieldType.byte).before x s = true := nr (nr (nl (nl (nl (nr (nl (nr (nr (h)))))))))
theorem nw_216 {x : Array Value} {s : State} (h : narrow_1.before x s = true) : (Cond.eq (Term.length (Term.field (Term.string "NinepinAlley$Reader" (142 : Nat)) "java/lang/String" "value" "[B")) (Term.int (2 : Int32))).before x s = true := nl (nl (nr (nl (nl (nr (nl (nr (nr (h)))))))))
theorem nw_217 {x : Array Value} {s : State} (h : narrow_1.before x s = true) : (Cond.eq (Term.elem (Term.field (Term.string "NinepinAlley$Reader" (142 : Nat)) "java/lang/String" "value" "[B") (Term.int (0 : Int32))) (Term.int (111 : Int32))).before x s = true := nr (nl (nr (nl (nl (nr (nl (nr (nr (h)))))))))
theorem nw_218 {x : Array Value} {s : State} (h : narrow_1.before x s = true) : (Cond.eq (Term.elem (Term.field (Term.string "NinepinAlley$Reader" (142 : Nat)) "java/lang/String" "value" "[B") (Term.int (1 : Int32))) (Term.int (114 : Int32))).before x s = true := nl (nr (nr (nl (nl (nr (nl (nr (nr (h)))))))))
theorem nw_219 {x : Array Value} {s : State} (h : narrow_1.before x s = true) : (Cond.exactly (Term.string "NinepinAlley$Reader" (93 : Nat)) "java/lang/String").before x s = true := nr (nr (nl (nr (nr (nr (nl (nr (nr (h)))))))))
theorem nw_220 {x : Array Value} {s : State} (h : narrow_1.before x s = true) : (Cond.eq (Term.field (Term.string "NinepinAlley$Reader" (93 : Nat)) "java/lang/String" "coder" "B") (Term.int (0 : Int32))).before x s = true := nl (nl (nr (nr (nr (nr (nl (nr (nr (h)))))))))
theorem nw_221 {x : Array Value} {s : State} (h : narrow_1.before x s = true) : (Cond.arrayOf (Term.field (Term.string "NinepinAlley$Reader" (93 : Nat)) "java/lang/String" "value" "[B") FieldType.byte).before x s = true := nr (nl (nr (nr (nr (nr (nl (nr (nr (h)))))))))
theorem nw_222 {x : Array Value} {s : State} (h : narrow_1.before x s = true) : (Cond.eq (Term.length (Term.field (Term.string "NinepinAlley$Reader" (93 : Nat)) "java/lang/String" "value" "[B")) (Term.int (8 : Int32))).before x s = true := nl (nr (nr (nr (nr (nr (nl (nr (nr (h)))))))))
theorem nw_223 {x : Array Value} {s : State} (h : narrow_1.before x s = true) : (Cond.eq (Term.elem (Term.field (Term.string "NinepinAlley$Reader" (93 : Nat)) "java/lang/String" "value" "[B") (Term.int (0 : Int32))) (Term.int (104 : Int32))).before x s = true := nr (nr (nr (nr (nr (nr (nl (nr (nr (h)))))))))
theorem nw_224 {x : Array Value} {s : State} (h : narrow_1.before x s = true) : (Cond.eq (Term.elem (Term.field (Term.string "NinepinAlley$Reader" (93 : Nat)) "java/lang/String" "value" "[B") (Term.int (1 : Int32))) (Term.int (97 : Int32))).before x s = true := nl (nl (nl (nl (nl (nr (nr (nr (h))))))))
theorem nw_225 {x : Array Value} {s : State} (h : narrow_1.before x s = true) : (Cond.eq (Term.elem (Term.field (Term.string "NinepinAlley$Reader" (93 : Nat)) "java/lang/String" "value" "[B") (Term.int (2 : Int32))) (Term.int (110 : Int32))).before x s = true := nl (nr (nl (nl (nl (nl (nr (nr (nr (h)))))))))
theorem nw_226 {x : Array Value} {s : State} (h : narrow_1.before x s = true) : (Cond.eq (Term.elem (Term.field (Term.string "NinepinAlley$Reader" (93 : Nat)) "java/lang/String" "value" "[B") (Term.int (3 : Int32))) (Term.int (100 : Int32))).before x s = true := nr (nr (nl (nl (nl (nl (nr (nr (nr (h)))))))))
theorem nw_227 {x : Array Value} {s : State} (h : narrow_1.before x s = true) : (Cond.eq (Term.elem (Term.field (Term.string "NinepinAlley$Reader" (93 : Nat)) "java/lang/String" "value" "[B") (Term.int (4 : Int32))) (Term.int (105 : Int32))).before x s = true := nl (nl (nr (nl (nl (nl (nr (nr (nr (h)))))))))
theorem nw_228 {x : Array Value} {s : State} (h : narrow_1.before x s = true) : (Cond.eq (Term.elem (Term.field (Term.string "NinepinAlley$Reader" (93 : Nat)) "java/lang/String" "value" "[B") (Term.int (5 : Int32))) (Term.int (99 : Int32))).before x s = true := nr (nl (nr (nl (nl (nl (nr (nr (nr (h)))))))))
theorem nw_229 {x : Array Value} {s : State} (h : narrow_1.before x s = true) : (Cond.eq (Term.elem (Term.field (Term.string "NinepinAlley$Reader" (93 : Nat)) "java/lang/String" "value" "[B") (Term.int (6 : Int32))) (Term.int (97 : Int32))).before x s = true := nl (nr (nr (nl (nl (nl (nr (nr (nr (h)))))))))
theorem nw_230 {x : Array Value} {s : State} (h : narrow_1.before x s = true) : (Cond.eq (Term.elem (Term.field (Term.string "NinepinAlley$Reader" (93 : Nat)) "java/lang/String" "value" "[B") (Term.int (7 : Int32))) (Term.int (112 : Int32))).before x s = true := nr (nr (nr (nl (nl (nl (nr (nr (nr (h)))))))))
theorem nw_231 {x : Array Value} {s : State} (h : narrow_1.before x s = true) : (Cond.exactly (Term.string "NinepinAlley$Reader" (97 : Nat)) "java/lang/String").before x s = true := nr (nl (nr (nr (nr (nl (nr (nr (nr (h)))))))))
theorem nw_232 {x : Array Value} {s : State} (h : narrow_1.before x s = true) : (Cond.eq (Term.field (Term.string "NinepinAlley$Reader" (97 : Nat)) "java/lang/String" "coder" "B") (Term.int (0 : Int32))).before x s = true := nl (nr (nr (nr (nr (nl (nr (nr (nr (h)))))))))
theorem nw_233 {x : Array Value} {s : State} (h : narrow_1.before x s = true) : (Cond.arrayOf (Term.field (Term.string "NinepinAlley$Reader" (97 : Nat)) "java/lang/String" "value" "[B") FieldType.byte).before x s = true := nr (nr (nr (nr (nr (nl (nr (nr (nr (h)))))))))
theorem nw_234 {x : Array Value} {s : State} (h : narrow_1.before x s = true) : (Cond.eq (Term.length (Term.field (Term.string "NinepinAlley$Reader" (97 : Nat)) "java/lang/String" "value" "[B")) (Term.int (5 : Int32))).before x s = true := nl (nl (nl (nl (nr (nr (nr (nr (h))))))))
theorem nw_235 {x : Array Value} {s : State} (h : narrow_1.before x s = true) : (Cond.eq (Term.elem (Term.field (Term.string "NinepinAlley$Reader" (97 : Nat)) "java/lang/String" "value" "[B") (Term.int (0 : Int32))) (Term.int (106 : Int32))).before x s = true := nl (nr (nl (nl (nl (nr (nr (nr (nr (h)))))))))
theorem nw_236 {x : Array Value} {s : State} (h : narrow_1.before x s = true) : (Cond.eq (Term.elem (Term.field (Term.string "NinepinAlley$Reader" (97 : Nat)) "java/lang/String" "value" "[B") (Term.int (1 : Int32))) (Term.int (111 : Int32))).before x s = true := nr (nr (nl (nl (nl (nr (nr (nr (nr (h)))))))))
theorem nw_237 {x : Array Value} {s : State} (h : narrow_1.before x s = true) : (Cond.eq (Term.elem (Term.field (Term.string "NinepinAlley$Reader" (97 : Nat)) "java/lang/String" "value" "[B") (Term.int (2 : Int32))) (Term.int (105 : Int32))).before x s = true := nl (nl (nr (nl (nl (nr (nr (nr (nr (h)))))))))
theorem nw_238 {x : Array Value} {s : State} (h : narrow_1.before x s = true) : (Cond.eq (Term.elem (Term.field (Term.string "NinepinAlley$Reader" (97 : Nat)) "java/lang/String" "value" "[B") (Term.int (3 : Int32))) (Term.int (110 : Int32))).before x s = true := nr (nl (nr (nl (nl (nr (nr (nr (nr (h)))))))))
theorem nw_239 {x : Array Value} {s : State} (h : narrow_1.before x s = true) : (Cond.eq (Term.elem (Term.field (Term.string "NinepinAlley$Reader" (97 : Nat)) "java/lang/String" "value" "[B") (Term.int (4 : Int32))) (Term.int (115 : Int32))).before x s = true := nl (nr (nr (nl (nl (nr (nr (nr (nr (h)))))))))
theorem nw_240 {x : Array Value} {s : State} (h : narrow_1.before x s = true) : (Cond.not (Cond.eq (Term.string "NinepinAlley$Reader" (61 : Nat)) (Term.string "NinepinAlley$Reader" (72 : Nat)))).before x s = true := nr (nl (nl (nr (nr (nl (nr (nl (nl (h)))))))))
theorem nw_241 {x : Array Value} {s : State} (h : narrow_1.before x s = true) : (Cond.not (Cond.eq (Term.string "NinepinAlley$Reader" (61 : Nat)) (Term.string "NinepinAlley$Reader" (76 : Nat)))).before x s = true := nl (nl (nr (nl (nl (nr (nr (nl (nl (h)))))))))
theorem nw_242 {x : Array Value} {s : State} (h : narrow_1.before x s = true) : (Cond.not (Cond.eq (Term.string "NinepinAlley$Reader" (61 : Nat)) (Term.string "NinepinAlley$Reader" (80 : Nat)))).before x s = true := nl (nr (nr (nr (nl (nr (nr (nl (nl (h)))))))))
theorem nw_243 {x : Array Value} {s : State} (h : narrow_1.before x s = true) : (Cond.not (Cond.eq (Term.string "NinepinAlley$Reader" (61 : Nat)) (Term.string "NinepinAlley$Reader" (85 : Nat)))).before x s = true := nr (nr (nl (nr (nr (nr (nr (nl (nl (h)))))))))
theorem nw_244 {x : Array Value} {s : State} (h : narrow_1.before x s = true) : (Cond.not (Cond.eq (Term.string "NinepinAlley$Reader" (61 : Nat)) (Term.string "NinepinAlley$Reader" (101 : Nat)))).before x s = true := nr (nl (nl (nr (nl (nl (nl (nr (nl (h)))))))))
theorem nw_245 {x : Array Value} {s : State} (h : narrow_1.before x s = true) : (Cond.not (Cond.eq (Term.string "NinepinAlley$Reader" (61 : Nat)) (Term.string "NinepinAlley$Reader" (89 : Nat)))).before x s = true := nl (nl (nl (nr (nr (nl (nl (nr (nl (h)))))))))
theorem nw_246 {x : Array Value} {s : State} (h : narrow_1.before x s = true) : (Cond.not (Cond.eq (Term.string "NinepinAlley$Reader" (61 : Nat)) (Term.string "NinepinAlley$Reader" (165 : Nat)))).before x s = true := nl (nr (nr (nl (nl (nr (nl (nr (nl (h)))))))))
theorem nw_247 {x : Array Value} {s : State} (h : narrow_1.before x s = true) : (Cond.not (Cond.eq (Term.string "NinepinAlley$Reader" (61 : Nat)) (Term.string "NinepinAlley$Reader" (169 : Nat)))).before x s = true := nr (nl (nr (nl (nr (nr (nl (nr (nl (h)))))))))
theorem nw_248 {x : Array Value} {s : State} (h : narrow_1.before x s = true) : (Cond.not (Cond.eq (Term.string "NinepinAlley$Reader" (61 : Nat)) (Term.string "NinepinAlley$Reader" (171 : Nat)))).before x s = true := nr (nr (nr (nl (nl (nl (nr (nr (nl (h)))))))))
theorem nw_249 {x : Array Value} {s : State} (h : narrow_1.before x s = true) : (Cond.not (Cond.eq (Term.string "NinepinAlley$Reader" (61 : Nat)) (Term.string "NinepinAlley$Reader" (173 : Nat)))).before x s = true := nr (nl (nl (nr (nr (nl (nr (nr (nl (h)))))))))
theorem nw_250 {x : Array Value} {s : State} (h : narrow_1.before x s = true) : (Cond.not (Cond.eq (Term.string "NinepinAlley$Reader" (61 : Nat)) (Term.string "NinepinAlley$Reader" (175 : Nat)))).before x s = true := nl (nl (nr (nr (nl (nr (nr (nr (nl (h)))))))))
theorem nw_251 {x : Array Value} {s : State} (h : narrow_1.before x s = true) : (Cond.not (Cond.eq (Term.string "NinepinAlley$Reader" (61 : Nat)) (Term.string "NinepinAlley$Reader" (177 : Nat)))).before x s = true := nl (nl (nl (nl (nl (nl (nl (nr (h))))))))
theorem nw_252 {x : Array Value} {s : State} (h : narrow_1.before x s = true) : (Cond.not (Cond.eq (Term.string "NinepinAlley$Reader" (61 : Nat)) (Term.string "NinepinAlley$Reader" (179 : Nat)))).before x s = true := nl (nr (nr (nl (nr (nl (nl (nl (nr (h)))))))))
theorem nw_253 {x : Array Value} {s : State} (h : narrow_1.before x s = true) : (Cond.not (Cond.eq (Term.string "NinepinAlley$Reader" (61 : Nat)) (Term.string "NinepinAlley$Reader" (181 : Nat)))).before x s = true := nr (nl (nr (nr (nl (nr (nl (nl (nr (h)))))))))
theorem nw_254 {x : Array Value} {s : State} (h : narrow_1.before x s = true) : (Cond.not (Cond.eq (Term.string "NinepinAlley$Reader" (61 : Nat)) (Term.string "NinepinAlley$Reader" (124 : Nat)))).before x s = true := nr (nl (nr (nl (nl (nl (nr (nl (nr (h)))))))))
theorem nw_255 {x : Array Value} {s : State} (h : narrow_1.before x s = true) : (Cond.not (Cond.eq (Term.string "NinepinAlley$Reader" (61 : Nat)) (Term.string "NinepinAlley$Reader" (152 : Nat)))).before x s = true := nl (nl (nr (nr (nr (nl (nr (nl (nr (h)))))))))
theorem nw_256 {x : Array Value} {s : State} (h : narrow_1.before x s = true) : (Cond.not (Cond.eq (Term.string "NinepinAlley$Reader" (61 : Nat)) (Term.string "NinepinAlley$Reader" (157 : Nat)))).before x s = true := nl (nl (nr (nl (nr (nr (nr (nl (nr (h)))))))))
theorem nw_257 {x : Array Value} {s : State} (h : narrow_1.before x s = true) : (Cond.not (Cond.eq (Term.string "NinepinAlley$Reader" (61 : Nat)) (Term.string "NinepinAlley$Reader" (150 : Nat)))).before x s = true := nr (nl (nr (nr (nl (nl (nl (nr (nr (h)))))))))
theorem nw_258 {x : Array Value} {s : State} (h : narrow_1.before x s = true) : (Cond.not (Cond.eq (Term.string "NinepinAlley$Reader" (61 : Nat)) (Term.string "NinepinAlley$Reader" (142 : Nat)))).before x s = true := nr (nr (nr (nl (nl (nr (nl (nr (nr (h)))))))))
theorem nw_259 {x : Array Value} {s : State} (h : narrow_1.before x s = true) : (Cond.not (Cond.eq (Term.string "NinepinAlley$Reader" (61 : Nat)) (Term.string "NinepinAlley$Reader" (93 : Nat)))).before x s = true := nl (nl (nl (nr (nl (nl (nr (nr (nr (h)))))))))
theorem nw_260 {x : Array Value} {s : State} (h : narrow_1.before x s = true) : (Cond.not (Cond.eq (Term.string "NinepinAlley$Reader" (61 : Nat)) (Term.string "NinepinAlley$Reader" (97 : Nat)))).before x s = true := nr (nr (nr (nl (nl (nr (nr (nr (nr (h)))))))))
theorem nw_261 {x : Array Value} {s : State} (h : narrow_1.before x s = true) : (Cond.not (Cond.eq (Term.string "NinepinAlley$Reader" (72 : Nat)) (Term.string "NinepinAlley$Reader" (76 : Nat)))).before x s = true := nr (nl (nr (nl (nl (nr (nr (nl (nl (h)))))))))
theorem nw_262 {x : Array Value} {s : State} (h : narrow_1.before x s = true) : (Cond.not (Cond.eq (Term.string "NinepinAlley$Reader" (72 : Nat)) (Term.string "NinepinAlley$Reader" (80 : Nat)))).before x s = true := nr (nr (nr (nr (nl (nr (nr (nl (nl (h)))))))))
theorem nw_263 {x : Array Value} {s : State} (h : narrow_1.before x s = true) : (Cond.not (Cond.eq (Term.string "NinepinAlley$Reader" (72 : Nat)) (Term.string "NinepinAlley$Reader" (85 : Nat)))).before x s = true := nl (nl (nr (nr (nr (nr (nr (nl (nl (h)))))))))
theorem nw_264 {x : Array Value} {s : State} (h : narrow_1.before x s = true) : (Cond.not (Cond.eq (Term.string "NinepinAlley$Reader" (72 : Nat)) (Term.string "NinepinAlley$Reader" (101 : Nat)))).before x s = true := nl (nr (nl (nr (nl (nl (nl (nr (nl (h)))))))))
theorem nw_265 {x : Array Value} {s : State} (h : narrow_1.before x s = true) : (Cond.not (Cond.eq (Term.string "NinepinAlley$Reader" (72 : Nat)) (Term.string "NinepinAlley$Reader" (89 : Nat)))).before x s = true := nr (nl (nl (nr (nr (nl (nl (nr (nl (h)))))))))
theorem nw_266 {x : Array Value} {s : State} (h : narrow_1.before x s = true) : (Cond.not (Cond.eq (Term.string "NinepinAlley$Reader" (72 : Nat)) (Term.string "NinepinAlley$Reader" (165 : Nat)))).before x s = true := nr (nr (nr (nl (nl (nr (nl (nr (nl (h)))))))))
theorem nw_267 {x : Array Value} {s : State} (h : narrow_1.before x s = true) : (Cond.not (Cond.eq (Term.string "NinepinAlley$Reader" (72 : Nat)) (Term.string "NinepinAlley$Reader" (169 : Nat)))).before x s = true := nl (nr (nr (nl (nr (nr (nl (nr (nl (h)))))))))
theorem nw_268 {x : Array Value} {s : State} (h : narrow_1.before x s = true) : (Cond.not (Cond.eq (Term.string "NinepinAlley$Reader" (72 : Nat)) (Term.string "NinepinAlley$Reader" (171 : Nat)))).before x s = true := nl (nl (nl (nr (nl (nl (nr (nr (nl (h)))))))))
theorem nw_269 {x : Array Value} {s : State} (h : narrow_1.before x s = true) : (Cond.not (Cond.eq (Term.string "NinepinAlley$Reader" (72 : Nat)) (Term.string "NinepinAlley$Reader" (173 : Nat)))).before x s = true := nl (nr (nl (nr (nr (nl (nr (nr (nl (h)))))))))
theorem nw_270 {x : Array Value} {s : State} (h : narrow_1.before x s = true) : (Cond.not (Cond.eq (Term.string "NinepinAlley$Reader" (72 : Nat)) (Term.string "NinepinAlley$Reader" (175 : Nat)))).before x s = true := nr (nl (nr (nr (nl (nr (nr (nr (nl (h)))))))))
theorem nw_271 {x : Array Value} {s : State} (h : narrow_1.before x s = true) : (Cond.not (Cond.eq (Term.string "NinepinAlley$Reader" (72 : Nat)) (Term.string "NinepinAlley$Reader" (177 : Nat)))).before x s = true := nl (nr (nl (nl (nl (nl (nl (nl (nr (h)))))))))
theorem nw_272 {x : Array Value} {s : State} (h : narrow_1.before x s = true) : (Cond.not (Cond.eq (Term.string "NinepinAlley$Reader" (72 : Nat)) (Term.string "NinepinAlley$Reader" (179 : Nat)))).before x s = true := nr (nr (nr (nl (nr (nl (nl (nl (nr (h)))))))))
theorem nw_273 {x : Array Value} {s : State} (h : narrow_1.before x s = true) : (Cond.not (Cond.eq (Term.string "NinepinAlley$Reader" (72 : Nat)) (Term.string "NinepinAlley$Reader" (181 : Nat)))).before x s = true := nl (nr (nr (nr (nl (nr (nl (nl (nr (h)))))))))
theorem nw_274 {x : Array Value} {s : State} (h : narrow_1.before x s = true) : (Cond.not (Cond.eq (Term.string "NinepinAlley$Reader" (72 : Nat)) (Term.string "NinepinAlley$Reader" (124 : Nat)))).before x s = true := nl (nr (nr (nl (nl (nl (nr (nl (nr (h)))))))))
theorem nw_275 {x : Array Value} {s : State} (h : narrow_1.before x s = true) : (Cond.not (Cond.eq (Term.string "NinepinAlley$Reader" (72 : Nat)) (Term.string "NinepinAlley$Reader" (152 : Nat)))).before x s = true := nr (nl (nr (nr (nr (nl (nr (nl (nr (h)))))))))
theorem nw_276 {x : Array Value} {s : State} (h : narrow_1.before x s = true) : (Cond.not (Cond.eq (Term.string "NinepinAlley$Reader" (72 : Nat)) (Term.string "NinepinAlley$Reader" (157 : Nat)))).before x s = true := nr (nl (nr (nl (nr (nr (nr (nl (nr (h)))))))))
theorem nw_277 {x : Array Value} {s : State} (h : narrow_1.before x s = true) : (Cond.not (Cond.eq (Term.string "NinepinAlley$Reader" (72 : Nat)) (Term.string "NinepinAlley$Reader" (150 : Nat)))).before x s = true := nl (nr (nr (nr (nl (nl (nl (nr (nr (h)))))))))
theorem nw_278 {x : Array Value} {s : State} (h : narrow_1.before x s = true) : (Cond.not (Cond.eq (Term.string "NinepinAlley$Reader" (72 : Nat)) (Term.string "NinepinAlley$Reader" (142 : Nat)))).before x s = true := nl (nl (nl (nr (nl (nr (nl (nr (nr (h)))))))))
theorem nw_279 {x : Array Value} {s : State} (h : narrow_1.before x s = true) : (Cond.not (Cond.eq (Term.string "NinepinAlley$Reader" (72 : Nat)) (Term.string "NinepinAlley$Reader" (93 : Nat)))).before x s = true := nr (nl (nl (nr (nl (nl (nr (nr (nr (h)))))))))
theorem nw_280 {x : Array Value} {s : State} (h : narrow_1.before x s = true) : (Cond.not (Cond.eq (Term.string "NinepinAlley$Reader" (72 : Nat)) (Term.string "NinepinAlley$Reader" (97 : Nat)))).before x s = true := nl (nl (nl (nr (nl (nr (nr (nr (nr (h)))))))))
theorem nw_281 {x : Array Value} {s : State} (h : narrow_1.before x s = true) : (Cond.not (Cond.eq (Term.string "NinepinAlley$Reader" (76 : Nat)) (Term.string "NinepinAlley$Reader" (80 : Nat)))).before x s = true := nl (nl (nl (nr (nr (nr (nl (nl (h))))))))
theorem nw_282 {x : Array Value} {s : State} (h : narrow_1.before x s = true) : (Cond.not (Cond.eq (Term.string "NinepinAlley$Reader" (76 : Nat)) (Term.string "NinepinAlley$Reader" (85 : Nat)))).before x s = true := nr (nl (nr (nr (nr (nr (nr (nl (nl (h)))))))))
theorem nw_283 {x : Array Value} {s : State} (h : narrow_1.before x s = true) : (Cond.not (Cond.eq (Term.string "NinepinAlley$Reader" (76 : Nat)) (Term.string "NinepinAlley$Reader" (101 : Nat)))).before x s = true := nr (nr (nl (nr (nl (nl (nl (nr (nl (h)))))))))
theorem nw_284 {x : Array Value} {s : State} (h : narrow_1.before x s = true) : (Cond.not (Cond.eq (Term.string "NinepinAlley$Reader" (76 : Nat)) (Term.string "NinepinAlley$Reader" (89 : Nat)))).before x s = true := nl (nr (nl (nr (nr (nl (nl (nr (nl (h)))))))))
theorem nw_285 {x : Array Value} {s : State} (h : narrow_1.before x s = true) : (Cond.not (Cond.eq (Term.string "NinepinAlley$Reader" (76 : Nat)) (Term.string "NinepinAlley$Reader" (165 : Nat)))).before x s = true := nl (nl (nl (nr (nl (nr (nl (nr (nl (h)))))))))
theorem nw_286 {x : Array Value} {s : State} (h : narrow_1.before x s = true) : (Cond.not (Cond.eq (Term.string "NinepinAlley$Reader" (76 : Nat)) (Term.string "NinepinAlley$Reader" (169 : Nat)))).before x s = true := nr (nr (nr (nl (nr (nr (nl (nr (nl (h)))))))))
theorem nw_287 {x : Array Value} {s : State} (h : narrow_1.before x s = true) : (Cond.not (Cond.eq (Term.string "NinepinAlley$Reader" (76 : Nat)) (Term.string "NinepinAlley$Reader" (171 : Nat)))).before x s = true := nr (nl (nl (nr (nl (nl (nr (nr (nl (h)))))))))
theorem nw_288 {x : Array Value} {s : State} (h : narrow_1.before x s = true) : (Cond.not (Cond.eq (Term.string "NinepinAlley$Reader" (76 : Nat)) (Term.string "NinepinAlley$Reader" (173 : Nat)))).before x s = true := nr (nr (nl (nr (nr (nl (nr (nr (nl (h)))))))))
theorem nw_289 {x : Array Value} {s : State} (h : narrow_1.before x s = true) : (Cond.not (Cond.eq (Term.string "NinepinAlley$Reader" (76 : Nat)) (Term.string "NinepinAlley$Reader" (175 : Nat)))).before x s = true := nl (nr (nr (nr (nl (nr (nr (nr (nl (h)))))))))
theorem nw_290 {x : Array Value} {s : State} (h : narrow_1.before x s = true) : (Cond.not (Cond.eq (Term.string "NinepinAlley$Reader" (76 : Nat)) (Term.string "NinepinAlley$Reader" (177 : Nat)))).before x s = true := nr (nr (nl (nl (nl (nl (nl (nl (nr (h)))))))))
theorem nw_291 {x : Array Value} {s : State} (h : narrow_1.before x s = true) : (Cond.not (Cond.eq (Term.string "NinepinAlley$Reader" (76 : Nat)) (Term.string "NinepinAlley$Reader" (179 : Nat)))).before x s = true := nl (nl (nl (nr (nr (nl (nl (nl (nr (h)))))))))
theorem nw_292 {x : Array Value} {s : State} (h : narrow_1.before x s = true) : (Cond.not (Cond.eq (Term.string "NinepinAlley$Reader" (76 : Nat)) (Term.string "NinepinAlley$Reader" (181 : Nat)))).before x s = true := nr (nr (nr (nr (nl (nr (nl (nl (nr (h)))))))))
theorem nw_293 {x : Array Value} {s : State} (h : narrow_1.before x s = true) : (Cond.not (Cond.eq (Term.string "NinepinAlley$Reader" (76 : Nat)) (Term.string "NinepinAlley$Reader" (124 : Nat)))).before x s = true := nr (nr (nr (nl (nl (nl (nr (nl (nr (h)))))))))
theorem nw_294 {x : Array Value} {s : State} (h : narrow_1.before x s = true) : (Cond.not (Cond.eq (Term.string "NinepinAlley$Reader" (76 : Nat)) (Term.string "NinepinAlley$Reader" (152 : Nat)))).before x s = true := nl (nr (nr (nr (nr (nl (nr (nl (nr (h)))))))))
theorem nw_295 {x : Array Value} {s : State} (h : narrow_1.before x s = true) : (Cond.not (Cond.eq (Term.string "NinepinAlley$Reader" (76 : Nat)) (Term.string "NinepinAlley$Reader" (157 : Nat)))).before x s = true := nl (nr (nr (nl (nr (nr (nr (nl (nr (h)))))))))
theorem nw_296 {x : Array Value} {s : State} (h : narrow_1.before x s = true) : (Cond.not (Cond.eq (Term.string "NinepinAlley$Reader" (76 : Nat)) (Term.string "NinepinAlley$Reader" (150 : Nat)))).before x s = true := nr (nr (nr (nr (nl (nl (nl (nr (nr (h)))))))))
theorem nw_297 {x : Array Value} {s : State} (h : narrow_1.before x s = true) : (Cond.not (Cond.eq (Term.string "NinepinAlley$Reader" (76 : Nat)) (Term.string "NinepinAlley$Reader" (142 : Nat)))).before x s = true := nr (nl (nl (nr (nl (nr (nl (nr (nr (h)))))))))
theorem nw_298 {x : Array Value} {s : State} (h : narrow_1.before x s = true) : (Cond.not (Cond.eq (Term.string "NinepinAlley$Reader" (76 : Nat)) (Term.string "NinepinAlley$Reader" (93 : Nat)))).before x s = true := nl (nr (nl (nr (nl (nl (nr (nr (nr (h)))))))))
theorem nw_299 {x : Array Value} {s : State} (h : narrow_1.before x s = true) : (Cond.not (Cond.eq (Term.string "NinepinAlley$Reader" (76 : Nat)) (Term.string "NinepinAlley$Reader" (97 : Nat)))).before x s = true := nr (nl (nl (nr (nl (nr (nr (nr (nr (h)))))))))
theorem nw_300 {x : Array Value} {s : State} (h : narrow_1.before x s = true) : (Cond.not (Cond.eq (Term.string "NinepinAlley$Reader" (80 : Nat)) (Term.string "NinepinAlley$Reader" (85 : Nat)))).before x s = true := nl (nr (nr (nr (nr (nr (nr (nl (nl (h)))))))))
theorem nw_301 {x : Array Value} {s : State} (h : narrow_1.before x s = true) : (Cond.not (Cond.eq (Term.string "NinepinAlley$Reader" (80 : Nat)) (Term.string "NinepinAlley$Reader" (101 : Nat)))).before x s = true := nl (nl (nr (nr (nl (nl (nl (nr (nl (h)))))))))
theorem nw_302 {x : Array Value} {s : State} (h : narrow_1.before x s = true) : (Cond.not (Cond.eq (Term.string "NinepinAlley$Reader" (80 : Nat)) (Term.string "NinepinAlley$Reader" (89 : Nat)))).before x s = true := nr (nr (nl (nr (nr (nl (nl (nr (nl (h)))))))))
theorem nw_303 {x : Array Value} {s : State} (h : narrow_1.before x s = true) : (Cond.not (Cond.eq (Term.string "NinepinAlley$Reader" (80 : Nat)) (Term.string "NinepinAlley$Reader" (165 : Nat)))).before x s = true := nr (nl (nl (nr (nl (nr (nl (nr (nl (h)))))))))
theorem nw_304 {x : Array Value} {s : State} (h : narrow_1.before x s = true) : (Cond.not (Cond.eq (Term.string "NinepinAlley$Reader" (80 : Nat)) (Term.string "NinepinAlley$Reader" (169 : Nat)))).before x s = true := nl (nl (nl (nr (nr (nr (nl (nr (nl (h)))))))))
theorem nw_305 {x : Array Value} {s : State} (h : narrow_1.before x s = true) : (Cond.not (Cond.eq (Term.string "NinepinAlley$Reader" (80 : Nat)) (Term.string "NinepinAlley$Reader" (171 : Nat)))).before x s = true := nl (nr (nl (nr (nl (nl (nr (nr (nl (h)))))))))
theorem nw_306 {x : Array Value} {s : State} (h : narrow_1.before x s = true) : (Cond.not (Cond.eq (Term.string "NinepinAlley$Reader" (80 : Nat)) (Term.string "NinepinAlley$Reader" (173 : Nat)))).before x s = true := nl (nl (nr (nr (nr (nl (nr (nr (nl (h)))))))))
theorem nw_307 {x : Array Value} {s : State} (h : narrow_1.before x s = true) : (Cond.not (Cond.eq (Term.string "NinepinAlley$Reader" (80 : Nat)) (Term.string "NinepinAlley$Reader" (175 : Nat)))).before x s = true := nr (nr (nr (nr (nl (nr (nr (nr (nl (h)))))))))
theorem nw_308 {x : Array Value} {s : State} (h : narrow_1.before x s = true) : (Cond.not (Cond.eq (Term.string "NinepinAlley$Reader" (80 : Nat)) (Term.string "NinepinAlley$Reader" (177 : Nat)))).before x s = true := nl (nl (nr (nl (nl (nl (nl (nl (nr (h)))))))))
theorem nw_309 {x : Array Value} {s : State} (h : narrow_1.before x s = true) : (Cond.not (Cond.eq (Term.string "NinepinAlley$Reader" (80 : Nat)) (Term.string "NinepinAlley$Reader" (179 : Nat)))).before x s = true := nr (nl (nl (nr (nr (nl (nl (nl (nr (h)))))))))
theorem nw_310 {x : Array Value} {s : State} (h : narrow_1.before x s = true) : (Cond.not (Cond.eq (Term.string "NinepinAlley$Reader" (80 : Nat)) (Term.string "NinepinAlley$Reader" (181 : Nat)))).before x s = true := nl (nl (nl (nr (nr (nl (nl (nr (h))))))))
theorem nw_311 {x : Array Value} {s : State} (h : narrow_1.before x s = true) : (Cond.not (Cond.eq (Term.string "NinepinAlley$Reader" (80 : Nat)) (Term.string "NinepinAlley$Reader" (124 : Nat)))).before x s = true := nl (nl (nl (nr (nl (nl (nr (nl (nr (h)))))))))
theorem nw_312 {x : Array Value} {s : State} (h : narrow_1.before x s = true) : (Cond.not (Cond.eq (Term.string "NinepinAlley$Reader" (80 : Nat)) (Term.string "NinepinAlley$Reader" (152 : Nat)))).before x s = true := nr (nr (nr (nr (nr (nl (nr (nl (nr (h)))))))))
theorem nw_313 {x : Array Value} {s : State} (h : narrow_1.before x s = true) : (Cond.not (Cond.eq (Term.string "NinepinAlley$Reader" (80 : Nat)) (Term.string "NinepinAlley$Reader" (157 : Nat)))).before x s = true := nr (nr (nr (nl (nr (nr (nr (nl (nr (h)))))))))
theorem nw_314 {x : Array Value} {s : State} (h : narrow_1.before x s = true) : (Cond.not (Cond.eq (Term.string "NinepinAlley$Reader" (80 : Nat)) (Term.string "NinepinAlley$Reader" (150 : Nat)))).before x s = true := nl (nl (nl (nr (nl (nl (nr (nr (h))))))))
theorem nw_315 {x : Array Value} {s : State} (h : narrow_1.before x s = true) : (Cond.not (Cond.eq (Term.string "NinepinAlley$Reader" (80 : Nat)) (Term.string "NinepinAlley$Reader" (142 : Nat)))).before x s = true := nl (nr (nl (nr (nl (nr (nl (nr (nr (h)))))))))
theorem nw_316 {x : Array Value} {s : State} (h : narrow_1.before x s = true) : (Cond.not (Cond.eq (Term.string "NinepinAlley$Reader" (80 : Nat)) (Term.string "NinepinAlley$Reader" (93 : Nat)))).before x s = true := nr (nr (nl (nr (nl (nl (nr (nr (nr (h)))))))))
theorem nw_317 {x : Array Value} {s : State} (h : narrow_1.before x s = true) : (Cond.not (Cond.eq (Term.string "NinepinAlley$Reader" (80 : Nat)) (Term.string "NinepinAlley$Reader" (97 : Nat)))).before x s = true := nl (nr (nl (nr (nl (nr (nr (nr (nr (h)))))))))
theorem nw_318 {x : Array Value} {s : State} (h : narrow_1.before x s = true) : (Cond.not (Cond.eq (Term.string "NinepinAlley$Reader" (85 : Nat)) (Term.string "NinepinAlley$Reader" (101 : Nat)))).before x s = true := nr (nl (nr (nr (nl (nl (nl (nr (nl (h)))))))))
theorem nw_319 {x : Array Value} {s : State} (h : narrow_1.before x s = true) : (Cond.not (Cond.eq (Term.string "NinepinAlley$Reader" (85 : Nat)) (Term.string "NinepinAlley$Reader" (89 : Nat)))).before x s = true := nl (nl (nr (nr (nr (nl (nl (nr (nl (h)))))))))
theorem nw_320 {x : Array Value} {s : State} (h : narrow_1.before x s = true) : (Cond.not (Cond.eq (Term.string "NinepinAlley$Reader" (85 : Nat)) (Term.string "NinepinAlley$Reader" (165 : Nat)))).before x s = true := nl (nr (nl (nr (nl (nr (nl (nr (nl (h)))))))))
theorem nw_321 {x : Array Value} {s : State} (h : narrow_1.before x s = true) : (Cond.not (Cond.eq (Term.string "NinepinAlley$Reader" (85 : Nat)) (Term.string "NinepinAlley$Reader" (169 : Nat)))).before x s = true := nr (nl (nl (nr (nr (nr (nl (nr (nl (h)))))))))
theorem nw_322 {x : Array Value} {s : State} (h : narrow_1.before x s = true) : (Cond.not (Cond.eq (Term.string "NinepinAlley$Reader" (85 : Nat)) (Term.string "NinepinAlley$Reader" (171 : Nat)))).before x s = true := nr (nr (nl (nr (nl (nl (nr (nr (nl (h)))))))))
theorem nw_323 {x : Array Value} {s : State} (h : narrow_1.before x s = true) : (Cond.not (Cond.eq (Term.string "NinepinAlley$Reader" (85 : Nat)) (Term.string "NinepinAlley$Reader" (173 : Nat)))).before x s = true := nr (nl (nr (nr (nr (nl (nr (nr (nl (h)))))))))
theorem nw_324 {x : Array Value} {s : State} (h : narrow_1.before x s = true) : (Cond.not (Cond.eq (Term.string "NinepinAlley$Reader" (85 : Nat)) (Term.string "NinepinAlley$Reader" (175 : Nat)))).before x s = true := nl (nl (nl (nl (nr (nr (nr (nr (nl (h)))))))))
theorem nw_325 {x : Array Value} {s : State} (h : narrow_1.before x s = true) : (Cond.not (Cond.eq (Term.string "NinepinAlley$Reader" (85 : Nat)) (Term.string "NinepinAlley$Reader" (177 : Nat)))).before x s = true := nr (nl (nr (nl (nl (nl (nl (nl (nr (h)))))))))
theorem nw_326 {x : Array Value} {s : State} (h : narrow_1.before x s = true) : (Cond.not (Cond.eq (Term.string "NinepinAlley$Reader" (85 : Nat)) (Term.string "NinepinAlley$Reader" (179 : Nat)))).before x s = true := nl (nr (nl (nr (nr (nl (nl (nl (nr (h)))))))))
theorem nw_327 {x : Array Value} {s : State} (h : narrow_1.before x s = true) : (Cond.not (Cond.eq (Term.string "NinepinAlley$Reader" (85 : Nat)) (Term.string "NinepinAlley$Reader" (181 : Nat)))).before x s = true := nl (nr (nl (nl (nr (nr (nl (nl (nr (h)))))))))
theorem nw_328 {x : Array Value} {s : State} (h : narrow_1.before x s = true) : (Cond.not (Cond.eq (Term.string "NinepinAlley$Reader" (85 : Nat)) (Term.string "NinepinAlley$Reader" (124 : Nat)))).before x s = true := nr (nl (nl (nr (nl (nl (nr (nl (nr (h)))))))))
theorem nw_329 {x : Array Value} {s : State} (h : narrow_1.before x s = true) : (Cond.not (Cond.eq (Term.string "NinepinAlley$Reader" (85 : Nat)) (Term.string "NinepinAlley$Reader" (152 : Nat)))).before x s = true := nl (nl (nl (nl (nr (nr (nl (nr (h))))))))
theorem nw_330 {x : Array Value} {s : State} (h : narrow_1.before x s = true) : (Cond.not (Cond.eq (Term.string "NinepinAlley$Reader" (85 : Nat)) (Term.string "NinepinAlley$Reader" (157 : Nat)))).before x s = true := nl (nl (nl (nr (nr (nr (nr (nl (nr (h)))))))))
theorem nw_331 {x : Array Value} {s : State} (h : narrow_1.before x s = true) : (Cond.not (Cond.eq (Term.string "NinepinAlley$Reader" (85 : Nat)) (Term.string "NinepinAlley$Reader" (150 : Nat)))).before x s = true := nl (nr (nl (nl (nr (nl (nl (nr (nr (h)))))))))
theorem nw_332 {x : Array Value} {s : State} (h : narrow_1.before x s = true) : (Cond.not (Cond.eq (Term.string "NinepinAlley$Reader" (85 : Nat)) (Term.string "NinepinAlley$Reader" (142 : Nat)))).before x s = true := nr (nr (nl (nr (nl (nr (nl (nr (nr (h)))))))))
theorem nw_333 {x : Array Value} {s : State} (h : narrow_1.before x s = true) : (Cond.not (Cond.eq (Term.string "NinepinAlley$Reader" (85 : Nat)) (Term.string "NinepinAlley$Reader" (93 : Nat)))).before x s = true := nl (nl (nr (nr (nl (nl (nr (nr (nr (h)))))))))
theorem nw_334 {x : Array Value} {s : State} (h : narrow_1.before x s = true) : (Cond.not (Cond.eq (Term.string "NinepinAlley$Reader" (85 : Nat)) (Term.string "NinepinAlley$Reader" (97 : Nat)))).before x s = true := nr (nr (nl (nr (nl (nr (nr (nr (nr (h)))))))))
theorem nw_335 {x : Array Value} {s : State} (h : narrow_1.before x s = true) : (Cond.not (Cond.eq (Term.string "NinepinAlley$Reader" (101 : Nat)) (Term.string "NinepinAlley$Reader" (89 : Nat)))).before x s = true := nr (nl (nr (nr (nr (nl (nl (nr (nl (h)))))))))
theorem nw_336 {x : Array Value} {s : State} (h : narrow_1.before x s = true) : (Cond.not (Cond.eq (Term.string "NinepinAlley$Reader" (101 : Nat)) (Term.string "NinepinAlley$Reader" (165 : Nat)))).before x s = true := nr (nr (nl (nr (nl (nr (nl (nr (nl (h)))))))))
theorem nw_337 {x : Array Value} {s : State} (h : narrow_1.before x s = true) : (Cond.not (Cond.eq (Term.string "NinepinAlley$Reader" (101 : Nat)) (Term.string "NinepinAlley$Reader" (169 : Nat)))).before x s = true := nl (nr (nl (nr (nr (nr (nl (nr (nl (h)))))))))
theorem nw_338 {x : Array Value} {s : State} (h : narrow_1.before x s = true) : (Cond.not (Cond.eq (Term.string "NinepinAlley$Reader" (101 : Nat)) (Term.string "NinepinAlley$Reader" (171 : Nat)))).before x s = true := nl (nl (nr (nr (nl (nl (nr (nr (nl (h)))))))))
theorem nw_339 {x : Array Value} {s : State} (h : narrow_1.before x s = true) : (Cond.not (Cond.eq (Term.string "NinepinAlley$Reader" (101 : Nat)) (Term.string "NinepinAlley$Reader" (173 : Nat)))).before x s = true := nl (nr (nr (nr (nr (nl (nr (nr (nl (h)))))))))
theorem nw_340 {x : Array Value} {s : State} (h : narrow_1.before x s = true) : (Cond.not (Cond.eq (Term.string "NinepinAlley$Reader" (101 : Nat)) (Term.string "NinepinAlley$Reader" (175 : Nat)))).before x s = true := nr (nl (nl (nl (nr (nr (nr (nr (nl (h)))))))))
theorem nw_341 {x : Array Value} {s : State} (h : narrow_1.before x s = true) : (Cond.not (Cond.eq (Term.string "NinepinAlley$Reader" (101 : Nat)) (Term.string "NinepinAlley$Reader" (177 : Nat)))).before x s = true := nl (nr (nr (nl (nl (nl (nl (nl (nr (h)))))))))
theorem nw_342 {x : Array Value} {s : State} (h : narrow_1.before x s = true) : (Cond.not (Cond.eq (Term.string "NinepinAlley$Reader" (101 : Nat)) (Term.string "NinepinAlley$Reader" (179 : Nat)))).before x s = true := nr (nr (nl (nr (nr (nl (nl (nl (nr (h)))))))))
theorem nw_343 {x : Array Value} {s : State} (h : narrow_1.before x s = true) : (Cond.not (Cond.eq (Term.string "NinepinAlley$Reader" (101 : Nat)) (Term.string "NinepinAlley$Reader" (181 : Nat)))).before x s = true := nr (nr (nl (nl (nr (nr (nl (nl (nr (h)))))))))
theorem nw_344 {x : Array Value} {s : State} (h : narrow_1.before x s = true) : (Cond.not (Cond.eq (Term.string "NinepinAlley$Reader" (101 : Nat)) (Term.string "NinepinAlley$Reader" (124 : Nat)))).before x s = true := nl (nr (nl (nr (nl (nl (nr (nl (nr (h)))))))))
theorem nw_345 {x : Array Value} {s : State} (h : narrow_1.before x s = true) : (Cond.not (Cond.eq (Term.string "NinepinAlley$Reader" (101 : Nat)) (Term.string "NinepinAlley$Reader" (152 : Nat)))).before x s = true := nl (nr (nl (nl (nl (nr (nr (nl (nr (h)))))))))
theorem nw_346 {x : Array Value} {s : State} (h : narrow_1.before x s = true) : (Cond.not (Cond.eq (Term.string "NinepinAlley$Reader" (101 : Nat)) (Term.string "NinepinAlley$Reader" (157 : Nat)))).before x s = true := nr (nl (nl (nr (nr (nr (nr (nl (nr (h)))))))))
theorem nw_347 {x : Array Value} {s : State} (h : narrow_1.before x s = true) : (Cond.not (Cond.eq (Term.string "NinepinAlley$Reader" (101 : Nat)) (Term.string "NinepinAlley$Reader" (150 : Nat)))).before x s = true := nr (nr (nl (nl (nr (nl (nl (nr (nr (h)))))))))
theorem nw_348 {x : Array Value} {s : State} (h : narrow_1.before x s = true) : (Cond.not (Cond.eq (Term.string "NinepinAlley$Reader" (101 : Nat)) (Term.string "NinepinAlley$Reader" (142 : Nat)))).before x s = true := nl (nl (nr (nr (nl (nr (nl (nr (nr (h)))))))))
theorem nw_349 {x : Array Value} {s : State} (h : narrow_1.before x s = true) : (Cond.not (Cond.eq (Term.string "NinepinAlley$Reader" (101 : Nat)) (Term.string "NinepinAlley$Reader" (93 : Nat)))).before x s = true := nr (nl (nr (nr (nl (nl (nr (nr (nr (h)))))))))
theorem nw_350 {x : Array Value} {s : State} (h : narrow_1.before x s = true) : (Cond.not (Cond.eq (Term.string "NinepinAlley$Reader" (101 : Nat)) (Term.string "NinepinAlley$Reader" (97 : Nat)))).before x s = true := nl (nl (nr (nr (nl (nr (nr (nr (nr (h)))))))))
theorem nw_351 {x : Array Value} {s : State} (h : narrow_1.before x s = true) : (Cond.not (Cond.eq (Term.string "NinepinAlley$Reader" (89 : Nat)) (Term.string "NinepinAlley$Reader" (165 : Nat)))).before x s = true := nl (nl (nr (nr (nl (nr (nl (nr (nl (h)))))))))
theorem nw_352 {x : Array Value} {s : State} (h : narrow_1.before x s = true) : (Cond.not (Cond.eq (Term.string "NinepinAlley$Reader" (89 : Nat)) (Term.string "NinepinAlley$Reader" (169 : Nat)))).before x s = true := nr (nr (nl (nr (nr (nr (nl (nr (nl (h)))))))))
theorem nw_353 {x : Array Value} {s : State} (h : narrow_1.before x s = true) : (Cond.not (Cond.eq (Term.string "NinepinAlley$Reader" (89 : Nat)) (Term.string "NinepinAlley$Reader" (171 : Nat)))).before x s = true := nr (nl (nr (nr (nl (nl (nr (nr (nl (h)))))))))
theorem nw_354 {x : Array Value} {s : State} (h : narrow_1.before x s = true) : (Cond.not (Cond.eq (Term.string "NinepinAlley$Reader" (89 : Nat)) (Term.string "NinepinAlley$Reader" (173 : Nat)))).before x s = true := nr (nr (nr (nr (nr (nl (nr (nr (nl (h)))))))))
theorem nw_355 {x : Array Value} {s : State} (h : narrow_1.before x s = true) : (Cond.not (Cond.eq (Term.string "NinepinAlley$Reader" (89 : Nat)) (Term.string "NinepinAlley$Reader" (175 : Nat)))).before x s = true := nl (nr (nl (nl (nr (nr (nr (nr (nl (h)))))))))
theorem nw_356 {x : Array Value} {s : State} (h : narrow_1.before x s = true) : (Cond.not (Cond.eq (Term.string "NinepinAlley$Reader" (89 : Nat)) (Term.string "NinepinAlley$Reader" (177 : Nat)))).before x s = true := nr (nr (nr (nl (nl (nl (nl (nl (nr (h)))))))))
theorem nw_357 {x : Array Value} {s : State} (h : narrow_1.before x s = true) : (Cond.not (Cond.eq (Term.string "NinepinAlley$Reader" (89 : Nat)) (Term.string "NinepinAlley$Reader" (179 : Nat)))).before x s = true := nl (nl (nr (nr (nr (nl (nl (nl (nr (h)))))))))
theorem nw_358 {x : Array Value} {s : State} (h : narrow_1.before x s = true) : (Cond.not (Cond.eq (Term.string "NinepinAlley$Reader" (89 : Nat)) (Term.string "NinepinAlley$Reader" (181 : Nat)))).before x s = true := nl (nl (nr (nl (nr (nr (nl (nl (nr (h)))))))))
theorem nw_359 {x : Array Value} {s : State} (h : narrow_1.before x s = true) : (Cond.not (Cond.eq (Term.string "NinepinAlley$Reader" (89 : Nat)) (Term.string "NinepinAlley$Reader" (124 : Nat)))).before x s = true := nr (nr (nl (nr (nl (nl (nr (nl (nr (h)))))))))
theorem nw_360 {x : Array Value} {s : State} (h : narrow_1.before x s = true) : (Cond.not (Cond.eq (Term.string "NinepinAlley$Reader" (89 : Nat)) (Term.string "NinepinAlley$Reader" (152 : Nat)))).before x s = true := nr (nr (nl (nl (nl (nr (nr (nl (nr (h)))))))))
theorem nw_361 {x : Array Value} {s : State} (h : narrow_1.before x s = true) : (Cond.not (Cond.eq (Term.string "NinepinAlley$Reader" (89 : Nat)) (Term.string "NinepinAlley$Reader" (157 : Nat)))).before x s = true := nl (nr (nl (nr (nr (nr (nr (nl (nr (h)))))))))
theorem nw_362 {x : Array Value} {s : State} (h : narrow_1.before x s = true) : (Cond.not (Cond.eq (Term.string "NinepinAlley$Reader" (89 : Nat)) (Term.string "NinepinAlley$Reader" (150 : Nat)))).before x s = true := nl (nl (nr (nl (nr (nl (nl (nr (nr (h)))))))))
theorem nw_363 {x : Array Value} {s : State} (h : narrow_1.before x s = true) : (Cond.not (Cond.eq (Term.string "NinepinAlley$Reader" (89 : Nat)) (Term.string "NinepinAlley$Reader" (142 : Nat)))).before x s = true := nr (nl (nr (nr (nl (nr (nl (nr (nr (h)))))))))
theorem nw_364 {x : Array Value} {s : State} (h : narrow_1.before x s = true) : (Cond.not (Cond.eq (Term.string "NinepinAlley$Reader" (89 : Nat)) (Term.string "NinepinAlley$Reader" (93 : Nat)))).before x s = true := nl (nr (nr (nr (nl (nl (nr (nr (nr (h)))))))))
theorem nw_365 {x : Array Value} {s : State} (h : narrow_1.before x s = true) : (Cond.not (Cond.eq (Term.string "NinepinAlley$Reader" (89 : Nat)) (Term.string "NinepinAlley$Reader" (97 : Nat)))).before x s = true := nr (nl (nr (nr (nl (nr (nr (nr (nr (h)))))))))
theorem nw_366 {x : Array Value} {s : State} (h : narrow_1.before x s = true) : (Cond.not (Cond.eq (Term.string "NinepinAlley$Reader" (165 : Nat)) (Term.string "NinepinAlley$Reader" (169 : Nat)))).before x s = true := nl (nl (nr (nr (nr (nr (nl (nr (nl (h)))))))))
theorem nw_367 {x : Array Value} {s : State} (h : narrow_1.before x s = true) : (Cond.not (Cond.eq (Term.string "NinepinAlley$Reader" (165 : Nat)) (Term.string "NinepinAlley$Reader" (171 : Nat)))).before x s = true := nl (nr (nr (nr (nl (nl (nr (nr (nl (h)))))))))
theorem nw_368 {x : Array Value} {s : State} (h : narrow_1.before x s = true) : (Cond.not (Cond.eq (Term.string "NinepinAlley$Reader" (165 : Nat)) (Term.string "NinepinAlley$Reader" (173 : Nat)))).before x s = true := nl (nl (nl (nl (nr (nr (nr (nl (h))))))))
theorem nw_369 {x : Array Value} {s : State} (h : narrow_1.before x s = true) : (Cond.not (Cond.eq (Term.string "NinepinAlley$Reader" (165 : Nat)) (Term.string "NinepinAlley$Reader" (175 : Nat)))).before x s = true := nr (nr (nl (nl (nr (nr (nr (nr (nl (h)))))))))
theorem nw_370 {x : Array Value} {s : State} (h : narrow_1.before x s = true) : (Cond.not (Cond.eq (Term.string "NinepinAlley$Reader" (165 : Nat)) (Term.string "NinepinAlley$Reader" (177 : Nat)))).before x s = true := nl (nl (nl (nr (nl (nl (nl (nl (nr (h)))))))))
theorem nw_371 {x : Array Value} {s : State} (h : narrow_1.before x s = true) : (Cond.not (Cond.eq (Term.string "NinepinAlley$Reader" (165 : Nat)) (Term.string "NinepinAlley$Reader" (179 : Nat)))).before x s = true := nr (nl (nr (nr (nr (nl (nl (nl (nr (h)))))))))
theorem nw_372 {x : Array Value} {s : State} (h : narrow_1.before x s = true) : (Cond.not (Cond.eq (Term.string "NinepinAlley$Reader" (165 : Nat)) (Term.string "NinepinAlley$Reader" (181 : Nat)))).before x s = true := nr (nl (nr (nl (nr (nr (nl (nl (nr (h)))))))))
theorem nw_373 {x : Array Value} {s : State} (h : narrow_1.before x s = true) : (Cond.not (Cond.eq (Term.string "NinepinAlley$Reader" (165 : Nat)) (Term.string "NinepinAlley$Reader" (124 : Nat)))).before x s = true := nl (nl (nr (nr (nl (nl (nr (nl (nr (h)))))))))
theorem nw_374 {x : Array Value} {s : State} (h : narrow_1.before x s = true) : (Cond.not (Cond.eq (Term.string "NinepinAlley$Reader" (165 : Nat)) (Term.string "NinepinAlley$Reader" (152 : Nat)))).before x s = true := nl (nl (nr (nl (nl (nr (nr (nl (nr (h)))))))))
theorem nw_375 {x : Array Value} {s : State} (h : narrow_1.before x s = true) : (Cond.not (Cond.eq (Term.string "NinepinAlley$Reader" (165 : Nat)) (Term.string "NinepinAlley$Reader" (157 : Nat)))).before x s = true := nr (nr (nl (nr (nr (nr (nr (nl (nr (h)))))))))
theorem nw_376 {x : Array Value} {s : State} (h : narrow_1.before x s = true) : (Cond.not (Cond.eq (Term.string "NinepinAlley$Reader" (165 : Nat)) (Term.string "NinepinAlley$Reader" (150 : Nat)))).before x s = true := nr (nl (nr (nl (nr (nl (nl (nr (nr (h)))))))))
theorem nw_377 {x : Array Value} {s : State} (h : narrow_1.before x s = true) : (Cond.not (Cond.eq (Term.string "NinepinAlley$Reader" (165 : Nat)) (Term.string "NinepinAlley$Reader" (142 : Nat)))).before x s = true := nl (nr (nr (nr (nl (nr (nl (nr (nr (h)))))))))
theorem nw_378 {x : Array Value} {s : State} (h : narrow_1.before x s = true) : (Cond.not (Cond.eq (Term.string "NinepinAlley$Reader" (165 : Nat)) (Term.string "NinepinAlley$Reader" (93 : Nat)))).before x s = true := nr (nr (nr (nr (nl (nl (nr (nr (nr (h)))))))))
theorem nw_379 {x : Array Value} {s : State} (h : narrow_1.before x s = true) : (Cond.not (Cond.eq (Term.string "NinepinAlley$Reader" (165 : Nat)) (Term.string "NinepinAlley$Reader" (97 : Nat)))).before x s = true := nl (nr (nr (nr (nl (nr (nr (nr (nr (h)))))))))
theorem nw_380 {x : Array Value} {s : State} (h : narrow_1.before x s = true) : (Cond.not (Cond.eq (Term.string "NinepinAlley$Reader" (169 : Nat)) (Term.string "NinepinAlley$Reader" (171 : Nat)))).before x s = true := nr (nr (nr (nr (nl (nl (nr (nr (nl (h)))))))))
theorem nw_381 {x : Array Value} {s : State} (h : narrow_1.before x s = true) : (Cond.not (Cond.eq (Term.string "NinepinAlley$Reader" (169 : Nat)) (Term.string "NinepinAlley$Reader" (173 : Nat)))).before x s = true := nl (nr (nl (nl (nl (nr (nr (nr (nl (h)))))))))
theorem nw_382 {x : Array Value} {s : State} (h : narrow_1.before x s = true) : (Cond.not (Cond.eq (Term.string "NinepinAlley$Reader" (169 : Nat)) (Term.string "NinepinAlley$Reader" (175 : Nat)))).before x s = true := nl (nl (nr (nl (nr (nr (nr (nr (nl (h)))))))))
theorem nw_383 {x : Array Value} {s : State} (h : narrow_1.before x s = true) : (Cond.not (Cond.eq (Term.string "NinepinAlley$Reader" (169 : Nat)) (Term.string "NinepinAlley$Reader" (177 : Nat)))).before x s = true := nr (nl (nl (nr (nl (nl (nl (nl (nr (h)))))))))
theorem nw_384 {x : Array Value} {s : State} (h : narrow_1.before x s = true) : (Cond.not (Cond.eq (Term.string "NinepinAlley$Reader" (169 : Nat)) (Term.string "NinepinAlley$Reader" (179 : Nat)))).before x s = true := nl (nr (nr (nr (nr (nl (nl (nl (nr (h)))))))))
theorem nw_385 {x : Array Value} {s : State} (h : narrow_1.before x s = true) : (Cond.not (Cond.eq (Term.string "NinepinAlley$Reader" (169 : Nat)) (Term.string "NinepinAlley$Reader" (181 : Nat)))).before x s = true := nl (nr (nr (nl (nr (nr (nl (nl (nr (h)))))))))
theorem nw_386 {x : Array Value} {s : State} (h : narrow_1.before x s = true) : (Cond.not (Cond.eq (Term.string "NinepinAlley$Reader" (169 : Nat)) (Term.string "NinepinAlley$Reader" (124 : Nat)))).before x s = true := nr (nl (nr (nr (nl (nl (nr (nl (nr (h)))))))))
theorem nw_387 {x : Array Value} {s : State} (h : narrow_1.before x s = true) : (Cond.not (Cond.eq (Term.string "NinepinAlley$Reader" (169 : Nat)) (Term.string "NinepinAlley$Reader" (152 : Nat)))).before x s = true := nr (nl (nr (nl (nl (nr (nr (nl (nr (h)))))))))
theorem nw_388 {x : Array Value} {s : State} (h : narrow_1.before x s = true) : (Cond.not (Cond.eq (Term.string "NinepinAlley$Reader" (169 : Nat)) (Term.string "NinepinAlley$Reader" (157 : Nat)))).before x s = true := nl (nl (nr (nr (nr (nr (nr (nl (nr (h)))))))))
theorem nw_389 {x : Array Value} {s : State} (h : narrow_1.before x s = true) : (Cond.not (Cond.eq (Term.string "NinepinAlley$Reader" (169 : Nat)) (Term.string "NinepinAlley$Reader" (150 : Nat)))).before x s = true := nl (nr (nr (nl (nr (nl (nl (nr (nr (h)))))))))
theorem nw_390 {x : Array Value} {s : State} (h : narrow_1.before x s = true) : (Cond.not (Cond.eq (Term.string "NinepinAlley$Reader" (169 : Nat)) (Term.string "NinepinAlley$Reader" (142 : Nat)))).before x s = true := nr (nr (nr (nr (nl (nr (nl (nr (nr (h)))))))))
theorem nw_391 {x : Array Value} {s : State} (h : narrow_1.before x s = true) : (Cond.not (Cond.eq (Term.string "NinepinAlley$Reader" (169 : Nat)) (Term.string "NinepinAlley$Reader" (93 : Nat)))).before x s = true := nl (nl (nl (nr (nl (nr (nr (nr (h))))))))
theorem nw_392 {x : Array Value} {s : State} (h : narrow_1.before x s = true) : (Cond.not (Cond.eq (Term.string "NinepinAlley$Reader" (169 : Nat)) (Term.string "NinepinAlley$Reader" (97 : Nat)))).before x s = true := nr (nr (nr (nr (nl (nr (nr (nr (nr (h)))))))))
theorem nw_393 {x : Array Value} {s : State} (h : narrow_1.before x s = true) : (Cond.not (Cond.eq (Term.string "NinepinAlley$Reader" (171 : Nat)) (Term.string "NinepinAlley$Reader" (173 : Nat)))).before x s = true := nr (nr (nl (nl (nl (nr (nr (nr (nl (h)))))))))
theorem nw_394 {x : Array Value} {s : State} (h : narrow_1.before x s = true) : (Cond.not (Cond.eq (Term.string "NinepinAlley$Reader" (171 : Nat)) (Term.string "NinepinAlley$Reader" (175 : Nat)))).before x s = true := nr (nl (nr (nl (nr (nr (nr (nr (nl (h)))))))))
theorem nw_395 {x : Array Value} {s : State} (h : narrow_1.before x s = true) : (Cond.not (Cond.eq (Term.string "NinepinAlley$Reader" (171 : Nat)) (Term.string "NinepinAlley$Reader" (177 : Nat)))).before x s = true := nl (nr (nl (nr (nl (nl (nl (nl (nr (h)))))))))
theorem nw_396 {x : Array Value} {s : State} (h : narrow_1.before x s = true) : (Cond.not (Cond.eq (Term.string "NinepinAlley$Reader" (171 : Nat)) (Term.string "NinepinAlley$Reader" (179 : Nat)))).before x s = true := nr (nr (nr (nr (nr (nl (nl (nl (nr (h)))))))))
theorem nw_397 {x : Array Value} {s : State} (h : narrow_1.before x s = true) : (Cond.not (Cond.eq (Term.string "NinepinAlley$Reader" (171 : Nat)) (Term.string "NinepinAlley$Reader" (181 : Nat)))).before x s = true := nr (nr (nr (nl (nr (nr (nl (nl (nr (h)))))))))
theorem nw_398 {x : Array Value} {s : State} (h : narrow_1.before x s = true) : (Cond.not (Cond.eq (Term.string "NinepinAlley$Reader" (171 : Nat)) (Term.string "NinepinAlley$Reader" (124 : Nat)))).before x s = true := nl (nr (nr (nr (nl (nl (nr (nl (nr (h)))))))))
theorem nw_399 {x : Array Value} {s : State} (h : narrow_1.before x s = true) : (Cond.not (Cond.eq (Term.string "NinepinAlley$Reader" (171 : Nat)) (Term.string "NinepinAlley$Reader" (152 : Nat)))).before x s = true := nl (nr (nr (nl (nl (nr (nr (nl (nr (h)))))))))
theorem nw_400 {x : Array Value} {s : State} (h : narrow_1.before x s = true) : (Cond.not (Cond.eq (Term.string "NinepinAlley$Reader" (171 : Nat)) (Term.string "NinepinAlley$Reader" (157 : Nat)))).before x s = true := nr (nl (nr (nr (nr (nr (nr (nl (nr (h)))))))))
theorem nw_401 {x : Array Value} {s : State} (h : narrow_1.before x s = true) : (Cond.not (Cond.eq (Term.string "NinepinAlley$Reader" (171 : Nat)) (Term.string "NinepinAlley$Reader" (150 : Nat)))).before x s = true := nr (nr (nr (nl (nr (nl (nl (nr (nr (h)))))))))
theorem nw_402 {x : Array Value} {s : State} (h : narrow_1.before x s = true) : (Cond.not (Cond.eq (Term.string "NinepinAlley$Reader" (171 : Nat)) (Term.string "NinepinAlley$Reader" (142 : Nat)))).before x s = true := nl (nl (nl (nr (nr (nl (nr (nr (h))))))))
theorem nw_403 {x : Array Value} {s : State} (h : narrow_1.before x s = true) : (Cond.not (Cond.eq (Term.string "NinepinAlley$Reader" (171 : Nat)) (Term.string "NinepinAlley$Reader" (93 : Nat)))).before x s = true := nl (nr (nl (nl (nr (nl (nr (nr (nr (h)))))))))
theorem nw_404 {x : Array Value} {s : State} (h : narrow_1.before x s = true) : (Cond.not (Cond.eq (Term.string "NinepinAlley$Reader" (171 : Nat)) (Term.string "NinepinAlley$Reader" (97 : Nat)))).before x s = true := nl (nl (nl (nl (nr (nr (nr (nr (nr (h)))))))))
theorem nw_405 {x : Array Value} {s : State} (h : narrow_1.before x s = true) : (Cond.not (Cond.eq (Term.string "NinepinAlley$Reader" (173 : Nat)) (Term.string "NinepinAlley$Reader" (175 : Nat)))).before x s = true := nl (nr (nr (nl (nr (nr (nr (nr (nl (h)))))))))
theorem nw_406 {x : Array Value} {s : State} (h : narrow_1.before x s = true) : (Cond.not (Cond.eq (Term.string "NinepinAlley$Reader" (173 : Nat)) (Term.string "NinepinAlley$Reader" (177 : Nat)))).before x s = true := nr (nr (nl (nr (nl (nl (nl (nl (nr (h)))))))))
theorem nw_407 {x : Array Value} {s : State} (h : narrow_1.before x s = true) : (Cond.not (Cond.eq (Term.string "NinepinAlley$Reader" (173 : Nat)) (Term.string "NinepinAlley$Reader" (179 : Nat)))).before x s = true := nl (nl (nl (nl (nr (nl (nl (nr (h))))))))
theorem nw_408 {x : Array Value} {s : State} (h : narrow_1.before x s = true) : (Cond.not (Cond.eq (Term.string "NinepinAlley$Reader" (173 : Nat)) (Term.string "NinepinAlley$Reader" (181 : Nat)))).before x s = true := nl (nl (nl (nr (nr (nr (nl (nl (nr (h)))))))))
theorem nw_409 {x : Array Value} {s : State} (h : narrow_1.before x s = true) : (Cond.not (Cond.eq (Term.string "NinepinAlley$Reader" (173 : Nat)) (Term.string "NinepinAlley$Reader" (124 : Nat)))).before x s = true := nr (nr (nr (nr (nl (nl (nr (nl (nr (h)))))))))
theorem nw_410 {x : Array Value} {s : State} (h : narrow_1.before x s = true) : (Cond.not (Cond.eq (Term.string "NinepinAlley$Reader" (173 : Nat)) (Term.string "NinepinAlley$Reader" (152 : Nat)))).before x s = true := nr (nr (nr (nl (nl (nr (nr (nl (nr (h)))))))))
theorem nw_411 {x : Array Value} {s : State} (h : narrow_1.before x s = true) : (Cond.not (Cond.eq (Term.string "NinepinAlley$Reader" (173 : Nat)) (Term.string "NinepinAlley$Reader" (157 : Nat)))).before x s = true := nl (nr (nr (nr (nr (nr (nr (nl (nr (h)))))))))
theorem nw_412 {x : Array Value} {s : State} (h : narrow_1.before x s = true) : (Cond.not (Cond.eq (Term.string "NinepinAlley$Reader" (173 : Nat)) (Term.string "NinepinAlley$Reader" (150 : Nat)))).before x s = true := nl (nl (nl (nr (nr (nl (nl (nr (nr (h)))))))))
theorem nw_413 {x : Array Value} {s : State} (h : narrow_1.before x s = true) : (Cond.not (Cond.eq (Term.string "NinepinAlley$Reader" (173 : Nat)) (Term.string "NinepinAlley$Reader" (142 : Nat)))).before x s = true := nl (nr (nl (nl (nr (nr (nl (nr (nr (h)))))))))
theorem nw_414 {x : Array Value} {s : State} (h : narrow_1.before x s = true) : (Cond.not (Cond.eq (Term.string "NinepinAlley$Reader" (173 : Nat)) (Term.string "NinepinAlley$Reader" (93 : Nat)))).before x s = true := nr (nr (nl (nl (nr (nl (nr (nr (nr (h)))))))))
theorem nw_415 {x : Array Value} {s : State} (h : narrow_1.before x s = true) : (Cond.not (Cond.eq (Term.string "NinepinAlley$Reader" (173 : Nat)) (Term.string "NinepinAlley$Reader" (97 : Nat)))).before x s = true := nr (nl (nl (nl (nr (nr (nr (nr (nr (h)))))))))
theorem nw_416 {x : Array Value} {s : State} (h : narrow_1.before x s = true) : (Cond.not (Cond.eq (Term.string "NinepinAlley$Reader" (175 : Nat)) (Term.string "NinepinAlley$Reader" (177 : Nat)))).before x s = true := nl (nl (nr (nr (nl (nl (nl (nl (nr (h)))))))))
theorem nw_417 {x : Array Value} {s : State} (h : narrow_1.before x s = true) : (Cond.not (Cond.eq (Term.string "NinepinAlley$Reader" (175 : Nat)) (Term.string "NinepinAlley$Reader" (179 : Nat)))).before x s = true := nl (nr (nl (nl (nl (nr (nl (nl (nr (h)))))))))
theorem nw_418 {x : Array Value} {s : State} (h : narrow_1.before x s = true) : (Cond.not (Cond.eq (Term.string "NinepinAlley$Reader" (175 : Nat)) (Term.string "NinepinAlley$Reader" (181 : Nat)))).before x s = true := nr (nl (nl (nr (nr (nr (nl (nl (nr (h)))))))))
theorem nw_419 {x : Array Value} {s : State} (h : narrow_1.before x s = true) : (Cond.not (Cond.eq (Term.string "NinepinAlley$Reader" (175 : Nat)) (Term.string "NinepinAlley$Reader" (124 : Nat)))).before x s = true := nl (nl (nl (nr (nl (nr (nl (nr (h))))))))
theorem nw_420 {x : Array Value} {s : State} (h : narrow_1.before x s = true) : (Cond.not (Cond.eq (Term.string "NinepinAlley$Reader" (175 : Nat)) (Term.string "NinepinAlley$Reader" (152 : Nat)))).before x s = true := nl (nl (nl (nr (nl (nr (nr (nl (nr (h)))))))))
theorem nw_421 {x : Array Value} {s : State} (h : narrow_1.before x s = true) : (Cond.not (Cond.eq (Term.string "NinepinAlley$Reader" (175 : Nat)) (Term.string "NinepinAlley$Reader" (157 : Nat)))).before x s = true := nr (nr (nr (nr (nr (nr (nr (nl (nr (h)))))))))
theorem nw_422 {x : Array Value} {s : State} (h : narrow_1.before x s = true) : (Cond.not (Cond.eq (Term.string "NinepinAlley$Reader" (175 : Nat)) (Term.string "NinepinAlley$Reader" (150 : Nat)))).before x s = true := nr (nl (nl (nr (nr (nl (nl (nr (nr (h)))))))))
theorem nw_423 {x : Array Value} {s : State} (h : narrow_1.before x s = true) : (Cond.not (Cond.eq (Term.string "NinepinAlley$Reader" (175 : Nat)) (Term.string "NinepinAlley$Reader" (142 : Nat)))).before x s = true := nr (nr (nl (nl (nr (nr (nl (nr (nr (h)))))))))
theorem nw_424 {x : Array Value} {s : State} (h : narrow_1.before x s = true) : (Cond.not (Cond.eq (Term.string "NinepinAlley$Reader" (175 : Nat)) (Term.string "NinepinAlley$Reader" (93 : Nat)))).before x s = true := nl (nl (nr (nl (nr (nl (nr (nr (nr (h)))))))))
theorem nw_425 {x : Array Value} {s : State} (h : narrow_1.before x s = true) : (Cond.not (Cond.eq (Term.string "NinepinAlley$Reader" (175 : Nat)) (Term.string "NinepinAlley$Reader" (97 : Nat)))).before x s = true := nl (nr (nl (nl (nr (nr (nr (nr (nr (h)))))))))
theorem nw_426 {x : Array Value} {s : State} (h : narrow_1.before x s = true) : (Cond.not (Cond.eq (Term.string "NinepinAlley$Reader" (177 : Nat)) (Term.string "NinepinAlley$Reader" (179 : Nat)))).before x s = true := nr (nr (nl (nl (nl (nr (nl (nl (nr (h)))))))))
theorem nw_427 {x : Array Value} {s : State} (h : narrow_1.before x s = true) : (Cond.not (Cond.eq (Term.string "NinepinAlley$Reader" (177 : Nat)) (Term.string "NinepinAlley$Reader" (181 : Nat)))).before x s = true := nl (nr (nl (nr (nr (nr (nl (nl (nr (h)))))))))
theorem nw_428 {x : Array Value} {s : State} (h : narrow_1.before x s = true) : (Cond.not (Cond.eq (Term.string "NinepinAlley$Reader" (177 : Nat)) (Term.string "NinepinAlley$Reader" (124 : Nat)))).before x s = true := nl (nr (nl (nl (nr (nl (nr (nl (nr (h)))))))))
theorem nw_429 {x : Array Value} {s : State} (h : narrow_1.before x s = true) : (Cond.not (Cond.eq (Term.string "NinepinAlley$Reader" (177 : Nat)) (Term.string "NinepinAlley$Reader" (152 : Nat)))).before x s = true := nr (nl (nl (nr (nl (nr (nr (nl (nr (h)))))))))
theorem nw_430 {x : Array Value} {s : State} (h : narrow_1.before x s = true) : (Cond.not (Cond.eq (Term.string "NinepinAlley$Reader" (177 : Nat)) (Term.string "NinepinAlley$Reader" (157 : Nat)))).before x s = true := nl (nl (nl (nl (nl (nl (nr (nr (h))))))))
theorem nw_431 {x : Array Value} {s : State} (h : narrow_1.before x s = true) : (Cond.not (Cond.eq (Term.string "NinepinAlley$Reader" (177 : Nat)) (Term.string "NinepinAlley$Reader" (150 : Nat)))).before x s = true := nl (nr (nl (nr (nr (nl (nl (nr (nr (h)))))))))
theorem nw_432 {x : Array Value} {s : State} (h : narrow_1.before x s = true) : (Cond.not (Cond.eq (Term.string "NinepinAlley$Reader" (177 : Nat)) (Term.string "NinepinAlley$Reader" (142 : Nat)))).before x s = true := nl (nl (nr (nl (nr (nr (nl (nr (nr (h)))))))))
theorem nw_433 {x : Array Value} {s : State} (h : narrow_1.before x s = true) : (Cond.not (Cond.eq (Term.string "NinepinAlley$Reader" (177 : Nat)) (Term.string "NinepinAlley$Reader" (93 : Nat)))).before x s = true := nr (nl (nr (nl (nr (nl (nr (nr (nr (h)))))))))
theorem nw_434 {x : Array Value} {s : State} (h : narrow_1.before x s = true) : (Cond.not (Cond.eq (Term.string "NinepinAlley$Reader" (177 : Nat)) (Term.string "NinepinAlley$Reader" (97 : Nat)))).before x s = true := nr (nr (nl (nl (nr (nr (nr (nr (nr (h)))))))))
theorem nw_435 {x : Array Value} {s : State} (h : narrow_1.before x s = true) : (Cond.not (Cond.eq (Term.string "NinepinAlley$Reader" (179 : Nat)) (Term.string "NinepinAlley$Reader" (181 : Nat)))).before x s = true := nr (nr (nl (nr (nr (nr (nl (nl (nr (h)))))))))
theorem nw_436 {x : Array Value} {s : State} (h : narrow_1.before x s = true) : (Cond.not (Cond.eq (Term.string "NinepinAlley$Reader" (179 : Nat)) (Term.string "NinepinAlley$Reader" (124 : Nat)))).before x s = true := nr (nr (nl (nl (nr (nl (nr (nl (nr (h)))))))))
theorem nw_437 {x : Array Value} {s : State} (h : narrow_1.before x s = true) : (Cond.not (Cond.eq (Term.string "NinepinAlley$Reader" (179 : Nat)) (Term.string "NinepinAlley$Reader" (152 : Nat)))).before x s = true := nl (nr (nl (nr (nl (nr (nr (nl (nr (h)))))))))
theorem nw_438 {x : Array Value} {s : State} (h : narrow_1.before x s = true) : (Cond.not (Cond.eq (Term.string "NinepinAlley$Reader" (179 : Nat)) (Term.string "NinepinAlley$Reader" (157 : Nat)))).before x s = true := nl (nr (nl (nl (nl (nl (nl (nr (nr (h)))))))))
theorem nw_439 {x : Array Value} {s : State} (h : narrow_1.before x s = true) : (Cond.not (Cond.eq (Term.string "NinepinAlley$Reader" (179 : Nat)) (Term.string "NinepinAlley$Reader" (150 : Nat)))).before x s = true := nr (nr (nl (nr (nr (nl (nl (nr (nr (h)))))))))
theorem nw_440 {x : Array Value} {s : State} (h : narrow_1.before x s = true) : (Cond.not (Cond.eq (Term.string "NinepinAlley$Reader" (179 : Nat)) (Term.string "NinepinAlley$Reader" (142 : Nat)))).before x s = true := nr (nl (nr (nl (nr (nr (nl (nr (nr (h)))))))))
theorem nw_441 {x : Array Value} {s : State} (h : narrow_1.before x s = true) : (Cond.not (Cond.eq (Term.string "NinepinAlley$Reader" (179 : Nat)) (Term.string "NinepinAlley$Reader" (93 : Nat)))).before x s = true := nl (nr (nr (nl (nr (nl (nr (nr (nr (h)))))))))
theorem nw_442 {x : Array Value} {s : State} (h : narrow_1.before x s = true) : (Cond.not (Cond.eq (Term.string "NinepinAlley$Reader" (179 : Nat)) (Term.string "NinepinAlley$Reader" (97 : Nat)))).before x s = true := nl (nl (nr (nl (nr (nr (nr (nr (nr (h)))))))))
theorem nw_443 {x : Array Value} {s : State} (h : narrow_1.before x s = true) : (Cond.not (Cond.eq (Term.string "NinepinAlley$Reader" (181 : Nat)) (Term.string "NinepinAlley$Reader" (124 : Nat)))).before x s = true := nl (nl (nr (nl (nr (nl (nr (nl (nr (h)))))))))
theorem nw_444 {x : Array Value} {s : State} (h : narrow_1.before x s = true) : (Cond.not (Cond.eq (Term.string "NinepinAlley$Reader" (181 : Nat)) (Term.string "NinepinAlley$Reader" (152 : Nat)))).before x s = true := nr (nr (nl (nr (nl (nr (nr (nl (nr (h)))))))))
theorem nw_445 {x : Array Value} {s : State} (h : narrow_1.before x s = true) : (Cond.not (Cond.eq (Term.string "NinepinAlley$Reader" (181 : Nat)) (Term.string "NinepinAlley$Reader" (157 : Nat)))).before x s = true := nr (nr (nl (nl (nl (nl (nl (nr (nr (h)))))))))
theorem nw_446 {x : Array Value} {s : State} (h : narrow_1.before x s = true) : (Cond.not (Cond.eq (Term.string "NinepinAlley$Reader" (181 : Nat)) (Term.string "NinepinAlley$Reader" (150 : Nat)))).before x s = true := nl (nl (nr (nr (nr (nl (nl (nr (nr (h)))))))))
theorem nw_447 {x : Array Value} {s : State} (h : narrow_1.before x s = true) : (Cond.not (Cond.eq (Term.string "NinepinAlley$Reader" (181 : Nat)) (Term.string "NinepinAlley$Reader" (142 : Nat)))).before x s = true := nl (nr (nr (nl (nr (nr (nl (nr (nr (h)))))))))
theorem nw_448 {x : Array Value} {s : State} (h : narrow_1.before x s = true) : (Cond.not (Cond.eq (Term.string "NinepinAlley$Reader" (181 : Nat)) (Term.string "NinepinAlley$Reader" (93 : Nat)))).before x s = true := nr (nr (nr (nl (nr (nl (nr (nr (nr (h)))))))))
theorem nw_449 {x : Array Value} {s : State} (h : narrow_1.before x s = true) : (Cond.not (Cond.eq (Term.string "NinepinAlley$Reader" (181 : Nat)) (Term.string "NinepinAlley$Reader" (97 : Nat)))).before x s = true := nr (nl (nr (nl (nr (nr (nr (nr (nr (h)))))))))
theorem nw_450 {x : Array Value} {s : State} (h : narrow_1.before x s = true) : (Cond.not (Cond.eq (Term.string "NinepinAlley$Reader" (124 : Nat)) (Term.string "NinepinAlley$Reader" (152 : Nat)))).before x s = true := nl (nl (nr (nr (nl (nr (nr (nl (nr (h)))))))))
theorem nw_451 {x : Array Value} {s : State} (h : narrow_1.before x s = true) : (Cond.not (Cond.eq (Term.string "NinepinAlley$Reader" (124 : Nat)) (Term.string "NinepinAlley$Reader" (157 : Nat)))).before x s = true := nl (nl (nr (nl (nl (nl (nl (nr (nr (h)))))))))
theorem nw_452 {x : Array Value} {s : State} (h : narrow_1.before x s = true) : (Cond.not (Cond.eq (Term.string "NinepinAlley$Reader" (124 : Nat)) (Term.string "NinepinAlley$Reader" (150 : Nat)))).before x s = true := nr (nl (nr (nr (nr (nl (nl (nr (nr (h)))))))))
theorem nw_453 {x : Array Value} {s : State} (h : narrow_1.before x s = true) : (Cond.not (Cond.eq (Term.string "NinepinAlley$Reader" (124 : Nat)) (Term.string "NinepinAlley$Reader" (142 : Nat)))).before x s = true := nr (nr (nr (nl (nr (nr (nl (nr (nr (h)))))))))
theorem nw_454 {x : Array Value} {s : State} (h : narrow_1.before x s = true) : (Cond.not (Cond.eq (Term.string "NinepinAlley$Reader" (124 : Nat)) (Term.string "NinepinAlley$Reader" (93 : Nat)))).before x s = true := nl (nl (nl (nr (nr (nl (nr (nr (nr (h)))))))))
theorem nw_455 {x : Array Value} {s : State} (h : narrow_1.before x s = true) : (Cond.not (Cond.eq (Term.string "NinepinAlley$Reader" (124 : Nat)) (Term.string "NinepinAlley$Reader" (97 : Nat)))).before x s = true := nl (nr (nr (nl (nr (nr (nr (nr (nr (h)))))))))
theorem nw_456 {x : Array Value} {s : State} (h : narrow_1.before x s = true) : (Cond.not (Cond.eq (Term.string "NinepinAlley$Reader" (152 : Nat)) (Term.string "NinepinAlley$Reader" (157 : Nat)))).before x s = true := nr (nl (nr (nl (nl (nl (nl (nr (nr (h)))))))))
theorem nw_457 {x : Array Value} {s : State} (h : narrow_1.before x s = true) : (Cond.not (Cond.eq (Term.string "NinepinAlley$Reader" (152 : Nat)) (Term.string "NinepinAlley$Reader" (150 : Nat)))).before x s = true := nl (nr (nr (nr (nr (nl (nl (nr (nr (h)))))))))
theorem nw_458 {x : Array Value} {s : State} (h : narrow_1.before x s = true) : (Cond.not (Cond.eq (Term.string "NinepinAlley$Reader" (152 : Nat)) (Term.string "NinepinAlley$Reader" (142 : Nat)))).before x s = true := nl (nl (nl (nr (nr (nr (nl (nr (nr (h)))))))))
theorem nw_459 {x : Array Value} {s : State} (h : narrow_1.before x s = true) : (Cond.not (Cond.eq (Term.string "NinepinAlley$Reader" (152 : Nat)) (Term.string "NinepinAlley$Reader" (93 : Nat)))).before x s = true := nr (nl (nl (nr (nr (nl (nr (nr (nr (h)))))))))
theorem nw_460 {x : Array Value} {s : State} (h : narrow_1.before x s = true) : (Cond.not (Cond.eq (Term.string "NinepinAlley$Reader" (152 : Nat)) (Term.string "NinepinAlley$Reader" (97 : Nat)))).before x s = true := nr (nr (nr (nl (nr (nr (nr (nr (nr (h)))))))))
theorem nw_461 {x : Array Value} {s : State} (h : narrow_1.before x s = true) : (Cond.not (Cond.eq (Term.string "NinepinAlley$Reader" (157 : Nat)) (Term.string "NinepinAlley$Reader" (150 : Nat)))).before x s = true := nr (nr (nr (nr (nr (nl (nl (nr (nr (h)))))))))
theorem nw_462 {x : Array Value} {s : State} (h : narrow_1.before x s = true) : (Cond.not (Cond.eq (Term.string "NinepinAlley$Reader" (157 : Nat)) (Term.string "NinepinAlley$Reader" (142 : Nat)))).before x s = true := nr (nl (nl (nr (nr (nr (nl (nr (nr (h)))))))))
theorem nw_463 {x : Array Value} {s : State} (h : narrow_1.before x s = true) : (Cond.not (Cond.eq (Term.string "NinepinAlley$Reader" (157 : Nat)) (Term.string "NinepinAlley$Reader" (93 : Nat)))).before x s = true := nl (nr (nl (nr (nr (nl (nr (nr (nr (h)))))))))
theorem nw_464 {x : Array Value} {s : State} (h : narrow_1.before x s = true) : (Cond.not (Cond.eq (Term.string "NinepinAlley$Reader" (157 : Nat)) (Term.string "NinepinAlley$Reader" (97 : Nat)))).before x s = true := nl (nl (nl (nr (nr (nr (nr (nr (nr (h)))))))))
theorem nw_465 {x : Array Value} {s : State} (h : narrow_1.before x s = true) : (Cond.not (Cond.eq (Term.string "NinepinAlley$Reader" (150 : Nat)) (Term.string "NinepinAlley$Reader" (142 : Nat)))).before x s = true := nl (nr (nl (nr (nr (nr (nl (nr (nr (h)))))))))
theorem nw_466 {x : Array Value} {s : State} (h : narrow_1.before x s = true) : (Cond.not (Cond.eq (Term.string "NinepinAlley$Reader" (150 : Nat)) (Term.string "NinepinAlley$Reader" (93 : Nat)))).before x s = true := nr (nr (nl (nr (nr (nl (nr (nr (nr (h)))))))))
theorem nw_467 {x : Array Value} {s : State} (h : narrow_1.before x s = true) : (Cond.not (Cond.eq (Term.string "NinepinAlley$Reader" (150 : Nat)) (Term.string "NinepinAlley$Reader" (97 : Nat)))).before x s = true := nr (nl (nl (nr (nr (nr (nr (nr (nr (h)))))))))
theorem nw_468 {x : Array Value} {s : State} (h : narrow_1.before x s = true) : (Cond.not (Cond.eq (Term.string "NinepinAlley$Reader" (142 : Nat)) (Term.string "NinepinAlley$Reader" (93 : Nat)))).before x s = true := nl (nl (nr (nr (nr (nl (nr (nr (nr (h)))))))))
theorem nw_469 {x : Array Value} {s : State} (h : narrow_1.before x s = true) : (Cond.not (Cond.eq (Term.string "NinepinAlley$Reader" (142 : Nat)) (Term.string "NinepinAlley$Reader" (97 : Nat)))).before x s = true := nl (nr (nl (nr (nr (nr (nr (nr (nr (h)))))))))
theorem nw_470 {x : Array Value} {s : State} (h : narrow_1.before x s = true) : (Cond.not (Cond.eq (Term.string "NinepinAlley$Reader" (93 : Nat)) (Term.string "NinepinAlley$Reader" (97 : Nat)))).before x s = true := nr (nr (nl (nr (nr (nr (nr (nr (nr (h)))))))))

def s_tm (i : Nat) : Term := .string "NinepinAlley$Reader" (s_tx.getD i (0, "")).1
theorem st_ex {x : Array Value} {s : State} (h0 : narrow_1.before x s = true) : ∀ i : Nat, i < 22 → (Cond.exactly (s_tm i) "java/lang/String").before x s = true
  | 0, _ => nw_57 h0
  | 1, _ => nw_65 h0
  | 2, _ => nw_75 h0
  | 3, _ => nw_84 h0
  | 4, _ => nw_92 h0
  | 5, _ => nw_101 h0
  | 6, _ => nw_110 h0
  | 7, _ => nw_119 h0
  | 8, _ => nw_126 h0
  | 9, _ => nw_133 h0
  | 10, _ => nw_142 h0
  | 11, _ => nw_150 h0
  | 12, _ => nw_158 h0
  | 13, _ => nw_167 h0
  | 14, _ => nw_175 h0
  | 15, _ => nw_184 h0
  | 16, _ => nw_192 h0
  | 17, _ => nw_199 h0
  | 18, _ => nw_206 h0
  | 19, _ => nw_213 h0
  | 20, _ => nw_219 h0
  | 21, _ => nw_231 h0
  | n + 22, h => absurd h (by omega)
theorem st_co {x : Array Value} {s : State} (h0 : narrow_1.before x s = true) : ∀ i : Nat, i < 22 → (Cond.eq (.field (s_tm i) "java/lang/String" "coder" "B") (.int 0)).before x s = true
  | 0, _ => nw_58 h0
  | 1, _ => nw_66 h0
  | 2, _ => nw_76 h0
  | 3, _ => nw_85 h0
  | 4, _ => nw_93 h0
  | 5, _ => nw_102 h0
  | 6, _ => nw_111 h0
  | 7, _ => nw_120 h0
  | 8, _ => nw_127 h0
  | 9, _ => nw_134 h0
  | 10, _ => nw_143 h0
  | 11, _ => nw_151 h0
  | 12, _ => nw_159 h0
  | 13, _ => nw_168 h0
  | 14, _ => nw_176 h0
  | 15, _ => nw_185 h0
  | 16, _ => nw_193 h0
  | 17, _ => nw_200 h0
  | 18, _ => nw_207 h0
  | 19, _ => nw_214 h0
  | 20, _ => nw_220 h0
  | 21, _ => nw_232 h0
  | n + 22, h => absurd h (by omega)
theorem st_ar {x : Array Value} {s : State} (h0 : narrow_1.before x s = true) : ∀ i : Nat, i < 22 → (Cond.arrayOf (.field (s_tm i) "java/lang/String" "value" "[B") .byte).before x s = true
  | 0, _ => nw_59 h0
  | 1, _ => nw_67 h0
  | 2, _ => nw_77 h0
  | 3, _ => nw_86 h0
  | 4, _ => nw_94 h0
  | 5, _ => nw_103 h0
  | 6, _ => nw_112 h0
  | 7, _ => nw_121 h0
  | 8, _ => nw_128 h0
  | 9, _ => nw_135 h0
  | 10, _ => nw_144 h0
  | 11, _ => nw_152 h0
  | 12, _ => nw_160 h0
  | 13, _ => nw_169 h0
  | 14, _ => nw_177 h0
  | 15, _ => nw_186 h0
  | 16, _ => nw_194 h0
  | 17, _ => nw_201 h0
  | 18, _ => nw_208 h0
  | 19, _ => nw_215 h0
  | 20, _ => nw_221 h0
  | 21, _ => nw_233 h0
  | n + 22, h => absurd h (by omega)
theorem st_le {x : Array Value} {s : State} (h0 : narrow_1.before x s = true) : ∀ i : Nat, i < 22 → (Cond.eq (.length (.field (s_tm i) "java/lang/String" "value" "[B")) (.int (Int32.ofNat (s_ln.getD i 0)))).before x s = true
  | 0, _ => nw_60 h0
  | 1, _ => nw_68 h0
  | 2, _ => nw_78 h0
  | 3, _ => nw_87 h0
  | 4, _ => nw_95 h0
  | 5, _ => nw_104 h0
  | 6, _ => nw_113 h0
  | 7, _ => nw_122 h0
  | 8, _ => nw_129 h0
  | 9, _ => nw_136 h0
  | 10, _ => nw_145 h0
  | 11, _ => nw_153 h0
  | 12, _ => nw_161 h0
  | 13, _ => nw_170 h0
  | 14, _ => nw_178 h0
  | 15, _ => nw_187 h0
  | 16, _ => nw_195 h0
  | 17, _ => nw_202 h0
  | 18, _ => nw_209 h0
  | 19, _ => nw_216 h0
  | 20, _ => nw_222 h0
  | 21, _ => nw_234 h0
  | n + 22, h => absurd h (by omega)
theorem st_el0 {x : Array Value} {s : State} (h0 : narrow_1.before x s = true) : ∀ j : Nat, j < 4 → (Cond.eq (.elem (.field (s_tm 0) "java/lang/String" "value" "[B") (.int (Int32.ofNat j))) (.int ((s_by.getD 0 []).getD j 0))).before x s = true
  | 0, _ => nw_61 h0
  | 1, _ => nw_62 h0
  | 2, _ => nw_63 h0
  | 3, _ => nw_64 h0
  | n + 4, h => absurd h (by omega)
theorem st_el1 {x : Array Value} {s : State} (h0 : narrow_1.before x s = true) : ∀ j : Nat, j < 6 → (Cond.eq (.elem (.field (s_tm 1) "java/lang/String" "value" "[B") (.int (Int32.ofNat j))) (.int ((s_by.getD 1 []).getD j 0))).before x s = true
  | 0, _ => nw_69 h0
  | 1, _ => nw_70 h0
  | 2, _ => nw_71 h0
  | 3, _ => nw_72 h0
  | 4, _ => nw_73 h0
  | 5, _ => nw_74 h0
  | n + 6, h => absurd h (by omega)
theorem st_el2 {x : Array Value} {s : State} (h0 : narrow_1.before x s = true) : ∀ j : Nat, j < 5 → (Cond.eq (.elem (.field (s_tm 2) "java/lang/String" "value" "[B") (.int (Int32.ofNat j))) (.int ((s_by.getD 2 []).getD j 0))).before x s = true
  | 0, _ => nw_79 h0
  | 1, _ => nw_80 h0
  | 2, _ => nw_81 h0
  | 3, _ => nw_82 h0
  | 4, _ => nw_83 h0
  | n + 5, h => absurd h (by omega)
theorem st_el3 {x : Array Value} {s : State} (h0 : narrow_1.before x s = true) : ∀ j : Nat, j < 4 → (Cond.eq (.elem (.field (s_tm 3) "java/lang/String" "value" "[B") (.int (Int32.ofNat j))) (.int ((s_by.getD 3 []).getD j 0))).before x s = true
  | 0, _ => nw_88 h0
  | 1, _ => nw_89 h0
  | 2, _ => nw_90 h0
  | 3, _ => nw_91 h0
  | n + 4, h => absurd h (by omega)
theorem st_el4 {x : Array Value} {s : State} (h0 : narrow_1.before x s = true) : ∀ j : Nat, j < 5 → (Cond.eq (.elem (.field (s_tm 4) "java/lang/String" "value" "[B") (.int (Int32.ofNat j))) (.int ((s_by.getD 4 []).getD j 0))).before x s = true
  | 0, _ => nw_96 h0
  | 1, _ => nw_97 h0
  | 2, _ => nw_98 h0
  | 3, _ => nw_99 h0
  | 4, _ => nw_100 h0
  | n + 5, h => absurd h (by omega)
theorem st_el5 {x : Array Value} {s : State} (h0 : narrow_1.before x s = true) : ∀ j : Nat, j < 5 → (Cond.eq (.elem (.field (s_tm 5) "java/lang/String" "value" "[B") (.int (Int32.ofNat j))) (.int ((s_by.getD 5 []).getD j 0))).before x s = true
  | 0, _ => nw_105 h0
  | 1, _ => nw_106 h0
  | 2, _ => nw_107 h0
  | 3, _ => nw_108 h0
  | 4, _ => nw_109 h0
  | n + 5, h => absurd h (by omega)
theorem st_el6 {x : Array Value} {s : State} (h0 : narrow_1.before x s = true) : ∀ j : Nat, j < 5 → (Cond.eq (.elem (.field (s_tm 6) "java/lang/String" "value" "[B") (.int (Int32.ofNat j))) (.int ((s_by.getD 6 []).getD j 0))).before x s = true
  | 0, _ => nw_114 h0
  | 1, _ => nw_115 h0
  | 2, _ => nw_116 h0
  | 3, _ => nw_117 h0
  | 4, _ => nw_118 h0
  | n + 5, h => absurd h (by omega)
theorem st_el7 {x : Array Value} {s : State} (h0 : narrow_1.before x s = true) : ∀ j : Nat, j < 3 → (Cond.eq (.elem (.field (s_tm 7) "java/lang/String" "value" "[B") (.int (Int32.ofNat j))) (.int ((s_by.getD 7 []).getD j 0))).before x s = true
  | 0, _ => nw_123 h0
  | 1, _ => nw_124 h0
  | 2, _ => nw_125 h0
  | n + 3, h => absurd h (by omega)
theorem st_el8 {x : Array Value} {s : State} (h0 : narrow_1.before x s = true) : ∀ j : Nat, j < 3 → (Cond.eq (.elem (.field (s_tm 8) "java/lang/String" "value" "[B") (.int (Int32.ofNat j))) (.int ((s_by.getD 8 []).getD j 0))).before x s = true
  | 0, _ => nw_130 h0
  | 1, _ => nw_131 h0
  | 2, _ => nw_132 h0
  | n + 3, h => absurd h (by omega)
theorem st_el9 {x : Array Value} {s : State} (h0 : narrow_1.before x s = true) : ∀ j : Nat, j < 5 → (Cond.eq (.elem (.field (s_tm 9) "java/lang/String" "value" "[B") (.int (Int32.ofNat j))) (.int ((s_by.getD 9 []).getD j 0))).before x s = true
  | 0, _ => nw_137 h0
  | 1, _ => nw_138 h0
  | 2, _ => nw_139 h0
  | 3, _ => nw_140 h0
  | 4, _ => nw_141 h0
  | n + 5, h => absurd h (by omega)
theorem st_el10 {x : Array Value} {s : State} (h0 : narrow_1.before x s = true) : ∀ j : Nat, j < 4 → (Cond.eq (.elem (.field (s_tm 10) "java/lang/String" "value" "[B") (.int (Int32.ofNat j))) (.int ((s_by.getD 10 []).getD j 0))).before x s = true
  | 0, _ => nw_146 h0
  | 1, _ => nw_147 h0
  | 2, _ => nw_148 h0
  | 3, _ => nw_149 h0
  | n + 4, h => absurd h (by omega)
theorem st_el11 {x : Array Value} {s : State} (h0 : narrow_1.before x s = true) : ∀ j : Nat, j < 4 → (Cond.eq (.elem (.field (s_tm 11) "java/lang/String" "value" "[B") (.int (Int32.ofNat j))) (.int ((s_by.getD 11 []).getD j 0))).before x s = true
  | 0, _ => nw_154 h0
  | 1, _ => nw_155 h0
  | 2, _ => nw_156 h0
  | 3, _ => nw_157 h0
  | n + 4, h => absurd h (by omega)
theorem st_el12 {x : Array Value} {s : State} (h0 : narrow_1.before x s = true) : ∀ j : Nat, j < 5 → (Cond.eq (.elem (.field (s_tm 12) "java/lang/String" "value" "[B") (.int (Int32.ofNat j))) (.int ((s_by.getD 12 []).getD j 0))).before x s = true
  | 0, _ => nw_162 h0
  | 1, _ => nw_163 h0
  | 2, _ => nw_164 h0
  | 3, _ => nw_165 h0
  | 4, _ => nw_166 h0
  | n + 5, h => absurd h (by omega)
theorem st_el13 {x : Array Value} {s : State} (h0 : narrow_1.before x s = true) : ∀ j : Nat, j < 4 → (Cond.eq (.elem (.field (s_tm 13) "java/lang/String" "value" "[B") (.int (Int32.ofNat j))) (.int ((s_by.getD 13 []).getD j 0))).before x s = true
  | 0, _ => nw_171 h0
  | 1, _ => nw_172 h0
  | 2, _ => nw_173 h0
  | 3, _ => nw_174 h0
  | n + 4, h => absurd h (by omega)
theorem st_el14 {x : Array Value} {s : State} (h0 : narrow_1.before x s = true) : ∀ j : Nat, j < 5 → (Cond.eq (.elem (.field (s_tm 14) "java/lang/String" "value" "[B") (.int (Int32.ofNat j))) (.int ((s_by.getD 14 []).getD j 0))).before x s = true
  | 0, _ => nw_179 h0
  | 1, _ => nw_180 h0
  | 2, _ => nw_181 h0
  | 3, _ => nw_182 h0
  | 4, _ => nw_183 h0
  | n + 5, h => absurd h (by omega)
theorem st_el15 {x : Array Value} {s : State} (h0 : narrow_1.before x s = true) : ∀ j : Nat, j < 4 → (Cond.eq (.elem (.field (s_tm 15) "java/lang/String" "value" "[B") (.int (Int32.ofNat j))) (.int ((s_by.getD 15 []).getD j 0))).before x s = true
  | 0, _ => nw_188 h0
  | 1, _ => nw_189 h0
  | 2, _ => nw_190 h0
  | 3, _ => nw_191 h0
  | n + 4, h => absurd h (by omega)
theorem st_el16 {x : Array Value} {s : State} (h0 : narrow_1.before x s = true) : ∀ j : Nat, j < 3 → (Cond.eq (.elem (.field (s_tm 16) "java/lang/String" "value" "[B") (.int (Int32.ofNat j))) (.int ((s_by.getD 16 []).getD j 0))).before x s = true
  | 0, _ => nw_196 h0
  | 1, _ => nw_197 h0
  | 2, _ => nw_198 h0
  | n + 3, h => absurd h (by omega)
theorem st_el17 {x : Array Value} {s : State} (h0 : narrow_1.before x s = true) : ∀ j : Nat, j < 3 → (Cond.eq (.elem (.field (s_tm 17) "java/lang/String" "value" "[B") (.int (Int32.ofNat j))) (.int ((s_by.getD 17 []).getD j 0))).before x s = true
  | 0, _ => nw_203 h0
  | 1, _ => nw_204 h0
  | 2, _ => nw_205 h0
  | n + 3, h => absurd h (by omega)
theorem st_el18 {x : Array Value} {s : State} (h0 : narrow_1.before x s = true) : ∀ j : Nat, j < 3 → (Cond.eq (.elem (.field (s_tm 18) "java/lang/String" "value" "[B") (.int (Int32.ofNat j))) (.int ((s_by.getD 18 []).getD j 0))).before x s = true
  | 0, _ => nw_210 h0
  | 1, _ => nw_211 h0
  | 2, _ => nw_212 h0
  | n + 3, h => absurd h (by omega)
theorem st_el19 {x : Array Value} {s : State} (h0 : narrow_1.before x s = true) : ∀ j : Nat, j < 2 → (Cond.eq (.elem (.field (s_tm 19) "java/lang/String" "value" "[B") (.int (Int32.ofNat j))) (.int ((s_by.getD 19 []).getD j 0))).before x s = true
  | 0, _ => nw_217 h0
  | 1, _ => nw_218 h0
  | n + 2, h => absurd h (by omega)
theorem st_el20 {x : Array Value} {s : State} (h0 : narrow_1.before x s = true) : ∀ j : Nat, j < 8 → (Cond.eq (.elem (.field (s_tm 20) "java/lang/String" "value" "[B") (.int (Int32.ofNat j))) (.int ((s_by.getD 20 []).getD j 0))).before x s = true
  | 0, _ => nw_223 h0
  | 1, _ => nw_224 h0
  | 2, _ => nw_225 h0
  | 3, _ => nw_226 h0
  | 4, _ => nw_227 h0
  | 5, _ => nw_228 h0
  | 6, _ => nw_229 h0
  | 7, _ => nw_230 h0
  | n + 8, h => absurd h (by omega)
theorem st_el21 {x : Array Value} {s : State} (h0 : narrow_1.before x s = true) : ∀ j : Nat, j < 5 → (Cond.eq (.elem (.field (s_tm 21) "java/lang/String" "value" "[B") (.int (Int32.ofNat j))) (.int ((s_by.getD 21 []).getD j 0))).before x s = true
  | 0, _ => nw_235 h0
  | 1, _ => nw_236 h0
  | 2, _ => nw_237 h0
  | 3, _ => nw_238 h0
  | 4, _ => nw_239 h0
  | n + 5, h => absurd h (by omega)
theorem st_el {x : Array Value} {s : State} (h0 : narrow_1.before x s = true) : ∀ i : Nat, i < 22 → ∀ j : Nat, j < s_ln.getD i 0 → (Cond.eq (.elem (.field (s_tm i) "java/lang/String" "value" "[B") (.int (Int32.ofNat j))) (.int ((s_by.getD i []).getD j 0))).before x s = true
  | 0, _ => st_el0 h0
  | 1, _ => st_el1 h0
  | 2, _ => st_el2 h0
  | 3, _ => st_el3 h0
  | 4, _ => st_el4 h0
  | 5, _ => st_el5 h0
  | 6, _ => st_el6 h0
  | 7, _ => st_el7 h0
  | 8, _ => st_el8 h0
  | 9, _ => st_el9 h0
  | 10, _ => st_el10 h0
  | 11, _ => st_el11 h0
  | 12, _ => st_el12 h0
  | 13, _ => st_el13 h0
  | 14, _ => st_el14 h0
  | 15, _ => st_el15 h0
  | 16, _ => st_el16 h0
  | 17, _ => st_el17 h0
  | 18, _ => st_el18 h0
  | 19, _ => st_el19 h0
  | 20, _ => st_el20 h0
  | 21, _ => st_el21 h0
  | n + 22, h => absurd h (by omega)
theorem st_ne0 {x : Array Value} {s : State} (h0 : narrow_1.before x s = true) : ∀ j : Nat, j < 22 → 0 ≠ j → (Cond.not (Cond.eq (s_tm 0) (s_tm j))).before x s = true ∨ (Cond.not (Cond.eq (s_tm j) (s_tm 0))).before x s = true
  | 0, _, q => absurd rfl q
  | 1, _, _ => Or.inl (nw_240 h0)
  | 2, _, _ => Or.inl (nw_241 h0)
  | 3, _, _ => Or.inl (nw_242 h0)
  | 4, _, _ => Or.inl (nw_243 h0)
  | 5, _, _ => Or.inl (nw_244 h0)
  | 6, _, _ => Or.inl (nw_245 h0)
  | 7, _, _ => Or.inl (nw_246 h0)
  | 8, _, _ => Or.inl (nw_247 h0)
  | 9, _, _ => Or.inl (nw_248 h0)
  | 10, _, _ => Or.inl (nw_249 h0)
  | 11, _, _ => Or.inl (nw_250 h0)
  | 12, _, _ => Or.inl (nw_251 h0)
  | 13, _, _ => Or.inl (nw_252 h0)
  | 14, _, _ => Or.inl (nw_253 h0)
  | 15, _, _ => Or.inl (nw_254 h0)
  | 16, _, _ => Or.inl (nw_255 h0)
  | 17, _, _ => Or.inl (nw_256 h0)
  | 18, _, _ => Or.inl (nw_257 h0)
  | 19, _, _ => Or.inl (nw_258 h0)
  | 20, _, _ => Or.inl (nw_259 h0)
  | 21, _, _ => Or.inl (nw_260 h0)
  | n + 22, h, _ => absurd h (by omega)
theorem st_ne1 {x : Array Value} {s : State} (h0 : narrow_1.before x s = true) : ∀ j : Nat, j < 22 → 1 ≠ j → (Cond.not (Cond.eq (s_tm 1) (s_tm j))).before x s = true ∨ (Cond.not (Cond.eq (s_tm j) (s_tm 1))).before x s = true
  | 0, _, _ => Or.inr (nw_240 h0)
  | 1, _, q => absurd rfl q
  | 2, _, _ => Or.inl (nw_261 h0)
  | 3, _, _ => Or.inl (nw_262 h0)
  | 4, _, _ => Or.inl (nw_263 h0)
  | 5, _, _ => Or.inl (nw_264 h0)
  | 6, _, _ => Or.inl (nw_265 h0)
  | 7, _, _ => Or.inl (nw_266 h0)
  | 8, _, _ => Or.inl (nw_267 h0)
  | 9, _, _ => Or.inl (nw_268 h0)
  | 10, _, _ => Or.inl (nw_269 h0)
  | 11, _, _ => Or.inl (nw_270 h0)
  | 12, _, _ => Or.inl (nw_271 h0)
  | 13, _, _ => Or.inl (nw_272 h0)
  | 14, _, _ => Or.inl (nw_273 h0)
  | 15, _, _ => Or.inl (nw_274 h0)
  | 16, _, _ => Or.inl (nw_275 h0)
  | 17, _, _ => Or.inl (nw_276 h0)
  | 18, _, _ => Or.inl (nw_277 h0)
  | 19, _, _ => Or.inl (nw_278 h0)
  | 20, _, _ => Or.inl (nw_279 h0)
  | 21, _, _ => Or.inl (nw_280 h0)
  | n + 22, h, _ => absurd h (by omega)
theorem st_ne2 {x : Array Value} {s : State} (h0 : narrow_1.before x s = true) : ∀ j : Nat, j < 22 → 2 ≠ j → (Cond.not (Cond.eq (s_tm 2) (s_tm j))).before x s = true ∨ (Cond.not (Cond.eq (s_tm j) (s_tm 2))).before x s = true
  | 0, _, _ => Or.inr (nw_241 h0)
  | 1, _, _ => Or.inr (nw_261 h0)
  | 2, _, q => absurd rfl q
  | 3, _, _ => Or.inl (nw_281 h0)
  | 4, _, _ => Or.inl (nw_282 h0)
  | 5, _, _ => Or.inl (nw_283 h0)
  | 6, _, _ => Or.inl (nw_284 h0)
  | 7, _, _ => Or.inl (nw_285 h0)
  | 8, _, _ => Or.inl (nw_286 h0)
  | 9, _, _ => Or.inl (nw_287 h0)
  | 10, _, _ => Or.inl (nw_288 h0)
  | 11, _, _ => Or.inl (nw_289 h0)
  | 12, _, _ => Or.inl (nw_290 h0)
  | 13, _, _ => Or.inl (nw_291 h0)
  | 14, _, _ => Or.inl (nw_292 h0)
  | 15, _, _ => Or.inl (nw_293 h0)
  | 16, _, _ => Or.inl (nw_294 h0)
  | 17, _, _ => Or.inl (nw_295 h0)
  | 18, _, _ => Or.inl (nw_296 h0)
  | 19, _, _ => Or.inl (nw_297 h0)
  | 20, _, _ => Or.inl (nw_298 h0)
  | 21, _, _ => Or.inl (nw_299 h0)
  | n + 22, h, _ => absurd h (by omega)
theorem st_ne3 {x : Array Value} {s : State} (h0 : narrow_1.before x s = true) : ∀ j : Nat, j < 22 → 3 ≠ j → (Cond.not (Cond.eq (s_tm 3) (s_tm j))).before x s = true ∨ (Cond.not (Cond.eq (s_tm j) (s_tm 3))).before x s = true
  | 0, _, _ => Or.inr (nw_242 h0)
  | 1, _, _ => Or.inr (nw_262 h0)
  | 2, _, _ => Or.inr (nw_281 h0)
  | 3, _, q => absurd rfl q
  | 4, _, _ => Or.inl (nw_300 h0)
  | 5, _, _ => Or.inl (nw_301 h0)
  | 6, _, _ => Or.inl (nw_302 h0)
  | 7, _, _ => Or.inl (nw_303 h0)
  | 8, _, _ => Or.inl (nw_304 h0)
  | 9, _, _ => Or.inl (nw_305 h0)
  | 10, _, _ => Or.inl (nw_306 h0)
  | 11, _, _ => Or.inl (nw_307 h0)
  | 12, _, _ => Or.inl (nw_308 h0)
  | 13, _, _ => Or.inl (nw_309 h0)
  | 14, _, _ => Or.inl (nw_310 h0)
  | 15, _, _ => Or.inl (nw_311 h0)
  | 16, _, _ => Or.inl (nw_312 h0)
  | 17, _, _ => Or.inl (nw_313 h0)
  | 18, _, _ => Or.inl (nw_314 h0)
  | 19, _, _ => Or.inl (nw_315 h0)
  | 20, _, _ => Or.inl (nw_316 h0)
  | 21, _, _ => Or.inl (nw_317 h0)
  | n + 22, h, _ => absurd h (by omega)
theorem st_ne4 {x : Array Value} {s : State} (h0 : narrow_1.before x s = true) : ∀ j : Nat, j < 22 → 4 ≠ j → (Cond.not (Cond.eq (s_tm 4) (s_tm j))).before x s = true ∨ (Cond.not (Cond.eq (s_tm j) (s_tm 4))).before x s = true
  | 0, _, _ => Or.inr (nw_243 h0)
  | 1, _, _ => Or.inr (nw_263 h0)
  | 2, _, _ => Or.inr (nw_282 h0)
  | 3, _, _ => Or.inr (nw_300 h0)
  | 4, _, q => absurd rfl q
  | 5, _, _ => Or.inl (nw_318 h0)
  | 6, _, _ => Or.inl (nw_319 h0)
  | 7, _, _ => Or.inl (nw_320 h0)
  | 8, _, _ => Or.inl (nw_321 h0)
  | 9, _, _ => Or.inl (nw_322 h0)
  | 10, _, _ => Or.inl (nw_323 h0)
  | 11, _, _ => Or.inl (nw_324 h0)
  | 12, _, _ => Or.inl (nw_325 h0)
  | 13, _, _ => Or.inl (nw_326 h0)
  | 14, _, _ => Or.inl (nw_327 h0)
  | 15, _, _ => Or.inl (nw_328 h0)
  | 16, _, _ => Or.inl (nw_329 h0)
  | 17, _, _ => Or.inl (nw_330 h0)
  | 18, _, _ => Or.inl (nw_331 h0)
  | 19, _, _ => Or.inl (nw_332 h0)
  | 20, _, _ => Or.inl (nw_333 h0)
  | 21, _, _ => Or.inl (nw_334 h0)
  | n + 22, h, _ => absurd h (by omega)
theorem st_ne5 {x : Array Value} {s : State} (h0 : narrow_1.before x s = true) : ∀ j : Nat, j < 22 → 5 ≠ j → (Cond.not (Cond.eq (s_tm 5) (s_tm j))).before x s = true ∨ (Cond.not (Cond.eq (s_tm j) (s_tm 5))).before x s = true
  | 0, _, _ => Or.inr (nw_244 h0)
  | 1, _, _ => Or.inr (nw_264 h0)
  | 2, _, _ => Or.inr (nw_283 h0)
  | 3, _, _ => Or.inr (nw_301 h0)
  | 4, _, _ => Or.inr (nw_318 h0)
  | 5, _, q => absurd rfl q
  | 6, _, _ => Or.inl (nw_335 h0)
  | 7, _, _ => Or.inl (nw_336 h0)
  | 8, _, _ => Or.inl (nw_337 h0)
  | 9, _, _ => Or.inl (nw_338 h0)
  | 10, _, _ => Or.inl (nw_339 h0)
  | 11, _, _ => Or.inl (nw_340 h0)
  | 12, _, _ => Or.inl (nw_341 h0)
  | 13, _, _ => Or.inl (nw_342 h0)
  | 14, _, _ => Or.inl (nw_343 h0)
  | 15, _, _ => Or.inl (nw_344 h0)
  | 16, _, _ => Or.inl (nw_345 h0)
  | 17, _, _ => Or.inl (nw_346 h0)
  | 18, _, _ => Or.inl (nw_347 h0)
  | 19, _, _ => Or.inl (nw_348 h0)
  | 20, _, _ => Or.inl (nw_349 h0)
  | 21, _, _ => Or.inl (nw_350 h0)
  | n + 22, h, _ => absurd h (by omega)
theorem st_ne6 {x : Array Value} {s : State} (h0 : narrow_1.before x s = true) : ∀ j : Nat, j < 22 → 6 ≠ j → (Cond.not (Cond.eq (s_tm 6) (s_tm j))).before x s = true ∨ (Cond.not (Cond.eq (s_tm j) (s_tm 6))).before x s = true
  | 0, _, _ => Or.inr (nw_245 h0)
  | 1, _, _ => Or.inr (nw_265 h0)
  | 2, _, _ => Or.inr (nw_284 h0)
  | 3, _, _ => Or.inr (nw_302 h0)
  | 4, _, _ => Or.inr (nw_319 h0)
  | 5, _, _ => Or.inr (nw_335 h0)
  | 6, _, q => absurd rfl q
  | 7, _, _ => Or.inl (nw_351 h0)
  | 8, _, _ => Or.inl (nw_352 h0)
  | 9, _, _ => Or.inl (nw_353 h0)
  | 10, _, _ => Or.inl (nw_354 h0)
  | 11, _, _ => Or.inl (nw_355 h0)
  | 12, _, _ => Or.inl (nw_356 h0)
  | 13, _, _ => Or.inl (nw_357 h0)
  | 14, _, _ => Or.inl (nw_358 h0)
  | 15, _, _ => Or.inl (nw_359 h0)
  | 16, _, _ => Or.inl (nw_360 h0)
  | 17, _, _ => Or.inl (nw_361 h0)
  | 18, _, _ => Or.inl (nw_362 h0)
  | 19, _, _ => Or.inl (nw_363 h0)
  | 20, _, _ => Or.inl (nw_364 h0)
  | 21, _, _ => Or.inl (nw_365 h0)
  | n + 22, h, _ => absurd h (by omega)
theorem st_ne7 {x : Array Value} {s : State} (h0 : narrow_1.before x s = true) : ∀ j : Nat, j < 22 → 7 ≠ j → (Cond.not (Cond.eq (s_tm 7) (s_tm j))).before x s = true ∨ (Cond.not (Cond.eq (s_tm j) (s_tm 7))).before x s = true
  | 0, _, _ => Or.inr (nw_246 h0)
  | 1, _, _ => Or.inr (nw_266 h0)
  | 2, _, _ => Or.inr (nw_285 h0)
  | 3, _, _ => Or.inr (nw_303 h0)
  | 4, _, _ => Or.inr (nw_320 h0)
  | 5, _, _ => Or.inr (nw_336 h0)
  | 6, _, _ => Or.inr (nw_351 h0)
  | 7, _, q => absurd rfl q
  | 8, _, _ => Or.inl (nw_366 h0)
  | 9, _, _ => Or.inl (nw_367 h0)
  | 10, _, _ => Or.inl (nw_368 h0)
  | 11, _, _ => Or.inl (nw_369 h0)
  | 12, _, _ => Or.inl (nw_370 h0)
  | 13, _, _ => Or.inl (nw_371 h0)
  | 14, _, _ => Or.inl (nw_372 h0)
  | 15, _, _ => Or.inl (nw_373 h0)
  | 16, _, _ => Or.inl (nw_374 h0)
  | 17, _, _ => Or.inl (nw_375 h0)
  | 18, _, _ => Or.inl (nw_376 h0)
  | 19, _, _ => Or.inl (nw_377 h0)
  | 20, _, _ => Or.inl (nw_378 h0)
  | 21, _, _ => Or.inl (nw_379 h0)
  | n + 22, h, _ => absurd h (by omega)
theorem st_ne8 {x : Array Value} {s : State} (h0 : narrow_1.before x s = true) : ∀ j : Nat, j < 22 → 8 ≠ j → (Cond.not (Cond.eq (s_tm 8) (s_tm j))).before x s = true ∨ (Cond.not (Cond.eq (s_tm j) (s_tm 8))).before x s = true
  | 0, _, _ => Or.inr (nw_247 h0)
  | 1, _, _ => Or.inr (nw_267 h0)
  | 2, _, _ => Or.inr (nw_286 h0)
  | 3, _, _ => Or.inr (nw_304 h0)
  | 4, _, _ => Or.inr (nw_321 h0)
  | 5, _, _ => Or.inr (nw_337 h0)
  | 6, _, _ => Or.inr (nw_352 h0)
  | 7, _, _ => Or.inr (nw_366 h0)
  | 8, _, q => absurd rfl q
  | 9, _, _ => Or.inl (nw_380 h0)
  | 10, _, _ => Or.inl (nw_381 h0)
  | 11, _, _ => Or.inl (nw_382 h0)
  | 12, _, _ => Or.inl (nw_383 h0)
  | 13, _, _ => Or.inl (nw_384 h0)
  | 14, _, _ => Or.inl (nw_385 h0)
  | 15, _, _ => Or.inl (nw_386 h0)
  | 16, _, _ => Or.inl (nw_387 h0)
  | 17, _, _ => Or.inl (nw_388 h0)
  | 18, _, _ => Or.inl (nw_389 h0)
  | 19, _, _ => Or.inl (nw_390 h0)
  | 20, _, _ => Or.inl (nw_391 h0)
  | 21, _, _ => Or.inl (nw_392 h0)
  | n + 22, h, _ => absurd h (by omega)
theorem st_ne9 {x : Array Value} {s : State} (h0 : narrow_1.before x s = true) : ∀ j : Nat, j < 22 → 9 ≠ j → (Cond.not (Cond.eq (s_tm 9) (s_tm j))).before x s = true ∨ (Cond.not (Cond.eq (s_tm j) (s_tm 9))).before x s = true
  | 0, _, _ => Or.inr (nw_248 h0)
  | 1, _, _ => Or.inr (nw_268 h0)
  | 2, _, _ => Or.inr (nw_287 h0)
  | 3, _, _ => Or.inr (nw_305 h0)
  | 4, _, _ => Or.inr (nw_322 h0)
  | 5, _, _ => Or.inr (nw_338 h0)
  | 6, _, _ => Or.inr (nw_353 h0)
  | 7, _, _ => Or.inr (nw_367 h0)
  | 8, _, _ => Or.inr (nw_380 h0)
  | 9, _, q => absurd rfl q
  | 10, _, _ => Or.inl (nw_393 h0)
  | 11, _, _ => Or.inl (nw_394 h0)
  | 12, _, _ => Or.inl (nw_395 h0)
  | 13, _, _ => Or.inl (nw_396 h0)
  | 14, _, _ => Or.inl (nw_397 h0)
  | 15, _, _ => Or.inl (nw_398 h0)
  | 16, _, _ => Or.inl (nw_399 h0)
  | 17, _, _ => Or.inl (nw_400 h0)
  | 18, _, _ => Or.inl (nw_401 h0)
  | 19, _, _ => Or.inl (nw_402 h0)
  | 20, _, _ => Or.inl (nw_403 h0)
  | 21, _, _ => Or.inl (nw_404 h0)
  | n + 22, h, _ => absurd h (by omega)
theorem st_ne10 {x : Array Value} {s : State} (h0 : narrow_1.before x s = true) : ∀ j : Nat, j < 22 → 10 ≠ j → (Cond.not (Cond.eq (s_tm 10) (s_tm j))).before x s = true ∨ (Cond.not (Cond.eq (s_tm j) (s_tm 10))).before x s = true
  | 0, _, _ => Or.inr (nw_249 h0)
  | 1, _, _ => Or.inr (nw_269 h0)
  | 2, _, _ => Or.inr (nw_288 h0)
  | 3, _, _ => Or.inr (nw_306 h0)
  | 4, _, _ => Or.inr (nw_323 h0)
  | 5, _, _ => Or.inr (nw_339 h0)
  | 6, _, _ => Or.inr (nw_354 h0)
  | 7, _, _ => Or.inr (nw_368 h0)
  | 8, _, _ => Or.inr (nw_381 h0)
  | 9, _, _ => Or.inr (nw_393 h0)
  | 10, _, q => absurd rfl q
  | 11, _, _ => Or.inl (nw_405 h0)
  | 12, _, _ => Or.inl (nw_406 h0)
  | 13, _, _ => Or.inl (nw_407 h0)
  | 14, _, _ => Or.inl (nw_408 h0)
  | 15, _, _ => Or.inl (nw_409 h0)
  | 16, _, _ => Or.inl (nw_410 h0)
  | 17, _, _ => Or.inl (nw_411 h0)
  | 18, _, _ => Or.inl (nw_412 h0)
  | 19, _, _ => Or.inl (nw_413 h0)
  | 20, _, _ => Or.inl (nw_414 h0)
  | 21, _, _ => Or.inl (nw_415 h0)
  | n + 22, h, _ => absurd h (by omega)
theorem st_ne11 {x : Array Value} {s : State} (h0 : narrow_1.before x s = true) : ∀ j : Nat, j < 22 → 11 ≠ j → (Cond.not (Cond.eq (s_tm 11) (s_tm j))).before x s = true ∨ (Cond.not (Cond.eq (s_tm j) (s_tm 11))).before x s = true
  | 0, _, _ => Or.inr (nw_250 h0)
  | 1, _, _ => Or.inr (nw_270 h0)
  | 2, _, _ => Or.inr (nw_289 h0)
  | 3, _, _ => Or.inr (nw_307 h0)
  | 4, _, _ => Or.inr (nw_324 h0)
  | 5, _, _ => Or.inr (nw_340 h0)
  | 6, _, _ => Or.inr (nw_355 h0)
  | 7, _, _ => Or.inr (nw_369 h0)
  | 8, _, _ => Or.inr (nw_382 h0)
  | 9, _, _ => Or.inr (nw_394 h0)
  | 10, _, _ => Or.inr (nw_405 h0)
  | 11, _, q => absurd rfl q
  | 12, _, _ => Or.inl (nw_416 h0)
  | 13, _, _ => Or.inl (nw_417 h0)
  | 14, _, _ => Or.inl (nw_418 h0)
  | 15, _, _ => Or.inl (nw_419 h0)
  | 16, _, _ => Or.inl (nw_420 h0)
  | 17, _, _ => Or.inl (nw_421 h0)
  | 18, _, _ => Or.inl (nw_422 h0)
  | 19, _, _ => Or.inl (nw_423 h0)
  | 20, _, _ => Or.inl (nw_424 h0)
  | 21, _, _ => Or.inl (nw_425 h0)
  | n + 22, h, _ => absurd h (by omega)
theorem st_ne12 {x : Array Value} {s : State} (h0 : narrow_1.before x s = true) : ∀ j : Nat, j < 22 → 12 ≠ j → (Cond.not (Cond.eq (s_tm 12) (s_tm j))).before x s = true ∨ (Cond.not (Cond.eq (s_tm j) (s_tm 12))).before x s = true
  | 0, _, _ => Or.inr (nw_251 h0)
  | 1, _, _ => Or.inr (nw_271 h0)
  | 2, _, _ => Or.inr (nw_290 h0)
  | 3, _, _ => Or.inr (nw_308 h0)
  | 4, _, _ => Or.inr (nw_325 h0)
  | 5, _, _ => Or.inr (nw_341 h0)
  | 6, _, _ => Or.inr (nw_356 h0)
  | 7, _, _ => Or.inr (nw_370 h0)
  | 8, _, _ => Or.inr (nw_383 h0)
  | 9, _, _ => Or.inr (nw_395 h0)
  | 10, _, _ => Or.inr (nw_406 h0)
  | 11, _, _ => Or.inr (nw_416 h0)
  | 12, _, q => absurd rfl q
  | 13, _, _ => Or.inl (nw_426 h0)
  | 14, _, _ => Or.inl (nw_427 h0)
  | 15, _, _ => Or.inl (nw_428 h0)
  | 16, _, _ => Or.inl (nw_429 h0)
  | 17, _, _ => Or.inl (nw_430 h0)
  | 18, _, _ => Or.inl (nw_431 h0)
  | 19, _, _ => Or.inl (nw_432 h0)
  | 20, _, _ => Or.inl (nw_433 h0)
  | 21, _, _ => Or.inl (nw_434 h0)
  | n + 22, h, _ => absurd h (by omega)
theorem st_ne13 {x : Array Value} {s : State} (h0 : narrow_1.before x s = true) : ∀ j : Nat, j < 22 → 13 ≠ j → (Cond.not (Cond.eq (s_tm 13) (s_tm j))).before x s = true ∨ (Cond.not (Cond.eq (s_tm j) (s_tm 13))).before x s = true
  | 0, _, _ => Or.inr (nw_252 h0)
  | 1, _, _ => Or.inr (nw_272 h0)
  | 2, _, _ => Or.inr (nw_291 h0)
  | 3, _, _ => Or.inr (nw_309 h0)
  | 4, _, _ => Or.inr (nw_326 h0)
  | 5, _, _ => Or.inr (nw_342 h0)
  | 6, _, _ => Or.inr (nw_357 h0)
  | 7, _, _ => Or.inr (nw_371 h0)
  | 8, _, _ => Or.inr (nw_384 h0)
  | 9, _, _ => Or.inr (nw_396 h0)
  | 10, _, _ => Or.inr (nw_407 h0)
  | 11, _, _ => Or.inr (nw_417 h0)
  | 12, _, _ => Or.inr (nw_426 h0)
  | 13, _, q => absurd rfl q
  | 14, _, _ => Or.inl (nw_435 h0)
  | 15, _, _ => Or.inl (nw_436 h0)
  | 16, _, _ => Or.inl (nw_437 h0)
  | 17, _, _ => Or.inl (nw_438 h0)
  | 18, _, _ => Or.inl (nw_439 h0)
  | 19, _, _ => Or.inl (nw_440 h0)
  | 20, _, _ => Or.inl (nw_441 h0)
  | 21, _, _ => Or.inl (nw_442 h0)
  | n + 22, h, _ => absurd h (by omega)
theorem st_ne14 {x : Array Value} {s : State} (h0 : narrow_1.before x s = true) : ∀ j : Nat, j < 22 → 14 ≠ j → (Cond.not (Cond.eq (s_tm 14) (s_tm j))).before x s = true ∨ (Cond.not (Cond.eq (s_tm j) (s_tm 14))).before x s = true
  | 0, _, _ => Or.inr (nw_253 h0)
  | 1, _, _ => Or.inr (nw_273 h0)
  | 2, _, _ => Or.inr (nw_292 h0)
  | 3, _, _ => Or.inr (nw_310 h0)
  | 4, _, _ => Or.inr (nw_327 h0)
  | 5, _, _ => Or.inr (nw_343 h0)
  | 6, _, _ => Or.inr (nw_358 h0)
  | 7, _, _ => Or.inr (nw_372 h0)
  | 8, _, _ => Or.inr (nw_385 h0)
  | 9, _, _ => Or.inr (nw_397 h0)
  | 10, _, _ => Or.inr (nw_408 h0)
  | 11, _, _ => Or.inr (nw_418 h0)
  | 12, _, _ => Or.inr (nw_427 h0)
  | 13, _, _ => Or.inr (nw_435 h0)
  | 14, _, q => absurd rfl q
  | 15, _, _ => Or.inl (nw_443 h0)
  | 16, _, _ => Or.inl (nw_444 h0)
  | 17, _, _ => Or.inl (nw_445 h0)
  | 18, _, _ => Or.inl (nw_446 h0)
  | 19, _, _ => Or.inl (nw_447 h0)
  | 20, _, _ => Or.inl (nw_448 h0)
  | 21, _, _ => Or.inl (nw_449 h0)
  | n + 22, h, _ => absurd h (by omega)
theorem st_ne15 {x : Array Value} {s : State} (h0 : narrow_1.before x s = true) : ∀ j : Nat, j < 22 → 15 ≠ j → (Cond.not (Cond.eq (s_tm 15) (s_tm j))).before x s = true ∨ (Cond.not (Cond.eq (s_tm j) (s_tm 15))).before x s = true
  | 0, _, _ => Or.inr (nw_254 h0)
  | 1, _, _ => Or.inr (nw_274 h0)
  | 2, _, _ => Or.inr (nw_293 h0)
  | 3, _, _ => Or.inr (nw_311 h0)
  | 4, _, _ => Or.inr (nw_328 h0)
  | 5, _, _ => Or.inr (nw_344 h0)
  | 6, _, _ => Or.inr (nw_359 h0)
  | 7, _, _ => Or.inr (nw_373 h0)
  | 8, _, _ => Or.inr (nw_386 h0)
  | 9, _, _ => Or.inr (nw_398 h0)
  | 10, _, _ => Or.inr (nw_409 h0)
  | 11, _, _ => Or.inr (nw_419 h0)
  | 12, _, _ => Or.inr (nw_428 h0)
  | 13, _, _ => Or.inr (nw_436 h0)
  | 14, _, _ => Or.inr (nw_443 h0)
  | 15, _, q => absurd rfl q
  | 16, _, _ => Or.inl (nw_450 h0)
  | 17, _, _ => Or.inl (nw_451 h0)
  | 18, _, _ => Or.inl (nw_452 h0)
  | 19, _, _ => Or.inl (nw_453 h0)
  | 20, _, _ => Or.inl (nw_454 h0)
  | 21, _, _ => Or.inl (nw_455 h0)
  | n + 22, h, _ => absurd h (by omega)
theorem st_ne16 {x : Array Value} {s : State} (h0 : narrow_1.before x s = true) : ∀ j : Nat, j < 22 → 16 ≠ j → (Cond.not (Cond.eq (s_tm 16) (s_tm j))).before x s = true ∨ (Cond.not (Cond.eq (s_tm j) (s_tm 16))).before x s = true
  | 0, _, _ => Or.inr (nw_255 h0)
  | 1, _, _ => Or.inr (nw_275 h0)
  | 2, _, _ => Or.inr (nw_294 h0)
  | 3, _, _ => Or.inr (nw_312 h0)
  | 4, _, _ => Or.inr (nw_329 h0)
  | 5, _, _ => Or.inr (nw_345 h0)
  | 6, _, _ => Or.inr (nw_360 h0)
  | 7, _, _ => Or.inr (nw_374 h0)
  | 8, _, _ => Or.inr (nw_387 h0)
  | 9, _, _ => Or.inr (nw_399 h0)
  | 10, _, _ => Or.inr (nw_410 h0)
  | 11, _, _ => Or.inr (nw_420 h0)
  | 12, _, _ => Or.inr (nw_429 h0)
  | 13, _, _ => Or.inr (nw_437 h0)
  | 14, _, _ => Or.inr (nw_444 h0)
  | 15, _, _ => Or.inr (nw_450 h0)
  | 16, _, q => absurd rfl q
  | 17, _, _ => Or.inl (nw_456 h0)
  | 18, _, _ => Or.inl (nw_457 h0)
  | 19, _, _ => Or.inl (nw_458 h0)
  | 20, _, _ => Or.inl (nw_459 h0)
  | 21, _, _ => Or.inl (nw_460 h0)
  | n + 22, h, _ => absurd h (by omega)
theorem st_ne17 {x : Array Value} {s : State} (h0 : narrow_1.before x s = true) : ∀ j : Nat, j < 22 → 17 ≠ j → (Cond.not (Cond.eq (s_tm 17) (s_tm j))).before x s = true ∨ (Cond.not (Cond.eq (s_tm j) (s_tm 17))).before x s = true
  | 0, _, _ => Or.inr (nw_256 h0)
  | 1, _, _ => Or.inr (nw_276 h0)
  | 2, _, _ => Or.inr (nw_295 h0)
  | 3, _, _ => Or.inr (nw_313 h0)
  | 4, _, _ => Or.inr (nw_330 h0)
  | 5, _, _ => Or.inr (nw_346 h0)
  | 6, _, _ => Or.inr (nw_361 h0)
  | 7, _, _ => Or.inr (nw_375 h0)
  | 8, _, _ => Or.inr (nw_388 h0)
  | 9, _, _ => Or.inr (nw_400 h0)
  | 10, _, _ => Or.inr (nw_411 h0)
  | 11, _, _ => Or.inr (nw_421 h0)
  | 12, _, _ => Or.inr (nw_430 h0)
  | 13, _, _ => Or.inr (nw_438 h0)
  | 14, _, _ => Or.inr (nw_445 h0)
  | 15, _, _ => Or.inr (nw_451 h0)
  | 16, _, _ => Or.inr (nw_456 h0)
  | 17, _, q => absurd rfl q
  | 18, _, _ => Or.inl (nw_461 h0)
  | 19, _, _ => Or.inl (nw_462 h0)
  | 20, _, _ => Or.inl (nw_463 h0)
  | 21, _, _ => Or.inl (nw_464 h0)
  | n + 22, h, _ => absurd h (by omega)
theorem st_ne18 {x : Array Value} {s : State} (h0 : narrow_1.before x s = true) : ∀ j : Nat, j < 22 → 18 ≠ j → (Cond.not (Cond.eq (s_tm 18) (s_tm j))).before x s = true ∨ (Cond.not (Cond.eq (s_tm j) (s_tm 18))).before x s = true
  | 0, _, _ => Or.inr (nw_257 h0)
  | 1, _, _ => Or.inr (nw_277 h0)
  | 2, _, _ => Or.inr (nw_296 h0)
  | 3, _, _ => Or.inr (nw_314 h0)
  | 4, _, _ => Or.inr (nw_331 h0)
  | 5, _, _ => Or.inr (nw_347 h0)
  | 6, _, _ => Or.inr (nw_362 h0)
  | 7, _, _ => Or.inr (nw_376 h0)
  | 8, _, _ => Or.inr (nw_389 h0)
  | 9, _, _ => Or.inr (nw_401 h0)
  | 10, _, _ => Or.inr (nw_412 h0)
  | 11, _, _ => Or.inr (nw_422 h0)
  | 12, _, _ => Or.inr (nw_431 h0)
  | 13, _, _ => Or.inr (nw_439 h0)
  | 14, _, _ => Or.inr (nw_446 h0)
  | 15, _, _ => Or.inr (nw_452 h0)
  | 16, _, _ => Or.inr (nw_457 h0)
  | 17, _, _ => Or.inr (nw_461 h0)
  | 18, _, q => absurd rfl q
  | 19, _, _ => Or.inl (nw_465 h0)
  | 20, _, _ => Or.inl (nw_466 h0)
  | 21, _, _ => Or.inl (nw_467 h0)
  | n + 22, h, _ => absurd h (by omega)
theorem st_ne19 {x : Array Value} {s : State} (h0 : narrow_1.before x s = true) : ∀ j : Nat, j < 22 → 19 ≠ j → (Cond.not (Cond.eq (s_tm 19) (s_tm j))).before x s = true ∨ (Cond.not (Cond.eq (s_tm j) (s_tm 19))).before x s = true
  | 0, _, _ => Or.inr (nw_258 h0)
  | 1, _, _ => Or.inr (nw_278 h0)
  | 2, _, _ => Or.inr (nw_297 h0)
  | 3, _, _ => Or.inr (nw_315 h0)
  | 4, _, _ => Or.inr (nw_332 h0)
  | 5, _, _ => Or.inr (nw_348 h0)
  | 6, _, _ => Or.inr (nw_363 h0)
  | 7, _, _ => Or.inr (nw_377 h0)
  | 8, _, _ => Or.inr (nw_390 h0)
  | 9, _, _ => Or.inr (nw_402 h0)
  | 10, _, _ => Or.inr (nw_413 h0)
  | 11, _, _ => Or.inr (nw_423 h0)
  | 12, _, _ => Or.inr (nw_432 h0)
  | 13, _, _ => Or.inr (nw_440 h0)
  | 14, _, _ => Or.inr (nw_447 h0)
  | 15, _, _ => Or.inr (nw_453 h0)
  | 16, _, _ => Or.inr (nw_458 h0)
  | 17, _, _ => Or.inr (nw_462 h0)
  | 18, _, _ => Or.inr (nw_465 h0)
  | 19, _, q => absurd rfl q
  | 20, _, _ => Or.inl (nw_468 h0)
  | 21, _, _ => Or.inl (nw_469 h0)
  | n + 22, h, _ => absurd h (by omega)
theorem st_ne20 {x : Array Value} {s : State} (h0 : narrow_1.before x s = true) : ∀ j : Nat, j < 22 → 20 ≠ j → (Cond.not (Cond.eq (s_tm 20) (s_tm j))).before x s = true ∨ (Cond.not (Cond.eq (s_tm j) (s_tm 20))).before x s = true
  | 0, _, _ => Or.inr (nw_259 h0)
  | 1, _, _ => Or.inr (nw_279 h0)
  | 2, _, _ => Or.inr (nw_298 h0)
  | 3, _, _ => Or.inr (nw_316 h0)
  | 4, _, _ => Or.inr (nw_333 h0)
  | 5, _, _ => Or.inr (nw_349 h0)
  | 6, _, _ => Or.inr (nw_364 h0)
  | 7, _, _ => Or.inr (nw_378 h0)
  | 8, _, _ => Or.inr (nw_391 h0)
  | 9, _, _ => Or.inr (nw_403 h0)
  | 10, _, _ => Or.inr (nw_414 h0)
  | 11, _, _ => Or.inr (nw_424 h0)
  | 12, _, _ => Or.inr (nw_433 h0)
  | 13, _, _ => Or.inr (nw_441 h0)
  | 14, _, _ => Or.inr (nw_448 h0)
  | 15, _, _ => Or.inr (nw_454 h0)
  | 16, _, _ => Or.inr (nw_459 h0)
  | 17, _, _ => Or.inr (nw_463 h0)
  | 18, _, _ => Or.inr (nw_466 h0)
  | 19, _, _ => Or.inr (nw_468 h0)
  | 20, _, q => absurd rfl q
  | 21, _, _ => Or.inl (nw_470 h0)
  | n + 22, h, _ => absurd h (by omega)
theorem st_ne21 {x : Array Value} {s : State} (h0 : narrow_1.before x s = true) : ∀ j : Nat, j < 22 → 21 ≠ j → (Cond.not (Cond.eq (s_tm 21) (s_tm j))).before x s = true ∨ (Cond.not (Cond.eq (s_tm j) (s_tm 21))).before x s = true
  | 0, _, _ => Or.inr (nw_260 h0)
  | 1, _, _ => Or.inr (nw_280 h0)
  | 2, _, _ => Or.inr (nw_299 h0)
  | 3, _, _ => Or.inr (nw_317 h0)
  | 4, _, _ => Or.inr (nw_334 h0)
  | 5, _, _ => Or.inr (nw_350 h0)
  | 6, _, _ => Or.inr (nw_365 h0)
  | 7, _, _ => Or.inr (nw_379 h0)
  | 8, _, _ => Or.inr (nw_392 h0)
  | 9, _, _ => Or.inr (nw_404 h0)
  | 10, _, _ => Or.inr (nw_415 h0)
  | 11, _, _ => Or.inr (nw_425 h0)
  | 12, _, _ => Or.inr (nw_434 h0)
  | 13, _, _ => Or.inr (nw_442 h0)
  | 14, _, _ => Or.inr (nw_449 h0)
  | 15, _, _ => Or.inr (nw_455 h0)
  | 16, _, _ => Or.inr (nw_460 h0)
  | 17, _, _ => Or.inr (nw_464 h0)
  | 18, _, _ => Or.inr (nw_467 h0)
  | 19, _, _ => Or.inr (nw_469 h0)
  | 20, _, _ => Or.inr (nw_470 h0)
  | 21, _, q => absurd rfl q
  | n + 22, h, _ => absurd h (by omega)
theorem st_ne {x : Array Value} {s : State} (h0 : narrow_1.before x s = true) : ∀ i j : Nat, i < 22 → j < 22 → i ≠ j → (Cond.not (Cond.eq (s_tm i) (s_tm j))).before x s = true ∨ (Cond.not (Cond.eq (s_tm j) (s_tm i))).before x s = true
  | 0, j, _, hj, q => st_ne0 h0 j hj q
  | 1, j, _, hj, q => st_ne1 h0 j hj q
  | 2, j, _, hj, q => st_ne2 h0 j hj q
  | 3, j, _, hj, q => st_ne3 h0 j hj q
  | 4, j, _, hj, q => st_ne4 h0 j hj q
  | 5, j, _, hj, q => st_ne5 h0 j hj q
  | 6, j, _, hj, q => st_ne6 h0 j hj q
  | 7, j, _, hj, q => st_ne7 h0 j hj q
  | 8, j, _, hj, q => st_ne8 h0 j hj q
  | 9, j, _, hj, q => st_ne9 h0 j hj q
  | 10, j, _, hj, q => st_ne10 h0 j hj q
  | 11, j, _, hj, q => st_ne11 h0 j hj q
  | 12, j, _, hj, q => st_ne12 h0 j hj q
  | 13, j, _, hj, q => st_ne13 h0 j hj q
  | 14, j, _, hj, q => st_ne14 h0 j hj q
  | 15, j, _, hj, q => st_ne15 h0 j hj q
  | 16, j, _, hj, q => st_ne16 h0 j hj q
  | 17, j, _, hj, q => st_ne17 h0 j hj q
  | 18, j, _, hj, q => st_ne18 h0 j hj q
  | 19, j, _, hj, q => st_ne19 h0 j hj q
  | 20, j, _, hj, q => st_ne20 h0 j hj q
  | 21, j, _, hj, q => st_ne21 h0 j hj q
  | n + 22, _, h, _, _ => absurd h (by omega)
theorem st_t2 {x : Array Value} {s : State} (h0 : narrow_1.before x s = true) : ∀ i : Nat, i < 14 → (Term.elem (.static RX2 "NEXT" "[I") (.int (Int32.ofNat i))).eval x s none [] s = some (.int (Int32.ofInt ((m_tab 2).2.2.getD i 0)))
  | 0, _ => va_eqt (nw_3 h0)
  | 1, _ => va_eqt (nw_4 h0)
  | 2, _ => va_eqt (nw_5 h0)
  | 3, _ => va_eqt (nw_6 h0)
  | 4, _ => va_eqt (nw_7 h0)
  | 5, _ => va_eqt (nw_8 h0)
  | 6, _ => va_eqt (nw_9 h0)
  | 7, _ => va_eqt (nw_10 h0)
  | 8, _ => va_eqt (nw_11 h0)
  | 9, _ => va_eqt (nw_12 h0)
  | 10, _ => va_eqt (nw_13 h0)
  | 11, _ => va_eqt (nw_14 h0)
  | 12, _ => va_eqt (nw_15 h0)
  | 13, _ => va_eqt (nw_16 h0)
  | n + 14, h => absurd h (by omega)
theorem st_t3 {x : Array Value} {s : State} (h0 : narrow_1.before x s = true) : ∀ i : Nat, i < 14 → (Term.elem (.static RX2 "SECOND" "[I") (.int (Int32.ofNat i))).eval x s none [] s = some (.int (Int32.ofInt ((m_tab 3).2.2.getD i 0)))
  | 0, _ => va_eqt (nw_19 h0)
  | 1, _ => va_eqt (nw_20 h0)
  | 2, _ => va_eqt (nw_21 h0)
  | 3, _ => va_eqt (nw_22 h0)
  | 4, _ => va_eqt (nw_23 h0)
  | 5, _ => va_eqt (nw_24 h0)
  | 6, _ => va_eqt (nw_25 h0)
  | 7, _ => va_eqt (nw_26 h0)
  | 8, _ => va_eqt (nw_27 h0)
  | 9, _ => va_eqt (nw_28 h0)
  | 10, _ => va_eqt (nw_29 h0)
  | 11, _ => va_eqt (nw_30 h0)
  | 12, _ => va_eqt (nw_31 h0)
  | 13, _ => va_eqt (nw_32 h0)
  | n + 14, h => absurd h (by omega)
theorem st_t4 {x : Array Value} {s : State} (h0 : narrow_1.before x s = true) : ∀ i : Nat, i < 14 → (Term.elem (.static RX2 "THIRD" "[I") (.int (Int32.ofNat i))).eval x s none [] s = some (.int (Int32.ofInt ((m_tab 4).2.2.getD i 0)))
  | 0, _ => va_eqt (nw_35 h0)
  | 1, _ => va_eqt (nw_36 h0)
  | 2, _ => va_eqt (nw_37 h0)
  | 3, _ => va_eqt (nw_38 h0)
  | 4, _ => va_eqt (nw_39 h0)
  | 5, _ => va_eqt (nw_40 h0)
  | 6, _ => va_eqt (nw_41 h0)
  | 7, _ => va_eqt (nw_42 h0)
  | 8, _ => va_eqt (nw_43 h0)
  | 9, _ => va_eqt (nw_44 h0)
  | 10, _ => va_eqt (nw_45 h0)
  | 11, _ => va_eqt (nw_46 h0)
  | 12, _ => va_eqt (nw_47 h0)
  | 13, _ => va_eqt (nw_48 h0)
  | n + 14, h => absurd h (by omega)
theorem st_t5 {x : Array Value} {s : State} (h0 : narrow_1.before x s = true) : ∀ i : Nat, i < 4 → (Term.elem (.static RX2 "STATE_OF_NEXT" "[I") (.int (Int32.ofNat i))).eval x s none [] s = some (.int (Int32.ofInt ((m_tab 5).2.2.getD i 0)))
  | 0, _ => va_eqt (nw_51 h0)
  | 1, _ => va_eqt (nw_52 h0)
  | 2, _ => va_eqt (nw_53 h0)
  | 3, _ => va_eqt (nw_54 h0)
  | n + 4, h => absurd h (by omega)
theorem wl_t2 : Cond.laysStatic RX2 "NEXT" "[I" ∈ lw_tbl := List.mem_append_right _ (List.mem_append_right _ (List.mem_append_right _ (List.mem_append_right _ (List.mem_append_left _ (List.mem_of_getElem? (l := tables_1_4) (i := 70) rfl)))))
theorem wl_t3 : Cond.laysStatic RX2 "SECOND" "[I" ∈ lw_tbl := List.mem_append_right _ (List.mem_append_right _ (List.mem_append_right _ (List.mem_append_right _ (List.mem_append_left _ (List.mem_of_getElem? (l := tables_1_4) (i := 72) rfl)))))
theorem wl_t4 : Cond.laysStatic RX2 "THIRD" "[I" ∈ lw_tbl := List.mem_append_right _ (List.mem_append_right _ (List.mem_append_right _ (List.mem_append_right _ (List.mem_append_left _ (List.mem_of_getElem? (l := tables_1_4) (i := 74) rfl)))))
theorem wl_t5 : Cond.laysStatic RX2 "STATE_OF_NEXT" "[I" ∈ lw_tbl := List.mem_append_right _ (List.mem_append_right _ (List.mem_append_right _ (List.mem_append_right _ (List.mem_append_left _ (List.mem_of_getElem? (l := tables_1_4) (i := 79) rfl)))))
theorem wl_cs : Cond.laysStatic "java/lang/String" "COMPACT_STRINGS" "Z" ∈ lw_tbl := List.mem_append_right _ (List.mem_append_right _ (List.mem_append_left _ (List.mem_of_getElem? (l := tables_1_2) (i := 133) rfl)))
theorem wl_si : Cond.laysStatic "jdk/internal/util/Preconditions" "SIOOBE_FORMATTER" "Ljava/util/function/BiFunction;" ∈ lw_tbl := List.mem_append_right _ (List.mem_append_right _ (List.mem_append_left _ (List.mem_of_getElem? (l := tables_1_2) (i := 157) rfl)))
theorem wl_js : Cond.initialized "java/lang/String" ∈ lw_tbl := List.mem_append_right _ (List.mem_append_left _ (List.mem_of_getElem? (l := tables_1_1) (i := 11) rfl))
theorem wl_jp : Cond.initialized "jdk/internal/util/Preconditions" ∈ lw_tbl := List.mem_append_right _ (List.mem_append_left _ (List.mem_of_getElem? (l := tables_1_1) (i := 13) rfl))
theorem wl_o : Cond.initialized RX2 ∈ lw_tbl := List.mem_append_right _ (List.mem_append_left _ (List.mem_of_getElem? (l := tables_1_1) (i := 6) rfl))
theorem wl_sr : ∀ (i : Nat) (q : Nat × String), s_tx[i]? = some q → Cond.stringRef RX3 q.1 q.2 ∈ lw_tbl
  | 0, _, rfl => List.mem_append_right _ (List.mem_append_right _ (List.mem_append_left _ (List.mem_of_getElem? (l := tables_1_2) (i := 119) rfl)))
  | 1, _, rfl => List.mem_append_right _ (List.mem_append_right _ (List.mem_append_left _ (List.mem_of_getElem? (l := tables_1_2) (i := 184) rfl)))
  | 2, _, rfl => List.mem_append_right _ (List.mem_append_right _ (List.mem_append_left _ (List.mem_of_getElem? (l := tables_1_2) (i := 185) rfl)))
  | 3, _, rfl => List.mem_append_right _ (List.mem_append_right _ (List.mem_append_left _ (List.mem_of_getElem? (l := tables_1_2) (i := 186) rfl)))
  | 4, _, rfl => List.mem_append_right _ (List.mem_append_right _ (List.mem_append_left _ (List.mem_of_getElem? (l := tables_1_2) (i := 187) rfl)))
  | 5, _, rfl => List.mem_append_right _ (List.mem_append_right _ (List.mem_append_left _ (List.mem_of_getElem? (l := tables_1_2) (i := 192) rfl)))
  | 6, _, rfl => List.mem_append_right _ (List.mem_append_right _ (List.mem_append_left _ (List.mem_of_getElem? (l := tables_1_2) (i := 201) rfl)))
  | 7, _, rfl => List.mem_append_right _ (List.mem_append_right _ (List.mem_append_left _ (List.mem_of_getElem? (l := tables_1_2) (i := 230) rfl)))
  | 8, _, rfl => List.mem_append_right _ (List.mem_append_right _ (List.mem_append_left _ (List.mem_of_getElem? (l := tables_1_2) (i := 239) rfl)))
  | 9, _, rfl => List.mem_append_right _ (List.mem_append_right _ (List.mem_append_right _ (List.mem_append_left _ (List.mem_of_getElem? (l := tables_1_3) (i := 0) rfl))))
  | 10, _, rfl => List.mem_append_right _ (List.mem_append_right _ (List.mem_append_right _ (List.mem_append_left _ (List.mem_of_getElem? (l := tables_1_3) (i := 1) rfl))))
  | 11, _, rfl => List.mem_append_right _ (List.mem_append_right _ (List.mem_append_right _ (List.mem_append_left _ (List.mem_of_getElem? (l := tables_1_3) (i := 2) rfl))))
  | 12, _, rfl => List.mem_append_right _ (List.mem_append_right _ (List.mem_append_right _ (List.mem_append_left _ (List.mem_of_getElem? (l := tables_1_3) (i := 3) rfl))))
  | 13, _, rfl => List.mem_append_right _ (List.mem_append_right _ (List.mem_append_right _ (List.mem_append_left _ (List.mem_of_getElem? (l := tables_1_3) (i := 4) rfl))))
  | 14, _, rfl => List.mem_append_right _ (List.mem_append_right _ (List.mem_append_right _ (List.mem_append_left _ (List.mem_of_getElem? (l := tables_1_3) (i := 5) rfl))))
  | 15, _, rfl => List.mem_append_right _ (List.mem_append_right _ (List.mem_append_right _ (List.mem_append_left _ (List.mem_of_getElem? (l := tables_1_3) (i := 6) rfl))))
  | 16, _, rfl => List.mem_append_right _ (List.mem_append_right _ (List.mem_append_right _ (List.mem_append_left _ (List.mem_of_getElem? (l := tables_1_3) (i := 19) rfl))))
  | 17, _, rfl => List.mem_append_right _ (List.mem_append_right _ (List.mem_append_right _ (List.mem_append_left _ (List.mem_of_getElem? (l := tables_1_3) (i := 20) rfl))))
  | 18, _, rfl => List.mem_append_right _ (List.mem_append_right _ (List.mem_append_right _ (List.mem_append_left _ (List.mem_of_getElem? (l := tables_1_3) (i := 21) rfl))))
  | 19, _, rfl => List.mem_append_right _ (List.mem_append_right _ (List.mem_append_right _ (List.mem_append_left _ (List.mem_of_getElem? (l := tables_1_3) (i := 22) rfl))))
  | 20, _, rfl => List.mem_append_right _ (List.mem_append_right _ (List.mem_append_right _ (List.mem_append_left _ (List.mem_of_getElem? (l := tables_1_3) (i := 28) rfl))))
  | 21, _, rfl => List.mem_append_right _ (List.mem_append_right _ (List.mem_append_right _ (List.mem_append_left _ (List.mem_of_getElem? (l := tables_1_3) (i := 37) rfl))))
  | n + 22, _, h => by cases h
theorem wl_n : ∀ w ∈ m_nst, w ∈ lw_tbl := by
  intro w hw
  simp only [m_nst, List.mem_cons, List.not_mem_nil, or_false] at hw
  rcases hw with rfl | rfl | rfl | rfl | rfl | rfl
  · exact List.mem_append_right _ (List.mem_append_left _ (List.mem_of_getElem? (l := tables_1_1) (i := 32) rfl))
  · exact List.mem_append_right _ (List.mem_append_right _ (List.mem_append_left _ (List.mem_of_getElem? (l := tables_1_2) (i := 32) rfl)))
  · exact List.mem_append_right _ (List.mem_append_right _ (List.mem_append_right _ (List.mem_append_left _ (List.mem_of_getElem? (l := tables_1_3) (i := 90) rfl))))
  · exact List.mem_append_right _ (List.mem_append_right _ (List.mem_append_right _ (List.mem_append_left _ (List.mem_of_getElem? (l := tables_1_3) (i := 107) rfl))))
  · exact List.mem_append_right _ (List.mem_append_right _ (List.mem_append_right _ (List.mem_append_right _ (List.mem_append_left _ (List.mem_of_getElem? (l := tables_1_4) (i := 96) rfl)))))
  · exact List.mem_append_right _ (List.mem_append_left _ (List.mem_of_getElem? (l := tables_1_1) (i := 176) rfl))
