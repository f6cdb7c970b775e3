def lw_g : List Cond := lw_tbl.filter goodWord
theorem gd_ {w : Cond} (h : w ∈ lw_tbl) (hg : goodWord w = true) : w ∈ lw_g := List.mem_filter.mpr ⟨h, hg⟩
theorem in_tb {w : Cond} (h : w ∈ tables_1) : w ∈ lw_tbl := List.mem_append_right _ h
theorem in_t1 {w : Cond} (h : w ∈ tables_1_1) : w ∈ lw_tbl := in_tb (List.mem_append_left _ h)
theorem in_t2 {w : Cond} (h : w ∈ tables_1_2) : w ∈ lw_tbl := in_tb (List.mem_append_right _ (List.mem_append_left _ h))
theorem in_t3 {w : Cond} (h : w ∈ tables_1_3) : w ∈ lw_tbl := in_tb (List.mem_append_right _ (List.mem_append_right _ (List.mem_append_left _ h)))
theorem in_t4 {w : Cond} (h : w ∈ tables_1_4) : w ∈ lw_tbl := in_tb (List.mem_append_right _ (List.mem_append_right _ (List.mem_append_right _ (List.mem_append_left _ h))))
theorem in_t5 {w : Cond} (h : w ∈ tables_1_5) : w ∈ lw_tbl := in_tb (List.mem_append_right _ (List.mem_append_right _ (List.mem_append_right _ (List.mem_append_right _ h))))
theorem ini_L : Cond.initialized RL ∈ lw_g := gd_ (in_t1 (List.mem_of_getElem? (i := 0) (by decide +kernel))) rfl
theorem ini_X3 : Cond.initialized RX3 ∈ lw_g := gd_ (in_t1 (List.mem_of_getElem? (i := 1) (by decide +kernel))) rfl
theorem ini_X4 : Cond.initialized RX4 ∈ lw_g := gd_ (in_t1 (List.mem_of_getElem? (i := 2) (by decide +kernel))) rfl
theorem ini_J6 : Cond.initialized RJ6 ∈ lw_g := gd_ (in_t1 (List.mem_of_getElem? (i := 3) (by decide +kernel))) rfl
theorem ini_X2 : Cond.initialized RX2 ∈ lw_g := gd_ (in_t1 (List.mem_of_getElem? (i := 4) (by decide +kernel))) rfl
theorem ini_X0 : Cond.initialized RX0 ∈ lw_g := gd_ (in_t1 (List.mem_of_getElem? (i := 5) (by decide +kernel))) rfl
theorem ini_X1 : Cond.initialized RX1 ∈ lw_g := gd_ (in_t1 (List.mem_of_getElem? (i := 6) (by decide +kernel))) rfl
theorem ini_J7 : Cond.initialized RJ7 ∈ lw_g := gd_ (in_t1 (List.mem_of_getElem? (i := 7) (by decide +kernel))) rfl
theorem ini_J10 : Cond.initialized RJ10 ∈ lw_g := gd_ (in_t1 (List.mem_of_getElem? (i := 8) (by decide +kernel))) rfl
theorem ini_J9 : Cond.initialized RJ9 ∈ lw_g := gd_ (in_t1 (List.mem_of_getElem? (i := 9) (by decide +kernel))) rfl
theorem cl_L_7 : Cond.classLink RL 7 RX3 ∈ lw_g := gd_ (in_t1 (List.mem_of_getElem? (i := 10) (by decide +kernel))) rfl
theorem ib_X3 : Cond.instantiable RX3 12 ∈ lw_g := gd_ (in_t1 (List.mem_of_getElem? (i := 11) (by decide +kernel))) rfl
theorem ml_L_9 : Cond.methodLink RL 9 yX3_init ∈ lw_g := gd_ (in_t1 (List.mem_of_getElem? (i := 12) (by decide +kernel))) rfl
theorem im_X3_init : Cond.instanceMethod yX3_init ∈ lw_g := gd_ (in_t1 (List.mem_of_getElem? (i := 13) (by decide +kernel))) rfl
theorem co_X3_init : Cond.code yX3_init cX3_init 1 (Option.none : Option Jvm.ClassFile.FieldType) ∈ lw_g := gd_ (in_t1 (List.mem_of_getElem? (i := 14) (by decide +kernel))) rfl
theorem ml_X3_1 : Cond.methodLink RX3 1 (⟨"java/lang/Object", "<init>", "()V"⟩ : MethodName) ∈ lw_g := gd_ (in_t1 (List.mem_of_getElem? (i := 15) (by decide +kernel))) rfl
theorem im_java_lang_Object_init_ : Cond.instanceMethod (⟨"java/lang/Object", "<init>", "()V"⟩ : MethodName) ∈ lw_g := gd_ (in_t1 (List.mem_of_getElem? (i := 16) (by decide +kernel))) rfl
theorem co_java_lang_Object_init_ : Cond.code (⟨"java/lang/Object", "<init>", "()V"⟩ : MethodName) object_method_1_code 1 (Option.none : Option Jvm.ClassFile.FieldType) ∈ lw_g := gd_ (in_t1 (List.mem_of_getElem? (i := 17) (by decide +kernel))) rfl
theorem cl_X3_9 : Cond.classLink RX3 9 RX2 ∈ lw_g := gd_ (in_t1 (List.mem_of_getElem? (i := 18) (by decide +kernel))) rfl
theorem aro_Jvm_ClassFile_FieldType_object_RingPost_Ring : Cond.arrayOver (Jvm.ClassFile.FieldType.object "RingPost$Ring") ∈ lw_tbl := in_t1 (List.mem_of_getElem? (i := 19) (by decide +kernel))
theorem cl_X3_15 : Cond.classLink RX3 15 RX1 ∈ lw_g := gd_ (in_t1 (List.mem_of_getElem? (i := 20) (by decide +kernel))) rfl
theorem aro_Jvm_ClassFile_FieldType_object_RingPost_Reader : Cond.arrayOver (Jvm.ClassFile.FieldType.object "RingPost$Reader") ∈ lw_tbl := in_t1 (List.mem_of_getElem? (i := 21) (by decide +kernel))
theorem fl_X3_11 : Cond.fieldLink RX3 11 "RingPost" "rings" "[LRingPost$Ring;" ∈ lw_g := gd_ (in_t1 (List.mem_of_getElem? (i := 22) (by decide +kernel))) rfl
theorem fl_X3_17 : Cond.fieldLink RX3 17 "RingPost" "readers" "[LRingPost$Reader;" ∈ lw_g := gd_ (in_t1 (List.mem_of_getElem? (i := 23) (by decide +kernel))) rfl
theorem fl_X3_21 : Cond.fieldLink RX3 21 "RingPost" "findings" "[I" ∈ lw_g := gd_ (in_t1 (List.mem_of_getElem? (i := 24) (by decide +kernel))) rfl
theorem fl_X3_25 : Cond.fieldLink RX3 25 "RingPost" "chain" "[I" ∈ lw_g := gd_ (in_t1 (List.mem_of_getElem? (i := 25) (by decide +kernel))) rfl
theorem fl_X3_45 : Cond.fieldLink RX3 45 "RingPost" "ringCount" "I" ∈ lw_g := gd_ (in_t1 (List.mem_of_getElem? (i := 26) (by decide +kernel))) rfl
theorem fl_X3_66 : Cond.fieldLink RX3 66 "RingPost" "readerCount" "I" ∈ lw_g := gd_ (in_t1 (List.mem_of_getElem? (i := 27) (by decide +kernel))) rfl
theorem fl_X3_51 : Cond.fieldLink RX3 51 "RingPost" "rowCount" "I" ∈ lw_g := gd_ (in_t1 (List.mem_of_getElem? (i := 28) (by decide +kernel))) rfl
theorem fl_X3_249 : Cond.fieldLink RX3 249 "RingPost" "latestFinding" "I" ∈ lw_g := gd_ (in_t1 (List.mem_of_getElem? (i := 29) (by decide +kernel))) rfl
theorem fl_X3_118 : Cond.fieldLink RX3 118 "RingPost" "chainLength" "I" ∈ lw_g := gd_ (in_t1 (List.mem_of_getElem? (i := 30) (by decide +kernel))) rfl
theorem fl_X3_125 : Cond.fieldLink RX3 125 "RingPost" "latestRefusal" "I" ∈ lw_g := gd_ (in_t1 (List.mem_of_getElem? (i := 31) (by decide +kernel))) rfl
theorem fl_X3_28 : Cond.fieldLink RX3 28 "RingPost" "latestBy" "I" ∈ lw_g := gd_ (in_t1 (List.mem_of_getElem? (i := 32) (by decide +kernel))) rfl
theorem fl_X3_41 : Cond.fieldLink RX3 41 "RingPost" "begun" "Z" ∈ lw_g := gd_ (in_t1 (List.mem_of_getElem? (i := 33) (by decide +kernel))) rfl
theorem arc_Jvm_ClassFile_FieldType_int : Cond.arrayClass Jvm.ClassFile.FieldType.int ∈ lw_g := gd_ (in_t1 (List.mem_of_getElem? (i := 59) (by decide +kernel))) rfl
theorem ml_L_13 : Cond.methodLink RL 13 yX3_ring ∈ lw_g := gd_ (in_t1 (List.mem_of_getElem? (i := 60) (by decide +kernel))) rfl
theorem im_X3_ring : Cond.instanceMethod yX3_ring ∈ lw_g := gd_ (in_t1 (List.mem_of_getElem? (i := 61) (by decide +kernel))) rfl
theorem se_X3_ring : Cond.selects RX3 yX3_ring yX3_ring ∈ lw_g := gd_ (in_t1 (List.mem_of_getElem? (i := 62) (by decide +kernel))) rfl
theorem co_X3_ring : Cond.code yX3_ring cX3_ring 3 (Option.some Jvm.ClassFile.FieldType.int) ∈ lw_g := gd_ (in_t1 (List.mem_of_getElem? (i := 63) (by decide +kernel))) rfl
theorem ml_X3_32 : Cond.methodLink RX3 32 yX3_finding ∈ lw_g := gd_ (in_t1 (List.mem_of_getElem? (i := 64) (by decide +kernel))) rfl
theorem im_X3_finding : Cond.instanceMethod yX3_finding ∈ lw_g := gd_ (in_t1 (List.mem_of_getElem? (i := 66) (by decide +kernel))) rfl
theorem co_X3_finding : Cond.code yX3_finding cX3_finding 2 (Option.some Jvm.ClassFile.FieldType.int) ∈ lw_g := gd_ (in_t1 (List.mem_of_getElem? (i := 67) (by decide +kernel))) rfl
theorem ml_X3_36 : Cond.methodLink RX3 36 yJ6_bitCount_0f7a4 ∈ lw_g := gd_ (in_t1 (List.mem_of_getElem? (i := 68) (by decide +kernel))) rfl
theorem sta_J6_bitCount_0f7a4 : Cond.static yJ6_bitCount_0f7a4 ∈ lw_g := gd_ (in_t1 (List.mem_of_getElem? (i := 69) (by decide +kernel))) rfl
theorem co_J6_bitCount_0f7a4 : Cond.code yJ6_bitCount_0f7a4 cJ6_bitCount_0f7a4 1 (Option.some Jvm.ClassFile.FieldType.int) ∈ lw_g := gd_ (in_t1 (List.mem_of_getElem? (i := 70) (by decide +kernel))) rfl
theorem cn_J6_265 : Cond.constant RJ6 265 (1431655765 : Int32) ∈ lw_g := gd_ (in_t1 (List.mem_of_getElem? (i := 71) (by decide +kernel))) rfl
theorem cn_J6_266 : Cond.constant RJ6 266 (858993459 : Int32) ∈ lw_g := gd_ (in_t1 (List.mem_of_getElem? (i := 72) (by decide +kernel))) rfl
theorem cn_J6_267 : Cond.constant RJ6 267 (252645135 : Int32) ∈ lw_g := gd_ (in_t1 (List.mem_of_getElem? (i := 73) (by decide +kernel))) rfl
theorem ib_X2 : Cond.instantiable RX2 7 ∈ lw_g := gd_ (in_t1 (List.mem_of_getElem? (i := 74) (by decide +kernel))) rfl
theorem ml_X3_48 : Cond.methodLink RX3 48 yX2_init ∈ lw_g := gd_ (in_t1 (List.mem_of_getElem? (i := 75) (by decide +kernel))) rfl
theorem im_X2_init : Cond.instanceMethod yX2_init ∈ lw_g := gd_ (in_t1 (List.mem_of_getElem? (i := 76) (by decide +kernel))) rfl
theorem co_X2_init : Cond.code yX2_init cX2_init 4 (Option.none : Option Jvm.ClassFile.FieldType) ∈ lw_g := gd_ (in_t1 (List.mem_of_getElem? (i := 77) (by decide +kernel))) rfl
theorem ml_X2_1 : Cond.methodLink RX2 1 (⟨"java/lang/Object", "<init>", "()V"⟩ : MethodName) ∈ lw_g := gd_ (in_t1 (List.mem_of_getElem? (i := 78) (by decide +kernel))) rfl
theorem cl_X2_16 : Cond.classLink RX2 16 RX0 ∈ lw_g := gd_ (in_t1 (List.mem_of_getElem? (i := 79) (by decide +kernel))) rfl
theorem aro_Jvm_ClassFile_FieldType_object_RingPost_Message : Cond.arrayOver (Jvm.ClassFile.FieldType.object "RingPost$Message") ∈ lw_tbl := in_t1 (List.mem_of_getElem? (i := 80) (by decide +kernel))
theorem ib_X0 : Cond.instantiable RX0 7 ∈ lw_g := gd_ (in_t1 (List.mem_of_getElem? (i := 81) (by decide +kernel))) rfl
theorem ml_X2_22 : Cond.methodLink RX2 22 yX0_init ∈ lw_g := gd_ (in_t1 (List.mem_of_getElem? (i := 82) (by decide +kernel))) rfl
theorem im_X0_init : Cond.instanceMethod yX0_init ∈ lw_g := gd_ (in_t1 (List.mem_of_getElem? (i := 83) (by decide +kernel))) rfl
theorem co_X0_init : Cond.code yX0_init cX0_init 1 (Option.none : Option Jvm.ClassFile.FieldType) ∈ lw_g := gd_ (in_t1 (List.mem_of_getElem? (i := 84) (by decide +kernel))) rfl
theorem ml_X0_3 : Cond.methodLink RX0 3 (⟨"java/lang/Object", "<init>", "()V"⟩ : MethodName) ∈ lw_g := gd_ (in_t1 (List.mem_of_getElem? (i := 85) (by decide +kernel))) rfl
theorem fl_X0_9 : Cond.fieldLink RX0 9 "RingPost$Message" "longs" "[J" ∈ lw_g := gd_ (in_t1 (List.mem_of_getElem? (i := 86) (by decide +kernel))) rfl
theorem fl_X3_135 : Cond.fieldLink RX3 135 "RingPost$Message" "longs" "[J" ∈ lw_g := gd_ (in_t1 (List.mem_of_getElem? (i := 87) (by decide +kernel))) rfl
theorem fl_X0_19 : Cond.fieldLink RX0 19 "RingPost$Message" "ring" "I" ∈ lw_g := gd_ (in_t1 (List.mem_of_getElem? (i := 88) (by decide +kernel))) rfl
theorem fl_X3_194 : Cond.fieldLink RX3 194 "RingPost$Message" "ring" "I" ∈ lw_g := gd_ (in_t1 (List.mem_of_getElem? (i := 89) (by decide +kernel))) rfl
theorem fl_X0_15 : Cond.fieldLink RX0 15 "RingPost$Message" "number" "I" ∈ lw_g := gd_ (in_t1 (List.mem_of_getElem? (i := 90) (by decide +kernel))) rfl
theorem fl_X1_106 : Cond.fieldLink RX1 106 "RingPost$Message" "number" "I" ∈ lw_g := gd_ (in_t1 (List.mem_of_getElem? (i := 91) (by decide +kernel))) rfl
theorem fl_X3_191 : Cond.fieldLink RX3 191 "RingPost$Message" "number" "I" ∈ lw_g := gd_ (in_t1 (List.mem_of_getElem? (i := 92) (by decide +kernel))) rfl
theorem fl_X0_22 : Cond.fieldLink RX0 22 "RingPost$Message" "stamp" "J" ∈ lw_g := gd_ (in_t1 (List.mem_of_getElem? (i := 93) (by decide +kernel))) rfl
theorem fl_X3_197 : Cond.fieldLink RX3 197 "RingPost$Message" "stamp" "J" ∈ lw_g := gd_ (in_t1 (List.mem_of_getElem? (i := 94) (by decide +kernel))) rfl
theorem fl_X0_26 : Cond.fieldLink RX0 26 "RingPost$Message" "key" "I" ∈ lw_g := gd_ (in_t1 (List.mem_of_getElem? (i := 95) (by decide +kernel))) rfl
theorem fl_X1_103 : Cond.fieldLink RX1 103 "RingPost$Message" "key" "I" ∈ lw_g := gd_ (in_t1 (List.mem_of_getElem? (i := 96) (by decide +kernel))) rfl
theorem fl_X3_200 : Cond.fieldLink RX3 200 "RingPost$Message" "key" "I" ∈ lw_g := gd_ (in_t1 (List.mem_of_getElem? (i := 97) (by decide +kernel))) rfl
theorem fl_X0_29 : Cond.fieldLink RX0 29 "RingPost$Message" "length" "I" ∈ lw_g := gd_ (in_t1 (List.mem_of_getElem? (i := 98) (by decide +kernel))) rfl
theorem fl_X3_203 : Cond.fieldLink RX3 203 "RingPost$Message" "length" "I" ∈ lw_g := gd_ (in_t1 (List.mem_of_getElem? (i := 99) (by decide +kernel))) rfl
theorem fl_X0_32 : Cond.fieldLink RX0 32 "RingPost$Message" "open" "Z" ∈ lw_g := gd_ (in_t1 (List.mem_of_getElem? (i := 100) (by decide +kernel))) rfl
theorem fl_X2_37 : Cond.fieldLink RX2 37 "RingPost$Message" "open" "Z" ∈ lw_g := gd_ (in_t1 (List.mem_of_getElem? (i := 101) (by decide +kernel))) rfl
theorem fl_X3_279 : Cond.fieldLink RX3 279 "RingPost$Message" "open" "Z" ∈ lw_g := gd_ (in_t1 (List.mem_of_getElem? (i := 102) (by decide +kernel))) rfl
theorem arc_Jvm_ClassFile_FieldType_long : Cond.arrayClass Jvm.ClassFile.FieldType.long ∈ lw_g := gd_ (in_t1 (List.mem_of_getElem? (i := 118) (by decide +kernel))) rfl
theorem fl_X2_7 : Cond.fieldLink RX2 7 "RingPost$Ring" "number" "I" ∈ lw_g := gd_ (in_t1 (List.mem_of_getElem? (i := 119) (by decide +kernel))) rfl
theorem fl_X3_98 : Cond.fieldLink RX3 98 "RingPost$Ring" "number" "I" ∈ lw_g := gd_ (in_t1 (List.mem_of_getElem? (i := 120) (by decide +kernel))) rfl
theorem fl_X1_61 : Cond.fieldLink RX1 61 "RingPost$Ring" "number" "I" ∈ lw_g := gd_ (in_t1 (List.mem_of_getElem? (i := 121) (by decide +kernel))) rfl
theorem fl_X2_13 : Cond.fieldLink RX2 13 "RingPost$Ring" "slots" "I" ∈ lw_g := gd_ (in_t1 (List.mem_of_getElem? (i := 122) (by decide +kernel))) rfl
theorem fl_X1_77 : Cond.fieldLink RX1 77 "RingPost$Ring" "slots" "I" ∈ lw_g := gd_ (in_t1 (List.mem_of_getElem? (i := 123) (by decide +kernel))) rfl
theorem fl_X3_169 : Cond.fieldLink RX3 169 "RingPost$Ring" "slots" "I" ∈ lw_g := gd_ (in_t1 (List.mem_of_getElem? (i := 124) (by decide +kernel))) rfl
theorem fl_X2_18 : Cond.fieldLink RX2 18 "RingPost$Ring" "row" "[LRingPost$Message;" ∈ lw_g := gd_ (in_t1 (List.mem_of_getElem? (i := 125) (by decide +kernel))) rfl
theorem fl_X2_30 : Cond.fieldLink RX2 30 "RingPost$Ring" "claimed" "I" ∈ lw_g := gd_ (in_t1 (List.mem_of_getElem? (i := 126) (by decide +kernel))) rfl
theorem fl_X1_74 : Cond.fieldLink RX1 74 "RingPost$Ring" "claimed" "I" ∈ lw_g := gd_ (in_t1 (List.mem_of_getElem? (i := 127) (by decide +kernel))) rfl
theorem fl_X3_162 : Cond.fieldLink RX3 162 "RingPost$Ring" "claimed" "I" ∈ lw_g := gd_ (in_t1 (List.mem_of_getElem? (i := 128) (by decide +kernel))) rfl
theorem fl_X2_48 : Cond.fieldLink RX2 48 "RingPost$Ring" "latestStamp" "J" ∈ lw_g := gd_ (in_t1 (List.mem_of_getElem? (i := 129) (by decide +kernel))) rfl
theorem fl_X3_183 : Cond.fieldLink RX3 183 "RingPost$Ring" "latestStamp" "J" ∈ lw_g := gd_ (in_t1 (List.mem_of_getElem? (i := 130) (by decide +kernel))) rfl
theorem fl_X2_27 : Cond.fieldLink RX2 27 "RingPost$Ring" "closed" "Z" ∈ lw_g := gd_ (in_t1 (List.mem_of_getElem? (i := 131) (by decide +kernel))) rfl
theorem fl_X3_155 : Cond.fieldLink RX3 155 "RingPost$Ring" "closed" "Z" ∈ lw_g := gd_ (in_t1 (List.mem_of_getElem? (i := 132) (by decide +kernel))) rfl
theorem fl_X2_23 : Cond.fieldLink RX2 23 "RingPost$Ring" "given" "Z" ∈ lw_g := gd_ (in_t1 (List.mem_of_getElem? (i := 133) (by decide +kernel))) rfl
theorem fl_X1_70 : Cond.fieldLink RX1 70 "RingPost$Ring" "given" "Z" ∈ lw_g := gd_ (in_t1 (List.mem_of_getElem? (i := 134) (by decide +kernel))) rfl
theorem fl_X3_128 : Cond.fieldLink RX3 128 "RingPost$Ring" "given" "Z" ∈ lw_g := gd_ (in_t1 (List.mem_of_getElem? (i := 135) (by decide +kernel))) rfl
theorem ml_L_18 : Cond.methodLink RL 18 yX3_reader ∈ lw_g := gd_ (in_t1 (List.mem_of_getElem? (i := 151) (by decide +kernel))) rfl
theorem im_X3_reader : Cond.instanceMethod yX3_reader ∈ lw_g := gd_ (in_t1 (List.mem_of_getElem? (i := 152) (by decide +kernel))) rfl
theorem se_X3_reader : Cond.selects RX3 yX3_reader yX3_reader ∈ lw_g := gd_ (in_t1 (List.mem_of_getElem? (i := 153) (by decide +kernel))) rfl
theorem co_X3_reader : Cond.code yX3_reader cX3_reader 6 (Option.some Jvm.ClassFile.FieldType.int) ∈ lw_g := gd_ (in_t1 (List.mem_of_getElem? (i := 154) (by decide +kernel))) rfl
theorem ml_X3_54 : Cond.methodLink RX3 54 yX3_ringAt ∈ lw_g := gd_ (in_t1 (List.mem_of_getElem? (i := 155) (by decide +kernel))) rfl
theorem im_X3_ringAt : Cond.instanceMethod yX3_ringAt ∈ lw_g := gd_ (in_t1 (List.mem_of_getElem? (i := 157) (by decide +kernel))) rfl
theorem co_X3_ringAt : Cond.code yX3_ringAt cX3_ringAt 2 (Option.some (Jvm.ClassFile.FieldType.object "RingPost$Ring")) ∈ lw_g := gd_ (in_t1 (List.mem_of_getElem? (i := 158) (by decide +kernel))) rfl
theorem ml_X3_58 : Cond.methodLink RX3 58 yX3_otherMayBe ∈ lw_g := gd_ (in_t1 (List.mem_of_getElem? (i := 159) (by decide +kernel))) rfl
theorem im_X3_otherMayBe : Cond.instanceMethod yX3_otherMayBe ∈ lw_g := gd_ (in_t1 (List.mem_of_getElem? (i := 161) (by decide +kernel))) rfl
theorem co_X3_otherMayBe : Cond.code yX3_otherMayBe cX3_otherMayBe 4 (Option.some Jvm.ClassFile.FieldType.boolean) ∈ lw_g := gd_ (in_t1 (List.mem_of_getElem? (i := 162) (by decide +kernel))) rfl
theorem ml_X3_73 : Cond.methodLink RX3 73 yX3_readerAt ∈ lw_g := gd_ (in_t1 (List.mem_of_getElem? (i := 163) (by decide +kernel))) rfl
theorem im_X3_readerAt : Cond.instanceMethod yX3_readerAt ∈ lw_g := gd_ (in_t1 (List.mem_of_getElem? (i := 165) (by decide +kernel))) rfl
theorem co_X3_readerAt : Cond.code yX3_readerAt cX3_readerAt 2 (Option.some (Jvm.ClassFile.FieldType.object "RingPost$Reader")) ∈ lw_g := gd_ (in_t1 (List.mem_of_getElem? (i := 166) (by decide +kernel))) rfl
theorem ml_X3_62 : Cond.methodLink RX3 62 yX3_placeOf ∈ lw_g := gd_ (in_t1 (List.mem_of_getElem? (i := 167) (by decide +kernel))) rfl
theorem im_X3_placeOf : Cond.instanceMethod yX3_placeOf ∈ lw_g := gd_ (in_t1 (List.mem_of_getElem? (i := 169) (by decide +kernel))) rfl
theorem co_X3_placeOf : Cond.code yX3_placeOf cX3_placeOf 4 (Option.some Jvm.ClassFile.FieldType.int) ∈ lw_g := gd_ (in_t1 (List.mem_of_getElem? (i := 170) (by decide +kernel))) rfl
theorem ml_X3_80 : Cond.methodLink RX3 80 yX1_placeIn ∈ lw_g := gd_ (in_t1 (List.mem_of_getElem? (i := 171) (by decide +kernel))) rfl
theorem im_X1_placeIn : Cond.instanceMethod yX1_placeIn ∈ lw_g := gd_ (in_t1 (List.mem_of_getElem? (i := 172) (by decide +kernel))) rfl
theorem se_X1_placeIn : Cond.selects RX1 yX1_placeIn yX1_placeIn ∈ lw_g := gd_ (in_t1 (List.mem_of_getElem? (i := 173) (by decide +kernel))) rfl
theorem co_X1_placeIn : Cond.code yX1_placeIn cX1_placeIn 2 (Option.some Jvm.ClassFile.FieldType.int) ∈ lw_g := gd_ (in_t1 (List.mem_of_getElem? (i := 174) (by decide +kernel))) rfl
theorem ml_X3_69 : Cond.methodLink RX3 69 yX3_newReader ∈ lw_g := gd_ (in_t1 (List.mem_of_getElem? (i := 175) (by decide +kernel))) rfl
theorem im_X3_newReader : Cond.instanceMethod yX3_newReader ∈ lw_g := gd_ (in_t1 (List.mem_of_getElem? (i := 177) (by decide +kernel))) rfl
theorem co_X3_newReader : Cond.code yX3_newReader cX3_newReader 5 (Option.some (Jvm.ClassFile.FieldType.object "RingPost$Reader")) ∈ lw_g := gd_ (in_t1 (List.mem_of_getElem? (i := 178) (by decide +kernel))) rfl
theorem ib_X1 : Cond.instantiable RX1 15 ∈ lw_g := gd_ (in_t1 (List.mem_of_getElem? (i := 179) (by decide +kernel))) rfl
theorem ml_X3_252 : Cond.methodLink RX3 252 yX1_init ∈ lw_g := gd_ (in_t1 (List.mem_of_getElem? (i := 180) (by decide +kernel))) rfl
theorem im_X1_init : Cond.instanceMethod yX1_init ∈ lw_g := gd_ (in_t1 (List.mem_of_getElem? (i := 181) (by decide +kernel))) rfl
theorem co_X1_init : Cond.code yX1_init cX1_init 5 (Option.none : Option Jvm.ClassFile.FieldType) ∈ lw_g := gd_ (in_t1 (List.mem_of_getElem? (i := 182) (by decide +kernel))) rfl
theorem ml_X1_3 : Cond.methodLink RX1 3 (⟨"java/lang/Object", "<init>", "()V"⟩ : MethodName) ∈ lw_g := gd_ (in_t1 (List.mem_of_getElem? (i := 183) (by decide +kernel))) rfl
theorem cl_X1_22 : Cond.classLink RX1 22 RX0 ∈ lw_g := gd_ (in_t1 (List.mem_of_getElem? (i := 184) (by decide +kernel))) rfl
theorem ml_X1_24 : Cond.methodLink RX1 24 yX0_init ∈ lw_g := gd_ (in_t1 (List.mem_of_getElem? (i := 185) (by decide +kernel))) rfl
theorem ml_X1_33 : Cond.methodLink RX1 33 yJ7_fill_53178 ∈ lw_g := gd_ (in_t1 (List.mem_of_getElem? (i := 186) (by decide +kernel))) rfl
theorem sta_J7_fill_53178 : Cond.static yJ7_fill_53178 ∈ lw_g := gd_ (in_t1 (List.mem_of_getElem? (i := 187) (by decide +kernel))) rfl
theorem co_J7_fill_53178 : Cond.code yJ7_fill_53178 cJ7_fill_53178 4 (Option.none : Option Jvm.ClassFile.FieldType) ∈ lw_g := gd_ (in_t1 (List.mem_of_getElem? (i := 188) (by decide +kernel))) rfl
theorem fl_X1_9 : Cond.fieldLink RX1 9 "RingPost$Reader" "kind" "I" ∈ lw_g := gd_ (in_t1 (List.mem_of_getElem? (i := 189) (by decide +kernel))) rfl
theorem fl_X3_77 : Cond.fieldLink RX3 77 "RingPost$Reader" "kind" "I" ∈ lw_g := gd_ (in_t1 (List.mem_of_getElem? (i := 190) (by decide +kernel))) rfl
theorem fl_X1_15 : Cond.fieldLink RX1 15 "RingPost$Reader" "home" "LRingPost$Ring;" ∈ lw_g := gd_ (in_t1 (List.mem_of_getElem? (i := 191) (by decide +kernel))) rfl
theorem fl_X3_94 : Cond.fieldLink RX3 94 "RingPost$Reader" "home" "LRingPost$Ring;" ∈ lw_g := gd_ (in_t1 (List.mem_of_getElem? (i := 192) (by decide +kernel))) rfl
theorem fl_X1_19 : Cond.fieldLink RX1 19 "RingPost$Reader" "target" "LRingPost$Ring;" ∈ lw_g := gd_ (in_t1 (List.mem_of_getElem? (i := 193) (by decide +kernel))) rfl
theorem fl_X3_228 : Cond.fieldLink RX3 228 "RingPost$Reader" "target" "LRingPost$Ring;" ∈ lw_g := gd_ (in_t1 (List.mem_of_getElem? (i := 194) (by decide +kernel))) rfl
theorem fl_X1_25 : Cond.fieldLink RX1 25 "RingPost$Reader" "kept" "LRingPost$Message;" ∈ lw_g := gd_ (in_t1 (List.mem_of_getElem? (i := 195) (by decide +kernel))) rfl
theorem fl_X3_141 : Cond.fieldLink RX3 141 "RingPost$Reader" "kept" "LRingPost$Message;" ∈ lw_g := gd_ (in_t1 (List.mem_of_getElem? (i := 196) (by decide +kernel))) rfl
theorem fl_X1_29 : Cond.fieldLink RX1 29 "RingPost$Reader" "places" "[I" ∈ lw_g := gd_ (in_t1 (List.mem_of_getElem? (i := 197) (by decide +kernel))) rfl
theorem fl_X1_39 : Cond.fieldLink RX1 39 "RingPost$Reader" "names" "[I" ∈ lw_g := gd_ (in_t1 (List.mem_of_getElem? (i := 198) (by decide +kernel))) rfl
theorem fl_X3_221 : Cond.fieldLink RX3 221 "RingPost$Reader" "names" "[I" ∈ lw_g := gd_ (in_t1 (List.mem_of_getElem? (i := 199) (by decide +kernel))) rfl
theorem fl_X1_42 : Cond.fieldLink RX1 42 "RingPost$Reader" "entries" "[LRingPost$Message;" ∈ lw_g := gd_ (in_t1 (List.mem_of_getElem? (i := 200) (by decide +kernel))) rfl
theorem fl_X3_224 : Cond.fieldLink RX3 224 "RingPost$Reader" "entries" "[LRingPost$Message;" ∈ lw_g := gd_ (in_t1 (List.mem_of_getElem? (i := 201) (by decide +kernel))) rfl
theorem fl_X3_83 : Cond.fieldLink RX3 83 "RingPost$Reader" "placeCount" "I" ∈ lw_g := gd_ (in_t1 (List.mem_of_getElem? (i := 202) (by decide +kernel))) rfl
theorem fl_X1_58 : Cond.fieldLink RX1 58 "RingPost$Reader" "placeCount" "I" ∈ lw_g := gd_ (in_t1 (List.mem_of_getElem? (i := 203) (by decide +kernel))) rfl
theorem fl_X1_55 : Cond.fieldLink RX1 55 "RingPost$Reader" "nameCount" "I" ∈ lw_g := gd_ (in_t1 (List.mem_of_getElem? (i := 204) (by decide +kernel))) rfl
theorem fl_X3_105 : Cond.fieldLink RX3 105 "RingPost$Reader" "nameCount" "I" ∈ lw_g := gd_ (in_t1 (List.mem_of_getElem? (i := 205) (by decide +kernel))) rfl
theorem fl_X1_52 : Cond.fieldLink RX1 52 "RingPost$Reader" "nameBits" "I" ∈ lw_g := gd_ (in_t1 (List.mem_of_getElem? (i := 206) (by decide +kernel))) rfl
theorem fl_X3_258 : Cond.fieldLink RX3 258 "RingPost$Reader" "nameBits" "I" ∈ lw_g := gd_ (in_t1 (List.mem_of_getElem? (i := 207) (by decide +kernel))) rfl
theorem fl_X1_100 : Cond.fieldLink RX1 100 "RingPost$Reader" "entryCount" "I" ∈ lw_g := gd_ (in_t1 (List.mem_of_getElem? (i := 208) (by decide +kernel))) rfl
theorem fl_X3_215 : Cond.fieldLink RX3 215 "RingPost$Reader" "entryCount" "I" ∈ lw_g := gd_ (in_t1 (List.mem_of_getElem? (i := 209) (by decide +kernel))) rfl
theorem fl_X1_97 : Cond.fieldLink RX1 97 "RingPost$Reader" "gotCount" "I" ∈ lw_g := gd_ (in_t1 (List.mem_of_getElem? (i := 210) (by decide +kernel))) rfl
theorem fl_X3_218 : Cond.fieldLink RX3 218 "RingPost$Reader" "gotCount" "I" ∈ lw_g := gd_ (in_t1 (List.mem_of_getElem? (i := 211) (by decide +kernel))) rfl
theorem fl_X1_90 : Cond.fieldLink RX1 90 "RingPost$Reader" "missedCount" "I" ∈ lw_g := gd_ (in_t1 (List.mem_of_getElem? (i := 212) (by decide +kernel))) rfl
theorem fl_X3_206 : Cond.fieldLink RX3 206 "RingPost$Reader" "missedCount" "I" ∈ lw_g := gd_ (in_t1 (List.mem_of_getElem? (i := 213) (by decide +kernel))) rfl
theorem fl_X1_46 : Cond.fieldLink RX1 46 "RingPost$Reader" "spanFirst" "I" ∈ lw_g := gd_ (in_t1 (List.mem_of_getElem? (i := 214) (by decide +kernel))) rfl
theorem fl_X3_209 : Cond.fieldLink RX3 209 "RingPost$Reader" "spanFirst" "I" ∈ lw_g := gd_ (in_t1 (List.mem_of_getElem? (i := 215) (by decide +kernel))) rfl
theorem fl_X1_49 : Cond.fieldLink RX1 49 "RingPost$Reader" "spanLast" "I" ∈ lw_g := gd_ (in_t1 (List.mem_of_getElem? (i := 216) (by decide +kernel))) rfl
theorem fl_X3_212 : Cond.fieldLink RX3 212 "RingPost$Reader" "spanLast" "I" ∈ lw_g := gd_ (in_t1 (List.mem_of_getElem? (i := 217) (by decide +kernel))) rfl
theorem ml_X3_86 : Cond.methodLink RX3 86 yX1_standIn ∈ lw_g := gd_ (in_t2 (List.mem_of_getElem? (i := 9) (by decide +kernel))) rfl
theorem im_X1_standIn : Cond.instanceMethod yX1_standIn ∈ lw_g := gd_ (in_t2 (List.mem_of_getElem? (i := 10) (by decide +kernel))) rfl
theorem se_X1_standIn : Cond.selects RX1 yX1_standIn yX1_standIn ∈ lw_g := gd_ (in_t2 (List.mem_of_getElem? (i := 11) (by decide +kernel))) rfl
theorem co_X1_standIn : Cond.code yX1_standIn cX1_standIn 2 (Option.none : Option Jvm.ClassFile.FieldType) ∈ lw_g := gd_ (in_t2 (List.mem_of_getElem? (i := 12) (by decide +kernel))) rfl
theorem ml_X3_115 : Cond.methodLink RX3 115 yX1_addName ∈ lw_g := gd_ (in_t2 (List.mem_of_getElem? (i := 13) (by decide +kernel))) rfl
theorem im_X1_addName : Cond.instanceMethod yX1_addName ∈ lw_g := gd_ (in_t2 (List.mem_of_getElem? (i := 14) (by decide +kernel))) rfl
theorem se_X1_addName : Cond.selects RX1 yX1_addName yX1_addName ∈ lw_g := gd_ (in_t2 (List.mem_of_getElem? (i := 15) (by decide +kernel))) rfl
theorem co_X1_addName : Cond.code yX1_addName cX1_addName 2 (Option.none : Option Jvm.ClassFile.FieldType) ∈ lw_g := gd_ (in_t2 (List.mem_of_getElem? (i := 16) (by decide +kernel))) rfl
theorem ml_L_23 : Cond.methodLink RL 23 yX3_join ∈ lw_g := gd_ (in_t2 (List.mem_of_getElem? (i := 17) (by decide +kernel))) rfl
theorem im_X3_join : Cond.instanceMethod yX3_join ∈ lw_g := gd_ (in_t2 (List.mem_of_getElem? (i := 18) (by decide +kernel))) rfl
theorem se_X3_join : Cond.selects RX3 yX3_join yX3_join ∈ lw_g := gd_ (in_t2 (List.mem_of_getElem? (i := 19) (by decide +kernel))) rfl
theorem co_X3_join : Cond.code yX3_join cX3_join 4 (Option.some Jvm.ClassFile.FieldType.int) ∈ lw_g := gd_ (in_t2 (List.mem_of_getElem? (i := 20) (by decide +kernel))) rfl
theorem ml_L_28 : Cond.methodLink RL 28 yX3_name ∈ lw_g := gd_ (in_t2 (List.mem_of_getElem? (i := 21) (by decide +kernel))) rfl
theorem im_X3_name : Cond.instanceMethod yX3_name ∈ lw_g := gd_ (in_t2 (List.mem_of_getElem? (i := 22) (by decide +kernel))) rfl
theorem se_X3_name : Cond.selects RX3 yX3_name yX3_name ∈ lw_g := gd_ (in_t2 (List.mem_of_getElem? (i := 23) (by decide +kernel))) rfl
theorem co_X3_name : Cond.code yX3_name cX3_name 4 (Option.some Jvm.ClassFile.FieldType.int) ∈ lw_g := gd_ (in_t2 (List.mem_of_getElem? (i := 24) (by decide +kernel))) rfl
theorem ml_X3_90 : Cond.methodLink RX3 90 yX1_mayName ∈ lw_g := gd_ (in_t2 (List.mem_of_getElem? (i := 25) (by decide +kernel))) rfl
theorem im_X1_mayName : Cond.instanceMethod yX1_mayName ∈ lw_g := gd_ (in_t2 (List.mem_of_getElem? (i := 26) (by decide +kernel))) rfl
theorem se_X1_mayName : Cond.selects RX1 yX1_mayName yX1_mayName ∈ lw_g := gd_ (in_t2 (List.mem_of_getElem? (i := 27) (by decide +kernel))) rfl
theorem co_X1_mayName : Cond.code yX1_mayName cX1_mayName 1 (Option.some Jvm.ClassFile.FieldType.boolean) ∈ lw_g := gd_ (in_t2 (List.mem_of_getElem? (i := 28) (by decide +kernel))) rfl
theorem ml_X3_101 : Cond.methodLink RX3 101 yX1_isNaming ∈ lw_g := gd_ (in_t2 (List.mem_of_getElem? (i := 29) (by decide +kernel))) rfl
theorem im_X1_isNaming : Cond.instanceMethod yX1_isNaming ∈ lw_g := gd_ (in_t2 (List.mem_of_getElem? (i := 30) (by decide +kernel))) rfl
theorem se_X1_isNaming : Cond.selects RX1 yX1_isNaming yX1_isNaming ∈ lw_g := gd_ (in_t2 (List.mem_of_getElem? (i := 31) (by decide +kernel))) rfl
theorem co_X1_isNaming : Cond.code yX1_isNaming cX1_isNaming 2 (Option.some Jvm.ClassFile.FieldType.boolean) ∈ lw_g := gd_ (in_t2 (List.mem_of_getElem? (i := 32) (by decide +kernel))) rfl
theorem ml_X3_108 : Cond.methodLink RX3 108 yX3_leadsTo ∈ lw_g := gd_ (in_t2 (List.mem_of_getElem? (i := 33) (by decide +kernel))) rfl
theorem im_X3_leadsTo : Cond.instanceMethod yX3_leadsTo ∈ lw_g := gd_ (in_t2 (List.mem_of_getElem? (i := 35) (by decide +kernel))) rfl
theorem co_X3_leadsTo : Cond.code yX3_leadsTo cX3_leadsTo 5 (Option.some Jvm.ClassFile.FieldType.boolean) ∈ lw_g := gd_ (in_t2 (List.mem_of_getElem? (i := 36) (by decide +kernel))) rfl
theorem ml_X3_255 : Cond.methodLink RX3 255 yX3_namesOfAll ∈ lw_g := gd_ (in_t2 (List.mem_of_getElem? (i := 37) (by decide +kernel))) rfl
theorem im_X3_namesOfAll : Cond.instanceMethod yX3_namesOfAll ∈ lw_g := gd_ (in_t2 (List.mem_of_getElem? (i := 39) (by decide +kernel))) rfl
theorem co_X3_namesOfAll : Cond.code yX3_namesOfAll cX3_namesOfAll 5 (Option.some Jvm.ClassFile.FieldType.int) ∈ lw_g := gd_ (in_t2 (List.mem_of_getElem? (i := 40) (by decide +kernel))) rfl
theorem ml_X3_112 : Cond.methodLink RX3 112 yX3_keepCircle ∈ lw_g := gd_ (in_t2 (List.mem_of_getElem? (i := 41) (by decide +kernel))) rfl
theorem im_X3_keepCircle : Cond.instanceMethod yX3_keepCircle ∈ lw_g := gd_ (in_t2 (List.mem_of_getElem? (i := 43) (by decide +kernel))) rfl
theorem co_X3_keepCircle : Cond.code yX3_keepCircle cX3_keepCircle 5 (Option.none : Option Jvm.ClassFile.FieldType) ∈ lw_g := gd_ (in_t2 (List.mem_of_getElem? (i := 44) (by decide +kernel))) rfl
theorem ml_X3_261 : Cond.methodLink RX3 261 yX3_leastTowards ∈ lw_g := gd_ (in_t2 (List.mem_of_getElem? (i := 45) (by decide +kernel))) rfl
theorem im_X3_leastTowards : Cond.instanceMethod yX3_leastTowards ∈ lw_g := gd_ (in_t2 (List.mem_of_getElem? (i := 47) (by decide +kernel))) rfl
theorem co_X3_leastTowards : Cond.code yX3_leastTowards cX3_leastTowards 5 (Option.some Jvm.ClassFile.FieldType.int) ∈ lw_g := gd_ (in_t2 (List.mem_of_getElem? (i := 48) (by decide +kernel))) rfl
theorem ml_L_32 : Cond.methodLink RL 32 yX3_circle ∈ lw_g := gd_ (in_t2 (List.mem_of_getElem? (i := 49) (by decide +kernel))) rfl
theorem im_X3_circle : Cond.instanceMethod yX3_circle ∈ lw_g := gd_ (in_t2 (List.mem_of_getElem? (i := 50) (by decide +kernel))) rfl
theorem se_X3_circle : Cond.selects RX3 yX3_circle yX3_circle ∈ lw_g := gd_ (in_t2 (List.mem_of_getElem? (i := 51) (by decide +kernel))) rfl
theorem co_X3_circle : Cond.code yX3_circle cX3_circle 2 (Option.some Jvm.ClassFile.FieldType.int) ∈ lw_g := gd_ (in_t2 (List.mem_of_getElem? (i := 52) (by decide +kernel))) rfl
theorem ml_L_36 : Cond.methodLink RL 36 yX3_begin ∈ lw_g := gd_ (in_t2 (List.mem_of_getElem? (i := 53) (by decide +kernel))) rfl
theorem im_X3_begin : Cond.instanceMethod yX3_begin ∈ lw_g := gd_ (in_t2 (List.mem_of_getElem? (i := 54) (by decide +kernel))) rfl
theorem se_X3_begin : Cond.selects RX3 yX3_begin yX3_begin ∈ lw_g := gd_ (in_t2 (List.mem_of_getElem? (i := 55) (by decide +kernel))) rfl
theorem co_X3_begin : Cond.code yX3_begin cX3_begin 1 (Option.some Jvm.ClassFile.FieldType.int) ∈ lw_g := gd_ (in_t2 (List.mem_of_getElem? (i := 56) (by decide +kernel))) rfl
theorem ml_L_41 : Cond.methodLink RL 41 yX3_made ∈ lw_g := gd_ (in_t2 (List.mem_of_getElem? (i := 57) (by decide +kernel))) rfl
theorem im_X3_made : Cond.instanceMethod yX3_made ∈ lw_g := gd_ (in_t2 (List.mem_of_getElem? (i := 58) (by decide +kernel))) rfl
theorem se_X3_made : Cond.selects RX3 yX3_made yX3_made ∈ lw_g := gd_ (in_t2 (List.mem_of_getElem? (i := 59) (by decide +kernel))) rfl
theorem co_X3_made : Cond.code yX3_made cX3_made 1 (Option.some Jvm.ClassFile.FieldType.int) ∈ lw_g := gd_ (in_t2 (List.mem_of_getElem? (i := 60) (by decide +kernel))) rfl
theorem ml_L_47 : Cond.methodLink RL 47 yX3_claim ∈ lw_g := gd_ (in_t2 (List.mem_of_getElem? (i := 61) (by decide +kernel))) rfl
theorem im_X3_claim : Cond.instanceMethod yX3_claim ∈ lw_g := gd_ (in_t2 (List.mem_of_getElem? (i := 62) (by decide +kernel))) rfl
theorem se_X3_claim : Cond.selects RX3 yX3_claim yX3_claim ∈ lw_g := gd_ (in_t2 (List.mem_of_getElem? (i := 63) (by decide +kernel))) rfl
theorem co_X3_claim : Cond.code yX3_claim cX3_claim 4 (Option.some Jvm.ClassFile.FieldType.int) ∈ lw_g := gd_ (in_t2 (List.mem_of_getElem? (i := 64) (by decide +kernel))) rfl
theorem ml_X3_121 : Cond.methodLink RX3 121 yX3_claimSome ∈ lw_g := gd_ (in_t2 (List.mem_of_getElem? (i := 65) (by decide +kernel))) rfl
theorem im_X3_claimSome : Cond.instanceMethod yX3_claimSome ∈ lw_g := gd_ (in_t2 (List.mem_of_getElem? (i := 67) (by decide +kernel))) rfl
theorem co_X3_claimSome : Cond.code yX3_claimSome cX3_claimSome 8 (Option.some Jvm.ClassFile.FieldType.int) ∈ lw_g := gd_ (in_t2 (List.mem_of_getElem? (i := 68) (by decide +kernel))) rfl
theorem ml_X3_264 : Cond.methodLink RX3 264 yX3_refusalOfClaims ∈ lw_g := gd_ (in_t2 (List.mem_of_getElem? (i := 69) (by decide +kernel))) rfl
theorem im_X3_refusalOfClaims : Cond.instanceMethod yX3_refusalOfClaims ∈ lw_g := gd_ (in_t2 (List.mem_of_getElem? (i := 71) (by decide +kernel))) rfl
theorem co_X3_refusalOfClaims : Cond.code yX3_refusalOfClaims cX3_refusalOfClaims 6 (Option.some Jvm.ClassFile.FieldType.int) ∈ lw_g := gd_ (in_t2 (List.mem_of_getElem? (i := 72) (by decide +kernel))) rfl
theorem ml_X3_179 : Cond.methodLink RX3 179 yX3_isHeldUp ∈ lw_g := gd_ (in_t2 (List.mem_of_getElem? (i := 73) (by decide +kernel))) rfl
theorem im_X3_isHeldUp : Cond.instanceMethod yX3_isHeldUp ∈ lw_g := gd_ (in_t2 (List.mem_of_getElem? (i := 75) (by decide +kernel))) rfl
theorem co_X3_isHeldUp : Cond.code yX3_isHeldUp cX3_isHeldUp 4 (Option.some Jvm.ClassFile.FieldType.boolean) ∈ lw_g := gd_ (in_t2 (List.mem_of_getElem? (i := 76) (by decide +kernel))) rfl
theorem ml_X3_131 : Cond.methodLink RX3 131 yX2_openSlot ∈ lw_g := gd_ (in_t2 (List.mem_of_getElem? (i := 77) (by decide +kernel))) rfl
theorem im_X2_openSlot : Cond.instanceMethod yX2_openSlot ∈ lw_g := gd_ (in_t2 (List.mem_of_getElem? (i := 78) (by decide +kernel))) rfl
theorem se_X2_openSlot : Cond.selects RX2 yX2_openSlot yX2_openSlot ∈ lw_g := gd_ (in_t2 (List.mem_of_getElem? (i := 79) (by decide +kernel))) rfl
theorem co_X2_openSlot : Cond.code yX2_openSlot cX2_openSlot 3 (Option.some (Jvm.ClassFile.FieldType.object "RingPost$Message")) ∈ lw_g := gd_ (in_t2 (List.mem_of_getElem? (i := 80) (by decide +kernel))) rfl
theorem ml_X2_33 : Cond.methodLink RX2 33 yX2_slotOf ∈ lw_g := gd_ (in_t2 (List.mem_of_getElem? (i := 81) (by decide +kernel))) rfl
theorem im_X2_slotOf : Cond.instanceMethod yX2_slotOf ∈ lw_g := gd_ (in_t2 (List.mem_of_getElem? (i := 82) (by decide +kernel))) rfl
theorem se_X2_slotOf : Cond.selects RX2 yX2_slotOf yX2_slotOf ∈ lw_g := gd_ (in_t2 (List.mem_of_getElem? (i := 83) (by decide +kernel))) rfl
theorem co_X2_slotOf : Cond.code yX2_slotOf cX2_slotOf 3 (Option.some (Jvm.ClassFile.FieldType.object "RingPost$Message")) ∈ lw_g := gd_ (in_t2 (List.mem_of_getElem? (i := 84) (by decide +kernel))) rfl
theorem ml_X3_165 : Cond.methodLink RX3 165 yX3_holderUpTo ∈ lw_g := gd_ (in_t2 (List.mem_of_getElem? (i := 85) (by decide +kernel))) rfl
theorem im_X3_holderUpTo : Cond.instanceMethod yX3_holderUpTo ∈ lw_g := gd_ (in_t2 (List.mem_of_getElem? (i := 87) (by decide +kernel))) rfl
theorem co_X3_holderUpTo : Cond.code yX3_holderUpTo cX3_holderUpTo 6 (Option.some Jvm.ClassFile.FieldType.int) ∈ lw_g := gd_ (in_t2 (List.mem_of_getElem? (i := 88) (by decide +kernel))) rfl
theorem ml_X3_271 : Cond.methodLink RX3 271 yX1_heldPlace ∈ lw_g := gd_ (in_t2 (List.mem_of_getElem? (i := 89) (by decide +kernel))) rfl
theorem im_X1_heldPlace : Cond.instanceMethod yX1_heldPlace ∈ lw_g := gd_ (in_t2 (List.mem_of_getElem? (i := 90) (by decide +kernel))) rfl
theorem se_X1_heldPlace : Cond.selects RX1 yX1_heldPlace yX1_heldPlace ∈ lw_g := gd_ (in_t2 (List.mem_of_getElem? (i := 91) (by decide +kernel))) rfl
theorem co_X1_heldPlace : Cond.code yX1_heldPlace cX1_heldPlace 2 (Option.some Jvm.ClassFile.FieldType.int) ∈ lw_g := gd_ (in_t2 (List.mem_of_getElem? (i := 92) (by decide +kernel))) rfl
theorem ml_X3_267 : Cond.methodLink RX3 267 yX2_newClaim ∈ lw_g := gd_ (in_t2 (List.mem_of_getElem? (i := 93) (by decide +kernel))) rfl
theorem im_X2_newClaim : Cond.instanceMethod yX2_newClaim ∈ lw_g := gd_ (in_t2 (List.mem_of_getElem? (i := 94) (by decide +kernel))) rfl
theorem se_X2_newClaim : Cond.selects RX2 yX2_newClaim yX2_newClaim ∈ lw_g := gd_ (in_t2 (List.mem_of_getElem? (i := 95) (by decide +kernel))) rfl
theorem co_X2_newClaim : Cond.code yX2_newClaim cX2_newClaim 4 (Option.some (Jvm.ClassFile.FieldType.object "RingPost$Message")) ∈ lw_g := gd_ (in_t2 (List.mem_of_getElem? (i := 96) (by decide +kernel))) rfl
theorem ml_X2_44 : Cond.methodLink RX2 44 yX0_startOver ∈ lw_g := gd_ (in_t2 (List.mem_of_getElem? (i := 97) (by decide +kernel))) rfl
theorem im_X0_startOver : Cond.instanceMethod yX0_startOver ∈ lw_g := gd_ (in_t2 (List.mem_of_getElem? (i := 98) (by decide +kernel))) rfl
theorem se_X0_startOver : Cond.selects RX0 yX0_startOver yX0_startOver ∈ lw_g := gd_ (in_t2 (List.mem_of_getElem? (i := 99) (by decide +kernel))) rfl
theorem co_X0_startOver : Cond.code yX0_startOver cX0_startOver 5 (Option.none : Option Jvm.ClassFile.FieldType) ∈ lw_g := gd_ (in_t2 (List.mem_of_getElem? (i := 100) (by decide +kernel))) rfl
theorem ml_X0_36 : Cond.methodLink RX0 36 yJ7_fill_d0a16 ∈ lw_g := gd_ (in_t2 (List.mem_of_getElem? (i := 101) (by decide +kernel))) rfl
theorem sta_J7_fill_d0a16 : Cond.static yJ7_fill_d0a16 ∈ lw_g := gd_ (in_t2 (List.mem_of_getElem? (i := 102) (by decide +kernel))) rfl
theorem co_J7_fill_d0a16 : Cond.code yJ7_fill_d0a16 cJ7_fill_d0a16 5 (Option.none : Option Jvm.ClassFile.FieldType) ∈ lw_g := gd_ (in_t2 (List.mem_of_getElem? (i := 103) (by decide +kernel))) rfl
theorem ml_L_52 : Cond.methodLink RL 52 yX3_batch ∈ lw_g := gd_ (in_t2 (List.mem_of_getElem? (i := 104) (by decide +kernel))) rfl
theorem im_X3_batch : Cond.instanceMethod yX3_batch ∈ lw_g := gd_ (in_t2 (List.mem_of_getElem? (i := 105) (by decide +kernel))) rfl
theorem se_X3_batch : Cond.selects RX3 yX3_batch yX3_batch ∈ lw_g := gd_ (in_t2 (List.mem_of_getElem? (i := 106) (by decide +kernel))) rfl
theorem co_X3_batch : Cond.code yX3_batch cX3_batch 5 (Option.some Jvm.ClassFile.FieldType.int) ∈ lw_g := gd_ (in_t2 (List.mem_of_getElem? (i := 107) (by decide +kernel))) rfl
theorem ml_L_57 : Cond.methodLink RL 57 yX3_by ∈ lw_g := gd_ (in_t2 (List.mem_of_getElem? (i := 108) (by decide +kernel))) rfl
theorem im_X3_by : Cond.instanceMethod yX3_by ∈ lw_g := gd_ (in_t2 (List.mem_of_getElem? (i := 109) (by decide +kernel))) rfl
theorem se_X3_by : Cond.selects RX3 yX3_by yX3_by ∈ lw_g := gd_ (in_t2 (List.mem_of_getElem? (i := 110) (by decide +kernel))) rfl
theorem co_X3_by : Cond.code yX3_by cX3_by 1 (Option.some Jvm.ClassFile.FieldType.int) ∈ lw_g := gd_ (in_t2 (List.mem_of_getElem? (i := 111) (by decide +kernel))) rfl
theorem ml_L_61 : Cond.methodLink RL 61 yX3_again ∈ lw_g := gd_ (in_t2 (List.mem_of_getElem? (i := 112) (by decide +kernel))) rfl
theorem im_X3_again : Cond.instanceMethod yX3_again ∈ lw_g := gd_ (in_t2 (List.mem_of_getElem? (i := 113) (by decide +kernel))) rfl
theorem se_X3_again : Cond.selects RX3 yX3_again yX3_again ∈ lw_g := gd_ (in_t2 (List.mem_of_getElem? (i := 114) (by decide +kernel))) rfl
theorem co_X3_again : Cond.code yX3_again cX3_again 1 (Option.some Jvm.ClassFile.FieldType.int) ∈ lw_g := gd_ (in_t2 (List.mem_of_getElem? (i := 115) (by decide +kernel))) rfl
theorem ml_L_65 : Cond.methodLink RL 65 yX3_fill ∈ lw_g := gd_ (in_t2 (List.mem_of_getElem? (i := 116) (by decide +kernel))) rfl
theorem im_X3_fill : Cond.instanceMethod yX3_fill ∈ lw_g := gd_ (in_t2 (List.mem_of_getElem? (i := 117) (by decide +kernel))) rfl
theorem se_X3_fill : Cond.selects RX3 yX3_fill yX3_fill ∈ lw_g := gd_ (in_t2 (List.mem_of_getElem? (i := 118) (by decide +kernel))) rfl
theorem co_X3_fill : Cond.code yX3_fill cX3_fill 8 (Option.some Jvm.ClassFile.FieldType.int) ∈ lw_g := gd_ (in_t2 (List.mem_of_getElem? (i := 119) (by decide +kernel))) rfl
theorem ml_L_70 : Cond.methodLink RL 70 yX3_copy ∈ lw_g := gd_ (in_t2 (List.mem_of_getElem? (i := 120) (by decide +kernel))) rfl
theorem im_X3_copy : Cond.instanceMethod yX3_copy ∈ lw_g := gd_ (in_t2 (List.mem_of_getElem? (i := 121) (by decide +kernel))) rfl
theorem se_X3_copy : Cond.selects RX3 yX3_copy yX3_copy ∈ lw_g := gd_ (in_t2 (List.mem_of_getElem? (i := 122) (by decide +kernel))) rfl
theorem co_X3_copy : Cond.code yX3_copy cX3_copy 9 (Option.some Jvm.ClassFile.FieldType.int) ∈ lw_g := gd_ (in_t2 (List.mem_of_getElem? (i := 123) (by decide +kernel))) rfl
theorem ml_X3_145 : Cond.methodLink RX3 145 (⟨"java/lang/System", "arraycopy", "(Ljava/lang/Object;ILjava/lang/Object;II)V"⟩ : MethodName) ∈ lw_g := gd_ (in_t2 (List.mem_of_getElem? (i := 124) (by decide +kernel))) rfl
theorem sta_java_lang_Systemarraycopy : Cond.static (⟨"java/lang/System", "arraycopy", "(Ljava/lang/Object;ILjava/lang/Object;II)V"⟩ : MethodName) ∈ lw_g := gd_ (in_t2 (List.mem_of_getElem? (i := 125) (by decide +kernel))) rfl
theorem nat_java_lang_Systemarraycopy : Cond.native (⟨"java/lang/System", "arraycopy", "(Ljava/lang/Object;ILjava/lang/Object;II)V"⟩ : MethodName) ∈ lw_g := gd_ (in_t2 (List.mem_of_getElem? (i := 126) (by decide +kernel))) rfl
theorem ml_L_75 : Cond.methodLink RL 75 yX3_publish ∈ lw_g := gd_ (in_t2 (List.mem_of_getElem? (i := 127) (by decide +kernel))) rfl
theorem im_X3_publish : Cond.instanceMethod yX3_publish ∈ lw_g := gd_ (in_t2 (List.mem_of_getElem? (i := 128) (by decide +kernel))) rfl
theorem se_X3_publish : Cond.selects RX3 yX3_publish yX3_publish ∈ lw_g := gd_ (in_t2 (List.mem_of_getElem? (i := 129) (by decide +kernel))) rfl
theorem co_X3_publish : Cond.code yX3_publish cX3_publish 7 (Option.some Jvm.ClassFile.FieldType.int) ∈ lw_g := gd_ (in_t2 (List.mem_of_getElem? (i := 130) (by decide +kernel))) rfl
theorem ml_X3_151 : Cond.methodLink RX3 151 yX3_publishSlot ∈ lw_g := gd_ (in_t2 (List.mem_of_getElem? (i := 131) (by decide +kernel))) rfl
theorem im_X3_publishSlot : Cond.instanceMethod yX3_publishSlot ∈ lw_g := gd_ (in_t2 (List.mem_of_getElem? (i := 133) (by decide +kernel))) rfl
theorem co_X3_publishSlot : Cond.code yX3_publishSlot cX3_publishSlot 6 (Option.none : Option Jvm.ClassFile.FieldType) ∈ lw_g := gd_ (in_t2 (List.mem_of_getElem? (i := 134) (by decide +kernel))) rfl
theorem ml_X3_282 : Cond.methodLink RX3 282 yX1_foldIn ∈ lw_g := gd_ (in_t2 (List.mem_of_getElem? (i := 135) (by decide +kernel))) rfl
theorem im_X1_foldIn : Cond.instanceMethod yX1_foldIn ∈ lw_g := gd_ (in_t2 (List.mem_of_getElem? (i := 136) (by decide +kernel))) rfl
theorem se_X1_foldIn : Cond.selects RX1 yX1_foldIn yX1_foldIn ∈ lw_g := gd_ (in_t2 (List.mem_of_getElem? (i := 137) (by decide +kernel))) rfl
theorem co_X1_foldIn : Cond.code yX1_foldIn cX1_foldIn 3 (Option.none : Option Jvm.ClassFile.FieldType) ∈ lw_g := gd_ (in_t2 (List.mem_of_getElem? (i := 138) (by decide +kernel))) rfl
theorem ml_X1_93 : Cond.methodLink RX1 93 yX0_become ∈ lw_g := gd_ (in_t2 (List.mem_of_getElem? (i := 139) (by decide +kernel))) rfl
theorem im_X0_become : Cond.instanceMethod yX0_become ∈ lw_g := gd_ (in_t2 (List.mem_of_getElem? (i := 140) (by decide +kernel))) rfl
theorem se_X0_become : Cond.selects RX0 yX0_become yX0_become ∈ lw_g := gd_ (in_t2 (List.mem_of_getElem? (i := 141) (by decide +kernel))) rfl
theorem co_X0_become : Cond.code yX0_become cX0_become 2 (Option.none : Option Jvm.ClassFile.FieldType) ∈ lw_g := gd_ (in_t2 (List.mem_of_getElem? (i := 142) (by decide +kernel))) rfl
theorem ml_X0_42 : Cond.methodLink RX0 42 (⟨"java/lang/System", "arraycopy", "(Ljava/lang/Object;ILjava/lang/Object;II)V"⟩ : MethodName) ∈ lw_g := gd_ (in_t2 (List.mem_of_getElem? (i := 143) (by decide +kernel))) rfl
theorem ml_L_80 : Cond.methodLink RL 80 yX3_close ∈ lw_g := gd_ (in_t2 (List.mem_of_getElem? (i := 144) (by decide +kernel))) rfl
theorem im_X3_close : Cond.instanceMethod yX3_close ∈ lw_g := gd_ (in_t2 (List.mem_of_getElem? (i := 145) (by decide +kernel))) rfl
theorem se_X3_close : Cond.selects RX3 yX3_close yX3_close ∈ lw_g := gd_ (in_t2 (List.mem_of_getElem? (i := 146) (by decide +kernel))) rfl
theorem co_X3_close : Cond.code yX3_close cX3_close 3 (Option.some Jvm.ClassFile.FieldType.int) ∈ lw_g := gd_ (in_t2 (List.mem_of_getElem? (i := 147) (by decide +kernel))) rfl
theorem ml_L_84 : Cond.methodLink RL 84 yX3_give ∈ lw_g := gd_ (in_t2 (List.mem_of_getElem? (i := 148) (by decide +kernel))) rfl
theorem im_X3_give : Cond.instanceMethod yX3_give ∈ lw_g := gd_ (in_t2 (List.mem_of_getElem? (i := 149) (by decide +kernel))) rfl
theorem se_X3_give : Cond.selects RX3 yX3_give yX3_give ∈ lw_g := gd_ (in_t2 (List.mem_of_getElem? (i := 150) (by decide +kernel))) rfl
theorem co_X3_give : Cond.code yX3_give cX3_give 3 (Option.some Jvm.ClassFile.FieldType.int) ∈ lw_g := gd_ (in_t2 (List.mem_of_getElem? (i := 151) (by decide +kernel))) rfl
theorem ml_X3_158 : Cond.methodLink RX3 158 yX2_countOpen ∈ lw_g := gd_ (in_t2 (List.mem_of_getElem? (i := 152) (by decide +kernel))) rfl
theorem im_X2_countOpen : Cond.instanceMethod yX2_countOpen ∈ lw_g := gd_ (in_t2 (List.mem_of_getElem? (i := 153) (by decide +kernel))) rfl
theorem se_X2_countOpen : Cond.selects RX2 yX2_countOpen yX2_countOpen ∈ lw_g := gd_ (in_t2 (List.mem_of_getElem? (i := 154) (by decide +kernel))) rfl
theorem co_X2_countOpen : Cond.code yX2_countOpen cX2_countOpen 3 (Option.some Jvm.ClassFile.FieldType.int) ∈ lw_g := gd_ (in_t2 (List.mem_of_getElem? (i := 155) (by decide +kernel))) rfl
theorem ml_L_88 : Cond.methodLink RL 88 yX3_told ∈ lw_g := gd_ (in_t2 (List.mem_of_getElem? (i := 156) (by decide +kernel))) rfl
theorem im_X3_told : Cond.instanceMethod yX3_told ∈ lw_g := gd_ (in_t2 (List.mem_of_getElem? (i := 157) (by decide +kernel))) rfl
theorem se_X3_told : Cond.selects RX3 yX3_told yX3_told ∈ lw_g := gd_ (in_t2 (List.mem_of_getElem? (i := 158) (by decide +kernel))) rfl
theorem co_X3_told : Cond.code yX3_told cX3_told 4 (Option.some Jvm.ClassFile.FieldType.int) ∈ lw_g := gd_ (in_t2 (List.mem_of_getElem? (i := 159) (by decide +kernel))) rfl
theorem ml_X3_172 : Cond.methodLink RX3 172 yX3_leastHolderPlace ∈ lw_g := gd_ (in_t2 (List.mem_of_getElem? (i := 160) (by decide +kernel))) rfl
theorem im_X3_leastHolderPlace : Cond.instanceMethod yX3_leastHolderPlace ∈ lw_g := gd_ (in_t2 (List.mem_of_getElem? (i := 162) (by decide +kernel))) rfl
theorem co_X3_leastHolderPlace : Cond.code yX3_leastHolderPlace cX3_leastHolderPlace 6 (Option.some Jvm.ClassFile.FieldType.int) ∈ lw_g := gd_ (in_t2 (List.mem_of_getElem? (i := 163) (by decide +kernel))) rfl
theorem ml_X3_274 : Cond.methodLink RX3 274 yJ9_min_7cf53 ∈ lw_g := gd_ (in_t2 (List.mem_of_getElem? (i := 164) (by decide +kernel))) rfl
theorem sta_J9_min_7cf53 : Cond.static yJ9_min_7cf53 ∈ lw_g := gd_ (in_t2 (List.mem_of_getElem? (i := 165) (by decide +kernel))) rfl
theorem co_J9_min_7cf53 : Cond.code yJ9_min_7cf53 cJ9_min_7cf53 2 (Option.some Jvm.ClassFile.FieldType.int) ∈ lw_g := gd_ (in_t2 (List.mem_of_getElem? (i := 166) (by decide +kernel))) rfl
theorem ml_X3_176 : Cond.methodLink RX3 176 yX3_countHolders ∈ lw_g := gd_ (in_t2 (List.mem_of_getElem? (i := 167) (by decide +kernel))) rfl
theorem im_X3_countHolders : Cond.instanceMethod yX3_countHolders ∈ lw_g := gd_ (in_t2 (List.mem_of_getElem? (i := 169) (by decide +kernel))) rfl
theorem co_X3_countHolders : Cond.code yX3_countHolders cX3_countHolders 5 (Option.some Jvm.ClassFile.FieldType.int) ∈ lw_g := gd_ (in_t2 (List.mem_of_getElem? (i := 170) (by decide +kernel))) rfl
theorem ml_L_92 : Cond.methodLink RL 92 yX3_last ∈ lw_g := gd_ (in_t2 (List.mem_of_getElem? (i := 171) (by decide +kernel))) rfl
theorem im_X3_last : Cond.instanceMethod yX3_last ∈ lw_g := gd_ (in_t2 (List.mem_of_getElem? (i := 172) (by decide +kernel))) rfl
theorem se_X3_last : Cond.selects RX3 yX3_last yX3_last ∈ lw_g := gd_ (in_t2 (List.mem_of_getElem? (i := 173) (by decide +kernel))) rfl
theorem co_X3_last : Cond.code yX3_last cX3_last 3 (Option.some Jvm.ClassFile.FieldType.long) ∈ lw_g := gd_ (in_t2 (List.mem_of_getElem? (i := 174) (by decide +kernel))) rfl
theorem ml_L_97 : Cond.methodLink RL 97 yX3_read ∈ lw_g := gd_ (in_t2 (List.mem_of_getElem? (i := 175) (by decide +kernel))) rfl
theorem im_X3_read : Cond.instanceMethod yX3_read ∈ lw_g := gd_ (in_t2 (List.mem_of_getElem? (i := 176) (by decide +kernel))) rfl
theorem se_X3_read : Cond.selects RX3 yX3_read yX3_read ∈ lw_g := gd_ (in_t2 (List.mem_of_getElem? (i := 177) (by decide +kernel))) rfl
theorem co_X3_read : Cond.code yX3_read cX3_read 3 (Option.some Jvm.ClassFile.FieldType.int) ∈ lw_g := gd_ (in_t2 (List.mem_of_getElem? (i := 178) (by decide +kernel))) rfl
theorem ml_X3_187 : Cond.methodLink RX3 187 yX3_readOnce ∈ lw_g := gd_ (in_t2 (List.mem_of_getElem? (i := 179) (by decide +kernel))) rfl
theorem im_X3_readOnce : Cond.instanceMethod yX3_readOnce ∈ lw_g := gd_ (in_t2 (List.mem_of_getElem? (i := 181) (by decide +kernel))) rfl
theorem co_X3_readOnce : Cond.code yX3_readOnce cX3_readOnce 3 (Option.some Jvm.ClassFile.FieldType.int) ∈ lw_g := gd_ (in_t2 (List.mem_of_getElem? (i := 182) (by decide +kernel))) rfl
theorem ml_X3_286 : Cond.methodLink RX3 286 yX1_skipMissed ∈ lw_g := gd_ (in_t2 (List.mem_of_getElem? (i := 183) (by decide +kernel))) rfl
theorem im_X1_skipMissed : Cond.instanceMethod yX1_skipMissed ∈ lw_g := gd_ (in_t2 (List.mem_of_getElem? (i := 184) (by decide +kernel))) rfl
theorem se_X1_skipMissed : Cond.selects RX1 yX1_skipMissed yX1_skipMissed ∈ lw_g := gd_ (in_t2 (List.mem_of_getElem? (i := 185) (by decide +kernel))) rfl
theorem co_X1_skipMissed : Cond.code yX1_skipMissed cX1_skipMissed 3 (Option.none : Option Jvm.ClassFile.FieldType) ∈ lw_g := gd_ (in_t2 (List.mem_of_getElem? (i := 186) (by decide +kernel))) rfl
theorem ml_X1_66 : Cond.methodLink RX1 66 yX1_placeIn ∈ lw_g := gd_ (in_t2 (List.mem_of_getElem? (i := 187) (by decide +kernel))) rfl
theorem ml_X1_86 : Cond.methodLink RX1 86 yX1_placeToRead ∈ lw_g := gd_ (in_t2 (List.mem_of_getElem? (i := 188) (by decide +kernel))) rfl
theorem im_X1_placeToRead : Cond.instanceMethod yX1_placeToRead ∈ lw_g := gd_ (in_t2 (List.mem_of_getElem? (i := 189) (by decide +kernel))) rfl
theorem se_X1_placeToRead : Cond.selects RX1 yX1_placeToRead yX1_placeToRead ∈ lw_g := gd_ (in_t2 (List.mem_of_getElem? (i := 190) (by decide +kernel))) rfl
theorem co_X1_placeToRead : Cond.code yX1_placeToRead cX1_placeToRead 2 (Option.some Jvm.ClassFile.FieldType.int) ∈ lw_g := gd_ (in_t2 (List.mem_of_getElem? (i := 191) (by decide +kernel))) rfl
theorem ml_X1_80 : Cond.methodLink RX1 80 yJ9_max_7cf53 ∈ lw_g := gd_ (in_t2 (List.mem_of_getElem? (i := 192) (by decide +kernel))) rfl
theorem sta_J9_max_7cf53 : Cond.static yJ9_max_7cf53 ∈ lw_g := gd_ (in_t2 (List.mem_of_getElem? (i := 193) (by decide +kernel))) rfl
theorem co_J9_max_7cf53 : Cond.code yJ9_max_7cf53 cJ9_max_7cf53 2 (Option.some Jvm.ClassFile.FieldType.int) ∈ lw_g := gd_ (in_t2 (List.mem_of_getElem? (i := 194) (by decide +kernel))) rfl
theorem ml_X3_231 : Cond.methodLink RX3 231 yX3_reasonOf ∈ lw_g := gd_ (in_t2 (List.mem_of_getElem? (i := 195) (by decide +kernel))) rfl
theorem im_X3_reasonOf : Cond.instanceMethod yX3_reasonOf ∈ lw_g := gd_ (in_t2 (List.mem_of_getElem? (i := 197) (by decide +kernel))) rfl
theorem co_X3_reasonOf : Cond.code yX3_reasonOf cX3_reasonOf 2 (Option.some Jvm.ClassFile.FieldType.int) ∈ lw_g := gd_ (in_t2 (List.mem_of_getElem? (i := 198) (by decide +kernel))) rfl
theorem ml_X3_321 : Cond.methodLink RX3 321 yX3_reasonOfMerge ∈ lw_g := gd_ (in_t2 (List.mem_of_getElem? (i := 199) (by decide +kernel))) rfl
theorem im_X3_reasonOfMerge : Cond.instanceMethod yX3_reasonOfMerge ∈ lw_g := gd_ (in_t2 (List.mem_of_getElem? (i := 201) (by decide +kernel))) rfl
theorem co_X3_reasonOfMerge : Cond.code yX3_reasonOfMerge cX3_reasonOfMerge 2 (Option.some Jvm.ClassFile.FieldType.int) ∈ lw_g := gd_ (in_t2 (List.mem_of_getElem? (i := 202) (by decide +kernel))) rfl
theorem ml_X3_240 : Cond.methodLink RX3 240 yX3_leastLackingRing ∈ lw_g := gd_ (in_t2 (List.mem_of_getElem? (i := 203) (by decide +kernel))) rfl
theorem im_X3_leastLackingRing : Cond.instanceMethod yX3_leastLackingRing ∈ lw_g := gd_ (in_t2 (List.mem_of_getElem? (i := 205) (by decide +kernel))) rfl
theorem co_X3_leastLackingRing : Cond.code yX3_leastLackingRing cX3_leastLackingRing 4 (Option.some Jvm.ClassFile.FieldType.int) ∈ lw_g := gd_ (in_t2 (List.mem_of_getElem? (i := 206) (by decide +kernel))) rfl
theorem ml_X3_330 : Cond.methodLink RX3 330 yX3_isAwaited ∈ lw_g := gd_ (in_t2 (List.mem_of_getElem? (i := 207) (by decide +kernel))) rfl
theorem im_X3_isAwaited : Cond.instanceMethod yX3_isAwaited ∈ lw_g := gd_ (in_t2 (List.mem_of_getElem? (i := 209) (by decide +kernel))) rfl
theorem co_X3_isAwaited : Cond.code yX3_isAwaited cX3_isAwaited 4 (Option.some Jvm.ClassFile.FieldType.boolean) ∈ lw_g := gd_ (in_t2 (List.mem_of_getElem? (i := 210) (by decide +kernel))) rfl
theorem ml_X3_327 : Cond.methodLink RX3 327 yX2_isPublished ∈ lw_g := gd_ (in_t2 (List.mem_of_getElem? (i := 211) (by decide +kernel))) rfl
theorem im_X2_isPublished : Cond.instanceMethod yX2_isPublished ∈ lw_g := gd_ (in_t2 (List.mem_of_getElem? (i := 212) (by decide +kernel))) rfl
theorem se_X2_isPublished : Cond.selects RX2 yX2_isPublished yX2_isPublished ∈ lw_g := gd_ (in_t2 (List.mem_of_getElem? (i := 213) (by decide +kernel))) rfl
theorem co_X2_isPublished : Cond.code yX2_isPublished cX2_isPublished 3 (Option.some Jvm.ClassFile.FieldType.boolean) ∈ lw_g := gd_ (in_t2 (List.mem_of_getElem? (i := 214) (by decide +kernel))) rfl
theorem ml_X3_310 : Cond.methodLink RX3 310 yX3_ringOfLeastStamp ∈ lw_g := gd_ (in_t2 (List.mem_of_getElem? (i := 215) (by decide +kernel))) rfl
theorem im_X3_ringOfLeastStamp : Cond.instanceMethod yX3_ringOfLeastStamp ∈ lw_g := gd_ (in_t2 (List.mem_of_getElem? (i := 217) (by decide +kernel))) rfl
theorem co_X3_ringOfLeastStamp : Cond.code yX3_ringOfLeastStamp cX3_ringOfLeastStamp 8 (Option.some (Jvm.ClassFile.FieldType.object "RingPost$Ring")) ∈ lw_g := gd_ (in_t2 (List.mem_of_getElem? (i := 218) (by decide +kernel))) rfl
theorem ml_X3_303 : Cond.methodLink RX3 303 yX2_slotOf ∈ lw_g := gd_ (in_t2 (List.mem_of_getElem? (i := 219) (by decide +kernel))) rfl
theorem ml_X3_300 : Cond.methodLink RX3 300 yX2_newestPublished ∈ lw_g := gd_ (in_t2 (List.mem_of_getElem? (i := 220) (by decide +kernel))) rfl
theorem im_X2_newestPublished : Cond.instanceMethod yX2_newestPublished ∈ lw_g := gd_ (in_t2 (List.mem_of_getElem? (i := 221) (by decide +kernel))) rfl
theorem se_X2_newestPublished : Cond.selects RX2 yX2_newestPublished yX2_newestPublished ∈ lw_g := gd_ (in_t2 (List.mem_of_getElem? (i := 222) (by decide +kernel))) rfl
theorem co_X2_newestPublished : Cond.code yX2_newestPublished cX2_newestPublished 2 (Option.some Jvm.ClassFile.FieldType.int) ∈ lw_g := gd_ (in_t2 (List.mem_of_getElem? (i := 223) (by decide +kernel))) rfl
theorem ml_X2_40 : Cond.methodLink RX2 40 yX2_isPublished ∈ lw_g := gd_ (in_t2 (List.mem_of_getElem? (i := 224) (by decide +kernel))) rfl
theorem ml_X3_324 : Cond.methodLink RX3 324 yX3_reasonAtPlace ∈ lw_g := gd_ (in_t2 (List.mem_of_getElem? (i := 225) (by decide +kernel))) rfl
theorem im_X3_reasonAtPlace : Cond.instanceMethod yX3_reasonAtPlace ∈ lw_g := gd_ (in_t2 (List.mem_of_getElem? (i := 227) (by decide +kernel))) rfl
theorem co_X3_reasonAtPlace : Cond.code yX3_reasonAtPlace cX3_reasonAtPlace 3 (Option.some Jvm.ClassFile.FieldType.int) ∈ lw_g := gd_ (in_t2 (List.mem_of_getElem? (i := 228) (by decide +kernel))) rfl
theorem ml_X3_234 : Cond.methodLink RX3 234 yX1_placeToRead ∈ lw_g := gd_ (in_t2 (List.mem_of_getElem? (i := 229) (by decide +kernel))) rfl
theorem ml_X3_237 : Cond.methodLink RX3 237 yX3_leastNamedBehind ∈ lw_g := gd_ (in_t2 (List.mem_of_getElem? (i := 230) (by decide +kernel))) rfl
theorem im_X3_leastNamedBehind : Cond.instanceMethod yX3_leastNamedBehind ∈ lw_g := gd_ (in_t2 (List.mem_of_getElem? (i := 232) (by decide +kernel))) rfl
theorem co_X3_leastNamedBehind : Cond.code yX3_leastNamedBehind cX3_leastNamedBehind 4 (Option.some Jvm.ClassFile.FieldType.int) ∈ lw_g := gd_ (in_t2 (List.mem_of_getElem? (i := 233) (by decide +kernel))) rfl
theorem ml_X3_246 : Cond.methodLink RX3 246 yX2_isLive ∈ lw_g := gd_ (in_t2 (List.mem_of_getElem? (i := 234) (by decide +kernel))) rfl
theorem im_X2_isLive : Cond.instanceMethod yX2_isLive ∈ lw_g := gd_ (in_t2 (List.mem_of_getElem? (i := 235) (by decide +kernel))) rfl
theorem se_X2_isLive : Cond.selects RX2 yX2_isLive yX2_isLive ∈ lw_g := gd_ (in_t2 (List.mem_of_getElem? (i := 236) (by decide +kernel))) rfl
theorem co_X2_isLive : Cond.code yX2_isLive cX2_isLive 1 (Option.some Jvm.ClassFile.FieldType.boolean) ∈ lw_g := gd_ (in_t2 (List.mem_of_getElem? (i := 237) (by decide +kernel))) rfl
theorem ml_X3_289 : Cond.methodLink RX3 289 yX3_takeNext ∈ lw_g := gd_ (in_t2 (List.mem_of_getElem? (i := 238) (by decide +kernel))) rfl
theorem im_X3_takeNext : Cond.instanceMethod yX3_takeNext ∈ lw_g := gd_ (in_t3 (List.mem_of_getElem? (i := 0) (by decide +kernel))) rfl
theorem co_X3_takeNext : Cond.code yX3_takeNext cX3_takeNext 2 (Option.some Jvm.ClassFile.FieldType.boolean) ∈ lw_g := gd_ (in_t3 (List.mem_of_getElem? (i := 1) (by decide +kernel))) rfl
theorem ml_X3_297 : Cond.methodLink RX3 297 yX1_takeEntry ∈ lw_g := gd_ (in_t3 (List.mem_of_getElem? (i := 2) (by decide +kernel))) rfl
theorem im_X1_takeEntry : Cond.instanceMethod yX1_takeEntry ∈ lw_g := gd_ (in_t3 (List.mem_of_getElem? (i := 3) (by decide +kernel))) rfl
theorem se_X1_takeEntry : Cond.selects RX1 yX1_takeEntry yX1_takeEntry ∈ lw_g := gd_ (in_t3 (List.mem_of_getElem? (i := 4) (by decide +kernel))) rfl
theorem co_X1_takeEntry : Cond.code yX1_takeEntry cX1_takeEntry 3 (Option.some Jvm.ClassFile.FieldType.boolean) ∈ lw_g := gd_ (in_t3 (List.mem_of_getElem? (i := 5) (by decide +kernel))) rfl
theorem ml_X1_107 : Cond.methodLink RX1 107 yX1_keep ∈ lw_g := gd_ (in_t3 (List.mem_of_getElem? (i := 6) (by decide +kernel))) rfl
theorem im_X1_keep : Cond.instanceMethod yX1_keep ∈ lw_g := gd_ (in_t3 (List.mem_of_getElem? (i := 7) (by decide +kernel))) rfl
theorem se_X1_keep : Cond.selects RX1 yX1_keep yX1_keep ∈ lw_g := gd_ (in_t3 (List.mem_of_getElem? (i := 8) (by decide +kernel))) rfl
theorem co_X1_keep : Cond.code yX1_keep cX1_keep 2 (Option.some Jvm.ClassFile.FieldType.boolean) ∈ lw_g := gd_ (in_t3 (List.mem_of_getElem? (i := 9) (by decide +kernel))) rfl
theorem ml_X3_306 : Cond.methodLink RX3 306 yX1_keep ∈ lw_g := gd_ (in_t3 (List.mem_of_getElem? (i := 10) (by decide +kernel))) rfl
theorem ml_X3_314 : Cond.methodLink RX3 314 yX3_takeAtPlace ∈ lw_g := gd_ (in_t3 (List.mem_of_getElem? (i := 11) (by decide +kernel))) rfl
theorem im_X3_takeAtPlace : Cond.instanceMethod yX3_takeAtPlace ∈ lw_g := gd_ (in_t3 (List.mem_of_getElem? (i := 13) (by decide +kernel))) rfl
theorem co_X3_takeAtPlace : Cond.code yX3_takeAtPlace cX3_takeAtPlace 3 (Option.some Jvm.ClassFile.FieldType.boolean) ∈ lw_g := gd_ (in_t3 (List.mem_of_getElem? (i := 14) (by decide +kernel))) rfl
theorem ml_X3_318 : Cond.methodLink RX3 318 yX1_stepOn ∈ lw_g := gd_ (in_t3 (List.mem_of_getElem? (i := 15) (by decide +kernel))) rfl
theorem im_X1_stepOn : Cond.instanceMethod yX1_stepOn ∈ lw_g := gd_ (in_t3 (List.mem_of_getElem? (i := 16) (by decide +kernel))) rfl
theorem se_X1_stepOn : Cond.selects RX1 yX1_stepOn yX1_stepOn ∈ lw_g := gd_ (in_t3 (List.mem_of_getElem? (i := 17) (by decide +kernel))) rfl
theorem co_X1_stepOn : Cond.code yX1_stepOn cX1_stepOn 2 (Option.none : Option Jvm.ClassFile.FieldType) ∈ lw_g := gd_ (in_t3 (List.mem_of_getElem? (i := 18) (by decide +kernel))) rfl
theorem ml_X3_293 : Cond.methodLink RX3 293 yX3_writeOn ∈ lw_g := gd_ (in_t3 (List.mem_of_getElem? (i := 19) (by decide +kernel))) rfl
theorem im_X3_writeOn : Cond.instanceMethod yX3_writeOn ∈ lw_g := gd_ (in_t3 (List.mem_of_getElem? (i := 21) (by decide +kernel))) rfl
theorem co_X3_writeOn : Cond.code yX3_writeOn cX3_writeOn 5 (Option.none : Option Jvm.ClassFile.FieldType) ∈ lw_g := gd_ (in_t3 (List.mem_of_getElem? (i := 22) (by decide +kernel))) rfl
theorem ml_L_101 : Cond.methodLink RL 101 yX3_round ∈ lw_g := gd_ (in_t3 (List.mem_of_getElem? (i := 23) (by decide +kernel))) rfl
theorem im_X3_round : Cond.instanceMethod yX3_round ∈ lw_g := gd_ (in_t3 (List.mem_of_getElem? (i := 24) (by decide +kernel))) rfl
theorem se_X3_round : Cond.selects RX3 yX3_round yX3_round ∈ lw_g := gd_ (in_t3 (List.mem_of_getElem? (i := 25) (by decide +kernel))) rfl
theorem co_X3_round : Cond.code yX3_round cX3_round 4 (Option.some Jvm.ClassFile.FieldType.int) ∈ lw_g := gd_ (in_t3 (List.mem_of_getElem? (i := 26) (by decide +kernel))) rfl
theorem ml_L_105 : Cond.methodLink RL 105 yX3_got ∈ lw_g := gd_ (in_t3 (List.mem_of_getElem? (i := 27) (by decide +kernel))) rfl
theorem im_X3_got : Cond.instanceMethod yX3_got ∈ lw_g := gd_ (in_t3 (List.mem_of_getElem? (i := 28) (by decide +kernel))) rfl
theorem se_X3_got : Cond.selects RX3 yX3_got yX3_got ∈ lw_g := gd_ (in_t3 (List.mem_of_getElem? (i := 29) (by decide +kernel))) rfl
theorem co_X3_got : Cond.code yX3_got cX3_got 4 (Option.some Jvm.ClassFile.FieldType.long) ∈ lw_g := gd_ (in_t3 (List.mem_of_getElem? (i := 30) (by decide +kernel))) rfl
theorem cn_X3_192 : Cond.constantLong RX3 192 (-1 : Int64) ∈ lw_g := gd_ (in_t3 (List.mem_of_getElem? (i := 31) (by decide +kernel))) rfl
theorem ml_L_110 : Cond.methodLink RL 110 yX3_word ∈ lw_g := gd_ (in_t3 (List.mem_of_getElem? (i := 32) (by decide +kernel))) rfl
theorem im_X3_word : Cond.instanceMethod yX3_word ∈ lw_g := gd_ (in_t3 (List.mem_of_getElem? (i := 33) (by decide +kernel))) rfl
theorem se_X3_word : Cond.selects RX3 yX3_word yX3_word ∈ lw_g := gd_ (in_t3 (List.mem_of_getElem? (i := 34) (by decide +kernel))) rfl
theorem co_X3_word : Cond.code yX3_word cX3_word 4 (Option.some Jvm.ClassFile.FieldType.long) ∈ lw_g := gd_ (in_t3 (List.mem_of_getElem? (i := 35) (by decide +kernel))) rfl
theorem ml_L_114 : Cond.methodLink RL 114 yX3_of ∈ lw_g := gd_ (in_t3 (List.mem_of_getElem? (i := 36) (by decide +kernel))) rfl
theorem im_X3_of : Cond.instanceMethod yX3_of ∈ lw_g := gd_ (in_t3 (List.mem_of_getElem? (i := 37) (by decide +kernel))) rfl
theorem se_X3_of : Cond.selects RX3 yX3_of yX3_of ∈ lw_g := gd_ (in_t3 (List.mem_of_getElem? (i := 38) (by decide +kernel))) rfl
theorem co_X3_of : Cond.code yX3_of cX3_of 4 (Option.some Jvm.ClassFile.FieldType.int) ∈ lw_g := gd_ (in_t3 (List.mem_of_getElem? (i := 39) (by decide +kernel))) rfl
theorem ml_L_118 : Cond.methodLink RL 118 yX3_place ∈ lw_g := gd_ (in_t3 (List.mem_of_getElem? (i := 40) (by decide +kernel))) rfl
theorem im_X3_place : Cond.instanceMethod yX3_place ∈ lw_g := gd_ (in_t3 (List.mem_of_getElem? (i := 41) (by decide +kernel))) rfl
theorem se_X3_place : Cond.selects RX3 yX3_place yX3_place ∈ lw_g := gd_ (in_t3 (List.mem_of_getElem? (i := 42) (by decide +kernel))) rfl
theorem co_X3_place : Cond.code yX3_place cX3_place 3 (Option.some Jvm.ClassFile.FieldType.int) ∈ lw_g := gd_ (in_t3 (List.mem_of_getElem? (i := 43) (by decide +kernel))) rfl
theorem ml_L_122 : Cond.methodLink RL 122 yX3_named ∈ lw_g := gd_ (in_t3 (List.mem_of_getElem? (i := 44) (by decide +kernel))) rfl
theorem im_X3_named : Cond.instanceMethod yX3_named ∈ lw_g := gd_ (in_t3 (List.mem_of_getElem? (i := 45) (by decide +kernel))) rfl
theorem se_X3_named : Cond.selects RX3 yX3_named yX3_named ∈ lw_g := gd_ (in_t3 (List.mem_of_getElem? (i := 46) (by decide +kernel))) rfl
theorem co_X3_named : Cond.code yX3_named cX3_named 4 (Option.some Jvm.ClassFile.FieldType.int) ∈ lw_g := gd_ (in_t3 (List.mem_of_getElem? (i := 47) (by decide +kernel))) rfl
theorem ml_L_126 : Cond.methodLink RL 126 yX3_entry ∈ lw_g := gd_ (in_t3 (List.mem_of_getElem? (i := 48) (by decide +kernel))) rfl
theorem im_X3_entry : Cond.instanceMethod yX3_entry ∈ lw_g := gd_ (in_t3 (List.mem_of_getElem? (i := 49) (by decide +kernel))) rfl
theorem se_X3_entry : Cond.selects RX3 yX3_entry yX3_entry ∈ lw_g := gd_ (in_t3 (List.mem_of_getElem? (i := 50) (by decide +kernel))) rfl
theorem co_X3_entry : Cond.code yX3_entry cX3_entry 4 (Option.some Jvm.ClassFile.FieldType.int) ∈ lw_g := gd_ (in_t3 (List.mem_of_getElem? (i := 51) (by decide +kernel))) rfl
theorem ml_L_130 : Cond.methodLink RL 130 yX3_target ∈ lw_g := gd_ (in_t3 (List.mem_of_getElem? (i := 52) (by decide +kernel))) rfl
theorem im_X3_target : Cond.instanceMethod yX3_target ∈ lw_g := gd_ (in_t3 (List.mem_of_getElem? (i := 53) (by decide +kernel))) rfl
theorem se_X3_target : Cond.selects RX3 yX3_target yX3_target ∈ lw_g := gd_ (in_t3 (List.mem_of_getElem? (i := 54) (by decide +kernel))) rfl
theorem co_X3_target : Cond.code yX3_target cX3_target 3 (Option.some Jvm.ClassFile.FieldType.int) ∈ lw_g := gd_ (in_t3 (List.mem_of_getElem? (i := 55) (by decide +kernel))) rfl
theorem ml_L_134 : Cond.methodLink RL 134 yX3_why ∈ lw_g := gd_ (in_t3 (List.mem_of_getElem? (i := 56) (by decide +kernel))) rfl
theorem im_X3_why : Cond.instanceMethod yX3_why ∈ lw_g := gd_ (in_t3 (List.mem_of_getElem? (i := 57) (by decide +kernel))) rfl
theorem se_X3_why : Cond.selects RX3 yX3_why yX3_why ∈ lw_g := gd_ (in_t3 (List.mem_of_getElem? (i := 58) (by decide +kernel))) rfl
theorem co_X3_why : Cond.code yX3_why cX3_why 3 (Option.some Jvm.ClassFile.FieldType.int) ∈ lw_g := gd_ (in_t3 (List.mem_of_getElem? (i := 59) (by decide +kernel))) rfl
theorem ml_L_138 : Cond.methodLink RL 138 yX3_on ∈ lw_g := gd_ (in_t3 (List.mem_of_getElem? (i := 60) (by decide +kernel))) rfl
theorem im_X3_on : Cond.instanceMethod yX3_on ∈ lw_g := gd_ (in_t3 (List.mem_of_getElem? (i := 61) (by decide +kernel))) rfl
theorem se_X3_on : Cond.selects RX3 yX3_on yX3_on ∈ lw_g := gd_ (in_t3 (List.mem_of_getElem? (i := 62) (by decide +kernel))) rfl
theorem co_X3_on : Cond.code yX3_on cX3_on 3 (Option.some Jvm.ClassFile.FieldType.int) ∈ lw_g := gd_ (in_t3 (List.mem_of_getElem? (i := 63) (by decide +kernel))) rfl
theorem ml_L_142 : Cond.methodLink RL 142 yX3_stuck ∈ lw_g := gd_ (in_t3 (List.mem_of_getElem? (i := 64) (by decide +kernel))) rfl
theorem im_X3_stuck : Cond.instanceMethod yX3_stuck ∈ lw_g := gd_ (in_t3 (List.mem_of_getElem? (i := 65) (by decide +kernel))) rfl
theorem se_X3_stuck : Cond.selects RX3 yX3_stuck yX3_stuck ∈ lw_g := gd_ (in_t3 (List.mem_of_getElem? (i := 66) (by decide +kernel))) rfl
theorem co_X3_stuck : Cond.code yX3_stuck cX3_stuck 4 (Option.some Jvm.ClassFile.FieldType.boolean) ∈ lw_g := gd_ (in_t3 (List.mem_of_getElem? (i := 67) (by decide +kernel))) rfl
theorem ml_X3_243 : Cond.methodLink RX3 243 yX3_isAnyReady ∈ lw_g := gd_ (in_t3 (List.mem_of_getElem? (i := 68) (by decide +kernel))) rfl
theorem im_X3_isAnyReady : Cond.instanceMethod yX3_isAnyReady ∈ lw_g := gd_ (in_t3 (List.mem_of_getElem? (i := 70) (by decide +kernel))) rfl
theorem co_X3_isAnyReady : Cond.code yX3_isAnyReady cX3_isAnyReady 3 (Option.some Jvm.ClassFile.FieldType.boolean) ∈ lw_g := gd_ (in_t3 (List.mem_of_getElem? (i := 71) (by decide +kernel))) rfl
theorem ml_L_147 : Cond.methodLink RL 147 yX3_found ∈ lw_g := gd_ (in_t3 (List.mem_of_getElem? (i := 72) (by decide +kernel))) rfl
theorem im_X3_found : Cond.instanceMethod yX3_found ∈ lw_g := gd_ (in_t3 (List.mem_of_getElem? (i := 73) (by decide +kernel))) rfl
theorem se_X3_found : Cond.selects RX3 yX3_found yX3_found ∈ lw_g := gd_ (in_t3 (List.mem_of_getElem? (i := 74) (by decide +kernel))) rfl
theorem co_X3_found : Cond.code yX3_found cX3_found 2 (Option.some Jvm.ClassFile.FieldType.int) ∈ lw_g := gd_ (in_t3 (List.mem_of_getElem? (i := 75) (by decide +kernel))) rfl
theorem cl_L_10 : Cond.classLink RL 10 RX4 ∈ lw_g := gd_ (in_t3 (List.mem_of_getElem? (i := 76) (by decide +kernel))) rfl
theorem ib_X4 : Cond.instantiable RX4 42 ∈ lw_g := gd_ (in_t3 (List.mem_of_getElem? (i := 77) (by decide +kernel))) rfl
theorem ml_L_12 : Cond.methodLink RL 12 yX4_init ∈ lw_g := gd_ (in_t3 (List.mem_of_getElem? (i := 78) (by decide +kernel))) rfl
theorem im_X4_init : Cond.instanceMethod yX4_init ∈ lw_g := gd_ (in_t3 (List.mem_of_getElem? (i := 79) (by decide +kernel))) rfl
theorem co_X4_init : Cond.code yX4_init cX4_init 1 (Option.none : Option Jvm.ClassFile.FieldType) ∈ lw_g := gd_ (in_t3 (List.mem_of_getElem? (i := 80) (by decide +kernel))) rfl
theorem ml_X4_1 : Cond.methodLink RX4 1 (⟨"java/lang/Object", "<init>", "()V"⟩ : MethodName) ∈ lw_g := gd_ (in_t3 (List.mem_of_getElem? (i := 81) (by decide +kernel))) rfl
theorem fl_X4_121 : Cond.fieldLink RX4 121 "RingPostModel" "rings" "I" ∈ lw_g := gd_ (in_t3 (List.mem_of_getElem? (i := 82) (by decide +kernel))) rfl
theorem fl_X4_7 : Cond.fieldLink RX4 7 "RingPostModel" "slots" "[I" ∈ lw_g := gd_ (in_t3 (List.mem_of_getElem? (i := 83) (by decide +kernel))) rfl
theorem fl_X4_13 : Cond.fieldLink RX4 13 "RingPostModel" "claimed" "[I" ∈ lw_g := gd_ (in_t3 (List.mem_of_getElem? (i := 84) (by decide +kernel))) rfl
theorem fl_X4_16 : Cond.fieldLink RX4 16 "RingPostModel" "how" "[I" ∈ lw_g := gd_ (in_t3 (List.mem_of_getElem? (i := 85) (by decide +kernel))) rfl
theorem fl_X4_19 : Cond.fieldLink RX4 19 "RingPostModel" "latest" "[J" ∈ lw_g := gd_ (in_t3 (List.mem_of_getElem? (i := 86) (by decide +kernel))) rfl
theorem fl_X4_23 : Cond.fieldLink RX4 23 "RingPostModel" "open" "[Z" ∈ lw_g := gd_ (in_t3 (List.mem_of_getElem? (i := 87) (by decide +kernel))) rfl
theorem fl_X4_27 : Cond.fieldLink RX4 27 "RingPostModel" "stamps" "[J" ∈ lw_g := gd_ (in_t3 (List.mem_of_getElem? (i := 88) (by decide +kernel))) rfl
theorem fl_X4_30 : Cond.fieldLink RX4 30 "RingPostModel" "keys" "[I" ∈ lw_g := gd_ (in_t3 (List.mem_of_getElem? (i := 89) (by decide +kernel))) rfl
theorem fl_X4_33 : Cond.fieldLink RX4 33 "RingPostModel" "lengths" "[I" ∈ lw_g := gd_ (in_t3 (List.mem_of_getElem? (i := 90) (by decide +kernel))) rfl
theorem fl_X4_36 : Cond.fieldLink RX4 36 "RingPostModel" "words" "[J" ∈ lw_g := gd_ (in_t3 (List.mem_of_getElem? (i := 91) (by decide +kernel))) rfl
theorem fl_X4_124 : Cond.fieldLink RX4 124 "RingPostModel" "readers" "I" ∈ lw_g := gd_ (in_t3 (List.mem_of_getElem? (i := 92) (by decide +kernel))) rfl
theorem fl_X4_39 : Cond.fieldLink RX4 39 "RingPostModel" "kinds" "[I" ∈ lw_g := gd_ (in_t3 (List.mem_of_getElem? (i := 93) (by decide +kernel))) rfl
theorem fl_X4_42 : Cond.fieldLink RX4 42 "RingPostModel" "ringOf" "[I" ∈ lw_g := gd_ (in_t3 (List.mem_of_getElem? (i := 94) (by decide +kernel))) rfl
theorem fl_X4_45 : Cond.fieldLink RX4 45 "RingPostModel" "placeOf" "[I" ∈ lw_g := gd_ (in_t3 (List.mem_of_getElem? (i := 95) (by decide +kernel))) rfl
theorem fl_X4_48 : Cond.fieldLink RX4 48 "RingPostModel" "ringMany" "[I" ∈ lw_g := gd_ (in_t3 (List.mem_of_getElem? (i := 96) (by decide +kernel))) rfl
theorem fl_X4_51 : Cond.fieldLink RX4 51 "RingPostModel" "names" "[I" ∈ lw_g := gd_ (in_t3 (List.mem_of_getElem? (i := 97) (by decide +kernel))) rfl
theorem fl_X4_54 : Cond.fieldLink RX4 54 "RingPostModel" "nameMany" "[I" ∈ lw_g := gd_ (in_t3 (List.mem_of_getElem? (i := 98) (by decide +kernel))) rfl
theorem fl_X4_57 : Cond.fieldLink RX4 57 "RingPostModel" "targets" "[I" ∈ lw_g := gd_ (in_t3 (List.mem_of_getElem? (i := 99) (by decide +kernel))) rfl
theorem fl_X4_60 : Cond.fieldLink RX4 60 "RingPostModel" "missed" "[I" ∈ lw_g := gd_ (in_t3 (List.mem_of_getElem? (i := 100) (by decide +kernel))) rfl
theorem fl_X4_63 : Cond.fieldLink RX4 63 "RingPostModel" "spanFrom" "[I" ∈ lw_g := gd_ (in_t3 (List.mem_of_getElem? (i := 101) (by decide +kernel))) rfl
theorem fl_X4_66 : Cond.fieldLink RX4 66 "RingPostModel" "spanTo" "[I" ∈ lw_g := gd_ (in_t3 (List.mem_of_getElem? (i := 102) (by decide +kernel))) rfl
theorem fl_X4_69 : Cond.fieldLink RX4 69 "RingPostModel" "gets" "[I" ∈ lw_g := gd_ (in_t3 (List.mem_of_getElem? (i := 103) (by decide +kernel))) rfl
theorem fl_X4_72 : Cond.fieldLink RX4 72 "RingPostModel" "gotRing" "[I" ∈ lw_g := gd_ (in_t3 (List.mem_of_getElem? (i := 104) (by decide +kernel))) rfl
theorem fl_X4_75 : Cond.fieldLink RX4 75 "RingPostModel" "gotNumber" "[I" ∈ lw_g := gd_ (in_t3 (List.mem_of_getElem? (i := 105) (by decide +kernel))) rfl
theorem fl_X4_78 : Cond.fieldLink RX4 78 "RingPostModel" "gotStamp" "[J" ∈ lw_g := gd_ (in_t3 (List.mem_of_getElem? (i := 106) (by decide +kernel))) rfl
theorem fl_X4_81 : Cond.fieldLink RX4 81 "RingPostModel" "gotKey" "[I" ∈ lw_g := gd_ (in_t3 (List.mem_of_getElem? (i := 107) (by decide +kernel))) rfl
theorem fl_X4_84 : Cond.fieldLink RX4 84 "RingPostModel" "gotLength" "[I" ∈ lw_g := gd_ (in_t3 (List.mem_of_getElem? (i := 108) (by decide +kernel))) rfl
theorem fl_X4_87 : Cond.fieldLink RX4 87 "RingPostModel" "gotWords" "[J" ∈ lw_g := gd_ (in_t3 (List.mem_of_getElem? (i := 109) (by decide +kernel))) rfl
theorem fl_X4_90 : Cond.fieldLink RX4 90 "RingPostModel" "entryMany" "[I" ∈ lw_g := gd_ (in_t3 (List.mem_of_getElem? (i := 110) (by decide +kernel))) rfl
theorem fl_X4_93 : Cond.fieldLink RX4 93 "RingPostModel" "entryNumber" "[I" ∈ lw_g := gd_ (in_t3 (List.mem_of_getElem? (i := 111) (by decide +kernel))) rfl
theorem fl_X4_96 : Cond.fieldLink RX4 96 "RingPostModel" "entryStamp" "[J" ∈ lw_g := gd_ (in_t3 (List.mem_of_getElem? (i := 112) (by decide +kernel))) rfl
theorem fl_X4_99 : Cond.fieldLink RX4 99 "RingPostModel" "entryKey" "[I" ∈ lw_g := gd_ (in_t3 (List.mem_of_getElem? (i := 113) (by decide +kernel))) rfl
theorem fl_X4_102 : Cond.fieldLink RX4 102 "RingPostModel" "entryLength" "[I" ∈ lw_g := gd_ (in_t3 (List.mem_of_getElem? (i := 114) (by decide +kernel))) rfl
theorem fl_X4_105 : Cond.fieldLink RX4 105 "RingPostModel" "entryWords" "[J" ∈ lw_g := gd_ (in_t3 (List.mem_of_getElem? (i := 115) (by decide +kernel))) rfl
theorem fl_X4_135 : Cond.fieldLink RX4 135 "RingPostModel" "begun" "Z" ∈ lw_g := gd_ (in_t3 (List.mem_of_getElem? (i := 116) (by decide +kernel))) rfl
theorem fl_X4_139 : Cond.fieldLink RX4 139 "RingPostModel" "made" "I" ∈ lw_g := gd_ (in_t3 (List.mem_of_getElem? (i := 117) (by decide +kernel))) rfl
theorem fl_X4_108 : Cond.fieldLink RX4 108 "RingPostModel" "heldBy" "I" ∈ lw_g := gd_ (in_t3 (List.mem_of_getElem? (i := 118) (by decide +kernel))) rfl
theorem fl_X4_193 : Cond.fieldLink RX4 193 "RingPostModel" "refusal" "I" ∈ lw_g := gd_ (in_t3 (List.mem_of_getElem? (i := 119) (by decide +kernel))) rfl
theorem fl_X4_112 : Cond.fieldLink RX4 112 "RingPostModel" "finds" "[I" ∈ lw_g := gd_ (in_t3 (List.mem_of_getElem? (i := 120) (by decide +kernel))) rfl
theorem fl_X4_115 : Cond.fieldLink RX4 115 "RingPostModel" "way" "[I" ∈ lw_g := gd_ (in_t3 (List.mem_of_getElem? (i := 121) (by decide +kernel))) rfl
theorem fl_X4_153 : Cond.fieldLink RX4 153 "RingPostModel" "wayMany" "I" ∈ lw_g := gd_ (in_t3 (List.mem_of_getElem? (i := 122) (by decide +kernel))) rfl
theorem fl_X4_118 : Cond.fieldLink RX4 118 "RingPostModel" "reached" "[Z" ∈ lw_g := gd_ (in_t3 (List.mem_of_getElem? (i := 123) (by decide +kernel))) rfl
theorem arc_Jvm_ClassFile_FieldType_boolean : Cond.arrayClass Jvm.ClassFile.FieldType.boolean ∈ lw_g := gd_ (in_t3 (List.mem_of_getElem? (i := 209) (by decide +kernel))) rfl
theorem ml_L_17 : Cond.methodLink RL 17 yX4_ring ∈ lw_g := gd_ (in_t3 (List.mem_of_getElem? (i := 210) (by decide +kernel))) rfl
theorem im_X4_ring : Cond.instanceMethod yX4_ring ∈ lw_g := gd_ (in_t3 (List.mem_of_getElem? (i := 211) (by decide +kernel))) rfl
theorem se_X4_ring : Cond.selects RX4 yX4_ring yX4_ring ∈ lw_g := gd_ (in_t3 (List.mem_of_getElem? (i := 212) (by decide +kernel))) rfl
theorem co_X4_ring : Cond.code yX4_ring cX4_ring 2 (Option.some Jvm.ClassFile.FieldType.int) ∈ lw_g := gd_ (in_t3 (List.mem_of_getElem? (i := 213) (by decide +kernel))) rfl
theorem ml_X4_131 : Cond.methodLink RX4 131 yX4_find ∈ lw_g := gd_ (in_t3 (List.mem_of_getElem? (i := 214) (by decide +kernel))) rfl
theorem im_X4_find : Cond.instanceMethod yX4_find ∈ lw_g := gd_ (in_t3 (List.mem_of_getElem? (i := 216) (by decide +kernel))) rfl
theorem co_X4_find : Cond.code yX4_find cX4_find 2 (Option.some Jvm.ClassFile.FieldType.int) ∈ lw_g := gd_ (in_t3 (List.mem_of_getElem? (i := 217) (by decide +kernel))) rfl
theorem ml_L_22 : Cond.methodLink RL 22 yX4_reader ∈ lw_g := gd_ (in_t3 (List.mem_of_getElem? (i := 218) (by decide +kernel))) rfl
theorem im_X4_reader : Cond.instanceMethod yX4_reader ∈ lw_g := gd_ (in_t3 (List.mem_of_getElem? (i := 219) (by decide +kernel))) rfl
theorem se_X4_reader : Cond.selects RX4 yX4_reader yX4_reader ∈ lw_g := gd_ (in_t3 (List.mem_of_getElem? (i := 220) (by decide +kernel))) rfl
theorem co_X4_reader : Cond.code yX4_reader cX4_reader 5 (Option.some Jvm.ClassFile.FieldType.int) ∈ lw_g := gd_ (in_t3 (List.mem_of_getElem? (i := 221) (by decide +kernel))) rfl
theorem ml_X4_149 : Cond.methodLink RX4 149 yX4_isNumbered ∈ lw_g := gd_ (in_t3 (List.mem_of_getElem? (i := 222) (by decide +kernel))) rfl
theorem im_X4_isNumbered : Cond.instanceMethod yX4_isNumbered ∈ lw_g := gd_ (in_t3 (List.mem_of_getElem? (i := 224) (by decide +kernel))) rfl
theorem co_X4_isNumbered : Cond.code yX4_isNumbered cX4_isNumbered 4 (Option.some Jvm.ClassFile.FieldType.boolean) ∈ lw_g := gd_ (in_t3 (List.mem_of_getElem? (i := 225) (by decide +kernel))) rfl
theorem ml_X4_142 : Cond.methodLink RX4 142 yX4_isRing ∈ lw_g := gd_ (in_t3 (List.mem_of_getElem? (i := 226) (by decide +kernel))) rfl
theorem im_X4_isRing : Cond.instanceMethod yX4_isRing ∈ lw_g := gd_ (in_t3 (List.mem_of_getElem? (i := 228) (by decide +kernel))) rfl
theorem co_X4_isRing : Cond.code yX4_isRing cX4_isRing 2 (Option.some Jvm.ClassFile.FieldType.boolean) ∈ lw_g := gd_ (in_t3 (List.mem_of_getElem? (i := 229) (by decide +kernel))) rfl
theorem ml_X4_146 : Cond.methodLink RX4 146 yX4_isReader ∈ lw_g := gd_ (in_t3 (List.mem_of_getElem? (i := 230) (by decide +kernel))) rfl
theorem im_X4_isReader : Cond.instanceMethod yX4_isReader ∈ lw_g := gd_ (in_t3 (List.mem_of_getElem? (i := 232) (by decide +kernel))) rfl
theorem co_X4_isReader : Cond.code yX4_isReader cX4_isReader 2 (Option.some Jvm.ClassFile.FieldType.boolean) ∈ lw_g := gd_ (in_t3 (List.mem_of_getElem? (i := 233) (by decide +kernel))) rfl
theorem ml_X4_127 : Cond.methodLink RX4 127 yX4_index ∈ lw_g := gd_ (in_t3 (List.mem_of_getElem? (i := 234) (by decide +kernel))) rfl
theorem im_X4_index : Cond.instanceMethod yX4_index ∈ lw_g := gd_ (in_t3 (List.mem_of_getElem? (i := 236) (by decide +kernel))) rfl
theorem co_X4_index : Cond.code yX4_index cX4_index 5 (Option.some Jvm.ClassFile.FieldType.int) ∈ lw_g := gd_ (in_t3 (List.mem_of_getElem? (i := 237) (by decide +kernel))) rfl
theorem ml_L_27 : Cond.methodLink RL 27 yX4_join ∈ lw_g := gd_ (in_t3 (List.mem_of_getElem? (i := 238) (by decide +kernel))) rfl
theorem im_X4_join : Cond.instanceMethod yX4_join ∈ lw_g := gd_ (in_t3 (List.mem_of_getElem? (i := 239) (by decide +kernel))) rfl
theorem se_X4_join : Cond.selects RX4 yX4_join yX4_join ∈ lw_g := gd_ (in_t4 (List.mem_of_getElem? (i := 0) (by decide +kernel))) rfl
theorem co_X4_join : Cond.code yX4_join cX4_join 3 (Option.some Jvm.ClassFile.FieldType.int) ∈ lw_g := gd_ (in_t4 (List.mem_of_getElem? (i := 1) (by decide +kernel))) rfl
theorem ml_L_31 : Cond.methodLink RL 31 yX4_name ∈ lw_g := gd_ (in_t4 (List.mem_of_getElem? (i := 2) (by decide +kernel))) rfl
theorem im_X4_name : Cond.instanceMethod yX4_name ∈ lw_g := gd_ (in_t4 (List.mem_of_getElem? (i := 3) (by decide +kernel))) rfl
theorem se_X4_name : Cond.selects RX4 yX4_name yX4_name ∈ lw_g := gd_ (in_t4 (List.mem_of_getElem? (i := 4) (by decide +kernel))) rfl
theorem co_X4_name : Cond.code yX4_name cX4_name 3 (Option.some Jvm.ClassFile.FieldType.int) ∈ lw_g := gd_ (in_t4 (List.mem_of_getElem? (i := 5) (by decide +kernel))) rfl
theorem ml_X4_156 : Cond.methodLink RX4 156 yX4_doesName ∈ lw_g := gd_ (in_t4 (List.mem_of_getElem? (i := 6) (by decide +kernel))) rfl
theorem im_X4_doesName : Cond.instanceMethod yX4_doesName ∈ lw_g := gd_ (in_t4 (List.mem_of_getElem? (i := 8) (by decide +kernel))) rfl
theorem co_X4_doesName : Cond.code yX4_doesName cX4_doesName 5 (Option.some Jvm.ClassFile.FieldType.boolean) ∈ lw_g := gd_ (in_t4 (List.mem_of_getElem? (i := 9) (by decide +kernel))) rfl
theorem ml_X4_160 : Cond.methodLink RX4 160 yX4_reach ∈ lw_g := gd_ (in_t4 (List.mem_of_getElem? (i := 10) (by decide +kernel))) rfl
theorem im_X4_reach : Cond.instanceMethod yX4_reach ∈ lw_g := gd_ (in_t4 (List.mem_of_getElem? (i := 12) (by decide +kernel))) rfl
theorem co_X4_reach : Cond.code yX4_reach cX4_reach 6 (Option.none : Option Jvm.ClassFile.FieldType) ∈ lw_g := gd_ (in_t4 (List.mem_of_getElem? (i := 13) (by decide +kernel))) rfl
theorem ml_X4_164 : Cond.methodLink RX4 164 yX4_go ∈ lw_g := gd_ (in_t4 (List.mem_of_getElem? (i := 14) (by decide +kernel))) rfl
theorem im_X4_go : Cond.instanceMethod yX4_go ∈ lw_g := gd_ (in_t4 (List.mem_of_getElem? (i := 16) (by decide +kernel))) rfl
theorem co_X4_go : Cond.code yX4_go cX4_go 6 (Option.none : Option Jvm.ClassFile.FieldType) ∈ lw_g := gd_ (in_t4 (List.mem_of_getElem? (i := 17) (by decide +kernel))) rfl
theorem ml_L_35 : Cond.methodLink RL 35 yX4_circle ∈ lw_g := gd_ (in_t4 (List.mem_of_getElem? (i := 18) (by decide +kernel))) rfl
theorem im_X4_circle : Cond.instanceMethod yX4_circle ∈ lw_g := gd_ (in_t4 (List.mem_of_getElem? (i := 19) (by decide +kernel))) rfl
theorem se_X4_circle : Cond.selects RX4 yX4_circle yX4_circle ∈ lw_g := gd_ (in_t4 (List.mem_of_getElem? (i := 20) (by decide +kernel))) rfl
theorem co_X4_circle : Cond.code yX4_circle cX4_circle 2 (Option.some Jvm.ClassFile.FieldType.int) ∈ lw_g := gd_ (in_t4 (List.mem_of_getElem? (i := 21) (by decide +kernel))) rfl
theorem ml_L_40 : Cond.methodLink RL 40 yX4_begin ∈ lw_g := gd_ (in_t4 (List.mem_of_getElem? (i := 22) (by decide +kernel))) rfl
theorem im_X4_begin : Cond.instanceMethod yX4_begin ∈ lw_g := gd_ (in_t4 (List.mem_of_getElem? (i := 23) (by decide +kernel))) rfl
theorem se_X4_begin : Cond.selects RX4 yX4_begin yX4_begin ∈ lw_g := gd_ (in_t4 (List.mem_of_getElem? (i := 24) (by decide +kernel))) rfl
theorem co_X4_begin : Cond.code yX4_begin cX4_begin 1 (Option.some Jvm.ClassFile.FieldType.int) ∈ lw_g := gd_ (in_t4 (List.mem_of_getElem? (i := 25) (by decide +kernel))) rfl
theorem ml_L_44 : Cond.methodLink RL 44 yX4_made ∈ lw_g := gd_ (in_t4 (List.mem_of_getElem? (i := 26) (by decide +kernel))) rfl
theorem im_X4_made : Cond.instanceMethod yX4_made ∈ lw_g := gd_ (in_t4 (List.mem_of_getElem? (i := 27) (by decide +kernel))) rfl
theorem se_X4_made : Cond.selects RX4 yX4_made yX4_made ∈ lw_g := gd_ (in_t4 (List.mem_of_getElem? (i := 28) (by decide +kernel))) rfl
theorem co_X4_made : Cond.code yX4_made cX4_made 1 (Option.some Jvm.ClassFile.FieldType.int) ∈ lw_g := gd_ (in_t4 (List.mem_of_getElem? (i := 29) (by decide +kernel))) rfl
theorem ml_L_51 : Cond.methodLink RL 51 yX4_claim ∈ lw_g := gd_ (in_t4 (List.mem_of_getElem? (i := 30) (by decide +kernel))) rfl
theorem im_X4_claim : Cond.instanceMethod yX4_claim ∈ lw_g := gd_ (in_t4 (List.mem_of_getElem? (i := 31) (by decide +kernel))) rfl
theorem se_X4_claim : Cond.selects RX4 yX4_claim yX4_claim ∈ lw_g := gd_ (in_t4 (List.mem_of_getElem? (i := 32) (by decide +kernel))) rfl
theorem co_X4_claim : Cond.code yX4_claim cX4_claim 4 (Option.some Jvm.ClassFile.FieldType.int) ∈ lw_g := gd_ (in_t4 (List.mem_of_getElem? (i := 33) (by decide +kernel))) rfl
theorem ml_X4_200 : Cond.methodLink RX4 200 yX4_makeAll ∈ lw_g := gd_ (in_t4 (List.mem_of_getElem? (i := 34) (by decide +kernel))) rfl
theorem im_X4_makeAll : Cond.instanceMethod yX4_makeAll ∈ lw_g := gd_ (in_t4 (List.mem_of_getElem? (i := 36) (by decide +kernel))) rfl
theorem co_X4_makeAll : Cond.code yX4_makeAll cX4_makeAll 8 (Option.some Jvm.ClassFile.FieldType.int) ∈ lw_g := gd_ (in_t4 (List.mem_of_getElem? (i := 37) (by decide +kernel))) rfl
theorem ml_X4_189 : Cond.methodLink RX4 189 yX4_hinders ∈ lw_g := gd_ (in_t4 (List.mem_of_getElem? (i := 38) (by decide +kernel))) rfl
theorem im_X4_hinders : Cond.instanceMethod yX4_hinders ∈ lw_g := gd_ (in_t4 (List.mem_of_getElem? (i := 40) (by decide +kernel))) rfl
theorem co_X4_hinders : Cond.code yX4_hinders cX4_hinders 7 (Option.some Jvm.ClassFile.FieldType.int) ∈ lw_g := gd_ (in_t4 (List.mem_of_getElem? (i := 41) (by decide +kernel))) rfl
theorem ml_X4_186 : Cond.methodLink RX4 186 yX4_isHeld ∈ lw_g := gd_ (in_t4 (List.mem_of_getElem? (i := 42) (by decide +kernel))) rfl
theorem im_X4_isHeld : Cond.instanceMethod yX4_isHeld ∈ lw_g := gd_ (in_t4 (List.mem_of_getElem? (i := 44) (by decide +kernel))) rfl
theorem co_X4_isHeld : Cond.code yX4_isHeld cX4_isHeld 3 (Option.some Jvm.ClassFile.FieldType.boolean) ∈ lw_g := gd_ (in_t4 (List.mem_of_getElem? (i := 45) (by decide +kernel))) rfl
theorem ml_X4_180 : Cond.methodLink RX4 180 yX4_isOpen ∈ lw_g := gd_ (in_t4 (List.mem_of_getElem? (i := 46) (by decide +kernel))) rfl
theorem im_X4_isOpen : Cond.instanceMethod yX4_isOpen ∈ lw_g := gd_ (in_t4 (List.mem_of_getElem? (i := 48) (by decide +kernel))) rfl
theorem co_X4_isOpen : Cond.code yX4_isOpen cX4_isOpen 3 (Option.some Jvm.ClassFile.FieldType.boolean) ∈ lw_g := gd_ (in_t4 (List.mem_of_getElem? (i := 49) (by decide +kernel))) rfl
theorem ml_X4_168 : Cond.methodLink RX4 168 yX4_isKept ∈ lw_g := gd_ (in_t4 (List.mem_of_getElem? (i := 50) (by decide +kernel))) rfl
theorem im_X4_isKept : Cond.instanceMethod yX4_isKept ∈ lw_g := gd_ (in_t4 (List.mem_of_getElem? (i := 52) (by decide +kernel))) rfl
theorem co_X4_isKept : Cond.code yX4_isKept cX4_isKept 3 (Option.some Jvm.ClassFile.FieldType.boolean) ∈ lw_g := gd_ (in_t4 (List.mem_of_getElem? (i := 53) (by decide +kernel))) rfl
theorem ml_X4_171 : Cond.methodLink RX4 171 yX4_slot ∈ lw_g := gd_ (in_t4 (List.mem_of_getElem? (i := 54) (by decide +kernel))) rfl
theorem im_X4_slot : Cond.instanceMethod yX4_slot ∈ lw_g := gd_ (in_t4 (List.mem_of_getElem? (i := 56) (by decide +kernel))) rfl
theorem co_X4_slot : Cond.code yX4_slot cX4_slot 3 (Option.some Jvm.ClassFile.FieldType.int) ∈ lw_g := gd_ (in_t4 (List.mem_of_getElem? (i := 57) (by decide +kernel))) rfl
theorem ml_X4_183 : Cond.methodLink RX4 183 yX4_holderOf ∈ lw_g := gd_ (in_t4 (List.mem_of_getElem? (i := 58) (by decide +kernel))) rfl
theorem im_X4_holderOf : Cond.instanceMethod yX4_holderOf ∈ lw_g := gd_ (in_t4 (List.mem_of_getElem? (i := 60) (by decide +kernel))) rfl
theorem co_X4_holderOf : Cond.code yX4_holderOf cX4_holderOf 5 (Option.some Jvm.ClassFile.FieldType.int) ∈ lw_g := gd_ (in_t4 (List.mem_of_getElem? (i := 61) (by decide +kernel))) rfl
theorem ml_X4_174 : Cond.methodLink RX4 174 yX4_isHolder ∈ lw_g := gd_ (in_t4 (List.mem_of_getElem? (i := 62) (by decide +kernel))) rfl
theorem im_X4_isHolder : Cond.instanceMethod yX4_isHolder ∈ lw_g := gd_ (in_t4 (List.mem_of_getElem? (i := 64) (by decide +kernel))) rfl
theorem co_X4_isHolder : Cond.code yX4_isHolder cX4_isHolder 4 (Option.some Jvm.ClassFile.FieldType.boolean) ∈ lw_g := gd_ (in_t4 (List.mem_of_getElem? (i := 65) (by decide +kernel))) rfl
theorem ml_X4_177 : Cond.methodLink RX4 177 yX4_placeIn ∈ lw_g := gd_ (in_t4 (List.mem_of_getElem? (i := 66) (by decide +kernel))) rfl
theorem im_X4_placeIn : Cond.instanceMethod yX4_placeIn ∈ lw_g := gd_ (in_t4 (List.mem_of_getElem? (i := 68) (by decide +kernel))) rfl
theorem co_X4_placeIn : Cond.code yX4_placeIn cX4_placeIn 4 (Option.some Jvm.ClassFile.FieldType.int) ∈ lw_g := gd_ (in_t4 (List.mem_of_getElem? (i := 69) (by decide +kernel))) rfl
theorem ml_X4_196 : Cond.methodLink RX4 196 yX4_make ∈ lw_g := gd_ (in_t4 (List.mem_of_getElem? (i := 70) (by decide +kernel))) rfl
theorem im_X4_make : Cond.instanceMethod yX4_make ∈ lw_g := gd_ (in_t4 (List.mem_of_getElem? (i := 72) (by decide +kernel))) rfl
theorem co_X4_make : Cond.code yX4_make cX4_make 6 (Option.none : Option Jvm.ClassFile.FieldType) ∈ lw_g := gd_ (in_t4 (List.mem_of_getElem? (i := 73) (by decide +kernel))) rfl
theorem ml_L_56 : Cond.methodLink RL 56 yX4_batch ∈ lw_g := gd_ (in_t4 (List.mem_of_getElem? (i := 74) (by decide +kernel))) rfl
theorem im_X4_batch : Cond.instanceMethod yX4_batch ∈ lw_g := gd_ (in_t4 (List.mem_of_getElem? (i := 75) (by decide +kernel))) rfl
theorem se_X4_batch : Cond.selects RX4 yX4_batch yX4_batch ∈ lw_g := gd_ (in_t4 (List.mem_of_getElem? (i := 76) (by decide +kernel))) rfl
theorem co_X4_batch : Cond.code yX4_batch cX4_batch 5 (Option.some Jvm.ClassFile.FieldType.int) ∈ lw_g := gd_ (in_t4 (List.mem_of_getElem? (i := 77) (by decide +kernel))) rfl
theorem ml_L_60 : Cond.methodLink RL 60 yX4_by ∈ lw_g := gd_ (in_t4 (List.mem_of_getElem? (i := 78) (by decide +kernel))) rfl
theorem im_X4_by : Cond.instanceMethod yX4_by ∈ lw_g := gd_ (in_t4 (List.mem_of_getElem? (i := 79) (by decide +kernel))) rfl
theorem se_X4_by : Cond.selects RX4 yX4_by yX4_by ∈ lw_g := gd_ (in_t4 (List.mem_of_getElem? (i := 80) (by decide +kernel))) rfl
theorem co_X4_by : Cond.code yX4_by cX4_by 1 (Option.some Jvm.ClassFile.FieldType.int) ∈ lw_g := gd_ (in_t4 (List.mem_of_getElem? (i := 81) (by decide +kernel))) rfl
theorem ml_L_64 : Cond.methodLink RL 64 yX4_again ∈ lw_g := gd_ (in_t4 (List.mem_of_getElem? (i := 82) (by decide +kernel))) rfl
theorem im_X4_again : Cond.instanceMethod yX4_again ∈ lw_g := gd_ (in_t4 (List.mem_of_getElem? (i := 83) (by decide +kernel))) rfl
theorem se_X4_again : Cond.selects RX4 yX4_again yX4_again ∈ lw_g := gd_ (in_t4 (List.mem_of_getElem? (i := 84) (by decide +kernel))) rfl
theorem co_X4_again : Cond.code yX4_again cX4_again 1 (Option.some Jvm.ClassFile.FieldType.int) ∈ lw_g := gd_ (in_t4 (List.mem_of_getElem? (i := 85) (by decide +kernel))) rfl
theorem ml_L_69 : Cond.methodLink RL 69 yX4_fill ∈ lw_g := gd_ (in_t4 (List.mem_of_getElem? (i := 86) (by decide +kernel))) rfl
theorem im_X4_fill : Cond.instanceMethod yX4_fill ∈ lw_g := gd_ (in_t4 (List.mem_of_getElem? (i := 87) (by decide +kernel))) rfl
theorem se_X4_fill : Cond.selects RX4 yX4_fill yX4_fill ∈ lw_g := gd_ (in_t4 (List.mem_of_getElem? (i := 88) (by decide +kernel))) rfl
theorem co_X4_fill : Cond.code yX4_fill cX4_fill 6 (Option.some Jvm.ClassFile.FieldType.int) ∈ lw_g := gd_ (in_t4 (List.mem_of_getElem? (i := 89) (by decide +kernel))) rfl
theorem ml_L_74 : Cond.methodLink RL 74 yX4_copy ∈ lw_g := gd_ (in_t4 (List.mem_of_getElem? (i := 90) (by decide +kernel))) rfl
theorem im_X4_copy : Cond.instanceMethod yX4_copy ∈ lw_g := gd_ (in_t4 (List.mem_of_getElem? (i := 91) (by decide +kernel))) rfl
theorem se_X4_copy : Cond.selects RX4 yX4_copy yX4_copy ∈ lw_g := gd_ (in_t4 (List.mem_of_getElem? (i := 92) (by decide +kernel))) rfl
theorem co_X4_copy : Cond.code yX4_copy cX4_copy 7 (Option.some Jvm.ClassFile.FieldType.int) ∈ lw_g := gd_ (in_t4 (List.mem_of_getElem? (i := 93) (by decide +kernel))) rfl
theorem ml_L_79 : Cond.methodLink RL 79 yX4_publish ∈ lw_g := gd_ (in_t4 (List.mem_of_getElem? (i := 94) (by decide +kernel))) rfl
theorem im_X4_publish : Cond.instanceMethod yX4_publish ∈ lw_g := gd_ (in_t4 (List.mem_of_getElem? (i := 95) (by decide +kernel))) rfl
theorem se_X4_publish : Cond.selects RX4 yX4_publish yX4_publish ∈ lw_g := gd_ (in_t4 (List.mem_of_getElem? (i := 96) (by decide +kernel))) rfl
theorem co_X4_publish : Cond.code yX4_publish cX4_publish 6 (Option.some Jvm.ClassFile.FieldType.int) ∈ lw_g := gd_ (in_t4 (List.mem_of_getElem? (i := 97) (by decide +kernel))) rfl
theorem ml_X4_207 : Cond.methodLink RX4 207 yX4_fold ∈ lw_g := gd_ (in_t4 (List.mem_of_getElem? (i := 98) (by decide +kernel))) rfl
theorem im_X4_fold : Cond.instanceMethod yX4_fold ∈ lw_g := gd_ (in_t4 (List.mem_of_getElem? (i := 100) (by decide +kernel))) rfl
theorem co_X4_fold : Cond.code yX4_fold cX4_fold 6 (Option.none : Option Jvm.ClassFile.FieldType) ∈ lw_g := gd_ (in_t4 (List.mem_of_getElem? (i := 101) (by decide +kernel))) rfl
theorem ml_X4_203 : Cond.methodLink RX4 203 yX4_enter ∈ lw_g := gd_ (in_t4 (List.mem_of_getElem? (i := 102) (by decide +kernel))) rfl
theorem im_X4_enter : Cond.instanceMethod yX4_enter ∈ lw_g := gd_ (in_t4 (List.mem_of_getElem? (i := 104) (by decide +kernel))) rfl
theorem co_X4_enter : Cond.code yX4_enter cX4_enter 8 (Option.none : Option Jvm.ClassFile.FieldType) ∈ lw_g := gd_ (in_t4 (List.mem_of_getElem? (i := 105) (by decide +kernel))) rfl
theorem ml_L_83 : Cond.methodLink RL 83 yX4_close ∈ lw_g := gd_ (in_t4 (List.mem_of_getElem? (i := 106) (by decide +kernel))) rfl
theorem im_X4_close : Cond.instanceMethod yX4_close ∈ lw_g := gd_ (in_t4 (List.mem_of_getElem? (i := 107) (by decide +kernel))) rfl
theorem se_X4_close : Cond.selects RX4 yX4_close yX4_close ∈ lw_g := gd_ (in_t4 (List.mem_of_getElem? (i := 108) (by decide +kernel))) rfl
theorem co_X4_close : Cond.code yX4_close cX4_close 2 (Option.some Jvm.ClassFile.FieldType.int) ∈ lw_g := gd_ (in_t4 (List.mem_of_getElem? (i := 109) (by decide +kernel))) rfl
theorem ml_L_87 : Cond.methodLink RL 87 yX4_give ∈ lw_g := gd_ (in_t4 (List.mem_of_getElem? (i := 110) (by decide +kernel))) rfl
theorem im_X4_give : Cond.instanceMethod yX4_give ∈ lw_g := gd_ (in_t4 (List.mem_of_getElem? (i := 111) (by decide +kernel))) rfl
theorem se_X4_give : Cond.selects RX4 yX4_give yX4_give ∈ lw_g := gd_ (in_t4 (List.mem_of_getElem? (i := 112) (by decide +kernel))) rfl
theorem co_X4_give : Cond.code yX4_give cX4_give 3 (Option.some Jvm.ClassFile.FieldType.int) ∈ lw_g := gd_ (in_t4 (List.mem_of_getElem? (i := 113) (by decide +kernel))) rfl
theorem ml_X4_210 : Cond.methodLink RX4 210 yX4_leastPlace ∈ lw_g := gd_ (in_t4 (List.mem_of_getElem? (i := 114) (by decide +kernel))) rfl
theorem im_X4_leastPlace : Cond.instanceMethod yX4_leastPlace ∈ lw_g := gd_ (in_t4 (List.mem_of_getElem? (i := 116) (by decide +kernel))) rfl
theorem co_X4_leastPlace : Cond.code yX4_leastPlace cX4_leastPlace 4 (Option.some Jvm.ClassFile.FieldType.int) ∈ lw_g := gd_ (in_t4 (List.mem_of_getElem? (i := 117) (by decide +kernel))) rfl
theorem ml_X4_213 : Cond.methodLink RX4 213 yX4_openMany ∈ lw_g := gd_ (in_t4 (List.mem_of_getElem? (i := 118) (by decide +kernel))) rfl
theorem im_X4_openMany : Cond.instanceMethod yX4_openMany ∈ lw_g := gd_ (in_t4 (List.mem_of_getElem? (i := 120) (by decide +kernel))) rfl
theorem co_X4_openMany : Cond.code yX4_openMany cX4_openMany 4 (Option.some Jvm.ClassFile.FieldType.int) ∈ lw_g := gd_ (in_t4 (List.mem_of_getElem? (i := 121) (by decide +kernel))) rfl
theorem ml_L_91 : Cond.methodLink RL 91 yX4_told ∈ lw_g := gd_ (in_t4 (List.mem_of_getElem? (i := 122) (by decide +kernel))) rfl
theorem im_X4_told : Cond.instanceMethod yX4_told ∈ lw_g := gd_ (in_t4 (List.mem_of_getElem? (i := 123) (by decide +kernel))) rfl
theorem se_X4_told : Cond.selects RX4 yX4_told yX4_told ∈ lw_g := gd_ (in_t4 (List.mem_of_getElem? (i := 124) (by decide +kernel))) rfl
theorem co_X4_told : Cond.code yX4_told cX4_told 3 (Option.some Jvm.ClassFile.FieldType.int) ∈ lw_g := gd_ (in_t4 (List.mem_of_getElem? (i := 125) (by decide +kernel))) rfl
theorem ml_X4_216 : Cond.methodLink RX4 216 yX4_holders ∈ lw_g := gd_ (in_t4 (List.mem_of_getElem? (i := 126) (by decide +kernel))) rfl
theorem im_X4_holders : Cond.instanceMethod yX4_holders ∈ lw_g := gd_ (in_t4 (List.mem_of_getElem? (i := 128) (by decide +kernel))) rfl
theorem co_X4_holders : Cond.code yX4_holders cX4_holders 4 (Option.some Jvm.ClassFile.FieldType.int) ∈ lw_g := gd_ (in_t4 (List.mem_of_getElem? (i := 129) (by decide +kernel))) rfl
theorem ml_X4_219 : Cond.methodLink RX4 219 yX4_isHeldUp ∈ lw_g := gd_ (in_t4 (List.mem_of_getElem? (i := 130) (by decide +kernel))) rfl
theorem im_X4_isHeldUp : Cond.instanceMethod yX4_isHeldUp ∈ lw_g := gd_ (in_t4 (List.mem_of_getElem? (i := 132) (by decide +kernel))) rfl
theorem co_X4_isHeldUp : Cond.code yX4_isHeldUp cX4_isHeldUp 2 (Option.some Jvm.ClassFile.FieldType.boolean) ∈ lw_g := gd_ (in_t4 (List.mem_of_getElem? (i := 133) (by decide +kernel))) rfl
theorem ml_L_96 : Cond.methodLink RL 96 yX4_last ∈ lw_g := gd_ (in_t4 (List.mem_of_getElem? (i := 134) (by decide +kernel))) rfl
theorem im_X4_last : Cond.instanceMethod yX4_last ∈ lw_g := gd_ (in_t4 (List.mem_of_getElem? (i := 135) (by decide +kernel))) rfl
theorem se_X4_last : Cond.selects RX4 yX4_last yX4_last ∈ lw_g := gd_ (in_t4 (List.mem_of_getElem? (i := 136) (by decide +kernel))) rfl
theorem co_X4_last : Cond.code yX4_last cX4_last 2 (Option.some Jvm.ClassFile.FieldType.long) ∈ lw_g := gd_ (in_t4 (List.mem_of_getElem? (i := 137) (by decide +kernel))) rfl
theorem ml_L_137 : Cond.methodLink RL 137 yX4_why ∈ lw_g := gd_ (in_t4 (List.mem_of_getElem? (i := 138) (by decide +kernel))) rfl
theorem im_X4_why : Cond.instanceMethod yX4_why ∈ lw_g := gd_ (in_t4 (List.mem_of_getElem? (i := 139) (by decide +kernel))) rfl
theorem se_X4_why : Cond.selects RX4 yX4_why yX4_why ∈ lw_g := gd_ (in_t4 (List.mem_of_getElem? (i := 140) (by decide +kernel))) rfl
theorem co_X4_why : Cond.code yX4_why cX4_why 2 (Option.some Jvm.ClassFile.FieldType.int) ∈ lw_g := gd_ (in_t4 (List.mem_of_getElem? (i := 141) (by decide +kernel))) rfl
theorem ml_X4_240 : Cond.methodLink RX4 240 yX4_whyOne ∈ lw_g := gd_ (in_t4 (List.mem_of_getElem? (i := 142) (by decide +kernel))) rfl
theorem im_X4_whyOne : Cond.instanceMethod yX4_whyOne ∈ lw_g := gd_ (in_t4 (List.mem_of_getElem? (i := 144) (by decide +kernel))) rfl
theorem co_X4_whyOne : Cond.code yX4_whyOne cX4_whyOne 6 (Option.some Jvm.ClassFile.FieldType.int) ∈ lw_g := gd_ (in_t4 (List.mem_of_getElem? (i := 145) (by decide +kernel))) rfl
theorem ml_X4_228 : Cond.methodLink RX4 228 yX4_lacking ∈ lw_g := gd_ (in_t4 (List.mem_of_getElem? (i := 146) (by decide +kernel))) rfl
theorem im_X4_lacking : Cond.instanceMethod yX4_lacking ∈ lw_g := gd_ (in_t4 (List.mem_of_getElem? (i := 148) (by decide +kernel))) rfl
theorem co_X4_lacking : Cond.code yX4_lacking cX4_lacking 6 (Option.some Jvm.ClassFile.FieldType.int) ∈ lw_g := gd_ (in_t4 (List.mem_of_getElem? (i := 149) (by decide +kernel))) rfl
theorem ml_X4_225 : Cond.methodLink RX4 225 yX4_isPassed ∈ lw_g := gd_ (in_t4 (List.mem_of_getElem? (i := 150) (by decide +kernel))) rfl
theorem im_X4_isPassed : Cond.instanceMethod yX4_isPassed ∈ lw_g := gd_ (in_t4 (List.mem_of_getElem? (i := 152) (by decide +kernel))) rfl
theorem co_X4_isPassed : Cond.code yX4_isPassed cX4_isPassed 4 (Option.some Jvm.ClassFile.FieldType.boolean) ∈ lw_g := gd_ (in_t4 (List.mem_of_getElem? (i := 153) (by decide +kernel))) rfl
theorem ml_X4_222 : Cond.methodLink RX4 222 yX4_isPublished ∈ lw_g := gd_ (in_t4 (List.mem_of_getElem? (i := 154) (by decide +kernel))) rfl
theorem im_X4_isPublished : Cond.instanceMethod yX4_isPublished ∈ lw_g := gd_ (in_t4 (List.mem_of_getElem? (i := 156) (by decide +kernel))) rfl
theorem co_X4_isPublished : Cond.code yX4_isPublished cX4_isPublished 3 (Option.some Jvm.ClassFile.FieldType.boolean) ∈ lw_g := gd_ (in_t4 (List.mem_of_getElem? (i := 157) (by decide +kernel))) rfl
theorem ml_X4_231 : Cond.methodLink RX4 231 yX4_seen ∈ lw_g := gd_ (in_t4 (List.mem_of_getElem? (i := 158) (by decide +kernel))) rfl
theorem im_X4_seen : Cond.instanceMethod yX4_seen ∈ lw_g := gd_ (in_t4 (List.mem_of_getElem? (i := 160) (by decide +kernel))) rfl
theorem co_X4_seen : Cond.code yX4_seen cX4_seen 3 (Option.some Jvm.ClassFile.FieldType.int) ∈ lw_g := gd_ (in_t4 (List.mem_of_getElem? (i := 161) (by decide +kernel))) rfl
theorem ml_X4_234 : Cond.methodLink RX4 234 yX4_from ∈ lw_g := gd_ (in_t4 (List.mem_of_getElem? (i := 162) (by decide +kernel))) rfl
theorem im_X4_from : Cond.instanceMethod yX4_from ∈ lw_g := gd_ (in_t4 (List.mem_of_getElem? (i := 164) (by decide +kernel))) rfl
theorem co_X4_from : Cond.code yX4_from cX4_from 5 (Option.some Jvm.ClassFile.FieldType.int) ∈ lw_g := gd_ (in_t4 (List.mem_of_getElem? (i := 165) (by decide +kernel))) rfl
theorem ml_X4_237 : Cond.methodLink RX4 237 yX4_behind ∈ lw_g := gd_ (in_t4 (List.mem_of_getElem? (i := 166) (by decide +kernel))) rfl
theorem im_X4_behind : Cond.instanceMethod yX4_behind ∈ lw_g := gd_ (in_t4 (List.mem_of_getElem? (i := 168) (by decide +kernel))) rfl
theorem co_X4_behind : Cond.code yX4_behind cX4_behind 7 (Option.some Jvm.ClassFile.FieldType.int) ∈ lw_g := gd_ (in_t4 (List.mem_of_getElem? (i := 169) (by decide +kernel))) rfl
theorem ml_L_141 : Cond.methodLink RL 141 yX4_on ∈ lw_g := gd_ (in_t4 (List.mem_of_getElem? (i := 170) (by decide +kernel))) rfl
theorem im_X4_on : Cond.instanceMethod yX4_on ∈ lw_g := gd_ (in_t4 (List.mem_of_getElem? (i := 171) (by decide +kernel))) rfl
theorem se_X4_on : Cond.selects RX4 yX4_on yX4_on ∈ lw_g := gd_ (in_t4 (List.mem_of_getElem? (i := 172) (by decide +kernel))) rfl
theorem co_X4_on : Cond.code yX4_on cX4_on 2 (Option.some Jvm.ClassFile.FieldType.int) ∈ lw_g := gd_ (in_t4 (List.mem_of_getElem? (i := 173) (by decide +kernel))) rfl
theorem ml_X4_243 : Cond.methodLink RX4 243 yX4_why ∈ lw_g := gd_ (in_t4 (List.mem_of_getElem? (i := 174) (by decide +kernel))) rfl
theorem ml_L_146 : Cond.methodLink RL 146 yX4_stuck ∈ lw_g := gd_ (in_t4 (List.mem_of_getElem? (i := 175) (by decide +kernel))) rfl
theorem im_X4_stuck : Cond.instanceMethod yX4_stuck ∈ lw_g := gd_ (in_t4 (List.mem_of_getElem? (i := 176) (by decide +kernel))) rfl
theorem se_X4_stuck : Cond.selects RX4 yX4_stuck yX4_stuck ∈ lw_g := gd_ (in_t4 (List.mem_of_getElem? (i := 177) (by decide +kernel))) rfl
theorem co_X4_stuck : Cond.code yX4_stuck cX4_stuck 4 (Option.some Jvm.ClassFile.FieldType.boolean) ∈ lw_g := gd_ (in_t4 (List.mem_of_getElem? (i := 178) (by decide +kernel))) rfl
theorem ml_L_100 : Cond.methodLink RL 100 yX4_read ∈ lw_g := gd_ (in_t4 (List.mem_of_getElem? (i := 179) (by decide +kernel))) rfl
theorem im_X4_read : Cond.instanceMethod yX4_read ∈ lw_g := gd_ (in_t4 (List.mem_of_getElem? (i := 180) (by decide +kernel))) rfl
theorem se_X4_read : Cond.selects RX4 yX4_read yX4_read ∈ lw_g := gd_ (in_t4 (List.mem_of_getElem? (i := 181) (by decide +kernel))) rfl
theorem co_X4_read : Cond.code yX4_read cX4_read 5 (Option.some Jvm.ClassFile.FieldType.int) ∈ lw_g := gd_ (in_t4 (List.mem_of_getElem? (i := 182) (by decide +kernel))) rfl
theorem ml_X4_250 : Cond.methodLink RX4 250 yX4_miss ∈ lw_g := gd_ (in_t4 (List.mem_of_getElem? (i := 183) (by decide +kernel))) rfl
theorem im_X4_miss : Cond.instanceMethod yX4_miss ∈ lw_g := gd_ (in_t4 (List.mem_of_getElem? (i := 185) (by decide +kernel))) rfl
theorem co_X4_miss : Cond.code yX4_miss cX4_miss 4 (Option.none : Option Jvm.ClassFile.FieldType) ∈ lw_g := gd_ (in_t4 (List.mem_of_getElem? (i := 186) (by decide +kernel))) rfl
theorem ml_X4_253 : Cond.methodLink RX4 253 yX4_takeEntry ∈ lw_g := gd_ (in_t4 (List.mem_of_getElem? (i := 187) (by decide +kernel))) rfl
theorem im_X4_takeEntry : Cond.instanceMethod yX4_takeEntry ∈ lw_g := gd_ (in_t4 (List.mem_of_getElem? (i := 189) (by decide +kernel))) rfl
theorem co_X4_takeEntry : Cond.code yX4_takeEntry cX4_takeEntry 5 (Option.none : Option Jvm.ClassFile.FieldType) ∈ lw_g := gd_ (in_t4 (List.mem_of_getElem? (i := 190) (by decide +kernel))) rfl
theorem ml_X4_256 : Cond.methodLink RX4 256 yX4_takeLeast ∈ lw_g := gd_ (in_t4 (List.mem_of_getElem? (i := 191) (by decide +kernel))) rfl
theorem im_X4_takeLeast : Cond.instanceMethod yX4_takeLeast ∈ lw_g := gd_ (in_t4 (List.mem_of_getElem? (i := 193) (by decide +kernel))) rfl
theorem co_X4_takeLeast : Cond.code yX4_takeLeast cX4_takeLeast 10 (Option.none : Option Jvm.ClassFile.FieldType) ∈ lw_g := gd_ (in_t4 (List.mem_of_getElem? (i := 194) (by decide +kernel))) rfl
theorem ml_X4_246 : Cond.methodLink RX4 246 yX4_take ∈ lw_g := gd_ (in_t4 (List.mem_of_getElem? (i := 195) (by decide +kernel))) rfl
theorem im_X4_take : Cond.instanceMethod yX4_take ∈ lw_g := gd_ (in_t4 (List.mem_of_getElem? (i := 197) (by decide +kernel))) rfl
theorem co_X4_take : Cond.code yX4_take cX4_take 6 (Option.none : Option Jvm.ClassFile.FieldType) ∈ lw_g := gd_ (in_t4 (List.mem_of_getElem? (i := 198) (by decide +kernel))) rfl
theorem ml_X4_259 : Cond.methodLink RX4 259 yX4_echo ∈ lw_g := gd_ (in_t4 (List.mem_of_getElem? (i := 199) (by decide +kernel))) rfl
theorem im_X4_echo : Cond.instanceMethod yX4_echo ∈ lw_g := gd_ (in_t4 (List.mem_of_getElem? (i := 201) (by decide +kernel))) rfl
theorem co_X4_echo : Cond.code yX4_echo cX4_echo 8 (Option.none : Option Jvm.ClassFile.FieldType) ∈ lw_g := gd_ (in_t4 (List.mem_of_getElem? (i := 202) (by decide +kernel))) rfl
theorem ml_L_104 : Cond.methodLink RL 104 yX4_round ∈ lw_g := gd_ (in_t4 (List.mem_of_getElem? (i := 203) (by decide +kernel))) rfl
theorem im_X4_round : Cond.instanceMethod yX4_round ∈ lw_g := gd_ (in_t4 (List.mem_of_getElem? (i := 204) (by decide +kernel))) rfl
theorem se_X4_round : Cond.selects RX4 yX4_round yX4_round ∈ lw_g := gd_ (in_t4 (List.mem_of_getElem? (i := 205) (by decide +kernel))) rfl
theorem co_X4_round : Cond.code yX4_round cX4_round 3 (Option.some Jvm.ClassFile.FieldType.int) ∈ lw_g := gd_ (in_t4 (List.mem_of_getElem? (i := 206) (by decide +kernel))) rfl
theorem ml_X4_262 : Cond.methodLink RX4 262 yX4_read ∈ lw_g := gd_ (in_t4 (List.mem_of_getElem? (i := 207) (by decide +kernel))) rfl
theorem ml_L_109 : Cond.methodLink RL 109 yX4_got ∈ lw_g := gd_ (in_t4 (List.mem_of_getElem? (i := 208) (by decide +kernel))) rfl
theorem im_X4_got : Cond.instanceMethod yX4_got ∈ lw_g := gd_ (in_t4 (List.mem_of_getElem? (i := 209) (by decide +kernel))) rfl
theorem se_X4_got : Cond.selects RX4 yX4_got yX4_got ∈ lw_g := gd_ (in_t4 (List.mem_of_getElem? (i := 210) (by decide +kernel))) rfl
theorem co_X4_got : Cond.code yX4_got cX4_got 3 (Option.some Jvm.ClassFile.FieldType.long) ∈ lw_g := gd_ (in_t4 (List.mem_of_getElem? (i := 211) (by decide +kernel))) rfl
theorem cn_X4_265 : Cond.constantLong RX4 265 (-1 : Int64) ∈ lw_g := gd_ (in_t4 (List.mem_of_getElem? (i := 212) (by decide +kernel))) rfl
theorem ml_L_113 : Cond.methodLink RL 113 yX4_word ∈ lw_g := gd_ (in_t4 (List.mem_of_getElem? (i := 213) (by decide +kernel))) rfl
theorem im_X4_word : Cond.instanceMethod yX4_word ∈ lw_g := gd_ (in_t4 (List.mem_of_getElem? (i := 214) (by decide +kernel))) rfl
theorem se_X4_word : Cond.selects RX4 yX4_word yX4_word ∈ lw_g := gd_ (in_t4 (List.mem_of_getElem? (i := 215) (by decide +kernel))) rfl
theorem co_X4_word : Cond.code yX4_word cX4_word 3 (Option.some Jvm.ClassFile.FieldType.long) ∈ lw_g := gd_ (in_t4 (List.mem_of_getElem? (i := 216) (by decide +kernel))) rfl
theorem ml_L_117 : Cond.methodLink RL 117 yX4_of ∈ lw_g := gd_ (in_t4 (List.mem_of_getElem? (i := 217) (by decide +kernel))) rfl
theorem im_X4_of : Cond.instanceMethod yX4_of ∈ lw_g := gd_ (in_t4 (List.mem_of_getElem? (i := 218) (by decide +kernel))) rfl
theorem se_X4_of : Cond.selects RX4 yX4_of yX4_of ∈ lw_g := gd_ (in_t4 (List.mem_of_getElem? (i := 219) (by decide +kernel))) rfl
theorem co_X4_of : Cond.code yX4_of cX4_of 3 (Option.some Jvm.ClassFile.FieldType.int) ∈ lw_g := gd_ (in_t4 (List.mem_of_getElem? (i := 220) (by decide +kernel))) rfl
theorem ml_L_121 : Cond.methodLink RL 121 yX4_place ∈ lw_g := gd_ (in_t4 (List.mem_of_getElem? (i := 221) (by decide +kernel))) rfl
theorem im_X4_place : Cond.instanceMethod yX4_place ∈ lw_g := gd_ (in_t4 (List.mem_of_getElem? (i := 222) (by decide +kernel))) rfl
theorem se_X4_place : Cond.selects RX4 yX4_place yX4_place ∈ lw_g := gd_ (in_t4 (List.mem_of_getElem? (i := 223) (by decide +kernel))) rfl
theorem co_X4_place : Cond.code yX4_place cX4_place 3 (Option.some Jvm.ClassFile.FieldType.int) ∈ lw_g := gd_ (in_t4 (List.mem_of_getElem? (i := 224) (by decide +kernel))) rfl
theorem ml_L_125 : Cond.methodLink RL 125 yX4_named ∈ lw_g := gd_ (in_t4 (List.mem_of_getElem? (i := 225) (by decide +kernel))) rfl
theorem im_X4_named : Cond.instanceMethod yX4_named ∈ lw_g := gd_ (in_t4 (List.mem_of_getElem? (i := 226) (by decide +kernel))) rfl
theorem se_X4_named : Cond.selects RX4 yX4_named yX4_named ∈ lw_g := gd_ (in_t4 (List.mem_of_getElem? (i := 227) (by decide +kernel))) rfl
theorem co_X4_named : Cond.code yX4_named cX4_named 3 (Option.some Jvm.ClassFile.FieldType.int) ∈ lw_g := gd_ (in_t4 (List.mem_of_getElem? (i := 228) (by decide +kernel))) rfl
theorem ml_L_129 : Cond.methodLink RL 129 yX4_entry ∈ lw_g := gd_ (in_t4 (List.mem_of_getElem? (i := 229) (by decide +kernel))) rfl
theorem im_X4_entry : Cond.instanceMethod yX4_entry ∈ lw_g := gd_ (in_t4 (List.mem_of_getElem? (i := 230) (by decide +kernel))) rfl
theorem se_X4_entry : Cond.selects RX4 yX4_entry yX4_entry ∈ lw_g := gd_ (in_t4 (List.mem_of_getElem? (i := 231) (by decide +kernel))) rfl
theorem co_X4_entry : Cond.code yX4_entry cX4_entry 3 (Option.some Jvm.ClassFile.FieldType.int) ∈ lw_g := gd_ (in_t4 (List.mem_of_getElem? (i := 232) (by decide +kernel))) rfl
theorem ml_L_133 : Cond.methodLink RL 133 yX4_target ∈ lw_g := gd_ (in_t4 (List.mem_of_getElem? (i := 233) (by decide +kernel))) rfl
theorem im_X4_target : Cond.instanceMethod yX4_target ∈ lw_g := gd_ (in_t4 (List.mem_of_getElem? (i := 234) (by decide +kernel))) rfl
theorem se_X4_target : Cond.selects RX4 yX4_target yX4_target ∈ lw_g := gd_ (in_t4 (List.mem_of_getElem? (i := 235) (by decide +kernel))) rfl
theorem co_X4_target : Cond.code yX4_target cX4_target 2 (Option.some Jvm.ClassFile.FieldType.int) ∈ lw_g := gd_ (in_t4 (List.mem_of_getElem? (i := 236) (by decide +kernel))) rfl
theorem ml_L_150 : Cond.methodLink RL 150 yX4_found ∈ lw_g := gd_ (in_t4 (List.mem_of_getElem? (i := 237) (by decide +kernel))) rfl
theorem im_X4_found : Cond.instanceMethod yX4_found ∈ lw_g := gd_ (in_t4 (List.mem_of_getElem? (i := 238) (by decide +kernel))) rfl
theorem se_X4_found : Cond.selects RX4 yX4_found yX4_found ∈ lw_g := gd_ (in_t4 (List.mem_of_getElem? (i := 239) (by decide +kernel))) rfl
theorem co_X4_found : Cond.code yX4_found cX4_found 2 (Option.some Jvm.ClassFile.FieldType.int) ∈ lw_g := gd_ (in_t5 (List.mem_of_getElem? (i := 0) (by decide +kernel))) rfl
theorem cn_L_45 : Cond.constantLong RL 45 (4294967295 : Int64) ∈ lw_g := gd_ (in_t5 (List.mem_of_getElem? (i := 1) (by decide +kernel))) rfl
theorem se_X3_finding : Cond.selects RX3 yX3_finding yX3_finding ∈ lw_g := gd_ (List.mem_append_left _ (List.mem_of_getElem? (i := 0) (by decide +kernel))) rfl
theorem se_X3_ringAt : Cond.selects RX3 yX3_ringAt yX3_ringAt ∈ lw_g := gd_ (List.mem_append_left _ (List.mem_of_getElem? (i := 1) (by decide +kernel))) rfl
theorem se_X3_otherMayBe : Cond.selects RX3 yX3_otherMayBe yX3_otherMayBe ∈ lw_g := gd_ (List.mem_append_left _ (List.mem_of_getElem? (i := 2) (by decide +kernel))) rfl
theorem se_X3_readerAt : Cond.selects RX3 yX3_readerAt yX3_readerAt ∈ lw_g := gd_ (List.mem_append_left _ (List.mem_of_getElem? (i := 3) (by decide +kernel))) rfl
theorem se_X3_placeOf : Cond.selects RX3 yX3_placeOf yX3_placeOf ∈ lw_g := gd_ (List.mem_append_left _ (List.mem_of_getElem? (i := 4) (by decide +kernel))) rfl
theorem se_X3_newReader : Cond.selects RX3 yX3_newReader yX3_newReader ∈ lw_g := gd_ (List.mem_append_left _ (List.mem_of_getElem? (i := 5) (by decide +kernel))) rfl
theorem se_X3_leadsTo : Cond.selects RX3 yX3_leadsTo yX3_leadsTo ∈ lw_g := gd_ (List.mem_append_left _ (List.mem_of_getElem? (i := 6) (by decide +kernel))) rfl
theorem se_X3_namesOfAll : Cond.selects RX3 yX3_namesOfAll yX3_namesOfAll ∈ lw_g := gd_ (List.mem_append_left _ (List.mem_of_getElem? (i := 7) (by decide +kernel))) rfl
theorem se_X3_keepCircle : Cond.selects RX3 yX3_keepCircle yX3_keepCircle ∈ lw_g := gd_ (List.mem_append_left _ (List.mem_of_getElem? (i := 8) (by decide +kernel))) rfl
theorem se_X3_leastTowards : Cond.selects RX3 yX3_leastTowards yX3_leastTowards ∈ lw_g := gd_ (List.mem_append_left _ (List.mem_of_getElem? (i := 9) (by decide +kernel))) rfl
theorem se_X3_claimSome : Cond.selects RX3 yX3_claimSome yX3_claimSome ∈ lw_g := gd_ (List.mem_append_left _ (List.mem_of_getElem? (i := 10) (by decide +kernel))) rfl
theorem se_X3_refusalOfClaims : Cond.selects RX3 yX3_refusalOfClaims yX3_refusalOfClaims ∈ lw_g := gd_ (List.mem_append_left _ (List.mem_of_getElem? (i := 11) (by decide +kernel))) rfl
theorem se_X3_isHeldUp : Cond.selects RX3 yX3_isHeldUp yX3_isHeldUp ∈ lw_g := gd_ (List.mem_append_left _ (List.mem_of_getElem? (i := 12) (by decide +kernel))) rfl
theorem se_X3_holderUpTo : Cond.selects RX3 yX3_holderUpTo yX3_holderUpTo ∈ lw_g := gd_ (List.mem_append_left _ (List.mem_of_getElem? (i := 13) (by decide +kernel))) rfl
theorem se_X3_publishSlot : Cond.selects RX3 yX3_publishSlot yX3_publishSlot ∈ lw_g := gd_ (List.mem_append_left _ (List.mem_of_getElem? (i := 14) (by decide +kernel))) rfl
theorem se_X3_leastHolderPlace : Cond.selects RX3 yX3_leastHolderPlace yX3_leastHolderPlace ∈ lw_g := gd_ (List.mem_append_left _ (List.mem_of_getElem? (i := 15) (by decide +kernel))) rfl
theorem se_X3_countHolders : Cond.selects RX3 yX3_countHolders yX3_countHolders ∈ lw_g := gd_ (List.mem_append_left _ (List.mem_of_getElem? (i := 16) (by decide +kernel))) rfl
theorem se_X3_readOnce : Cond.selects RX3 yX3_readOnce yX3_readOnce ∈ lw_g := gd_ (List.mem_append_left _ (List.mem_of_getElem? (i := 17) (by decide +kernel))) rfl
theorem se_X3_reasonOf : Cond.selects RX3 yX3_reasonOf yX3_reasonOf ∈ lw_g := gd_ (List.mem_append_left _ (List.mem_of_getElem? (i := 18) (by decide +kernel))) rfl
theorem se_X3_reasonOfMerge : Cond.selects RX3 yX3_reasonOfMerge yX3_reasonOfMerge ∈ lw_g := gd_ (List.mem_append_left _ (List.mem_of_getElem? (i := 19) (by decide +kernel))) rfl
theorem se_X3_leastLackingRing : Cond.selects RX3 yX3_leastLackingRing yX3_leastLackingRing ∈ lw_g := gd_ (List.mem_append_left _ (List.mem_of_getElem? (i := 20) (by decide +kernel))) rfl
theorem se_X3_isAwaited : Cond.selects RX3 yX3_isAwaited yX3_isAwaited ∈ lw_g := gd_ (List.mem_append_left _ (List.mem_of_getElem? (i := 21) (by decide +kernel))) rfl
theorem se_X3_ringOfLeastStamp : Cond.selects RX3 yX3_ringOfLeastStamp yX3_ringOfLeastStamp ∈ lw_g := gd_ (List.mem_append_left _ (List.mem_of_getElem? (i := 22) (by decide +kernel))) rfl
theorem se_X3_reasonAtPlace : Cond.selects RX3 yX3_reasonAtPlace yX3_reasonAtPlace ∈ lw_g := gd_ (List.mem_append_left _ (List.mem_of_getElem? (i := 23) (by decide +kernel))) rfl
theorem se_X3_leastNamedBehind : Cond.selects RX3 yX3_leastNamedBehind yX3_leastNamedBehind ∈ lw_g := gd_ (List.mem_append_left _ (List.mem_of_getElem? (i := 24) (by decide +kernel))) rfl
theorem se_X3_takeNext : Cond.selects RX3 yX3_takeNext yX3_takeNext ∈ lw_g := gd_ (List.mem_append_left _ (List.mem_of_getElem? (i := 25) (by decide +kernel))) rfl
theorem se_X3_takeAtPlace : Cond.selects RX3 yX3_takeAtPlace yX3_takeAtPlace ∈ lw_g := gd_ (List.mem_append_left _ (List.mem_of_getElem? (i := 26) (by decide +kernel))) rfl
theorem se_X3_writeOn : Cond.selects RX3 yX3_writeOn yX3_writeOn ∈ lw_g := gd_ (List.mem_append_left _ (List.mem_of_getElem? (i := 27) (by decide +kernel))) rfl
theorem se_X3_isAnyReady : Cond.selects RX3 yX3_isAnyReady yX3_isAnyReady ∈ lw_g := gd_ (List.mem_append_left _ (List.mem_of_getElem? (i := 28) (by decide +kernel))) rfl
theorem se_X4_find : Cond.selects RX4 yX4_find yX4_find ∈ lw_g := gd_ (List.mem_append_left _ (List.mem_of_getElem? (i := 29) (by decide +kernel))) rfl
theorem se_X4_isNumbered : Cond.selects RX4 yX4_isNumbered yX4_isNumbered ∈ lw_g := gd_ (List.mem_append_left _ (List.mem_of_getElem? (i := 30) (by decide +kernel))) rfl
theorem se_X4_isRing : Cond.selects RX4 yX4_isRing yX4_isRing ∈ lw_g := gd_ (List.mem_append_left _ (List.mem_of_getElem? (i := 31) (by decide +kernel))) rfl
theorem se_X4_isReader : Cond.selects RX4 yX4_isReader yX4_isReader ∈ lw_g := gd_ (List.mem_append_left _ (List.mem_of_getElem? (i := 32) (by decide +kernel))) rfl
theorem se_X4_index : Cond.selects RX4 yX4_index yX4_index ∈ lw_g := gd_ (List.mem_append_left _ (List.mem_of_getElem? (i := 33) (by decide +kernel))) rfl
theorem se_X4_doesName : Cond.selects RX4 yX4_doesName yX4_doesName ∈ lw_g := gd_ (List.mem_append_left _ (List.mem_of_getElem? (i := 34) (by decide +kernel))) rfl
theorem se_X4_reach : Cond.selects RX4 yX4_reach yX4_reach ∈ lw_g := gd_ (List.mem_append_left _ (List.mem_of_getElem? (i := 35) (by decide +kernel))) rfl
theorem se_X4_go : Cond.selects RX4 yX4_go yX4_go ∈ lw_g := gd_ (List.mem_append_left _ (List.mem_of_getElem? (i := 36) (by decide +kernel))) rfl
theorem se_X4_makeAll : Cond.selects RX4 yX4_makeAll yX4_makeAll ∈ lw_g := gd_ (List.mem_append_left _ (List.mem_of_getElem? (i := 37) (by decide +kernel))) rfl
theorem se_X4_hinders : Cond.selects RX4 yX4_hinders yX4_hinders ∈ lw_g := gd_ (List.mem_append_left _ (List.mem_of_getElem? (i := 38) (by decide +kernel))) rfl
theorem se_X4_isHeld : Cond.selects RX4 yX4_isHeld yX4_isHeld ∈ lw_g := gd_ (List.mem_append_left _ (List.mem_of_getElem? (i := 39) (by decide +kernel))) rfl
theorem se_X4_isOpen : Cond.selects RX4 yX4_isOpen yX4_isOpen ∈ lw_g := gd_ (List.mem_append_left _ (List.mem_of_getElem? (i := 40) (by decide +kernel))) rfl
theorem se_X4_isKept : Cond.selects RX4 yX4_isKept yX4_isKept ∈ lw_g := gd_ (List.mem_append_left _ (List.mem_of_getElem? (i := 41) (by decide +kernel))) rfl
theorem se_X4_slot : Cond.selects RX4 yX4_slot yX4_slot ∈ lw_g := gd_ (List.mem_append_left _ (List.mem_of_getElem? (i := 42) (by decide +kernel))) rfl
theorem se_X4_holderOf : Cond.selects RX4 yX4_holderOf yX4_holderOf ∈ lw_g := gd_ (List.mem_append_left _ (List.mem_of_getElem? (i := 43) (by decide +kernel))) rfl
theorem se_X4_isHolder : Cond.selects RX4 yX4_isHolder yX4_isHolder ∈ lw_g := gd_ (List.mem_append_left _ (List.mem_of_getElem? (i := 44) (by decide +kernel))) rfl
theorem se_X4_placeIn : Cond.selects RX4 yX4_placeIn yX4_placeIn ∈ lw_g := gd_ (List.mem_append_left _ (List.mem_of_getElem? (i := 45) (by decide +kernel))) rfl
theorem se_X4_make : Cond.selects RX4 yX4_make yX4_make ∈ lw_g := gd_ (List.mem_append_left _ (List.mem_of_getElem? (i := 46) (by decide +kernel))) rfl
theorem se_X4_fold : Cond.selects RX4 yX4_fold yX4_fold ∈ lw_g := gd_ (List.mem_append_left _ (List.mem_of_getElem? (i := 47) (by decide +kernel))) rfl
theorem se_X4_enter : Cond.selects RX4 yX4_enter yX4_enter ∈ lw_g := gd_ (List.mem_append_left _ (List.mem_of_getElem? (i := 48) (by decide +kernel))) rfl
theorem se_X4_leastPlace : Cond.selects RX4 yX4_leastPlace yX4_leastPlace ∈ lw_g := gd_ (List.mem_append_left _ (List.mem_of_getElem? (i := 49) (by decide +kernel))) rfl
theorem se_X4_openMany : Cond.selects RX4 yX4_openMany yX4_openMany ∈ lw_g := gd_ (List.mem_append_left _ (List.mem_of_getElem? (i := 50) (by decide +kernel))) rfl
theorem se_X4_holders : Cond.selects RX4 yX4_holders yX4_holders ∈ lw_g := gd_ (List.mem_append_left _ (List.mem_of_getElem? (i := 51) (by decide +kernel))) rfl
theorem se_X4_isHeldUp : Cond.selects RX4 yX4_isHeldUp yX4_isHeldUp ∈ lw_g := gd_ (List.mem_append_left _ (List.mem_of_getElem? (i := 52) (by decide +kernel))) rfl
theorem se_X4_whyOne : Cond.selects RX4 yX4_whyOne yX4_whyOne ∈ lw_g := gd_ (List.mem_append_left _ (List.mem_of_getElem? (i := 53) (by decide +kernel))) rfl
theorem se_X4_lacking : Cond.selects RX4 yX4_lacking yX4_lacking ∈ lw_g := gd_ (List.mem_append_left _ (List.mem_of_getElem? (i := 54) (by decide +kernel))) rfl
theorem se_X4_isPassed : Cond.selects RX4 yX4_isPassed yX4_isPassed ∈ lw_g := gd_ (List.mem_append_left _ (List.mem_of_getElem? (i := 55) (by decide +kernel))) rfl
theorem se_X4_isPublished : Cond.selects RX4 yX4_isPublished yX4_isPublished ∈ lw_g := gd_ (List.mem_append_left _ (List.mem_of_getElem? (i := 56) (by decide +kernel))) rfl
theorem se_X4_seen : Cond.selects RX4 yX4_seen yX4_seen ∈ lw_g := gd_ (List.mem_append_left _ (List.mem_of_getElem? (i := 57) (by decide +kernel))) rfl
theorem se_X4_from : Cond.selects RX4 yX4_from yX4_from ∈ lw_g := gd_ (List.mem_append_left _ (List.mem_of_getElem? (i := 58) (by decide +kernel))) rfl
theorem se_X4_behind : Cond.selects RX4 yX4_behind yX4_behind ∈ lw_g := gd_ (List.mem_append_left _ (List.mem_of_getElem? (i := 59) (by decide +kernel))) rfl
theorem se_X4_miss : Cond.selects RX4 yX4_miss yX4_miss ∈ lw_g := gd_ (List.mem_append_left _ (List.mem_of_getElem? (i := 60) (by decide +kernel))) rfl
theorem se_X4_takeEntry : Cond.selects RX4 yX4_takeEntry yX4_takeEntry ∈ lw_g := gd_ (List.mem_append_left _ (List.mem_of_getElem? (i := 61) (by decide +kernel))) rfl
theorem se_X4_takeLeast : Cond.selects RX4 yX4_takeLeast yX4_takeLeast ∈ lw_g := gd_ (List.mem_append_left _ (List.mem_of_getElem? (i := 62) (by decide +kernel))) rfl
theorem se_X4_take : Cond.selects RX4 yX4_take yX4_take ∈ lw_g := gd_ (List.mem_append_left _ (List.mem_of_getElem? (i := 63) (by decide +kernel))) rfl
theorem se_X4_echo : Cond.selects RX4 yX4_echo yX4_echo ∈ lw_g := gd_ (List.mem_append_left _ (List.mem_of_getElem? (i := 64) (by decide +kernel))) rfl
theorem iX0 : ∀ w ∈ u_ws RX0 TX0 7, w ∈ lw_g := by decide +kernel
theorem iX1 : ∀ w ∈ u_ws RX1 TX1 15, w ∈ lw_g := by decide +kernel
theorem iX2 : ∀ w ∈ u_ws RX2 TX2 7, w ∈ lw_g := by decide +kernel
theorem iX3 : ∀ w ∈ u_ws RX3 TX3 12, w ∈ lw_g := by decide +kernel
theorem iX4 : ∀ w ∈ u_ws RX4 TX4 42, w ∈ lw_g := by decide +kernel
theorem lw_good : ∀ w ∈ lw_g, goodWord w = true := fun w h => (List.mem_filter.mp h).2
