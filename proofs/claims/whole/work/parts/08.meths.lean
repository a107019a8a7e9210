abbrev M_S_init : mm_M := (({ cls := "StubServer", name := "<init>", desc := "()V" } : Jvm.MethodName), prog_1_method_1_code, 2, (Option.none : Option Jvm.ClassFile.FieldType), 8)
abbrev M_OB_init : mm_M := (({ cls := "java/lang/Object", name := "<init>", desc := "()V" } : Jvm.MethodName), object_method_1_code, 1, (Option.none : Option Jvm.ClassFile.FieldType), 1)
abbrev M_C_init : mm_M := (({ cls := "StubServer$Connection", name := "<init>", desc := "()V" } : Jvm.MethodName), prog_2_method_1_code, 1, (Option.none : Option Jvm.ClassFile.FieldType), 7)
abbrev M_R_init : mm_M := (({ cls := "StubServer$Reader", name := "<init>", desc := "()V" } : Jvm.MethodName), prog_6_method_1_code, 1, (Option.none : Option Jvm.ClassFile.FieldType), 6)
abbrev M_SB_init : mm_M := (({ cls := "java/lang/StringBuilder", name := "<init>", desc := "()V" } : Jvm.MethodName), prog_23_method_1_code, 1, (Option.none : Option Jvm.ClassFile.FieldType), 4)
abbrev M_AB_init : mm_M := (({ cls := "java/lang/AbstractStringBuilder", name := "<init>", desc := "(I)V" } : Jvm.MethodName), prog_16_method_2_code, 2, (Option.none : Option Jvm.ClassFile.FieldType), 3)
abbrev M_U6_newBytesFor : mm_M := (({ cls := "java/lang/StringUTF16", name := "newBytesFor", desc := "(I)[B" } : Jvm.MethodName), prog_25_method_2_code, 1, (Option.some (Jvm.ClassFile.FieldType.array Jvm.ClassFile.FieldType.byte)), 2)
abbrev M_U6_newBytesLength : mm_M := (({ cls := "java/lang/StringUTF16", name := "newBytesLength", desc := "(I)I" } : Jvm.MethodName), prog_25_method_3_code, 1, (Option.some Jvm.ClassFile.FieldType.int), 1)
abbrev M_Q_init : mm_M := (({ cls := "StubServer$RequestLine", name := "<init>", desc := "()V" } : Jvm.MethodName), prog_8_method_1_code, 1, (Option.none : Option Jvm.ClassFile.FieldType), 5)
abbrev M_E_init : mm_M := (({ cls := "StubServer$Request", name := "<init>", desc := "()V" } : Jvm.MethodName), prog_7_method_1_code, 1, (Option.none : Option Jvm.ClassFile.FieldType), 4)
abbrev M_AL_init : mm_M := (({ cls := "java/util/ArrayList", name := "<init>", desc := "()V" } : Jvm.MethodName), prog_29_method_2_code, 1, (Option.none : Option Jvm.ClassFile.FieldType), 3)
abbrev M_AX_init : mm_M := (({ cls := "java/util/AbstractList", name := "<init>", desc := "()V" } : Jvm.MethodName), prog_28_method_1_code, 1, (Option.none : Option Jvm.ClassFile.FieldType), 2)
abbrev M_AC_init : mm_M := (({ cls := "java/util/AbstractCollection", name := "<init>", desc := "()V" } : Jvm.MethodName), prog_27_method_1_code, 1, (Option.none : Option Jvm.ClassFile.FieldType), 1)
abbrev M_P_init : mm_M := (({ cls := "StubServer$Part", name := "<init>", desc := "(Ljava/lang/String;Ljava/lang/String;)V" } : Jvm.MethodName), prog_4_method_1_code, 3, (Option.none : Option Jvm.ClassFile.FieldType), 1)
abbrev M_S_send : mm_M := (({ cls := "StubServer", name := "send", desc := "(III)I" } : Jvm.MethodName), prog_1_method_2_code, 7, (Option.some Jvm.ClassFile.FieldType.int), 15)
abbrev M_S_isOpen : mm_M := (({ cls := "StubServer", name := "isOpen", desc := "(I)Z" } : Jvm.MethodName), prog_1_method_4_code, 2, (Option.some Jvm.ClassFile.FieldType.boolean), 2)
abbrev M_S_isConnection : mm_M := (({ cls := "StubServer", name := "isConnection", desc := "(I)Z" } : Jvm.MethodName), prog_1_method_19_code, 1, (Option.some Jvm.ClassFile.FieldType.boolean), 1)
abbrev M_S_byteOf : mm_M := (({ cls := "StubServer", name := "byteOf", desc := "(II)I" } : Jvm.MethodName), prog_1_method_23_code, 2, (Option.some Jvm.ClassFile.FieldType.int), 1)
abbrev M_R_take : mm_M := (({ cls := "StubServer$Reader", name := "take", desc := "(I)I" } : Jvm.MethodName), prog_6_method_4_code, 2, (Option.some Jvm.ClassFile.FieldType.int), 13)
abbrev M_R_takeInRequestLine : mm_M := (({ cls := "StubServer$Reader", name := "takeInRequestLine", desc := "(I)I" } : Jvm.MethodName), prog_6_method_5_code, 3, (Option.some Jvm.ClassFile.FieldType.int), 12)
abbrev M_R_takeInLine : mm_M := (({ cls := "StubServer$Reader", name := "takeInLine", desc := "(III)I" } : Jvm.MethodName), prog_6_method_7_code, 4, (Option.some Jvm.ClassFile.FieldType.int), 9)
abbrev M_X_isPlain : mm_M := (({ cls := "StubServer$Texts", name := "isPlain", desc := "(I)Z" } : Jvm.MethodName), prog_12_method_2_code, 1, (Option.some Jvm.ClassFile.FieldType.boolean), 1)
abbrev M_SB_length : mm_M := (({ cls := "java/lang/StringBuilder", name := "length", desc := "()I" } : Jvm.MethodName), prog_23_method_93_code, 1, (Option.some Jvm.ClassFile.FieldType.int), 2)
abbrev M_AB_length : mm_M := (({ cls := "java/lang/AbstractStringBuilder", name := "length", desc := "()I" } : Jvm.MethodName), prog_16_method_6_code, 1, (Option.some Jvm.ClassFile.FieldType.int), 1)
abbrev M_SB_append_C : mm_M := (({ cls := "java/lang/StringBuilder", name := "append", desc := "(C)Ljava/lang/StringBuilder;" } : Jvm.MethodName), prog_23_method_14_code, 2, (Option.some (Jvm.ClassFile.FieldType.object "java/lang/StringBuilder")), 8)
abbrev M_AB_append_C : mm_M := (({ cls := "java/lang/AbstractStringBuilder", name := "append", desc := "(C)Ljava/lang/AbstractStringBuilder;" } : Jvm.MethodName), prog_16_method_31_code, 2, (Option.some (Jvm.ClassFile.FieldType.object "java/lang/AbstractStringBuilder")), 7)
abbrev M_AB_ensureCapacityInternal : mm_M := (({ cls := "java/lang/AbstractStringBuilder", name := "ensureCapacityInternal", desc := "(I)V" } : Jvm.MethodName), prog_16_method_9_code, 3, (Option.none : Option Jvm.ClassFile.FieldType), 4)
abbrev M_AB_newCapacity : mm_M := (({ cls := "java/lang/AbstractStringBuilder", name := "newCapacity", desc := "(I)I" } : Jvm.MethodName), prog_16_method_10_code, 6, (Option.some Jvm.ClassFile.FieldType.int), 3)
abbrev M_AS_newLength : mm_M := (({ cls := "jdk/internal/util/ArraysSupport", name := "newLength", desc := "(III)I" } : Jvm.MethodName), prog_36_method_27_code, 4, (Option.some Jvm.ClassFile.FieldType.int), 2)
abbrev M_MA_max : mm_M := (({ cls := "java/lang/Math", name := "max", desc := "(II)I" } : Jvm.MethodName), prog_21_method_65_code, 2, (Option.some Jvm.ClassFile.FieldType.int), 1)
abbrev M_AS_hugeLength : mm_M := (({ cls := "jdk/internal/util/ArraysSupport", name := "hugeLength", desc := "(II)I" } : Jvm.MethodName), prog_36_method_28_code, 3, (Option.some Jvm.ClassFile.FieldType.int), 1)
abbrev M_AR_copyOf_aBI : mm_M := (({ cls := "java/util/Arrays", name := "copyOf", desc := "([BI)[B" } : Jvm.MethodName), prog_30_method_121_code, 3, (Option.some (Jvm.ClassFile.FieldType.array Jvm.ClassFile.FieldType.byte)), 2)
abbrev M_MA_min : mm_M := (({ cls := "java/lang/Math", name := "min", desc := "(II)I" } : Jvm.MethodName), prog_21_method_69_code, 2, (Option.some Jvm.ClassFile.FieldType.int), 1)
abbrev M_AB_isLatin1 : mm_M := (({ cls := "java/lang/AbstractStringBuilder", name := "isLatin1", desc := "()Z" } : Jvm.MethodName), prog_16_method_68_code, 1, (Option.some Jvm.ClassFile.FieldType.boolean), 1)
abbrev M_L1_canEncode_C : mm_M := (({ cls := "java/lang/StringLatin1", name := "canEncode", desc := "(C)Z" } : Jvm.MethodName), prog_24_method_3_code, 1, (Option.some Jvm.ClassFile.FieldType.boolean), 1)
abbrev M_AB_inflate : mm_M := (({ cls := "java/lang/AbstractStringBuilder", name := "inflate", desc := "()V" } : Jvm.MethodName), prog_16_method_11_code, 2, (Option.none : Option Jvm.ClassFile.FieldType), 6)
abbrev M_L1_inflate_aBIaBII : mm_M := (({ cls := "java/lang/StringLatin1", name := "inflate", desc := "([BI[BII)V" } : Jvm.MethodName), prog_24_method_50_code, 5, (Option.none : Option Jvm.ClassFile.FieldType), 5)
abbrev M_U6_inflate : mm_M := (({ cls := "java/lang/StringUTF16", name := "inflate", desc := "([BI[BII)V" } : Jvm.MethodName), prog_25_method_86_code, 6, (Option.none : Option Jvm.ClassFile.FieldType), 4)
abbrev M_U6_checkBoundsOffCount : mm_M := (({ cls := "java/lang/StringUTF16", name := "checkBoundsOffCount", desc := "(II[B)V" } : Jvm.MethodName), prog_25_method_94_code, 3, (Option.none : Option Jvm.ClassFile.FieldType), 3)
abbrev M_U6_length : mm_M := (({ cls := "java/lang/StringUTF16", name := "length", desc := "([B)I" } : Jvm.MethodName), prog_25_method_6_code, 1, (Option.some Jvm.ClassFile.FieldType.int), 1)
abbrev M_ST_checkBoundsOffCount : mm_M := (({ cls := "java/lang/String", name := "checkBoundsOffCount", desc := "(III)I" } : Jvm.MethodName), prog_22_method_157_code, 3, (Option.some Jvm.ClassFile.FieldType.int), 2)
abbrev M_PC_checkFromIndexSize : mm_M := (({ cls := "jdk/internal/util/Preconditions", name := "checkFromIndexSize", desc := "(IIILjava/util/function/BiFunction;)I" } : Jvm.MethodName), prog_37_method_13_code, 4, (Option.some Jvm.ClassFile.FieldType.int), 1)
abbrev M_U6_putChar : mm_M := (({ cls := "java/lang/StringUTF16", name := "putChar", desc := "([BII)V" } : Jvm.MethodName), prog_25_method_4_code, 3, (Option.none : Option Jvm.ClassFile.FieldType), 2)
abbrev M_U6_putCharSB : mm_M := (({ cls := "java/lang/StringUTF16", name := "putCharSB", desc := "([BII)V" } : Jvm.MethodName), prog_25_method_71_code, 3, (Option.none : Option Jvm.ClassFile.FieldType), 4)
abbrev M_U6_checkIndex : mm_M := (({ cls := "java/lang/StringUTF16", name := "checkIndex", desc := "(I[B)V" } : Jvm.MethodName), prog_25_method_91_code, 2, (Option.none : Option Jvm.ClassFile.FieldType), 3)
abbrev M_ST_checkIndex : mm_M := (({ cls := "java/lang/String", name := "checkIndex", desc := "(II)V" } : Jvm.MethodName), prog_22_method_155_code, 2, (Option.none : Option Jvm.ClassFile.FieldType), 2)
abbrev M_PC_checkIndex : mm_M := (({ cls := "jdk/internal/util/Preconditions", name := "checkIndex", desc := "(IILjava/util/function/BiFunction;)I" } : Jvm.MethodName), prog_37_method_11_code, 3, (Option.some Jvm.ClassFile.FieldType.int), 1)
abbrev M_R_endLine : mm_M := (({ cls := "StubServer$Reader", name := "endLine", desc := "()Ljava/lang/String;" } : Jvm.MethodName), prog_6_method_8_code, 2, (Option.some (Jvm.ClassFile.FieldType.object "java/lang/String")), 9)
abbrev M_SB_toString : mm_M := (({ cls := "java/lang/StringBuilder", name := "toString", desc := "()Ljava/lang/String;" } : Jvm.MethodName), prog_23_method_42_code, 1, (Option.some (Jvm.ClassFile.FieldType.object "java/lang/String")), 8)
abbrev M_ST_init_S : mm_M := (({ cls := "java/lang/String", name := "<init>", desc := "(Ljava/lang/StringBuilder;)V" } : Jvm.MethodName), prog_22_method_53_code, 2, (Option.none : Option Jvm.ClassFile.FieldType), 7)
abbrev M_ST_init_AV : mm_M := (({ cls := "java/lang/String", name := "<init>", desc := "(Ljava/lang/AbstractStringBuilder;Ljava/lang/Void;)V" } : Jvm.MethodName), prog_22_method_150_code, 5, (Option.none : Option Jvm.ClassFile.FieldType), 6)
abbrev M_AB_getValue : mm_M := (({ cls := "java/lang/AbstractStringBuilder", name := "getValue", desc := "()[B" } : Jvm.MethodName), prog_16_method_64_code, 1, (Option.some (Jvm.ClassFile.FieldType.array Jvm.ClassFile.FieldType.byte)), 1)
abbrev M_AR_copyOfRange : mm_M := (({ cls := "java/util/Arrays", name := "copyOfRange", desc := "([BII)[B" } : Jvm.MethodName), prog_30_method_132_code, 3, (Option.some (Jvm.ClassFile.FieldType.array Jvm.ClassFile.FieldType.byte)), 3)
abbrev M_AR_copyOfRangeByte : mm_M := (({ cls := "java/util/Arrays", name := "copyOfRangeByte", desc := "([BII)[B" } : Jvm.MethodName), prog_30_method_133_code, 5, (Option.some (Jvm.ClassFile.FieldType.array Jvm.ClassFile.FieldType.byte)), 2)
abbrev M_AR_checkLength : mm_M := (({ cls := "java/util/Arrays", name := "checkLength", desc := "(II)V" } : Jvm.MethodName), prog_30_method_131_code, 2, (Option.none : Option Jvm.ClassFile.FieldType), 1)
abbrev M_U6_compress_aBII : mm_M := (({ cls := "java/lang/StringUTF16", name := "compress", desc := "([BII)[B" } : Jvm.MethodName), prog_25_method_17_code, 6, (Option.some (Jvm.ClassFile.FieldType.array Jvm.ClassFile.FieldType.byte)), 5)
abbrev M_U6_compress_aBIaBII : mm_M := (({ cls := "java/lang/StringUTF16", name := "compress", desc := "([BI[BII)I" } : Jvm.MethodName), prog_25_method_22_code, 7, (Option.some Jvm.ClassFile.FieldType.int), 4)
abbrev M_U6_getChar : mm_M := (({ cls := "java/lang/StringUTF16", name := "getChar", desc := "([BI)C" } : Jvm.MethodName), prog_25_method_5_code, 2, (Option.some Jvm.ClassFile.FieldType.char), 2)
abbrev M_U6_coderFromArrayLen : mm_M := (({ cls := "java/lang/StringUTF16", name := "coderFromArrayLen", desc := "([BI)B" } : Jvm.MethodName), prog_25_method_15_code, 2, (Option.some Jvm.ClassFile.FieldType.byte), 1)
abbrev M_SB_setLength : mm_M := (({ cls := "java/lang/StringBuilder", name := "setLength", desc := "(I)V" } : Jvm.MethodName), prog_23_method_89_code, 2, (Option.none : Option Jvm.ClassFile.FieldType), 6)
abbrev M_AB_setLength : mm_M := (({ cls := "java/lang/AbstractStringBuilder", name := "setLength", desc := "(I)V" } : Jvm.MethodName), prog_16_method_13_code, 2, (Option.none : Option Jvm.ClassFile.FieldType), 5)
abbrev M_L1_fillNull : mm_M := (({ cls := "java/lang/StringLatin1", name := "fillNull", desc := "([BII)V" } : Jvm.MethodName), prog_24_method_48_code, 3, (Option.none : Option Jvm.ClassFile.FieldType), 3)
abbrev M_AR_fill : mm_M := (({ cls := "java/util/Arrays", name := "fill", desc := "([BIIB)V" } : Jvm.MethodName), prog_30_method_110_code, 5, (Option.none : Option Jvm.ClassFile.FieldType), 2)
abbrev M_AR_rangeCheck : mm_M := (({ cls := "java/util/Arrays", name := "rangeCheck", desc := "(III)V" } : Jvm.MethodName), prog_30_method_30_code, 3, (Option.none : Option Jvm.ClassFile.FieldType), 1)
abbrev M_U6_fillNull : mm_M := (({ cls := "java/lang/StringUTF16", name := "fillNull", desc := "([BII)V" } : Jvm.MethodName), prog_25_method_70_code, 3, (Option.none : Option Jvm.ClassFile.FieldType), 3)
abbrev M_Q_read : mm_M := (({ cls := "StubServer$RequestLine", name := "read", desc := "(Ljava/lang/String;LStubServer$Request;)Z" } : Jvm.MethodName), prog_8_method_2_code, 8, (Option.some Jvm.ClassFile.FieldType.boolean), 11)
abbrev M_ST_indexOf_I : mm_M := (({ cls := "java/lang/String", name := "indexOf", desc := "(I)I" } : Jvm.MethodName), prog_22_method_79_code, 2, (Option.some Jvm.ClassFile.FieldType.int), 7)
abbrev M_ST_indexOf_II : mm_M := (({ cls := "java/lang/String", name := "indexOf", desc := "(II)I" } : Jvm.MethodName), prog_22_method_80_code, 3, (Option.some Jvm.ClassFile.FieldType.int), 6)
abbrev M_ST_isLatin1 : mm_M := (({ cls := "java/lang/String", name := "isLatin1", desc := "()Z" } : Jvm.MethodName), prog_22_method_154_code, 1, (Option.some Jvm.ClassFile.FieldType.boolean), 1)
abbrev M_ST_length : mm_M := (({ cls := "java/lang/String", name := "length", desc := "()I" } : Jvm.MethodName), prog_22_method_54_code, 1, (Option.some Jvm.ClassFile.FieldType.int), 2)
abbrev M_ST_coder : mm_M := (({ cls := "java/lang/String", name := "coder", desc := "()B" } : Jvm.MethodName), prog_22_method_152_code, 1, (Option.some Jvm.ClassFile.FieldType.byte), 1)
abbrev M_L1_indexOf : mm_M := (({ cls := "java/lang/StringLatin1", name := "indexOf", desc := "([BIII)I" } : Jvm.MethodName), prog_24_method_22_code, 4, (Option.some Jvm.ClassFile.FieldType.int), 2)
abbrev M_L1_canEncode_I : mm_M := (({ cls := "java/lang/StringLatin1", name := "canEncode", desc := "(I)Z" } : Jvm.MethodName), prog_24_method_4_code, 1, (Option.some Jvm.ClassFile.FieldType.boolean), 1)
abbrev M_L1_indexOfChar : mm_M := (({ cls := "java/lang/StringLatin1", name := "indexOfChar", desc := "([BIII)I" } : Jvm.MethodName), prog_24_method_23_code, 6, (Option.some Jvm.ClassFile.FieldType.int), 1)
abbrev M_U6_indexOf : mm_M := (({ cls := "java/lang/StringUTF16", name := "indexOf", desc := "([BIII)I" } : Jvm.MethodName), prog_25_method_40_code, 4, (Option.some Jvm.ClassFile.FieldType.int), 5)
abbrev M_U6_indexOfChar : mm_M := (({ cls := "java/lang/StringUTF16", name := "indexOfChar", desc := "([BIII)I" } : Jvm.MethodName), prog_25_method_47_code, 4, (Option.some Jvm.ClassFile.FieldType.int), 4)
abbrev M_U6_checkBoundsBeginEnd : mm_M := (({ cls := "java/lang/StringUTF16", name := "checkBoundsBeginEnd", desc := "(II[B)V" } : Jvm.MethodName), prog_25_method_93_code, 3, (Option.none : Option Jvm.ClassFile.FieldType), 3)
abbrev M_ST_checkBoundsBeginEnd : mm_M := (({ cls := "java/lang/String", name := "checkBoundsBeginEnd", desc := "(III)V" } : Jvm.MethodName), prog_22_method_158_code, 3, (Option.none : Option Jvm.ClassFile.FieldType), 2)
abbrev M_PC_checkFromToIndex : mm_M := (({ cls := "jdk/internal/util/Preconditions", name := "checkFromToIndex", desc := "(IIILjava/util/function/BiFunction;)I" } : Jvm.MethodName), prog_37_method_12_code, 4, (Option.some Jvm.ClassFile.FieldType.int), 1)
abbrev M_U6_indexOfCharUnsafe : mm_M := (({ cls := "java/lang/StringUTF16", name := "indexOfCharUnsafe", desc := "([BIII)I" } : Jvm.MethodName), prog_25_method_48_code, 5, (Option.some Jvm.ClassFile.FieldType.int), 3)
abbrev M_U6_indexOfSupplementary : mm_M := (({ cls := "java/lang/StringUTF16", name := "indexOfSupplementary", desc := "([BIII)I" } : Jvm.MethodName), prog_25_method_49_code, 7, (Option.some Jvm.ClassFile.FieldType.int), 4)
abbrev M_CH_isValidCodePoint : mm_M := (({ cls := "java/lang/Character", name := "isValidCodePoint", desc := "(I)Z" } : Jvm.MethodName), prog_17_method_11_code, 2, (Option.some Jvm.ClassFile.FieldType.boolean), 1)
abbrev M_CH_highSurrogate : mm_M := (({ cls := "java/lang/Character", name := "highSurrogate", desc := "(I)C" } : Jvm.MethodName), prog_17_method_28_code, 1, (Option.some Jvm.ClassFile.FieldType.char), 1)
abbrev M_CH_lowSurrogate : mm_M := (({ cls := "java/lang/Character", name := "lowSurrogate", desc := "(I)C" } : Jvm.MethodName), prog_17_method_29_code, 1, (Option.some Jvm.ClassFile.FieldType.char), 1)
abbrev M_Q_isMethod : mm_M := (({ cls := "StubServer$RequestLine", name := "isMethod", desc := "(Ljava/lang/String;I)Z" } : Jvm.MethodName), prog_8_method_3_code, 3, (Option.some Jvm.ClassFile.FieldType.boolean), 6)
abbrev M_ST_charAt : mm_M := (({ cls := "java/lang/String", name := "charAt", desc := "(I)C" } : Jvm.MethodName), prog_22_method_56_code, 2, (Option.some Jvm.ClassFile.FieldType.char), 5)
abbrev M_L1_charAt : mm_M := (({ cls := "java/lang/StringLatin1", name := "charAt", desc := "([BI)C" } : Jvm.MethodName), prog_24_method_2_code, 2, (Option.some Jvm.ClassFile.FieldType.char), 3)
abbrev M_U6_charAt : mm_M := (({ cls := "java/lang/StringUTF16", name := "charAt", desc := "([BI)C" } : Jvm.MethodName), prog_25_method_83_code, 2, (Option.some Jvm.ClassFile.FieldType.char), 4)
abbrev M_X_isCapital : mm_M := (({ cls := "StubServer$Texts", name := "isCapital", desc := "(I)Z" } : Jvm.MethodName), prog_12_method_4_code, 1, (Option.some Jvm.ClassFile.FieldType.boolean), 1)
abbrev M_ST_substring_I : mm_M := (({ cls := "java/lang/String", name := "substring", desc := "(I)Ljava/lang/String;" } : Jvm.MethodName), prog_22_method_91_code, 2, (Option.some (Jvm.ClassFile.FieldType.object "java/lang/String")), 8)
abbrev M_ST_substring_II : mm_M := (({ cls := "java/lang/String", name := "substring", desc := "(II)Ljava/lang/String;" } : Jvm.MethodName), prog_22_method_92_code, 5, (Option.some (Jvm.ClassFile.FieldType.object "java/lang/String")), 7)
abbrev M_L1_newString : mm_M := (({ cls := "java/lang/StringLatin1", name := "newString", desc := "([BII)Ljava/lang/String;" } : Jvm.MethodName), prog_24_method_47_code, 3, (Option.some (Jvm.ClassFile.FieldType.object "java/lang/String")), 4)
abbrev M_ST_init_aBB : mm_M := (({ cls := "java/lang/String", name := "<init>", desc := "([BB)V" } : Jvm.MethodName), prog_22_method_151_code, 3, (Option.none : Option Jvm.ClassFile.FieldType), 1)
abbrev M_U6_newString : mm_M := (({ cls := "java/lang/StringUTF16", name := "newString", desc := "([BII)Ljava/lang/String;" } : Jvm.MethodName), prog_25_method_69_code, 5, (Option.some (Jvm.ClassFile.FieldType.object "java/lang/String")), 6)
abbrev M_ST_equals : mm_M := (({ cls := "java/lang/String", name := "equals", desc := "(Ljava/lang/Object;)Z" } : Jvm.MethodName), prog_22_method_66_code, 3, (Option.some Jvm.ClassFile.FieldType.boolean), 2)
abbrev M_L1_equals : mm_M := (({ cls := "java/lang/StringLatin1", name := "equals", desc := "([B[B)Z" } : Jvm.MethodName), prog_24_method_13_code, 3, (Option.some Jvm.ClassFile.FieldType.boolean), 1)
abbrev M_ST_isEmpty : mm_M := (({ cls := "java/lang/String", name := "isEmpty", desc := "()Z" } : Jvm.MethodName), prog_22_method_55_code, 1, (Option.some Jvm.ClassFile.FieldType.boolean), 1)
abbrev M_Q_hasGoodCodes : mm_M := (({ cls := "StubServer$RequestLine", name := "hasGoodCodes", desc := "(Ljava/lang/String;)Z" } : Jvm.MethodName), prog_8_method_4_code, 2, (Option.some Jvm.ClassFile.FieldType.boolean), 7)
abbrev M_Q_codeAt : mm_M := (({ cls := "StubServer$RequestLine", name := "codeAt", desc := "(Ljava/lang/String;I)I" } : Jvm.MethodName), prog_8_method_5_code, 4, (Option.some Jvm.ClassFile.FieldType.int), 6)
abbrev M_X_hexDigit : mm_M := (({ cls := "StubServer$Texts", name := "hexDigit", desc := "(I)I" } : Jvm.MethodName), prog_12_method_6_code, 1, (Option.some Jvm.ClassFile.FieldType.int), 1)
abbrev M_Q_decode : mm_M := (({ cls := "StubServer$RequestLine", name := "decode", desc := "(Ljava/lang/String;)Ljava/lang/String;" } : Jvm.MethodName), prog_8_method_6_code, 4, (Option.some (Jvm.ClassFile.FieldType.object "java/lang/String")), 9)
abbrev M_Q_readParameters : mm_M := (({ cls := "StubServer$RequestLine", name := "readParameters", desc := "(Ljava/lang/String;Ljava/util/ArrayList;)Z" } : Jvm.MethodName), prog_8_method_7_code, 9, (Option.some Jvm.ClassFile.FieldType.boolean), 10)
abbrev M_AL_size : mm_M := (({ cls := "java/util/ArrayList", name := "size", desc := "()I" } : Jvm.MethodName), prog_29_method_8_code, 1, (Option.some Jvm.ClassFile.FieldType.int), 1)
abbrev M_AL_add_O : mm_M := (({ cls := "java/util/ArrayList", name := "add", desc := "(Ljava/lang/Object;)Z" } : Jvm.MethodName), prog_29_method_25_code, 2, (Option.some Jvm.ClassFile.FieldType.boolean), 7)
abbrev M_AL_add_OaOI : mm_M := (({ cls := "java/util/ArrayList", name := "add", desc := "(Ljava/lang/Object;[Ljava/lang/Object;I)V" } : Jvm.MethodName), prog_29_method_24_code, 4, (Option.none : Option Jvm.ClassFile.FieldType), 6)
abbrev M_AL_grow_ : mm_M := (({ cls := "java/util/ArrayList", name := "grow", desc := "()[Ljava/lang/Object;" } : Jvm.MethodName), prog_29_method_7_code, 1, (Option.some (Jvm.ClassFile.FieldType.array (Jvm.ClassFile.FieldType.object "java/lang/Object"))), 5)
abbrev M_AL_grow_I : mm_M := (({ cls := "java/util/ArrayList", name := "grow", desc := "(I)[Ljava/lang/Object;" } : Jvm.MethodName), prog_29_method_6_code, 4, (Option.some (Jvm.ClassFile.FieldType.array (Jvm.ClassFile.FieldType.object "java/lang/Object"))), 4)
abbrev M_AR_copyOf_aOI : mm_M := (({ cls := "java/util/Arrays", name := "copyOf", desc := "([Ljava/lang/Object;I)[Ljava/lang/Object;" } : Jvm.MethodName), prog_30_method_119_code, 2, (Option.some (Jvm.ClassFile.FieldType.array (Jvm.ClassFile.FieldType.object "java/lang/Object"))), 3)
abbrev M_AR_copyOf_aOIC : mm_M := (({ cls := "java/util/Arrays", name := "copyOf", desc := "([Ljava/lang/Object;ILjava/lang/Class;)[Ljava/lang/Object;" } : Jvm.MethodName), prog_30_method_120_code, 4, (Option.some (Jvm.ClassFile.FieldType.array (Jvm.ClassFile.FieldType.object "java/lang/Object"))), 2)
abbrev M_R_takeInHeaders : mm_M := (({ cls := "StubServer$Reader", name := "takeInHeaders", desc := "(I)I" } : Jvm.MethodName), prog_6_method_6_code, 5, (Option.some Jvm.ClassFile.FieldType.int), 10)
abbrev M_R_endHeaders : mm_M := (({ cls := "StubServer$Reader", name := "endHeaders", desc := "()I" } : Jvm.MethodName), prog_6_method_12_code, 1, (Option.some Jvm.ClassFile.FieldType.int), 1)
abbrev M_R_headerOf : mm_M := (({ cls := "StubServer$Reader", name := "headerOf", desc := "(Ljava/lang/String;)LStubServer$Part;" } : Jvm.MethodName), prog_6_method_9_code, 4, (Option.some (Jvm.ClassFile.FieldType.object "StubServer$Part")), 9)
abbrev M_X_isSmall : mm_M := (({ cls := "StubServer$Texts", name := "isSmall", desc := "(I)Z" } : Jvm.MethodName), prog_12_method_5_code, 1, (Option.some Jvm.ClassFile.FieldType.boolean), 1)
abbrev M_X_small : mm_M := (({ cls := "StubServer$Texts", name := "small", desc := "(Ljava/lang/String;)Ljava/lang/String;" } : Jvm.MethodName), prog_12_method_7_code, 3, (Option.some (Jvm.ClassFile.FieldType.object "java/lang/String")), 8)
abbrev M_ST_toCharArray : mm_M := (({ cls := "java/lang/String", name := "toCharArray", desc := "()[C" } : Jvm.MethodName), prog_22_method_129_code, 1, (Option.some (Jvm.ClassFile.FieldType.array Jvm.ClassFile.FieldType.char)), 6)
abbrev M_L1_toChars : mm_M := (({ cls := "java/lang/StringLatin1", name := "toChars", desc := "([B)[C" } : Jvm.MethodName), prog_24_method_9_code, 2, (Option.some (Jvm.ClassFile.FieldType.array Jvm.ClassFile.FieldType.char)), 2)
abbrev M_L1_inflate_aBIaCII : mm_M := (({ cls := "java/lang/StringLatin1", name := "inflate", desc := "([BI[CII)V" } : Jvm.MethodName), prog_24_method_49_code, 6, (Option.none : Option Jvm.ClassFile.FieldType), 1)
abbrev M_U6_toChars : mm_M := (({ cls := "java/lang/StringUTF16", name := "toChars", desc := "([B)[C" } : Jvm.MethodName), prog_25_method_13_code, 2, (Option.some (Jvm.ClassFile.FieldType.array Jvm.ClassFile.FieldType.char)), 5)
abbrev M_U6_getChars_aBIIaCI : mm_M := (({ cls := "java/lang/StringUTF16", name := "getChars", desc := "([BII[CI)V" } : Jvm.MethodName), prog_25_method_26_code, 6, (Option.none : Option Jvm.ClassFile.FieldType), 4)
abbrev M_ST_init_aC : mm_M := (({ cls := "java/lang/String", name := "<init>", desc := "([C)V" } : Jvm.MethodName), prog_22_method_3_code, 2, (Option.none : Option Jvm.ClassFile.FieldType), 7)
abbrev M_ST_init_aCIIV : mm_M := (({ cls := "java/lang/String", name := "<init>", desc := "([CIILjava/lang/Void;)V" } : Jvm.MethodName), prog_22_method_149_code, 6, (Option.none : Option Jvm.ClassFile.FieldType), 6)
abbrev M_U6_compress_aCII : mm_M := (({ cls := "java/lang/StringUTF16", name := "compress", desc := "([CII)[B" } : Jvm.MethodName), prog_25_method_16_code, 6, (Option.some (Jvm.ClassFile.FieldType.array Jvm.ClassFile.FieldType.byte)), 5)
abbrev M_U6_compress_aCIaBII : mm_M := (({ cls := "java/lang/StringUTF16", name := "compress", desc := "([CI[BII)I" } : Jvm.MethodName), prog_25_method_21_code, 7, (Option.some Jvm.ClassFile.FieldType.int), 1)
abbrev M_U6_toBytes : mm_M := (({ cls := "java/lang/StringUTF16", name := "toBytes", desc := "([CII)[B" } : Jvm.MethodName), prog_25_method_14_code, 5, (Option.some (Jvm.ClassFile.FieldType.array Jvm.ClassFile.FieldType.byte)), 3)
abbrev M_X_trimmed : mm_M := (({ cls := "StubServer$Texts", name := "trimmed", desc := "(Ljava/lang/String;I)Ljava/lang/String;" } : Jvm.MethodName), prog_12_method_8_code, 4, (Option.some (Jvm.ClassFile.FieldType.object "java/lang/String")), 8)
abbrev M_R_lookForSize : mm_M := (({ cls := "StubServer$Reader", name := "lookForSize", desc := "(LStubServer$Part;)I" } : Jvm.MethodName), prog_6_method_10_code, 3, (Option.some Jvm.ClassFile.FieldType.int), 7)
abbrev M_R_readLength : mm_M := (({ cls := "StubServer$Reader", name := "readLength", desc := "(Ljava/lang/String;)I" } : Jvm.MethodName), prog_6_method_11_code, 4, (Option.some Jvm.ClassFile.FieldType.int), 6)
abbrev M_X_isDigit : mm_M := (({ cls := "StubServer$Texts", name := "isDigit", desc := "(I)Z" } : Jvm.MethodName), prog_12_method_3_code, 1, (Option.some Jvm.ClassFile.FieldType.boolean), 1)
abbrev M_R_takeInBody : mm_M := (({ cls := "StubServer$Reader", name := "takeInBody", desc := "(I)I" } : Jvm.MethodName), prog_6_method_13_code, 2, (Option.some Jvm.ClassFile.FieldType.int), 9)
abbrev M_R_takeInChunkSize : mm_M := (({ cls := "StubServer$Reader", name := "takeInChunkSize", desc := "(I)I" } : Jvm.MethodName), prog_6_method_14_code, 3, (Option.some Jvm.ClassFile.FieldType.int), 2)
abbrev M_R_endChunkSize : mm_M := (({ cls := "StubServer$Reader", name := "endChunkSize", desc := "()I" } : Jvm.MethodName), prog_6_method_15_code, 1, (Option.some Jvm.ClassFile.FieldType.int), 1)
abbrev M_R_takeInChunk : mm_M := (({ cls := "StubServer$Reader", name := "takeInChunk", desc := "(I)I" } : Jvm.MethodName), prog_6_method_16_code, 2, (Option.some Jvm.ClassFile.FieldType.int), 9)
abbrev M_R_takeInChunkEnd : mm_M := (({ cls := "StubServer$Reader", name := "takeInChunkEnd", desc := "(I)I" } : Jvm.MethodName), prog_6_method_17_code, 2, (Option.some Jvm.ClassFile.FieldType.int), 1)
abbrev M_S_serve : mm_M := (({ cls := "StubServer", name := "serve", desc := "(LStubServer$Connection;)V" } : Jvm.MethodName), prog_1_method_25_code, 4, (Option.none : Option Jvm.ClassFile.FieldType), 14)
abbrev M_R_handOver : mm_M := (({ cls := "StubServer$Reader", name := "handOver", desc := "()LStubServer$Request;" } : Jvm.MethodName), prog_6_method_3_code, 2, (Option.some (Jvm.ClassFile.FieldType.object "StubServer$Request")), 9)
abbrev M_R_begin : mm_M := (({ cls := "StubServer$Reader", name := "begin", desc := "()V" } : Jvm.MethodName), prog_6_method_2_code, 1, (Option.none : Option Jvm.ClassFile.FieldType), 7)
abbrev M_S_nearest : mm_M := (({ cls := "StubServer", name := "nearest", desc := "(LStubServer$Request;)LStubServer$Stub;" } : Jvm.MethodName), prog_1_method_28_code, 7, (Option.some (Jvm.ClassFile.FieldType.object "StubServer$Stub")), 10)
abbrev M_AL_get : mm_M := (({ cls := "java/util/ArrayList", name := "get", desc := "(I)Ljava/lang/Object;" } : Jvm.MethodName), prog_29_method_20_code, 2, (Option.some (Jvm.ClassFile.FieldType.object "java/lang/Object")), 3)
abbrev M_OS_checkIndex : mm_M := (({ cls := "java/util/Objects", name := "checkIndex", desc := "(II)I" } : Jvm.MethodName), prog_33_method_17_code, 2, (Option.some Jvm.ClassFile.FieldType.int), 2)
abbrev M_AL_elementData : mm_M := (({ cls := "java/util/ArrayList", name := "elementData", desc := "(I)Ljava/lang/Object;" } : Jvm.MethodName), prog_29_method_18_code, 2, (Option.some (Jvm.ClassFile.FieldType.object "java/lang/Object")), 1)
abbrev M_S_conditionsMissed : mm_M := (({ cls := "StubServer", name := "conditionsMissed", desc := "(Ljava/util/ArrayList;LStubServer$Scene;LStubServer$Request;)I" } : Jvm.MethodName), prog_1_method_29_code, 6, (Option.some Jvm.ClassFile.FieldType.int), 9)
abbrev M_H_holds : mm_M := (({ cls := "StubServer$Matcher", name := "holds", desc := "(LStubServer$Request;)Z" } : Jvm.MethodName), prog_3_method_4_code, 3, (Option.some Jvm.ClassFile.FieldType.boolean), 8)
abbrev M_E_find : mm_M := (({ cls := "StubServer$Request", name := "find", desc := "(ILjava/lang/String;)LStubServer$Part;" } : Jvm.MethodName), prog_7_method_2_code, 3, (Option.some (Jvm.ClassFile.FieldType.object "StubServer$Part")), 5)
abbrev M_E_firstOf : mm_M := (({ cls := "StubServer$Request", name := "firstOf", desc := "(Ljava/util/ArrayList;Ljava/lang/String;)LStubServer$Part;" } : Jvm.MethodName), prog_7_method_3_code, 3, (Option.some (Jvm.ClassFile.FieldType.object "StubServer$Part")), 4)
abbrev M_X_contains : mm_M := (({ cls := "StubServer$Texts", name := "contains", desc := "(Ljava/lang/String;Ljava/lang/String;)Z" } : Jvm.MethodName), prog_12_method_9_code, 4, (Option.some Jvm.ClassFile.FieldType.boolean), 6)
abbrev M_N_fits : mm_M := (({ cls := "StubServer$Pattern", name := "fits", desc := "(Ljava/lang/String;)Z" } : Jvm.MethodName), prog_5_method_7_code, 7, (Option.some Jvm.ClassFile.FieldType.boolean), 7)
abbrev M_N_withLeft : mm_M := (({ cls := "StubServer$Pattern", name := "withLeft", desc := "(J)J" } : Jvm.MethodName), prog_5_method_8_code, 6, (Option.some Jvm.ClassFile.FieldType.long), 1)
abbrev M_N_placesAllowing : mm_M := (({ cls := "StubServer$Pattern", name := "placesAllowing", desc := "(C)J" } : Jvm.MethodName), prog_5_method_9_code, 5, (Option.some Jvm.ClassFile.FieldType.long), 6)
abbrev M_C_respond : mm_M := (({ cls := "StubServer$Connection", name := "respond", desc := "(ILjava/lang/String;)V" } : Jvm.MethodName), prog_2_method_4_code, 3, (Option.none : Option Jvm.ClassFile.FieldType), 11)
abbrev M_SB_append_I : mm_M := (({ cls := "java/lang/StringBuilder", name := "append", desc := "(I)Ljava/lang/StringBuilder;" } : Jvm.MethodName), prog_23_method_15_code, 2, (Option.some (Jvm.ClassFile.FieldType.object "java/lang/StringBuilder")), 6)
abbrev M_AB_append_I : mm_M := (({ cls := "java/lang/AbstractStringBuilder", name := "append", desc := "(I)Ljava/lang/AbstractStringBuilder;" } : Jvm.MethodName), prog_16_method_32_code, 4, (Option.some (Jvm.ClassFile.FieldType.object "java/lang/AbstractStringBuilder")), 5)
abbrev M_IN_stringSize : mm_M := (({ cls := "java/lang/Integer", name := "stringSize", desc := "(I)I" } : Jvm.MethodName), prog_19_method_13_code, 4, (Option.some Jvm.ClassFile.FieldType.int), 1)
abbrev M_IN_getChars : mm_M := (({ cls := "java/lang/Integer", name := "getChars", desc := "(II[B)I" } : Jvm.MethodName), prog_19_method_12_code, 7, (Option.some Jvm.ClassFile.FieldType.int), 1)
abbrev M_U6_getChars_IIIaB : mm_M := (({ cls := "java/lang/StringUTF16", name := "getChars", desc := "(III[B)I" } : Jvm.MethodName), prog_25_method_77_code, 5, (Option.some Jvm.ClassFile.FieldType.int), 4)
abbrev M_U6_getChars_IIaB : mm_M := (({ cls := "java/lang/StringUTF16", name := "getChars", desc := "(II[B)I" } : Jvm.MethodName), prog_25_method_89_code, 7, (Option.some Jvm.ClassFile.FieldType.int), 3)
abbrev M_SB_append_S : mm_M := (({ cls := "java/lang/StringBuilder", name := "append", desc := "(Ljava/lang/String;)Ljava/lang/StringBuilder;" } : Jvm.MethodName), prog_23_method_7_code, 2, (Option.some (Jvm.ClassFile.FieldType.object "java/lang/StringBuilder")), 10)
abbrev M_AB_append_S : mm_M := (({ cls := "java/lang/AbstractStringBuilder", name := "append", desc := "(Ljava/lang/String;)Ljava/lang/AbstractStringBuilder;" } : Jvm.MethodName), prog_16_method_22_code, 3, (Option.some (Jvm.ClassFile.FieldType.object "java/lang/AbstractStringBuilder")), 9)
abbrev M_AB_appendNull : mm_M := (({ cls := "java/lang/AbstractStringBuilder", name := "appendNull", desc := "()Ljava/lang/AbstractStringBuilder;" } : Jvm.MethodName), prog_16_method_26_code, 3, (Option.some (Jvm.ClassFile.FieldType.object "java/lang/AbstractStringBuilder")), 5)
abbrev M_U6_putCharsAt : mm_M := (({ cls := "java/lang/StringUTF16", name := "putCharsAt", desc := "([BICCCC)I" } : Jvm.MethodName), prog_25_method_81_code, 7, (Option.some Jvm.ClassFile.FieldType.int), 4)
abbrev M_AB_putStringAt : mm_M := (({ cls := "java/lang/AbstractStringBuilder", name := "putStringAt", desc := "(ILjava/lang/String;)V" } : Jvm.MethodName), prog_16_method_73_code, 3, (Option.none : Option Jvm.ClassFile.FieldType), 8)
abbrev M_AB_inflateIfNeededFor : mm_M := (({ cls := "java/lang/AbstractStringBuilder", name := "inflateIfNeededFor", desc := "(Ljava/lang/String;)V" } : Jvm.MethodName), prog_16_method_71_code, 2, (Option.none : Option Jvm.ClassFile.FieldType), 7)
abbrev M_ST_getBytes : mm_M := (({ cls := "java/lang/String", name := "getBytes", desc := "([BIB)V" } : Jvm.MethodName), prog_22_method_147_code, 4, (Option.none : Option Jvm.ClassFile.FieldType), 6)
abbrev M_S_moveOn : mm_M := (({ cls := "StubServer", name := "moveOn", desc := "(LStubServer$Scene;)V" } : Jvm.MethodName), prog_1_method_26_code, 2, (Option.none : Option Jvm.ClassFile.FieldType), 1)
abbrev M_T_fill : mm_M := (({ cls := "StubServer$Template", name := "fill", desc := "(LStubServer$Request;I)Ljava/lang/String;" } : Jvm.MethodName), prog_11_method_2_code, 6, (Option.some (Jvm.ClassFile.FieldType.object "java/lang/String")), 13)
abbrev M_T_closeOf : mm_M := (({ cls := "StubServer$Template", name := "closeOf", desc := "(I)I" } : Jvm.MethodName), prog_11_method_3_code, 4, (Option.some Jvm.ClassFile.FieldType.int), 6)
abbrev M_T_appendFor : mm_M := (({ cls := "StubServer$Template", name := "appendFor", desc := "(Ljava/lang/StringBuilder;IILStubServer$Request;I)V" } : Jvm.MethodName), prog_11_method_4_code, 7, (Option.none : Option Jvm.ClassFile.FieldType), 12)
abbrev M_T_appendValue : mm_M := (({ cls := "StubServer$Template", name := "appendValue", desc := "(Ljava/lang/StringBuilder;LStubServer$Part;)V" } : Jvm.MethodName), prog_11_method_5_code, 2, (Option.none : Option Jvm.ClassFile.FieldType), 11)
abbrev M_S_keep : mm_M := (({ cls := "StubServer", name := "keep", desc := "(LStubServer$Request;)V" } : Jvm.MethodName), prog_1_method_27_code, 2, (Option.none : Option Jvm.ClassFile.FieldType), 8)
abbrev M_AL_remove : mm_M := (({ cls := "java/util/ArrayList", name := "remove", desc := "(I)Ljava/lang/Object;" } : Jvm.MethodName), prog_29_method_29_code, 4, (Option.some (Jvm.ClassFile.FieldType.object "java/lang/Object")), 3)
abbrev M_AL_fastRemove : mm_M := (({ cls := "java/util/ArrayList", name := "fastRemove", desc := "([Ljava/lang/Object;I)V" } : Jvm.MethodName), prog_29_method_39_code, 4, (Option.none : Option Jvm.ClassFile.FieldType), 1)
abbrev M_E_asksToClose : mm_M := (({ cls := "StubServer$Request", name := "asksToClose", desc := "()Z" } : Jvm.MethodName), prog_7_method_4_code, 3, (Option.some Jvm.ClassFile.FieldType.boolean), 4)
abbrev M_C_refuse : mm_M := (({ cls := "StubServer$Connection", name := "refuse", desc := "(I)V" } : Jvm.MethodName), prog_2_method_3_code, 2, (Option.none : Option Jvm.ClassFile.FieldType), 12)
abbrev M_S_open : mm_M := (({ cls := "StubServer", name := "open", desc := "(I)Z" } : Jvm.MethodName), prog_1_method_3_code, 2, (Option.some Jvm.ClassFile.FieldType.boolean), 9)
abbrev M_C_renew : mm_M := (({ cls := "StubServer$Connection", name := "renew", desc := "()V" } : Jvm.MethodName), prog_2_method_2_code, 1, (Option.none : Option Jvm.ClassFile.FieldType), 8)
abbrev M_S_size : mm_M := (({ cls := "StubServer", name := "size", desc := "(I)I" } : Jvm.MethodName), prog_1_method_5_code, 2, (Option.some Jvm.ClassFile.FieldType.int), 3)
abbrev M_S_at : mm_M := (({ cls := "StubServer", name := "at", desc := "(II)I" } : Jvm.MethodName), prog_1_method_6_code, 3, (Option.some Jvm.ClassFile.FieldType.int), 5)
abbrev M_SB_charAt : mm_M := (({ cls := "java/lang/StringBuilder", name := "charAt", desc := "(I)C" } : Jvm.MethodName), prog_23_method_88_code, 2, (Option.some Jvm.ClassFile.FieldType.char), 4)
abbrev M_AB_charAt : mm_M := (({ cls := "java/lang/AbstractStringBuilder", name := "charAt", desc := "(I)C" } : Jvm.MethodName), prog_16_method_14_code, 5, (Option.some Jvm.ClassFile.FieldType.char), 3)
abbrev M_S_type : mm_M := (({ cls := "StubServer", name := "type", desc := "(II)Z" } : Jvm.MethodName), prog_1_method_7_code, 4, (Option.some Jvm.ClassFile.FieldType.boolean), 9)
abbrev M_S_match : mm_M := (({ cls := "StubServer", name := "match", desc := "(II)Z" } : Jvm.MethodName), prog_1_method_8_code, 4, (Option.some Jvm.ClassFile.FieldType.boolean), 10)
abbrev M_H_of : mm_M := (({ cls := "StubServer$Matcher", name := "of", desc := "(IILjava/lang/String;)LStubServer$Matcher;" } : Jvm.MethodName), prog_3_method_2_code, 8, (Option.some (Jvm.ClassFile.FieldType.object "StubServer$Matcher")), 9)
abbrev M_H_withText : mm_M := (({ cls := "StubServer$Matcher", name := "withText", desc := "(IILjava/lang/String;Ljava/lang/String;)LStubServer$Matcher;" } : Jvm.MethodName), prog_3_method_3_code, 5, (Option.some (Jvm.ClassFile.FieldType.object "StubServer$Matcher")), 8)
abbrev M_H_init : mm_M := (({ cls := "StubServer$Matcher", name := "<init>", desc := "(IILjava/lang/String;Ljava/lang/String;LStubServer$Pattern;)V" } : Jvm.MethodName), prog_3_method_1_code, 6, (Option.none : Option Jvm.ClassFile.FieldType), 1)
abbrev M_N_init : mm_M := (({ cls := "StubServer$Pattern", name := "<init>", desc := "(Ljava/lang/String;)V" } : Jvm.MethodName), prog_5_method_1_code, 2, (Option.none : Option Jvm.ClassFile.FieldType), 7)
abbrev M_N_readPieces : mm_M := (({ cls := "StubServer$Pattern", name := "readPieces", desc := "()Z" } : Jvm.MethodName), prog_5_method_3_code, 6, (Option.some Jvm.ClassFile.FieldType.boolean), 6)
abbrev M_N_endRow : mm_M := (({ cls := "StubServer$Pattern", name := "endRow", desc := "()V" } : Jvm.MethodName), prog_5_method_6_code, 1, (Option.none : Option Jvm.ClassFile.FieldType), 1)
abbrev M_N_markPiece : mm_M := (({ cls := "StubServer$Pattern", name := "markPiece", desc := "(Z)V" } : Jvm.MethodName), prog_5_method_5_code, 4, (Option.none : Option Jvm.ClassFile.FieldType), 1)
abbrev M_N_addPiece : mm_M := (({ cls := "StubServer$Pattern", name := "addPiece", desc := "(CI)V" } : Jvm.MethodName), prog_5_method_4_code, 3, (Option.none : Option Jvm.ClassFile.FieldType), 1)
abbrev M_N_isGood : mm_M := (({ cls := "StubServer$Pattern", name := "isGood", desc := "()Z" } : Jvm.MethodName), prog_5_method_2_code, 1, (Option.some Jvm.ClassFile.FieldType.boolean), 1)
abbrev M_S_stub : mm_M := (({ cls := "StubServer", name := "stub", desc := "(II)I" } : Jvm.MethodName), prog_1_method_9_code, 4, (Option.some Jvm.ClassFile.FieldType.int), 9)
abbrev M_B_init : mm_M := (({ cls := "StubServer$Stub", name := "<init>", desc := "(IIILjava/lang/String;Ljava/util/ArrayList;)V" } : Jvm.MethodName), prog_10_method_1_code, 6, (Option.none : Option Jvm.ClassFile.FieldType), 2)
abbrev M_T_init : mm_M := (({ cls := "StubServer$Template", name := "<init>", desc := "(Ljava/lang/String;)V" } : Jvm.MethodName), prog_11_method_1_code, 2, (Option.none : Option Jvm.ClassFile.FieldType), 1)
abbrev M_S_scene : mm_M := (({ cls := "StubServer", name := "scene", desc := "(IIII)Z" } : Jvm.MethodName), prog_1_method_10_code, 6, (Option.some Jvm.ClassFile.FieldType.boolean), 5)
abbrev M_S_placeOf : mm_M := (({ cls := "StubServer", name := "placeOf", desc := "(I)I" } : Jvm.MethodName), prog_1_method_24_code, 3, (Option.some Jvm.ClassFile.FieldType.int), 4)
abbrev M_S_isScenario : mm_M := (({ cls := "StubServer", name := "isScenario", desc := "(I)Z" } : Jvm.MethodName), prog_1_method_20_code, 1, (Option.some Jvm.ClassFile.FieldType.boolean), 1)
abbrev M_S_isState : mm_M := (({ cls := "StubServer", name := "isState", desc := "(I)Z" } : Jvm.MethodName), prog_1_method_21_code, 1, (Option.some Jvm.ClassFile.FieldType.boolean), 1)
abbrev M_Z_init : mm_M := (({ cls := "StubServer$Scene", name := "<init>", desc := "(III)V" } : Jvm.MethodName), prog_9_method_1_code, 4, (Option.none : Option Jvm.ClassFile.FieldType), 1)
abbrev M_S_remove : mm_M := (({ cls := "StubServer", name := "remove", desc := "(I)Z" } : Jvm.MethodName), prog_1_method_11_code, 3, (Option.some Jvm.ClassFile.FieldType.boolean), 5)
abbrev M_S_reset : mm_M := (({ cls := "StubServer", name := "reset", desc := "()I" } : Jvm.MethodName), prog_1_method_12_code, 3, (Option.some Jvm.ClassFile.FieldType.int), 2)
abbrev M_AL_clear : mm_M := (({ cls := "java/util/ArrayList", name := "clear", desc := "()V" } : Jvm.MethodName), prog_29_method_40_code, 4, (Option.none : Option Jvm.ClassFile.FieldType), 1)
abbrev M_S_count : mm_M := (({ cls := "StubServer", name := "count", desc := "()I" } : Jvm.MethodName), prog_1_method_13_code, 3, (Option.some Jvm.ClassFile.FieldType.int), 10)
abbrev M_S_journal : mm_M := (({ cls := "StubServer", name := "journal", desc := "()I" } : Jvm.MethodName), prog_1_method_14_code, 1, (Option.some Jvm.ClassFile.FieldType.int), 2)
abbrev M_S_chosen : mm_M := (({ cls := "StubServer", name := "chosen", desc := "(I)I" } : Jvm.MethodName), prog_1_method_15_code, 2, (Option.some Jvm.ClassFile.FieldType.int), 4)
abbrev M_S_isKept : mm_M := (({ cls := "StubServer", name := "isKept", desc := "(I)Z" } : Jvm.MethodName), prog_1_method_22_code, 2, (Option.some Jvm.ClassFile.FieldType.boolean), 2)
abbrev M_S_near : mm_M := (({ cls := "StubServer", name := "near", desc := "(I)I" } : Jvm.MethodName), prog_1_method_16_code, 4, (Option.some Jvm.ClassFile.FieldType.int), 11)
abbrev M_S_state : mm_M := (({ cls := "StubServer", name := "state", desc := "(I)I" } : Jvm.MethodName), prog_1_method_17_code, 2, (Option.some Jvm.ClassFile.FieldType.int), 2)
abbrev M_S_served : mm_M := (({ cls := "StubServer", name := "served", desc := "()I" } : Jvm.MethodName), prog_1_method_18_code, 1, (Option.some Jvm.ClassFile.FieldType.int), 1)
abbrev M_M_init : mm_M := (({ cls := "StubServerModel", name := "<init>", desc := "()V" } : Jvm.MethodName), prog_14_method_1_code, 2, (Option.none : Option Jvm.ClassFile.FieldType), 1)
abbrev M_M_send : mm_M := (({ cls := "StubServerModel", name := "send", desc := "(III)I" } : Jvm.MethodName), prog_14_method_49_code, 6, (Option.some Jvm.ClassFile.FieldType.int), 12)
abbrev M_M_arrive : mm_M := (({ cls := "StubServerModel", name := "arrive", desc := "(II)V" } : Jvm.MethodName), prog_14_method_48_code, 4, (Option.none : Option Jvm.ClassFile.FieldType), 11)
abbrev M_M_judge : mm_M := (({ cls := "StubServerModel", name := "judge", desc := "(I)I" } : Jvm.MethodName), prog_14_method_19_code, 7, (Option.some Jvm.ClassFile.FieldType.int), 7)
abbrev M_M_lineEnd : mm_M := (({ cls := "StubServerModel", name := "lineEnd", desc := "(III)I" } : Jvm.MethodName), prog_14_method_3_code, 7, (Option.some Jvm.ClassFile.FieldType.int), 2)
abbrev M_M_byteAt : mm_M := (({ cls := "StubServerModel", name := "byteAt", desc := "(I)I" } : Jvm.MethodName), prog_14_method_2_code, 2, (Option.some Jvm.ClassFile.FieldType.int), 1)
abbrev M_M_requestLine : mm_M := (({ cls := "StubServerModel", name := "requestLine", desc := "(I)Z" } : Jvm.MethodName), prog_14_method_12_code, 10, (Option.some Jvm.ClassFile.FieldType.boolean), 6)
abbrev M_M_seek : mm_M := (({ cls := "StubServerModel", name := "seek", desc := "(III)I" } : Jvm.MethodName), prog_14_method_7_code, 5, (Option.some Jvm.ClassFile.FieldType.int), 2)
abbrev M_M_pathEnd : mm_M := (({ cls := "StubServerModel", name := "pathEnd", desc := "()I" } : Jvm.MethodName), prog_14_method_11_code, 1, (Option.some Jvm.ClassFile.FieldType.int), 5)
abbrev M_M_pathAt : mm_M := (({ cls := "StubServerModel", name := "pathAt", desc := "()I" } : Jvm.MethodName), prog_14_method_9_code, 1, (Option.some Jvm.ClassFile.FieldType.int), 3)
abbrev M_M_targetEnd : mm_M := (({ cls := "StubServerModel", name := "targetEnd", desc := "()I" } : Jvm.MethodName), prog_14_method_10_code, 1, (Option.some Jvm.ClassFile.FieldType.int), 4)
abbrev M_M_coded : mm_M := (({ cls := "StubServerModel", name := "coded", desc := "(II)Z" } : Jvm.MethodName), prog_14_method_8_code, 8, (Option.some Jvm.ClassFile.FieldType.boolean), 2)
abbrev M_M_hex : mm_M := (({ cls := "StubServerModel", name := "hex", desc := "(I)I" } : Jvm.MethodName), prog_14_method_5_code, 1, (Option.some Jvm.ClassFile.FieldType.int), 1)
abbrev M_M_header : mm_M := (({ cls := "StubServerModel", name := "header", desc := "(II)I" } : Jvm.MethodName), prog_14_method_17_code, 10, (Option.some Jvm.ClassFile.FieldType.int), 5)
abbrev M_M_letter : mm_M := (({ cls := "StubServerModel", name := "letter", desc := "(I)Z" } : Jvm.MethodName), prog_14_method_4_code, 1, (Option.some Jvm.ClassFile.FieldType.boolean), 1)
abbrev M_M_valueAt : mm_M := (({ cls := "StubServerModel", name := "valueAt", desc := "(II)I" } : Jvm.MethodName), prog_14_method_15_code, 4, (Option.some Jvm.ClassFile.FieldType.int), 3)
abbrev M_M_valueEnd : mm_M := (({ cls := "StubServerModel", name := "valueEnd", desc := "(II)I" } : Jvm.MethodName), prog_14_method_16_code, 4, (Option.some Jvm.ClassFile.FieldType.int), 4)
abbrev M_M_isChunked : mm_M := (({ cls := "StubServerModel", name := "isChunked", desc := "(II)Z" } : Jvm.MethodName), prog_14_method_14_code, 3, (Option.some Jvm.ClassFile.FieldType.boolean), 3)
abbrev M_M_isNamed : mm_M := (({ cls := "StubServerModel", name := "isNamed", desc := "(IIIII)Z" } : Jvm.MethodName), prog_14_method_13_code, 6, (Option.some Jvm.ClassFile.FieldType.boolean), 2)
abbrev M_M_small : mm_M := (({ cls := "StubServerModel", name := "small", desc := "(I)I" } : Jvm.MethodName), prog_14_method_6_code, 1, (Option.some Jvm.ClassFile.FieldType.int), 1)
abbrev M_M_announce : mm_M := (({ cls := "StubServerModel", name := "announce", desc := "(II)I" } : Jvm.MethodName), prog_14_method_18_code, 5, (Option.some Jvm.ClassFile.FieldType.int), 2)
abbrev M_M_chunks : mm_M := (({ cls := "StubServerModel", name := "chunks", desc := "(I)I" } : Jvm.MethodName), prog_14_method_22_code, 9, (Option.some Jvm.ClassFile.FieldType.int), 3)
abbrev M_M_is : mm_M := (({ cls := "StubServerModel", name := "is", desc := "(II)I" } : Jvm.MethodName), prog_14_method_21_code, 3, (Option.some Jvm.ClassFile.FieldType.int), 2)
abbrev M_M_plain : mm_M := (({ cls := "StubServerModel", name := "plain", desc := "(I)I" } : Jvm.MethodName), prog_14_method_20_code, 3, (Option.some Jvm.ClassFile.FieldType.int), 2)
abbrev M_M_serve : mm_M := (({ cls := "StubServerModel", name := "serve", desc := "(I)V" } : Jvm.MethodName), prog_14_method_46_code, 5, (Option.none : Option Jvm.ClassFile.FieldType), 10)
abbrev M_M_failing : mm_M := (({ cls := "StubServerModel", name := "failing", desc := "(I)I" } : Jvm.MethodName), prog_14_method_43_code, 4, (Option.some Jvm.ClassFile.FieldType.int), 9)
abbrev M_M_inScene : mm_M := (({ cls := "StubServerModel", name := "inScene", desc := "(I)Z" } : Jvm.MethodName), prog_14_method_42_code, 2, (Option.some Jvm.ClassFile.FieldType.boolean), 1)
abbrev M_M_holds : mm_M := (({ cls := "StubServerModel", name := "holds", desc := "(I)Z" } : Jvm.MethodName), prog_14_method_37_code, 3, (Option.some Jvm.ClassFile.FieldType.boolean), 8)
abbrev M_M_seekPart : mm_M := (({ cls := "StubServerModel", name := "seekPart", desc := "(I)Z" } : Jvm.MethodName), prog_14_method_29_code, 3, (Option.some Jvm.ClassFile.FieldType.boolean), 7)
abbrev M_M_parameter : mm_M := (({ cls := "StubServerModel", name := "parameter", desc := "()Z" } : Jvm.MethodName), prog_14_method_26_code, 5, (Option.some Jvm.ClassFile.FieldType.boolean), 6)
abbrev M_M_decode : mm_M := (({ cls := "StubServerModel", name := "decode", desc := "(II)V" } : Jvm.MethodName), prog_14_method_24_code, 5, (Option.none : Option Jvm.ClassFile.FieldType), 2)
abbrev M_M_put : mm_M := (({ cls := "StubServerModel", name := "put", desc := "(I)V" } : Jvm.MethodName), prog_14_method_23_code, 2, (Option.none : Option Jvm.ClassFile.FieldType), 1)
abbrev M_M_isSought : mm_M := (({ cls := "StubServerModel", name := "isSought", desc := "(Z)Z" } : Jvm.MethodName), prog_14_method_25_code, 4, (Option.some Jvm.ClassFile.FieldType.boolean), 2)
abbrev M_M_headerOf : mm_M := (({ cls := "StubServerModel", name := "headerOf", desc := "()Z" } : Jvm.MethodName), prog_14_method_28_code, 2, (Option.some Jvm.ClassFile.FieldType.boolean), 5)
abbrev M_M_raw : mm_M := (({ cls := "StubServerModel", name := "raw", desc := "(II)V" } : Jvm.MethodName), prog_14_method_27_code, 4, (Option.none : Option Jvm.ClassFile.FieldType), 2)
abbrev M_M_fits : mm_M := (({ cls := "StubServerModel", name := "fits", desc := "(I)Z" } : Jvm.MethodName), prog_14_method_35_code, 7, (Option.some Jvm.ClassFile.FieldType.boolean), 4)
abbrev M_M_letterOf : mm_M := (({ cls := "StubServerModel", name := "letterOf", desc := "(II)I" } : Jvm.MethodName), prog_14_method_30_code, 3, (Option.some Jvm.ClassFile.FieldType.int), 1)
abbrev M_M_pieceEnd : mm_M := (({ cls := "StubServerModel", name := "pieceEnd", desc := "(II)I" } : Jvm.MethodName), prog_14_method_31_code, 5, (Option.some Jvm.ClassFile.FieldType.int), 2)
abbrev M_M_through : mm_M := (({ cls := "StubServerModel", name := "through", desc := "(IIIJ)J" } : Jvm.MethodName), prog_14_method_34_code, 13, (Option.some Jvm.ClassFile.FieldType.long), 3)
abbrev M_M_takes : mm_M := (({ cls := "StubServerModel", name := "takes", desc := "(IIII)Z" } : Jvm.MethodName), prog_14_method_33_code, 7, (Option.some Jvm.ClassFile.FieldType.boolean), 2)
abbrev M_M_contains : mm_M := (({ cls := "StubServerModel", name := "contains", desc := "(I)Z" } : Jvm.MethodName), prog_14_method_36_code, 8, (Option.some Jvm.ClassFile.FieldType.boolean), 1)
abbrev M_M_before : mm_M := (({ cls := "StubServerModel", name := "before", desc := "(II)Z" } : Jvm.MethodName), prog_14_method_44_code, 3, (Option.some Jvm.ClassFile.FieldType.boolean), 1)
abbrev M_M_expand : mm_M := (({ cls := "StubServerModel", name := "expand", desc := "(II)I" } : Jvm.MethodName), prog_14_method_41_code, 11, (Option.some Jvm.ClassFile.FieldType.int), 9)
abbrev M_M_makeNumber : mm_M := (({ cls := "StubServerModel", name := "makeNumber", desc := "(I)V" } : Jvm.MethodName), prog_14_method_39_code, 4, (Option.none : Option Jvm.ClassFile.FieldType), 2)
abbrev M_M_make : mm_M := (({ cls := "StubServerModel", name := "make", desc := "(I)V" } : Jvm.MethodName), prog_14_method_38_code, 2, (Option.none : Option Jvm.ClassFile.FieldType), 1)
abbrev M_M_makePart : mm_M := (({ cls := "StubServerModel", name := "makePart", desc := "(I)V" } : Jvm.MethodName), prog_14_method_40_code, 4, (Option.none : Option Jvm.ClassFile.FieldType), 8)
abbrev M_M_respond : mm_M := (({ cls := "StubServerModel", name := "respond", desc := "(II)V" } : Jvm.MethodName), prog_14_method_45_code, 7, (Option.none : Option Jvm.ClassFile.FieldType), 1)
abbrev M_M_copy : mm_M := (({ cls := "StubServerModel", name := "copy", desc := "(II)V" } : Jvm.MethodName), prog_14_method_47_code, 4, (Option.none : Option Jvm.ClassFile.FieldType), 1)
abbrev M_M_open : mm_M := (({ cls := "StubServerModel", name := "open", desc := "(I)Z" } : Jvm.MethodName), prog_14_method_50_code, 2, (Option.some Jvm.ClassFile.FieldType.boolean), 1)
abbrev M_M_isOpen : mm_M := (({ cls := "StubServerModel", name := "isOpen", desc := "(I)Z" } : Jvm.MethodName), prog_14_method_51_code, 2, (Option.some Jvm.ClassFile.FieldType.boolean), 1)
abbrev M_M_size : mm_M := (({ cls := "StubServerModel", name := "size", desc := "(I)I" } : Jvm.MethodName), prog_14_method_52_code, 2, (Option.some Jvm.ClassFile.FieldType.int), 1)
abbrev M_M_at : mm_M := (({ cls := "StubServerModel", name := "at", desc := "(II)I" } : Jvm.MethodName), prog_14_method_53_code, 3, (Option.some Jvm.ClassFile.FieldType.int), 2)
abbrev M_M_type : mm_M := (({ cls := "StubServerModel", name := "type", desc := "(II)Z" } : Jvm.MethodName), prog_14_method_54_code, 5, (Option.some Jvm.ClassFile.FieldType.boolean), 1)
abbrev M_M_match : mm_M := (({ cls := "StubServerModel", name := "match", desc := "(II)Z" } : Jvm.MethodName), prog_14_method_55_code, 8, (Option.some Jvm.ClassFile.FieldType.boolean), 4)
abbrev M_M_isPattern : mm_M := (({ cls := "StubServerModel", name := "isPattern", desc := "(I)Z" } : Jvm.MethodName), prog_14_method_32_code, 4, (Option.some Jvm.ClassFile.FieldType.boolean), 3)
abbrev M_M_stub : mm_M := (({ cls := "StubServerModel", name := "stub", desc := "(II)I" } : Jvm.MethodName), prog_14_method_56_code, 7, (Option.some Jvm.ClassFile.FieldType.int), 1)
abbrev M_M_scene : mm_M := (({ cls := "StubServerModel", name := "scene", desc := "(IIII)Z" } : Jvm.MethodName), prog_14_method_58_code, 6, (Option.some Jvm.ClassFile.FieldType.boolean), 2)
abbrev M_M_placeOf : mm_M := (({ cls := "StubServerModel", name := "placeOf", desc := "(I)I" } : Jvm.MethodName), prog_14_method_57_code, 4, (Option.some Jvm.ClassFile.FieldType.int), 1)
abbrev M_M_remove : mm_M := (({ cls := "StubServerModel", name := "remove", desc := "(I)Z" } : Jvm.MethodName), prog_14_method_59_code, 3, (Option.some Jvm.ClassFile.FieldType.boolean), 2)
abbrev M_M_reset : mm_M := (({ cls := "StubServerModel", name := "reset", desc := "()I" } : Jvm.MethodName), prog_14_method_60_code, 3, (Option.some Jvm.ClassFile.FieldType.int), 1)
abbrev M_M_count : mm_M := (({ cls := "StubServerModel", name := "count", desc := "()I" } : Jvm.MethodName), prog_14_method_61_code, 5, (Option.some Jvm.ClassFile.FieldType.int), 9)
abbrev M_M_journal : mm_M := (({ cls := "StubServerModel", name := "journal", desc := "()I" } : Jvm.MethodName), prog_14_method_62_code, 1, (Option.some Jvm.ClassFile.FieldType.int), 1)
abbrev M_M_chosen : mm_M := (({ cls := "StubServerModel", name := "chosen", desc := "(I)I" } : Jvm.MethodName), prog_14_method_63_code, 2, (Option.some Jvm.ClassFile.FieldType.int), 1)
abbrev M_M_near : mm_M := (({ cls := "StubServerModel", name := "near", desc := "(I)I" } : Jvm.MethodName), prog_14_method_64_code, 6, (Option.some Jvm.ClassFile.FieldType.int), 10)
abbrev M_M_state : mm_M := (({ cls := "StubServerModel", name := "state", desc := "(I)I" } : Jvm.MethodName), prog_14_method_65_code, 2, (Option.some Jvm.ClassFile.FieldType.int), 1)
abbrev M_M_served : mm_M := (({ cls := "StubServerModel", name := "served", desc := "()I" } : Jvm.MethodName), prog_14_method_66_code, 1, (Option.some Jvm.ClassFile.FieldType.int), 1)
abbrev M_L_law : mm_M := (x, code, 4, ret, 17)
theorem wc_S_init : Cond.code M_S_init.1 M_S_init.2.1 M_S_init.2.2.1 M_S_init.2.2.2.1 ∈ mm_all := mm_w1 (i := 34) rfl rfl
theorem wi_S_init : Cond.initialized M_S_init.1.cls ∈ mm_all := mm_w1 (i := 1) rfl rfl
theorem wm_S_init : Cond.instanceMethod M_S_init.1 ∈ mm_all := mm_w1 (i := 33) rfl rfl
theorem wc_OB_init : Cond.code M_OB_init.1 M_OB_init.2.1 M_OB_init.2.2.1 M_OB_init.2.2.2.1 ∈ mm_all := mm_w1 (i := 37) rfl rfl
theorem wm_OB_init : Cond.instanceMethod M_OB_init.1 ∈ mm_all := mm_w1 (i := 36) rfl rfl
theorem wc_C_init : Cond.code M_C_init.1 M_C_init.2.1 M_C_init.2.2.1 M_C_init.2.2.2.1 ∈ mm_all := mm_w1 (i := 43) rfl rfl
theorem wi_C_init : Cond.initialized M_C_init.1.cls ∈ mm_all := mm_w1 (i := 2) rfl rfl
theorem wm_C_init : Cond.instanceMethod M_C_init.1 ∈ mm_all := mm_w1 (i := 42) rfl rfl
theorem wc_R_init : Cond.code M_R_init.1 M_R_init.2.1 M_R_init.2.2.1 M_R_init.2.2.2.1 ∈ mm_all := mm_w1 (i := 49) rfl rfl
theorem wi_R_init : Cond.initialized M_R_init.1.cls ∈ mm_all := mm_w1 (i := 3) rfl rfl
theorem wm_R_init : Cond.instanceMethod M_R_init.1 ∈ mm_all := mm_w1 (i := 48) rfl rfl
theorem wc_SB_init : Cond.code M_SB_init.1 M_SB_init.2.1 M_SB_init.2.2.1 M_SB_init.2.2.2.1 ∈ mm_all := mm_w1 (i := 55) rfl rfl
theorem wi_SB_init : Cond.initialized M_SB_init.1.cls ∈ mm_all := mm_w1 (i := 5) rfl rfl
theorem wm_SB_init : Cond.instanceMethod M_SB_init.1 ∈ mm_all := mm_w1 (i := 54) rfl rfl
theorem wc_AB_init : Cond.code M_AB_init.1 M_AB_init.2.1 M_AB_init.2.2.1 M_AB_init.2.2.2.1 ∈ mm_all := mm_w1 (i := 58) rfl rfl
theorem wi_AB_init : Cond.initialized M_AB_init.1.cls ∈ mm_all := mm_w1 (i := 4) rfl rfl
theorem wm_AB_init : Cond.instanceMethod M_AB_init.1 ∈ mm_all := mm_w1 (i := 57) rfl rfl
theorem wc_U6_newBytesFor : Cond.code M_U6_newBytesFor.1 M_U6_newBytesFor.2.1 M_U6_newBytesFor.2.2.1 M_U6_newBytesFor.2.2.2.1 ∈ mm_all := mm_w1 (i := 64) rfl rfl
theorem wi_U6_newBytesFor : Cond.initialized M_U6_newBytesFor.1.cls ∈ mm_all := mm_w1 (i := 7) rfl rfl
theorem wt_U6_newBytesFor : Cond.static M_U6_newBytesFor.1 ∈ mm_all := mm_w1 (i := 63) rfl rfl
theorem wc_U6_newBytesLength : Cond.code M_U6_newBytesLength.1 M_U6_newBytesLength.2.1 M_U6_newBytesLength.2.2.1 M_U6_newBytesLength.2.2.2.1 ∈ mm_all := mm_w1 (i := 67) rfl rfl
theorem wi_U6_newBytesLength : Cond.initialized M_U6_newBytesLength.1.cls ∈ mm_all := mm_w1 (i := 7) rfl rfl
theorem wt_U6_newBytesLength : Cond.static M_U6_newBytesLength.1 ∈ mm_all := mm_w1 (i := 66) rfl rfl
theorem wc_Q_init : Cond.code M_Q_init.1 M_Q_init.2.1 M_Q_init.2.2.1 M_Q_init.2.2.2.1 ∈ mm_all := mm_w1 (i := 88) rfl rfl
theorem wi_Q_init : Cond.initialized M_Q_init.1.cls ∈ mm_all := mm_w1 (i := 8) rfl rfl
theorem wm_Q_init : Cond.instanceMethod M_Q_init.1 ∈ mm_all := mm_w1 (i := 87) rfl rfl
theorem wc_E_init : Cond.code M_E_init.1 M_E_init.2.1 M_E_init.2.2.1 M_E_init.2.2.2.1 ∈ mm_all := mm_w1 (i := 100) rfl rfl
theorem wi_E_init : Cond.initialized M_E_init.1.cls ∈ mm_all := mm_w1 (i := 9) rfl rfl
theorem wm_E_init : Cond.instanceMethod M_E_init.1 ∈ mm_all := mm_w1 (i := 99) rfl rfl
theorem wc_AL_init : Cond.code M_AL_init.1 M_AL_init.2.1 M_AL_init.2.2.1 M_AL_init.2.2.2.1 ∈ mm_all := mm_w1 (i := 106) rfl rfl
theorem wi_AL_init : Cond.initialized M_AL_init.1.cls ∈ mm_all := mm_w1 (i := 12) rfl rfl
theorem wm_AL_init : Cond.instanceMethod M_AL_init.1 ∈ mm_all := mm_w1 (i := 105) rfl rfl
theorem wc_AX_init : Cond.code M_AX_init.1 M_AX_init.2.1 M_AX_init.2.2.1 M_AX_init.2.2.2.1 ∈ mm_all := mm_w1 (i := 109) rfl rfl
theorem wi_AX_init : Cond.initialized M_AX_init.1.cls ∈ mm_all := mm_w1 (i := 11) rfl rfl
theorem wm_AX_init : Cond.instanceMethod M_AX_init.1 ∈ mm_all := mm_w1 (i := 108) rfl rfl
theorem wc_AC_init : Cond.code M_AC_init.1 M_AC_init.2.1 M_AC_init.2.2.1 M_AC_init.2.2.2.1 ∈ mm_all := mm_w1 (i := 112) rfl rfl
theorem wi_AC_init : Cond.initialized M_AC_init.1.cls ∈ mm_all := mm_w1 (i := 10) rfl rfl
theorem wm_AC_init : Cond.instanceMethod M_AC_init.1 ∈ mm_all := mm_w1 (i := 111) rfl rfl
theorem wc_P_init : Cond.code M_P_init.1 M_P_init.2.1 M_P_init.2.2.1 M_P_init.2.2.2.1 ∈ mm_all := mm_w1 (i := 133) rfl rfl
theorem wi_P_init : Cond.initialized M_P_init.1.cls ∈ mm_all := mm_w1 (i := 13) rfl rfl
theorem wm_P_init : Cond.instanceMethod M_P_init.1 ∈ mm_all := mm_w1 (i := 132) rfl rfl
theorem wc_S_send : Cond.code M_S_send.1 M_S_send.2.1 M_S_send.2.2.1 M_S_send.2.2.2.1 ∈ mm_all := mm_w2 (i := 18) rfl rfl
theorem wi_S_send : Cond.initialized M_S_send.1.cls ∈ mm_all := mm_w1 (i := 1) rfl rfl
theorem wm_S_send : Cond.instanceMethod M_S_send.1 ∈ mm_all := mm_w2 (i := 16) rfl rfl
theorem wc_S_isOpen : Cond.code M_S_isOpen.1 M_S_isOpen.2.1 M_S_isOpen.2.2.1 M_S_isOpen.2.2.2.1 ∈ mm_all := mm_w2 (i := 22) rfl rfl
theorem wi_S_isOpen : Cond.initialized M_S_isOpen.1.cls ∈ mm_all := mm_w1 (i := 1) rfl rfl
theorem wm_S_isOpen : Cond.instanceMethod M_S_isOpen.1 ∈ mm_all := mm_w2 (i := 20) rfl rfl
theorem wc_S_isConnection : Cond.code M_S_isConnection.1 M_S_isConnection.2.1 M_S_isConnection.2.2.1 M_S_isConnection.2.2.2.1 ∈ mm_all := mm_w2 (i := 25) rfl rfl
theorem wi_S_isConnection : Cond.initialized M_S_isConnection.1.cls ∈ mm_all := mm_w1 (i := 1) rfl rfl
theorem wt_S_isConnection : Cond.static M_S_isConnection.1 ∈ mm_all := mm_w2 (i := 24) rfl rfl
theorem wc_S_byteOf : Cond.code M_S_byteOf.1 M_S_byteOf.2.1 M_S_byteOf.2.2.1 M_S_byteOf.2.2.2.1 ∈ mm_all := mm_w2 (i := 28) rfl rfl
theorem wi_S_byteOf : Cond.initialized M_S_byteOf.1.cls ∈ mm_all := mm_w1 (i := 1) rfl rfl
theorem wt_S_byteOf : Cond.static M_S_byteOf.1 ∈ mm_all := mm_w2 (i := 27) rfl rfl
theorem wc_R_take : Cond.code M_R_take.1 M_R_take.2.1 M_R_take.2.2.1 M_R_take.2.2.2.1 ∈ mm_all := mm_w2 (i := 32) rfl rfl
theorem wi_R_take : Cond.initialized M_R_take.1.cls ∈ mm_all := mm_w1 (i := 3) rfl rfl
theorem wm_R_take : Cond.instanceMethod M_R_take.1 ∈ mm_all := mm_w2 (i := 30) rfl rfl
theorem wc_R_takeInRequestLine : Cond.code M_R_takeInRequestLine.1 M_R_takeInRequestLine.2.1 M_R_takeInRequestLine.2.2.1 M_R_takeInRequestLine.2.2.2.1 ∈ mm_all := mm_w2 (i := 36) rfl rfl
theorem wi_R_takeInRequestLine : Cond.initialized M_R_takeInRequestLine.1.cls ∈ mm_all := mm_w1 (i := 3) rfl rfl
theorem wm_R_takeInRequestLine : Cond.instanceMethod M_R_takeInRequestLine.1 ∈ mm_all := mm_w2 (i := 35) rfl rfl
theorem wc_R_takeInLine : Cond.code M_R_takeInLine.1 M_R_takeInLine.2.1 M_R_takeInLine.2.2.1 M_R_takeInLine.2.2.2.1 ∈ mm_all := mm_w2 (i := 40) rfl rfl
theorem wi_R_takeInLine : Cond.initialized M_R_takeInLine.1.cls ∈ mm_all := mm_w1 (i := 3) rfl rfl
theorem wm_R_takeInLine : Cond.instanceMethod M_R_takeInLine.1 ∈ mm_all := mm_w2 (i := 39) rfl rfl
theorem wc_X_isPlain : Cond.code M_X_isPlain.1 M_X_isPlain.2.1 M_X_isPlain.2.2.1 M_X_isPlain.2.2.2.1 ∈ mm_all := mm_w2 (i := 43) rfl rfl
theorem wi_X_isPlain : Cond.initialized M_X_isPlain.1.cls ∈ mm_all := mm_w1 (i := 15) rfl rfl
theorem wt_X_isPlain : Cond.static M_X_isPlain.1 ∈ mm_all := mm_w2 (i := 42) rfl rfl
theorem wc_SB_length : Cond.code M_SB_length.1 M_SB_length.2.1 M_SB_length.2.2.1 M_SB_length.2.2.2.1 ∈ mm_all := mm_w2 (i := 47) rfl rfl
theorem wi_SB_length : Cond.initialized M_SB_length.1.cls ∈ mm_all := mm_w1 (i := 5) rfl rfl
theorem wm_SB_length : Cond.instanceMethod M_SB_length.1 ∈ mm_all := mm_w2 (i := 45) rfl rfl
theorem wc_AB_length : Cond.code M_AB_length.1 M_AB_length.2.1 M_AB_length.2.2.1 M_AB_length.2.2.2.1 ∈ mm_all := mm_w2 (i := 50) rfl rfl
theorem wi_AB_length : Cond.initialized M_AB_length.1.cls ∈ mm_all := mm_w1 (i := 4) rfl rfl
theorem wm_AB_length : Cond.instanceMethod M_AB_length.1 ∈ mm_all := mm_w2 (i := 49) rfl rfl
theorem wc_SB_append_C : Cond.code M_SB_append_C.1 M_SB_append_C.2.1 M_SB_append_C.2.2.1 M_SB_append_C.2.2.2.1 ∈ mm_all := mm_w2 (i := 54) rfl rfl
theorem wi_SB_append_C : Cond.initialized M_SB_append_C.1.cls ∈ mm_all := mm_w1 (i := 5) rfl rfl
theorem wm_SB_append_C : Cond.instanceMethod M_SB_append_C.1 ∈ mm_all := mm_w2 (i := 52) rfl rfl
theorem wc_AB_append_C : Cond.code M_AB_append_C.1 M_AB_append_C.2.1 M_AB_append_C.2.2.1 M_AB_append_C.2.2.2.1 ∈ mm_all := mm_w2 (i := 57) rfl rfl
theorem wi_AB_append_C : Cond.initialized M_AB_append_C.1.cls ∈ mm_all := mm_w1 (i := 4) rfl rfl
theorem wm_AB_append_C : Cond.instanceMethod M_AB_append_C.1 ∈ mm_all := mm_w2 (i := 56) rfl rfl
theorem wc_AB_ensureCapacityInternal : Cond.code M_AB_ensureCapacityInternal.1 M_AB_ensureCapacityInternal.2.1 M_AB_ensureCapacityInternal.2.2.1 M_AB_ensureCapacityInternal.2.2.2.1 ∈ mm_all := mm_w2 (i := 61) rfl rfl
theorem wi_AB_ensureCapacityInternal : Cond.initialized M_AB_ensureCapacityInternal.1.cls ∈ mm_all := mm_w1 (i := 4) rfl rfl
theorem wm_AB_ensureCapacityInternal : Cond.instanceMethod M_AB_ensureCapacityInternal.1 ∈ mm_all := mm_w2 (i := 60) rfl rfl
theorem wc_AB_newCapacity : Cond.code M_AB_newCapacity.1 M_AB_newCapacity.2.1 M_AB_newCapacity.2.2.1 M_AB_newCapacity.2.2.2.1 ∈ mm_all := mm_w2 (i := 65) rfl rfl
theorem wi_AB_newCapacity : Cond.initialized M_AB_newCapacity.1.cls ∈ mm_all := mm_w1 (i := 4) rfl rfl
theorem wm_AB_newCapacity : Cond.instanceMethod M_AB_newCapacity.1 ∈ mm_all := mm_w2 (i := 64) rfl rfl
theorem wc_AS_newLength : Cond.code M_AS_newLength.1 M_AS_newLength.2.1 M_AS_newLength.2.2.1 M_AS_newLength.2.2.2.1 ∈ mm_all := mm_w2 (i := 68) rfl rfl
theorem wi_AS_newLength : Cond.initialized M_AS_newLength.1.cls ∈ mm_all := mm_w1 (i := 16) rfl rfl
theorem wt_AS_newLength : Cond.static M_AS_newLength.1 ∈ mm_all := mm_w2 (i := 67) rfl rfl
theorem wc_MA_max : Cond.code M_MA_max.1 M_MA_max.2.1 M_MA_max.2.2.1 M_MA_max.2.2.2.1 ∈ mm_all := mm_w2 (i := 71) rfl rfl
theorem wi_MA_max : Cond.initialized M_MA_max.1.cls ∈ mm_all := mm_w1 (i := 17) rfl rfl
theorem wt_MA_max : Cond.static M_MA_max.1 ∈ mm_all := mm_w2 (i := 70) rfl rfl
theorem wc_AS_hugeLength : Cond.code M_AS_hugeLength.1 M_AS_hugeLength.2.1 M_AS_hugeLength.2.2.1 M_AS_hugeLength.2.2.2.1 ∈ mm_all := mm_w2 (i := 75) rfl rfl
theorem wi_AS_hugeLength : Cond.initialized M_AS_hugeLength.1.cls ∈ mm_all := mm_w1 (i := 16) rfl rfl
theorem wt_AS_hugeLength : Cond.static M_AS_hugeLength.1 ∈ mm_all := mm_w2 (i := 74) rfl rfl
theorem wc_AR_copyOf_aBI : Cond.code M_AR_copyOf_aBI.1 M_AR_copyOf_aBI.2.1 M_AR_copyOf_aBI.2.2.1 M_AR_copyOf_aBI.2.2.2.1 ∈ mm_all := mm_w2 (i := 79) rfl rfl
theorem wi_AR_copyOf_aBI : Cond.initialized M_AR_copyOf_aBI.1.cls ∈ mm_all := mm_w1 (i := 18) rfl rfl
theorem wt_AR_copyOf_aBI : Cond.static M_AR_copyOf_aBI.1 ∈ mm_all := mm_w2 (i := 78) rfl rfl
theorem wc_MA_min : Cond.code M_MA_min.1 M_MA_min.2.1 M_MA_min.2.2.1 M_MA_min.2.2.2.1 ∈ mm_all := mm_w2 (i := 89) rfl rfl
theorem wi_MA_min : Cond.initialized M_MA_min.1.cls ∈ mm_all := mm_w1 (i := 17) rfl rfl
theorem wt_MA_min : Cond.static M_MA_min.1 ∈ mm_all := mm_w2 (i := 88) rfl rfl
theorem wc_AB_isLatin1 : Cond.code M_AB_isLatin1.1 M_AB_isLatin1.2.1 M_AB_isLatin1.2.2.1 M_AB_isLatin1.2.2.2.1 ∈ mm_all := mm_w2 (i := 97) rfl rfl
theorem wi_AB_isLatin1 : Cond.initialized M_AB_isLatin1.1.cls ∈ mm_all := mm_w1 (i := 4) rfl rfl
theorem wm_AB_isLatin1 : Cond.instanceMethod M_AB_isLatin1.1 ∈ mm_all := mm_w2 (i := 94) rfl rfl
theorem wc_L1_canEncode_C : Cond.code M_L1_canEncode_C.1 M_L1_canEncode_C.2.1 M_L1_canEncode_C.2.2.1 M_L1_canEncode_C.2.2.2.1 ∈ mm_all := mm_w2 (i := 100) rfl rfl
theorem wi_L1_canEncode_C : Cond.initialized M_L1_canEncode_C.1.cls ∈ mm_all := mm_w1 (i := 20) rfl rfl
theorem wt_L1_canEncode_C : Cond.static M_L1_canEncode_C.1 ∈ mm_all := mm_w2 (i := 99) rfl rfl
theorem wc_AB_inflate : Cond.code M_AB_inflate.1 M_AB_inflate.2.1 M_AB_inflate.2.2.1 M_AB_inflate.2.2.2.1 ∈ mm_all := mm_w2 (i := 104) rfl rfl
theorem wi_AB_inflate : Cond.initialized M_AB_inflate.1.cls ∈ mm_all := mm_w1 (i := 4) rfl rfl
theorem wm_AB_inflate : Cond.instanceMethod M_AB_inflate.1 ∈ mm_all := mm_w2 (i := 103) rfl rfl
theorem wc_L1_inflate_aBIaBII : Cond.code M_L1_inflate_aBIaBII.1 M_L1_inflate_aBIaBII.2.1 M_L1_inflate_aBIaBII.2.2.1 M_L1_inflate_aBIaBII.2.2.2.1 ∈ mm_all := mm_w2 (i := 107) rfl rfl
theorem wi_L1_inflate_aBIaBII : Cond.initialized M_L1_inflate_aBIaBII.1.cls ∈ mm_all := mm_w1 (i := 20) rfl rfl
theorem wt_L1_inflate_aBIaBII : Cond.static M_L1_inflate_aBIaBII.1 ∈ mm_all := mm_w2 (i := 106) rfl rfl
theorem wc_U6_inflate : Cond.code M_U6_inflate.1 M_U6_inflate.2.1 M_U6_inflate.2.2.1 M_U6_inflate.2.2.2.1 ∈ mm_all := mm_w2 (i := 110) rfl rfl
theorem wi_U6_inflate : Cond.initialized M_U6_inflate.1.cls ∈ mm_all := mm_w1 (i := 7) rfl rfl
theorem wt_U6_inflate : Cond.static M_U6_inflate.1 ∈ mm_all := mm_w2 (i := 109) rfl rfl
theorem wc_U6_checkBoundsOffCount : Cond.code M_U6_checkBoundsOffCount.1 M_U6_checkBoundsOffCount.2.1 M_U6_checkBoundsOffCount.2.2.1 M_U6_checkBoundsOffCount.2.2.2.1 ∈ mm_all := mm_w2 (i := 113) rfl rfl
theorem wi_U6_checkBoundsOffCount : Cond.initialized M_U6_checkBoundsOffCount.1.cls ∈ mm_all := mm_w1 (i := 7) rfl rfl
theorem wt_U6_checkBoundsOffCount : Cond.static M_U6_checkBoundsOffCount.1 ∈ mm_all := mm_w2 (i := 112) rfl rfl
theorem wc_U6_length : Cond.code M_U6_length.1 M_U6_length.2.1 M_U6_length.2.2.1 M_U6_length.2.2.2.1 ∈ mm_all := mm_w2 (i := 116) rfl rfl
theorem wi_U6_length : Cond.initialized M_U6_length.1.cls ∈ mm_all := mm_w1 (i := 7) rfl rfl
theorem wt_U6_length : Cond.static M_U6_length.1 ∈ mm_all := mm_w2 (i := 115) rfl rfl
theorem wc_ST_checkBoundsOffCount : Cond.code M_ST_checkBoundsOffCount.1 M_ST_checkBoundsOffCount.2.1 M_ST_checkBoundsOffCount.2.2.1 M_ST_checkBoundsOffCount.2.2.2.1 ∈ mm_all := mm_w2 (i := 119) rfl rfl
theorem wi_ST_checkBoundsOffCount : Cond.initialized M_ST_checkBoundsOffCount.1.cls ∈ mm_all := mm_w1 (i := 6) rfl rfl
theorem wt_ST_checkBoundsOffCount : Cond.static M_ST_checkBoundsOffCount.1 ∈ mm_all := mm_w2 (i := 118) rfl rfl
theorem wc_PC_checkFromIndexSize : Cond.code M_PC_checkFromIndexSize.1 M_PC_checkFromIndexSize.2.1 M_PC_checkFromIndexSize.2.2.1 M_PC_checkFromIndexSize.2.2.2.1 ∈ mm_all := mm_w2 (i := 124) rfl rfl
theorem wi_PC_checkFromIndexSize : Cond.initialized M_PC_checkFromIndexSize.1.cls ∈ mm_all := mm_w1 (i := 21) rfl rfl
theorem wt_PC_checkFromIndexSize : Cond.static M_PC_checkFromIndexSize.1 ∈ mm_all := mm_w2 (i := 123) rfl rfl
theorem wc_U6_putChar : Cond.code M_U6_putChar.1 M_U6_putChar.2.1 M_U6_putChar.2.2.1 M_U6_putChar.2.2.2.1 ∈ mm_all := mm_w2 (i := 127) rfl rfl
theorem wi_U6_putChar : Cond.initialized M_U6_putChar.1.cls ∈ mm_all := mm_w1 (i := 7) rfl rfl
theorem wt_U6_putChar : Cond.static M_U6_putChar.1 ∈ mm_all := mm_w2 (i := 126) rfl rfl
theorem wc_U6_putCharSB : Cond.code M_U6_putCharSB.1 M_U6_putCharSB.2.1 M_U6_putCharSB.2.2.1 M_U6_putCharSB.2.2.2.1 ∈ mm_all := mm_w2 (i := 136) rfl rfl
theorem wi_U6_putCharSB : Cond.initialized M_U6_putCharSB.1.cls ∈ mm_all := mm_w1 (i := 7) rfl rfl
theorem wt_U6_putCharSB : Cond.static M_U6_putCharSB.1 ∈ mm_all := mm_w2 (i := 135) rfl rfl
theorem wc_U6_checkIndex : Cond.code M_U6_checkIndex.1 M_U6_checkIndex.2.1 M_U6_checkIndex.2.2.1 M_U6_checkIndex.2.2.2.1 ∈ mm_all := mm_w2 (i := 139) rfl rfl
theorem wi_U6_checkIndex : Cond.initialized M_U6_checkIndex.1.cls ∈ mm_all := mm_w1 (i := 7) rfl rfl
theorem wt_U6_checkIndex : Cond.static M_U6_checkIndex.1 ∈ mm_all := mm_w2 (i := 138) rfl rfl
theorem wc_ST_checkIndex : Cond.code M_ST_checkIndex.1 M_ST_checkIndex.2.1 M_ST_checkIndex.2.2.1 M_ST_checkIndex.2.2.2.1 ∈ mm_all := mm_w2 (i := 142) rfl rfl
theorem wi_ST_checkIndex : Cond.initialized M_ST_checkIndex.1.cls ∈ mm_all := mm_w1 (i := 6) rfl rfl
theorem wt_ST_checkIndex : Cond.static M_ST_checkIndex.1 ∈ mm_all := mm_w2 (i := 141) rfl rfl
theorem wc_PC_checkIndex : Cond.code M_PC_checkIndex.1 M_PC_checkIndex.2.1 M_PC_checkIndex.2.2.1 M_PC_checkIndex.2.2.2.1 ∈ mm_all := mm_w2 (i := 145) rfl rfl
theorem wi_PC_checkIndex : Cond.initialized M_PC_checkIndex.1.cls ∈ mm_all := mm_w1 (i := 21) rfl rfl
theorem wt_PC_checkIndex : Cond.static M_PC_checkIndex.1 ∈ mm_all := mm_w2 (i := 144) rfl rfl
theorem wc_R_endLine : Cond.code M_R_endLine.1 M_R_endLine.2.1 M_R_endLine.2.2.1 M_R_endLine.2.2.2.1 ∈ mm_all := mm_w2 (i := 149) rfl rfl
theorem wi_R_endLine : Cond.initialized M_R_endLine.1.cls ∈ mm_all := mm_w1 (i := 3) rfl rfl
theorem wm_R_endLine : Cond.instanceMethod M_R_endLine.1 ∈ mm_all := mm_w2 (i := 148) rfl rfl
theorem wc_SB_toString : Cond.code M_SB_toString.1 M_SB_toString.2.1 M_SB_toString.2.2.1 M_SB_toString.2.2.2.1 ∈ mm_all := mm_w2 (i := 153) rfl rfl
theorem wi_SB_toString : Cond.initialized M_SB_toString.1.cls ∈ mm_all := mm_w1 (i := 5) rfl rfl
theorem wm_SB_toString : Cond.instanceMethod M_SB_toString.1 ∈ mm_all := mm_w2 (i := 151) rfl rfl
theorem wc_ST_init_S : Cond.code M_ST_init_S.1 M_ST_init_S.2.1 M_ST_init_S.2.2.1 M_ST_init_S.2.2.2.1 ∈ mm_all := mm_w2 (i := 158) rfl rfl
theorem wi_ST_init_S : Cond.initialized M_ST_init_S.1.cls ∈ mm_all := mm_w1 (i := 6) rfl rfl
theorem wm_ST_init_S : Cond.instanceMethod M_ST_init_S.1 ∈ mm_all := mm_w2 (i := 157) rfl rfl
theorem wc_ST_init_AV : Cond.code M_ST_init_AV.1 M_ST_init_AV.2.1 M_ST_init_AV.2.2.1 M_ST_init_AV.2.2.2.1 ∈ mm_all := mm_w2 (i := 161) rfl rfl
theorem wi_ST_init_AV : Cond.initialized M_ST_init_AV.1.cls ∈ mm_all := mm_w1 (i := 6) rfl rfl
theorem wm_ST_init_AV : Cond.instanceMethod M_ST_init_AV.1 ∈ mm_all := mm_w2 (i := 160) rfl rfl
theorem wc_AB_getValue : Cond.code M_AB_getValue.1 M_AB_getValue.2.1 M_AB_getValue.2.2.1 M_AB_getValue.2.2.2.1 ∈ mm_all := mm_w2 (i := 167) rfl rfl
theorem wi_AB_getValue : Cond.initialized M_AB_getValue.1.cls ∈ mm_all := mm_w1 (i := 4) rfl rfl
theorem wm_AB_getValue : Cond.instanceMethod M_AB_getValue.1 ∈ mm_all := mm_w2 (i := 164) rfl rfl
theorem wc_AR_copyOfRange : Cond.code M_AR_copyOfRange.1 M_AR_copyOfRange.2.1 M_AR_copyOfRange.2.2.1 M_AR_copyOfRange.2.2.2.1 ∈ mm_all := mm_w2 (i := 172) rfl rfl
theorem wi_AR_copyOfRange : Cond.initialized M_AR_copyOfRange.1.cls ∈ mm_all := mm_w1 (i := 18) rfl rfl
theorem wt_AR_copyOfRange : Cond.static M_AR_copyOfRange.1 ∈ mm_all := mm_w2 (i := 171) rfl rfl
theorem wc_AR_copyOfRangeByte : Cond.code M_AR_copyOfRangeByte.1 M_AR_copyOfRangeByte.2.1 M_AR_copyOfRangeByte.2.2.1 M_AR_copyOfRangeByte.2.2.2.1 ∈ mm_all := mm_w2 (i := 175) rfl rfl
theorem wi_AR_copyOfRangeByte : Cond.initialized M_AR_copyOfRangeByte.1.cls ∈ mm_all := mm_w1 (i := 18) rfl rfl
theorem wt_AR_copyOfRangeByte : Cond.static M_AR_copyOfRangeByte.1 ∈ mm_all := mm_w2 (i := 174) rfl rfl
theorem wc_AR_checkLength : Cond.code M_AR_checkLength.1 M_AR_checkLength.2.1 M_AR_checkLength.2.2.1 M_AR_checkLength.2.2.2.1 ∈ mm_all := mm_w2 (i := 178) rfl rfl
theorem wi_AR_checkLength : Cond.initialized M_AR_checkLength.1.cls ∈ mm_all := mm_w1 (i := 18) rfl rfl
theorem wt_AR_checkLength : Cond.static M_AR_checkLength.1 ∈ mm_all := mm_w2 (i := 177) rfl rfl
theorem wc_U6_compress_aBII : Cond.code M_U6_compress_aBII.1 M_U6_compress_aBII.2.1 M_U6_compress_aBII.2.2.1 M_U6_compress_aBII.2.2.2.1 ∈ mm_all := mm_w2 (i := 182) rfl rfl
theorem wi_U6_compress_aBII : Cond.initialized M_U6_compress_aBII.1.cls ∈ mm_all := mm_w1 (i := 7) rfl rfl
theorem wt_U6_compress_aBII : Cond.static M_U6_compress_aBII.1 ∈ mm_all := mm_w2 (i := 181) rfl rfl
theorem wc_U6_compress_aBIaBII : Cond.code M_U6_compress_aBIaBII.1 M_U6_compress_aBIaBII.2.1 M_U6_compress_aBIaBII.2.2.1 M_U6_compress_aBIaBII.2.2.2.1 ∈ mm_all := mm_w2 (i := 185) rfl rfl
theorem wi_U6_compress_aBIaBII : Cond.initialized M_U6_compress_aBIaBII.1.cls ∈ mm_all := mm_w1 (i := 7) rfl rfl
theorem wt_U6_compress_aBIaBII : Cond.static M_U6_compress_aBIaBII.1 ∈ mm_all := mm_w2 (i := 184) rfl rfl
theorem wc_U6_getChar : Cond.code M_U6_getChar.1 M_U6_getChar.2.1 M_U6_getChar.2.2.1 M_U6_getChar.2.2.2.1 ∈ mm_all := mm_w2 (i := 188) rfl rfl
theorem wi_U6_getChar : Cond.initialized M_U6_getChar.1.cls ∈ mm_all := mm_w1 (i := 7) rfl rfl
theorem wt_U6_getChar : Cond.static M_U6_getChar.1 ∈ mm_all := mm_w2 (i := 187) rfl rfl
theorem wc_U6_coderFromArrayLen : Cond.code M_U6_coderFromArrayLen.1 M_U6_coderFromArrayLen.2.1 M_U6_coderFromArrayLen.2.2.1 M_U6_coderFromArrayLen.2.2.2.1 ∈ mm_all := mm_w2 (i := 192) rfl rfl
theorem wi_U6_coderFromArrayLen : Cond.initialized M_U6_coderFromArrayLen.1.cls ∈ mm_all := mm_w1 (i := 7) rfl rfl
theorem wt_U6_coderFromArrayLen : Cond.static M_U6_coderFromArrayLen.1 ∈ mm_all := mm_w2 (i := 191) rfl rfl
theorem wc_SB_setLength : Cond.code M_SB_setLength.1 M_SB_setLength.2.1 M_SB_setLength.2.2.1 M_SB_setLength.2.2.2.1 ∈ mm_all := mm_w2 (i := 207) rfl rfl
theorem wi_SB_setLength : Cond.initialized M_SB_setLength.1.cls ∈ mm_all := mm_w1 (i := 5) rfl rfl
theorem wm_SB_setLength : Cond.instanceMethod M_SB_setLength.1 ∈ mm_all := mm_w2 (i := 205) rfl rfl
theorem wc_AB_setLength : Cond.code M_AB_setLength.1 M_AB_setLength.2.1 M_AB_setLength.2.2.1 M_AB_setLength.2.2.2.1 ∈ mm_all := mm_w2 (i := 210) rfl rfl
theorem wi_AB_setLength : Cond.initialized M_AB_setLength.1.cls ∈ mm_all := mm_w1 (i := 4) rfl rfl
theorem wm_AB_setLength : Cond.instanceMethod M_AB_setLength.1 ∈ mm_all := mm_w2 (i := 209) rfl rfl
theorem wc_L1_fillNull : Cond.code M_L1_fillNull.1 M_L1_fillNull.2.1 M_L1_fillNull.2.2.1 M_L1_fillNull.2.2.2.1 ∈ mm_all := mm_w2 (i := 213) rfl rfl
theorem wi_L1_fillNull : Cond.initialized M_L1_fillNull.1.cls ∈ mm_all := mm_w1 (i := 20) rfl rfl
theorem wt_L1_fillNull : Cond.static M_L1_fillNull.1 ∈ mm_all := mm_w2 (i := 212) rfl rfl
theorem wc_AR_fill : Cond.code M_AR_fill.1 M_AR_fill.2.1 M_AR_fill.2.2.1 M_AR_fill.2.2.2.1 ∈ mm_all := mm_w2 (i := 216) rfl rfl
theorem wi_AR_fill : Cond.initialized M_AR_fill.1.cls ∈ mm_all := mm_w1 (i := 18) rfl rfl
theorem wt_AR_fill : Cond.static M_AR_fill.1 ∈ mm_all := mm_w2 (i := 215) rfl rfl
theorem wc_AR_rangeCheck : Cond.code M_AR_rangeCheck.1 M_AR_rangeCheck.2.1 M_AR_rangeCheck.2.2.1 M_AR_rangeCheck.2.2.2.1 ∈ mm_all := mm_w2 (i := 219) rfl rfl
theorem wi_AR_rangeCheck : Cond.initialized M_AR_rangeCheck.1.cls ∈ mm_all := mm_w1 (i := 18) rfl rfl
theorem wt_AR_rangeCheck : Cond.static M_AR_rangeCheck.1 ∈ mm_all := mm_w2 (i := 218) rfl rfl
theorem wc_U6_fillNull : Cond.code M_U6_fillNull.1 M_U6_fillNull.2.1 M_U6_fillNull.2.2.1 M_U6_fillNull.2.2.2.1 ∈ mm_all := mm_w2 (i := 222) rfl rfl
theorem wi_U6_fillNull : Cond.initialized M_U6_fillNull.1.cls ∈ mm_all := mm_w1 (i := 7) rfl rfl
theorem wt_U6_fillNull : Cond.static M_U6_fillNull.1 ∈ mm_all := mm_w2 (i := 221) rfl rfl
theorem wc_Q_read : Cond.code M_Q_read.1 M_Q_read.2.1 M_Q_read.2.2.1 M_Q_read.2.2.2.1 ∈ mm_all := mm_w2 (i := 227) rfl rfl
theorem wi_Q_read : Cond.initialized M_Q_read.1.cls ∈ mm_all := mm_w1 (i := 8) rfl rfl
theorem wm_Q_read : Cond.instanceMethod M_Q_read.1 ∈ mm_all := mm_w2 (i := 225) rfl rfl
theorem wc_ST_indexOf_I : Cond.code M_ST_indexOf_I.1 M_ST_indexOf_I.2.1 M_ST_indexOf_I.2.2.1 M_ST_indexOf_I.2.2.2.1 ∈ mm_all := mm_w2 (i := 231) rfl rfl
theorem wi_ST_indexOf_I : Cond.initialized M_ST_indexOf_I.1.cls ∈ mm_all := mm_w1 (i := 6) rfl rfl
theorem wm_ST_indexOf_I : Cond.instanceMethod M_ST_indexOf_I.1 ∈ mm_all := mm_w2 (i := 229) rfl rfl
theorem wc_ST_indexOf_II : Cond.code M_ST_indexOf_II.1 M_ST_indexOf_II.2.1 M_ST_indexOf_II.2.2.1 M_ST_indexOf_II.2.2.2.1 ∈ mm_all := mm_w2 (i := 235) rfl rfl
theorem wi_ST_indexOf_II : Cond.initialized M_ST_indexOf_II.1.cls ∈ mm_all := mm_w1 (i := 6) rfl rfl
theorem wm_ST_indexOf_II : Cond.instanceMethod M_ST_indexOf_II.1 ∈ mm_all := mm_w2 (i := 233) rfl rfl
theorem wc_ST_isLatin1 : Cond.code M_ST_isLatin1.1 M_ST_isLatin1.2.1 M_ST_isLatin1.2.2.1 M_ST_isLatin1.2.2.2.1 ∈ mm_all := mm_w2 (i := 239) rfl rfl
theorem wi_ST_isLatin1 : Cond.initialized M_ST_isLatin1.1.cls ∈ mm_all := mm_w1 (i := 6) rfl rfl
theorem wm_ST_isLatin1 : Cond.instanceMethod M_ST_isLatin1.1 ∈ mm_all := mm_w2 (i := 237) rfl rfl
theorem wc_ST_length : Cond.code M_ST_length.1 M_ST_length.2.1 M_ST_length.2.2.1 M_ST_length.2.2.2.1 ∈ mm_all := mm_w3 (i := 3) rfl rfl
theorem wi_ST_length : Cond.initialized M_ST_length.1.cls ∈ mm_all := mm_w1 (i := 6) rfl rfl
theorem wm_ST_length : Cond.instanceMethod M_ST_length.1 ∈ mm_all := mm_w3 (i := 1) rfl rfl
theorem wc_ST_coder : Cond.code M_ST_coder.1 M_ST_coder.2.1 M_ST_coder.2.2.1 M_ST_coder.2.2.2.1 ∈ mm_all := mm_w3 (i := 7) rfl rfl
theorem wi_ST_coder : Cond.initialized M_ST_coder.1.cls ∈ mm_all := mm_w1 (i := 6) rfl rfl
theorem wm_ST_coder : Cond.instanceMethod M_ST_coder.1 ∈ mm_all := mm_w3 (i := 5) rfl rfl
theorem wc_L1_indexOf : Cond.code M_L1_indexOf.1 M_L1_indexOf.2.1 M_L1_indexOf.2.2.1 M_L1_indexOf.2.2.2.1 ∈ mm_all := mm_w3 (i := 10) rfl rfl
theorem wi_L1_indexOf : Cond.initialized M_L1_indexOf.1.cls ∈ mm_all := mm_w1 (i := 20) rfl rfl
theorem wt_L1_indexOf : Cond.static M_L1_indexOf.1 ∈ mm_all := mm_w3 (i := 9) rfl rfl
theorem wc_L1_canEncode_I : Cond.code M_L1_canEncode_I.1 M_L1_canEncode_I.2.1 M_L1_canEncode_I.2.2.1 M_L1_canEncode_I.2.2.2.1 ∈ mm_all := mm_w3 (i := 13) rfl rfl
theorem wi_L1_canEncode_I : Cond.initialized M_L1_canEncode_I.1.cls ∈ mm_all := mm_w1 (i := 20) rfl rfl
theorem wt_L1_canEncode_I : Cond.static M_L1_canEncode_I.1 ∈ mm_all := mm_w3 (i := 12) rfl rfl
theorem wc_L1_indexOfChar : Cond.code M_L1_indexOfChar.1 M_L1_indexOfChar.2.1 M_L1_indexOfChar.2.2.1 M_L1_indexOfChar.2.2.2.1 ∈ mm_all := mm_w3 (i := 18) rfl rfl
theorem wi_L1_indexOfChar : Cond.initialized M_L1_indexOfChar.1.cls ∈ mm_all := mm_w1 (i := 20) rfl rfl
theorem wt_L1_indexOfChar : Cond.static M_L1_indexOfChar.1 ∈ mm_all := mm_w3 (i := 17) rfl rfl
theorem wc_U6_indexOf : Cond.code M_U6_indexOf.1 M_U6_indexOf.2.1 M_U6_indexOf.2.2.1 M_U6_indexOf.2.2.2.1 ∈ mm_all := mm_w3 (i := 21) rfl rfl
theorem wi_U6_indexOf : Cond.initialized M_U6_indexOf.1.cls ∈ mm_all := mm_w1 (i := 7) rfl rfl
theorem wt_U6_indexOf : Cond.static M_U6_indexOf.1 ∈ mm_all := mm_w3 (i := 20) rfl rfl
theorem wc_U6_indexOfChar : Cond.code M_U6_indexOfChar.1 M_U6_indexOfChar.2.1 M_U6_indexOfChar.2.2.1 M_U6_indexOfChar.2.2.2.1 ∈ mm_all := mm_w3 (i := 27) rfl rfl
theorem wi_U6_indexOfChar : Cond.initialized M_U6_indexOfChar.1.cls ∈ mm_all := mm_w1 (i := 7) rfl rfl
theorem wt_U6_indexOfChar : Cond.static M_U6_indexOfChar.1 ∈ mm_all := mm_w3 (i := 26) rfl rfl
theorem wc_U6_checkBoundsBeginEnd : Cond.code M_U6_checkBoundsBeginEnd.1 M_U6_checkBoundsBeginEnd.2.1 M_U6_checkBoundsBeginEnd.2.2.1 M_U6_checkBoundsBeginEnd.2.2.2.1 ∈ mm_all := mm_w3 (i := 30) rfl rfl
theorem wi_U6_checkBoundsBeginEnd : Cond.initialized M_U6_checkBoundsBeginEnd.1.cls ∈ mm_all := mm_w1 (i := 7) rfl rfl
theorem wt_U6_checkBoundsBeginEnd : Cond.static M_U6_checkBoundsBeginEnd.1 ∈ mm_all := mm_w3 (i := 29) rfl rfl
theorem wc_ST_checkBoundsBeginEnd : Cond.code M_ST_checkBoundsBeginEnd.1 M_ST_checkBoundsBeginEnd.2.1 M_ST_checkBoundsBeginEnd.2.2.1 M_ST_checkBoundsBeginEnd.2.2.2.1 ∈ mm_all := mm_w3 (i := 33) rfl rfl
theorem wi_ST_checkBoundsBeginEnd : Cond.initialized M_ST_checkBoundsBeginEnd.1.cls ∈ mm_all := mm_w1 (i := 6) rfl rfl
theorem wt_ST_checkBoundsBeginEnd : Cond.static M_ST_checkBoundsBeginEnd.1 ∈ mm_all := mm_w3 (i := 32) rfl rfl
theorem wc_PC_checkFromToIndex : Cond.code M_PC_checkFromToIndex.1 M_PC_checkFromToIndex.2.1 M_PC_checkFromToIndex.2.2.1 M_PC_checkFromToIndex.2.2.2.1 ∈ mm_all := mm_w3 (i := 36) rfl rfl
theorem wi_PC_checkFromToIndex : Cond.initialized M_PC_checkFromToIndex.1.cls ∈ mm_all := mm_w1 (i := 21) rfl rfl
theorem wt_PC_checkFromToIndex : Cond.static M_PC_checkFromToIndex.1 ∈ mm_all := mm_w3 (i := 35) rfl rfl
theorem wc_U6_indexOfCharUnsafe : Cond.code M_U6_indexOfCharUnsafe.1 M_U6_indexOfCharUnsafe.2.1 M_U6_indexOfCharUnsafe.2.2.1 M_U6_indexOfCharUnsafe.2.2.2.1 ∈ mm_all := mm_w3 (i := 39) rfl rfl
theorem wi_U6_indexOfCharUnsafe : Cond.initialized M_U6_indexOfCharUnsafe.1.cls ∈ mm_all := mm_w1 (i := 7) rfl rfl
theorem wt_U6_indexOfCharUnsafe : Cond.static M_U6_indexOfCharUnsafe.1 ∈ mm_all := mm_w3 (i := 38) rfl rfl
theorem wc_U6_indexOfSupplementary : Cond.code M_U6_indexOfSupplementary.1 M_U6_indexOfSupplementary.2.1 M_U6_indexOfSupplementary.2.2.1 M_U6_indexOfSupplementary.2.2.2.1 ∈ mm_all := mm_w3 (i := 42) rfl rfl
theorem wi_U6_indexOfSupplementary : Cond.initialized M_U6_indexOfSupplementary.1.cls ∈ mm_all := mm_w1 (i := 7) rfl rfl
theorem wt_U6_indexOfSupplementary : Cond.static M_U6_indexOfSupplementary.1 ∈ mm_all := mm_w3 (i := 41) rfl rfl
theorem wc_CH_isValidCodePoint : Cond.code M_CH_isValidCodePoint.1 M_CH_isValidCodePoint.2.1 M_CH_isValidCodePoint.2.2.1 M_CH_isValidCodePoint.2.2.2.1 ∈ mm_all := mm_w3 (i := 45) rfl rfl
theorem wi_CH_isValidCodePoint : Cond.initialized M_CH_isValidCodePoint.1.cls ∈ mm_all := mm_w1 (i := 22) rfl rfl
theorem wt_CH_isValidCodePoint : Cond.static M_CH_isValidCodePoint.1 ∈ mm_all := mm_w3 (i := 44) rfl rfl
theorem wc_CH_highSurrogate : Cond.code M_CH_highSurrogate.1 M_CH_highSurrogate.2.1 M_CH_highSurrogate.2.2.1 M_CH_highSurrogate.2.2.2.1 ∈ mm_all := mm_w3 (i := 48) rfl rfl
theorem wi_CH_highSurrogate : Cond.initialized M_CH_highSurrogate.1.cls ∈ mm_all := mm_w1 (i := 22) rfl rfl
theorem wt_CH_highSurrogate : Cond.static M_CH_highSurrogate.1 ∈ mm_all := mm_w3 (i := 47) rfl rfl
theorem wc_CH_lowSurrogate : Cond.code M_CH_lowSurrogate.1 M_CH_lowSurrogate.2.1 M_CH_lowSurrogate.2.2.1 M_CH_lowSurrogate.2.2.2.1 ∈ mm_all := mm_w3 (i := 52) rfl rfl
theorem wi_CH_lowSurrogate : Cond.initialized M_CH_lowSurrogate.1.cls ∈ mm_all := mm_w1 (i := 22) rfl rfl
theorem wt_CH_lowSurrogate : Cond.static M_CH_lowSurrogate.1 ∈ mm_all := mm_w3 (i := 51) rfl rfl
theorem wc_Q_isMethod : Cond.code M_Q_isMethod.1 M_Q_isMethod.2.1 M_Q_isMethod.2.2.1 M_Q_isMethod.2.2.2.1 ∈ mm_all := mm_w3 (i := 58) rfl rfl
theorem wi_Q_isMethod : Cond.initialized M_Q_isMethod.1.cls ∈ mm_all := mm_w1 (i := 8) rfl rfl
theorem wt_Q_isMethod : Cond.static M_Q_isMethod.1 ∈ mm_all := mm_w3 (i := 57) rfl rfl
theorem wc_ST_charAt : Cond.code M_ST_charAt.1 M_ST_charAt.2.1 M_ST_charAt.2.2.1 M_ST_charAt.2.2.2.1 ∈ mm_all := mm_w3 (i := 62) rfl rfl
theorem wi_ST_charAt : Cond.initialized M_ST_charAt.1.cls ∈ mm_all := mm_w1 (i := 6) rfl rfl
theorem wm_ST_charAt : Cond.instanceMethod M_ST_charAt.1 ∈ mm_all := mm_w3 (i := 60) rfl rfl
theorem wc_L1_charAt : Cond.code M_L1_charAt.1 M_L1_charAt.2.1 M_L1_charAt.2.2.1 M_L1_charAt.2.2.2.1 ∈ mm_all := mm_w3 (i := 65) rfl rfl
theorem wi_L1_charAt : Cond.initialized M_L1_charAt.1.cls ∈ mm_all := mm_w1 (i := 20) rfl rfl
theorem wt_L1_charAt : Cond.static M_L1_charAt.1 ∈ mm_all := mm_w3 (i := 64) rfl rfl
theorem wc_U6_charAt : Cond.code M_U6_charAt.1 M_U6_charAt.2.1 M_U6_charAt.2.2.1 M_U6_charAt.2.2.2.1 ∈ mm_all := mm_w3 (i := 69) rfl rfl
theorem wi_U6_charAt : Cond.initialized M_U6_charAt.1.cls ∈ mm_all := mm_w1 (i := 7) rfl rfl
theorem wt_U6_charAt : Cond.static M_U6_charAt.1 ∈ mm_all := mm_w3 (i := 68) rfl rfl
theorem wc_X_isCapital : Cond.code M_X_isCapital.1 M_X_isCapital.2.1 M_X_isCapital.2.2.1 M_X_isCapital.2.2.2.1 ∈ mm_all := mm_w3 (i := 72) rfl rfl
theorem wi_X_isCapital : Cond.initialized M_X_isCapital.1.cls ∈ mm_all := mm_w1 (i := 15) rfl rfl
theorem wt_X_isCapital : Cond.static M_X_isCapital.1 ∈ mm_all := mm_w3 (i := 71) rfl rfl
theorem wc_ST_substring_I : Cond.code M_ST_substring_I.1 M_ST_substring_I.2.1 M_ST_substring_I.2.2.1 M_ST_substring_I.2.2.2.1 ∈ mm_all := mm_w3 (i := 76) rfl rfl
theorem wi_ST_substring_I : Cond.initialized M_ST_substring_I.1.cls ∈ mm_all := mm_w1 (i := 6) rfl rfl
theorem wm_ST_substring_I : Cond.instanceMethod M_ST_substring_I.1 ∈ mm_all := mm_w3 (i := 74) rfl rfl
theorem wc_ST_substring_II : Cond.code M_ST_substring_II.1 M_ST_substring_II.2.1 M_ST_substring_II.2.2.1 M_ST_substring_II.2.2.2.1 ∈ mm_all := mm_w3 (i := 80) rfl rfl
theorem wi_ST_substring_II : Cond.initialized M_ST_substring_II.1.cls ∈ mm_all := mm_w1 (i := 6) rfl rfl
theorem wm_ST_substring_II : Cond.instanceMethod M_ST_substring_II.1 ∈ mm_all := mm_w3 (i := 78) rfl rfl
theorem wc_L1_newString : Cond.code M_L1_newString.1 M_L1_newString.2.1 M_L1_newString.2.2.1 M_L1_newString.2.2.2.1 ∈ mm_all := mm_w3 (i := 84) rfl rfl
theorem wi_L1_newString : Cond.initialized M_L1_newString.1.cls ∈ mm_all := mm_w1 (i := 20) rfl rfl
theorem wt_L1_newString : Cond.static M_L1_newString.1 ∈ mm_all := mm_w3 (i := 83) rfl rfl
theorem wc_ST_init_aBB : Cond.code M_ST_init_aBB.1 M_ST_init_aBB.2.1 M_ST_init_aBB.2.2.1 M_ST_init_aBB.2.2.2.1 ∈ mm_all := mm_w3 (i := 90) rfl rfl
theorem wi_ST_init_aBB : Cond.initialized M_ST_init_aBB.1.cls ∈ mm_all := mm_w1 (i := 6) rfl rfl
theorem wm_ST_init_aBB : Cond.instanceMethod M_ST_init_aBB.1 ∈ mm_all := mm_w3 (i := 89) rfl rfl
theorem wc_U6_newString : Cond.code M_U6_newString.1 M_U6_newString.2.1 M_U6_newString.2.2.1 M_U6_newString.2.2.2.1 ∈ mm_all := mm_w3 (i := 93) rfl rfl
theorem wi_U6_newString : Cond.initialized M_U6_newString.1.cls ∈ mm_all := mm_w1 (i := 7) rfl rfl
theorem wt_U6_newString : Cond.static M_U6_newString.1 ∈ mm_all := mm_w3 (i := 92) rfl rfl
theorem wc_ST_equals : Cond.code M_ST_equals.1 M_ST_equals.2.1 M_ST_equals.2.2.1 M_ST_equals.2.2.2.1 ∈ mm_all := mm_w3 (i := 103) rfl rfl
theorem wi_ST_equals : Cond.initialized M_ST_equals.1.cls ∈ mm_all := mm_w1 (i := 6) rfl rfl
theorem wm_ST_equals : Cond.instanceMethod M_ST_equals.1 ∈ mm_all := mm_w3 (i := 101) rfl rfl
theorem wc_L1_equals : Cond.code M_L1_equals.1 M_L1_equals.2.1 M_L1_equals.2.2.1 M_L1_equals.2.2.2.1 ∈ mm_all := mm_w3 (i := 107) rfl rfl
theorem wi_L1_equals : Cond.initialized M_L1_equals.1.cls ∈ mm_all := mm_w1 (i := 20) rfl rfl
theorem wt_L1_equals : Cond.static M_L1_equals.1 ∈ mm_all := mm_w3 (i := 106) rfl rfl
theorem wc_ST_isEmpty : Cond.code M_ST_isEmpty.1 M_ST_isEmpty.2.1 M_ST_isEmpty.2.2.1 M_ST_isEmpty.2.2.2.1 ∈ mm_all := mm_w3 (i := 112) rfl rfl
theorem wi_ST_isEmpty : Cond.initialized M_ST_isEmpty.1.cls ∈ mm_all := mm_w1 (i := 6) rfl rfl
theorem wm_ST_isEmpty : Cond.instanceMethod M_ST_isEmpty.1 ∈ mm_all := mm_w3 (i := 110) rfl rfl
theorem wc_Q_hasGoodCodes : Cond.code M_Q_hasGoodCodes.1 M_Q_hasGoodCodes.2.1 M_Q_hasGoodCodes.2.2.1 M_Q_hasGoodCodes.2.2.2.1 ∈ mm_all := mm_w3 (i := 115) rfl rfl
theorem wi_Q_hasGoodCodes : Cond.initialized M_Q_hasGoodCodes.1.cls ∈ mm_all := mm_w1 (i := 8) rfl rfl
theorem wt_Q_hasGoodCodes : Cond.static M_Q_hasGoodCodes.1 ∈ mm_all := mm_w3 (i := 114) rfl rfl
theorem wc_Q_codeAt : Cond.code M_Q_codeAt.1 M_Q_codeAt.2.1 M_Q_codeAt.2.2.1 M_Q_codeAt.2.2.2.1 ∈ mm_all := mm_w3 (i := 118) rfl rfl
theorem wi_Q_codeAt : Cond.initialized M_Q_codeAt.1.cls ∈ mm_all := mm_w1 (i := 8) rfl rfl
theorem wt_Q_codeAt : Cond.static M_Q_codeAt.1 ∈ mm_all := mm_w3 (i := 117) rfl rfl
theorem wc_X_hexDigit : Cond.code M_X_hexDigit.1 M_X_hexDigit.2.1 M_X_hexDigit.2.2.1 M_X_hexDigit.2.2.2.1 ∈ mm_all := mm_w3 (i := 121) rfl rfl
theorem wi_X_hexDigit : Cond.initialized M_X_hexDigit.1.cls ∈ mm_all := mm_w1 (i := 15) rfl rfl
theorem wt_X_hexDigit : Cond.static M_X_hexDigit.1 ∈ mm_all := mm_w3 (i := 120) rfl rfl
theorem wc_Q_decode : Cond.code M_Q_decode.1 M_Q_decode.2.1 M_Q_decode.2.2.1 M_Q_decode.2.2.2.1 ∈ mm_all := mm_w3 (i := 129) rfl rfl
theorem wi_Q_decode : Cond.initialized M_Q_decode.1.cls ∈ mm_all := mm_w1 (i := 8) rfl rfl
theorem wm_Q_decode : Cond.instanceMethod M_Q_decode.1 ∈ mm_all := mm_w3 (i := 128) rfl rfl
theorem wc_Q_readParameters : Cond.code M_Q_readParameters.1 M_Q_readParameters.2.1 M_Q_readParameters.2.2.1 M_Q_readParameters.2.2.2.1 ∈ mm_all := mm_w3 (i := 136) rfl rfl
theorem wi_Q_readParameters : Cond.initialized M_Q_readParameters.1.cls ∈ mm_all := mm_w1 (i := 8) rfl rfl
theorem wm_Q_readParameters : Cond.instanceMethod M_Q_readParameters.1 ∈ mm_all := mm_w3 (i := 135) rfl rfl
theorem wc_AL_size : Cond.code M_AL_size.1 M_AL_size.2.1 M_AL_size.2.2.1 M_AL_size.2.2.2.1 ∈ mm_all := mm_w3 (i := 140) rfl rfl
theorem wi_AL_size : Cond.initialized M_AL_size.1.cls ∈ mm_all := mm_w1 (i := 12) rfl rfl
theorem wm_AL_size : Cond.instanceMethod M_AL_size.1 ∈ mm_all := mm_w3 (i := 138) rfl rfl
theorem wc_AL_add_O : Cond.code M_AL_add_O.1 M_AL_add_O.2.1 M_AL_add_O.2.2.1 M_AL_add_O.2.2.2.1 ∈ mm_all := mm_w3 (i := 144) rfl rfl
theorem wi_AL_add_O : Cond.initialized M_AL_add_O.1.cls ∈ mm_all := mm_w1 (i := 12) rfl rfl
theorem wm_AL_add_O : Cond.instanceMethod M_AL_add_O.1 ∈ mm_all := mm_w3 (i := 142) rfl rfl
theorem wc_AL_add_OaOI : Cond.code M_AL_add_OaOI.1 M_AL_add_OaOI.2.1 M_AL_add_OaOI.2.2.1 M_AL_add_OaOI.2.2.2.1 ∈ mm_all := mm_w3 (i := 148) rfl rfl
theorem wi_AL_add_OaOI : Cond.initialized M_AL_add_OaOI.1.cls ∈ mm_all := mm_w1 (i := 12) rfl rfl
theorem wm_AL_add_OaOI : Cond.instanceMethod M_AL_add_OaOI.1 ∈ mm_all := mm_w3 (i := 147) rfl rfl
theorem wc_AL_grow_ : Cond.code M_AL_grow_.1 M_AL_grow_.2.1 M_AL_grow_.2.2.1 M_AL_grow_.2.2.2.1 ∈ mm_all := mm_w3 (i := 152) rfl rfl
theorem wi_AL_grow_ : Cond.initialized M_AL_grow_.1.cls ∈ mm_all := mm_w1 (i := 12) rfl rfl
theorem wm_AL_grow_ : Cond.instanceMethod M_AL_grow_.1 ∈ mm_all := mm_w3 (i := 151) rfl rfl
theorem wc_AL_grow_I : Cond.code M_AL_grow_I.1 M_AL_grow_I.2.1 M_AL_grow_I.2.2.1 M_AL_grow_I.2.2.2.1 ∈ mm_all := mm_w3 (i := 156) rfl rfl
theorem wi_AL_grow_I : Cond.initialized M_AL_grow_I.1.cls ∈ mm_all := mm_w1 (i := 12) rfl rfl
theorem wm_AL_grow_I : Cond.instanceMethod M_AL_grow_I.1 ∈ mm_all := mm_w3 (i := 155) rfl rfl
theorem wc_AR_copyOf_aOI : Cond.code M_AR_copyOf_aOI.1 M_AR_copyOf_aOI.2.1 M_AR_copyOf_aOI.2.2.1 M_AR_copyOf_aOI.2.2.2.1 ∈ mm_all := mm_w3 (i := 160) rfl rfl
theorem wi_AR_copyOf_aOI : Cond.initialized M_AR_copyOf_aOI.1.cls ∈ mm_all := mm_w1 (i := 18) rfl rfl
theorem wt_AR_copyOf_aOI : Cond.static M_AR_copyOf_aOI.1 ∈ mm_all := mm_w3 (i := 159) rfl rfl
theorem wc_AR_copyOf_aOIC : Cond.code M_AR_copyOf_aOIC.1 M_AR_copyOf_aOIC.2.1 M_AR_copyOf_aOIC.2.2.1 M_AR_copyOf_aOIC.2.2.2.1 ∈ mm_all := mm_w3 (i := 182) rfl rfl
theorem wi_AR_copyOf_aOIC : Cond.initialized M_AR_copyOf_aOIC.1.cls ∈ mm_all := mm_w1 (i := 18) rfl rfl
theorem wt_AR_copyOf_aOIC : Cond.static M_AR_copyOf_aOIC.1 ∈ mm_all := mm_w3 (i := 181) rfl rfl
theorem wc_R_takeInHeaders : Cond.code M_R_takeInHeaders.1 M_R_takeInHeaders.2.1 M_R_takeInHeaders.2.2.1 M_R_takeInHeaders.2.2.2.1 ∈ mm_all := mm_w3 (i := 191) rfl rfl
theorem wi_R_takeInHeaders : Cond.initialized M_R_takeInHeaders.1.cls ∈ mm_all := mm_w1 (i := 3) rfl rfl
theorem wm_R_takeInHeaders : Cond.instanceMethod M_R_takeInHeaders.1 ∈ mm_all := mm_w3 (i := 190) rfl rfl
theorem wc_R_endHeaders : Cond.code M_R_endHeaders.1 M_R_endHeaders.2.1 M_R_endHeaders.2.2.1 M_R_endHeaders.2.2.2.1 ∈ mm_all := mm_w3 (i := 196) rfl rfl
theorem wi_R_endHeaders : Cond.initialized M_R_endHeaders.1.cls ∈ mm_all := mm_w1 (i := 3) rfl rfl
theorem wm_R_endHeaders : Cond.instanceMethod M_R_endHeaders.1 ∈ mm_all := mm_w3 (i := 195) rfl rfl
theorem wc_R_headerOf : Cond.code M_R_headerOf.1 M_R_headerOf.2.1 M_R_headerOf.2.2.1 M_R_headerOf.2.2.2.1 ∈ mm_all := mm_w3 (i := 200) rfl rfl
theorem wi_R_headerOf : Cond.initialized M_R_headerOf.1.cls ∈ mm_all := mm_w1 (i := 3) rfl rfl
theorem wt_R_headerOf : Cond.static M_R_headerOf.1 ∈ mm_all := mm_w3 (i := 199) rfl rfl
theorem wc_X_isSmall : Cond.code M_X_isSmall.1 M_X_isSmall.2.1 M_X_isSmall.2.2.1 M_X_isSmall.2.2.2.1 ∈ mm_all := mm_w3 (i := 206) rfl rfl
theorem wi_X_isSmall : Cond.initialized M_X_isSmall.1.cls ∈ mm_all := mm_w1 (i := 15) rfl rfl
theorem wt_X_isSmall : Cond.static M_X_isSmall.1 ∈ mm_all := mm_w3 (i := 205) rfl rfl
theorem wc_X_small : Cond.code M_X_small.1 M_X_small.2.1 M_X_small.2.2.1 M_X_small.2.2.2.1 ∈ mm_all := mm_w3 (i := 211) rfl rfl
theorem wi_X_small : Cond.initialized M_X_small.1.cls ∈ mm_all := mm_w1 (i := 15) rfl rfl
theorem wt_X_small : Cond.static M_X_small.1 ∈ mm_all := mm_w3 (i := 210) rfl rfl
theorem wc_ST_toCharArray : Cond.code M_ST_toCharArray.1 M_ST_toCharArray.2.1 M_ST_toCharArray.2.2.1 M_ST_toCharArray.2.2.2.1 ∈ mm_all := mm_w3 (i := 215) rfl rfl
theorem wi_ST_toCharArray : Cond.initialized M_ST_toCharArray.1.cls ∈ mm_all := mm_w1 (i := 6) rfl rfl
theorem wm_ST_toCharArray : Cond.instanceMethod M_ST_toCharArray.1 ∈ mm_all := mm_w3 (i := 213) rfl rfl
theorem wc_L1_toChars : Cond.code M_L1_toChars.1 M_L1_toChars.2.1 M_L1_toChars.2.2.1 M_L1_toChars.2.2.2.1 ∈ mm_all := mm_w3 (i := 218) rfl rfl
theorem wi_L1_toChars : Cond.initialized M_L1_toChars.1.cls ∈ mm_all := mm_w1 (i := 20) rfl rfl
theorem wt_L1_toChars : Cond.static M_L1_toChars.1 ∈ mm_all := mm_w3 (i := 217) rfl rfl
theorem wc_L1_inflate_aBIaCII : Cond.code M_L1_inflate_aBIaCII.1 M_L1_inflate_aBIaCII.2.1 M_L1_inflate_aBIaCII.2.2.1 M_L1_inflate_aBIaCII.2.2.2.1 ∈ mm_all := mm_w3 (i := 221) rfl rfl
theorem wi_L1_inflate_aBIaCII : Cond.initialized M_L1_inflate_aBIaCII.1.cls ∈ mm_all := mm_w1 (i := 20) rfl rfl
theorem wt_L1_inflate_aBIaCII : Cond.static M_L1_inflate_aBIaCII.1 ∈ mm_all := mm_w3 (i := 220) rfl rfl
theorem wc_U6_toChars : Cond.code M_U6_toChars.1 M_U6_toChars.2.1 M_U6_toChars.2.2.1 M_U6_toChars.2.2.2.1 ∈ mm_all := mm_w3 (i := 224) rfl rfl
theorem wi_U6_toChars : Cond.initialized M_U6_toChars.1.cls ∈ mm_all := mm_w1 (i := 7) rfl rfl
theorem wt_U6_toChars : Cond.static M_U6_toChars.1 ∈ mm_all := mm_w3 (i := 223) rfl rfl
theorem wc_U6_getChars_aBIIaCI : Cond.code M_U6_getChars_aBIIaCI.1 M_U6_getChars_aBIIaCI.2.1 M_U6_getChars_aBIIaCI.2.2.1 M_U6_getChars_aBIIaCI.2.2.2.1 ∈ mm_all := mm_w3 (i := 227) rfl rfl
theorem wi_U6_getChars_aBIIaCI : Cond.initialized M_U6_getChars_aBIIaCI.1.cls ∈ mm_all := mm_w1 (i := 7) rfl rfl
theorem wt_U6_getChars_aBIIaCI : Cond.static M_U6_getChars_aBIIaCI.1 ∈ mm_all := mm_w3 (i := 226) rfl rfl
theorem wc_ST_init_aC : Cond.code M_ST_init_aC.1 M_ST_init_aC.2.1 M_ST_init_aC.2.2.1 M_ST_init_aC.2.2.2.1 ∈ mm_all := mm_w3 (i := 232) rfl rfl
theorem wi_ST_init_aC : Cond.initialized M_ST_init_aC.1.cls ∈ mm_all := mm_w1 (i := 6) rfl rfl
theorem wm_ST_init_aC : Cond.instanceMethod M_ST_init_aC.1 ∈ mm_all := mm_w3 (i := 231) rfl rfl
theorem wc_ST_init_aCIIV : Cond.code M_ST_init_aCIIV.1 M_ST_init_aCIIV.2.1 M_ST_init_aCIIV.2.2.1 M_ST_init_aCIIV.2.2.2.1 ∈ mm_all := mm_w3 (i := 235) rfl rfl
theorem wi_ST_init_aCIIV : Cond.initialized M_ST_init_aCIIV.1.cls ∈ mm_all := mm_w1 (i := 6) rfl rfl
theorem wm_ST_init_aCIIV : Cond.instanceMethod M_ST_init_aCIIV.1 ∈ mm_all := mm_w3 (i := 234) rfl rfl
theorem wc_U6_compress_aCII : Cond.code M_U6_compress_aCII.1 M_U6_compress_aCII.2.1 M_U6_compress_aCII.2.2.1 M_U6_compress_aCII.2.2.2.1 ∈ mm_all := mm_w3 (i := 239) rfl rfl
theorem wi_U6_compress_aCII : Cond.initialized M_U6_compress_aCII.1.cls ∈ mm_all := mm_w1 (i := 7) rfl rfl
theorem wt_U6_compress_aCII : Cond.static M_U6_compress_aCII.1 ∈ mm_all := mm_w3 (i := 238) rfl rfl
theorem wc_U6_compress_aCIaBII : Cond.code M_U6_compress_aCIaBII.1 M_U6_compress_aCIaBII.2.1 M_U6_compress_aCIaBII.2.2.1 M_U6_compress_aCIaBII.2.2.2.1 ∈ mm_all := mm_w4 (i := 2) rfl rfl
theorem wi_U6_compress_aCIaBII : Cond.initialized M_U6_compress_aCIaBII.1.cls ∈ mm_all := mm_w1 (i := 7) rfl rfl
theorem wt_U6_compress_aCIaBII : Cond.static M_U6_compress_aCIaBII.1 ∈ mm_all := mm_w4 (i := 1) rfl rfl
theorem wc_U6_toBytes : Cond.code M_U6_toBytes.1 M_U6_toBytes.2.1 M_U6_toBytes.2.2.1 M_U6_toBytes.2.2.2.1 ∈ mm_all := mm_w4 (i := 5) rfl rfl
theorem wi_U6_toBytes : Cond.initialized M_U6_toBytes.1.cls ∈ mm_all := mm_w1 (i := 7) rfl rfl
theorem wt_U6_toBytes : Cond.static M_U6_toBytes.1 ∈ mm_all := mm_w4 (i := 4) rfl rfl
theorem wc_X_trimmed : Cond.code M_X_trimmed.1 M_X_trimmed.2.1 M_X_trimmed.2.2.1 M_X_trimmed.2.2.2.1 ∈ mm_all := mm_w4 (i := 10) rfl rfl
theorem wi_X_trimmed : Cond.initialized M_X_trimmed.1.cls ∈ mm_all := mm_w1 (i := 15) rfl rfl
theorem wt_X_trimmed : Cond.static M_X_trimmed.1 ∈ mm_all := mm_w4 (i := 9) rfl rfl
theorem wc_R_lookForSize : Cond.code M_R_lookForSize.1 M_R_lookForSize.2.1 M_R_lookForSize.2.2.1 M_R_lookForSize.2.2.2.1 ∈ mm_all := mm_w4 (i := 19) rfl rfl
theorem wi_R_lookForSize : Cond.initialized M_R_lookForSize.1.cls ∈ mm_all := mm_w1 (i := 3) rfl rfl
theorem wm_R_lookForSize : Cond.instanceMethod M_R_lookForSize.1 ∈ mm_all := mm_w4 (i := 18) rfl rfl
theorem wc_R_readLength : Cond.code M_R_readLength.1 M_R_readLength.2.1 M_R_readLength.2.2.1 M_R_readLength.2.2.2.1 ∈ mm_all := mm_w4 (i := 26) rfl rfl
theorem wi_R_readLength : Cond.initialized M_R_readLength.1.cls ∈ mm_all := mm_w1 (i := 3) rfl rfl
theorem wm_R_readLength : Cond.instanceMethod M_R_readLength.1 ∈ mm_all := mm_w4 (i := 25) rfl rfl
theorem wc_X_isDigit : Cond.code M_X_isDigit.1 M_X_isDigit.2.1 M_X_isDigit.2.2.1 M_X_isDigit.2.2.2.1 ∈ mm_all := mm_w4 (i := 30) rfl rfl
theorem wi_X_isDigit : Cond.initialized M_X_isDigit.1.cls ∈ mm_all := mm_w1 (i := 15) rfl rfl
theorem wt_X_isDigit : Cond.static M_X_isDigit.1 ∈ mm_all := mm_w4 (i := 29) rfl rfl
theorem wc_R_takeInBody : Cond.code M_R_takeInBody.1 M_R_takeInBody.2.1 M_R_takeInBody.2.2.1 M_R_takeInBody.2.2.2.1 ∈ mm_all := mm_w4 (i := 35) rfl rfl
theorem wi_R_takeInBody : Cond.initialized M_R_takeInBody.1.cls ∈ mm_all := mm_w1 (i := 3) rfl rfl
theorem wm_R_takeInBody : Cond.instanceMethod M_R_takeInBody.1 ∈ mm_all := mm_w4 (i := 34) rfl rfl
theorem wc_R_takeInChunkSize : Cond.code M_R_takeInChunkSize.1 M_R_takeInChunkSize.2.1 M_R_takeInChunkSize.2.2.1 M_R_takeInChunkSize.2.2.2.1 ∈ mm_all := mm_w4 (i := 39) rfl rfl
theorem wi_R_takeInChunkSize : Cond.initialized M_R_takeInChunkSize.1.cls ∈ mm_all := mm_w1 (i := 3) rfl rfl
theorem wm_R_takeInChunkSize : Cond.instanceMethod M_R_takeInChunkSize.1 ∈ mm_all := mm_w4 (i := 38) rfl rfl
theorem wc_R_endChunkSize : Cond.code M_R_endChunkSize.1 M_R_endChunkSize.2.1 M_R_endChunkSize.2.2.1 M_R_endChunkSize.2.2.2.1 ∈ mm_all := mm_w4 (i := 43) rfl rfl
theorem wi_R_endChunkSize : Cond.initialized M_R_endChunkSize.1.cls ∈ mm_all := mm_w1 (i := 3) rfl rfl
theorem wm_R_endChunkSize : Cond.instanceMethod M_R_endChunkSize.1 ∈ mm_all := mm_w4 (i := 42) rfl rfl
theorem wc_R_takeInChunk : Cond.code M_R_takeInChunk.1 M_R_takeInChunk.2.1 M_R_takeInChunk.2.2.1 M_R_takeInChunk.2.2.2.1 ∈ mm_all := mm_w4 (i := 48) rfl rfl
theorem wi_R_takeInChunk : Cond.initialized M_R_takeInChunk.1.cls ∈ mm_all := mm_w1 (i := 3) rfl rfl
theorem wm_R_takeInChunk : Cond.instanceMethod M_R_takeInChunk.1 ∈ mm_all := mm_w4 (i := 47) rfl rfl
theorem wc_R_takeInChunkEnd : Cond.code M_R_takeInChunkEnd.1 M_R_takeInChunkEnd.2.1 M_R_takeInChunkEnd.2.2.1 M_R_takeInChunkEnd.2.2.2.1 ∈ mm_all := mm_w4 (i := 52) rfl rfl
theorem wi_R_takeInChunkEnd : Cond.initialized M_R_takeInChunkEnd.1.cls ∈ mm_all := mm_w1 (i := 3) rfl rfl
theorem wm_R_takeInChunkEnd : Cond.instanceMethod M_R_takeInChunkEnd.1 ∈ mm_all := mm_w4 (i := 51) rfl rfl
theorem wc_S_serve : Cond.code M_S_serve.1 M_S_serve.2.1 M_S_serve.2.2.1 M_S_serve.2.2.2.1 ∈ mm_all := mm_w4 (i := 56) rfl rfl
theorem wi_S_serve : Cond.initialized M_S_serve.1.cls ∈ mm_all := mm_w1 (i := 1) rfl rfl
theorem wm_S_serve : Cond.instanceMethod M_S_serve.1 ∈ mm_all := mm_w4 (i := 55) rfl rfl
theorem wc_R_handOver : Cond.code M_R_handOver.1 M_R_handOver.2.1 M_R_handOver.2.2.1 M_R_handOver.2.2.2.1 ∈ mm_all := mm_w4 (i := 60) rfl rfl
theorem wi_R_handOver : Cond.initialized M_R_handOver.1.cls ∈ mm_all := mm_w1 (i := 3) rfl rfl
theorem wm_R_handOver : Cond.instanceMethod M_R_handOver.1 ∈ mm_all := mm_w4 (i := 58) rfl rfl
theorem wc_R_begin : Cond.code M_R_begin.1 M_R_begin.2.1 M_R_begin.2.2.1 M_R_begin.2.2.2.1 ∈ mm_all := mm_w4 (i := 65) rfl rfl
theorem wi_R_begin : Cond.initialized M_R_begin.1.cls ∈ mm_all := mm_w1 (i := 3) rfl rfl
theorem wm_R_begin : Cond.instanceMethod M_R_begin.1 ∈ mm_all := mm_w4 (i := 63) rfl rfl
theorem wc_S_nearest : Cond.code M_S_nearest.1 M_S_nearest.2.1 M_S_nearest.2.2.1 M_S_nearest.2.2.2.1 ∈ mm_all := mm_w4 (i := 69) rfl rfl
theorem wi_S_nearest : Cond.initialized M_S_nearest.1.cls ∈ mm_all := mm_w1 (i := 1) rfl rfl
theorem wm_S_nearest : Cond.instanceMethod M_S_nearest.1 ∈ mm_all := mm_w4 (i := 68) rfl rfl
theorem wc_AL_get : Cond.code M_AL_get.1 M_AL_get.2.1 M_AL_get.2.2.1 M_AL_get.2.2.2.1 ∈ mm_all := mm_w4 (i := 74) rfl rfl
theorem wi_AL_get : Cond.initialized M_AL_get.1.cls ∈ mm_all := mm_w1 (i := 12) rfl rfl
theorem wm_AL_get : Cond.instanceMethod M_AL_get.1 ∈ mm_all := mm_w4 (i := 72) rfl rfl
theorem wc_OS_checkIndex : Cond.code M_OS_checkIndex.1 M_OS_checkIndex.2.1 M_OS_checkIndex.2.2.1 M_OS_checkIndex.2.2.2.1 ∈ mm_all := mm_w4 (i := 77) rfl rfl
theorem wi_OS_checkIndex : Cond.initialized M_OS_checkIndex.1.cls ∈ mm_all := mm_w1 (i := 23) rfl rfl
theorem wt_OS_checkIndex : Cond.static M_OS_checkIndex.1 ∈ mm_all := mm_w4 (i := 76) rfl rfl
theorem wc_AL_elementData : Cond.code M_AL_elementData.1 M_AL_elementData.2.1 M_AL_elementData.2.2.1 M_AL_elementData.2.2.2.1 ∈ mm_all := mm_w4 (i := 82) rfl rfl
theorem wi_AL_elementData : Cond.initialized M_AL_elementData.1.cls ∈ mm_all := mm_w1 (i := 12) rfl rfl
theorem wm_AL_elementData : Cond.instanceMethod M_AL_elementData.1 ∈ mm_all := mm_w4 (i := 80) rfl rfl
theorem wc_S_conditionsMissed : Cond.code M_S_conditionsMissed.1 M_S_conditionsMissed.2.1 M_S_conditionsMissed.2.2.1 M_S_conditionsMissed.2.2.2.1 ∈ mm_all := mm_w4 (i := 87) rfl rfl
theorem wi_S_conditionsMissed : Cond.initialized M_S_conditionsMissed.1.cls ∈ mm_all := mm_w1 (i := 1) rfl rfl
theorem wm_S_conditionsMissed : Cond.instanceMethod M_S_conditionsMissed.1 ∈ mm_all := mm_w4 (i := 86) rfl rfl
theorem wc_H_holds : Cond.code M_H_holds.1 M_H_holds.2.1 M_H_holds.2.2.1 M_H_holds.2.2.2.1 ∈ mm_all := mm_w4 (i := 92) rfl rfl
theorem wi_H_holds : Cond.initialized M_H_holds.1.cls ∈ mm_all := mm_w1 (i := 26) rfl rfl
theorem wm_H_holds : Cond.instanceMethod M_H_holds.1 ∈ mm_all := mm_w4 (i := 90) rfl rfl
theorem wc_E_find : Cond.code M_E_find.1 M_E_find.2.1 M_E_find.2.2.1 M_E_find.2.2.2.1 ∈ mm_all := mm_w4 (i := 96) rfl rfl
theorem wi_E_find : Cond.initialized M_E_find.1.cls ∈ mm_all := mm_w1 (i := 9) rfl rfl
theorem wm_E_find : Cond.instanceMethod M_E_find.1 ∈ mm_all := mm_w4 (i := 94) rfl rfl
theorem wc_E_firstOf : Cond.code M_E_firstOf.1 M_E_firstOf.2.1 M_E_firstOf.2.2.1 M_E_firstOf.2.2.2.1 ∈ mm_all := mm_w4 (i := 99) rfl rfl
theorem wi_E_firstOf : Cond.initialized M_E_firstOf.1.cls ∈ mm_all := mm_w1 (i := 9) rfl rfl
theorem wt_E_firstOf : Cond.static M_E_firstOf.1 ∈ mm_all := mm_w4 (i := 98) rfl rfl
theorem wc_X_contains : Cond.code M_X_contains.1 M_X_contains.2.1 M_X_contains.2.2.1 M_X_contains.2.2.2.1 ∈ mm_all := mm_w4 (i := 106) rfl rfl
theorem wi_X_contains : Cond.initialized M_X_contains.1.cls ∈ mm_all := mm_w1 (i := 15) rfl rfl
theorem wt_X_contains : Cond.static M_X_contains.1 ∈ mm_all := mm_w4 (i := 105) rfl rfl
theorem wc_N_fits : Cond.code M_N_fits.1 M_N_fits.2.1 M_N_fits.2.2.1 M_N_fits.2.2.2.1 ∈ mm_all := mm_w4 (i := 110) rfl rfl
theorem wi_N_fits : Cond.initialized M_N_fits.1.cls ∈ mm_all := mm_w1 (i := 27) rfl rfl
theorem wm_N_fits : Cond.instanceMethod M_N_fits.1 ∈ mm_all := mm_w4 (i := 108) rfl rfl
theorem wc_N_withLeft : Cond.code M_N_withLeft.1 M_N_withLeft.2.1 M_N_withLeft.2.2.1 M_N_withLeft.2.2.2.1 ∈ mm_all := mm_w4 (i := 115) rfl rfl
theorem wi_N_withLeft : Cond.initialized M_N_withLeft.1.cls ∈ mm_all := mm_w1 (i := 27) rfl rfl
theorem wm_N_withLeft : Cond.instanceMethod M_N_withLeft.1 ∈ mm_all := mm_w4 (i := 113) rfl rfl
theorem wc_N_placesAllowing : Cond.code M_N_placesAllowing.1 M_N_placesAllowing.2.1 M_N_placesAllowing.2.2.1 M_N_placesAllowing.2.2.2.1 ∈ mm_all := mm_w4 (i := 121) rfl rfl
theorem wi_N_placesAllowing : Cond.initialized M_N_placesAllowing.1.cls ∈ mm_all := mm_w1 (i := 27) rfl rfl
theorem wm_N_placesAllowing : Cond.instanceMethod M_N_placesAllowing.1 ∈ mm_all := mm_w4 (i := 120) rfl rfl
theorem wc_C_respond : Cond.code M_C_respond.1 M_C_respond.2.1 M_C_respond.2.2.1 M_C_respond.2.2.2.1 ∈ mm_all := mm_w4 (i := 127) rfl rfl
theorem wi_C_respond : Cond.initialized M_C_respond.1.cls ∈ mm_all := mm_w1 (i := 2) rfl rfl
theorem wm_C_respond : Cond.instanceMethod M_C_respond.1 ∈ mm_all := mm_w4 (i := 125) rfl rfl
theorem wc_SB_append_I : Cond.code M_SB_append_I.1 M_SB_append_I.2.1 M_SB_append_I.2.2.1 M_SB_append_I.2.2.2.1 ∈ mm_all := mm_w4 (i := 132) rfl rfl
theorem wi_SB_append_I : Cond.initialized M_SB_append_I.1.cls ∈ mm_all := mm_w1 (i := 5) rfl rfl
theorem wm_SB_append_I : Cond.instanceMethod M_SB_append_I.1 ∈ mm_all := mm_w4 (i := 130) rfl rfl
theorem wc_AB_append_I : Cond.code M_AB_append_I.1 M_AB_append_I.2.1 M_AB_append_I.2.2.1 M_AB_append_I.2.2.2.1 ∈ mm_all := mm_w4 (i := 135) rfl rfl
theorem wi_AB_append_I : Cond.initialized M_AB_append_I.1.cls ∈ mm_all := mm_w1 (i := 4) rfl rfl
theorem wm_AB_append_I : Cond.instanceMethod M_AB_append_I.1 ∈ mm_all := mm_w4 (i := 134) rfl rfl
theorem wc_IN_stringSize : Cond.code M_IN_stringSize.1 M_IN_stringSize.2.1 M_IN_stringSize.2.2.1 M_IN_stringSize.2.2.2.1 ∈ mm_all := mm_w4 (i := 138) rfl rfl
theorem wi_IN_stringSize : Cond.initialized M_IN_stringSize.1.cls ∈ mm_all := mm_w1 (i := 24) rfl rfl
theorem wt_IN_stringSize : Cond.static M_IN_stringSize.1 ∈ mm_all := mm_w4 (i := 137) rfl rfl
theorem wc_IN_getChars : Cond.code M_IN_getChars.1 M_IN_getChars.2.1 M_IN_getChars.2.2.1 M_IN_getChars.2.2.2.1 ∈ mm_all := mm_w4 (i := 141) rfl rfl
theorem wi_IN_getChars : Cond.initialized M_IN_getChars.1.cls ∈ mm_all := mm_w1 (i := 24) rfl rfl
theorem wt_IN_getChars : Cond.static M_IN_getChars.1 ∈ mm_all := mm_w4 (i := 140) rfl rfl
theorem wc_U6_getChars_IIIaB : Cond.code M_U6_getChars_IIIaB.1 M_U6_getChars_IIIaB.2.1 M_U6_getChars_IIIaB.2.2.1 M_U6_getChars_IIIaB.2.2.2.1 ∈ mm_all := mm_w4 (i := 148) rfl rfl
theorem wi_U6_getChars_IIIaB : Cond.initialized M_U6_getChars_IIIaB.1.cls ∈ mm_all := mm_w1 (i := 7) rfl rfl
theorem wt_U6_getChars_IIIaB : Cond.static M_U6_getChars_IIIaB.1 ∈ mm_all := mm_w4 (i := 147) rfl rfl
theorem wc_U6_getChars_IIaB : Cond.code M_U6_getChars_IIaB.1 M_U6_getChars_IIaB.2.1 M_U6_getChars_IIaB.2.2.1 M_U6_getChars_IIaB.2.2.2.1 ∈ mm_all := mm_w4 (i := 151) rfl rfl
theorem wi_U6_getChars_IIaB : Cond.initialized M_U6_getChars_IIaB.1.cls ∈ mm_all := mm_w1 (i := 7) rfl rfl
theorem wt_U6_getChars_IIaB : Cond.static M_U6_getChars_IIaB.1 ∈ mm_all := mm_w4 (i := 150) rfl rfl
theorem wc_SB_append_S : Cond.code M_SB_append_S.1 M_SB_append_S.2.1 M_SB_append_S.2.2.1 M_SB_append_S.2.2.2.1 ∈ mm_all := mm_w4 (i := 159) rfl rfl
theorem wi_SB_append_S : Cond.initialized M_SB_append_S.1.cls ∈ mm_all := mm_w1 (i := 5) rfl rfl
theorem wm_SB_append_S : Cond.instanceMethod M_SB_append_S.1 ∈ mm_all := mm_w4 (i := 157) rfl rfl
theorem wc_AB_append_S : Cond.code M_AB_append_S.1 M_AB_append_S.2.1 M_AB_append_S.2.2.1 M_AB_append_S.2.2.2.1 ∈ mm_all := mm_w4 (i := 162) rfl rfl
theorem wi_AB_append_S : Cond.initialized M_AB_append_S.1.cls ∈ mm_all := mm_w1 (i := 4) rfl rfl
theorem wm_AB_append_S : Cond.instanceMethod M_AB_append_S.1 ∈ mm_all := mm_w4 (i := 161) rfl rfl
theorem wc_AB_appendNull : Cond.code M_AB_appendNull.1 M_AB_appendNull.2.1 M_AB_appendNull.2.2.1 M_AB_appendNull.2.2.2.1 ∈ mm_all := mm_w4 (i := 166) rfl rfl
theorem wi_AB_appendNull : Cond.initialized M_AB_appendNull.1.cls ∈ mm_all := mm_w1 (i := 4) rfl rfl
theorem wm_AB_appendNull : Cond.instanceMethod M_AB_appendNull.1 ∈ mm_all := mm_w4 (i := 165) rfl rfl
theorem wc_U6_putCharsAt : Cond.code M_U6_putCharsAt.1 M_U6_putCharsAt.2.1 M_U6_putCharsAt.2.2.1 M_U6_putCharsAt.2.2.2.1 ∈ mm_all := mm_w4 (i := 169) rfl rfl
theorem wi_U6_putCharsAt : Cond.initialized M_U6_putCharsAt.1.cls ∈ mm_all := mm_w1 (i := 7) rfl rfl
theorem wt_U6_putCharsAt : Cond.static M_U6_putCharsAt.1 ∈ mm_all := mm_w4 (i := 168) rfl rfl
theorem wc_AB_putStringAt : Cond.code M_AB_putStringAt.1 M_AB_putStringAt.2.1 M_AB_putStringAt.2.2.1 M_AB_putStringAt.2.2.2.1 ∈ mm_all := mm_w4 (i := 174) rfl rfl
theorem wi_AB_putStringAt : Cond.initialized M_AB_putStringAt.1.cls ∈ mm_all := mm_w1 (i := 4) rfl rfl
theorem wm_AB_putStringAt : Cond.instanceMethod M_AB_putStringAt.1 ∈ mm_all := mm_w4 (i := 173) rfl rfl
theorem wc_AB_inflateIfNeededFor : Cond.code M_AB_inflateIfNeededFor.1 M_AB_inflateIfNeededFor.2.1 M_AB_inflateIfNeededFor.2.2.1 M_AB_inflateIfNeededFor.2.2.2.1 ∈ mm_all := mm_w4 (i := 178) rfl rfl
theorem wi_AB_inflateIfNeededFor : Cond.initialized M_AB_inflateIfNeededFor.1.cls ∈ mm_all := mm_w1 (i := 4) rfl rfl
theorem wm_AB_inflateIfNeededFor : Cond.instanceMethod M_AB_inflateIfNeededFor.1 ∈ mm_all := mm_w4 (i := 177) rfl rfl
theorem wc_ST_getBytes : Cond.code M_ST_getBytes.1 M_ST_getBytes.2.1 M_ST_getBytes.2.2.1 M_ST_getBytes.2.2.2.1 ∈ mm_all := mm_w4 (i := 183) rfl rfl
theorem wi_ST_getBytes : Cond.initialized M_ST_getBytes.1.cls ∈ mm_all := mm_w1 (i := 6) rfl rfl
theorem wm_ST_getBytes : Cond.instanceMethod M_ST_getBytes.1 ∈ mm_all := mm_w4 (i := 181) rfl rfl
theorem wc_S_moveOn : Cond.code M_S_moveOn.1 M_S_moveOn.2.1 M_S_moveOn.2.2.1 M_S_moveOn.2.2.2.1 ∈ mm_all := mm_w4 (i := 189) rfl rfl
theorem wi_S_moveOn : Cond.initialized M_S_moveOn.1.cls ∈ mm_all := mm_w1 (i := 1) rfl rfl
theorem wm_S_moveOn : Cond.instanceMethod M_S_moveOn.1 ∈ mm_all := mm_w4 (i := 188) rfl rfl
theorem wc_T_fill : Cond.code M_T_fill.1 M_T_fill.2.1 M_T_fill.2.2.1 M_T_fill.2.2.2.1 ∈ mm_all := mm_w4 (i := 193) rfl rfl
theorem wi_T_fill : Cond.initialized M_T_fill.1.cls ∈ mm_all := mm_w1 (i := 25) rfl rfl
theorem wm_T_fill : Cond.instanceMethod M_T_fill.1 ∈ mm_all := mm_w4 (i := 191) rfl rfl
theorem wc_T_closeOf : Cond.code M_T_closeOf.1 M_T_closeOf.2.1 M_T_closeOf.2.2.1 M_T_closeOf.2.2.2.1 ∈ mm_all := mm_w4 (i := 202) rfl rfl
theorem wi_T_closeOf : Cond.initialized M_T_closeOf.1.cls ∈ mm_all := mm_w1 (i := 25) rfl rfl
theorem wm_T_closeOf : Cond.instanceMethod M_T_closeOf.1 ∈ mm_all := mm_w4 (i := 200) rfl rfl
theorem wc_T_appendFor : Cond.code M_T_appendFor.1 M_T_appendFor.2.1 M_T_appendFor.2.2.1 M_T_appendFor.2.2.2.1 ∈ mm_all := mm_w4 (i := 208) rfl rfl
theorem wi_T_appendFor : Cond.initialized M_T_appendFor.1.cls ∈ mm_all := mm_w1 (i := 25) rfl rfl
theorem wm_T_appendFor : Cond.instanceMethod M_T_appendFor.1 ∈ mm_all := mm_w4 (i := 207) rfl rfl
theorem wc_T_appendValue : Cond.code M_T_appendValue.1 M_T_appendValue.2.1 M_T_appendValue.2.2.1 M_T_appendValue.2.2.2.1 ∈ mm_all := mm_w4 (i := 215) rfl rfl
theorem wi_T_appendValue : Cond.initialized M_T_appendValue.1.cls ∈ mm_all := mm_w1 (i := 25) rfl rfl
theorem wt_T_appendValue : Cond.static M_T_appendValue.1 ∈ mm_all := mm_w4 (i := 214) rfl rfl
theorem wc_S_keep : Cond.code M_S_keep.1 M_S_keep.2.1 M_S_keep.2.2.1 M_S_keep.2.2.2.1 ∈ mm_all := mm_w4 (i := 222) rfl rfl
theorem wi_S_keep : Cond.initialized M_S_keep.1.cls ∈ mm_all := mm_w1 (i := 1) rfl rfl
theorem wm_S_keep : Cond.instanceMethod M_S_keep.1 ∈ mm_all := mm_w4 (i := 221) rfl rfl
theorem wc_AL_remove : Cond.code M_AL_remove.1 M_AL_remove.2.1 M_AL_remove.2.2.1 M_AL_remove.2.2.2.1 ∈ mm_all := mm_w4 (i := 226) rfl rfl
theorem wi_AL_remove : Cond.initialized M_AL_remove.1.cls ∈ mm_all := mm_w1 (i := 12) rfl rfl
theorem wm_AL_remove : Cond.instanceMethod M_AL_remove.1 ∈ mm_all := mm_w4 (i := 224) rfl rfl
theorem wc_AL_fastRemove : Cond.code M_AL_fastRemove.1 M_AL_fastRemove.2.1 M_AL_fastRemove.2.2.1 M_AL_fastRemove.2.2.2.1 ∈ mm_all := mm_w4 (i := 230) rfl rfl
theorem wi_AL_fastRemove : Cond.initialized M_AL_fastRemove.1.cls ∈ mm_all := mm_w1 (i := 12) rfl rfl
theorem wm_AL_fastRemove : Cond.instanceMethod M_AL_fastRemove.1 ∈ mm_all := mm_w4 (i := 229) rfl rfl
theorem wc_E_asksToClose : Cond.code M_E_asksToClose.1 M_E_asksToClose.2.1 M_E_asksToClose.2.2.1 M_E_asksToClose.2.2.2.1 ∈ mm_all := mm_w4 (i := 236) rfl rfl
theorem wi_E_asksToClose : Cond.initialized M_E_asksToClose.1.cls ∈ mm_all := mm_w1 (i := 9) rfl rfl
theorem wm_E_asksToClose : Cond.instanceMethod M_E_asksToClose.1 ∈ mm_all := mm_w4 (i := 234) rfl rfl
theorem wc_C_refuse : Cond.code M_C_refuse.1 M_C_refuse.2.1 M_C_refuse.2.2.1 M_C_refuse.2.2.2.1 ∈ mm_all := mm_w5 (i := 2) rfl rfl
theorem wi_C_refuse : Cond.initialized M_C_refuse.1.cls ∈ mm_all := mm_w1 (i := 2) rfl rfl
theorem wm_C_refuse : Cond.instanceMethod M_C_refuse.1 ∈ mm_all := mm_w5 (i := 0) rfl rfl
theorem wc_S_open : Cond.code M_S_open.1 M_S_open.2.1 M_S_open.2.2.1 M_S_open.2.2.2.1 ∈ mm_all := mm_w5 (i := 9) rfl rfl
theorem wi_S_open : Cond.initialized M_S_open.1.cls ∈ mm_all := mm_w1 (i := 1) rfl rfl
theorem wm_S_open : Cond.instanceMethod M_S_open.1 ∈ mm_all := mm_w5 (i := 7) rfl rfl
theorem wc_C_renew : Cond.code M_C_renew.1 M_C_renew.2.1 M_C_renew.2.2.1 M_C_renew.2.2.2.1 ∈ mm_all := mm_w5 (i := 13) rfl rfl
theorem wi_C_renew : Cond.initialized M_C_renew.1.cls ∈ mm_all := mm_w1 (i := 2) rfl rfl
theorem wm_C_renew : Cond.instanceMethod M_C_renew.1 ∈ mm_all := mm_w5 (i := 11) rfl rfl
theorem wc_S_size : Cond.code M_S_size.1 M_S_size.2.1 M_S_size.2.2.1 M_S_size.2.2.2.1 ∈ mm_all := mm_w5 (i := 19) rfl rfl
theorem wi_S_size : Cond.initialized M_S_size.1.cls ∈ mm_all := mm_w1 (i := 1) rfl rfl
theorem wm_S_size : Cond.instanceMethod M_S_size.1 ∈ mm_all := mm_w5 (i := 17) rfl rfl
theorem wc_S_at : Cond.code M_S_at.1 M_S_at.2.1 M_S_at.2.2.1 M_S_at.2.2.2.1 ∈ mm_all := mm_w5 (i := 24) rfl rfl
theorem wi_S_at : Cond.initialized M_S_at.1.cls ∈ mm_all := mm_w1 (i := 1) rfl rfl
theorem wm_S_at : Cond.instanceMethod M_S_at.1 ∈ mm_all := mm_w5 (i := 22) rfl rfl
theorem wc_SB_charAt : Cond.code M_SB_charAt.1 M_SB_charAt.2.1 M_SB_charAt.2.2.1 M_SB_charAt.2.2.2.1 ∈ mm_all := mm_w5 (i := 29) rfl rfl
theorem wi_SB_charAt : Cond.initialized M_SB_charAt.1.cls ∈ mm_all := mm_w1 (i := 5) rfl rfl
theorem wm_SB_charAt : Cond.instanceMethod M_SB_charAt.1 ∈ mm_all := mm_w5 (i := 27) rfl rfl
theorem wc_AB_charAt : Cond.code M_AB_charAt.1 M_AB_charAt.2.1 M_AB_charAt.2.2.1 M_AB_charAt.2.2.2.1 ∈ mm_all := mm_w5 (i := 32) rfl rfl
theorem wi_AB_charAt : Cond.initialized M_AB_charAt.1.cls ∈ mm_all := mm_w1 (i := 4) rfl rfl
theorem wm_AB_charAt : Cond.instanceMethod M_AB_charAt.1 ∈ mm_all := mm_w5 (i := 31) rfl rfl
theorem wc_S_type : Cond.code M_S_type.1 M_S_type.2.1 M_S_type.2.2.1 M_S_type.2.2.2.1 ∈ mm_all := mm_w5 (i := 39) rfl rfl
theorem wi_S_type : Cond.initialized M_S_type.1.cls ∈ mm_all := mm_w1 (i := 1) rfl rfl
theorem wm_S_type : Cond.instanceMethod M_S_type.1 ∈ mm_all := mm_w5 (i := 37) rfl rfl
theorem wc_S_match : Cond.code M_S_match.1 M_S_match.2.1 M_S_match.2.2.1 M_S_match.2.2.2.1 ∈ mm_all := mm_w5 (i := 45) rfl rfl
theorem wi_S_match : Cond.initialized M_S_match.1.cls ∈ mm_all := mm_w1 (i := 1) rfl rfl
theorem wm_S_match : Cond.instanceMethod M_S_match.1 ∈ mm_all := mm_w5 (i := 43) rfl rfl
theorem wc_H_of : Cond.code M_H_of.1 M_H_of.2.1 M_H_of.2.2.1 M_H_of.2.2.2.1 ∈ mm_all := mm_w5 (i := 49) rfl rfl
theorem wi_H_of : Cond.initialized M_H_of.1.cls ∈ mm_all := mm_w1 (i := 26) rfl rfl
theorem wt_H_of : Cond.static M_H_of.1 ∈ mm_all := mm_w5 (i := 48) rfl rfl
theorem wc_H_withText : Cond.code M_H_withText.1 M_H_withText.2.1 M_H_withText.2.2.1 M_H_withText.2.2.2.1 ∈ mm_all := mm_w5 (i := 53) rfl rfl
theorem wi_H_withText : Cond.initialized M_H_withText.1.cls ∈ mm_all := mm_w1 (i := 26) rfl rfl
theorem wt_H_withText : Cond.static M_H_withText.1 ∈ mm_all := mm_w5 (i := 52) rfl rfl
theorem wc_H_init : Cond.code M_H_init.1 M_H_init.2.1 M_H_init.2.2.1 M_H_init.2.2.2.1 ∈ mm_all := mm_w5 (i := 58) rfl rfl
theorem wi_H_init : Cond.initialized M_H_init.1.cls ∈ mm_all := mm_w1 (i := 26) rfl rfl
theorem wm_H_init : Cond.instanceMethod M_H_init.1 ∈ mm_all := mm_w5 (i := 57) rfl rfl
theorem wc_N_init : Cond.code M_N_init.1 M_N_init.2.1 M_N_init.2.2.1 M_N_init.2.2.2.1 ∈ mm_all := mm_w5 (i := 79) rfl rfl
theorem wi_N_init : Cond.initialized M_N_init.1.cls ∈ mm_all := mm_w1 (i := 27) rfl rfl
theorem wm_N_init : Cond.instanceMethod M_N_init.1 ∈ mm_all := mm_w5 (i := 78) rfl rfl
theorem wc_N_readPieces : Cond.code M_N_readPieces.1 M_N_readPieces.2.1 M_N_readPieces.2.2.1 M_N_readPieces.2.2.2.1 ∈ mm_all := mm_w5 (i := 84) rfl rfl
theorem wi_N_readPieces : Cond.initialized M_N_readPieces.1.cls ∈ mm_all := mm_w1 (i := 27) rfl rfl
theorem wm_N_readPieces : Cond.instanceMethod M_N_readPieces.1 ∈ mm_all := mm_w5 (i := 83) rfl rfl
theorem wc_N_endRow : Cond.code M_N_endRow.1 M_N_endRow.2.1 M_N_endRow.2.2.1 M_N_endRow.2.2.2.1 ∈ mm_all := mm_w5 (i := 88) rfl rfl
theorem wi_N_endRow : Cond.initialized M_N_endRow.1.cls ∈ mm_all := mm_w1 (i := 27) rfl rfl
theorem wm_N_endRow : Cond.instanceMethod M_N_endRow.1 ∈ mm_all := mm_w5 (i := 87) rfl rfl
theorem wc_N_markPiece : Cond.code M_N_markPiece.1 M_N_markPiece.2.1 M_N_markPiece.2.2.1 M_N_markPiece.2.2.2.1 ∈ mm_all := mm_w5 (i := 92) rfl rfl
theorem wi_N_markPiece : Cond.initialized M_N_markPiece.1.cls ∈ mm_all := mm_w1 (i := 27) rfl rfl
theorem wm_N_markPiece : Cond.instanceMethod M_N_markPiece.1 ∈ mm_all := mm_w5 (i := 91) rfl rfl
theorem wc_N_addPiece : Cond.code M_N_addPiece.1 M_N_addPiece.2.1 M_N_addPiece.2.2.1 M_N_addPiece.2.2.2.1 ∈ mm_all := mm_w5 (i := 96) rfl rfl
theorem wi_N_addPiece : Cond.initialized M_N_addPiece.1.cls ∈ mm_all := mm_w1 (i := 27) rfl rfl
theorem wm_N_addPiece : Cond.instanceMethod M_N_addPiece.1 ∈ mm_all := mm_w5 (i := 95) rfl rfl
theorem wc_N_isGood : Cond.code M_N_isGood.1 M_N_isGood.2.1 M_N_isGood.2.2.1 M_N_isGood.2.2.2.1 ∈ mm_all := mm_w5 (i := 128) rfl rfl
theorem wi_N_isGood : Cond.initialized M_N_isGood.1.cls ∈ mm_all := mm_w1 (i := 27) rfl rfl
theorem wm_N_isGood : Cond.instanceMethod M_N_isGood.1 ∈ mm_all := mm_w5 (i := 126) rfl rfl
theorem wc_S_stub : Cond.code M_S_stub.1 M_S_stub.2.1 M_S_stub.2.2.1 M_S_stub.2.2.2.1 ∈ mm_all := mm_w5 (i := 138) rfl rfl
theorem wi_S_stub : Cond.initialized M_S_stub.1.cls ∈ mm_all := mm_w1 (i := 1) rfl rfl
theorem wm_S_stub : Cond.instanceMethod M_S_stub.1 ∈ mm_all := mm_w5 (i := 136) rfl rfl
theorem wc_B_init : Cond.code M_B_init.1 M_B_init.2.1 M_B_init.2.2.1 M_B_init.2.2.2.1 ∈ mm_all := mm_w5 (i := 142) rfl rfl
theorem wi_B_init : Cond.initialized M_B_init.1.cls ∈ mm_all := mm_w1 (i := 28) rfl rfl
theorem wm_B_init : Cond.instanceMethod M_B_init.1 ∈ mm_all := mm_w5 (i := 141) rfl rfl
theorem wc_T_init : Cond.code M_T_init.1 M_T_init.2.1 M_T_init.2.2.1 M_T_init.2.2.2.1 ∈ mm_all := mm_w5 (i := 147) rfl rfl
theorem wi_T_init : Cond.initialized M_T_init.1.cls ∈ mm_all := mm_w1 (i := 25) rfl rfl
theorem wm_T_init : Cond.instanceMethod M_T_init.1 ∈ mm_all := mm_w5 (i := 146) rfl rfl
theorem wc_S_scene : Cond.code M_S_scene.1 M_S_scene.2.1 M_S_scene.2.2.1 M_S_scene.2.2.2.1 ∈ mm_all := mm_w5 (i := 180) rfl rfl
theorem wi_S_scene : Cond.initialized M_S_scene.1.cls ∈ mm_all := mm_w1 (i := 1) rfl rfl
theorem wm_S_scene : Cond.instanceMethod M_S_scene.1 ∈ mm_all := mm_w5 (i := 178) rfl rfl
theorem wc_S_placeOf : Cond.code M_S_placeOf.1 M_S_placeOf.2.1 M_S_placeOf.2.2.1 M_S_placeOf.2.2.2.1 ∈ mm_all := mm_w5 (i := 184) rfl rfl
theorem wi_S_placeOf : Cond.initialized M_S_placeOf.1.cls ∈ mm_all := mm_w1 (i := 1) rfl rfl
theorem wm_S_placeOf : Cond.instanceMethod M_S_placeOf.1 ∈ mm_all := mm_w5 (i := 183) rfl rfl
theorem wc_S_isScenario : Cond.code M_S_isScenario.1 M_S_isScenario.2.1 M_S_isScenario.2.2.1 M_S_isScenario.2.2.2.1 ∈ mm_all := mm_w5 (i := 187) rfl rfl
theorem wi_S_isScenario : Cond.initialized M_S_isScenario.1.cls ∈ mm_all := mm_w1 (i := 1) rfl rfl
theorem wt_S_isScenario : Cond.static M_S_isScenario.1 ∈ mm_all := mm_w5 (i := 186) rfl rfl
theorem wc_S_isState : Cond.code M_S_isState.1 M_S_isState.2.1 M_S_isState.2.2.1 M_S_isState.2.2.2.1 ∈ mm_all := mm_w5 (i := 190) rfl rfl
theorem wi_S_isState : Cond.initialized M_S_isState.1.cls ∈ mm_all := mm_w1 (i := 1) rfl rfl
theorem wt_S_isState : Cond.static M_S_isState.1 ∈ mm_all := mm_w5 (i := 189) rfl rfl
theorem wc_Z_init : Cond.code M_Z_init.1 M_Z_init.2.1 M_Z_init.2.2.1 M_Z_init.2.2.2.1 ∈ mm_all := mm_w5 (i := 195) rfl rfl
theorem wi_Z_init : Cond.initialized M_Z_init.1.cls ∈ mm_all := mm_w1 (i := 29) rfl rfl
theorem wm_Z_init : Cond.instanceMethod M_Z_init.1 ∈ mm_all := mm_w5 (i := 194) rfl rfl
theorem wc_S_remove : Cond.code M_S_remove.1 M_S_remove.2.1 M_S_remove.2.2.1 M_S_remove.2.2.2.1 ∈ mm_all := mm_w5 (i := 213) rfl rfl
theorem wi_S_remove : Cond.initialized M_S_remove.1.cls ∈ mm_all := mm_w1 (i := 1) rfl rfl
theorem wm_S_remove : Cond.instanceMethod M_S_remove.1 ∈ mm_all := mm_w5 (i := 211) rfl rfl
theorem wc_S_reset : Cond.code M_S_reset.1 M_S_reset.2.1 M_S_reset.2.2.1 M_S_reset.2.2.2.1 ∈ mm_all := mm_w5 (i := 217) rfl rfl
theorem wi_S_reset : Cond.initialized M_S_reset.1.cls ∈ mm_all := mm_w1 (i := 1) rfl rfl
theorem wm_S_reset : Cond.instanceMethod M_S_reset.1 ∈ mm_all := mm_w5 (i := 215) rfl rfl
theorem wc_AL_clear : Cond.code M_AL_clear.1 M_AL_clear.2.1 M_AL_clear.2.2.1 M_AL_clear.2.2.2.1 ∈ mm_all := mm_w5 (i := 221) rfl rfl
theorem wi_AL_clear : Cond.initialized M_AL_clear.1.cls ∈ mm_all := mm_w1 (i := 12) rfl rfl
theorem wm_AL_clear : Cond.instanceMethod M_AL_clear.1 ∈ mm_all := mm_w5 (i := 219) rfl rfl
theorem wc_S_count : Cond.code M_S_count.1 M_S_count.2.1 M_S_count.2.2.1 M_S_count.2.2.2.1 ∈ mm_all := mm_w5 (i := 225) rfl rfl
theorem wi_S_count : Cond.initialized M_S_count.1.cls ∈ mm_all := mm_w1 (i := 1) rfl rfl
theorem wm_S_count : Cond.instanceMethod M_S_count.1 ∈ mm_all := mm_w5 (i := 223) rfl rfl
theorem wc_S_journal : Cond.code M_S_journal.1 M_S_journal.2.1 M_S_journal.2.2.1 M_S_journal.2.2.2.1 ∈ mm_all := mm_w5 (i := 230) rfl rfl
theorem wi_S_journal : Cond.initialized M_S_journal.1.cls ∈ mm_all := mm_w1 (i := 1) rfl rfl
theorem wm_S_journal : Cond.instanceMethod M_S_journal.1 ∈ mm_all := mm_w5 (i := 228) rfl rfl
theorem wc_S_chosen : Cond.code M_S_chosen.1 M_S_chosen.2.1 M_S_chosen.2.2.1 M_S_chosen.2.2.2.1 ∈ mm_all := mm_w5 (i := 234) rfl rfl
theorem wi_S_chosen : Cond.initialized M_S_chosen.1.cls ∈ mm_all := mm_w1 (i := 1) rfl rfl
theorem wm_S_chosen : Cond.instanceMethod M_S_chosen.1 ∈ mm_all := mm_w5 (i := 232) rfl rfl
theorem wc_S_isKept : Cond.code M_S_isKept.1 M_S_isKept.2.1 M_S_isKept.2.2.1 M_S_isKept.2.2.2.1 ∈ mm_all := mm_w5 (i := 238) rfl rfl
theorem wi_S_isKept : Cond.initialized M_S_isKept.1.cls ∈ mm_all := mm_w1 (i := 1) rfl rfl
theorem wm_S_isKept : Cond.instanceMethod M_S_isKept.1 ∈ mm_all := mm_w5 (i := 237) rfl rfl
theorem wc_S_near : Cond.code M_S_near.1 M_S_near.2.1 M_S_near.2.2.1 M_S_near.2.2.2.1 ∈ mm_all := mm_w6 (i := 2) rfl rfl
theorem wi_S_near : Cond.initialized M_S_near.1.cls ∈ mm_all := mm_w1 (i := 1) rfl rfl
theorem wm_S_near : Cond.instanceMethod M_S_near.1 ∈ mm_all := mm_w6 (i := 0) rfl rfl
theorem wc_S_state : Cond.code M_S_state.1 M_S_state.2.1 M_S_state.2.2.1 M_S_state.2.2.2.1 ∈ mm_all := mm_w6 (i := 6) rfl rfl
theorem wi_S_state : Cond.initialized M_S_state.1.cls ∈ mm_all := mm_w1 (i := 1) rfl rfl
theorem wm_S_state : Cond.instanceMethod M_S_state.1 ∈ mm_all := mm_w6 (i := 4) rfl rfl
theorem wc_S_served : Cond.code M_S_served.1 M_S_served.2.1 M_S_served.2.2.1 M_S_served.2.2.2.1 ∈ mm_all := mm_w6 (i := 10) rfl rfl
theorem wi_S_served : Cond.initialized M_S_served.1.cls ∈ mm_all := mm_w1 (i := 1) rfl rfl
theorem wm_S_served : Cond.instanceMethod M_S_served.1 ∈ mm_all := mm_w6 (i := 8) rfl rfl
theorem wc_M_init : Cond.code M_M_init.1 M_M_init.2.1 M_M_init.2.2.1 M_M_init.2.2.2.1 ∈ mm_all := mm_w6 (i := 15) rfl rfl
theorem wi_M_init : Cond.initialized M_M_init.1.cls ∈ mm_all := mm_w1 (i := 14) rfl rfl
theorem wm_M_init : Cond.instanceMethod M_M_init.1 ∈ mm_all := mm_w6 (i := 14) rfl rfl
theorem wc_M_send : Cond.code M_M_send.1 M_M_send.2.1 M_M_send.2.2.1 M_M_send.2.2.2.1 ∈ mm_all := mm_w6 (i := 151) rfl rfl
theorem wi_M_send : Cond.initialized M_M_send.1.cls ∈ mm_all := mm_w1 (i := 14) rfl rfl
theorem wm_M_send : Cond.instanceMethod M_M_send.1 ∈ mm_all := mm_w6 (i := 149) rfl rfl
theorem wc_M_arrive : Cond.code M_M_arrive.1 M_M_arrive.2.1 M_M_arrive.2.2.1 M_M_arrive.2.2.2.1 ∈ mm_all := mm_w6 (i := 155) rfl rfl
theorem wi_M_arrive : Cond.initialized M_M_arrive.1.cls ∈ mm_all := mm_w1 (i := 14) rfl rfl
theorem wm_M_arrive : Cond.instanceMethod M_M_arrive.1 ∈ mm_all := mm_w6 (i := 154) rfl rfl
theorem wc_M_judge : Cond.code M_M_judge.1 M_M_judge.2.1 M_M_judge.2.2.1 M_M_judge.2.2.2.1 ∈ mm_all := mm_w6 (i := 159) rfl rfl
theorem wi_M_judge : Cond.initialized M_M_judge.1.cls ∈ mm_all := mm_w1 (i := 14) rfl rfl
theorem wm_M_judge : Cond.instanceMethod M_M_judge.1 ∈ mm_all := mm_w6 (i := 158) rfl rfl
theorem wc_M_lineEnd : Cond.code M_M_lineEnd.1 M_M_lineEnd.2.1 M_M_lineEnd.2.2.1 M_M_lineEnd.2.2.2.1 ∈ mm_all := mm_w6 (i := 163) rfl rfl
theorem wi_M_lineEnd : Cond.initialized M_M_lineEnd.1.cls ∈ mm_all := mm_w1 (i := 14) rfl rfl
theorem wm_M_lineEnd : Cond.instanceMethod M_M_lineEnd.1 ∈ mm_all := mm_w6 (i := 162) rfl rfl
theorem wc_M_byteAt : Cond.code M_M_byteAt.1 M_M_byteAt.2.1 M_M_byteAt.2.2.1 M_M_byteAt.2.2.2.1 ∈ mm_all := mm_w6 (i := 167) rfl rfl
theorem wi_M_byteAt : Cond.initialized M_M_byteAt.1.cls ∈ mm_all := mm_w1 (i := 14) rfl rfl
theorem wm_M_byteAt : Cond.instanceMethod M_M_byteAt.1 ∈ mm_all := mm_w6 (i := 166) rfl rfl
theorem wc_M_requestLine : Cond.code M_M_requestLine.1 M_M_requestLine.2.1 M_M_requestLine.2.2.1 M_M_requestLine.2.2.2.1 ∈ mm_all := mm_w6 (i := 171) rfl rfl
theorem wi_M_requestLine : Cond.initialized M_M_requestLine.1.cls ∈ mm_all := mm_w1 (i := 14) rfl rfl
theorem wm_M_requestLine : Cond.instanceMethod M_M_requestLine.1 ∈ mm_all := mm_w6 (i := 170) rfl rfl
theorem wc_M_seek : Cond.code M_M_seek.1 M_M_seek.2.1 M_M_seek.2.2.1 M_M_seek.2.2.2.1 ∈ mm_all := mm_w6 (i := 175) rfl rfl
theorem wi_M_seek : Cond.initialized M_M_seek.1.cls ∈ mm_all := mm_w1 (i := 14) rfl rfl
theorem wm_M_seek : Cond.instanceMethod M_M_seek.1 ∈ mm_all := mm_w6 (i := 174) rfl rfl
theorem wc_M_pathEnd : Cond.code M_M_pathEnd.1 M_M_pathEnd.2.1 M_M_pathEnd.2.2.1 M_M_pathEnd.2.2.2.1 ∈ mm_all := mm_w6 (i := 179) rfl rfl
theorem wi_M_pathEnd : Cond.initialized M_M_pathEnd.1.cls ∈ mm_all := mm_w1 (i := 14) rfl rfl
theorem wm_M_pathEnd : Cond.instanceMethod M_M_pathEnd.1 ∈ mm_all := mm_w6 (i := 178) rfl rfl
theorem wc_M_pathAt : Cond.code M_M_pathAt.1 M_M_pathAt.2.1 M_M_pathAt.2.2.1 M_M_pathAt.2.2.2.1 ∈ mm_all := mm_w6 (i := 183) rfl rfl
theorem wi_M_pathAt : Cond.initialized M_M_pathAt.1.cls ∈ mm_all := mm_w1 (i := 14) rfl rfl
theorem wm_M_pathAt : Cond.instanceMethod M_M_pathAt.1 ∈ mm_all := mm_w6 (i := 182) rfl rfl
theorem wc_M_targetEnd : Cond.code M_M_targetEnd.1 M_M_targetEnd.2.1 M_M_targetEnd.2.2.1 M_M_targetEnd.2.2.2.1 ∈ mm_all := mm_w6 (i := 187) rfl rfl
theorem wi_M_targetEnd : Cond.initialized M_M_targetEnd.1.cls ∈ mm_all := mm_w1 (i := 14) rfl rfl
theorem wm_M_targetEnd : Cond.instanceMethod M_M_targetEnd.1 ∈ mm_all := mm_w6 (i := 186) rfl rfl
theorem wc_M_coded : Cond.code M_M_coded.1 M_M_coded.2.1 M_M_coded.2.2.1 M_M_coded.2.2.2.1 ∈ mm_all := mm_w6 (i := 191) rfl rfl
theorem wi_M_coded : Cond.initialized M_M_coded.1.cls ∈ mm_all := mm_w1 (i := 14) rfl rfl
theorem wm_M_coded : Cond.instanceMethod M_M_coded.1 ∈ mm_all := mm_w6 (i := 190) rfl rfl
theorem wc_M_hex : Cond.code M_M_hex.1 M_M_hex.2.1 M_M_hex.2.2.1 M_M_hex.2.2.2.1 ∈ mm_all := mm_w6 (i := 194) rfl rfl
theorem wi_M_hex : Cond.initialized M_M_hex.1.cls ∈ mm_all := mm_w1 (i := 14) rfl rfl
theorem wt_M_hex : Cond.static M_M_hex.1 ∈ mm_all := mm_w6 (i := 193) rfl rfl
theorem wc_M_header : Cond.code M_M_header.1 M_M_header.2.1 M_M_header.2.2.1 M_M_header.2.2.2.1 ∈ mm_all := mm_w6 (i := 198) rfl rfl
theorem wi_M_header : Cond.initialized M_M_header.1.cls ∈ mm_all := mm_w1 (i := 14) rfl rfl
theorem wm_M_header : Cond.instanceMethod M_M_header.1 ∈ mm_all := mm_w6 (i := 197) rfl rfl
theorem wc_M_letter : Cond.code M_M_letter.1 M_M_letter.2.1 M_M_letter.2.2.1 M_M_letter.2.2.2.1 ∈ mm_all := mm_w6 (i := 201) rfl rfl
theorem wi_M_letter : Cond.initialized M_M_letter.1.cls ∈ mm_all := mm_w1 (i := 14) rfl rfl
theorem wt_M_letter : Cond.static M_M_letter.1 ∈ mm_all := mm_w6 (i := 200) rfl rfl
theorem wc_M_valueAt : Cond.code M_M_valueAt.1 M_M_valueAt.2.1 M_M_valueAt.2.2.1 M_M_valueAt.2.2.2.1 ∈ mm_all := mm_w6 (i := 205) rfl rfl
theorem wi_M_valueAt : Cond.initialized M_M_valueAt.1.cls ∈ mm_all := mm_w1 (i := 14) rfl rfl
theorem wm_M_valueAt : Cond.instanceMethod M_M_valueAt.1 ∈ mm_all := mm_w6 (i := 204) rfl rfl
theorem wc_M_valueEnd : Cond.code M_M_valueEnd.1 M_M_valueEnd.2.1 M_M_valueEnd.2.2.1 M_M_valueEnd.2.2.2.1 ∈ mm_all := mm_w6 (i := 209) rfl rfl
theorem wi_M_valueEnd : Cond.initialized M_M_valueEnd.1.cls ∈ mm_all := mm_w1 (i := 14) rfl rfl
theorem wm_M_valueEnd : Cond.instanceMethod M_M_valueEnd.1 ∈ mm_all := mm_w6 (i := 208) rfl rfl
theorem wc_M_isChunked : Cond.code M_M_isChunked.1 M_M_isChunked.2.1 M_M_isChunked.2.2.1 M_M_isChunked.2.2.2.1 ∈ mm_all := mm_w6 (i := 213) rfl rfl
theorem wi_M_isChunked : Cond.initialized M_M_isChunked.1.cls ∈ mm_all := mm_w1 (i := 14) rfl rfl
theorem wm_M_isChunked : Cond.instanceMethod M_M_isChunked.1 ∈ mm_all := mm_w6 (i := 212) rfl rfl
theorem wc_M_isNamed : Cond.code M_M_isNamed.1 M_M_isNamed.2.1 M_M_isNamed.2.2.1 M_M_isNamed.2.2.2.1 ∈ mm_all := mm_w6 (i := 217) rfl rfl
theorem wi_M_isNamed : Cond.initialized M_M_isNamed.1.cls ∈ mm_all := mm_w1 (i := 14) rfl rfl
theorem wm_M_isNamed : Cond.instanceMethod M_M_isNamed.1 ∈ mm_all := mm_w6 (i := 216) rfl rfl
theorem wc_M_small : Cond.code M_M_small.1 M_M_small.2.1 M_M_small.2.2.1 M_M_small.2.2.2.1 ∈ mm_all := mm_w6 (i := 220) rfl rfl
theorem wi_M_small : Cond.initialized M_M_small.1.cls ∈ mm_all := mm_w1 (i := 14) rfl rfl
theorem wt_M_small : Cond.static M_M_small.1 ∈ mm_all := mm_w6 (i := 219) rfl rfl
theorem wc_M_announce : Cond.code M_M_announce.1 M_M_announce.2.1 M_M_announce.2.2.1 M_M_announce.2.2.2.1 ∈ mm_all := mm_w6 (i := 224) rfl rfl
theorem wi_M_announce : Cond.initialized M_M_announce.1.cls ∈ mm_all := mm_w1 (i := 14) rfl rfl
theorem wm_M_announce : Cond.instanceMethod M_M_announce.1 ∈ mm_all := mm_w6 (i := 223) rfl rfl
theorem wc_M_chunks : Cond.code M_M_chunks.1 M_M_chunks.2.1 M_M_chunks.2.2.1 M_M_chunks.2.2.2.1 ∈ mm_all := mm_w6 (i := 228) rfl rfl
theorem wi_M_chunks : Cond.initialized M_M_chunks.1.cls ∈ mm_all := mm_w1 (i := 14) rfl rfl
theorem wm_M_chunks : Cond.instanceMethod M_M_chunks.1 ∈ mm_all := mm_w6 (i := 227) rfl rfl
theorem wc_M_is : Cond.code M_M_is.1 M_M_is.2.1 M_M_is.2.2.1 M_M_is.2.2.2.1 ∈ mm_all := mm_w6 (i := 232) rfl rfl
theorem wi_M_is : Cond.initialized M_M_is.1.cls ∈ mm_all := mm_w1 (i := 14) rfl rfl
theorem wm_M_is : Cond.instanceMethod M_M_is.1 ∈ mm_all := mm_w6 (i := 231) rfl rfl
theorem wc_M_plain : Cond.code M_M_plain.1 M_M_plain.2.1 M_M_plain.2.2.1 M_M_plain.2.2.2.1 ∈ mm_all := mm_w6 (i := 236) rfl rfl
theorem wi_M_plain : Cond.initialized M_M_plain.1.cls ∈ mm_all := mm_w1 (i := 14) rfl rfl
theorem wm_M_plain : Cond.instanceMethod M_M_plain.1 ∈ mm_all := mm_w6 (i := 235) rfl rfl
theorem wc_M_serve : Cond.code M_M_serve.1 M_M_serve.2.1 M_M_serve.2.2.1 M_M_serve.2.2.2.1 ∈ mm_all := mm_w7 (i := 0) rfl rfl
theorem wi_M_serve : Cond.initialized M_M_serve.1.cls ∈ mm_all := mm_w1 (i := 14) rfl rfl
theorem wm_M_serve : Cond.instanceMethod M_M_serve.1 ∈ mm_all := mm_w6 (i := 239) rfl rfl
theorem wc_M_failing : Cond.code M_M_failing.1 M_M_failing.2.1 M_M_failing.2.2.1 M_M_failing.2.2.2.1 ∈ mm_all := mm_w7 (i := 4) rfl rfl
theorem wi_M_failing : Cond.initialized M_M_failing.1.cls ∈ mm_all := mm_w1 (i := 14) rfl rfl
theorem wm_M_failing : Cond.instanceMethod M_M_failing.1 ∈ mm_all := mm_w7 (i := 3) rfl rfl
theorem wc_M_inScene : Cond.code M_M_inScene.1 M_M_inScene.2.1 M_M_inScene.2.2.1 M_M_inScene.2.2.2.1 ∈ mm_all := mm_w7 (i := 8) rfl rfl
theorem wi_M_inScene : Cond.initialized M_M_inScene.1.cls ∈ mm_all := mm_w1 (i := 14) rfl rfl
theorem wm_M_inScene : Cond.instanceMethod M_M_inScene.1 ∈ mm_all := mm_w7 (i := 7) rfl rfl
theorem wc_M_holds : Cond.code M_M_holds.1 M_M_holds.2.1 M_M_holds.2.2.1 M_M_holds.2.2.2.1 ∈ mm_all := mm_w7 (i := 12) rfl rfl
theorem wi_M_holds : Cond.initialized M_M_holds.1.cls ∈ mm_all := mm_w1 (i := 14) rfl rfl
theorem wm_M_holds : Cond.instanceMethod M_M_holds.1 ∈ mm_all := mm_w7 (i := 11) rfl rfl
theorem wc_M_seekPart : Cond.code M_M_seekPart.1 M_M_seekPart.2.1 M_M_seekPart.2.2.1 M_M_seekPart.2.2.2.1 ∈ mm_all := mm_w7 (i := 16) rfl rfl
theorem wi_M_seekPart : Cond.initialized M_M_seekPart.1.cls ∈ mm_all := mm_w1 (i := 14) rfl rfl
theorem wm_M_seekPart : Cond.instanceMethod M_M_seekPart.1 ∈ mm_all := mm_w7 (i := 15) rfl rfl
theorem wc_M_parameter : Cond.code M_M_parameter.1 M_M_parameter.2.1 M_M_parameter.2.2.1 M_M_parameter.2.2.2.1 ∈ mm_all := mm_w7 (i := 20) rfl rfl
theorem wi_M_parameter : Cond.initialized M_M_parameter.1.cls ∈ mm_all := mm_w1 (i := 14) rfl rfl
theorem wm_M_parameter : Cond.instanceMethod M_M_parameter.1 ∈ mm_all := mm_w7 (i := 19) rfl rfl
theorem wc_M_decode : Cond.code M_M_decode.1 M_M_decode.2.1 M_M_decode.2.2.1 M_M_decode.2.2.2.1 ∈ mm_all := mm_w7 (i := 24) rfl rfl
theorem wi_M_decode : Cond.initialized M_M_decode.1.cls ∈ mm_all := mm_w1 (i := 14) rfl rfl
theorem wm_M_decode : Cond.instanceMethod M_M_decode.1 ∈ mm_all := mm_w7 (i := 23) rfl rfl
theorem wc_M_put : Cond.code M_M_put.1 M_M_put.2.1 M_M_put.2.2.1 M_M_put.2.2.2.1 ∈ mm_all := mm_w7 (i := 28) rfl rfl
theorem wi_M_put : Cond.initialized M_M_put.1.cls ∈ mm_all := mm_w1 (i := 14) rfl rfl
theorem wm_M_put : Cond.instanceMethod M_M_put.1 ∈ mm_all := mm_w7 (i := 27) rfl rfl
theorem wc_M_isSought : Cond.code M_M_isSought.1 M_M_isSought.2.1 M_M_isSought.2.2.1 M_M_isSought.2.2.2.1 ∈ mm_all := mm_w7 (i := 32) rfl rfl
theorem wi_M_isSought : Cond.initialized M_M_isSought.1.cls ∈ mm_all := mm_w1 (i := 14) rfl rfl
theorem wm_M_isSought : Cond.instanceMethod M_M_isSought.1 ∈ mm_all := mm_w7 (i := 31) rfl rfl
theorem wc_M_headerOf : Cond.code M_M_headerOf.1 M_M_headerOf.2.1 M_M_headerOf.2.2.1 M_M_headerOf.2.2.2.1 ∈ mm_all := mm_w7 (i := 36) rfl rfl
theorem wi_M_headerOf : Cond.initialized M_M_headerOf.1.cls ∈ mm_all := mm_w1 (i := 14) rfl rfl
theorem wm_M_headerOf : Cond.instanceMethod M_M_headerOf.1 ∈ mm_all := mm_w7 (i := 35) rfl rfl
theorem wc_M_raw : Cond.code M_M_raw.1 M_M_raw.2.1 M_M_raw.2.2.1 M_M_raw.2.2.2.1 ∈ mm_all := mm_w7 (i := 40) rfl rfl
theorem wi_M_raw : Cond.initialized M_M_raw.1.cls ∈ mm_all := mm_w1 (i := 14) rfl rfl
theorem wm_M_raw : Cond.instanceMethod M_M_raw.1 ∈ mm_all := mm_w7 (i := 39) rfl rfl
theorem wc_M_fits : Cond.code M_M_fits.1 M_M_fits.2.1 M_M_fits.2.2.1 M_M_fits.2.2.2.1 ∈ mm_all := mm_w7 (i := 44) rfl rfl
theorem wi_M_fits : Cond.initialized M_M_fits.1.cls ∈ mm_all := mm_w1 (i := 14) rfl rfl
theorem wm_M_fits : Cond.instanceMethod M_M_fits.1 ∈ mm_all := mm_w7 (i := 43) rfl rfl
theorem wc_M_letterOf : Cond.code M_M_letterOf.1 M_M_letterOf.2.1 M_M_letterOf.2.2.1 M_M_letterOf.2.2.2.1 ∈ mm_all := mm_w7 (i := 48) rfl rfl
theorem wi_M_letterOf : Cond.initialized M_M_letterOf.1.cls ∈ mm_all := mm_w1 (i := 14) rfl rfl
theorem wm_M_letterOf : Cond.instanceMethod M_M_letterOf.1 ∈ mm_all := mm_w7 (i := 47) rfl rfl
theorem wc_M_pieceEnd : Cond.code M_M_pieceEnd.1 M_M_pieceEnd.2.1 M_M_pieceEnd.2.2.1 M_M_pieceEnd.2.2.2.1 ∈ mm_all := mm_w7 (i := 52) rfl rfl
theorem wi_M_pieceEnd : Cond.initialized M_M_pieceEnd.1.cls ∈ mm_all := mm_w1 (i := 14) rfl rfl
theorem wm_M_pieceEnd : Cond.instanceMethod M_M_pieceEnd.1 ∈ mm_all := mm_w7 (i := 51) rfl rfl
theorem wc_M_through : Cond.code M_M_through.1 M_M_through.2.1 M_M_through.2.2.1 M_M_through.2.2.2.1 ∈ mm_all := mm_w7 (i := 56) rfl rfl
theorem wi_M_through : Cond.initialized M_M_through.1.cls ∈ mm_all := mm_w1 (i := 14) rfl rfl
theorem wm_M_through : Cond.instanceMethod M_M_through.1 ∈ mm_all := mm_w7 (i := 55) rfl rfl
theorem wc_M_takes : Cond.code M_M_takes.1 M_M_takes.2.1 M_M_takes.2.2.1 M_M_takes.2.2.2.1 ∈ mm_all := mm_w7 (i := 60) rfl rfl
theorem wi_M_takes : Cond.initialized M_M_takes.1.cls ∈ mm_all := mm_w1 (i := 14) rfl rfl
theorem wm_M_takes : Cond.instanceMethod M_M_takes.1 ∈ mm_all := mm_w7 (i := 59) rfl rfl
theorem wc_M_contains : Cond.code M_M_contains.1 M_M_contains.2.1 M_M_contains.2.2.1 M_M_contains.2.2.2.1 ∈ mm_all := mm_w7 (i := 64) rfl rfl
theorem wi_M_contains : Cond.initialized M_M_contains.1.cls ∈ mm_all := mm_w1 (i := 14) rfl rfl
theorem wm_M_contains : Cond.instanceMethod M_M_contains.1 ∈ mm_all := mm_w7 (i := 63) rfl rfl
theorem wc_M_before : Cond.code M_M_before.1 M_M_before.2.1 M_M_before.2.2.1 M_M_before.2.2.2.1 ∈ mm_all := mm_w7 (i := 68) rfl rfl
theorem wi_M_before : Cond.initialized M_M_before.1.cls ∈ mm_all := mm_w1 (i := 14) rfl rfl
theorem wm_M_before : Cond.instanceMethod M_M_before.1 ∈ mm_all := mm_w7 (i := 67) rfl rfl
theorem wc_M_expand : Cond.code M_M_expand.1 M_M_expand.2.1 M_M_expand.2.2.1 M_M_expand.2.2.2.1 ∈ mm_all := mm_w7 (i := 72) rfl rfl
theorem wi_M_expand : Cond.initialized M_M_expand.1.cls ∈ mm_all := mm_w1 (i := 14) rfl rfl
theorem wm_M_expand : Cond.instanceMethod M_M_expand.1 ∈ mm_all := mm_w7 (i := 71) rfl rfl
theorem wc_M_makeNumber : Cond.code M_M_makeNumber.1 M_M_makeNumber.2.1 M_M_makeNumber.2.2.1 M_M_makeNumber.2.2.2.1 ∈ mm_all := mm_w7 (i := 76) rfl rfl
theorem wi_M_makeNumber : Cond.initialized M_M_makeNumber.1.cls ∈ mm_all := mm_w1 (i := 14) rfl rfl
theorem wm_M_makeNumber : Cond.instanceMethod M_M_makeNumber.1 ∈ mm_all := mm_w7 (i := 75) rfl rfl
theorem wc_M_make : Cond.code M_M_make.1 M_M_make.2.1 M_M_make.2.2.1 M_M_make.2.2.2.1 ∈ mm_all := mm_w7 (i := 80) rfl rfl
theorem wi_M_make : Cond.initialized M_M_make.1.cls ∈ mm_all := mm_w1 (i := 14) rfl rfl
theorem wm_M_make : Cond.instanceMethod M_M_make.1 ∈ mm_all := mm_w7 (i := 79) rfl rfl
theorem wc_M_makePart : Cond.code M_M_makePart.1 M_M_makePart.2.1 M_M_makePart.2.2.1 M_M_makePart.2.2.2.1 ∈ mm_all := mm_w7 (i := 84) rfl rfl
theorem wi_M_makePart : Cond.initialized M_M_makePart.1.cls ∈ mm_all := mm_w1 (i := 14) rfl rfl
theorem wm_M_makePart : Cond.instanceMethod M_M_makePart.1 ∈ mm_all := mm_w7 (i := 83) rfl rfl
theorem wc_M_respond : Cond.code M_M_respond.1 M_M_respond.2.1 M_M_respond.2.2.1 M_M_respond.2.2.2.1 ∈ mm_all := mm_w7 (i := 88) rfl rfl
theorem wi_M_respond : Cond.initialized M_M_respond.1.cls ∈ mm_all := mm_w1 (i := 14) rfl rfl
theorem wm_M_respond : Cond.instanceMethod M_M_respond.1 ∈ mm_all := mm_w7 (i := 87) rfl rfl
theorem wc_M_copy : Cond.code M_M_copy.1 M_M_copy.2.1 M_M_copy.2.2.1 M_M_copy.2.2.2.1 ∈ mm_all := mm_w7 (i := 92) rfl rfl
theorem wi_M_copy : Cond.initialized M_M_copy.1.cls ∈ mm_all := mm_w1 (i := 14) rfl rfl
theorem wm_M_copy : Cond.instanceMethod M_M_copy.1 ∈ mm_all := mm_w7 (i := 91) rfl rfl
theorem wc_M_open : Cond.code M_M_open.1 M_M_open.2.1 M_M_open.2.2.1 M_M_open.2.2.2.1 ∈ mm_all := mm_w7 (i := 96) rfl rfl
theorem wi_M_open : Cond.initialized M_M_open.1.cls ∈ mm_all := mm_w1 (i := 14) rfl rfl
theorem wm_M_open : Cond.instanceMethod M_M_open.1 ∈ mm_all := mm_w7 (i := 94) rfl rfl
theorem wc_M_isOpen : Cond.code M_M_isOpen.1 M_M_isOpen.2.1 M_M_isOpen.2.2.1 M_M_isOpen.2.2.2.1 ∈ mm_all := mm_w7 (i := 100) rfl rfl
theorem wi_M_isOpen : Cond.initialized M_M_isOpen.1.cls ∈ mm_all := mm_w1 (i := 14) rfl rfl
theorem wm_M_isOpen : Cond.instanceMethod M_M_isOpen.1 ∈ mm_all := mm_w7 (i := 98) rfl rfl
theorem wc_M_size : Cond.code M_M_size.1 M_M_size.2.1 M_M_size.2.2.1 M_M_size.2.2.2.1 ∈ mm_all := mm_w7 (i := 104) rfl rfl
theorem wi_M_size : Cond.initialized M_M_size.1.cls ∈ mm_all := mm_w1 (i := 14) rfl rfl
theorem wm_M_size : Cond.instanceMethod M_M_size.1 ∈ mm_all := mm_w7 (i := 102) rfl rfl
theorem wc_M_at : Cond.code M_M_at.1 M_M_at.2.1 M_M_at.2.2.1 M_M_at.2.2.2.1 ∈ mm_all := mm_w7 (i := 108) rfl rfl
theorem wi_M_at : Cond.initialized M_M_at.1.cls ∈ mm_all := mm_w1 (i := 14) rfl rfl
theorem wm_M_at : Cond.instanceMethod M_M_at.1 ∈ mm_all := mm_w7 (i := 106) rfl rfl
theorem wc_M_type : Cond.code M_M_type.1 M_M_type.2.1 M_M_type.2.2.1 M_M_type.2.2.2.1 ∈ mm_all := mm_w7 (i := 113) rfl rfl
theorem wi_M_type : Cond.initialized M_M_type.1.cls ∈ mm_all := mm_w1 (i := 14) rfl rfl
theorem wm_M_type : Cond.instanceMethod M_M_type.1 ∈ mm_all := mm_w7 (i := 111) rfl rfl
theorem wc_M_match : Cond.code M_M_match.1 M_M_match.2.1 M_M_match.2.2.1 M_M_match.2.2.2.1 ∈ mm_all := mm_w7 (i := 117) rfl rfl
theorem wi_M_match : Cond.initialized M_M_match.1.cls ∈ mm_all := mm_w1 (i := 14) rfl rfl
theorem wm_M_match : Cond.instanceMethod M_M_match.1 ∈ mm_all := mm_w7 (i := 115) rfl rfl
theorem wc_M_isPattern : Cond.code M_M_isPattern.1 M_M_isPattern.2.1 M_M_isPattern.2.2.1 M_M_isPattern.2.2.2.1 ∈ mm_all := mm_w7 (i := 121) rfl rfl
theorem wi_M_isPattern : Cond.initialized M_M_isPattern.1.cls ∈ mm_all := mm_w1 (i := 14) rfl rfl
theorem wm_M_isPattern : Cond.instanceMethod M_M_isPattern.1 ∈ mm_all := mm_w7 (i := 120) rfl rfl
theorem wc_M_stub : Cond.code M_M_stub.1 M_M_stub.2.1 M_M_stub.2.2.1 M_M_stub.2.2.2.1 ∈ mm_all := mm_w7 (i := 125) rfl rfl
theorem wi_M_stub : Cond.initialized M_M_stub.1.cls ∈ mm_all := mm_w1 (i := 14) rfl rfl
theorem wm_M_stub : Cond.instanceMethod M_M_stub.1 ∈ mm_all := mm_w7 (i := 123) rfl rfl
theorem wc_M_scene : Cond.code M_M_scene.1 M_M_scene.2.1 M_M_scene.2.2.1 M_M_scene.2.2.2.1 ∈ mm_all := mm_w7 (i := 129) rfl rfl
theorem wi_M_scene : Cond.initialized M_M_scene.1.cls ∈ mm_all := mm_w1 (i := 14) rfl rfl
theorem wm_M_scene : Cond.instanceMethod M_M_scene.1 ∈ mm_all := mm_w7 (i := 127) rfl rfl
theorem wc_M_placeOf : Cond.code M_M_placeOf.1 M_M_placeOf.2.1 M_M_placeOf.2.2.1 M_M_placeOf.2.2.2.1 ∈ mm_all := mm_w7 (i := 133) rfl rfl
theorem wi_M_placeOf : Cond.initialized M_M_placeOf.1.cls ∈ mm_all := mm_w1 (i := 14) rfl rfl
theorem wm_M_placeOf : Cond.instanceMethod M_M_placeOf.1 ∈ mm_all := mm_w7 (i := 132) rfl rfl
theorem wc_M_remove : Cond.code M_M_remove.1 M_M_remove.2.1 M_M_remove.2.2.1 M_M_remove.2.2.2.1 ∈ mm_all := mm_w7 (i := 137) rfl rfl
theorem wi_M_remove : Cond.initialized M_M_remove.1.cls ∈ mm_all := mm_w1 (i := 14) rfl rfl
theorem wm_M_remove : Cond.instanceMethod M_M_remove.1 ∈ mm_all := mm_w7 (i := 135) rfl rfl
theorem wc_M_reset : Cond.code M_M_reset.1 M_M_reset.2.1 M_M_reset.2.2.1 M_M_reset.2.2.2.1 ∈ mm_all := mm_w7 (i := 141) rfl rfl
theorem wi_M_reset : Cond.initialized M_M_reset.1.cls ∈ mm_all := mm_w1 (i := 14) rfl rfl
theorem wm_M_reset : Cond.instanceMethod M_M_reset.1 ∈ mm_all := mm_w7 (i := 139) rfl rfl
theorem wc_M_count : Cond.code M_M_count.1 M_M_count.2.1 M_M_count.2.2.1 M_M_count.2.2.2.1 ∈ mm_all := mm_w7 (i := 145) rfl rfl
theorem wi_M_count : Cond.initialized M_M_count.1.cls ∈ mm_all := mm_w1 (i := 14) rfl rfl
theorem wm_M_count : Cond.instanceMethod M_M_count.1 ∈ mm_all := mm_w7 (i := 143) rfl rfl
theorem wc_M_journal : Cond.code M_M_journal.1 M_M_journal.2.1 M_M_journal.2.2.1 M_M_journal.2.2.2.1 ∈ mm_all := mm_w7 (i := 149) rfl rfl
theorem wi_M_journal : Cond.initialized M_M_journal.1.cls ∈ mm_all := mm_w1 (i := 14) rfl rfl
theorem wm_M_journal : Cond.instanceMethod M_M_journal.1 ∈ mm_all := mm_w7 (i := 147) rfl rfl
theorem wc_M_chosen : Cond.code M_M_chosen.1 M_M_chosen.2.1 M_M_chosen.2.2.1 M_M_chosen.2.2.2.1 ∈ mm_all := mm_w7 (i := 153) rfl rfl
theorem wi_M_chosen : Cond.initialized M_M_chosen.1.cls ∈ mm_all := mm_w1 (i := 14) rfl rfl
theorem wm_M_chosen : Cond.instanceMethod M_M_chosen.1 ∈ mm_all := mm_w7 (i := 151) rfl rfl
theorem wc_M_near : Cond.code M_M_near.1 M_M_near.2.1 M_M_near.2.2.1 M_M_near.2.2.2.1 ∈ mm_all := mm_w7 (i := 157) rfl rfl
theorem wi_M_near : Cond.initialized M_M_near.1.cls ∈ mm_all := mm_w1 (i := 14) rfl rfl
theorem wm_M_near : Cond.instanceMethod M_M_near.1 ∈ mm_all := mm_w7 (i := 155) rfl rfl
theorem wc_M_state : Cond.code M_M_state.1 M_M_state.2.1 M_M_state.2.2.1 M_M_state.2.2.2.1 ∈ mm_all := mm_w7 (i := 161) rfl rfl
theorem wi_M_state : Cond.initialized M_M_state.1.cls ∈ mm_all := mm_w1 (i := 14) rfl rfl
theorem wm_M_state : Cond.instanceMethod M_M_state.1 ∈ mm_all := mm_w7 (i := 159) rfl rfl
theorem wc_M_served : Cond.code M_M_served.1 M_M_served.2.1 M_M_served.2.2.1 M_M_served.2.2.2.1 ∈ mm_all := mm_w7 (i := 165) rfl rfl
theorem wi_M_served : Cond.initialized M_M_served.1.cls ∈ mm_all := mm_w1 (i := 14) rfl rfl
theorem wm_M_served : Cond.instanceMethod M_M_served.1 ∈ mm_all := mm_w7 (i := 163) rfl rfl
theorem oi_S_1 : Cond.methodLink "StubServer" 1 Lib.objectInit ∈ mm_all ∧ Cond.instanceMethod Lib.objectInit ∈ mm_all ∧ Cond.code Lib.objectInit ⟨#[0xb1]⟩ 1 none ∈ mm_all := ⟨(mm_w1 (i := 35) rfl rfl), wm_OB_init, wc_OB_init⟩
theorem cl_S_9 : Cond.classLink "StubServer" 9 "StubServer$Connection" ∈ mm_all := mm_w1 (i := 38) rfl rfl
theorem pl_S_init_11 : mm_PL M_S_init 11 3 0 (.array (.object "StubServer$Connection")) := ⟨_, _, _, "StubServer", rfl, by decide, (mm_w1 (i := 229) rfl rfl), Or.inl rfl, by decide +kernel, Or.inr ⟨rfl, rfl, rfl⟩⟩
theorem fl_S_11 : mm_FL "StubServer" 11 3 0 := ⟨_, _, _, "StubServer", rfl, by decide, (mm_w1 (i := 229) rfl rfl), Or.inl rfl⟩
theorem nl_S_9 : mm_NL "StubServer" 9 4 := ⟨_, _, _, rfl, (mm_w1 (i := 38) rfl rfl), (mm_w1 (i := 40) rfl rfl), (mm_w1 (i := 2) rfl rfl)⟩
theorem cs_S_15 : mm_CN "StubServer" 15 M_C_init 0 := ⟨by decide, wi_C_init, wc_C_init, ⟨by decide, by decide, by decide +kernel⟩, by decide, rfl, wm_C_init⟩
theorem pl_S_init_16 : mm_PL M_S_init 16 3 1 (.array .int) := ⟨_, _, _, "StubServer", rfl, by decide, (mm_w1 (i := 230) rfl rfl), Or.inl rfl, by decide +kernel, Or.inr ⟨rfl, rfl, rfl⟩⟩
theorem nl_S_20 : mm_NL "StubServer" 20 1 := ⟨_, _, _, rfl, (mm_w1 (i := 225) rfl rfl), (mm_w1 (i := 52) rfl rfl), (mm_w1 (i := 5) rfl rfl)⟩
theorem cs_S_22 : mm_CB "StubServer" 22 M_SB_init 0 ∧ M_SB_init.1.name = "<init>" ∧ Cond.instanceMethod M_SB_init.1 ∈ mm_all := ⟨⟨(mm_w1 (i := 226) rfl rfl), wi_SB_init, wc_SB_init, ⟨by decide, by decide, by decide +kernel⟩, by decide⟩, rfl, wm_SB_init⟩
theorem pl_S_init_23 : mm_PL M_S_init 23 3 2 (.object "java/lang/StringBuilder") := ⟨_, _, _, "StubServer", rfl, by decide, (mm_w1 (i := 231) rfl rfl), Or.inl rfl, by decide +kernel, Or.inr ⟨rfl, rfl, rfl⟩⟩
theorem nl_S_27 : mm_NL "StubServer" 27 2 := ⟨_, _, _, rfl, (mm_w1 (i := 227) rfl rfl), (mm_w1 (i := 103) rfl rfl), (mm_w1 (i := 12) rfl rfl)⟩
theorem cs_S_29 : mm_CB "StubServer" 29 M_AL_init 0 ∧ M_AL_init.1.name = "<init>" ∧ Cond.instanceMethod M_AL_init.1 ∈ mm_all := ⟨⟨(mm_w1 (i := 228) rfl rfl), wi_AL_init, wc_AL_init, ⟨by decide, by decide, by decide +kernel⟩, by decide⟩, rfl, wm_AL_init⟩
theorem pl_S_init_30 : mm_PL M_S_init 30 3 3 (.object "java/util/ArrayList") := ⟨_, _, _, "StubServer", rfl, by decide, (mm_w1 (i := 232) rfl rfl), Or.inl rfl, by decide +kernel, Or.inr ⟨rfl, rfl, rfl⟩⟩
theorem pl_S_init_34 : mm_PL M_S_init 34 3 4 (.object "java/util/ArrayList") := ⟨_, _, _, "StubServer", rfl, by decide, (mm_w1 (i := 233) rfl rfl), Or.inl rfl, by decide +kernel, Or.inr ⟨rfl, rfl, rfl⟩⟩
theorem pl_S_init_37 : mm_PL M_S_init 37 3 5 (.object "java/util/ArrayList") := ⟨_, _, _, "StubServer", rfl, by decide, (mm_w1 (i := 234) rfl rfl), Or.inl rfl, by decide +kernel, Or.inl rfl⟩
theorem oi_C_1 : Cond.methodLink "StubServer$Connection" 1 Lib.objectInit ∈ mm_all ∧ Cond.instanceMethod Lib.objectInit ∈ mm_all ∧ Cond.code Lib.objectInit ⟨#[0xb1]⟩ 1 none ∈ mm_all := ⟨(mm_w1 (i := 44) rfl rfl), wm_OB_init, wc_OB_init⟩
theorem nl_C_7 : mm_NL "StubServer$Connection" 7 5 := ⟨_, _, _, rfl, (mm_w1 (i := 45) rfl rfl), (mm_w1 (i := 46) rfl rfl), (mm_w1 (i := 3) rfl rfl)⟩
theorem cs_C_9 : mm_CN "StubServer$Connection" 9 M_R_init 0 := ⟨by decide, wi_R_init, wc_R_init, ⟨by decide, by decide, by decide +kernel⟩, by decide, rfl, wm_R_init⟩
theorem pl_C_init_10 : mm_PL M_C_init 10 4 0 (.object "StubServer$Reader") := ⟨_, _, _, "StubServer$Connection", rfl, by decide, (mm_w1 (i := 212) rfl rfl), Or.inl rfl, by decide +kernel, Or.inr ⟨rfl, rfl, rfl⟩⟩
theorem nl_C_16 : mm_NL "StubServer$Connection" 16 1 := ⟨_, _, _, rfl, (mm_w1 (i := 210) rfl rfl), (mm_w1 (i := 52) rfl rfl), (mm_w1 (i := 5) rfl rfl)⟩
theorem cs_C_18 : mm_CB "StubServer$Connection" 18 M_SB_init 0 ∧ M_SB_init.1.name = "<init>" ∧ Cond.instanceMethod M_SB_init.1 ∈ mm_all := ⟨⟨(mm_w1 (i := 211) rfl rfl), wi_SB_init, wc_SB_init, ⟨by decide, by decide, by decide +kernel⟩, by decide⟩, rfl, wm_SB_init⟩
theorem pl_C_init_19 : mm_PL M_C_init 19 4 1 (.object "java/lang/StringBuilder") := ⟨_, _, _, "StubServer$Connection", rfl, by decide, (mm_w1 (i := 214) rfl rfl), Or.inl rfl, by decide +kernel, Or.inr ⟨rfl, rfl, rfl⟩⟩
theorem pl_C_init_23 : mm_PL M_C_init 23 4 2 (.boolean) := ⟨_, _, _, "StubServer$Connection", rfl, by decide, (mm_w1 (i := 216) rfl rfl), Or.inl rfl, by decide +kernel, Or.inl rfl⟩
theorem oi_R_1 : Cond.methodLink "StubServer$Reader" 1 Lib.objectInit ∈ mm_all ∧ Cond.instanceMethod Lib.objectInit ∈ mm_all ∧ Cond.code Lib.objectInit ⟨#[0xb1]⟩ 1 none ∈ mm_all := ⟨(mm_w1 (i := 50) rfl rfl), wm_OB_init, wc_OB_init⟩
theorem nl_R_7 : mm_NL "StubServer$Reader" 7 1 := ⟨_, _, _, rfl, (mm_w1 (i := 51) rfl rfl), (mm_w1 (i := 52) rfl rfl), (mm_w1 (i := 5) rfl rfl)⟩
theorem cs_R_9 : mm_CB "StubServer$Reader" 9 M_SB_init 0 ∧ M_SB_init.1.name = "<init>" ∧ Cond.instanceMethod M_SB_init.1 ∈ mm_all := ⟨⟨(mm_w1 (i := 53) rfl rfl), wi_SB_init, wc_SB_init, ⟨by decide, by decide, by decide +kernel⟩, by decide⟩, rfl, wm_SB_init⟩
theorem pl_R_init_10 : mm_PL M_R_init 10 5 0 (.object "java/lang/StringBuilder") := ⟨_, _, _, "StubServer$Reader", rfl, by decide, (mm_w1 (i := 176) rfl rfl), Or.inl rfl, by decide +kernel, Or.inr ⟨rfl, rfl, rfl⟩⟩
theorem pl_R_init_16 : mm_PL M_R_init 16 5 1 (.object "java/lang/StringBuilder") := ⟨_, _, _, "StubServer$Reader", rfl, by decide, (mm_w1 (i := 177) rfl rfl), Or.inl rfl, by decide +kernel, Or.inr ⟨rfl, rfl, rfl⟩⟩
theorem nl_R_19 : mm_NL "StubServer$Reader" 19 6 := ⟨_, _, _, rfl, (mm_w1 (i := 84) rfl rfl), (mm_w1 (i := 85) rfl rfl), (mm_w1 (i := 8) rfl rfl)⟩
theorem cs_R_21 : mm_CN "StubServer$Reader" 21 M_Q_init 0 := ⟨by decide, wi_Q_init, wc_Q_init, ⟨by decide, by decide, by decide +kernel⟩, by decide, rfl, wm_Q_init⟩
theorem pl_R_init_22 : mm_PL M_R_init 22 5 2 (.object "StubServer$RequestLine") := ⟨_, _, _, "StubServer$Reader", rfl, by decide, (mm_w1 (i := 178) rfl rfl), Or.inl rfl, by decide +kernel, Or.inr ⟨rfl, rfl, rfl⟩⟩
theorem nl_R_26 : mm_NL "StubServer$Reader" 26 7 := ⟨_, _, _, rfl, (mm_w1 (i := 96) rfl rfl), (mm_w1 (i := 97) rfl rfl), (mm_w1 (i := 9) rfl rfl)⟩
theorem cs_R_28 : mm_CN "StubServer$Reader" 28 M_E_init 0 := ⟨by decide, wi_E_init, wc_E_init, ⟨by decide, by decide, by decide +kernel⟩, by decide, rfl, wm_E_init⟩
theorem pl_R_init_29 : mm_PL M_R_init 29 5 3 (.object "StubServer$Request") := ⟨_, _, _, "StubServer$Reader", rfl, by decide, (mm_w1 (i := 179) rfl rfl), Or.inl rfl, by decide +kernel, Or.inl rfl⟩
theorem pl_R_init_33 : mm_PL M_R_init 33 5 4 (.int) := ⟨_, _, _, "StubServer$Reader", rfl, by decide, (mm_w1 (i := 180) rfl rfl), Or.inl rfl, by decide +kernel, Or.inl rfl⟩
theorem cs_SB_1 : mm_CB "java/lang/StringBuilder" 1 M_AB_init 1 ∧ M_AB_init.1.name = "<init>" ∧ Cond.instanceMethod M_AB_init.1 ∈ mm_all := ⟨⟨(mm_w1 (i := 56) rfl rfl), wi_AB_init, wc_AB_init, ⟨by decide, by decide, by decide +kernel⟩, by decide⟩, rfl, wm_AB_init⟩
theorem oi_AB_3 : Cond.methodLink "java/lang/AbstractStringBuilder" 3 Lib.objectInit ∈ mm_all ∧ Cond.instanceMethod Lib.objectInit ∈ mm_all ∧ Cond.code Lib.objectInit ⟨#[0xb1]⟩ 1 none ∈ mm_all := ⟨(mm_w1 (i := 59) rfl rfl), wm_OB_init, wc_OB_init⟩
theorem gl_AB_18 : mm_GL "java/lang/AbstractStringBuilder" 18 (.int 1) := ⟨"java/lang/String", "COMPACT_STRINGS", "Z", "java/lang/String", List.mem_of_getElem? (i := 0) rfl, (mm_w1 (i := 60) rfl rfl), Or.inl rfl⟩
theorem pl_AB_init_15 : mm_PL M_AB_init 15 1 0 (.array .byte) := ⟨_, _, _, "java/lang/AbstractStringBuilder", rfl, by decide, (mm_w1 (i := 69) rfl rfl), Or.inl rfl, by decide +kernel, Or.inl rfl⟩
theorem pl_AB_init_22 : mm_PL M_AB_init 22 1 1 (.byte) := ⟨_, _, _, "java/lang/AbstractStringBuilder", rfl, by decide, (mm_w1 (i := 70) rfl rfl), Or.inl rfl, by decide +kernel, Or.inl rfl⟩
theorem cs_AB_26 : mm_CB "java/lang/AbstractStringBuilder" 26 M_U6_newBytesFor 1 ∧ Cond.static M_U6_newBytesFor.1 ∈ mm_all := ⟨⟨(mm_w1 (i := 62) rfl rfl), wi_U6_newBytesFor, wc_U6_newBytesFor, ⟨by decide, by decide, by decide +kernel⟩, by decide⟩, wt_U6_newBytesFor⟩
theorem cs_U6_11 : mm_CB "java/lang/StringUTF16" 11 M_U6_newBytesLength 1 ∧ Cond.static M_U6_newBytesLength.1 ∈ mm_all := ⟨⟨(mm_w1 (i := 65) rfl rfl), wi_U6_newBytesLength, wc_U6_newBytesLength, ⟨by decide, by decide, by decide +kernel⟩, by decide⟩, wt_U6_newBytesLength⟩
theorem ld_U6_20 : Cond.constant "java/lang/StringUTF16" 20 1073741823 ∈ mm_all := mm_w1 (i := 68) rfl rfl
theorem oi_Q_1 : Cond.methodLink "StubServer$RequestLine" 1 Lib.objectInit ∈ mm_all ∧ Cond.instanceMethod Lib.objectInit ∈ mm_all ∧ Cond.code Lib.objectInit ⟨#[0xb1]⟩ 1 none ∈ mm_all := ⟨(mm_w1 (i := 89) rfl rfl), wm_OB_init, wc_OB_init⟩
theorem nl_Q_7 : mm_NL "StubServer$RequestLine" 7 1 := ⟨_, _, _, rfl, (mm_w1 (i := 90) rfl rfl), (mm_w1 (i := 52) rfl rfl), (mm_w1 (i := 5) rfl rfl)⟩
theorem cs_Q_9 : mm_CB "StubServer$RequestLine" 9 M_SB_init 0 ∧ M_SB_init.1.name = "<init>" ∧ Cond.instanceMethod M_SB_init.1 ∈ mm_all := ⟨⟨(mm_w1 (i := 91) rfl rfl), wi_SB_init, wc_SB_init, ⟨by decide, by decide, by decide +kernel⟩, by decide⟩, rfl, wm_SB_init⟩
theorem pl_Q_init_10 : mm_PL M_Q_init 10 6 0 (.object "java/lang/StringBuilder") := ⟨_, _, _, "StubServer$RequestLine", rfl, by decide, (mm_w1 (i := 92) rfl rfl), Or.inl rfl, by decide +kernel, Or.inr ⟨rfl, rfl, rfl⟩⟩
theorem oi_E_1 : Cond.methodLink "StubServer$Request" 1 Lib.objectInit ∈ mm_all ∧ Cond.instanceMethod Lib.objectInit ∈ mm_all ∧ Cond.code Lib.objectInit ⟨#[0xb1]⟩ 1 none ∈ mm_all := ⟨(mm_w1 (i := 101) rfl rfl), wm_OB_init, wc_OB_init⟩
theorem nl_E_7 : mm_NL "StubServer$Request" 7 2 := ⟨_, _, _, rfl, (mm_w1 (i := 102) rfl rfl), (mm_w1 (i := 103) rfl rfl), (mm_w1 (i := 12) rfl rfl)⟩
theorem cs_E_9 : mm_CB "StubServer$Request" 9 M_AL_init 0 ∧ M_AL_init.1.name = "<init>" ∧ Cond.instanceMethod M_AL_init.1 ∈ mm_all := ⟨⟨(mm_w1 (i := 104) rfl rfl), wi_AL_init, wc_AL_init, ⟨by decide, by decide, by decide +kernel⟩, by decide⟩, rfl, wm_AL_init⟩
theorem pl_E_init_10 : mm_PL M_E_init 10 7 0 (.object "java/util/ArrayList") := ⟨_, _, _, "StubServer$Request", rfl, by decide, (mm_w1 (i := 148) rfl rfl), Or.inl rfl, by decide +kernel, Or.inr ⟨rfl, rfl, rfl⟩⟩
theorem pl_E_init_16 : mm_PL M_E_init 16 7 1 (.object "java/util/ArrayList") := ⟨_, _, _, "StubServer$Request", rfl, by decide, (mm_w1 (i := 150) rfl rfl), Or.inl rfl, by decide +kernel, Or.inr ⟨rfl, rfl, rfl⟩⟩
theorem nl_E_19 : mm_NL "StubServer$Request" 19 8 := ⟨_, _, _, rfl, (mm_w1 (i := 128) rfl rfl), (mm_w1 (i := 129) rfl rfl), (mm_w1 (i := 13) rfl rfl)⟩
theorem ld_E_21 : ("StubServer$Request", 21, "", 1) ∈ mm_strs := List.mem_of_getElem? (i := 0) rfl
theorem cs_E_23 : mm_CB "StubServer$Request" 23 M_P_init 2 ∧ M_P_init.1.name = "<init>" ∧ Cond.instanceMethod M_P_init.1 ∈ mm_all := ⟨⟨(mm_w1 (i := 131) rfl rfl), wi_P_init, wc_P_init, ⟨by decide, by decide, by decide +kernel⟩, by decide⟩, rfl, wm_P_init⟩
theorem pl_E_init_26 : mm_PL M_E_init 26 7 2 (.object "StubServer$Part") := ⟨_, _, _, "StubServer$Request", rfl, by decide, (mm_w1 (i := 152) rfl rfl), Or.inl rfl, by decide +kernel, Or.inl rfl⟩
theorem fl_E_26 : mm_FL "StubServer$Request" 26 7 2 := ⟨_, _, _, "StubServer$Request", rfl, by decide, (mm_w1 (i := 152) rfl rfl), Or.inl rfl⟩
theorem pl_E_init_30 : mm_PL M_E_init 30 7 3 (.object "StubServer$Part") := ⟨_, _, _, "StubServer$Request", rfl, by decide, (mm_w1 (i := 155) rfl rfl), Or.inl rfl, by decide +kernel, Or.inl rfl⟩
theorem pl_E_init_33 : mm_PL M_E_init 33 7 4 (.object "StubServer$Part") := ⟨_, _, _, "StubServer$Request", rfl, by decide, (mm_w1 (i := 158) rfl rfl), Or.inl rfl, by decide +kernel, Or.inl rfl⟩
theorem pl_E_init_36 : mm_PL M_E_init 36 7 5 (.int) := ⟨_, _, _, "StubServer$Request", rfl, by decide, (mm_w1 (i := 161) rfl rfl), Or.inl rfl, by decide +kernel, Or.inl rfl⟩
theorem cs_AL_1 : mm_CB "java/util/ArrayList" 1 M_AX_init 0 ∧ M_AX_init.1.name = "<init>" ∧ Cond.instanceMethod M_AX_init.1 ∈ mm_all := ⟨⟨(mm_w1 (i := 107) rfl rfl), wi_AX_init, wc_AX_init, ⟨by decide, by decide, by decide +kernel⟩, by decide⟩, rfl, wm_AX_init⟩
theorem gl_AL_39 : mm_GL "java/util/ArrayList" 39 (.ref 17) := ⟨"java/util/ArrayList", "DEFAULTCAPACITY_EMPTY_ELEMENTDATA", "[Ljava/lang/Object;", "java/util/ArrayList", List.mem_of_getElem? (i := 4) rfl, (mm_w1 (i := 114) rfl rfl), Or.inl rfl⟩
theorem pl_AL_init_9 : mm_PL M_AL_init 9 2 0 (.array (.object "java/lang/Object")) := ⟨_, _, _, "java/util/ArrayList", rfl, by decide, (mm_w1 (i := 116) rfl rfl), Or.inl rfl, by decide +kernel, Or.inl rfl⟩
theorem cs_AX_1 : mm_CB "java/util/AbstractList" 1 M_AC_init 0 ∧ M_AC_init.1.name = "<init>" ∧ Cond.instanceMethod M_AC_init.1 ∈ mm_all := ⟨⟨(mm_w1 (i := 110) rfl rfl), wi_AC_init, wc_AC_init, ⟨by decide, by decide, by decide +kernel⟩, by decide⟩, rfl, wm_AC_init⟩
theorem pl_AX_init_7 : mm_PL M_AX_init 7 2 2 (.int) := ⟨_, _, _, "java/util/AbstractList", rfl, by decide, (mm_w1 (i := 118) rfl rfl), Or.inl rfl, by decide +kernel, Or.inl rfl⟩
theorem oi_AC_1 : Cond.methodLink "java/util/AbstractCollection" 1 Lib.objectInit ∈ mm_all ∧ Cond.instanceMethod Lib.objectInit ∈ mm_all ∧ Cond.code Lib.objectInit ⟨#[0xb1]⟩ 1 none ∈ mm_all := ⟨(mm_w1 (i := 113) rfl rfl), wm_OB_init, wc_OB_init⟩
theorem oi_P_1 : Cond.methodLink "StubServer$Part" 1 Lib.objectInit ∈ mm_all ∧ Cond.instanceMethod Lib.objectInit ∈ mm_all ∧ Cond.code Lib.objectInit ⟨#[0xb1]⟩ 1 none ∈ mm_all := ⟨(mm_w1 (i := 134) rfl rfl), wm_OB_init, wc_OB_init⟩
theorem pl_P_init_7 : mm_PL M_P_init 7 8 0 (.object "java/lang/String") := ⟨_, _, _, "StubServer$Part", rfl, by decide, (mm_w1 (i := 135) rfl rfl), Or.inl rfl, by decide +kernel, Or.inr ⟨rfl, rfl, rfl⟩⟩
theorem pl_P_init_13 : mm_PL M_P_init 13 8 1 (.object "java/lang/String") := ⟨_, _, _, "StubServer$Part", rfl, by decide, (mm_w1 (i := 138) rfl rfl), Or.inl rfl, by decide +kernel, Or.inr ⟨rfl, rfl, rfl⟩⟩
theorem cs_S_40 : mm_CB "StubServer" 40 M_S_isOpen 1 ∧ Cond.instanceMethod M_S_isOpen.1 ∈ mm_all ∧ Cond.selects M_S_isOpen.1.cls M_S_isOpen.1 M_S_isOpen.1 ∈ mm_all := ⟨⟨(mm_w2 (i := 19) rfl rfl), wi_S_isOpen, wc_S_isOpen, ⟨by decide, by decide, by decide +kernel⟩, by decide⟩, wm_S_isOpen, (mm_w2 (i := 21) rfl rfl)⟩
theorem fl_S_44 : mm_FL "StubServer" 44 4 0 := ⟨_, _, _, "StubServer$Connection", rfl, by decide, (mm_w1 (i := 213) rfl rfl), Or.inl rfl⟩
theorem cs_S_48 : mm_CB "StubServer" 48 M_S_byteOf 2 ∧ Cond.static M_S_byteOf.1 ∈ mm_all := ⟨⟨(mm_w2 (i := 26) rfl rfl), wi_S_byteOf, wc_S_byteOf, ⟨by decide, by decide, by decide +kernel⟩, by decide⟩, wt_S_byteOf⟩
theorem cs_S_52 : mm_CB "StubServer" 52 M_R_take 1 ∧ Cond.instanceMethod M_R_take.1 ∈ mm_all ∧ Cond.selects M_R_take.1.cls M_R_take.1 M_R_take.1 ∈ mm_all := ⟨⟨(mm_w2 (i := 29) rfl rfl), wi_R_take, wc_R_take, ⟨by decide, by decide, by decide +kernel⟩, by decide⟩, wm_R_take, (mm_w2 (i := 31) rfl rfl)⟩
theorem cs_S_58 : mm_CB "StubServer" 58 M_S_serve 1 ∧ Cond.instanceMethod M_S_serve.1 ∈ mm_all ∧ Cond.selects M_S_serve.1.cls M_S_serve.1 M_S_serve.1 ∈ mm_all := ⟨⟨(mm_w4 (i := 53) rfl rfl), wi_S_serve, wc_S_serve, ⟨by decide, by decide, by decide +kernel⟩, by decide⟩, wm_S_serve, (mm_w0 (i := 17) rfl rfl)⟩
theorem cs_S_62 : mm_CB "StubServer" 62 M_C_refuse 1 ∧ Cond.instanceMethod M_C_refuse.1 ∈ mm_all ∧ Cond.selects M_C_refuse.1.cls M_C_refuse.1 M_C_refuse.1 ∈ mm_all := ⟨⟨(mm_w4 (i := 239) rfl rfl), wi_C_refuse, wc_C_refuse, ⟨by decide, by decide, by decide +kernel⟩, by decide⟩, wm_C_refuse, (mm_w5 (i := 1) rfl rfl)⟩
theorem fl_S_66 : mm_FL "StubServer" 66 4 2 := ⟨_, _, _, "StubServer$Connection", rfl, by decide, (mm_w1 (i := 217) rfl rfl), Or.inl rfl⟩
theorem cs_S_70 : mm_CB "StubServer" 70 M_S_isConnection 1 ∧ Cond.static M_S_isConnection.1 ∈ mm_all := ⟨⟨(mm_w2 (i := 23) rfl rfl), wi_S_isConnection, wc_S_isConnection, ⟨by decide, by decide, by decide +kernel⟩, by decide⟩, wt_S_isConnection⟩
theorem fl_R_33 : mm_FL "StubServer$Reader" 33 5 4 := ⟨_, _, _, "StubServer$Reader", rfl, by decide, (mm_w1 (i := 180) rfl rfl), Or.inl rfl⟩
theorem cs_R_77 : mm_CB "StubServer$Reader" 77 M_R_takeInRequestLine 1 ∧ Cond.instanceMethod M_R_takeInRequestLine.1 ∈ mm_all ∧ Cond.selects M_R_takeInRequestLine.1.cls M_R_takeInRequestLine.1 M_R_takeInRequestLine.1 ∈ mm_all := ⟨⟨(mm_w2 (i := 33) rfl rfl), wi_R_takeInRequestLine, wc_R_takeInRequestLine, ⟨by decide, by decide, by decide +kernel⟩, by decide⟩, wm_R_takeInRequestLine, (mm_w0 (i := 0) rfl rfl)⟩
theorem cs_R_81 : mm_CB "StubServer$Reader" 81 M_R_takeInHeaders 1 ∧ Cond.instanceMethod M_R_takeInHeaders.1 ∈ mm_all ∧ Cond.selects M_R_takeInHeaders.1.cls M_R_takeInHeaders.1 M_R_takeInHeaders.1 ∈ mm_all := ⟨⟨(mm_w3 (i := 188) rfl rfl), wi_R_takeInHeaders, wc_R_takeInHeaders, ⟨by decide, by decide, by decide +kernel⟩, by decide⟩, wm_R_takeInHeaders, (mm_w0 (i := 8) rfl rfl)⟩
theorem cs_R_84 : mm_CB "StubServer$Reader" 84 M_R_takeInBody 1 ∧ Cond.instanceMethod M_R_takeInBody.1 ∈ mm_all ∧ Cond.selects M_R_takeInBody.1.cls M_R_takeInBody.1 M_R_takeInBody.1 ∈ mm_all := ⟨⟨(mm_w4 (i := 32) rfl rfl), wi_R_takeInBody, wc_R_takeInBody, ⟨by decide, by decide, by decide +kernel⟩, by decide⟩, wm_R_takeInBody, (mm_w0 (i := 12) rfl rfl)⟩
theorem cs_R_87 : mm_CB "StubServer$Reader" 87 M_R_takeInChunkSize 1 ∧ Cond.instanceMethod M_R_takeInChunkSize.1 ∈ mm_all ∧ Cond.selects M_R_takeInChunkSize.1.cls M_R_takeInChunkSize.1 M_R_takeInChunkSize.1 ∈ mm_all := ⟨⟨(mm_w4 (i := 36) rfl rfl), wi_R_takeInChunkSize, wc_R_takeInChunkSize, ⟨by decide, by decide, by decide +kernel⟩, by decide⟩, wm_R_takeInChunkSize, (mm_w0 (i := 13) rfl rfl)⟩
theorem cs_R_90 : mm_CB "StubServer$Reader" 90 M_R_takeInChunk 1 ∧ Cond.instanceMethod M_R_takeInChunk.1 ∈ mm_all ∧ Cond.selects M_R_takeInChunk.1.cls M_R_takeInChunk.1 M_R_takeInChunk.1 ∈ mm_all := ⟨⟨(mm_w4 (i := 45) rfl rfl), wi_R_takeInChunk, wc_R_takeInChunk, ⟨by decide, by decide, by decide +kernel⟩, by decide⟩, wm_R_takeInChunk, (mm_w0 (i := 15) rfl rfl)⟩
theorem cs_R_93 : mm_CB "StubServer$Reader" 93 M_R_takeInChunkEnd 1 ∧ Cond.instanceMethod M_R_takeInChunkEnd.1 ∈ mm_all ∧ Cond.selects M_R_takeInChunkEnd.1.cls M_R_takeInChunkEnd.1 M_R_takeInChunkEnd.1 ∈ mm_all := ⟨⟨(mm_w4 (i := 49) rfl rfl), wi_R_takeInChunkEnd, wc_R_takeInChunkEnd, ⟨by decide, by decide, by decide +kernel⟩, by decide⟩, wm_R_takeInChunkEnd, (mm_w0 (i := 16) rfl rfl)⟩
theorem cs_R_96 : mm_CB "StubServer$Reader" 96 M_R_takeInLine 3 ∧ Cond.instanceMethod M_R_takeInLine.1 ∈ mm_all ∧ Cond.selects M_R_takeInLine.1.cls M_R_takeInLine.1 M_R_takeInLine.1 ∈ mm_all := ⟨⟨(mm_w2 (i := 37) rfl rfl), wi_R_takeInLine, wc_R_takeInLine, ⟨by decide, by decide, by decide +kernel⟩, by decide⟩, wm_R_takeInLine, (mm_w0 (i := 1) rfl rfl)⟩
theorem pl_R_takeInRequestLine_33 : mm_PL M_R_takeInRequestLine 33 5 4 (.int) := ⟨_, _, _, "StubServer$Reader", rfl, by decide, (mm_w1 (i := 180) rfl rfl), Or.inl rfl, by decide +kernel, Or.inl rfl⟩
theorem fl_R_22 : mm_FL "StubServer$Reader" 22 5 2 := ⟨_, _, _, "StubServer$Reader", rfl, by decide, (mm_w1 (i := 178) rfl rfl), Or.inl rfl⟩
theorem cs_R_100 : mm_CB "StubServer$Reader" 100 M_R_endLine 0 ∧ Cond.instanceMethod M_R_endLine.1 ∈ mm_all ∧ Cond.selects M_R_endLine.1.cls M_R_endLine.1 M_R_endLine.1 ∈ mm_all := ⟨⟨(mm_w2 (i := 146) rfl rfl), wi_R_endLine, wc_R_endLine, ⟨by decide, by decide, by decide +kernel⟩, by decide⟩, wm_R_endLine, (mm_w0 (i := 2) rfl rfl)⟩
theorem fl_R_29 : mm_FL "StubServer$Reader" 29 5 3 := ⟨_, _, _, "StubServer$Reader", rfl, by decide, (mm_w1 (i := 179) rfl rfl), Or.inl rfl⟩
theorem cs_R_103 : mm_CB "StubServer$Reader" 103 M_Q_read 2 ∧ Cond.instanceMethod M_Q_read.1 ∈ mm_all ∧ Cond.selects M_Q_read.1.cls M_Q_read.1 M_Q_read.1 ∈ mm_all := ⟨⟨(mm_w2 (i := 224) rfl rfl), wi_Q_read, wc_Q_read, ⟨by decide, by decide, by decide +kernel⟩, by decide⟩, wm_Q_read, (mm_w2 (i := 226) rfl rfl)⟩
theorem fl_R_41 : mm_FL "StubServer$Reader" 41 5 5 := ⟨_, _, _, "StubServer$Reader", rfl, by decide, (mm_w1 (i := 181) rfl rfl), Or.inl rfl⟩
theorem pl_R_takeInLine_41 : mm_PL M_R_takeInLine 41 5 5 (.boolean) := ⟨_, _, _, "StubServer$Reader", rfl, by decide, (mm_w1 (i := 181) rfl rfl), Or.inl rfl, by decide +kernel, Or.inl rfl⟩
theorem cs_R_138 : mm_CB "StubServer$Reader" 138 M_X_isPlain 1 ∧ Cond.static M_X_isPlain.1 ∈ mm_all := ⟨⟨(mm_w2 (i := 41) rfl rfl), wi_X_isPlain, wc_X_isPlain, ⟨by decide, by decide, by decide +kernel⟩, by decide⟩, wt_X_isPlain⟩
theorem fl_R_10 : mm_FL "StubServer$Reader" 10 5 0 := ⟨_, _, _, "StubServer$Reader", rfl, by decide, (mm_w1 (i := 176) rfl rfl), Or.inl rfl⟩
theorem cs_R_144 : mm_CB "StubServer$Reader" 144 M_SB_length 0 ∧ Cond.instanceMethod M_SB_length.1 ∈ mm_all ∧ Cond.selects M_SB_length.1.cls M_SB_length.1 M_SB_length.1 ∈ mm_all := ⟨⟨(mm_w2 (i := 44) rfl rfl), wi_SB_length, wc_SB_length, ⟨by decide, by decide, by decide +kernel⟩, by decide⟩, wm_SB_length, (mm_w2 (i := 46) rfl rfl)⟩
theorem cs_R_147 : mm_CB "StubServer$Reader" 147 M_SB_append_C 1 ∧ Cond.instanceMethod M_SB_append_C.1 ∈ mm_all ∧ Cond.selects M_SB_append_C.1.cls M_SB_append_C.1 M_SB_append_C.1 ∈ mm_all := ⟨⟨(mm_w2 (i := 51) rfl rfl), wi_SB_append_C, wc_SB_append_C, ⟨by decide, by decide, by decide +kernel⟩, by decide⟩, wm_SB_append_C, (mm_w2 (i := 53) rfl rfl)⟩
theorem cs_SB_343 : mm_CP "java/lang/StringBuilder" 343 M_AB_length 0 := ⟨(mm_w2 (i := 48) rfl rfl), wi_AB_length, wc_AB_length, ⟨by decide, by decide +kernel⟩, by decide, (mm_w7 (i := 166) rfl rfl), (mm_w1 (i := 82) rfl rfl), wm_AB_length⟩
theorem fl_AB_79 : mm_FL "java/lang/AbstractStringBuilder" 79 1 3 := ⟨_, _, _, "java/lang/AbstractStringBuilder", rfl, by decide, (mm_w1 (i := 73) rfl rfl), Or.inl rfl⟩
theorem cs_SB_50 : mm_CP "java/lang/StringBuilder" 50 M_AB_append_C 1 := ⟨(mm_w2 (i := 55) rfl rfl), wi_AB_append_C, wc_AB_append_C, ⟨by decide, by decide +kernel⟩, by decide, (mm_w7 (i := 167) rfl rfl), (mm_w1 (i := 82) rfl rfl), wm_AB_append_C⟩
theorem cs_AB_100 : mm_CU "java/lang/AbstractStringBuilder" 100 M_AB_ensureCapacityInternal.1 "java/lang/AbstractStringBuilder" "java/lang/StringBuilder" M_AB_ensureCapacityInternal 1 := ⟨(mm_w2 (i := 58) rfl rfl), wi_AB_ensureCapacityInternal, wc_AB_ensureCapacityInternal, ⟨by decide, by decide, by decide +kernel⟩, by decide, (mm_w7 (i := 168) rfl rfl), wm_AB_ensureCapacityInternal, mm_w9 (i := 0) rfl rfl, Or.inl rfl⟩
theorem cs_AB_83 : mm_CU "java/lang/AbstractStringBuilder" 83 M_AB_isLatin1.1 "java/lang/AbstractStringBuilder" "java/lang/StringBuilder" M_AB_isLatin1 0 := ⟨(mm_w2 (i := 93) rfl rfl), wi_AB_isLatin1, wc_AB_isLatin1, ⟨by decide, by decide, by decide +kernel⟩, by decide, (mm_w2 (i := 95) rfl rfl), wm_AB_isLatin1, (mm_w2 (i := 96) rfl rfl), Or.inl rfl⟩
theorem cs_AB_191 : mm_CB "java/lang/AbstractStringBuilder" 191 M_L1_canEncode_C 1 ∧ Cond.static M_L1_canEncode_C.1 ∈ mm_all := ⟨⟨(mm_w2 (i := 98) rfl rfl), wi_L1_canEncode_C, wc_L1_canEncode_C, ⟨by decide, by decide, by decide +kernel⟩, by decide⟩, wt_L1_canEncode_C⟩
theorem fl_AB_15 : mm_FL "java/lang/AbstractStringBuilder" 15 1 0 := ⟨_, _, _, "java/lang/AbstractStringBuilder", rfl, by decide, (mm_w1 (i := 69) rfl rfl), Or.inl rfl⟩
theorem pl_AB_append_C_79 : mm_PL M_AB_append_C 79 1 3 (.int) := ⟨_, _, _, "java/lang/AbstractStringBuilder", rfl, by decide, (mm_w1 (i := 73) rfl rfl), Or.inl rfl, by decide +kernel, Or.inl rfl⟩
theorem cs_AB_195 : mm_CU "java/lang/AbstractStringBuilder" 195 M_AB_inflate.1 "java/lang/AbstractStringBuilder" "java/lang/StringBuilder" M_AB_inflate 0 := ⟨(mm_w2 (i := 101) rfl rfl), wi_AB_inflate, wc_AB_inflate, ⟨by decide, by decide, by decide +kernel⟩, by decide, (mm_w7 (i := 170) rfl rfl), wm_AB_inflate, mm_w9 (i := 2) rfl rfl, Or.inl rfl⟩
theorem cs_AB_197 : mm_CB "java/lang/AbstractStringBuilder" 197 M_U6_putCharSB 3 ∧ Cond.static M_U6_putCharSB.1 ∈ mm_all := ⟨⟨(mm_w2 (i := 134) rfl rfl), wi_U6_putCharSB, wc_U6_putCharSB, ⟨by decide, by decide, by decide +kernel⟩, by decide⟩, wt_U6_putCharSB⟩
theorem fl_AB_22 : mm_FL "java/lang/AbstractStringBuilder" 22 1 1 := ⟨_, _, _, "java/lang/AbstractStringBuilder", rfl, by decide, (mm_w1 (i := 70) rfl rfl), Or.inl rfl⟩
theorem cs_AB_104 : mm_CU "java/lang/AbstractStringBuilder" 104 M_AB_newCapacity.1 "java/lang/AbstractStringBuilder" "java/lang/StringBuilder" M_AB_newCapacity 1 := ⟨(mm_w2 (i := 62) rfl rfl), wi_AB_newCapacity, wc_AB_newCapacity, ⟨by decide, by decide, by decide +kernel⟩, by decide, (mm_w7 (i := 169) rfl rfl), wm_AB_newCapacity, mm_w9 (i := 1) rfl rfl, Or.inl rfl⟩
theorem cs_AB_108 : mm_CB "java/lang/AbstractStringBuilder" 108 M_AR_copyOf_aBI 2 ∧ Cond.static M_AR_copyOf_aBI.1 ∈ mm_all := ⟨⟨(mm_w2 (i := 77) rfl rfl), wi_AR_copyOf_aBI, wc_AR_copyOf_aBI, ⟨by decide, by decide, by decide +kernel⟩, by decide⟩, wt_AR_copyOf_aBI⟩
theorem pl_AB_ensureCapacityInternal_15 : mm_PL M_AB_ensureCapacityInternal 15 1 0 (.array .byte) := ⟨_, _, _, "java/lang/AbstractStringBuilder", rfl, by decide, (mm_w1 (i := 69) rfl rfl), Or.inl rfl, by decide +kernel, Or.inl rfl⟩
theorem cs_AB_114 : mm_CB "java/lang/AbstractStringBuilder" 114 M_AS_newLength 3 ∧ Cond.static M_AS_newLength.1 ∈ mm_all := ⟨⟨(mm_w2 (i := 66) rfl rfl), wi_AS_newLength, wc_AS_newLength, ⟨by decide, by decide, by decide +kernel⟩, by decide⟩, wt_AS_newLength⟩
theorem ld_AB_39 : Cond.constant "java/lang/AbstractStringBuilder" 39 2147483647 ∈ mm_all := mm_w2 (i := 76) rfl rfl
theorem cs_AS_194 : mm_CB "jdk/internal/util/ArraysSupport" 194 M_MA_max 2 ∧ Cond.static M_MA_max.1 ∈ mm_all := ⟨⟨(mm_w2 (i := 69) rfl rfl), wi_MA_max, wc_MA_max, ⟨by decide, by decide, by decide +kernel⟩, by decide⟩, wt_MA_max⟩
theorem ld_AS_200 : Cond.constant "jdk/internal/util/ArraysSupport" 200 2147483639 ∈ mm_all := mm_w2 (i := 72) rfl rfl
theorem cs_AS_201 : mm_CB "jdk/internal/util/ArraysSupport" 201 M_AS_hugeLength 2 ∧ Cond.static M_AS_hugeLength.1 ∈ mm_all := ⟨⟨(mm_w2 (i := 73) rfl rfl), wi_AS_hugeLength, wc_AS_hugeLength, ⟨by decide, by decide, by decide +kernel⟩, by decide⟩, wt_AS_hugeLength⟩
theorem cn_AR_310 : mm_CL "java/util/Arrays" 310 := ⟨(mm_w2 (i := 80) rfl rfl), (mm_w2 (i := 81) rfl rfl), (mm_w2 (i := 82) rfl rfl), (mm_w2 (i := 83) rfl rfl), (mm_w2 (i := 84) rfl rfl)⟩
theorem cl_AR_311 : Cond.classLink "java/util/Arrays" 311 "[B" ∈ mm_all := mm_w2 (i := 86) rfl rfl
theorem cs_AR_304 : mm_CB "java/util/Arrays" 304 M_MA_min 2 ∧ Cond.static M_MA_min.1 ∈ mm_all := ⟨⟨(mm_w2 (i := 87) rfl rfl), wi_MA_min, wc_MA_min, ⟨by decide, by decide, by decide +kernel⟩, by decide⟩, wt_MA_min⟩
theorem ac_AR_150 : mm_AC "java/util/Arrays" 150 := ⟨(mm_w2 (i := 90) rfl rfl), (mm_w2 (i := 92) rfl rfl), (mm_w2 (i := 91) rfl rfl), (mm_w1 (i := 19) rfl rfl)⟩
theorem cs_AB_125 : mm_CB "java/lang/AbstractStringBuilder" 125 M_L1_inflate_aBIaBII 5 ∧ Cond.static M_L1_inflate_aBIaBII.1 ∈ mm_all := ⟨⟨(mm_w2 (i := 105) rfl rfl), wi_L1_inflate_aBIaBII, wc_L1_inflate_aBIaBII, ⟨by decide, by decide, by decide +kernel⟩, by decide⟩, wt_L1_inflate_aBIaBII⟩
theorem pl_AB_inflate_15 : mm_PL M_AB_inflate 15 1 0 (.array .byte) := ⟨_, _, _, "java/lang/AbstractStringBuilder", rfl, by decide, (mm_w1 (i := 69) rfl rfl), Or.inl rfl, by decide +kernel, Or.inl rfl⟩
theorem pl_AB_inflate_22 : mm_PL M_AB_inflate 22 1 1 (.byte) := ⟨_, _, _, "java/lang/AbstractStringBuilder", rfl, by decide, (mm_w1 (i := 70) rfl rfl), Or.inl rfl, by decide +kernel, Or.inl rfl⟩
theorem cs_L1_240 : mm_CB "java/lang/StringLatin1" 240 M_U6_inflate 5 ∧ Cond.static M_U6_inflate.1 ∈ mm_all := ⟨⟨(mm_w2 (i := 108) rfl rfl), wi_U6_inflate, wc_U6_inflate, ⟨by decide, by decide, by decide +kernel⟩, by decide⟩, wt_U6_inflate⟩
theorem cs_U6_173 : mm_CB "java/lang/StringUTF16" 173 M_U6_checkBoundsOffCount 3 ∧ Cond.static M_U6_checkBoundsOffCount.1 ∈ mm_all := ⟨⟨(mm_w2 (i := 111) rfl rfl), wi_U6_checkBoundsOffCount, wc_U6_checkBoundsOffCount, ⟨by decide, by decide, by decide +kernel⟩, by decide⟩, wt_U6_checkBoundsOffCount⟩
theorem cs_U6_111 : mm_CB "java/lang/StringUTF16" 111 M_U6_putChar 3 ∧ Cond.static M_U6_putChar.1 ∈ mm_all := ⟨⟨(mm_w2 (i := 125) rfl rfl), wi_U6_putChar, wc_U6_putChar, ⟨by decide, by decide, by decide +kernel⟩, by decide⟩, wt_U6_putChar⟩
theorem cs_U6_48 : mm_CB "java/lang/StringUTF16" 48 M_U6_length 1 ∧ Cond.static M_U6_length.1 ∈ mm_all := ⟨⟨(mm_w2 (i := 114) rfl rfl), wi_U6_length, wc_U6_length, ⟨by decide, by decide, by decide +kernel⟩, by decide⟩, wt_U6_length⟩
theorem cs_U6_419 : mm_CB "java/lang/StringUTF16" 419 M_ST_checkBoundsOffCount 3 ∧ Cond.static M_ST_checkBoundsOffCount.1 ∈ mm_all := ⟨⟨(mm_w2 (i := 117) rfl rfl), wi_ST_checkBoundsOffCount, wc_ST_checkBoundsOffCount, ⟨by decide, by decide, by decide +kernel⟩, by decide⟩, wt_ST_checkBoundsOffCount⟩
theorem gl_ST_1053 : Cond.fieldLink "java/lang/String" 1053 "jdk/internal/util/Preconditions" "SIOOBE_FORMATTER" "Ljava/util/function/BiFunction;" ∈ mm_all := mm_w2 (i := 120) rfl rfl
theorem cs_ST_1065 : mm_CB "java/lang/String" 1065 M_PC_checkFromIndexSize 4 ∧ Cond.static M_PC_checkFromIndexSize.1 ∈ mm_all := ⟨⟨(mm_w2 (i := 122) rfl rfl), wi_PC_checkFromIndexSize, wc_PC_checkFromIndexSize, ⟨by decide, by decide, by decide +kernel⟩, by decide⟩, wt_PC_checkFromIndexSize⟩
theorem gl_U6_44 : mm_GL "java/lang/StringUTF16" 44 (.int 1) := ⟨"java/lang/StringUTF16", "$assertionsDisabled", "Z", "java/lang/StringUTF16", List.mem_of_getElem? (i := 1) rfl, (mm_w2 (i := 128) rfl rfl), Or.inl rfl⟩
theorem gl_U6_59 : Cond.fieldLink "java/lang/StringUTF16" 59 "java/lang/StringUTF16" "HI_BYTE_SHIFT" "I" ∈ mm_all := mm_w2 (i := 130) rfl rfl
theorem gl_U6_63 : Cond.fieldLink "java/lang/StringUTF16" 63 "java/lang/StringUTF16" "LO_BYTE_SHIFT" "I" ∈ mm_all := mm_w2 (i := 132) rfl rfl
theorem cs_U6_67 : mm_CB "java/lang/StringUTF16" 67 M_U6_checkIndex 2 ∧ Cond.static M_U6_checkIndex.1 ∈ mm_all := ⟨⟨(mm_w2 (i := 137) rfl rfl), wi_U6_checkIndex, wc_U6_checkIndex, ⟨by decide, by decide, by decide +kernel⟩, by decide⟩, wt_U6_checkIndex⟩
theorem cs_U6_414 : mm_CB "java/lang/StringUTF16" 414 M_ST_checkIndex 2 ∧ Cond.static M_ST_checkIndex.1 ∈ mm_all := ⟨⟨(mm_w2 (i := 140) rfl rfl), wi_ST_checkIndex, wc_ST_checkIndex, ⟨by decide, by decide, by decide +kernel⟩, by decide⟩, wt_ST_checkIndex⟩
theorem cs_ST_1059 : mm_CB "java/lang/String" 1059 M_PC_checkIndex 3 ∧ Cond.static M_PC_checkIndex.1 ∈ mm_all := ⟨⟨(mm_w2 (i := 143) rfl rfl), wi_PC_checkIndex, wc_PC_checkIndex, ⟨by decide, by decide, by decide +kernel⟩, by decide⟩, wt_PC_checkIndex⟩
theorem cs_R_64 : mm_CB "StubServer$Reader" 64 M_SB_toString 0 ∧ Cond.instanceMethod M_SB_toString.1 ∈ mm_all ∧ Cond.selects M_SB_toString.1.cls M_SB_toString.1 M_SB_toString.1 ∈ mm_all := ⟨⟨(mm_w2 (i := 150) rfl rfl), wi_SB_toString, wc_SB_toString, ⟨by decide, by decide, by decide +kernel⟩, by decide⟩, wm_SB_toString, (mm_w2 (i := 152) rfl rfl)⟩
theorem cs_R_37 : mm_CB "StubServer$Reader" 37 M_SB_setLength 1 ∧ Cond.instanceMethod M_SB_setLength.1 ∈ mm_all ∧ Cond.selects M_SB_setLength.1.cls M_SB_setLength.1 M_SB_setLength.1 ∈ mm_all := ⟨⟨(mm_w2 (i := 204) rfl rfl), wi_SB_setLength, wc_SB_setLength, ⟨by decide, by decide, by decide +kernel⟩, by decide⟩, wm_SB_setLength, (mm_w2 (i := 206) rfl rfl)⟩
theorem pl_R_endLine_41 : mm_PL M_R_endLine 41 5 5 (.boolean) := ⟨_, _, _, "StubServer$Reader", rfl, by decide, (mm_w1 (i := 181) rfl rfl), Or.inl rfl, by decide +kernel, Or.inl rfl⟩
theorem nl_SB_18 : mm_NL "java/lang/StringBuilder" 18 0 := ⟨_, _, _, rfl, (mm_w2 (i := 154) rfl rfl), (mm_w2 (i := 155) rfl rfl), (mm_w1 (i := 6) rfl rfl)⟩
theorem cs_SB_137 : mm_CB "java/lang/StringBuilder" 137 M_ST_init_S 1 ∧ M_ST_init_S.1.name = "<init>" ∧ Cond.instanceMethod M_ST_init_S.1 ∈ mm_all := ⟨⟨(mm_w2 (i := 156) rfl rfl), wi_ST_init_S, wc_ST_init_S, ⟨by decide, by decide, by decide +kernel⟩, by decide⟩, rfl, wm_ST_init_S⟩
theorem cs_ST_489 : mm_CB "java/lang/String" 489 M_ST_init_AV 2 ∧ M_ST_init_AV.1.name = "<init>" ∧ Cond.instanceMethod M_ST_init_AV.1 ∈ mm_all := ⟨⟨(mm_w2 (i := 159) rfl rfl), wi_ST_init_AV, wc_ST_init_AV, ⟨by decide, by decide, by decide +kernel⟩, by decide⟩, rfl, wm_ST_init_AV⟩
theorem oi_ST_1 : Cond.methodLink "java/lang/String" 1 Lib.objectInit ∈ mm_all ∧ Cond.instanceMethod Lib.objectInit ∈ mm_all ∧ Cond.code Lib.objectInit ⟨#[0xb1]⟩ 1 none ∈ mm_all := ⟨(mm_w2 (i := 162) rfl rfl), wm_OB_init, wc_OB_init⟩
theorem cs_ST_552 : mm_CU "java/lang/String" 552 M_AB_getValue.1 "java/lang/AbstractStringBuilder" "java/lang/StringBuilder" M_AB_getValue 0 := ⟨(mm_w2 (i := 163) rfl rfl), wi_AB_getValue, wc_AB_getValue, ⟨by decide, by decide, by decide +kernel⟩, by decide, (mm_w2 (i := 165) rfl rfl), wm_AB_getValue, (mm_w2 (i := 166) rfl rfl), Or.inl rfl⟩
theorem cs_ST_549 : mm_CU "java/lang/String" 549 M_AB_length.1 "java/lang/AbstractStringBuilder" "java/lang/StringBuilder" M_SB_length 0 := ⟨(mm_w2 (i := 168) rfl rfl), wi_SB_length, wc_SB_length, ⟨by decide, by decide, by decide +kernel⟩, by decide, (mm_w7 (i := 166) rfl rfl), wm_SB_length, (mm_w7 (i := 171) rfl rfl), Or.inr ⟨wm_AB_length, _, _, _, wc_AB_length⟩⟩
theorem cs_ST_1047 : mm_CU "java/lang/String" 1047 M_AB_isLatin1.1 "java/lang/AbstractStringBuilder" "java/lang/StringBuilder" M_AB_isLatin1 0 := ⟨(mm_w2 (i := 169) rfl rfl), wi_AB_isLatin1, wc_AB_isLatin1, ⟨by decide, by decide, by decide +kernel⟩, by decide, (mm_w2 (i := 95) rfl rfl), wm_AB_isLatin1, (mm_w2 (i := 96) rfl rfl), Or.inl rfl⟩
theorem pl_ST_init_AV_15 : mm_PL M_ST_init_AV 15 0 1 (.byte) := ⟨_, _, _, "java/lang/String", rfl, by decide, (mm_w2 (i := 194) rfl rfl), Or.inl rfl, by decide +kernel, Or.inr ⟨rfl, rfl, rfl⟩⟩
theorem cs_ST_54 : mm_CB "java/lang/String" 54 M_AR_copyOfRange 3 ∧ Cond.static M_AR_copyOfRange.1 ∈ mm_all := ⟨⟨(mm_w2 (i := 170) rfl rfl), wi_AR_copyOfRange, wc_AR_copyOfRange, ⟨by decide, by decide, by decide +kernel⟩, by decide⟩, wt_AR_copyOfRange⟩
theorem pl_ST_init_AV_9 : mm_PL M_ST_init_AV 9 0 0 (.array .byte) := ⟨_, _, _, "java/lang/String", rfl, by decide, (mm_w2 (i := 193) rfl rfl), Or.inl rfl, by decide +kernel, Or.inr ⟨rfl, rfl, rfl⟩⟩
theorem gl_ST_38 : mm_GL "java/lang/String" 38 (.int 1) := ⟨"java/lang/String", "COMPACT_STRINGS", "Z", "java/lang/String", List.mem_of_getElem? (i := 0) rfl, (mm_w2 (i := 179) rfl rfl), Or.inl rfl⟩
theorem fl_ST_1048 : mm_FL "java/lang/String" 1048 1 2 := ⟨_, _, _, "java/lang/AbstractStringBuilder", rfl, by decide, (mm_w1 (i := 72) rfl rfl), Or.inl rfl⟩
theorem cs_ST_1051 : mm_CB "java/lang/String" 1051 M_U6_compress_aBII 3 ∧ Cond.static M_U6_compress_aBII.1 ∈ mm_all := ⟨⟨(mm_w2 (i := 180) rfl rfl), wi_U6_compress_aBII, wc_U6_compress_aBII, ⟨by decide, by decide, by decide +kernel⟩, by decide⟩, wt_U6_compress_aBII⟩
theorem fl_ST_9 : mm_FL "java/lang/String" 9 0 0 := ⟨_, _, _, "java/lang/String", rfl, by decide, (mm_w2 (i := 193) rfl rfl), Or.inl rfl⟩
theorem cs_ST_47 : mm_CB "java/lang/String" 47 M_U6_coderFromArrayLen 2 ∧ Cond.static M_U6_coderFromArrayLen.1 ∈ mm_all := ⟨⟨(mm_w2 (i := 190) rfl rfl), wi_U6_coderFromArrayLen, wc_U6_coderFromArrayLen, ⟨by decide, by decide, by decide +kernel⟩, by decide⟩, wt_U6_coderFromArrayLen⟩
theorem cs_AR_339 : mm_CB "java/util/Arrays" 339 M_AR_copyOfRangeByte 3 ∧ Cond.static M_AR_copyOfRangeByte.1 ∈ mm_all := ⟨⟨(mm_w2 (i := 173) rfl rfl), wi_AR_copyOfRangeByte, wc_AR_copyOfRangeByte, ⟨by decide, by decide, by decide +kernel⟩, by decide⟩, wt_AR_copyOfRangeByte⟩
theorem cs_AR_343 : mm_CB "java/util/Arrays" 343 M_AR_checkLength 2 ∧ Cond.static M_AR_checkLength.1 ∈ mm_all := ⟨⟨(mm_w2 (i := 176) rfl rfl), wi_AR_checkLength, wc_AR_checkLength, ⟨by decide, by decide, by decide +kernel⟩, by decide⟩, wt_AR_checkLength⟩
theorem cs_U6_123 : mm_CB "java/lang/StringUTF16" 123 M_U6_compress_aBIaBII 5 ∧ Cond.static M_U6_compress_aBIaBII.1 ∈ mm_all := ⟨⟨(mm_w2 (i := 183) rfl rfl), wi_U6_compress_aBIaBII, wc_U6_compress_aBIaBII, ⟨by decide, by decide, by decide +kernel⟩, by decide⟩, wt_U6_compress_aBIaBII⟩
theorem cs_U6_126 : mm_CB "java/lang/StringUTF16" 126 M_AR_copyOfRange 3 ∧ Cond.static M_AR_copyOfRange.1 ∈ mm_all := ⟨⟨(mm_w2 (i := 189) rfl rfl), wi_AR_copyOfRange, wc_AR_copyOfRange, ⟨by decide, by decide, by decide +kernel⟩, by decide⟩, wt_AR_copyOfRange⟩
theorem cs_U6_71 : mm_CB "java/lang/StringUTF16" 71 M_U6_getChar 2 ∧ Cond.static M_U6_getChar.1 ∈ mm_all := ⟨⟨(mm_w2 (i := 186) rfl rfl), wi_U6_getChar, wc_U6_getChar, ⟨by decide, by decide, by decide +kernel⟩, by decide⟩, wt_U6_getChar⟩
theorem cs_SB_333 : mm_CP "java/lang/StringBuilder" 333 M_AB_setLength 1 := ⟨(mm_w2 (i := 208) rfl rfl), wi_AB_setLength, wc_AB_setLength, ⟨by decide, by decide +kernel⟩, by decide, (mm_w7 (i := 172) rfl rfl), (mm_w1 (i := 82) rfl rfl), wm_AB_setLength⟩
theorem cs_AB_133 : mm_CB "java/lang/AbstractStringBuilder" 133 M_L1_fillNull 3 ∧ Cond.static M_L1_fillNull.1 ∈ mm_all := ⟨⟨(mm_w2 (i := 211) rfl rfl), wi_L1_fillNull, wc_L1_fillNull, ⟨by decide, by decide, by decide +kernel⟩, by decide⟩, wt_L1_fillNull⟩
theorem cs_AB_137 : mm_CB "java/lang/AbstractStringBuilder" 137 M_U6_fillNull 3 ∧ Cond.static M_U6_fillNull.1 ∈ mm_all := ⟨⟨(mm_w2 (i := 220) rfl rfl), wi_U6_fillNull, wc_U6_fillNull, ⟨by decide, by decide, by decide +kernel⟩, by decide⟩, wt_U6_fillNull⟩
theorem pl_AB_setLength_73 : mm_PL M_AB_setLength 73 1 2 (.boolean) := ⟨_, _, _, "java/lang/AbstractStringBuilder", rfl, by decide, (mm_w1 (i := 71) rfl rfl), Or.inl rfl, by decide +kernel, Or.inl rfl⟩
theorem pl_AB_setLength_79 : mm_PL M_AB_setLength 79 1 3 (.int) := ⟨_, _, _, "java/lang/AbstractStringBuilder", rfl, by decide, (mm_w1 (i := 73) rfl rfl), Or.inl rfl, by decide +kernel, Or.inl rfl⟩
theorem cs_L1_236 : mm_CB "java/lang/StringLatin1" 236 M_AR_fill 4 ∧ Cond.static M_AR_fill.1 ∈ mm_all := ⟨⟨(mm_w2 (i := 214) rfl rfl), wi_AR_fill, wc_AR_fill, ⟨by decide, by decide, by decide +kernel⟩, by decide⟩, wt_AR_fill⟩
theorem cs_AR_13 : mm_CB "java/util/Arrays" 13 M_AR_rangeCheck 3 ∧ Cond.static M_AR_rangeCheck.1 ∈ mm_all := ⟨⟨(mm_w2 (i := 217) rfl rfl), wi_AR_rangeCheck, wc_AR_rangeCheck, ⟨by decide, by decide, by decide +kernel⟩, by decide⟩, wt_AR_rangeCheck⟩
theorem cs_U6_380 : mm_CB "java/lang/StringUTF16" 380 M_AR_fill 4 ∧ Cond.static M_AR_fill.1 ∈ mm_all := ⟨⟨(mm_w2 (i := 223) rfl rfl), wi_AR_fill, wc_AR_fill, ⟨by decide, by decide, by decide +kernel⟩, by decide⟩, wt_AR_fill⟩
theorem cs_Q_16 : mm_CB "StubServer$RequestLine" 16 M_ST_indexOf_I 1 ∧ Cond.instanceMethod M_ST_indexOf_I.1 ∈ mm_all ∧ Cond.selects M_ST_indexOf_I.1.cls M_ST_indexOf_I.1 M_ST_indexOf_I.1 ∈ mm_all := ⟨⟨(mm_w2 (i := 228) rfl rfl), wi_ST_indexOf_I, wc_ST_indexOf_I, ⟨by decide, by decide, by decide +kernel⟩, by decide⟩, wm_ST_indexOf_I, (mm_w2 (i := 230) rfl rfl)⟩
theorem cs_Q_22 : mm_CB "StubServer$RequestLine" 22 M_ST_length 0 ∧ Cond.instanceMethod M_ST_length.1 ∈ mm_all ∧ Cond.selects M_ST_length.1.cls M_ST_length.1 M_ST_length.1 ∈ mm_all := ⟨⟨(mm_w3 (i := 54) rfl rfl), wi_ST_length, wc_ST_length, ⟨by decide, by decide, by decide +kernel⟩, by decide⟩, wm_ST_length, (mm_w3 (i := 2) rfl rfl)⟩
theorem ld_Q_26 : ("StubServer$RequestLine", 26, " H1", 2) ∈ mm_strs := List.mem_of_getElem? (i := 1) rfl
theorem cs_Q_28 : mm_CB "StubServer$RequestLine" 28 M_Q_isMethod 2 ∧ Cond.static M_Q_isMethod.1 ∈ mm_all := ⟨⟨(mm_w3 (i := 56) rfl rfl), wi_Q_isMethod, wc_Q_isMethod, ⟨by decide, by decide, by decide +kernel⟩, by decide⟩, wt_Q_isMethod⟩
theorem cs_Q_32 : mm_CB "StubServer$RequestLine" 32 M_ST_substring_I 1 ∧ Cond.instanceMethod M_ST_substring_I.1 ∈ mm_all ∧ Cond.selects M_ST_substring_I.1.cls M_ST_substring_I.1 M_ST_substring_I.1 ∈ mm_all := ⟨⟨(mm_w3 (i := 73) rfl rfl), wi_ST_substring_I, wc_ST_substring_I, ⟨by decide, by decide, by decide +kernel⟩, by decide⟩, wm_ST_substring_I, (mm_w3 (i := 75) rfl rfl)⟩
theorem cs_Q_36 : mm_CB "StubServer$RequestLine" 36 M_ST_equals 1 ∧ Cond.instanceMethod M_ST_equals.1 ∈ mm_all ∧ Cond.selects M_ST_equals.1.cls M_ST_equals.1 M_ST_equals.1 ∈ mm_all := ⟨⟨(mm_w3 (i := 100) rfl rfl), wi_ST_equals, wc_ST_equals, ⟨by decide, by decide, by decide +kernel⟩, by decide⟩, wm_ST_equals, (mm_w3 (i := 102) rfl rfl)⟩
theorem cs_Q_40 : mm_CB "StubServer$RequestLine" 40 M_ST_substring_II 2 ∧ Cond.instanceMethod M_ST_substring_II.1 ∈ mm_all ∧ Cond.selects M_ST_substring_II.1.cls M_ST_substring_II.1 M_ST_substring_II.1 ∈ mm_all := ⟨⟨(mm_w3 (i := 108) rfl rfl), wi_ST_substring_II, wc_ST_substring_II, ⟨by decide, by decide, by decide +kernel⟩, by decide⟩, wm_ST_substring_II, (mm_w3 (i := 79) rfl rfl)⟩
theorem cs_Q_43 : mm_CB "StubServer$RequestLine" 43 M_ST_isEmpty 0 ∧ Cond.instanceMethod M_ST_isEmpty.1 ∈ mm_all ∧ Cond.selects M_ST_isEmpty.1.cls M_ST_isEmpty.1 M_ST_isEmpty.1 ∈ mm_all := ⟨⟨(mm_w3 (i := 109) rfl rfl), wi_ST_isEmpty, wc_ST_isEmpty, ⟨by decide, by decide, by decide +kernel⟩, by decide⟩, wm_ST_isEmpty, (mm_w3 (i := 111) rfl rfl)⟩
theorem cs_Q_47 : mm_CB "StubServer$RequestLine" 47 M_ST_charAt 1 ∧ Cond.instanceMethod M_ST_charAt.1 ∈ mm_all ∧ Cond.selects M_ST_charAt.1.cls M_ST_charAt.1 M_ST_charAt.1 ∈ mm_all := ⟨⟨(mm_w3 (i := 59) rfl rfl), wi_ST_charAt, wc_ST_charAt, ⟨by decide, by decide, by decide +kernel⟩, by decide⟩, wm_ST_charAt, (mm_w3 (i := 61) rfl rfl)⟩
theorem cs_Q_51 : mm_CB "StubServer$RequestLine" 51 M_Q_hasGoodCodes 1 ∧ Cond.static M_Q_hasGoodCodes.1 ∈ mm_all := ⟨⟨(mm_w3 (i := 113) rfl rfl), wi_Q_hasGoodCodes, wc_Q_hasGoodCodes, ⟨by decide, by decide, by decide +kernel⟩, by decide⟩, wt_Q_hasGoodCodes⟩
theorem nl_Q_55 : mm_NL "StubServer$RequestLine" 55 8 := ⟨_, _, _, rfl, (mm_w3 (i := 123) rfl rfl), (mm_w1 (i := 129) rfl rfl), (mm_w1 (i := 13) rfl rfl)⟩
theorem ld_Q_57 : ("StubServer$RequestLine", 57, "", 1) ∈ mm_strs := List.mem_of_getElem? (i := 4) rfl
theorem cs_Q_59 : mm_CB "StubServer$RequestLine" 59 M_P_init 2 ∧ M_P_init.1.name = "<init>" ∧ Cond.instanceMethod M_P_init.1 ∈ mm_all := ⟨⟨(mm_w3 (i := 125) rfl rfl), wi_P_init, wc_P_init, ⟨by decide, by decide, by decide +kernel⟩, by decide⟩, rfl, wm_P_init⟩
theorem pl_Q_read_62 : mm_PL M_Q_read 62 7 2 (.object "StubServer$Part") := ⟨_, _, _, "StubServer$Request", rfl, by decide, (mm_w1 (i := 153) rfl rfl), Or.inl rfl, by decide +kernel, Or.inl rfl⟩
theorem cs_Q_68 : mm_CB "StubServer$RequestLine" 68 M_Q_decode 1 ∧ Cond.instanceMethod M_Q_decode.1 ∈ mm_all ∧ Cond.selects M_Q_decode.1.cls M_Q_decode.1 M_Q_decode.1 ∈ mm_all := ⟨⟨(mm_w3 (i := 126) rfl rfl), wi_Q_decode, wc_Q_decode, ⟨by decide, by decide, by decide +kernel⟩, by decide⟩, wm_Q_decode, (mm_w0 (i := 3) rfl rfl)⟩
theorem pl_Q_read_72 : mm_PL M_Q_read 72 7 3 (.object "StubServer$Part") := ⟨_, _, _, "StubServer$Request", rfl, by decide, (mm_w1 (i := 156) rfl rfl), Or.inl rfl, by decide +kernel, Or.inl rfl⟩
theorem fl_Q_75 : mm_FL "StubServer$RequestLine" 75 7 0 := ⟨_, _, _, "StubServer$Request", rfl, by decide, (mm_w1 (i := 149) rfl rfl), Or.inl rfl⟩
theorem cs_Q_79 : mm_CB "StubServer$RequestLine" 79 M_Q_readParameters 2 ∧ Cond.instanceMethod M_Q_readParameters.1 ∈ mm_all ∧ Cond.selects M_Q_readParameters.1.cls M_Q_readParameters.1 M_Q_readParameters.1 ∈ mm_all := ⟨⟨(mm_w3 (i := 133) rfl rfl), wi_Q_readParameters, wc_Q_readParameters, ⟨by decide, by decide, by decide +kernel⟩, by decide⟩, wm_Q_readParameters, (mm_w0 (i := 4) rfl rfl)⟩
theorem cs_ST_633 : mm_CB "java/lang/String" 633 M_ST_indexOf_II 2 ∧ Cond.instanceMethod M_ST_indexOf_II.1 ∈ mm_all ∧ Cond.selects M_ST_indexOf_II.1.cls M_ST_indexOf_II.1 M_ST_indexOf_II.1 ∈ mm_all := ⟨⟨(mm_w2 (i := 232) rfl rfl), wi_ST_indexOf_II, wc_ST_indexOf_II, ⟨by decide, by decide, by decide +kernel⟩, by decide⟩, wm_ST_indexOf_II, (mm_w2 (i := 234) rfl rfl)⟩
theorem cs_ST_492 : mm_CB "java/lang/String" 492 M_ST_isLatin1 0 ∧ Cond.instanceMethod M_ST_isLatin1.1 ∈ mm_all ∧ Cond.selects M_ST_isLatin1.1.cls M_ST_isLatin1.1 M_ST_isLatin1.1 ∈ mm_all := ⟨⟨(mm_w2 (i := 236) rfl rfl), wi_ST_isLatin1, wc_ST_isLatin1, ⟨by decide, by decide, by decide +kernel⟩, by decide⟩, wm_ST_isLatin1, (mm_w2 (i := 238) rfl rfl)⟩
theorem cs_ST_505 : mm_CB "java/lang/String" 505 M_ST_length 0 ∧ Cond.instanceMethod M_ST_length.1 ∈ mm_all ∧ Cond.selects M_ST_length.1.cls M_ST_length.1 M_ST_length.1 ∈ mm_all := ⟨⟨(mm_w3 (i := 0) rfl rfl), wi_ST_length, wc_ST_length, ⟨by decide, by decide, by decide +kernel⟩, by decide⟩, wm_ST_length, (mm_w3 (i := 2) rfl rfl)⟩
theorem cs_ST_637 : mm_CB "java/lang/String" 637 M_L1_indexOf 4 ∧ Cond.static M_L1_indexOf.1 ∈ mm_all := ⟨⟨(mm_w3 (i := 8) rfl rfl), wi_L1_indexOf, wc_L1_indexOf, ⟨by decide, by decide, by decide +kernel⟩, by decide⟩, wt_L1_indexOf⟩
theorem cs_ST_640 : mm_CB "java/lang/String" 640 M_U6_indexOf 4 ∧ Cond.static M_U6_indexOf.1 ∈ mm_all := ⟨⟨(mm_w3 (i := 19) rfl rfl), wi_U6_indexOf, wc_U6_indexOf, ⟨by decide, by decide, by decide +kernel⟩, by decide⟩, wt_U6_indexOf⟩
theorem fl_ST_15 : mm_FL "java/lang/String" 15 0 1 := ⟨_, _, _, "java/lang/String", rfl, by decide, (mm_w2 (i := 194) rfl rfl), Or.inl rfl⟩
theorem cs_ST_335 : mm_CB "java/lang/String" 335 M_ST_coder 0 ∧ Cond.instanceMethod M_ST_coder.1 ∈ mm_all ∧ Cond.selects M_ST_coder.1.cls M_ST_coder.1 M_ST_coder.1 ∈ mm_all := ⟨⟨(mm_w3 (i := 4) rfl rfl), wi_ST_coder, wc_ST_coder, ⟨by decide, by decide, by decide +kernel⟩, by decide⟩, wm_ST_coder, (mm_w3 (i := 6) rfl rfl)⟩
theorem cs_L1_88 : mm_CB "java/lang/StringLatin1" 88 M_L1_canEncode_I 1 ∧ Cond.static M_L1_canEncode_I.1 ∈ mm_all := ⟨⟨(mm_w3 (i := 11) rfl rfl), wi_L1_canEncode_I, wc_L1_canEncode_I, ⟨by decide, by decide, by decide +kernel⟩, by decide⟩, wt_L1_canEncode_I⟩
theorem cs_L1_92 : mm_CB "java/lang/StringLatin1" 92 M_MA_max 2 ∧ Cond.static M_MA_max.1 ∈ mm_all := ⟨⟨(mm_w3 (i := 14) rfl rfl), wi_MA_max, wc_MA_max, ⟨by decide, by decide, by decide +kernel⟩, by decide⟩, wt_MA_max⟩
theorem cs_L1_38 : mm_CB "java/lang/StringLatin1" 38 M_MA_min 2 ∧ Cond.static M_MA_min.1 ∈ mm_all := ⟨⟨(mm_w3 (i := 15) rfl rfl), wi_MA_min, wc_MA_min, ⟨by decide, by decide, by decide +kernel⟩, by decide⟩, wt_MA_min⟩
theorem cs_L1_95 : mm_CB "java/lang/StringLatin1" 95 M_L1_indexOfChar 4 ∧ Cond.static M_L1_indexOfChar.1 ∈ mm_all := ⟨⟨(mm_w3 (i := 16) rfl rfl), wi_L1_indexOfChar, wc_L1_indexOfChar, ⟨by decide, by decide, by decide +kernel⟩, by decide⟩, wt_L1_indexOfChar⟩
theorem cs_U6_224 : mm_CB "java/lang/StringUTF16" 224 M_MA_max 2 ∧ Cond.static M_MA_max.1 ∈ mm_all := ⟨⟨(mm_w3 (i := 22) rfl rfl), wi_MA_max, wc_MA_max, ⟨by decide, by decide, by decide +kernel⟩, by decide⟩, wt_MA_max⟩
theorem cs_U6_183 : mm_CB "java/lang/StringUTF16" 183 M_MA_min 2 ∧ Cond.static M_MA_min.1 ∈ mm_all := ⟨⟨(mm_w3 (i := 23) rfl rfl), wi_MA_min, wc_MA_min, ⟨by decide, by decide, by decide +kernel⟩, by decide⟩, wt_MA_min⟩
theorem ld_U6_227 : Cond.constant "java/lang/StringUTF16" 227 65536 ∈ mm_all := mm_w3 (i := 24) rfl rfl
theorem cs_U6_228 : mm_CB "java/lang/StringUTF16" 228 M_U6_indexOfChar 4 ∧ Cond.static M_U6_indexOfChar.1 ∈ mm_all := ⟨⟨(mm_w3 (i := 25) rfl rfl), wi_U6_indexOfChar, wc_U6_indexOfChar, ⟨by decide, by decide, by decide +kernel⟩, by decide⟩, wt_U6_indexOfChar⟩
theorem cs_U6_232 : mm_CB "java/lang/StringUTF16" 232 M_U6_indexOfSupplementary 4 ∧ Cond.static M_U6_indexOfSupplementary.1 ∈ mm_all := ⟨⟨(mm_w3 (i := 40) rfl rfl), wi_U6_indexOfSupplementary, wc_U6_indexOfSupplementary, ⟨by decide, by decide, by decide +kernel⟩, by decide⟩, wt_U6_indexOfSupplementary⟩
theorem cs_U6_96 : mm_CB "java/lang/StringUTF16" 96 M_U6_checkBoundsBeginEnd 3 ∧ Cond.static M_U6_checkBoundsBeginEnd.1 ∈ mm_all := ⟨⟨(mm_w3 (i := 28) rfl rfl), wi_U6_checkBoundsBeginEnd, wc_U6_checkBoundsBeginEnd, ⟨by decide, by decide, by decide +kernel⟩, by decide⟩, wt_U6_checkBoundsBeginEnd⟩
theorem cs_U6_244 : mm_CB "java/lang/StringUTF16" 244 M_U6_indexOfCharUnsafe 4 ∧ Cond.static M_U6_indexOfCharUnsafe.1 ∈ mm_all := ⟨⟨(mm_w3 (i := 37) rfl rfl), wi_U6_indexOfCharUnsafe, wc_U6_indexOfCharUnsafe, ⟨by decide, by decide, by decide +kernel⟩, by decide⟩, wt_U6_indexOfCharUnsafe⟩
theorem cs_U6_241 : mm_CB "java/lang/StringUTF16" 241 M_ST_checkBoundsBeginEnd 3 ∧ Cond.static M_ST_checkBoundsBeginEnd.1 ∈ mm_all := ⟨⟨(mm_w3 (i := 31) rfl rfl), wi_ST_checkBoundsBeginEnd, wc_ST_checkBoundsBeginEnd, ⟨by decide, by decide, by decide +kernel⟩, by decide⟩, wt_ST_checkBoundsBeginEnd⟩
theorem cs_ST_1062 : mm_CB "java/lang/String" 1062 M_PC_checkFromToIndex 4 ∧ Cond.static M_PC_checkFromToIndex.1 ∈ mm_all := ⟨⟨(mm_w3 (i := 34) rfl rfl), wi_PC_checkFromToIndex, wc_PC_checkFromToIndex, ⟨by decide, by decide, by decide +kernel⟩, by decide⟩, wt_PC_checkFromToIndex⟩
theorem cs_U6_164 : mm_CB "java/lang/StringUTF16" 164 M_CH_isValidCodePoint 1 ∧ Cond.static M_CH_isValidCodePoint.1 ∈ mm_all := ⟨⟨(mm_w3 (i := 43) rfl rfl), wi_CH_isValidCodePoint, wc_CH_isValidCodePoint, ⟨by decide, by decide, by decide +kernel⟩, by decide⟩, wt_CH_isValidCodePoint⟩
theorem cs_U6_157 : mm_CB "java/lang/StringUTF16" 157 M_CH_highSurrogate 1 ∧ Cond.static M_CH_highSurrogate.1 ∈ mm_all := ⟨⟨(mm_w3 (i := 46) rfl rfl), wi_CH_highSurrogate, wc_CH_highSurrogate, ⟨by decide, by decide, by decide +kernel⟩, by decide⟩, wt_CH_highSurrogate⟩
theorem cs_U6_161 : mm_CB "java/lang/StringUTF16" 161 M_CH_lowSurrogate 1 ∧ Cond.static M_CH_lowSurrogate.1 ∈ mm_all := ⟨⟨(mm_w3 (i := 50) rfl rfl), wi_CH_lowSurrogate, wc_CH_lowSurrogate, ⟨by decide, by decide, by decide +kernel⟩, by decide⟩, wt_CH_lowSurrogate⟩
theorem ld_CH_110 : Cond.constant "java/lang/Character" 110 55232 ∈ mm_all := mm_w3 (i := 49) rfl rfl
theorem ld_CH_76 : Cond.constant "java/lang/Character" 76 56320 ∈ mm_all := mm_w3 (i := 53) rfl rfl
theorem cs_Q_83 : mm_CB "StubServer$RequestLine" 83 M_X_isCapital 1 ∧ Cond.static M_X_isCapital.1 ∈ mm_all := ⟨⟨(mm_w3 (i := 70) rfl rfl), wi_X_isCapital, wc_X_isCapital, ⟨by decide, by decide, by decide +kernel⟩, by decide⟩, wt_X_isCapital⟩
theorem cs_ST_495 : mm_CB "java/lang/String" 495 M_L1_charAt 2 ∧ Cond.static M_L1_charAt.1 ∈ mm_all := ⟨⟨(mm_w3 (i := 63) rfl rfl), wi_L1_charAt, wc_L1_charAt, ⟨by decide, by decide, by decide +kernel⟩, by decide⟩, wt_L1_charAt⟩
theorem cs_ST_498 : mm_CB "java/lang/String" 498 M_U6_charAt 2 ∧ Cond.static M_U6_charAt.1 ∈ mm_all := ⟨⟨(mm_w3 (i := 67) rfl rfl), wi_U6_charAt, wc_U6_charAt, ⟨by decide, by decide, by decide +kernel⟩, by decide⟩, wt_U6_charAt⟩
theorem cs_L1_9 : mm_CB "java/lang/StringLatin1" 9 M_ST_checkIndex 2 ∧ Cond.static M_ST_checkIndex.1 ∈ mm_all := ⟨⟨(mm_w3 (i := 66) rfl rfl), wi_ST_checkIndex, wc_ST_checkIndex, ⟨by decide, by decide, by decide +kernel⟩, by decide⟩, wt_ST_checkIndex⟩
theorem cs_ST_681 : mm_CB "java/lang/String" 681 M_ST_substring_II 2 ∧ Cond.instanceMethod M_ST_substring_II.1 ∈ mm_all ∧ Cond.selects M_ST_substring_II.1.cls M_ST_substring_II.1 M_ST_substring_II.1 ∈ mm_all := ⟨⟨(mm_w3 (i := 77) rfl rfl), wi_ST_substring_II, wc_ST_substring_II, ⟨by decide, by decide, by decide +kernel⟩, by decide⟩, wm_ST_substring_II, (mm_w3 (i := 79) rfl rfl)⟩
theorem cs_ST_521 : mm_CB "java/lang/String" 521 M_ST_checkBoundsBeginEnd 3 ∧ Cond.static M_ST_checkBoundsBeginEnd.1 ∈ mm_all := ⟨⟨(mm_w3 (i := 81) rfl rfl), wi_ST_checkBoundsBeginEnd, wc_ST_checkBoundsBeginEnd, ⟨by decide, by decide, by decide +kernel⟩, by decide⟩, wt_ST_checkBoundsBeginEnd⟩
theorem cs_ST_685 : mm_CB "java/lang/String" 685 M_L1_newString 3 ∧ Cond.static M_L1_newString.1 ∈ mm_all := ⟨⟨(mm_w3 (i := 82) rfl rfl), wi_L1_newString, wc_L1_newString, ⟨by decide, by decide, by decide +kernel⟩, by decide⟩, wt_L1_newString⟩
theorem cs_ST_689 : mm_CB "java/lang/String" 689 M_U6_newString 3 ∧ Cond.static M_U6_newString.1 ∈ mm_all := ⟨⟨(mm_w3 (i := 91) rfl rfl), wi_U6_newString, wc_U6_newString, ⟨by decide, by decide, by decide +kernel⟩, by decide⟩, wt_U6_newString⟩
theorem ld_L1_151 : ("java/lang/StringLatin1", 151, "", 1) ∈ mm_strs := List.mem_of_getElem? (i := 2) rfl
theorem nl_L1_1 : mm_NL "java/lang/StringLatin1" 1 0 := ⟨_, _, _, rfl, (mm_w3 (i := 86) rfl rfl), (mm_w2 (i := 155) rfl rfl), (mm_w1 (i := 6) rfl rfl)⟩
theorem cs_L1_232 : mm_CB "java/lang/StringLatin1" 232 M_AR_copyOfRange 3 ∧ Cond.static M_AR_copyOfRange.1 ∈ mm_all := ⟨⟨(mm_w3 (i := 87) rfl rfl), wi_AR_copyOfRange, wc_AR_copyOfRange, ⟨by decide, by decide, by decide +kernel⟩, by decide⟩, wt_AR_copyOfRange⟩
theorem cs_L1_112 : mm_CB "java/lang/StringLatin1" 112 M_ST_init_aBB 2 ∧ M_ST_init_aBB.1.name = "<init>" ∧ Cond.instanceMethod M_ST_init_aBB.1 ∈ mm_all := ⟨⟨(mm_w3 (i := 88) rfl rfl), wi_ST_init_aBB, wc_ST_init_aBB, ⟨by decide, by decide, by decide +kernel⟩, by decide⟩, rfl, wm_ST_init_aBB⟩
theorem pl_ST_init_aBB_9 : mm_PL M_ST_init_aBB 9 0 0 (.array .byte) := ⟨_, _, _, "java/lang/String", rfl, by decide, (mm_w2 (i := 193) rfl rfl), Or.inl rfl, by decide +kernel, Or.inr ⟨rfl, rfl, rfl⟩⟩
theorem pl_ST_init_aBB_15 : mm_PL M_ST_init_aBB 15 0 1 (.byte) := ⟨_, _, _, "java/lang/String", rfl, by decide, (mm_w2 (i := 194) rfl rfl), Or.inl rfl, by decide +kernel, Or.inr ⟨rfl, rfl, rfl⟩⟩
theorem gl_U6_251 : mm_GL "java/lang/StringUTF16" 251 (.int 1) := ⟨"java/lang/String", "COMPACT_STRINGS", "Z", "java/lang/String", List.mem_of_getElem? (i := 0) rfl, (mm_w3 (i := 95) rfl rfl), Or.inl rfl⟩
theorem cs_U6_257 : mm_CB "java/lang/StringUTF16" 257 M_U6_compress_aBII 3 ∧ Cond.static M_U6_compress_aBII.1 ∈ mm_all := ⟨⟨(mm_w3 (i := 96) rfl rfl), wi_U6_compress_aBII, wc_U6_compress_aBII, ⟨by decide, by decide, by decide +kernel⟩, by decide⟩, wt_U6_compress_aBII⟩
theorem cs_U6_259 : mm_CB "java/lang/StringUTF16" 259 M_U6_coderFromArrayLen 2 ∧ Cond.static M_U6_coderFromArrayLen.1 ∈ mm_all := ⟨⟨(mm_w3 (i := 97) rfl rfl), wi_U6_coderFromArrayLen, wc_U6_coderFromArrayLen, ⟨by decide, by decide, by decide +kernel⟩, by decide⟩, wt_U6_coderFromArrayLen⟩
theorem nl_U6_3 : mm_NL "java/lang/StringUTF16" 3 0 := ⟨_, _, _, rfl, (mm_w3 (i := 98) rfl rfl), (mm_w2 (i := 155) rfl rfl), (mm_w1 (i := 6) rfl rfl)⟩
theorem cs_U6_263 : mm_CB "java/lang/StringUTF16" 263 M_ST_init_aBB 2 ∧ M_ST_init_aBB.1.name = "<init>" ∧ Cond.instanceMethod M_ST_init_aBB.1 ∈ mm_all := ⟨⟨(mm_w3 (i := 99) rfl rfl), wi_ST_init_aBB, wc_ST_init_aBB, ⟨by decide, by decide, by decide +kernel⟩, by decide⟩, rfl, wm_ST_init_aBB⟩
theorem cl_ST_10 : Cond.classLink "java/lang/String" 10 "java/lang/String" ∈ mm_all := mm_w3 (i := 104) rfl rfl
theorem cs_ST_541 : mm_CB "java/lang/String" 541 M_L1_equals 2 ∧ Cond.static M_L1_equals.1 ∈ mm_all := ⟨⟨(mm_w3 (i := 105) rfl rfl), wi_L1_equals, wc_L1_equals, ⟨by decide, by decide, by decide +kernel⟩, by decide⟩, wt_L1_equals⟩
theorem cs_Q_89 : mm_CB "StubServer$RequestLine" 89 M_Q_codeAt 2 ∧ Cond.static M_Q_codeAt.1 ∈ mm_all := ⟨⟨(mm_w3 (i := 116) rfl rfl), wi_Q_codeAt, wc_Q_codeAt, ⟨by decide, by decide, by decide +kernel⟩, by decide⟩, wt_Q_codeAt⟩
theorem cs_Q_93 : mm_CB "StubServer$RequestLine" 93 M_X_isPlain 1 ∧ Cond.static M_X_isPlain.1 ∈ mm_all := ⟨⟨(mm_w3 (i := 122) rfl rfl), wi_X_isPlain, wc_X_isPlain, ⟨by decide, by decide, by decide +kernel⟩, by decide⟩, wt_X_isPlain⟩
theorem cs_Q_96 : mm_CB "StubServer$RequestLine" 96 M_X_hexDigit 1 ∧ Cond.static M_X_hexDigit.1 ∈ mm_all := ⟨⟨(mm_w3 (i := 119) rfl rfl), wi_X_hexDigit, wc_X_hexDigit, ⟨by decide, by decide, by decide +kernel⟩, by decide⟩, wt_X_hexDigit⟩
theorem fl_Q_10 : mm_FL "StubServer$RequestLine" 10 6 0 := ⟨_, _, _, "StubServer$RequestLine", rfl, by decide, (mm_w1 (i := 92) rfl rfl), Or.inl rfl⟩
theorem cs_Q_99 : mm_CB "StubServer$RequestLine" 99 M_SB_setLength 1 ∧ Cond.instanceMethod M_SB_setLength.1 ∈ mm_all ∧ Cond.selects M_SB_setLength.1.cls M_SB_setLength.1 M_SB_setLength.1 ∈ mm_all := ⟨⟨(mm_w3 (i := 130) rfl rfl), wi_SB_setLength, wc_SB_setLength, ⟨by decide, by decide, by decide +kernel⟩, by decide⟩, wm_SB_setLength, (mm_w2 (i := 206) rfl rfl)⟩
theorem cs_Q_103 : mm_CB "StubServer$RequestLine" 103 M_SB_append_C 1 ∧ Cond.instanceMethod M_SB_append_C.1 ∈ mm_all ∧ Cond.selects M_SB_append_C.1.cls M_SB_append_C.1 M_SB_append_C.1 ∈ mm_all := ⟨⟨(mm_w3 (i := 131) rfl rfl), wi_SB_append_C, wc_SB_append_C, ⟨by decide, by decide, by decide +kernel⟩, by decide⟩, wm_SB_append_C, (mm_w2 (i := 53) rfl rfl)⟩
theorem cs_Q_107 : mm_CB "StubServer$RequestLine" 107 M_SB_toString 0 ∧ Cond.instanceMethod M_SB_toString.1 ∈ mm_all ∧ Cond.selects M_SB_toString.1.cls M_SB_toString.1 M_SB_toString.1 ∈ mm_all := ⟨⟨(mm_w3 (i := 132) rfl rfl), wi_SB_toString, wc_SB_toString, ⟨by decide, by decide, by decide +kernel⟩, by decide⟩, wm_SB_toString, (mm_w2 (i := 152) rfl rfl)⟩
theorem cs_Q_111 : mm_CB "StubServer$RequestLine" 111 M_AL_size 0 ∧ Cond.instanceMethod M_AL_size.1 ∈ mm_all ∧ Cond.selects M_AL_size.1.cls M_AL_size.1 M_AL_size.1 ∈ mm_all := ⟨⟨(mm_w3 (i := 137) rfl rfl), wi_AL_size, wc_AL_size, ⟨by decide, by decide, by decide +kernel⟩, by decide⟩, wm_AL_size, (mm_w3 (i := 139) rfl rfl)⟩
theorem cs_Q_116 : mm_CB "StubServer$RequestLine" 116 M_AL_add_O 1 ∧ Cond.instanceMethod M_AL_add_O.1 ∈ mm_all ∧ Cond.selects M_AL_add_O.1.cls M_AL_add_O.1 M_AL_add_O.1 ∈ mm_all := ⟨⟨(mm_w3 (i := 141) rfl rfl), wi_AL_add_O, wc_AL_add_O, ⟨by decide, by decide, by decide +kernel⟩, by decide⟩, wm_AL_add_O, (mm_w3 (i := 143) rfl rfl)⟩
theorem fl_AL_48 : mm_FL "java/util/ArrayList" 48 2 1 := ⟨_, _, _, "java/util/ArrayList", rfl, by decide, (mm_w1 (i := 117) rfl rfl), Or.inl rfl⟩
theorem fl_AL_63 : mm_FL "java/util/ArrayList" 63 2 2 := ⟨_, _, _, "java/util/ArrayList", rfl, by decide, (mm_w1 (i := 119) rfl rfl), Or.inr (mm_w1 (i := 120) rfl rfl)⟩
theorem pl_AL_add_O_63 : mm_PL M_AL_add_O 63 2 2 (.int) := ⟨_, _, _, "java/util/ArrayList", rfl, by decide, (mm_w1 (i := 119) rfl rfl), Or.inr (mm_w1 (i := 120) rfl rfl), by decide +kernel, Or.inl rfl⟩
theorem fl_AL_9 : mm_FL "java/util/ArrayList" 9 2 0 := ⟨_, _, _, "java/util/ArrayList", rfl, by decide, (mm_w1 (i := 116) rfl rfl), Or.inl rfl⟩
theorem cs_AL_131 : mm_CB "java/util/ArrayList" 131 M_AL_add_OaOI 3 ∧ Cond.instanceMethod M_AL_add_OaOI.1 ∈ mm_all ∧ Cond.selects M_AL_add_OaOI.1.cls M_AL_add_OaOI.1 M_AL_add_OaOI.1 ∈ mm_all := ⟨⟨(mm_w3 (i := 145) rfl rfl), wi_AL_add_OaOI, wc_AL_add_OaOI, ⟨by decide, by decide, by decide +kernel⟩, by decide⟩, wm_AL_add_OaOI, (mm_w0 (i := 5) rfl rfl)⟩
theorem cs_AL_129 : mm_CB "java/util/ArrayList" 129 M_AL_grow_ 0 ∧ Cond.instanceMethod M_AL_grow_.1 ∈ mm_all ∧ Cond.selects M_AL_grow_.1.cls M_AL_grow_.1 M_AL_grow_.1 ∈ mm_all := ⟨⟨(mm_w3 (i := 149) rfl rfl), wi_AL_grow_, wc_AL_grow_, ⟨by decide, by decide, by decide +kernel⟩, by decide⟩, wm_AL_grow_, (mm_w0 (i := 6) rfl rfl)⟩
theorem pl_AL_add_OaOI_48 : mm_PL M_AL_add_OaOI 48 2 1 (.int) := ⟨_, _, _, "java/util/ArrayList", rfl, by decide, (mm_w1 (i := 117) rfl rfl), Or.inl rfl, by decide +kernel, Or.inl rfl⟩
theorem cs_AL_69 : mm_CB "java/util/ArrayList" 69 M_AL_grow_I 1 ∧ Cond.instanceMethod M_AL_grow_I.1 ∈ mm_all ∧ Cond.selects M_AL_grow_I.1.cls M_AL_grow_I.1 M_AL_grow_I.1 ∈ mm_all := ⟨⟨(mm_w3 (i := 153) rfl rfl), wi_AL_grow_I, wc_AL_grow_I, ⟨by decide, by decide, by decide +kernel⟩, by decide⟩, wm_AL_grow_I, (mm_w0 (i := 7) rfl rfl)⟩
theorem cs_AL_73 : mm_CB "java/util/ArrayList" 73 M_AS_newLength 3 ∧ Cond.static M_AS_newLength.1 ∈ mm_all := ⟨⟨(mm_w3 (i := 157) rfl rfl), wi_AS_newLength, wc_AS_newLength, ⟨by decide, by decide, by decide +kernel⟩, by decide⟩, wt_AS_newLength⟩
theorem cs_AL_66 : mm_CB "java/util/ArrayList" 66 M_AR_copyOf_aOI 2 ∧ Cond.static M_AR_copyOf_aOI.1 ∈ mm_all := ⟨⟨(mm_w3 (i := 158) rfl rfl), wi_AR_copyOf_aOI, wc_AR_copyOf_aOI, ⟨by decide, by decide, by decide +kernel⟩, by decide⟩, wt_AR_copyOf_aOI⟩
theorem pl_AL_grow_I_9 : mm_PL M_AL_grow_I 9 2 0 (.array (.object "java/lang/Object")) := ⟨_, _, _, "java/util/ArrayList", rfl, by decide, (mm_w1 (i := 116) rfl rfl), Or.inl rfl, by decide +kernel, Or.inl rfl⟩
theorem cs_AL_79 : mm_CB "java/util/ArrayList" 79 M_MA_max 2 ∧ Cond.static M_MA_max.1 ∈ mm_all := ⟨⟨(mm_w3 (i := 186) rfl rfl), wi_MA_max, wc_MA_max, ⟨by decide, by decide, by decide +kernel⟩, by decide⟩, wt_MA_max⟩
theorem cl_AL_7 : Cond.classLink "java/util/ArrayList" 7 "java/lang/Object" ∈ mm_all := mm_w3 (i := 187) rfl rfl
theorem cs_AR_300 : mm_CB "java/util/Arrays" 300 M_AR_copyOf_aOIC 3 ∧ Cond.static M_AR_copyOf_aOIC.1 ∈ mm_all := ⟨⟨(mm_w3 (i := 180) rfl rfl), wi_AR_copyOf_aOIC, wc_AR_copyOf_aOIC, ⟨by decide, by decide, by decide +kernel⟩, by decide⟩, wt_AR_copyOf_aOIC⟩
theorem cl_AR_2 : Cond.classLink "java/util/Arrays" 2 "java/lang/Object" ∈ mm_all := mm_w3 (i := 185) rfl rfl
theorem cl_AR_110 : Cond.classLink "java/util/Arrays" 110 "[Ljava/lang/Object;" ∈ mm_all := mm_w3 (i := 183) rfl rfl
theorem cs_R_107 : mm_CB "StubServer$Reader" 107 M_ST_isEmpty 0 ∧ Cond.instanceMethod M_ST_isEmpty.1 ∈ mm_all ∧ Cond.selects M_ST_isEmpty.1.cls M_ST_isEmpty.1 M_ST_isEmpty.1 ∈ mm_all := ⟨⟨(mm_w3 (i := 192) rfl rfl), wi_ST_isEmpty, wc_ST_isEmpty, ⟨by decide, by decide, by decide +kernel⟩, by decide⟩, wm_ST_isEmpty, (mm_w3 (i := 111) rfl rfl)⟩
theorem cs_R_113 : mm_CB "StubServer$Reader" 113 M_R_endHeaders 0 ∧ Cond.instanceMethod M_R_endHeaders.1 ∈ mm_all ∧ Cond.selects M_R_endHeaders.1.cls M_R_endHeaders.1 M_R_endHeaders.1 ∈ mm_all := ⟨⟨(mm_w3 (i := 193) rfl rfl), wi_R_endHeaders, wc_R_endHeaders, ⟨by decide, by decide, by decide +kernel⟩, by decide⟩, wm_R_endHeaders, (mm_w0 (i := 9) rfl rfl)⟩
theorem fl_R_117 : mm_FL "StubServer$Reader" 117 7 1 := ⟨_, _, _, "StubServer$Request", rfl, by decide, (mm_w1 (i := 151) rfl rfl), Or.inl rfl⟩
theorem cs_R_121 : mm_CB "StubServer$Reader" 121 M_AL_size 0 ∧ Cond.instanceMethod M_AL_size.1 ∈ mm_all ∧ Cond.selects M_AL_size.1.cls M_AL_size.1 M_AL_size.1 ∈ mm_all := ⟨⟨(mm_w3 (i := 197) rfl rfl), wi_AL_size, wc_AL_size, ⟨by decide, by decide, by decide +kernel⟩, by decide⟩, wm_AL_size, (mm_w3 (i := 139) rfl rfl)⟩
theorem cs_R_126 : mm_CB "StubServer$Reader" 126 M_R_headerOf 1 ∧ Cond.static M_R_headerOf.1 ∈ mm_all := ⟨⟨(mm_w3 (i := 198) rfl rfl), wi_R_headerOf, wc_R_headerOf, ⟨by decide, by decide, by decide +kernel⟩, by decide⟩, wt_R_headerOf⟩
theorem cs_R_130 : mm_CB "StubServer$Reader" 130 M_AL_add_O 1 ∧ Cond.instanceMethod M_AL_add_O.1 ∈ mm_all ∧ Cond.selects M_AL_add_O.1.cls M_AL_add_O.1 M_AL_add_O.1 ∈ mm_all := ⟨⟨(mm_w4 (i := 15) rfl rfl), wi_AL_add_O, wc_AL_add_O, ⟨by decide, by decide, by decide +kernel⟩, by decide⟩, wm_AL_add_O, (mm_w3 (i := 143) rfl rfl)⟩
theorem cs_R_134 : mm_CB "StubServer$Reader" 134 M_R_lookForSize 1 ∧ Cond.instanceMethod M_R_lookForSize.1 ∈ mm_all ∧ Cond.selects M_R_lookForSize.1.cls M_R_lookForSize.1 M_R_lookForSize.1 ∈ mm_all := ⟨⟨(mm_w4 (i := 16) rfl rfl), wi_R_lookForSize, wc_R_lookForSize, ⟨by decide, by decide, by decide +kernel⟩, by decide⟩, wm_R_lookForSize, (mm_w0 (i := 10) rfl rfl)⟩
theorem fl_R_48 : mm_FL "StubServer$Reader" 48 5 7 := ⟨_, _, _, "StubServer$Reader", rfl, by decide, (mm_w1 (i := 183) rfl rfl), Or.inl rfl⟩
theorem pl_R_endHeaders_33 : mm_PL M_R_endHeaders 33 5 4 (.int) := ⟨_, _, _, "StubServer$Reader", rfl, by decide, (mm_w1 (i := 180) rfl rfl), Or.inl rfl, by decide +kernel, Or.inl rfl⟩
theorem fl_R_51 : mm_FL "StubServer$Reader" 51 5 8 := ⟨_, _, _, "StubServer$Reader", rfl, by decide, (mm_w1 (i := 184) rfl rfl), Or.inl rfl⟩
theorem cs_R_151 : mm_CB "StubServer$Reader" 151 M_ST_indexOf_I 1 ∧ Cond.instanceMethod M_ST_indexOf_I.1 ∈ mm_all ∧ Cond.selects M_ST_indexOf_I.1.cls M_ST_indexOf_I.1 M_ST_indexOf_I.1 ∈ mm_all := ⟨⟨(mm_w3 (i := 201) rfl rfl), wi_ST_indexOf_I, wc_ST_indexOf_I, ⟨by decide, by decide, by decide +kernel⟩, by decide⟩, wm_ST_indexOf_I, (mm_w2 (i := 230) rfl rfl)⟩
theorem cs_R_154 : mm_CB "StubServer$Reader" 154 M_ST_charAt 1 ∧ Cond.instanceMethod M_ST_charAt.1 ∈ mm_all ∧ Cond.selects M_ST_charAt.1.cls M_ST_charAt.1 M_ST_charAt.1 ∈ mm_all := ⟨⟨(mm_w3 (i := 202) rfl rfl), wi_ST_charAt, wc_ST_charAt, ⟨by decide, by decide, by decide +kernel⟩, by decide⟩, wm_ST_charAt, (mm_w3 (i := 61) rfl rfl)⟩
theorem cs_R_158 : mm_CB "StubServer$Reader" 158 M_X_isCapital 1 ∧ Cond.static M_X_isCapital.1 ∈ mm_all := ⟨⟨(mm_w3 (i := 203) rfl rfl), wi_X_isCapital, wc_X_isCapital, ⟨by decide, by decide, by decide +kernel⟩, by decide⟩, wt_X_isCapital⟩
theorem cs_R_161 : mm_CB "StubServer$Reader" 161 M_X_isSmall 1 ∧ Cond.static M_X_isSmall.1 ∈ mm_all := ⟨⟨(mm_w3 (i := 204) rfl rfl), wi_X_isSmall, wc_X_isSmall, ⟨by decide, by decide, by decide +kernel⟩, by decide⟩, wt_X_isSmall⟩
theorem nl_R_60 : mm_NL "StubServer$Reader" 60 8 := ⟨_, _, _, rfl, (mm_w3 (i := 207) rfl rfl), (mm_w1 (i := 129) rfl rfl), (mm_w1 (i := 13) rfl rfl)⟩
theorem cs_R_164 : mm_CB "StubServer$Reader" 164 M_ST_substring_II 2 ∧ Cond.instanceMethod M_ST_substring_II.1 ∈ mm_all ∧ Cond.selects M_ST_substring_II.1.cls M_ST_substring_II.1 M_ST_substring_II.1 ∈ mm_all := ⟨⟨(mm_w3 (i := 208) rfl rfl), wi_ST_substring_II, wc_ST_substring_II, ⟨by decide, by decide, by decide +kernel⟩, by decide⟩, wm_ST_substring_II, (mm_w3 (i := 79) rfl rfl)⟩
theorem cs_R_168 : mm_CB "StubServer$Reader" 168 M_X_small 1 ∧ Cond.static M_X_small.1 ∈ mm_all := ⟨⟨(mm_w3 (i := 209) rfl rfl), wi_X_small, wc_X_small, ⟨by decide, by decide, by decide +kernel⟩, by decide⟩, wt_X_small⟩
theorem cs_R_172 : mm_CB "StubServer$Reader" 172 M_X_trimmed 2 ∧ Cond.static M_X_trimmed.1 ∈ mm_all := ⟨⟨(mm_w4 (i := 8) rfl rfl), wi_X_trimmed, wc_X_trimmed, ⟨by decide, by decide, by decide +kernel⟩, by decide⟩, wt_X_trimmed⟩
theorem cs_R_68 : mm_CB "StubServer$Reader" 68 M_P_init 2 ∧ M_P_init.1.name = "<init>" ∧ Cond.instanceMethod M_P_init.1 ∈ mm_all := ⟨⟨(mm_w4 (i := 14) rfl rfl), wi_P_init, wc_P_init, ⟨by decide, by decide, by decide +kernel⟩, by decide⟩, rfl, wm_P_init⟩
theorem cs_X_7 : mm_CB "StubServer$Texts" 7 M_ST_toCharArray 0 ∧ Cond.instanceMethod M_ST_toCharArray.1 ∈ mm_all ∧ Cond.selects M_ST_toCharArray.1.cls M_ST_toCharArray.1 M_ST_toCharArray.1 ∈ mm_all := ⟨⟨(mm_w3 (i := 212) rfl rfl), wi_ST_toCharArray, wc_ST_toCharArray, ⟨by decide, by decide, by decide +kernel⟩, by decide⟩, wm_ST_toCharArray, (mm_w3 (i := 214) rfl rfl)⟩
theorem cs_X_13 : mm_CB "StubServer$Texts" 13 M_X_isCapital 1 ∧ Cond.static M_X_isCapital.1 ∈ mm_all := ⟨⟨(mm_w3 (i := 228) rfl rfl), wi_X_isCapital, wc_X_isCapital, ⟨by decide, by decide, by decide +kernel⟩, by decide⟩, wt_X_isCapital⟩
theorem nl_X_8 : mm_NL "StubServer$Texts" 8 0 := ⟨_, _, _, rfl, (mm_w3 (i := 229) rfl rfl), (mm_w2 (i := 155) rfl rfl), (mm_w1 (i := 6) rfl rfl)⟩
theorem cs_X_19 : mm_CB "StubServer$Texts" 19 M_ST_init_aC 1 ∧ M_ST_init_aC.1.name = "<init>" ∧ Cond.instanceMethod M_ST_init_aC.1 ∈ mm_all := ⟨⟨(mm_w3 (i := 230) rfl rfl), wi_ST_init_aC, wc_ST_init_aC, ⟨by decide, by decide, by decide +kernel⟩, by decide⟩, rfl, wm_ST_init_aC⟩
theorem cs_ST_299 : mm_CB "java/lang/String" 299 M_L1_toChars 1 ∧ Cond.static M_L1_toChars.1 ∈ mm_all := ⟨⟨(mm_w3 (i := 216) rfl rfl), wi_L1_toChars, wc_L1_toChars, ⟨by decide, by decide, by decide +kernel⟩, by decide⟩, wt_L1_toChars⟩
theorem cs_ST_303 : mm_CB "java/lang/String" 303 M_U6_toChars 1 ∧ Cond.static M_U6_toChars.1 ∈ mm_all := ⟨⟨(mm_w3 (i := 222) rfl rfl), wi_U6_toChars, wc_U6_toChars, ⟨by decide, by decide, by decide +kernel⟩, by decide⟩, wt_U6_toChars⟩
theorem cs_L1_13 : mm_CB "java/lang/StringLatin1" 13 M_L1_inflate_aBIaCII 5 ∧ Cond.static M_L1_inflate_aBIaCII.1 ∈ mm_all := ⟨⟨(mm_w3 (i := 219) rfl rfl), wi_L1_inflate_aBIaCII, wc_L1_inflate_aBIaCII, ⟨by decide, by decide, by decide +kernel⟩, by decide⟩, wt_L1_inflate_aBIaCII⟩
theorem cs_U6_103 : mm_CB "java/lang/StringUTF16" 103 M_U6_getChars_aBIIaCI 5 ∧ Cond.static M_U6_getChars_aBIIaCI.1 ∈ mm_all := ⟨⟨(mm_w3 (i := 225) rfl rfl), wi_U6_getChars_aBIIaCI, wc_U6_getChars_aBIIaCI, ⟨by decide, by decide, by decide +kernel⟩, by decide⟩, wt_U6_getChars_aBIIaCI⟩
theorem cs_ST_27 : mm_CB "java/lang/String" 27 M_ST_init_aCIIV 4 ∧ M_ST_init_aCIIV.1.name = "<init>" ∧ Cond.instanceMethod M_ST_init_aCIIV.1 ∈ mm_all := ⟨⟨(mm_w3 (i := 233) rfl rfl), wi_ST_init_aCIIV, wc_ST_init_aCIIV, ⟨by decide, by decide, by decide +kernel⟩, by decide⟩, rfl, wm_ST_init_aCIIV⟩
theorem ld_ST_7 : ("java/lang/String", 7, "", 1) ∈ mm_strs := List.mem_of_getElem? (i := 5) rfl
theorem pl_ST_init_aCIIV_9 : mm_PL M_ST_init_aCIIV 9 0 0 (.array .byte) := ⟨_, _, _, "java/lang/String", rfl, by decide, (mm_w2 (i := 193) rfl rfl), Or.inl rfl, by decide +kernel, Or.inr ⟨rfl, rfl, rfl⟩⟩
theorem pl_ST_init_aCIIV_15 : mm_PL M_ST_init_aCIIV 15 0 1 (.byte) := ⟨_, _, _, "java/lang/String", rfl, by decide, (mm_w2 (i := 194) rfl rfl), Or.inl rfl, by decide +kernel, Or.inr ⟨rfl, rfl, rfl⟩⟩
theorem cs_ST_177 : mm_CB "java/lang/String" 177 M_U6_compress_aCII 3 ∧ Cond.static M_U6_compress_aCII.1 ∈ mm_all := ⟨⟨(mm_w3 (i := 237) rfl rfl), wi_U6_compress_aCII, wc_U6_compress_aCII, ⟨by decide, by decide, by decide +kernel⟩, by decide⟩, wt_U6_compress_aCII⟩
theorem cs_ST_180 : mm_CB "java/lang/String" 180 M_U6_toBytes 3 ∧ Cond.static M_U6_toBytes.1 ∈ mm_all := ⟨⟨(mm_w4 (i := 7) rfl rfl), wi_U6_toBytes, wc_U6_toBytes, ⟨by decide, by decide, by decide +kernel⟩, by decide⟩, wt_U6_toBytes⟩
theorem cs_U6_115 : mm_CB "java/lang/StringUTF16" 115 M_U6_compress_aCIaBII 5 ∧ Cond.static M_U6_compress_aCIaBII.1 ∈ mm_all := ⟨⟨(mm_w4 (i := 0) rfl rfl), wi_U6_compress_aCIaBII, wc_U6_compress_aCIaBII, ⟨by decide, by decide, by decide +kernel⟩, by decide⟩, wt_U6_compress_aCIaBII⟩
theorem cs_U6_119 : mm_CB "java/lang/StringUTF16" 119 M_U6_toBytes 3 ∧ Cond.static M_U6_toBytes.1 ∈ mm_all := ⟨⟨(mm_w4 (i := 3) rfl rfl), wi_U6_toBytes, wc_U6_toBytes, ⟨by decide, by decide, by decide +kernel⟩, by decide⟩, wt_U6_toBytes⟩
theorem cs_U6_107 : mm_CB "java/lang/StringUTF16" 107 M_U6_newBytesFor 1 ∧ Cond.static M_U6_newBytesFor.1 ∈ mm_all := ⟨⟨(mm_w4 (i := 6) rfl rfl), wi_U6_newBytesFor, wc_U6_newBytesFor, ⟨by decide, by decide, by decide +kernel⟩, by decide⟩, wt_U6_newBytesFor⟩
theorem cs_X_22 : mm_CB "StubServer$Texts" 22 M_ST_length 0 ∧ Cond.instanceMethod M_ST_length.1 ∈ mm_all ∧ Cond.selects M_ST_length.1.cls M_ST_length.1 M_ST_length.1 ∈ mm_all := ⟨⟨(mm_w4 (i := 11) rfl rfl), wi_ST_length, wc_ST_length, ⟨by decide, by decide, by decide +kernel⟩, by decide⟩, wm_ST_length, (mm_w3 (i := 2) rfl rfl)⟩
theorem cs_X_26 : mm_CB "StubServer$Texts" 26 M_ST_charAt 1 ∧ Cond.instanceMethod M_ST_charAt.1 ∈ mm_all ∧ Cond.selects M_ST_charAt.1.cls M_ST_charAt.1 M_ST_charAt.1 ∈ mm_all := ⟨⟨(mm_w4 (i := 12) rfl rfl), wi_ST_charAt, wc_ST_charAt, ⟨by decide, by decide, by decide +kernel⟩, by decide⟩, wm_ST_charAt, (mm_w3 (i := 61) rfl rfl)⟩
theorem cs_X_30 : mm_CB "StubServer$Texts" 30 M_ST_substring_II 2 ∧ Cond.instanceMethod M_ST_substring_II.1 ∈ mm_all ∧ Cond.selects M_ST_substring_II.1.cls M_ST_substring_II.1 M_ST_substring_II.1 ∈ mm_all := ⟨⟨(mm_w4 (i := 13) rfl rfl), wi_ST_substring_II, wc_ST_substring_II, ⟨by decide, by decide, by decide +kernel⟩, by decide⟩, wm_ST_substring_II, (mm_w3 (i := 79) rfl rfl)⟩
theorem fl_R_176 : mm_FL "StubServer$Reader" 176 8 0 := ⟨_, _, _, "StubServer$Part", rfl, by decide, (mm_w1 (i := 137) rfl rfl), Or.inl rfl⟩
theorem ld_R_180 : ("StubServer$Reader", 180, "len", 3) ∈ mm_strs := List.mem_of_getElem? (i := 6) rfl
theorem cs_R_182 : mm_CB "StubServer$Reader" 182 M_ST_equals 1 ∧ Cond.instanceMethod M_ST_equals.1 ∈ mm_all ∧ Cond.selects M_ST_equals.1.cls M_ST_equals.1 M_ST_equals.1 ∈ mm_all := ⟨⟨(mm_w4 (i := 21) rfl rfl), wi_ST_equals, wc_ST_equals, ⟨by decide, by decide, by decide +kernel⟩, by decide⟩, wm_ST_equals, (mm_w3 (i := 102) rfl rfl)⟩
theorem ld_R_185 : ("StubServer$Reader", 185, "chunked", 4) ∈ mm_strs := List.mem_of_getElem? (i := 7) rfl
theorem fl_R_45 : mm_FL "StubServer$Reader" 45 5 6 := ⟨_, _, _, "StubServer$Reader", rfl, by decide, (mm_w1 (i := 182) rfl rfl), Or.inl rfl⟩
theorem pl_R_lookForSize_45 : mm_PL M_R_lookForSize 45 5 6 (.boolean) := ⟨_, _, _, "StubServer$Reader", rfl, by decide, (mm_w1 (i := 182) rfl rfl), Or.inl rfl, by decide +kernel, Or.inl rfl⟩
theorem fl_R_186 : mm_FL "StubServer$Reader" 186 8 1 := ⟨_, _, _, "StubServer$Part", rfl, by decide, (mm_w1 (i := 142) rfl rfl), Or.inl rfl⟩
theorem cs_R_189 : mm_CB "StubServer$Reader" 189 M_R_readLength 1 ∧ Cond.instanceMethod M_R_readLength.1 ∈ mm_all ∧ Cond.selects M_R_readLength.1.cls M_R_readLength.1 M_R_readLength.1 ∈ mm_all := ⟨⟨(mm_w4 (i := 23) rfl rfl), wi_R_readLength, wc_R_readLength, ⟨by decide, by decide, by decide +kernel⟩, by decide⟩, wm_R_readLength, (mm_w0 (i := 11) rfl rfl)⟩
theorem pl_R_lookForSize_48 : mm_PL M_R_lookForSize 48 5 7 (.boolean) := ⟨_, _, _, "StubServer$Reader", rfl, by decide, (mm_w1 (i := 183) rfl rfl), Or.inl rfl, by decide +kernel, Or.inl rfl⟩
theorem ld_R_193 : ("StubServer$Reader", 193, "yes", 5) ∈ mm_strs := List.mem_of_getElem? (i := 8) rfl
theorem cs_R_195 : mm_CB "StubServer$Reader" 195 M_ST_length 0 ∧ Cond.instanceMethod M_ST_length.1 ∈ mm_all ∧ Cond.selects M_ST_length.1.cls M_ST_length.1 M_ST_length.1 ∈ mm_all := ⟨⟨(mm_w4 (i := 27) rfl rfl), wi_ST_length, wc_ST_length, ⟨by decide, by decide, by decide +kernel⟩, by decide⟩, wm_ST_length, (mm_w3 (i := 2) rfl rfl)⟩
theorem cs_R_196 : mm_CB "StubServer$Reader" 196 M_X_isDigit 1 ∧ Cond.static M_X_isDigit.1 ∈ mm_all := ⟨⟨(mm_w4 (i := 28) rfl rfl), wi_X_isDigit, wc_X_isDigit, ⟨by decide, by decide, by decide +kernel⟩, by decide⟩, wt_X_isDigit⟩
theorem pl_R_readLength_51 : mm_PL M_R_readLength 51 5 8 (.int) := ⟨_, _, _, "StubServer$Reader", rfl, by decide, (mm_w1 (i := 184) rfl rfl), Or.inl rfl, by decide +kernel, Or.inl rfl⟩
theorem fl_R_16 : mm_FL "StubServer$Reader" 16 5 1 := ⟨_, _, _, "StubServer$Reader", rfl, by decide, (mm_w1 (i := 177) rfl rfl), Or.inl rfl⟩
theorem pl_R_takeInBody_51 : mm_PL M_R_takeInBody 51 5 8 (.int) := ⟨_, _, _, "StubServer$Reader", rfl, by decide, (mm_w1 (i := 184) rfl rfl), Or.inl rfl, by decide +kernel, Or.inl rfl⟩
theorem cs_R_199 : mm_CB "StubServer$Reader" 199 M_R_endChunkSize 0 ∧ Cond.instanceMethod M_R_endChunkSize.1 ∈ mm_all ∧ Cond.selects M_R_endChunkSize.1.cls M_R_endChunkSize.1 M_R_endChunkSize.1 ∈ mm_all := ⟨⟨(mm_w4 (i := 40) rfl rfl), wi_R_endChunkSize, wc_R_endChunkSize, ⟨by decide, by decide, by decide +kernel⟩, by decide⟩, wm_R_endChunkSize, (mm_w0 (i := 14) rfl rfl)⟩
theorem fl_R_54 : mm_FL "StubServer$Reader" 54 5 9 := ⟨_, _, _, "StubServer$Reader", rfl, by decide, (mm_w1 (i := 185) rfl rfl), Or.inl rfl⟩
theorem pl_R_takeInChunkSize_41 : mm_PL M_R_takeInChunkSize 41 5 5 (.boolean) := ⟨_, _, _, "StubServer$Reader", rfl, by decide, (mm_w1 (i := 181) rfl rfl), Or.inl rfl, by decide +kernel, Or.inl rfl⟩
theorem cs_R_202 : mm_CB "StubServer$Reader" 202 M_X_hexDigit 1 ∧ Cond.static M_X_hexDigit.1 ∈ mm_all := ⟨⟨(mm_w4 (i := 44) rfl rfl), wi_X_hexDigit, wc_X_hexDigit, ⟨by decide, by decide, by decide +kernel⟩, by decide⟩, wt_X_hexDigit⟩
theorem pl_R_takeInChunkSize_51 : mm_PL M_R_takeInChunkSize 51 5 8 (.int) := ⟨_, _, _, "StubServer$Reader", rfl, by decide, (mm_w1 (i := 184) rfl rfl), Or.inl rfl, by decide +kernel, Or.inl rfl⟩
theorem pl_R_takeInChunkSize_54 : mm_PL M_R_takeInChunkSize 54 5 9 (.int) := ⟨_, _, _, "StubServer$Reader", rfl, by decide, (mm_w1 (i := 185) rfl rfl), Or.inl rfl, by decide +kernel, Or.inl rfl⟩
theorem pl_R_endChunkSize_41 : mm_PL M_R_endChunkSize 41 5 5 (.boolean) := ⟨_, _, _, "StubServer$Reader", rfl, by decide, (mm_w1 (i := 181) rfl rfl), Or.inl rfl, by decide +kernel, Or.inl rfl⟩
theorem pl_R_endChunkSize_54 : mm_PL M_R_endChunkSize 54 5 9 (.int) := ⟨_, _, _, "StubServer$Reader", rfl, by decide, (mm_w1 (i := 185) rfl rfl), Or.inl rfl, by decide +kernel, Or.inl rfl⟩
theorem fl_R_57 : mm_FL "StubServer$Reader" 57 5 10 := ⟨_, _, _, "StubServer$Reader", rfl, by decide, (mm_w1 (i := 186) rfl rfl), Or.inl rfl⟩
theorem pl_R_endChunkSize_57 : mm_PL M_R_endChunkSize 57 5 10 (.int) := ⟨_, _, _, "StubServer$Reader", rfl, by decide, (mm_w1 (i := 186) rfl rfl), Or.inl rfl, by decide +kernel, Or.inl rfl⟩
theorem pl_R_endChunkSize_48 : mm_PL M_R_endChunkSize 48 5 7 (.boolean) := ⟨_, _, _, "StubServer$Reader", rfl, by decide, (mm_w1 (i := 183) rfl rfl), Or.inl rfl, by decide +kernel, Or.inl rfl⟩
theorem pl_R_endChunkSize_33 : mm_PL M_R_endChunkSize 33 5 4 (.int) := ⟨_, _, _, "StubServer$Reader", rfl, by decide, (mm_w1 (i := 180) rfl rfl), Or.inl rfl, by decide +kernel, Or.inl rfl⟩
theorem pl_R_takeInChunk_51 : mm_PL M_R_takeInChunk 51 5 8 (.int) := ⟨_, _, _, "StubServer$Reader", rfl, by decide, (mm_w1 (i := 184) rfl rfl), Or.inl rfl, by decide +kernel, Or.inl rfl⟩
theorem pl_R_takeInChunk_33 : mm_PL M_R_takeInChunk 33 5 4 (.int) := ⟨_, _, _, "StubServer$Reader", rfl, by decide, (mm_w1 (i := 180) rfl rfl), Or.inl rfl, by decide +kernel, Or.inl rfl⟩
theorem pl_R_takeInChunkEnd_41 : mm_PL M_R_takeInChunkEnd 41 5 5 (.boolean) := ⟨_, _, _, "StubServer$Reader", rfl, by decide, (mm_w1 (i := 181) rfl rfl), Or.inl rfl, by decide +kernel, Or.inl rfl⟩
theorem pl_R_takeInChunkEnd_33 : mm_PL M_R_takeInChunkEnd 33 5 4 (.int) := ⟨_, _, _, "StubServer$Reader", rfl, by decide, (mm_w1 (i := 180) rfl rfl), Or.inl rfl, by decide +kernel, Or.inl rfl⟩
theorem cs_S_180 : mm_CB "StubServer" 180 M_R_handOver 0 ∧ Cond.instanceMethod M_R_handOver.1 ∈ mm_all ∧ Cond.selects M_R_handOver.1.cls M_R_handOver.1 M_R_handOver.1 ∈ mm_all := ⟨⟨(mm_w4 (i := 57) rfl rfl), wi_R_handOver, wc_R_handOver, ⟨by decide, by decide, by decide +kernel⟩, by decide⟩, wm_R_handOver, (mm_w4 (i := 59) rfl rfl)⟩
theorem fl_S_177 : mm_FL "StubServer" 177 3 7 := ⟨_, _, _, "StubServer", rfl, by decide, (mm_w1 (i := 236) rfl rfl), Or.inl rfl⟩
theorem pl_S_serve_177 : mm_PL M_S_serve 177 3 7 (.int) := ⟨_, _, _, "StubServer", rfl, by decide, (mm_w1 (i := 236) rfl rfl), Or.inl rfl, by decide +kernel, Or.inl rfl⟩
theorem cs_S_167 : mm_CB "StubServer" 167 M_S_nearest 1 ∧ Cond.instanceMethod M_S_nearest.1 ∈ mm_all ∧ Cond.selects M_S_nearest.1.cls M_S_nearest.1 M_S_nearest.1 ∈ mm_all := ⟨⟨(mm_w4 (i := 66) rfl rfl), wi_S_nearest, wc_S_nearest, ⟨by decide, by decide, by decide +kernel⟩, by decide⟩, wm_S_nearest, (mm_w0 (i := 18) rfl rfl)⟩
theorem fl_S_174 : mm_FL "StubServer" 174 12 4 := ⟨_, _, _, "StubServer$Stub", rfl, by decide, (mm_w5 (i := 162) rfl rfl), Or.inl rfl⟩
theorem fl_S_145 : mm_FL "StubServer" 145 12 5 := ⟨_, _, _, "StubServer$Stub", rfl, by decide, (mm_w5 (i := 163) rfl rfl), Or.inl rfl⟩
theorem cs_S_157 : mm_CB "StubServer" 157 M_S_conditionsMissed 3 ∧ Cond.instanceMethod M_S_conditionsMissed.1 ∈ mm_all ∧ Cond.selects M_S_conditionsMissed.1.cls M_S_conditionsMissed.1 M_S_conditionsMissed.1 ∈ mm_all := ⟨⟨(mm_w4 (i := 84) rfl rfl), wi_S_conditionsMissed, wc_S_conditionsMissed, ⟨by decide, by decide, by decide +kernel⟩, by decide⟩, wm_S_conditionsMissed, (mm_w0 (i := 19) rfl rfl)⟩
theorem ld_S_184 : ("StubServer", 184, "", 1) ∈ mm_strs := List.mem_of_getElem? (i := 10) rfl
theorem cs_S_186 : mm_CB "StubServer" 186 M_C_respond 2 ∧ Cond.instanceMethod M_C_respond.1 ∈ mm_all ∧ Cond.selects M_C_respond.1.cls M_C_respond.1 M_C_respond.1 ∈ mm_all := ⟨⟨(mm_w4 (i := 124) rfl rfl), wi_C_respond, wc_C_respond, ⟨by decide, by decide, by decide +kernel⟩, by decide⟩, wm_C_respond, (mm_w4 (i := 126) rfl rfl)⟩
theorem fl_S_171 : mm_FL "StubServer" 171 12 0 := ⟨_, _, _, "StubServer$Stub", rfl, by decide, (mm_w5 (i := 154) rfl rfl), Or.inl rfl⟩
theorem pl_S_serve_164 : mm_PL M_S_serve 164 7 5 (.int) := ⟨_, _, _, "StubServer$Request", rfl, by decide, (mm_w1 (i := 162) rfl rfl), Or.inl rfl, by decide +kernel, Or.inl rfl⟩
theorem cs_S_190 : mm_CB "StubServer" 190 M_S_moveOn 1 ∧ Cond.instanceMethod M_S_moveOn.1 ∈ mm_all ∧ Cond.selects M_S_moveOn.1.cls M_S_moveOn.1 M_S_moveOn.1 ∈ mm_all := ⟨⟨(mm_w4 (i := 186) rfl rfl), wi_S_moveOn, wc_S_moveOn, ⟨by decide, by decide, by decide +kernel⟩, by decide⟩, wm_S_moveOn, (mm_w0 (i := 22) rfl rfl)⟩
theorem fl_S_194 : mm_FL "StubServer" 194 12 2 := ⟨_, _, _, "StubServer$Stub", rfl, by decide, (mm_w5 (i := 158) rfl rfl), Or.inl rfl⟩
theorem fl_S_197 : mm_FL "StubServer" 197 12 3 := ⟨_, _, _, "StubServer$Stub", rfl, by decide, (mm_w5 (i := 160) rfl rfl), Or.inl rfl⟩
theorem cs_S_201 : mm_CB "StubServer" 201 M_T_fill 2 ∧ Cond.instanceMethod M_T_fill.1 ∈ mm_all ∧ Cond.selects M_T_fill.1.cls M_T_fill.1 M_T_fill.1 ∈ mm_all := ⟨⟨(mm_w4 (i := 190) rfl rfl), wi_T_fill, wc_T_fill, ⟨by decide, by decide, by decide +kernel⟩, by decide⟩, wm_T_fill, (mm_w4 (i := 192) rfl rfl)⟩
theorem cs_S_207 : mm_CB "StubServer" 207 M_S_keep 1 ∧ Cond.instanceMethod M_S_keep.1 ∈ mm_all ∧ Cond.selects M_S_keep.1.cls M_S_keep.1 M_S_keep.1 ∈ mm_all := ⟨⟨(mm_w4 (i := 219) rfl rfl), wi_S_keep, wc_S_keep, ⟨by decide, by decide, by decide +kernel⟩, by decide⟩, wm_S_keep, (mm_w0 (i := 25) rfl rfl)⟩
theorem cs_S_211 : mm_CB "StubServer" 211 M_E_asksToClose 0 ∧ Cond.instanceMethod M_E_asksToClose.1 ∈ mm_all ∧ Cond.selects M_E_asksToClose.1.cls M_E_asksToClose.1 M_E_asksToClose.1 ∈ mm_all := ⟨⟨(mm_w4 (i := 233) rfl rfl), wi_E_asksToClose, wc_E_asksToClose, ⟨by decide, by decide, by decide +kernel⟩, by decide⟩, wm_E_asksToClose, (mm_w4 (i := 235) rfl rfl)⟩
theorem pl_S_serve_66 : mm_PL M_S_serve 66 4 2 (.boolean) := ⟨_, _, _, "StubServer$Connection", rfl, by decide, (mm_w1 (i := 217) rfl rfl), Or.inl rfl, by decide +kernel, Or.inl rfl⟩
theorem ld_R_62 : ("StubServer$Reader", 62, "", 1) ∈ mm_strs := List.mem_of_getElem? (i := 9) rfl
theorem pl_R_handOver_71 : mm_PL M_R_handOver 71 7 4 (.object "StubServer$Part") := ⟨_, _, _, "StubServer$Request", rfl, by decide, (mm_w1 (i := 159) rfl rfl), Or.inl rfl, by decide +kernel, Or.inl rfl⟩
theorem cs_R_74 : mm_CB "StubServer$Reader" 74 M_R_begin 0 ∧ Cond.instanceMethod M_R_begin.1 ∈ mm_all ∧ Cond.selects M_R_begin.1.cls M_R_begin.1 M_R_begin.1 ∈ mm_all := ⟨⟨(mm_w4 (i := 62) rfl rfl), wi_R_begin, wc_R_begin, ⟨by decide, by decide, by decide +kernel⟩, by decide⟩, wm_R_begin, (mm_w4 (i := 64) rfl rfl)⟩
theorem pl_R_begin_29 : mm_PL M_R_begin 29 5 3 (.object "StubServer$Request") := ⟨_, _, _, "StubServer$Reader", rfl, by decide, (mm_w1 (i := 179) rfl rfl), Or.inl rfl, by decide +kernel, Or.inl rfl⟩
theorem pl_R_begin_33 : mm_PL M_R_begin 33 5 4 (.int) := ⟨_, _, _, "StubServer$Reader", rfl, by decide, (mm_w1 (i := 180) rfl rfl), Or.inl rfl, by decide +kernel, Or.inl rfl⟩
theorem pl_R_begin_41 : mm_PL M_R_begin 41 5 5 (.boolean) := ⟨_, _, _, "StubServer$Reader", rfl, by decide, (mm_w1 (i := 181) rfl rfl), Or.inl rfl, by decide +kernel, Or.inl rfl⟩
theorem pl_R_begin_45 : mm_PL M_R_begin 45 5 6 (.boolean) := ⟨_, _, _, "StubServer$Reader", rfl, by decide, (mm_w1 (i := 182) rfl rfl), Or.inl rfl, by decide +kernel, Or.inl rfl⟩
theorem pl_R_begin_48 : mm_PL M_R_begin 48 5 7 (.boolean) := ⟨_, _, _, "StubServer$Reader", rfl, by decide, (mm_w1 (i := 183) rfl rfl), Or.inl rfl, by decide +kernel, Or.inl rfl⟩
theorem pl_R_begin_51 : mm_PL M_R_begin 51 5 8 (.int) := ⟨_, _, _, "StubServer$Reader", rfl, by decide, (mm_w1 (i := 184) rfl rfl), Or.inl rfl, by decide +kernel, Or.inl rfl⟩
theorem pl_R_begin_54 : mm_PL M_R_begin 54 5 9 (.int) := ⟨_, _, _, "StubServer$Reader", rfl, by decide, (mm_w1 (i := 185) rfl rfl), Or.inl rfl, by decide +kernel, Or.inl rfl⟩
theorem pl_R_begin_57 : mm_PL M_R_begin 57 5 10 (.int) := ⟨_, _, _, "StubServer$Reader", rfl, by decide, (mm_w1 (i := 186) rfl rfl), Or.inl rfl, by decide +kernel, Or.inl rfl⟩
theorem fl_S_30 : mm_FL "StubServer" 30 3 3 := ⟨_, _, _, "StubServer", rfl, by decide, (mm_w1 (i := 232) rfl rfl), Or.inl rfl⟩
theorem cs_S_99 : mm_CB "StubServer" 99 M_AL_size 0 ∧ Cond.instanceMethod M_AL_size.1 ∈ mm_all ∧ Cond.selects M_AL_size.1.cls M_AL_size.1 M_AL_size.1 ∈ mm_all := ⟨⟨(mm_w4 (i := 70) rfl rfl), wi_AL_size, wc_AL_size, ⟨by decide, by decide, by decide +kernel⟩, by decide⟩, wm_AL_size, (mm_w3 (i := 139) rfl rfl)⟩
theorem cs_S_136 : mm_CB "StubServer" 136 M_AL_get 1 ∧ Cond.instanceMethod M_AL_get.1 ∈ mm_all ∧ Cond.selects M_AL_get.1.cls M_AL_get.1 M_AL_get.1 ∈ mm_all := ⟨⟨(mm_w4 (i := 71) rfl rfl), wi_AL_get, wc_AL_get, ⟨by decide, by decide, by decide +kernel⟩, by decide⟩, wm_AL_get, (mm_w4 (i := 73) rfl rfl)⟩
theorem cl_S_122 : Cond.classLink "StubServer" 122 "StubServer$Stub" ∈ mm_all := mm_w4 (i := 83) rfl rfl
theorem fl_S_221 : mm_FL "StubServer" 221 12 1 := ⟨_, _, _, "StubServer$Stub", rfl, by decide, (mm_w5 (i := 156) rfl rfl), Or.inl rfl⟩
theorem cs_AL_118 : mm_CB "java/util/ArrayList" 118 M_OS_checkIndex 2 ∧ Cond.static M_OS_checkIndex.1 ∈ mm_all := ⟨⟨(mm_w4 (i := 75) rfl rfl), wi_OS_checkIndex, wc_OS_checkIndex, ⟨by decide, by decide, by decide +kernel⟩, by decide⟩, wt_OS_checkIndex⟩
theorem cs_AL_123 : mm_CB "java/util/ArrayList" 123 M_AL_elementData 1 ∧ Cond.instanceMethod M_AL_elementData.1 ∈ mm_all ∧ Cond.selects M_AL_elementData.1.cls M_AL_elementData.1 M_AL_elementData.1 ∈ mm_all := ⟨⟨(mm_w4 (i := 79) rfl rfl), wi_AL_elementData, wc_AL_elementData, ⟨by decide, by decide, by decide +kernel⟩, by decide⟩, wm_AL_elementData, (mm_w4 (i := 81) rfl rfl)⟩
theorem cs_OS_105 : mm_CB "java/util/Objects" 105 M_PC_checkIndex 3 ∧ Cond.static M_PC_checkIndex.1 ∈ mm_all := ⟨⟨(mm_w4 (i := 78) rfl rfl), wi_PC_checkIndex, wc_PC_checkIndex, ⟨by decide, by decide, by decide +kernel⟩, by decide⟩, wt_PC_checkIndex⟩
theorem fl_S_16 : mm_FL "StubServer" 16 3 1 := ⟨_, _, _, "StubServer", rfl, by decide, (mm_w1 (i := 230) rfl rfl), Or.inl rfl⟩
theorem fl_S_215 : mm_FL "StubServer" 215 13 0 := ⟨_, _, _, "StubServer$Scene", rfl, by decide, (mm_w5 (i := 198) rfl rfl), Or.inl rfl⟩
theorem fl_S_224 : mm_FL "StubServer" 224 13 1 := ⟨_, _, _, "StubServer$Scene", rfl, by decide, (mm_w5 (i := 200) rfl rfl), Or.inl rfl⟩
theorem cl_S_106 : Cond.classLink "StubServer" 106 "StubServer$Matcher" ∈ mm_all := mm_w4 (i := 88) rfl rfl
theorem cs_S_227 : mm_CB "StubServer" 227 M_H_holds 1 ∧ Cond.instanceMethod M_H_holds.1 ∈ mm_all ∧ Cond.selects M_H_holds.1.cls M_H_holds.1 M_H_holds.1 ∈ mm_all := ⟨⟨(mm_w4 (i := 89) rfl rfl), wi_H_holds, wc_H_holds, ⟨by decide, by decide, by decide +kernel⟩, by decide⟩, wm_H_holds, (mm_w4 (i := 91) rfl rfl)⟩
theorem fl_H_7 : mm_FL "StubServer$Matcher" 7 9 0 := ⟨_, _, _, "StubServer$Matcher", rfl, by decide, (mm_w5 (i := 60) rfl rfl), Or.inl rfl⟩
theorem fl_H_16 : mm_FL "StubServer$Matcher" 16 9 2 := ⟨_, _, _, "StubServer$Matcher", rfl, by decide, (mm_w5 (i := 62) rfl rfl), Or.inl rfl⟩
theorem cs_H_69 : mm_CB "StubServer$Matcher" 69 M_E_find 2 ∧ Cond.instanceMethod M_E_find.1 ∈ mm_all ∧ Cond.selects M_E_find.1.cls M_E_find.1 M_E_find.1 ∈ mm_all := ⟨⟨(mm_w4 (i := 93) rfl rfl), wi_E_find, wc_E_find, ⟨by decide, by decide, by decide +kernel⟩, by decide⟩, wm_E_find, (mm_w4 (i := 95) rfl rfl)⟩
theorem fl_H_13 : mm_FL "StubServer$Matcher" 13 9 1 := ⟨_, _, _, "StubServer$Matcher", rfl, by decide, (mm_w5 (i := 61) rfl rfl), Or.inl rfl⟩
theorem fl_H_73 : mm_FL "StubServer$Matcher" 73 8 1 := ⟨_, _, _, "StubServer$Part", rfl, by decide, (mm_w1 (i := 140) rfl rfl), Or.inl rfl⟩
theorem fl_H_20 : mm_FL "StubServer$Matcher" 20 9 3 := ⟨_, _, _, "StubServer$Matcher", rfl, by decide, (mm_w5 (i := 63) rfl rfl), Or.inl rfl⟩
theorem cs_H_78 : mm_CB "StubServer$Matcher" 78 M_ST_equals 1 ∧ Cond.instanceMethod M_ST_equals.1 ∈ mm_all ∧ Cond.selects M_ST_equals.1.cls M_ST_equals.1 M_ST_equals.1 ∈ mm_all := ⟨⟨(mm_w4 (i := 103) rfl rfl), wi_ST_equals, wc_ST_equals, ⟨by decide, by decide, by decide +kernel⟩, by decide⟩, wm_ST_equals, (mm_w3 (i := 102) rfl rfl)⟩
theorem cs_H_82 : mm_CB "StubServer$Matcher" 82 M_X_contains 2 ∧ Cond.static M_X_contains.1 ∈ mm_all := ⟨⟨(mm_w4 (i := 104) rfl rfl), wi_X_contains, wc_X_contains, ⟨by decide, by decide, by decide +kernel⟩, by decide⟩, wt_X_contains⟩
theorem fl_H_23 : mm_FL "StubServer$Matcher" 23 9 4 := ⟨_, _, _, "StubServer$Matcher", rfl, by decide, (mm_w5 (i := 64) rfl rfl), Or.inl rfl⟩
theorem cs_H_86 : mm_CB "StubServer$Matcher" 86 M_N_fits 1 ∧ Cond.instanceMethod M_N_fits.1 ∈ mm_all ∧ Cond.selects M_N_fits.1.cls M_N_fits.1 M_N_fits.1 ∈ mm_all := ⟨⟨(mm_w4 (i := 107) rfl rfl), wi_N_fits, wc_N_fits, ⟨by decide, by decide, by decide +kernel⟩, by decide⟩, wm_N_fits, (mm_w4 (i := 109) rfl rfl)⟩
theorem fl_E_30 : mm_FL "StubServer$Request" 30 7 3 := ⟨_, _, _, "StubServer$Request", rfl, by decide, (mm_w1 (i := 155) rfl rfl), Or.inl rfl⟩
theorem fl_E_10 : mm_FL "StubServer$Request" 10 7 0 := ⟨_, _, _, "StubServer$Request", rfl, by decide, (mm_w1 (i := 148) rfl rfl), Or.inl rfl⟩
theorem cs_E_40 : mm_CB "StubServer$Request" 40 M_E_firstOf 2 ∧ Cond.static M_E_firstOf.1 ∈ mm_all := ⟨⟨(mm_w4 (i := 97) rfl rfl), wi_E_firstOf, wc_E_firstOf, ⟨by decide, by decide, by decide +kernel⟩, by decide⟩, wt_E_firstOf⟩
theorem fl_E_16 : mm_FL "StubServer$Request" 16 7 1 := ⟨_, _, _, "StubServer$Request", rfl, by decide, (mm_w1 (i := 150) rfl rfl), Or.inl rfl⟩
theorem fl_E_33 : mm_FL "StubServer$Request" 33 7 4 := ⟨_, _, _, "StubServer$Request", rfl, by decide, (mm_w1 (i := 158) rfl rfl), Or.inl rfl⟩
theorem cs_E_44 : mm_CB "StubServer$Request" 44 M_AL_size 0 ∧ Cond.instanceMethod M_AL_size.1 ∈ mm_all ∧ Cond.selects M_AL_size.1.cls M_AL_size.1 M_AL_size.1 ∈ mm_all := ⟨⟨(mm_w4 (i := 100) rfl rfl), wi_AL_size, wc_AL_size, ⟨by decide, by decide, by decide +kernel⟩, by decide⟩, wm_AL_size, (mm_w3 (i := 139) rfl rfl)⟩
theorem cs_E_48 : mm_CB "StubServer$Request" 48 M_AL_get 1 ∧ Cond.instanceMethod M_AL_get.1 ∈ mm_all ∧ Cond.selects M_AL_get.1.cls M_AL_get.1 M_AL_get.1 ∈ mm_all := ⟨⟨(mm_w4 (i := 101) rfl rfl), wi_AL_get, wc_AL_get, ⟨by decide, by decide, by decide +kernel⟩, by decide⟩, wm_AL_get, (mm_w4 (i := 73) rfl rfl)⟩
theorem cl_E_19 : Cond.classLink "StubServer$Request" 19 "StubServer$Part" ∈ mm_all := mm_w1 (i := 128) rfl rfl
theorem fl_E_52 : mm_FL "StubServer$Request" 52 8 0 := ⟨_, _, _, "StubServer$Part", rfl, by decide, (mm_w1 (i := 136) rfl rfl), Or.inl rfl⟩
theorem cs_E_56 : mm_CB "StubServer$Request" 56 M_ST_equals 1 ∧ Cond.instanceMethod M_ST_equals.1 ∈ mm_all ∧ Cond.selects M_ST_equals.1.cls M_ST_equals.1 M_ST_equals.1 ∈ mm_all := ⟨⟨(mm_w4 (i := 102) rfl rfl), wi_ST_equals, wc_ST_equals, ⟨by decide, by decide, by decide +kernel⟩, by decide⟩, wm_ST_equals, (mm_w3 (i := 102) rfl rfl)⟩
theorem fl_N_7 : mm_FL "StubServer$Pattern" 7 10 3 := ⟨_, _, _, "StubServer$Pattern", rfl, by decide, (mm_w5 (i := 100) rfl rfl), Or.inl rfl⟩
theorem cs_N_66 : mm_CB "StubServer$Pattern" 66 M_N_withLeft 1 ∧ Cond.instanceMethod M_N_withLeft.1 ∈ mm_all ∧ Cond.selects M_N_withLeft.1.cls M_N_withLeft.1 M_N_withLeft.1 ∈ mm_all := ⟨⟨(mm_w4 (i := 111) rfl rfl), wi_N_withLeft, wc_N_withLeft, ⟨by decide, by decide, by decide +kernel⟩, by decide⟩, wm_N_withLeft, (mm_w0 (i := 20) rfl rfl)⟩
theorem cs_N_17 : mm_CB "StubServer$Pattern" 17 M_ST_length 0 ∧ Cond.instanceMethod M_ST_length.1 ∈ mm_all ∧ Cond.selects M_ST_length.1.cls M_ST_length.1 M_ST_length.1 ∈ mm_all := ⟨⟨(mm_w4 (i := 116) rfl rfl), wi_ST_length, wc_ST_length, ⟨by decide, by decide, by decide +kernel⟩, by decide⟩, wm_ST_length, (mm_w3 (i := 2) rfl rfl)⟩
theorem cs_N_38 : mm_CB "StubServer$Pattern" 38 M_ST_charAt 1 ∧ Cond.instanceMethod M_ST_charAt.1 ∈ mm_all ∧ Cond.selects M_ST_charAt.1.cls M_ST_charAt.1 M_ST_charAt.1 ∈ mm_all := ⟨⟨(mm_w4 (i := 117) rfl rfl), wi_ST_charAt, wc_ST_charAt, ⟨by decide, by decide, by decide +kernel⟩, by decide⟩, wm_ST_charAt, (mm_w3 (i := 61) rfl rfl)⟩
theorem cs_N_70 : mm_CB "StubServer$Pattern" 70 M_N_placesAllowing 1 ∧ Cond.instanceMethod M_N_placesAllowing.1 ∈ mm_all ∧ Cond.selects M_N_placesAllowing.1.cls M_N_placesAllowing.1 M_N_placesAllowing.1 ∈ mm_all := ⟨⟨(mm_w4 (i := 118) rfl rfl), wi_N_placesAllowing, wc_N_placesAllowing, ⟨by decide, by decide, by decide +kernel⟩, by decide⟩, wm_N_placesAllowing, (mm_w0 (i := 21) rfl rfl)⟩
theorem fl_N_60 : mm_FL "StubServer$Pattern" 60 10 7 := ⟨_, _, _, "StubServer$Pattern", rfl, by decide, (mm_w5 (i := 104) rfl rfl), Or.inl rfl⟩
theorem fl_N_63 : mm_FL "StubServer$Pattern" 63 10 4 := ⟨_, _, _, "StubServer$Pattern", rfl, by decide, (mm_w5 (i := 101) rfl rfl), Or.inl rfl⟩
theorem fl_N_42 : mm_FL "StubServer$Pattern" 42 10 2 := ⟨_, _, _, "StubServer$Pattern", rfl, by decide, (mm_w5 (i := 99) rfl rfl), Or.inl rfl⟩
theorem fl_N_57 : mm_FL "StubServer$Pattern" 57 10 6 := ⟨_, _, _, "StubServer$Pattern", rfl, by decide, (mm_w5 (i := 103) rfl rfl), Or.inl rfl⟩
theorem fl_N_54 : mm_FL "StubServer$Pattern" 54 10 5 := ⟨_, _, _, "StubServer$Pattern", rfl, by decide, (mm_w5 (i := 102) rfl rfl), Or.inl rfl⟩
theorem fl_N_13 : mm_FL "StubServer$Pattern" 13 10 0 := ⟨_, _, _, "StubServer$Pattern", rfl, by decide, (mm_w5 (i := 97) rfl rfl), Or.inl rfl⟩
theorem fl_N_23 : mm_FL "StubServer$Pattern" 23 10 1 := ⟨_, _, _, "StubServer$Pattern", rfl, by decide, (mm_w5 (i := 98) rfl rfl), Or.inl rfl⟩
theorem fl_C_19 : mm_FL "StubServer$Connection" 19 4 1 := ⟨_, _, _, "StubServer$Connection", rfl, by decide, (mm_w1 (i := 214) rfl rfl), Or.inl rfl⟩
theorem cs_C_30 : mm_CB "StubServer$Connection" 30 M_SB_setLength 1 ∧ Cond.instanceMethod M_SB_setLength.1 ∈ mm_all ∧ Cond.selects M_SB_setLength.1.cls M_SB_setLength.1 M_SB_setLength.1 ∈ mm_all := ⟨⟨(mm_w4 (i := 128) rfl rfl), wi_SB_setLength, wc_SB_setLength, ⟨by decide, by decide, by decide +kernel⟩, by decide⟩, wm_SB_setLength, (mm_w2 (i := 206) rfl rfl)⟩
theorem cs_C_40 : mm_CB "StubServer$Connection" 40 M_SB_append_I 1 ∧ Cond.instanceMethod M_SB_append_I.1 ∈ mm_all ∧ Cond.selects M_SB_append_I.1.cls M_SB_append_I.1 M_SB_append_I.1 ∈ mm_all := ⟨⟨(mm_w4 (i := 129) rfl rfl), wi_SB_append_I, wc_SB_append_I, ⟨by decide, by decide, by decide +kernel⟩, by decide⟩, wm_SB_append_I, (mm_w4 (i := 131) rfl rfl)⟩
theorem cs_C_44 : mm_CB "StubServer$Connection" 44 M_SB_append_C 1 ∧ Cond.instanceMethod M_SB_append_C.1 ∈ mm_all ∧ Cond.selects M_SB_append_C.1.cls M_SB_append_C.1 M_SB_append_C.1 ∈ mm_all := ⟨⟨(mm_w4 (i := 154) rfl rfl), wi_SB_append_C, wc_SB_append_C, ⟨by decide, by decide, by decide +kernel⟩, by decide⟩, wm_SB_append_C, (mm_w2 (i := 53) rfl rfl)⟩
theorem cs_C_47 : mm_CB "StubServer$Connection" 47 M_ST_length 0 ∧ Cond.instanceMethod M_ST_length.1 ∈ mm_all ∧ Cond.selects M_ST_length.1.cls M_ST_length.1 M_ST_length.1 ∈ mm_all := ⟨⟨(mm_w4 (i := 155) rfl rfl), wi_ST_length, wc_ST_length, ⟨by decide, by decide, by decide +kernel⟩, by decide⟩, wm_ST_length, (mm_w3 (i := 2) rfl rfl)⟩
theorem cs_C_53 : mm_CB "StubServer$Connection" 53 M_SB_append_S 1 ∧ Cond.instanceMethod M_SB_append_S.1 ∈ mm_all ∧ Cond.selects M_SB_append_S.1.cls M_SB_append_S.1 M_SB_append_S.1 ∈ mm_all := ⟨⟨(mm_w4 (i := 156) rfl rfl), wi_SB_append_S, wc_SB_append_S, ⟨by decide, by decide, by decide +kernel⟩, by decide⟩, wm_SB_append_S, (mm_w4 (i := 158) rfl rfl)⟩
theorem cs_SB_53 : mm_CP "java/lang/StringBuilder" 53 M_AB_append_I 1 := ⟨(mm_w4 (i := 133) rfl rfl), wi_AB_append_I, wc_AB_append_I, ⟨by decide, by decide +kernel⟩, by decide, (mm_w7 (i := 173) rfl rfl), (mm_w1 (i := 82) rfl rfl), wm_AB_append_I⟩
theorem cs_AB_245 : mm_CB "java/lang/AbstractStringBuilder" 245 M_IN_stringSize 1 ∧ Cond.static M_IN_stringSize.1 ∈ mm_all := ⟨⟨(mm_w4 (i := 136) rfl rfl), wi_IN_stringSize, wc_IN_stringSize, ⟨by decide, by decide, by decide +kernel⟩, by decide⟩, wt_IN_stringSize⟩
theorem cs_AB_248 : mm_CB "java/lang/AbstractStringBuilder" 248 M_IN_getChars 3 ∧ Cond.static M_IN_getChars.1 ∈ mm_all := ⟨⟨(mm_w4 (i := 139) rfl rfl), wi_IN_getChars, wc_IN_getChars, ⟨by decide, by decide, by decide +kernel⟩, by decide⟩, wt_IN_getChars⟩
theorem cs_AB_251 : mm_CB "java/lang/AbstractStringBuilder" 251 M_U6_getChars_IIIaB 4 ∧ Cond.static M_U6_getChars_IIIaB.1 ∈ mm_all := ⟨⟨(mm_w4 (i := 146) rfl rfl), wi_U6_getChars_IIIaB, wc_U6_getChars_IIIaB, ⟨by decide, by decide, by decide +kernel⟩, by decide⟩, wt_U6_getChars_IIIaB⟩
theorem pl_AB_append_I_79 : mm_PL M_AB_append_I 79 1 3 (.int) := ⟨_, _, _, "java/lang/AbstractStringBuilder", rfl, by decide, (mm_w1 (i := 73) rfl rfl), Or.inl rfl, by decide +kernel, Or.inl rfl⟩
theorem gl_IN_83 : mm_GL "java/lang/Integer" 83 (.ref 15) := ⟨"java/lang/Integer", "DigitOnes", "[B", "java/lang/Integer", List.mem_of_getElem? (i := 2) rfl, (mm_w4 (i := 142) rfl rfl), Or.inl rfl⟩
theorem gl_IN_87 : mm_GL "java/lang/Integer" 87 (.ref 16) := ⟨"java/lang/Integer", "DigitTens", "[B", "java/lang/Integer", List.mem_of_getElem? (i := 3) rfl, (mm_w4 (i := 144) rfl rfl), Or.inl rfl⟩
theorem cs_U6_393 : mm_CB "java/lang/StringUTF16" 393 M_U6_getChars_IIaB 3 ∧ Cond.static M_U6_getChars_IIaB.1 ∈ mm_all := ⟨⟨(mm_w4 (i := 149) rfl rfl), wi_U6_getChars_IIaB, wc_U6_getChars_IIaB, ⟨by decide, by decide, by decide +kernel⟩, by decide⟩, wt_U6_getChars_IIaB⟩
theorem gl_U6_403 : mm_GL "java/lang/StringUTF16" 403 (.ref 15) := ⟨"java/lang/Integer", "DigitOnes", "[B", "java/lang/Integer", List.mem_of_getElem? (i := 2) rfl, (mm_w4 (i := 152) rfl rfl), Or.inl rfl⟩
theorem gl_U6_407 : mm_GL "java/lang/StringUTF16" 407 (.ref 16) := ⟨"java/lang/Integer", "DigitTens", "[B", "java/lang/Integer", List.mem_of_getElem? (i := 3) rfl, (mm_w4 (i := 153) rfl rfl), Or.inl rfl⟩
theorem cs_SB_29 : mm_CP "java/lang/StringBuilder" 29 M_AB_append_S 1 := ⟨(mm_w4 (i := 160) rfl rfl), wi_AB_append_S, wc_AB_append_S, ⟨by decide, by decide +kernel⟩, by decide, (mm_w7 (i := 174) rfl rfl), (mm_w1 (i := 82) rfl rfl), wm_AB_append_S⟩
theorem cs_AB_204 : mm_CU "java/lang/AbstractStringBuilder" 204 M_AB_appendNull.1 "java/lang/AbstractStringBuilder" "java/lang/StringBuilder" M_AB_appendNull 0 := ⟨(mm_w4 (i := 163) rfl rfl), wi_AB_appendNull, wc_AB_appendNull, ⟨by decide, by decide, by decide +kernel⟩, by decide, (mm_w7 (i := 175) rfl rfl), wm_AB_appendNull, mm_w9 (i := 3) rfl rfl, Or.inl rfl⟩
theorem cs_AB_32 : mm_CB "java/lang/AbstractStringBuilder" 32 M_ST_length 0 ∧ Cond.instanceMethod M_ST_length.1 ∈ mm_all ∧ Cond.selects M_ST_length.1.cls M_ST_length.1 M_ST_length.1 ∈ mm_all := ⟨⟨(mm_w4 (i := 170) rfl rfl), wi_ST_length, wc_ST_length, ⟨by decide, by decide, by decide +kernel⟩, by decide⟩, wm_ST_length, (mm_w3 (i := 2) rfl rfl)⟩
theorem cs_AB_208 : mm_CU "java/lang/AbstractStringBuilder" 208 M_AB_putStringAt.1 "java/lang/AbstractStringBuilder" "java/lang/StringBuilder" M_AB_putStringAt 2 := ⟨(mm_w4 (i := 171) rfl rfl), wi_AB_putStringAt, wc_AB_putStringAt, ⟨by decide, by decide, by decide +kernel⟩, by decide, (mm_w7 (i := 176) rfl rfl), wm_AB_putStringAt, mm_w9 (i := 4) rfl rfl, Or.inl rfl⟩
theorem pl_AB_append_S_79 : mm_PL M_AB_append_S 79 1 3 (.int) := ⟨_, _, _, "java/lang/AbstractStringBuilder", rfl, by decide, (mm_w1 (i := 73) rfl rfl), Or.inl rfl, by decide +kernel, Or.inl rfl⟩
theorem cs_AB_226 : mm_CB "java/lang/AbstractStringBuilder" 226 M_U6_putCharsAt 6 ∧ Cond.static M_U6_putCharsAt.1 ∈ mm_all := ⟨⟨(mm_w4 (i := 167) rfl rfl), wi_U6_putCharsAt, wc_U6_putCharsAt, ⟨by decide, by decide, by decide +kernel⟩, by decide⟩, wt_U6_putCharsAt⟩
theorem pl_AB_appendNull_79 : mm_PL M_AB_appendNull 79 1 3 (.int) := ⟨_, _, _, "java/lang/AbstractStringBuilder", rfl, by decide, (mm_w1 (i := 73) rfl rfl), Or.inl rfl, by decide +kernel, Or.inl rfl⟩
theorem cs_AB_397 : mm_CU "java/lang/AbstractStringBuilder" 397 M_AB_inflateIfNeededFor.1 "java/lang/AbstractStringBuilder" "java/lang/StringBuilder" M_AB_inflateIfNeededFor 1 := ⟨(mm_w4 (i := 175) rfl rfl), wi_AB_inflateIfNeededFor, wc_AB_inflateIfNeededFor, ⟨by decide, by decide, by decide +kernel⟩, by decide, (mm_w7 (i := 177) rfl rfl), wm_AB_inflateIfNeededFor, mm_w9 (i := 5) rfl rfl, Or.inl rfl⟩
theorem cs_AB_399 : mm_CB "java/lang/AbstractStringBuilder" 399 M_ST_getBytes 3 ∧ Cond.instanceMethod M_ST_getBytes.1 ∈ mm_all ∧ Cond.selects M_ST_getBytes.1.cls M_ST_getBytes.1 M_ST_getBytes.1 ∈ mm_all := ⟨⟨(mm_w4 (i := 180) rfl rfl), wi_ST_getBytes, wc_ST_getBytes, ⟨by decide, by decide, by decide +kernel⟩, by decide⟩, wm_ST_getBytes, (mm_w4 (i := 182) rfl rfl)⟩
theorem cs_AB_40 : mm_CB "java/lang/AbstractStringBuilder" 40 M_ST_coder 0 ∧ Cond.instanceMethod M_ST_coder.1 ∈ mm_all ∧ Cond.selects M_ST_coder.1.cls M_ST_coder.1 M_ST_coder.1 ∈ mm_all := ⟨⟨(mm_w4 (i := 179) rfl rfl), wi_ST_coder, wc_ST_coder, ⟨by decide, by decide, by decide +kernel⟩, by decide⟩, wm_ST_coder, (mm_w3 (i := 6) rfl rfl)⟩
theorem ac_ST_212 : mm_AC "java/lang/String" 212 := ⟨(mm_w4 (i := 184) rfl rfl), (mm_w2 (i := 92) rfl rfl), (mm_w2 (i := 91) rfl rfl), (mm_w1 (i := 19) rfl rfl)⟩
theorem cs_ST_106 : mm_CB "java/lang/String" 106 M_L1_inflate_aBIaBII 5 ∧ Cond.static M_L1_inflate_aBIaBII.1 ∈ mm_all := ⟨⟨(mm_w4 (i := 185) rfl rfl), wi_L1_inflate_aBIaBII, wc_L1_inflate_aBIaBII, ⟨by decide, by decide, by decide +kernel⟩, by decide⟩, wt_L1_inflate_aBIaBII⟩
theorem fl_S_218 : mm_FL "StubServer" 218 13 2 := ⟨_, _, _, "StubServer$Scene", rfl, by decide, (mm_w5 (i := 202) rfl rfl), Or.inl rfl⟩
theorem nl_T_13 : mm_NL "StubServer$Template" 13 1 := ⟨_, _, _, rfl, (mm_w4 (i := 194) rfl rfl), (mm_w1 (i := 52) rfl rfl), (mm_w1 (i := 5) rfl rfl)⟩
theorem cs_T_15 : mm_CB "StubServer$Template" 15 M_SB_init 0 ∧ M_SB_init.1.name = "<init>" ∧ Cond.instanceMethod M_SB_init.1 ∈ mm_all := ⟨⟨(mm_w4 (i := 195) rfl rfl), wi_SB_init, wc_SB_init, ⟨by decide, by decide, by decide +kernel⟩, by decide⟩, rfl, wm_SB_init⟩
theorem fl_T_7 : mm_FL "StubServer$Template" 7 11 0 := ⟨_, _, _, "StubServer$Template", rfl, by decide, (mm_w5 (i := 149) rfl rfl), Or.inl rfl⟩
theorem cs_T_16 : mm_CB "StubServer$Template" 16 M_ST_length 0 ∧ Cond.instanceMethod M_ST_length.1 ∈ mm_all ∧ Cond.selects M_ST_length.1.cls M_ST_length.1 M_ST_length.1 ∈ mm_all := ⟨⟨(mm_w4 (i := 196) rfl rfl), wi_ST_length, wc_ST_length, ⟨by decide, by decide, by decide +kernel⟩, by decide⟩, wm_ST_length, (mm_w3 (i := 2) rfl rfl)⟩
theorem cs_T_22 : mm_CB "StubServer$Template" 22 M_SB_length 0 ∧ Cond.instanceMethod M_SB_length.1 ∈ mm_all ∧ Cond.selects M_SB_length.1.cls M_SB_length.1 M_SB_length.1 ∈ mm_all := ⟨⟨(mm_w4 (i := 197) rfl rfl), wi_SB_length, wc_SB_length, ⟨by decide, by decide, by decide +kernel⟩, by decide⟩, wm_SB_length, (mm_w2 (i := 46) rfl rfl)⟩
theorem cs_T_23 : mm_CB "StubServer$Template" 23 M_T_closeOf 1 ∧ Cond.instanceMethod M_T_closeOf.1 ∈ mm_all ∧ Cond.selects M_T_closeOf.1.cls M_T_closeOf.1 M_T_closeOf.1 ∈ mm_all := ⟨⟨(mm_w4 (i := 198) rfl rfl), wi_T_closeOf, wc_T_closeOf, ⟨by decide, by decide, by decide +kernel⟩, by decide⟩, wm_T_closeOf, (mm_w0 (i := 23) rfl rfl)⟩
theorem cs_T_27 : mm_CB "StubServer$Template" 27 M_ST_charAt 1 ∧ Cond.instanceMethod M_ST_charAt.1 ∈ mm_all ∧ Cond.selects M_ST_charAt.1.cls M_ST_charAt.1 M_ST_charAt.1 ∈ mm_all := ⟨⟨(mm_w4 (i := 203) rfl rfl), wi_ST_charAt, wc_ST_charAt, ⟨by decide, by decide, by decide +kernel⟩, by decide⟩, wm_ST_charAt, (mm_w3 (i := 61) rfl rfl)⟩
theorem cs_T_31 : mm_CB "StubServer$Template" 31 M_SB_append_C 1 ∧ Cond.instanceMethod M_SB_append_C.1 ∈ mm_all ∧ Cond.selects M_SB_append_C.1.cls M_SB_append_C.1 M_SB_append_C.1 ∈ mm_all := ⟨⟨(mm_w4 (i := 204) rfl rfl), wi_SB_append_C, wc_SB_append_C, ⟨by decide, by decide, by decide +kernel⟩, by decide⟩, wm_SB_append_C, (mm_w2 (i := 53) rfl rfl)⟩
theorem cs_T_35 : mm_CB "StubServer$Template" 35 M_T_appendFor 5 ∧ Cond.instanceMethod M_T_appendFor.1 ∈ mm_all ∧ Cond.selects M_T_appendFor.1.cls M_T_appendFor.1 M_T_appendFor.1 ∈ mm_all := ⟨⟨(mm_w4 (i := 205) rfl rfl), wi_T_appendFor, wc_T_appendFor, ⟨by decide, by decide, by decide +kernel⟩, by decide⟩, wm_T_appendFor, (mm_w0 (i := 24) rfl rfl)⟩
theorem cs_T_39 : mm_CB "StubServer$Template" 39 M_SB_setLength 1 ∧ Cond.instanceMethod M_SB_setLength.1 ∈ mm_all ∧ Cond.selects M_SB_setLength.1.cls M_SB_setLength.1 M_SB_setLength.1 ∈ mm_all := ⟨⟨(mm_w4 (i := 217) rfl rfl), wi_SB_setLength, wc_SB_setLength, ⟨by decide, by decide, by decide +kernel⟩, by decide⟩, wm_SB_setLength, (mm_w2 (i := 206) rfl rfl)⟩
theorem cs_T_43 : mm_CB "StubServer$Template" 43 M_SB_toString 0 ∧ Cond.instanceMethod M_SB_toString.1 ∈ mm_all ∧ Cond.selects M_SB_toString.1.cls M_SB_toString.1 M_SB_toString.1 ∈ mm_all := ⟨⟨(mm_w4 (i := 218) rfl rfl), wi_SB_toString, wc_SB_toString, ⟨by decide, by decide, by decide +kernel⟩, by decide⟩, wm_SB_toString, (mm_w2 (i := 152) rfl rfl)⟩
theorem cs_T_47 : mm_CB "StubServer$Template" 47 M_ST_substring_II 2 ∧ Cond.instanceMethod M_ST_substring_II.1 ∈ mm_all ∧ Cond.selects M_ST_substring_II.1.cls M_ST_substring_II.1 M_ST_substring_II.1 ∈ mm_all := ⟨⟨(mm_w4 (i := 209) rfl rfl), wi_ST_substring_II, wc_ST_substring_II, ⟨by decide, by decide, by decide +kernel⟩, by decide⟩, wm_ST_substring_II, (mm_w3 (i := 79) rfl rfl)⟩
theorem fl_T_51 : mm_FL "StubServer$Template" 51 7 2 := ⟨_, _, _, "StubServer$Request", rfl, by decide, (mm_w1 (i := 154) rfl rfl), Or.inl rfl⟩
theorem fl_T_57 : mm_FL "StubServer$Template" 57 8 1 := ⟨_, _, _, "StubServer$Part", rfl, by decide, (mm_w1 (i := 141) rfl rfl), Or.inl rfl⟩
theorem cs_T_62 : mm_CB "StubServer$Template" 62 M_SB_append_S 1 ∧ Cond.instanceMethod M_SB_append_S.1 ∈ mm_all ∧ Cond.selects M_SB_append_S.1.cls M_SB_append_S.1 M_SB_append_S.1 ∈ mm_all := ⟨⟨(mm_w4 (i := 210) rfl rfl), wi_SB_append_S, wc_SB_append_S, ⟨by decide, by decide, by decide +kernel⟩, by decide⟩, wm_SB_append_S, (mm_w4 (i := 158) rfl rfl)⟩
theorem fl_T_65 : mm_FL "StubServer$Template" 65 7 3 := ⟨_, _, _, "StubServer$Request", rfl, by decide, (mm_w1 (i := 157) rfl rfl), Or.inl rfl⟩
theorem fl_T_68 : mm_FL "StubServer$Template" 68 7 4 := ⟨_, _, _, "StubServer$Request", rfl, by decide, (mm_w1 (i := 160) rfl rfl), Or.inl rfl⟩
theorem cs_T_71 : mm_CB "StubServer$Template" 71 M_SB_append_I 1 ∧ Cond.instanceMethod M_SB_append_I.1 ∈ mm_all ∧ Cond.selects M_SB_append_I.1.cls M_SB_append_I.1 M_SB_append_I.1 ∈ mm_all := ⟨⟨(mm_w4 (i := 211) rfl rfl), wi_SB_append_I, wc_SB_append_I, ⟨by decide, by decide, by decide +kernel⟩, by decide⟩, wm_SB_append_I, (mm_w4 (i := 131) rfl rfl)⟩
theorem cs_T_74 : mm_CB "StubServer$Template" 74 M_E_find 2 ∧ Cond.instanceMethod M_E_find.1 ∈ mm_all ∧ Cond.selects M_E_find.1.cls M_E_find.1 M_E_find.1 ∈ mm_all := ⟨⟨(mm_w4 (i := 212) rfl rfl), wi_E_find, wc_E_find, ⟨by decide, by decide, by decide +kernel⟩, by decide⟩, wm_E_find, (mm_w4 (i := 95) rfl rfl)⟩
theorem cs_T_78 : mm_CB "StubServer$Template" 78 M_T_appendValue 2 ∧ Cond.static M_T_appendValue.1 ∈ mm_all := ⟨⟨(mm_w4 (i := 213) rfl rfl), wi_T_appendValue, wc_T_appendValue, ⟨by decide, by decide, by decide +kernel⟩, by decide⟩, wt_T_appendValue⟩
theorem cs_T_82 : mm_CB "StubServer$Template" 82 M_X_small 1 ∧ Cond.static M_X_small.1 ∈ mm_all := ⟨⟨(mm_w4 (i := 216) rfl rfl), wi_X_small, wc_X_small, ⟨by decide, by decide, by decide +kernel⟩, by decide⟩, wt_X_small⟩
theorem fl_S_34 : mm_FL "StubServer" 34 3 4 := ⟨_, _, _, "StubServer", rfl, by decide, (mm_w1 (i := 233) rfl rfl), Or.inl rfl⟩
theorem cs_S_149 : mm_CB "StubServer" 149 M_AL_remove 1 ∧ Cond.instanceMethod M_AL_remove.1 ∈ mm_all ∧ Cond.selects M_AL_remove.1.cls M_AL_remove.1 M_AL_remove.1 ∈ mm_all := ⟨⟨(mm_w4 (i := 223) rfl rfl), wi_AL_remove, wc_AL_remove, ⟨by decide, by decide, by decide +kernel⟩, by decide⟩, wm_AL_remove, (mm_w4 (i := 225) rfl rfl)⟩
theorem cs_S_111 : mm_CB "StubServer" 111 M_AL_add_O 1 ∧ Cond.instanceMethod M_AL_add_O.1 ∈ mm_all ∧ Cond.selects M_AL_add_O.1.cls M_AL_add_O.1 M_AL_add_O.1 ∈ mm_all := ⟨⟨(mm_w4 (i := 232) rfl rfl), wi_AL_add_O, wc_AL_add_O, ⟨by decide, by decide, by decide +kernel⟩, by decide⟩, wm_AL_add_O, (mm_w3 (i := 143) rfl rfl)⟩
theorem cs_AL_144 : mm_CB "java/util/ArrayList" 144 M_AL_fastRemove 2 ∧ Cond.instanceMethod M_AL_fastRemove.1 ∈ mm_all ∧ Cond.selects M_AL_fastRemove.1.cls M_AL_fastRemove.1 M_AL_fastRemove.1 ∈ mm_all := ⟨⟨(mm_w4 (i := 227) rfl rfl), wi_AL_fastRemove, wc_AL_fastRemove, ⟨by decide, by decide, by decide +kernel⟩, by decide⟩, wm_AL_fastRemove, (mm_w0 (i := 26) rfl rfl)⟩
theorem pl_AL_fastRemove_63 : mm_PL M_AL_fastRemove 63 2 2 (.int) := ⟨_, _, _, "java/util/ArrayList", rfl, by decide, (mm_w1 (i := 119) rfl rfl), Or.inr (mm_w1 (i := 120) rfl rfl), by decide +kernel, Or.inl rfl⟩
theorem ac_AL_112 : mm_AC "java/util/ArrayList" 112 := ⟨(mm_w4 (i := 231) rfl rfl), (mm_w2 (i := 92) rfl rfl), (mm_w2 (i := 91) rfl rfl), (mm_w1 (i := 19) rfl rfl)⟩
theorem pl_AL_fastRemove_48 : mm_PL M_AL_fastRemove 48 2 1 (.int) := ⟨_, _, _, "java/util/ArrayList", rfl, by decide, (mm_w1 (i := 117) rfl rfl), Or.inl rfl, by decide +kernel, Or.inl rfl⟩
theorem ld_E_62 : ("StubServer$Request", 62, "conn", 6) ∈ mm_strs := List.mem_of_getElem? (i := 11) rfl
theorem fl_E_64 : mm_FL "StubServer$Request" 64 8 1 := ⟨_, _, _, "StubServer$Part", rfl, by decide, (mm_w1 (i := 139) rfl rfl), Or.inl rfl⟩
theorem ld_E_67 : ("StubServer$Request", 67, "close", 7) ∈ mm_strs := List.mem_of_getElem? (i := 12) rfl
theorem ld_C_34 : ("StubServer$Connection", 34, "", 1) ∈ mm_strs := List.mem_of_getElem? (i := 13) rfl
theorem cs_C_36 : mm_CB "StubServer$Connection" 36 M_C_respond 2 ∧ Cond.instanceMethod M_C_respond.1 ∈ mm_all ∧ Cond.selects M_C_respond.1.cls M_C_respond.1 M_C_respond.1 ∈ mm_all := ⟨⟨(mm_w5 (i := 4) rfl rfl), wi_C_respond, wc_C_respond, ⟨by decide, by decide, by decide +kernel⟩, by decide⟩, wm_C_respond, (mm_w4 (i := 126) rfl rfl)⟩
theorem pl_C_refuse_23 : mm_PL M_C_refuse 23 4 2 (.boolean) := ⟨_, _, _, "StubServer$Connection", rfl, by decide, (mm_w1 (i := 216) rfl rfl), Or.inl rfl, by decide +kernel, Or.inl rfl⟩
theorem cs_S_73 : mm_CB "StubServer" 73 M_C_renew 0 ∧ Cond.instanceMethod M_C_renew.1 ∈ mm_all ∧ Cond.selects M_C_renew.1.cls M_C_renew.1 M_C_renew.1 ∈ mm_all := ⟨⟨(mm_w5 (i := 10) rfl rfl), wi_C_renew, wc_C_renew, ⟨by decide, by decide, by decide +kernel⟩, by decide⟩, wm_C_renew, (mm_w5 (i := 12) rfl rfl)⟩
theorem fl_C_10 : mm_FL "StubServer$Connection" 10 4 0 := ⟨_, _, _, "StubServer$Connection", rfl, by decide, (mm_w1 (i := 212) rfl rfl), Or.inl rfl⟩
theorem cs_C_27 : mm_CB "StubServer$Connection" 27 M_R_begin 0 ∧ Cond.instanceMethod M_R_begin.1 ∈ mm_all ∧ Cond.selects M_R_begin.1.cls M_R_begin.1 M_R_begin.1 ∈ mm_all := ⟨⟨(mm_w5 (i := 14) rfl rfl), wi_R_begin, wc_R_begin, ⟨by decide, by decide, by decide +kernel⟩, by decide⟩, wm_R_begin, (mm_w4 (i := 64) rfl rfl)⟩
theorem pl_C_renew_23 : mm_PL M_C_renew 23 4 2 (.boolean) := ⟨_, _, _, "StubServer$Connection", rfl, by decide, (mm_w1 (i := 216) rfl rfl), Or.inl rfl, by decide +kernel, Or.inl rfl⟩
theorem fl_S_76 : mm_FL "StubServer" 76 4 1 := ⟨_, _, _, "StubServer$Connection", rfl, by decide, (mm_w1 (i := 215) rfl rfl), Or.inl rfl⟩
theorem cs_S_79 : mm_CB "StubServer" 79 M_SB_length 0 ∧ Cond.instanceMethod M_SB_length.1 ∈ mm_all ∧ Cond.selects M_SB_length.1.cls M_SB_length.1 M_SB_length.1 ∈ mm_all := ⟨⟨(mm_w5 (i := 20) rfl rfl), wi_SB_length, wc_SB_length, ⟨by decide, by decide, by decide +kernel⟩, by decide⟩, wm_SB_length, (mm_w2 (i := 46) rfl rfl)⟩
theorem cs_S_83 : mm_CB "StubServer" 83 M_S_size 1 ∧ Cond.instanceMethod M_S_size.1 ∈ mm_all ∧ Cond.selects M_S_size.1.cls M_S_size.1 M_S_size.1 ∈ mm_all := ⟨⟨(mm_w5 (i := 25) rfl rfl), wi_S_size, wc_S_size, ⟨by decide, by decide, by decide +kernel⟩, by decide⟩, wm_S_size, (mm_w5 (i := 18) rfl rfl)⟩
theorem cs_S_86 : mm_CB "StubServer" 86 M_SB_charAt 1 ∧ Cond.instanceMethod M_SB_charAt.1 ∈ mm_all ∧ Cond.selects M_SB_charAt.1.cls M_SB_charAt.1 M_SB_charAt.1 ∈ mm_all := ⟨⟨(mm_w5 (i := 26) rfl rfl), wi_SB_charAt, wc_SB_charAt, ⟨by decide, by decide, by decide +kernel⟩, by decide⟩, wm_SB_charAt, (mm_w5 (i := 28) rfl rfl)⟩
theorem cs_SB_329 : mm_CP "java/lang/StringBuilder" 329 M_AB_charAt 1 := ⟨(mm_w5 (i := 30) rfl rfl), wi_AB_charAt, wc_AB_charAt, ⟨by decide, by decide +kernel⟩, by decide, (mm_w7 (i := 178) rfl rfl), (mm_w1 (i := 82) rfl rfl), wm_AB_charAt⟩
theorem cs_AB_138 : mm_CB "java/lang/AbstractStringBuilder" 138 M_MA_min 2 ∧ Cond.static M_MA_min.1 ∈ mm_all := ⟨⟨(mm_w5 (i := 33) rfl rfl), wi_MA_min, wc_MA_min, ⟨by decide, by decide, by decide +kernel⟩, by decide⟩, wt_MA_min⟩
theorem cs_AB_144 : mm_CB "java/lang/AbstractStringBuilder" 144 M_ST_checkIndex 2 ∧ Cond.static M_ST_checkIndex.1 ∈ mm_all := ⟨⟨(mm_w5 (i := 34) rfl rfl), wi_ST_checkIndex, wc_ST_checkIndex, ⟨by decide, by decide, by decide +kernel⟩, by decide⟩, wt_ST_checkIndex⟩
theorem cs_AB_148 : mm_CB "java/lang/AbstractStringBuilder" 148 M_U6_getChar 2 ∧ Cond.static M_U6_getChar.1 ∈ mm_all := ⟨⟨(mm_w5 (i := 35) rfl rfl), wi_U6_getChar, wc_U6_getChar, ⟨by decide, by decide, by decide +kernel⟩, by decide⟩, wt_U6_getChar⟩
theorem fl_S_23 : mm_FL "StubServer" 23 3 2 := ⟨_, _, _, "StubServer", rfl, by decide, (mm_w1 (i := 231) rfl rfl), Or.inl rfl⟩
theorem cs_S_90 : mm_CB "StubServer" 90 M_X_isPlain 1 ∧ Cond.static M_X_isPlain.1 ∈ mm_all := ⟨⟨(mm_w5 (i := 40) rfl rfl), wi_X_isPlain, wc_X_isPlain, ⟨by decide, by decide, by decide +kernel⟩, by decide⟩, wt_X_isPlain⟩
theorem cs_S_95 : mm_CB "StubServer" 95 M_SB_append_C 1 ∧ Cond.instanceMethod M_SB_append_C.1 ∈ mm_all ∧ Cond.selects M_SB_append_C.1.cls M_SB_append_C.1 M_SB_append_C.1 ∈ mm_all := ⟨⟨(mm_w5 (i := 41) rfl rfl), wi_SB_append_C, wc_SB_append_C, ⟨by decide, by decide, by decide +kernel⟩, by decide⟩, wm_SB_append_C, (mm_w2 (i := 53) rfl rfl)⟩
theorem fl_S_37 : mm_FL "StubServer" 37 3 5 := ⟨_, _, _, "StubServer", rfl, by decide, (mm_w1 (i := 234) rfl rfl), Or.inl rfl⟩
theorem cs_S_101 : mm_CB "StubServer" 101 M_SB_toString 0 ∧ Cond.instanceMethod M_SB_toString.1 ∈ mm_all ∧ Cond.selects M_SB_toString.1.cls M_SB_toString.1 M_SB_toString.1 ∈ mm_all := ⟨⟨(mm_w5 (i := 46) rfl rfl), wi_SB_toString, wc_SB_toString, ⟨by decide, by decide, by decide +kernel⟩, by decide⟩, wm_SB_toString, (mm_w2 (i := 152) rfl rfl)⟩
theorem cs_S_105 : mm_CB "StubServer" 105 M_H_of 3 ∧ Cond.static M_H_of.1 ∈ mm_all := ⟨⟨(mm_w5 (i := 47) rfl rfl), wi_H_of, wc_H_of, ⟨by decide, by decide, by decide +kernel⟩, by decide⟩, wt_H_of⟩
theorem cs_S_115 : mm_CB "StubServer" 115 M_SB_setLength 1 ∧ Cond.instanceMethod M_SB_setLength.1 ∈ mm_all ∧ Cond.selects M_SB_setLength.1.cls M_SB_setLength.1 M_SB_setLength.1 ∈ mm_all := ⟨⟨(mm_w5 (i := 134) rfl rfl), wi_SB_setLength, wc_SB_setLength, ⟨by decide, by decide, by decide +kernel⟩, by decide⟩, wm_SB_setLength, (mm_w2 (i := 206) rfl rfl)⟩
theorem ld_H_29 : ("StubServer$Matcher", 29, "", 1) ∈ mm_strs := List.mem_of_getElem? (i := 14) rfl
theorem cs_H_31 : mm_CB "StubServer$Matcher" 31 M_H_withText 4 ∧ Cond.static M_H_withText.1 ∈ mm_all := ⟨⟨(mm_w5 (i := 51) rfl rfl), wi_H_withText, wc_H_withText, ⟨by decide, by decide, by decide +kernel⟩, by decide⟩, wt_H_withText⟩
theorem cs_H_35 : mm_CB "StubServer$Matcher" 35 M_ST_indexOf_I 1 ∧ Cond.instanceMethod M_ST_indexOf_I.1 ∈ mm_all ∧ Cond.selects M_ST_indexOf_I.1.cls M_ST_indexOf_I.1 M_ST_indexOf_I.1 ∈ mm_all := ⟨⟨(mm_w5 (i := 129) rfl rfl), wi_ST_indexOf_I, wc_ST_indexOf_I, ⟨by decide, by decide, by decide +kernel⟩, by decide⟩, wm_ST_indexOf_I, (mm_w2 (i := 230) rfl rfl)⟩
theorem cs_H_41 : mm_CB "StubServer$Matcher" 41 M_ST_isEmpty 0 ∧ Cond.instanceMethod M_ST_isEmpty.1 ∈ mm_all ∧ Cond.selects M_ST_isEmpty.1.cls M_ST_isEmpty.1 M_ST_isEmpty.1 ∈ mm_all := ⟨⟨(mm_w5 (i := 130) rfl rfl), wi_ST_isEmpty, wc_ST_isEmpty, ⟨by decide, by decide, by decide +kernel⟩, by decide⟩, wm_ST_isEmpty, (mm_w3 (i := 111) rfl rfl)⟩
theorem cs_H_45 : mm_CB "StubServer$Matcher" 45 M_ST_substring_II 2 ∧ Cond.instanceMethod M_ST_substring_II.1 ∈ mm_all ∧ Cond.selects M_ST_substring_II.1.cls M_ST_substring_II.1 M_ST_substring_II.1 ∈ mm_all := ⟨⟨(mm_w5 (i := 131) rfl rfl), wi_ST_substring_II, wc_ST_substring_II, ⟨by decide, by decide, by decide +kernel⟩, by decide⟩, wm_ST_substring_II, (mm_w3 (i := 79) rfl rfl)⟩
theorem cs_H_49 : mm_CB "StubServer$Matcher" 49 M_ST_substring_I 1 ∧ Cond.instanceMethod M_ST_substring_I.1 ∈ mm_all ∧ Cond.selects M_ST_substring_I.1.cls M_ST_substring_I.1 M_ST_substring_I.1 ∈ mm_all := ⟨⟨(mm_w5 (i := 132) rfl rfl), wi_ST_substring_I, wc_ST_substring_I, ⟨by decide, by decide, by decide +kernel⟩, by decide⟩, wm_ST_substring_I, (mm_w3 (i := 75) rfl rfl)⟩
theorem cs_H_52 : mm_CB "StubServer$Matcher" 52 M_X_small 1 ∧ Cond.static M_X_small.1 ∈ mm_all := ⟨⟨(mm_w5 (i := 133) rfl rfl), wi_X_small, wc_X_small, ⟨by decide, by decide, by decide +kernel⟩, by decide⟩, wt_X_small⟩
theorem nl_H_8 : mm_NL "StubServer$Matcher" 8 9 := ⟨_, _, _, rfl, (mm_w5 (i := 54) rfl rfl), (mm_w5 (i := 55) rfl rfl), (mm_w1 (i := 26) rfl rfl)⟩
theorem cs_H_58 : mm_CB "StubServer$Matcher" 58 M_H_init 5 ∧ M_H_init.1.name = "<init>" ∧ Cond.instanceMethod M_H_init.1 ∈ mm_all := ⟨⟨(mm_w5 (i := 56) rfl rfl), wi_H_init, wc_H_init, ⟨by decide, by decide, by decide +kernel⟩, by decide⟩, rfl, wm_H_init⟩
theorem nl_H_61 : mm_NL "StubServer$Matcher" 61 10 := ⟨_, _, _, rfl, (mm_w5 (i := 76) rfl rfl), (mm_w4 (i := 114) rfl rfl), (mm_w1 (i := 27) rfl rfl)⟩
theorem cs_H_63 : mm_CB "StubServer$Matcher" 63 M_N_init 1 ∧ M_N_init.1.name = "<init>" ∧ Cond.instanceMethod M_N_init.1 ∈ mm_all := ⟨⟨(mm_w5 (i := 77) rfl rfl), wi_N_init, wc_N_init, ⟨by decide, by decide, by decide +kernel⟩, by decide⟩, rfl, wm_N_init⟩
theorem cs_H_66 : mm_CB "StubServer$Matcher" 66 M_N_isGood 0 ∧ Cond.instanceMethod M_N_isGood.1 ∈ mm_all ∧ Cond.selects M_N_isGood.1.cls M_N_isGood.1 M_N_isGood.1 ∈ mm_all := ⟨⟨(mm_w5 (i := 125) rfl rfl), wi_N_isGood, wc_N_isGood, ⟨by decide, by decide, by decide +kernel⟩, by decide⟩, wm_N_isGood, (mm_w5 (i := 127) rfl rfl)⟩
theorem oi_H_1 : Cond.methodLink "StubServer$Matcher" 1 Lib.objectInit ∈ mm_all ∧ Cond.instanceMethod Lib.objectInit ∈ mm_all ∧ Cond.code Lib.objectInit ⟨#[0xb1]⟩ 1 none ∈ mm_all := ⟨(mm_w5 (i := 59) rfl rfl), wm_OB_init, wc_OB_init⟩
theorem pl_H_init_7 : mm_PL M_H_init 7 9 0 (.int) := ⟨_, _, _, "StubServer$Matcher", rfl, by decide, (mm_w5 (i := 60) rfl rfl), Or.inl rfl, by decide +kernel, Or.inr ⟨rfl, rfl, rfl⟩⟩
theorem pl_H_init_13 : mm_PL M_H_init 13 9 1 (.int) := ⟨_, _, _, "StubServer$Matcher", rfl, by decide, (mm_w5 (i := 61) rfl rfl), Or.inl rfl, by decide +kernel, Or.inr ⟨rfl, rfl, rfl⟩⟩
theorem pl_H_init_16 : mm_PL M_H_init 16 9 2 (.object "java/lang/String") := ⟨_, _, _, "StubServer$Matcher", rfl, by decide, (mm_w5 (i := 62) rfl rfl), Or.inl rfl, by decide +kernel, Or.inr ⟨rfl, rfl, rfl⟩⟩
theorem pl_H_init_20 : mm_PL M_H_init 20 9 3 (.object "java/lang/String") := ⟨_, _, _, "StubServer$Matcher", rfl, by decide, (mm_w5 (i := 63) rfl rfl), Or.inl rfl, by decide +kernel, Or.inr ⟨rfl, rfl, rfl⟩⟩
theorem pl_H_init_23 : mm_PL M_H_init 23 9 4 (.object "StubServer$Pattern") := ⟨_, _, _, "StubServer$Matcher", rfl, by decide, (mm_w5 (i := 64) rfl rfl), Or.inl rfl, by decide +kernel, Or.inr ⟨rfl, rfl, rfl⟩⟩
theorem oi_N_1 : Cond.methodLink "StubServer$Pattern" 1 Lib.objectInit ∈ mm_all ∧ Cond.instanceMethod Lib.objectInit ∈ mm_all ∧ Cond.code Lib.objectInit ⟨#[0xb1]⟩ 1 none ∈ mm_all := ⟨(mm_w5 (i := 80) rfl rfl), wm_OB_init, wc_OB_init⟩
theorem pl_N_init_7 : mm_PL M_N_init 7 10 3 (.long) := ⟨_, _, _, "StubServer$Pattern", rfl, by decide, (mm_w5 (i := 100) rfl rfl), Or.inl rfl, by decide +kernel, Or.inl rfl⟩
theorem pl_N_init_13 : mm_PL M_N_init 13 10 0 (.object "java/lang/String") := ⟨_, _, _, "StubServer$Pattern", rfl, by decide, (mm_w5 (i := 97) rfl rfl), Or.inl rfl, by decide +kernel, Or.inr ⟨rfl, rfl, rfl⟩⟩
theorem pl_N_init_23 : mm_PL M_N_init 23 10 1 (.array .int) := ⟨_, _, _, "StubServer$Pattern", rfl, by decide, (mm_w5 (i := 98) rfl rfl), Or.inl rfl, by decide +kernel, Or.inr ⟨rfl, rfl, rfl⟩⟩
theorem cs_N_27 : mm_CB "StubServer$Pattern" 27 M_N_readPieces 0 ∧ Cond.instanceMethod M_N_readPieces.1 ∈ mm_all ∧ Cond.selects M_N_readPieces.1.cls M_N_readPieces.1 M_N_readPieces.1 ∈ mm_all := ⟨⟨(mm_w5 (i := 81) rfl rfl), wi_N_readPieces, wc_N_readPieces, ⟨by decide, by decide, by decide +kernel⟩, by decide⟩, wm_N_readPieces, (mm_w0 (i := 27) rfl rfl)⟩
theorem pl_N_init_31 : mm_PL M_N_init 31 10 8 (.boolean) := ⟨_, _, _, "StubServer$Pattern", rfl, by decide, (mm_w5 (i := 105) rfl rfl), Or.inl rfl, by decide +kernel, Or.inr ⟨rfl, rfl, rfl⟩⟩
theorem cs_N_35 : mm_CB "StubServer$Pattern" 35 M_N_endRow 0 ∧ Cond.instanceMethod M_N_endRow.1 ∈ mm_all ∧ Cond.selects M_N_endRow.1.cls M_N_endRow.1 M_N_endRow.1 ∈ mm_all := ⟨⟨(mm_w5 (i := 85) rfl rfl), wi_N_endRow, wc_N_endRow, ⟨by decide, by decide, by decide +kernel⟩, by decide⟩, wm_N_endRow, (mm_w0 (i := 28) rfl rfl)⟩
theorem pl_N_readPieces_42 : mm_PL M_N_readPieces 42 10 2 (.int) := ⟨_, _, _, "StubServer$Pattern", rfl, by decide, (mm_w5 (i := 99) rfl rfl), Or.inl rfl, by decide +kernel, Or.inl rfl⟩
theorem pl_N_readPieces_7 : mm_PL M_N_readPieces 7 10 3 (.long) := ⟨_, _, _, "StubServer$Pattern", rfl, by decide, (mm_w5 (i := 100) rfl rfl), Or.inl rfl, by decide +kernel, Or.inl rfl⟩
theorem cs_N_46 : mm_CB "StubServer$Pattern" 46 M_N_markPiece 1 ∧ Cond.instanceMethod M_N_markPiece.1 ∈ mm_all ∧ Cond.selects M_N_markPiece.1.cls M_N_markPiece.1 M_N_markPiece.1 ∈ mm_all := ⟨⟨(mm_w5 (i := 89) rfl rfl), wi_N_markPiece, wc_N_markPiece, ⟨by decide, by decide, by decide +kernel⟩, by decide⟩, wm_N_markPiece, (mm_w0 (i := 29) rfl rfl)⟩
theorem cs_N_50 : mm_CB "StubServer$Pattern" 50 M_N_addPiece 2 ∧ Cond.instanceMethod M_N_addPiece.1 ∈ mm_all ∧ Cond.selects M_N_addPiece.1.cls M_N_addPiece.1 M_N_addPiece.1 ∈ mm_all := ⟨⟨(mm_w5 (i := 93) rfl rfl), wi_N_addPiece, wc_N_addPiece, ⟨by decide, by decide, by decide +kernel⟩, by decide⟩, wm_N_addPiece, (mm_w0 (i := 30) rfl rfl)⟩
theorem pl_N_endRow_63 : mm_PL M_N_endRow 63 10 4 (.long) := ⟨_, _, _, "StubServer$Pattern", rfl, by decide, (mm_w5 (i := 101) rfl rfl), Or.inl rfl, by decide +kernel, Or.inl rfl⟩
theorem pl_N_endRow_42 : mm_PL M_N_endRow 42 10 2 (.int) := ⟨_, _, _, "StubServer$Pattern", rfl, by decide, (mm_w5 (i := 99) rfl rfl), Or.inl rfl, by decide +kernel, Or.inl rfl⟩
theorem pl_N_markPiece_57 : mm_PL M_N_markPiece 57 10 6 (.long) := ⟨_, _, _, "StubServer$Pattern", rfl, by decide, (mm_w5 (i := 103) rfl rfl), Or.inl rfl, by decide +kernel, Or.inl rfl⟩
theorem pl_N_markPiece_60 : mm_PL M_N_markPiece 60 10 7 (.long) := ⟨_, _, _, "StubServer$Pattern", rfl, by decide, (mm_w5 (i := 104) rfl rfl), Or.inl rfl, by decide +kernel, Or.inl rfl⟩
theorem pl_N_addPiece_54 : mm_PL M_N_addPiece 54 10 5 (.long) := ⟨_, _, _, "StubServer$Pattern", rfl, by decide, (mm_w5 (i := 102) rfl rfl), Or.inl rfl, by decide +kernel, Or.inl rfl⟩
theorem pl_N_addPiece_42 : mm_PL M_N_addPiece 42 10 2 (.int) := ⟨_, _, _, "StubServer$Pattern", rfl, by decide, (mm_w5 (i := 99) rfl rfl), Or.inl rfl, by decide +kernel, Or.inl rfl⟩
theorem fl_N_31 : mm_FL "StubServer$Pattern" 31 10 8 := ⟨_, _, _, "StubServer$Pattern", rfl, by decide, (mm_w5 (i := 105) rfl rfl), Or.inl rfl⟩
theorem fl_S_118 : mm_FL "StubServer" 118 3 6 := ⟨_, _, _, "StubServer", rfl, by decide, (mm_w1 (i := 235) rfl rfl), Or.inl rfl⟩
theorem pl_S_stub_118 : mm_PL M_S_stub 118 3 6 (.int) := ⟨_, _, _, "StubServer", rfl, by decide, (mm_w1 (i := 235) rfl rfl), Or.inl rfl, by decide +kernel, Or.inl rfl⟩
theorem nl_S_122 : mm_NL "StubServer" 122 12 := ⟨_, _, _, rfl, (mm_w4 (i := 83) rfl rfl), (mm_w5 (i := 139) rfl rfl), (mm_w1 (i := 28) rfl rfl)⟩
theorem cs_S_124 : mm_CB "StubServer" 124 M_B_init 5 ∧ M_B_init.1.name = "<init>" ∧ Cond.instanceMethod M_B_init.1 ∈ mm_all := ⟨⟨(mm_w5 (i := 140) rfl rfl), wi_B_init, wc_B_init, ⟨by decide, by decide, by decide +kernel⟩, by decide⟩, rfl, wm_B_init⟩
theorem pl_S_stub_37 : mm_PL M_S_stub 37 3 5 (.object "java/util/ArrayList") := ⟨_, _, _, "StubServer", rfl, by decide, (mm_w1 (i := 234) rfl rfl), Or.inl rfl, by decide +kernel, Or.inl rfl⟩
theorem oi_B_1 : Cond.methodLink "StubServer$Stub" 1 Lib.objectInit ∈ mm_all ∧ Cond.instanceMethod Lib.objectInit ∈ mm_all ∧ Cond.code Lib.objectInit ⟨#[0xb1]⟩ 1 none ∈ mm_all := ⟨(mm_w5 (i := 143) rfl rfl), wm_OB_init, wc_OB_init⟩
theorem pl_B_init_7 : mm_PL M_B_init 7 12 0 (.int) := ⟨_, _, _, "StubServer$Stub", rfl, by decide, (mm_w5 (i := 153) rfl rfl), Or.inl rfl, by decide +kernel, Or.inr ⟨rfl, rfl, rfl⟩⟩
theorem pl_B_init_13 : mm_PL M_B_init 13 12 1 (.int) := ⟨_, _, _, "StubServer$Stub", rfl, by decide, (mm_w5 (i := 155) rfl rfl), Or.inl rfl, by decide +kernel, Or.inr ⟨rfl, rfl, rfl⟩⟩
theorem pl_B_init_16 : mm_PL M_B_init 16 12 2 (.int) := ⟨_, _, _, "StubServer$Stub", rfl, by decide, (mm_w5 (i := 157) rfl rfl), Or.inl rfl, by decide +kernel, Or.inr ⟨rfl, rfl, rfl⟩⟩
theorem nl_B_19 : mm_NL "StubServer$Stub" 19 11 := ⟨_, _, _, rfl, (mm_w5 (i := 144) rfl rfl), (mm_w4 (i := 201) rfl rfl), (mm_w1 (i := 25) rfl rfl)⟩
theorem cs_B_21 : mm_CB "StubServer$Stub" 21 M_T_init 1 ∧ M_T_init.1.name = "<init>" ∧ Cond.instanceMethod M_T_init.1 ∈ mm_all := ⟨⟨(mm_w5 (i := 145) rfl rfl), wi_T_init, wc_T_init, ⟨by decide, by decide, by decide +kernel⟩, by decide⟩, rfl, wm_T_init⟩
theorem pl_B_init_24 : mm_PL M_B_init 24 12 3 (.object "StubServer$Template") := ⟨_, _, _, "StubServer$Stub", rfl, by decide, (mm_w5 (i := 159) rfl rfl), Or.inl rfl, by decide +kernel, Or.inr ⟨rfl, rfl, rfl⟩⟩
theorem pl_B_init_28 : mm_PL M_B_init 28 12 4 (.object "java/util/ArrayList") := ⟨_, _, _, "StubServer$Stub", rfl, by decide, (mm_w5 (i := 161) rfl rfl), Or.inl rfl, by decide +kernel, Or.inr ⟨rfl, rfl, rfl⟩⟩
theorem oi_T_1 : Cond.methodLink "StubServer$Template" 1 Lib.objectInit ∈ mm_all ∧ Cond.instanceMethod Lib.objectInit ∈ mm_all ∧ Cond.code Lib.objectInit ⟨#[0xb1]⟩ 1 none ∈ mm_all := ⟨(mm_w5 (i := 148) rfl rfl), wm_OB_init, wc_OB_init⟩
theorem pl_T_init_7 : mm_PL M_T_init 7 11 0 (.object "java/lang/String") := ⟨_, _, _, "StubServer$Template", rfl, by decide, (mm_w5 (i := 149) rfl rfl), Or.inl rfl, by decide +kernel, Or.inr ⟨rfl, rfl, rfl⟩⟩
theorem cs_S_127 : mm_CB "StubServer" 127 M_S_placeOf 1 ∧ Cond.instanceMethod M_S_placeOf.1 ∈ mm_all ∧ Cond.selects M_S_placeOf.1.cls M_S_placeOf.1 M_S_placeOf.1 ∈ mm_all := ⟨⟨(mm_w5 (i := 181) rfl rfl), wi_S_placeOf, wc_S_placeOf, ⟨by decide, by decide, by decide +kernel⟩, by decide⟩, wm_S_placeOf, (mm_w0 (i := 31) rfl rfl)⟩
theorem cs_S_130 : mm_CB "StubServer" 130 M_S_isScenario 1 ∧ Cond.static M_S_isScenario.1 ∈ mm_all := ⟨⟨(mm_w5 (i := 185) rfl rfl), wi_S_isScenario, wc_S_isScenario, ⟨by decide, by decide, by decide +kernel⟩, by decide⟩, wt_S_isScenario⟩
theorem cs_S_133 : mm_CB "StubServer" 133 M_S_isState 1 ∧ Cond.static M_S_isState.1 ∈ mm_all := ⟨⟨(mm_w5 (i := 188) rfl rfl), wi_S_isState, wc_S_isState, ⟨by decide, by decide, by decide +kernel⟩, by decide⟩, wt_S_isState⟩
theorem nl_S_140 : mm_NL "StubServer" 140 13 := ⟨_, _, _, rfl, (mm_w5 (i := 191) rfl rfl), (mm_w5 (i := 192) rfl rfl), (mm_w1 (i := 29) rfl rfl)⟩
theorem cs_S_142 : mm_CB "StubServer" 142 M_Z_init 3 ∧ M_Z_init.1.name = "<init>" ∧ Cond.instanceMethod M_Z_init.1 ∈ mm_all := ⟨⟨(mm_w5 (i := 193) rfl rfl), wi_Z_init, wc_Z_init, ⟨by decide, by decide, by decide +kernel⟩, by decide⟩, rfl, wm_Z_init⟩
theorem pl_S_scene_145 : mm_PL M_S_scene 145 12 5 (.object "StubServer$Scene") := ⟨_, _, _, "StubServer$Stub", rfl, by decide, (mm_w5 (i := 163) rfl rfl), Or.inl rfl, by decide +kernel, Or.inl rfl⟩
theorem oi_Z_1 : Cond.methodLink "StubServer$Scene" 1 Lib.objectInit ∈ mm_all ∧ Cond.instanceMethod Lib.objectInit ∈ mm_all ∧ Cond.code Lib.objectInit ⟨#[0xb1]⟩ 1 none ∈ mm_all := ⟨(mm_w5 (i := 196) rfl rfl), wm_OB_init, wc_OB_init⟩
theorem pl_Z_init_7 : mm_PL M_Z_init 7 13 0 (.int) := ⟨_, _, _, "StubServer$Scene", rfl, by decide, (mm_w5 (i := 197) rfl rfl), Or.inl rfl, by decide +kernel, Or.inr ⟨rfl, rfl, rfl⟩⟩
theorem pl_Z_init_13 : mm_PL M_Z_init 13 13 1 (.int) := ⟨_, _, _, "StubServer$Scene", rfl, by decide, (mm_w5 (i := 199) rfl rfl), Or.inl rfl, by decide +kernel, Or.inr ⟨rfl, rfl, rfl⟩⟩
theorem pl_Z_init_16 : mm_PL M_Z_init 16 13 2 (.int) := ⟨_, _, _, "StubServer$Scene", rfl, by decide, (mm_w5 (i := 201) rfl rfl), Or.inl rfl, by decide +kernel, Or.inr ⟨rfl, rfl, rfl⟩⟩
theorem cs_S_152 : mm_CB "StubServer" 152 M_AL_clear 0 ∧ Cond.instanceMethod M_AL_clear.1 ∈ mm_all ∧ Cond.selects M_AL_clear.1.cls M_AL_clear.1 M_AL_clear.1 ∈ mm_all := ⟨⟨(mm_w5 (i := 218) rfl rfl), wi_AL_clear, wc_AL_clear, ⟨by decide, by decide, by decide +kernel⟩, by decide⟩, wm_AL_clear, (mm_w5 (i := 220) rfl rfl)⟩
theorem pl_AL_clear_63 : mm_PL M_AL_clear 63 2 2 (.int) := ⟨_, _, _, "java/util/ArrayList", rfl, by decide, (mm_w1 (i := 119) rfl rfl), Or.inr (mm_w1 (i := 120) rfl rfl), by decide +kernel, Or.inl rfl⟩
theorem pl_AL_clear_48 : mm_PL M_AL_clear 48 2 1 (.int) := ⟨_, _, _, "java/util/ArrayList", rfl, by decide, (mm_w1 (i := 117) rfl rfl), Or.inl rfl, by decide +kernel, Or.inl rfl⟩
theorem cl_S_155 : Cond.classLink "StubServer" 155 "StubServer$Request" ∈ mm_all := mm_w5 (i := 226) rfl rfl
theorem cs_S_161 : mm_CB "StubServer" 161 M_S_isKept 1 ∧ Cond.instanceMethod M_S_isKept.1 ∈ mm_all ∧ Cond.selects M_S_isKept.1.cls M_S_isKept.1 M_S_isKept.1 ∈ mm_all := ⟨⟨(mm_w5 (i := 235) rfl rfl), wi_S_isKept, wc_S_isKept, ⟨by decide, by decide, by decide +kernel⟩, by decide⟩, wm_S_isKept, (mm_w0 (i := 32) rfl rfl)⟩
theorem fl_S_164 : mm_FL "StubServer" 164 7 5 := ⟨_, _, _, "StubServer$Request", rfl, by decide, (mm_w1 (i := 162) rfl rfl), Or.inl rfl⟩
theorem oi_M_1 : Cond.methodLink "StubServerModel" 1 Lib.objectInit ∈ mm_all ∧ Cond.instanceMethod Lib.objectInit ∈ mm_all ∧ Cond.code Lib.objectInit ⟨#[0xb1]⟩ 1 none ∈ mm_all := ⟨(mm_w6 (i := 16) rfl rfl), wm_OB_init, wc_OB_init⟩
theorem pl_M_init_7 : mm_PL M_M_init 7 14 0 (.array .int) := ⟨_, _, _, "StubServerModel", rfl, by decide, (mm_w6 (i := 17) rfl rfl), Or.inl rfl, by decide +kernel, Or.inr ⟨rfl, rfl, rfl⟩⟩
theorem pl_M_init_13 : mm_PL M_M_init 13 14 1 (.array .int) := ⟨_, _, _, "StubServerModel", rfl, by decide, (mm_w6 (i := 18) rfl rfl), Or.inl rfl, by decide +kernel, Or.inr ⟨rfl, rfl, rfl⟩⟩
theorem pl_M_init_16 : mm_PL M_M_init 16 14 2 (.array .boolean) := ⟨_, _, _, "StubServerModel", rfl, by decide, (mm_w6 (i := 19) rfl rfl), Or.inl rfl, by decide +kernel, Or.inr ⟨rfl, rfl, rfl⟩⟩
theorem pl_M_init_20 : mm_PL M_M_init 20 14 3 (.array .int) := ⟨_, _, _, "StubServerModel", rfl, by decide, (mm_w6 (i := 20) rfl rfl), Or.inl rfl, by decide +kernel, Or.inr ⟨rfl, rfl, rfl⟩⟩
theorem pl_M_init_23 : mm_PL M_M_init 23 14 4 (.array .int) := ⟨_, _, _, "StubServerModel", rfl, by decide, (mm_w6 (i := 21) rfl rfl), Or.inl rfl, by decide +kernel, Or.inr ⟨rfl, rfl, rfl⟩⟩
theorem pl_M_init_26 : mm_PL M_M_init 26 14 6 (.array .int) := ⟨_, _, _, "StubServerModel", rfl, by decide, (mm_w6 (i := 23) rfl rfl), Or.inl rfl, by decide +kernel, Or.inr ⟨rfl, rfl, rfl⟩⟩
theorem pl_M_init_29 : mm_PL M_M_init 29 14 8 (.array .int) := ⟨_, _, _, "StubServerModel", rfl, by decide, (mm_w6 (i := 25) rfl rfl), Or.inl rfl, by decide +kernel, Or.inr ⟨rfl, rfl, rfl⟩⟩
theorem pl_M_init_32 : mm_PL M_M_init 32 14 9 (.array .int) := ⟨_, _, _, "StubServerModel", rfl, by decide, (mm_w6 (i := 26) rfl rfl), Or.inl rfl, by decide +kernel, Or.inr ⟨rfl, rfl, rfl⟩⟩
theorem pl_M_init_35 : mm_PL M_M_init 35 14 11 (.array .int) := ⟨_, _, _, "StubServerModel", rfl, by decide, (mm_w6 (i := 28) rfl rfl), Or.inl rfl, by decide +kernel, Or.inr ⟨rfl, rfl, rfl⟩⟩
theorem pl_M_init_38 : mm_PL M_M_init 38 14 12 (.array .int) := ⟨_, _, _, "StubServerModel", rfl, by decide, (mm_w6 (i := 29) rfl rfl), Or.inl rfl, by decide +kernel, Or.inr ⟨rfl, rfl, rfl⟩⟩
theorem pl_M_init_41 : mm_PL M_M_init 41 14 13 (.array .int) := ⟨_, _, _, "StubServerModel", rfl, by decide, (mm_w6 (i := 30) rfl rfl), Or.inl rfl, by decide +kernel, Or.inr ⟨rfl, rfl, rfl⟩⟩
theorem pl_M_init_44 : mm_PL M_M_init 44 14 14 (.array .int) := ⟨_, _, _, "StubServerModel", rfl, by decide, (mm_w6 (i := 31) rfl rfl), Or.inl rfl, by decide +kernel, Or.inr ⟨rfl, rfl, rfl⟩⟩
theorem pl_M_init_47 : mm_PL M_M_init 47 14 15 (.array .int) := ⟨_, _, _, "StubServerModel", rfl, by decide, (mm_w6 (i := 32) rfl rfl), Or.inl rfl, by decide +kernel, Or.inr ⟨rfl, rfl, rfl⟩⟩
theorem pl_M_init_50 : mm_PL M_M_init 50 14 18 (.array .int) := ⟨_, _, _, "StubServerModel", rfl, by decide, (mm_w6 (i := 35) rfl rfl), Or.inl rfl, by decide +kernel, Or.inr ⟨rfl, rfl, rfl⟩⟩
theorem pl_M_init_53 : mm_PL M_M_init 53 14 19 (.array .int) := ⟨_, _, _, "StubServerModel", rfl, by decide, (mm_w6 (i := 36) rfl rfl), Or.inl rfl, by decide +kernel, Or.inr ⟨rfl, rfl, rfl⟩⟩
theorem pl_M_init_56 : mm_PL M_M_init 56 14 20 (.array .int) := ⟨_, _, _, "StubServerModel", rfl, by decide, (mm_w6 (i := 37) rfl rfl), Or.inl rfl, by decide +kernel, Or.inr ⟨rfl, rfl, rfl⟩⟩
theorem pl_M_init_59 : mm_PL M_M_init 59 14 21 (.array .int) := ⟨_, _, _, "StubServerModel", rfl, by decide, (mm_w6 (i := 38) rfl rfl), Or.inl rfl, by decide +kernel, Or.inr ⟨rfl, rfl, rfl⟩⟩
theorem pl_M_init_62 : mm_PL M_M_init 62 14 22 (.array .int) := ⟨_, _, _, "StubServerModel", rfl, by decide, (mm_w6 (i := 39) rfl rfl), Or.inl rfl, by decide +kernel, Or.inr ⟨rfl, rfl, rfl⟩⟩
theorem pl_M_init_65 : mm_PL M_M_init 65 14 23 (.array .int) := ⟨_, _, _, "StubServerModel", rfl, by decide, (mm_w6 (i := 40) rfl rfl), Or.inl rfl, by decide +kernel, Or.inr ⟨rfl, rfl, rfl⟩⟩
theorem pl_M_init_68 : mm_PL M_M_init 68 14 24 (.array .int) := ⟨_, _, _, "StubServerModel", rfl, by decide, (mm_w6 (i := 41) rfl rfl), Or.inl rfl, by decide +kernel, Or.inr ⟨rfl, rfl, rfl⟩⟩
theorem pl_M_init_71 : mm_PL M_M_init 71 14 25 (.array .int) := ⟨_, _, _, "StubServerModel", rfl, by decide, (mm_w6 (i := 42) rfl rfl), Or.inl rfl, by decide +kernel, Or.inr ⟨rfl, rfl, rfl⟩⟩
theorem pl_M_init_74 : mm_PL M_M_init 74 14 26 (.array .int) := ⟨_, _, _, "StubServerModel", rfl, by decide, (mm_w6 (i := 43) rfl rfl), Or.inl rfl, by decide +kernel, Or.inr ⟨rfl, rfl, rfl⟩⟩
theorem pl_M_init_77 : mm_PL M_M_init 77 14 30 (.array .int) := ⟨_, _, _, "StubServerModel", rfl, by decide, (mm_w6 (i := 47) rfl rfl), Or.inl rfl, by decide +kernel, Or.inr ⟨rfl, rfl, rfl⟩⟩
theorem pl_M_init_80 : mm_PL M_M_init 80 14 31 (.array .int) := ⟨_, _, _, "StubServerModel", rfl, by decide, (mm_w6 (i := 48) rfl rfl), Or.inl rfl, by decide +kernel, Or.inr ⟨rfl, rfl, rfl⟩⟩
theorem pl_M_init_83 : mm_PL M_M_init 83 14 33 (.array .int) := ⟨_, _, _, "StubServerModel", rfl, by decide, (mm_w6 (i := 50) rfl rfl), Or.inl rfl, by decide +kernel, Or.inr ⟨rfl, rfl, rfl⟩⟩
theorem pl_M_init_86 : mm_PL M_M_init 86 14 37 (.array .int) := ⟨_, _, _, "StubServerModel", rfl, by decide, (mm_w6 (i := 54) rfl rfl), Or.inl rfl, by decide +kernel, Or.inr ⟨rfl, rfl, rfl⟩⟩
theorem pl_M_init_89 : mm_PL M_M_init 89 14 39 (.array .int) := ⟨_, _, _, "StubServerModel", rfl, by decide, (mm_w6 (i := 56) rfl rfl), Or.inl rfl, by decide +kernel, Or.inr ⟨rfl, rfl, rfl⟩⟩
theorem pl_M_init_92 : mm_PL M_M_init 92 14 41 (.array .int) := ⟨_, _, _, "StubServerModel", rfl, by decide, (mm_w6 (i := 58) rfl rfl), Or.inl rfl, by decide +kernel, Or.inr ⟨rfl, rfl, rfl⟩⟩
theorem fl_M_50 : mm_FL "StubServerModel" 50 14 18 := ⟨_, _, _, "StubServerModel", rfl, by decide, (mm_w6 (i := 35) rfl rfl), Or.inl rfl⟩
theorem fl_M_16 : mm_FL "StubServerModel" 16 14 2 := ⟨_, _, _, "StubServerModel", rfl, by decide, (mm_w6 (i := 19) rfl rfl), Or.inl rfl⟩
theorem cs_M_281 : mm_CB "StubServerModel" 281 M_M_arrive 2 ∧ Cond.instanceMethod M_M_arrive.1 ∈ mm_all ∧ Cond.selects M_M_arrive.1.cls M_M_arrive.1 M_M_arrive.1 ∈ mm_all := ⟨⟨(mm_w6 (i := 152) rfl rfl), wi_M_arrive, wc_M_arrive, ⟨by decide, by decide, by decide +kernel⟩, by decide⟩, wm_M_arrive, (mm_w0 (i := 33) rfl rfl)⟩
theorem fl_M_7 : mm_FL "StubServerModel" 7 14 0 := ⟨_, _, _, "StubServerModel", rfl, by decide, (mm_w6 (i := 17) rfl rfl), Or.inl rfl⟩
theorem fl_M_13 : mm_FL "StubServerModel" 13 14 1 := ⟨_, _, _, "StubServerModel", rfl, by decide, (mm_w6 (i := 18) rfl rfl), Or.inl rfl⟩
theorem cs_M_275 : mm_CB "StubServerModel" 275 M_M_judge 1 ∧ Cond.instanceMethod M_M_judge.1 ∈ mm_all ∧ Cond.selects M_M_judge.1.cls M_M_judge.1 M_M_judge.1 ∈ mm_all := ⟨⟨(mm_w6 (i := 156) rfl rfl), wi_M_judge, wc_M_judge, ⟨by decide, by decide, by decide +kernel⟩, by decide⟩, wm_M_judge, (mm_w0 (i := 34) rfl rfl)⟩
theorem cs_M_278 : mm_CB "StubServerModel" 278 M_M_serve 1 ∧ Cond.instanceMethod M_M_serve.1 ∈ mm_all ∧ Cond.selects M_M_serve.1.cls M_M_serve.1 M_M_serve.1 ∈ mm_all := ⟨⟨(mm_w6 (i := 237) rfl rfl), wi_M_serve, wc_M_serve, ⟨by decide, by decide, by decide +kernel⟩, by decide⟩, wm_M_serve, (mm_w0 (i := 52) rfl rfl)⟩
theorem fl_M_158 : mm_FL "StubServerModel" 158 14 34 := ⟨_, _, _, "StubServerModel", rfl, by decide, (mm_w6 (i := 51) rfl rfl), Or.inl rfl⟩
theorem pl_M_arrive_236 : mm_PL M_M_arrive 236 14 42 (.int) := ⟨_, _, _, "StubServerModel", rfl, by decide, (mm_w6 (i := 59) rfl rfl), Or.inl rfl, by decide +kernel, Or.inl rfl⟩
theorem cs_M_266 : mm_CB "StubServerModel" 266 M_M_respond 2 ∧ Cond.instanceMethod M_M_respond.1 ∈ mm_all ∧ Cond.selects M_M_respond.1.cls M_M_respond.1 M_M_respond.1 ∈ mm_all := ⟨⟨(mm_w7 (i := 85) rfl rfl), wi_M_respond, wc_M_respond, ⟨by decide, by decide, by decide +kernel⟩, by decide⟩, wm_M_respond, (mm_w0 (i := 74) rfl rfl)⟩
theorem pl_M_judge_99 : mm_PL M_M_judge 99 14 27 (.int) := ⟨_, _, _, "StubServerModel", rfl, by decide, (mm_w6 (i := 44) rfl rfl), Or.inl rfl, by decide +kernel, Or.inl rfl⟩
theorem pl_M_judge_95 : mm_PL M_M_judge 95 14 28 (.int) := ⟨_, _, _, "StubServerModel", rfl, by decide, (mm_w6 (i := 45) rfl rfl), Or.inl rfl, by decide +kernel, Or.inl rfl⟩
theorem pl_M_judge_142 : mm_PL M_M_judge 142 14 29 (.int) := ⟨_, _, _, "StubServerModel", rfl, by decide, (mm_w6 (i := 46) rfl rfl), Or.inl rfl, by decide +kernel, Or.inl rfl⟩
theorem pl_M_judge_164 : mm_PL M_M_judge 164 14 32 (.int) := ⟨_, _, _, "StubServerModel", rfl, by decide, (mm_w6 (i := 49) rfl rfl), Or.inl rfl, by decide +kernel, Or.inl rfl⟩
theorem pl_M_judge_158 : mm_PL M_M_judge 158 14 34 (.boolean) := ⟨_, _, _, "StubServerModel", rfl, by decide, (mm_w6 (i := 51) rfl rfl), Or.inl rfl, by decide +kernel, Or.inl rfl⟩
theorem pl_M_judge_151 : mm_PL M_M_judge 151 14 35 (.int) := ⟨_, _, _, "StubServerModel", rfl, by decide, (mm_w6 (i := 52) rfl rfl), Or.inl rfl, by decide +kernel, Or.inl rfl⟩
theorem pl_M_judge_154 : mm_PL M_M_judge 154 14 36 (.boolean) := ⟨_, _, _, "StubServerModel", rfl, by decide, (mm_w6 (i := 53) rfl rfl), Or.inl rfl, by decide +kernel, Or.inl rfl⟩
theorem cs_M_167 : mm_CB "StubServerModel" 167 M_M_lineEnd 3 ∧ Cond.instanceMethod M_M_lineEnd.1 ∈ mm_all ∧ Cond.selects M_M_lineEnd.1.cls M_M_lineEnd.1 M_M_lineEnd.1 ∈ mm_all := ⟨⟨(mm_w6 (i := 160) rfl rfl), wi_M_lineEnd, wc_M_lineEnd, ⟨by decide, by decide, by decide +kernel⟩, by decide⟩, wm_M_lineEnd, (mm_w0 (i := 35) rfl rfl)⟩
theorem cs_M_170 : mm_CB "StubServerModel" 170 M_M_requestLine 1 ∧ Cond.instanceMethod M_M_requestLine.1 ∈ mm_all ∧ Cond.selects M_M_requestLine.1.cls M_M_requestLine.1 M_M_requestLine.1 ∈ mm_all := ⟨⟨(mm_w6 (i := 168) rfl rfl), wi_M_requestLine, wc_M_requestLine, ⟨by decide, by decide, by decide +kernel⟩, by decide⟩, wm_M_requestLine, (mm_w0 (i := 37) rfl rfl)⟩
theorem fl_M_142 : mm_FL "StubServerModel" 142 14 29 := ⟨_, _, _, "StubServerModel", rfl, by decide, (mm_w6 (i := 46) rfl rfl), Or.inl rfl⟩
theorem cs_M_173 : mm_CB "StubServerModel" 173 M_M_header 2 ∧ Cond.instanceMethod M_M_header.1 ∈ mm_all ∧ Cond.selects M_M_header.1.cls M_M_header.1 M_M_header.1 ∈ mm_all := ⟨⟨(mm_w6 (i := 195) rfl rfl), wi_M_header, wc_M_header, ⟨by decide, by decide, by decide +kernel⟩, by decide⟩, wm_M_header, (mm_w0 (i := 43) rfl rfl)⟩
theorem fl_M_154 : mm_FL "StubServerModel" 154 14 36 := ⟨_, _, _, "StubServerModel", rfl, by decide, (mm_w6 (i := 53) rfl rfl), Or.inl rfl⟩
theorem cs_M_176 : mm_CB "StubServerModel" 176 M_M_chunks 1 ∧ Cond.instanceMethod M_M_chunks.1 ∈ mm_all ∧ Cond.selects M_M_chunks.1.cls M_M_chunks.1 M_M_chunks.1 ∈ mm_all := ⟨⟨(mm_w6 (i := 225) rfl rfl), wi_M_chunks, wc_M_chunks, ⟨by decide, by decide, by decide +kernel⟩, by decide⟩, wm_M_chunks, (mm_w0 (i := 49) rfl rfl)⟩
theorem cs_M_179 : mm_CB "StubServerModel" 179 M_M_plain 1 ∧ Cond.instanceMethod M_M_plain.1 ∈ mm_all ∧ Cond.selects M_M_plain.1.cls M_M_plain.1 M_M_plain.1 ∈ mm_all := ⟨⟨(mm_w6 (i := 233) rfl rfl), wi_M_plain, wc_M_plain, ⟨by decide, by decide, by decide +kernel⟩, by decide⟩, wm_M_plain, (mm_w0 (i := 51) rfl rfl)⟩
theorem fl_M_95 : mm_FL "StubServerModel" 95 14 28 := ⟨_, _, _, "StubServerModel", rfl, by decide, (mm_w6 (i := 45) rfl rfl), Or.inl rfl⟩
theorem cs_M_102 : mm_CB "StubServerModel" 102 M_M_byteAt 1 ∧ Cond.instanceMethod M_M_byteAt.1 ∈ mm_all ∧ Cond.selects M_M_byteAt.1.cls M_M_byteAt.1 M_M_byteAt.1 ∈ mm_all := ⟨⟨(mm_w6 (i := 164) rfl rfl), wi_M_byteAt, wc_M_byteAt, ⟨by decide, by decide, by decide +kernel⟩, by decide⟩, wm_M_byteAt, (mm_w0 (i := 36) rfl rfl)⟩
theorem fl_M_99 : mm_FL "StubServerModel" 99 14 27 := ⟨_, _, _, "StubServerModel", rfl, by decide, (mm_w6 (i := 44) rfl rfl), Or.inl rfl⟩
theorem cs_M_109 : mm_CB "StubServerModel" 109 M_M_seek 3 ∧ Cond.instanceMethod M_M_seek.1 ∈ mm_all ∧ Cond.selects M_M_seek.1.cls M_M_seek.1 M_M_seek.1 ∈ mm_all := ⟨⟨(mm_w6 (i := 172) rfl rfl), wi_M_seek, wc_M_seek, ⟨by decide, by decide, by decide +kernel⟩, by decide⟩, wm_M_seek, (mm_w0 (i := 38) rfl rfl)⟩
theorem cs_M_120 : mm_CB "StubServerModel" 120 M_M_pathEnd 0 ∧ Cond.instanceMethod M_M_pathEnd.1 ∈ mm_all ∧ Cond.selects M_M_pathEnd.1.cls M_M_pathEnd.1 M_M_pathEnd.1 ∈ mm_all := ⟨⟨(mm_w6 (i := 176) rfl rfl), wi_M_pathEnd, wc_M_pathEnd, ⟨by decide, by decide, by decide +kernel⟩, by decide⟩, wm_M_pathEnd, (mm_w0 (i := 39) rfl rfl)⟩
theorem cs_M_123 : mm_CB "StubServerModel" 123 M_M_coded 2 ∧ Cond.instanceMethod M_M_coded.1 ∈ mm_all ∧ Cond.selects M_M_coded.1.cls M_M_coded.1 M_M_coded.1 ∈ mm_all := ⟨⟨(mm_w6 (i := 188) rfl rfl), wi_M_coded, wc_M_coded, ⟨by decide, by decide, by decide +kernel⟩, by decide⟩, wm_M_coded, (mm_w0 (i := 42) rfl rfl)⟩
theorem cs_M_113 : mm_CB "StubServerModel" 113 M_M_pathAt 0 ∧ Cond.instanceMethod M_M_pathAt.1 ∈ mm_all ∧ Cond.selects M_M_pathAt.1.cls M_M_pathAt.1 M_M_pathAt.1 ∈ mm_all := ⟨⟨(mm_w6 (i := 180) rfl rfl), wi_M_pathAt, wc_M_pathAt, ⟨by decide, by decide, by decide +kernel⟩, by decide⟩, wm_M_pathAt, (mm_w0 (i := 40) rfl rfl)⟩
theorem cs_M_117 : mm_CB "StubServerModel" 117 M_M_targetEnd 0 ∧ Cond.instanceMethod M_M_targetEnd.1 ∈ mm_all ∧ Cond.selects M_M_targetEnd.1.cls M_M_targetEnd.1 M_M_targetEnd.1 ∈ mm_all := ⟨⟨(mm_w6 (i := 184) rfl rfl), wi_M_targetEnd, wc_M_targetEnd, ⟨by decide, by decide, by decide +kernel⟩, by decide⟩, wm_M_targetEnd, (mm_w0 (i := 41) rfl rfl)⟩
theorem cs_M_106 : mm_CB "StubServerModel" 106 M_M_hex 1 ∧ Cond.static M_M_hex.1 ∈ mm_all := ⟨⟨(mm_w6 (i := 192) rfl rfl), wi_M_hex, wc_M_hex, ⟨by decide, by decide, by decide +kernel⟩, by decide⟩, wt_M_hex⟩
theorem cs_M_138 : mm_CB "StubServerModel" 138 M_M_letter 1 ∧ Cond.static M_M_letter.1 ∈ mm_all := ⟨⟨(mm_w6 (i := 199) rfl rfl), wi_M_letter, wc_M_letter, ⟨by decide, by decide, by decide +kernel⟩, by decide⟩, wt_M_letter⟩
theorem fl_M_77 : mm_FL "StubServerModel" 77 14 30 := ⟨_, _, _, "StubServerModel", rfl, by decide, (mm_w6 (i := 47) rfl rfl), Or.inl rfl⟩
theorem fl_M_80 : mm_FL "StubServerModel" 80 14 31 := ⟨_, _, _, "StubServerModel", rfl, by decide, (mm_w6 (i := 48) rfl rfl), Or.inl rfl⟩
theorem cs_M_134 : mm_CB "StubServerModel" 134 M_M_valueAt 2 ∧ Cond.instanceMethod M_M_valueAt.1 ∈ mm_all ∧ Cond.selects M_M_valueAt.1.cls M_M_valueAt.1 M_M_valueAt.1 ∈ mm_all := ⟨⟨(mm_w6 (i := 202) rfl rfl), wi_M_valueAt, wc_M_valueAt, ⟨by decide, by decide, by decide +kernel⟩, by decide⟩, wm_M_valueAt, (mm_w0 (i := 44) rfl rfl)⟩
theorem cs_M_145 : mm_CB "StubServerModel" 145 M_M_valueEnd 2 ∧ Cond.instanceMethod M_M_valueEnd.1 ∈ mm_all ∧ Cond.selects M_M_valueEnd.1.cls M_M_valueEnd.1 M_M_valueEnd.1 ∈ mm_all := ⟨⟨(mm_w6 (i := 206) rfl rfl), wi_M_valueEnd, wc_M_valueEnd, ⟨by decide, by decide, by decide +kernel⟩, by decide⟩, wm_M_valueEnd, (mm_w0 (i := 45) rfl rfl)⟩
theorem cs_M_148 : mm_CB "StubServerModel" 148 M_M_isChunked 2 ∧ Cond.instanceMethod M_M_isChunked.1 ∈ mm_all ∧ Cond.selects M_M_isChunked.1.cls M_M_isChunked.1 M_M_isChunked.1 ∈ mm_all := ⟨⟨(mm_w6 (i := 210) rfl rfl), wi_M_isChunked, wc_M_isChunked, ⟨by decide, by decide, by decide +kernel⟩, by decide⟩, wm_M_isChunked, (mm_w0 (i := 46) rfl rfl)⟩
theorem cs_M_130 : mm_CB "StubServerModel" 130 M_M_isNamed 5 ∧ Cond.instanceMethod M_M_isNamed.1 ∈ mm_all ∧ Cond.selects M_M_isNamed.1.cls M_M_isNamed.1 M_M_isNamed.1 ∈ mm_all := ⟨⟨(mm_w6 (i := 214) rfl rfl), wi_M_isNamed, wc_M_isNamed, ⟨by decide, by decide, by decide +kernel⟩, by decide⟩, wm_M_isNamed, (mm_w0 (i := 47) rfl rfl)⟩
theorem fl_M_151 : mm_FL "StubServerModel" 151 14 35 := ⟨_, _, _, "StubServerModel", rfl, by decide, (mm_w6 (i := 52) rfl rfl), Or.inl rfl⟩
theorem pl_M_header_154 : mm_PL M_M_header 154 14 36 (.boolean) := ⟨_, _, _, "StubServerModel", rfl, by decide, (mm_w6 (i := 53) rfl rfl), Or.inl rfl, by decide +kernel, Or.inl rfl⟩
theorem cs_M_127 : mm_CB "StubServerModel" 127 M_M_small 1 ∧ Cond.static M_M_small.1 ∈ mm_all := ⟨⟨(mm_w6 (i := 218) rfl rfl), wi_M_small, wc_M_small, ⟨by decide, by decide, by decide +kernel⟩, by decide⟩, wt_M_small⟩
theorem pl_M_header_158 : mm_PL M_M_header 158 14 34 (.boolean) := ⟨_, _, _, "StubServerModel", rfl, by decide, (mm_w6 (i := 51) rfl rfl), Or.inl rfl, by decide +kernel, Or.inl rfl⟩
theorem cs_M_161 : mm_CB "StubServerModel" 161 M_M_announce 2 ∧ Cond.instanceMethod M_M_announce.1 ∈ mm_all ∧ Cond.selects M_M_announce.1.cls M_M_announce.1 M_M_announce.1 ∈ mm_all := ⟨⟨(mm_w6 (i := 221) rfl rfl), wi_M_announce, wc_M_announce, ⟨by decide, by decide, by decide +kernel⟩, by decide⟩, wm_M_announce, (mm_w0 (i := 48) rfl rfl)⟩
theorem pl_M_announce_151 : mm_PL M_M_announce 151 14 35 (.int) := ⟨_, _, _, "StubServerModel", rfl, by decide, (mm_w6 (i := 52) rfl rfl), Or.inl rfl, by decide +kernel, Or.inl rfl⟩
theorem cs_M_182 : mm_CB "StubServerModel" 182 M_M_is 2 ∧ Cond.instanceMethod M_M_is.1 ∈ mm_all ∧ Cond.selects M_M_is.1.cls M_M_is.1 M_M_is.1 ∈ mm_all := ⟨⟨(mm_w6 (i := 229) rfl rfl), wi_M_is, wc_M_is, ⟨by decide, by decide, by decide +kernel⟩, by decide⟩, wm_M_is, (mm_w0 (i := 50) rfl rfl)⟩
theorem fl_M_83 : mm_FL "StubServerModel" 83 14 33 := ⟨_, _, _, "StubServerModel", rfl, by decide, (mm_w6 (i := 50) rfl rfl), Or.inl rfl⟩
theorem fl_M_164 : mm_FL "StubServerModel" 164 14 32 := ⟨_, _, _, "StubServerModel", rfl, by decide, (mm_w6 (i := 49) rfl rfl), Or.inl rfl⟩
theorem pl_M_chunks_164 : mm_PL M_M_chunks 164 14 32 (.int) := ⟨_, _, _, "StubServerModel", rfl, by decide, (mm_w6 (i := 49) rfl rfl), Or.inl rfl, by decide +kernel, Or.inl rfl⟩
theorem pl_M_plain_164 : mm_PL M_M_plain 164 14 32 (.int) := ⟨_, _, _, "StubServerModel", rfl, by decide, (mm_w6 (i := 49) rfl rfl), Or.inl rfl, by decide +kernel, Or.inl rfl⟩
theorem cs_M_257 : mm_CB "StubServerModel" 257 M_M_failing 1 ∧ Cond.instanceMethod M_M_failing.1 ∈ mm_all ∧ Cond.selects M_M_failing.1.cls M_M_failing.1 M_M_failing.1 ∈ mm_all := ⟨⟨(mm_w7 (i := 1) rfl rfl), wi_M_failing, wc_M_failing, ⟨by decide, by decide, by decide +kernel⟩, by decide⟩, wm_M_failing, (mm_w0 (i := 53) rfl rfl)⟩
theorem cs_M_260 : mm_CB "StubServerModel" 260 M_M_before 2 ∧ Cond.instanceMethod M_M_before.1 ∈ mm_all ∧ Cond.selects M_M_before.1.cls M_M_before.1 M_M_before.1 ∈ mm_all := ⟨⟨(mm_w7 (i := 65) rfl rfl), wi_M_before, wc_M_before, ⟨by decide, by decide, by decide +kernel⟩, by decide⟩, wm_M_before, (mm_w0 (i := 69) rfl rfl)⟩
theorem fl_M_242 : mm_FL "StubServerModel" 242 14 7 := ⟨_, _, _, "StubServerModel", rfl, by decide, (mm_w6 (i := 24) rfl rfl), Or.inl rfl⟩
theorem pl_M_serve_242 : mm_PL M_M_serve 242 14 7 (.int) := ⟨_, _, _, "StubServerModel", rfl, by decide, (mm_w6 (i := 24) rfl rfl), Or.inl rfl, by decide +kernel, Or.inl rfl⟩
theorem pl_M_serve_236 : mm_PL M_M_serve 236 14 42 (.int) := ⟨_, _, _, "StubServerModel", rfl, by decide, (mm_w6 (i := 59) rfl rfl), Or.inl rfl, by decide +kernel, Or.inl rfl⟩
theorem fl_M_65 : mm_FL "StubServerModel" 65 14 23 := ⟨_, _, _, "StubServerModel", rfl, by decide, (mm_w6 (i := 40) rfl rfl), Or.inl rfl⟩
theorem cs_M_263 : mm_CB "StubServerModel" 263 M_M_expand 2 ∧ Cond.instanceMethod M_M_expand.1 ∈ mm_all ∧ Cond.selects M_M_expand.1.cls M_M_expand.1 M_M_expand.1 ∈ mm_all := ⟨⟨(mm_w7 (i := 69) rfl rfl), wi_M_expand, wc_M_expand, ⟨by decide, by decide, by decide +kernel⟩, by decide⟩, wm_M_expand, (mm_w0 (i := 70) rfl rfl)⟩
theorem fl_M_56 : mm_FL "StubServerModel" 56 14 20 := ⟨_, _, _, "StubServerModel", rfl, by decide, (mm_w6 (i := 37) rfl rfl), Or.inl rfl⟩
theorem fl_M_68 : mm_FL "StubServerModel" 68 14 24 := ⟨_, _, _, "StubServerModel", rfl, by decide, (mm_w6 (i := 41) rfl rfl), Or.inl rfl⟩
theorem fl_M_29 : mm_FL "StubServerModel" 29 14 8 := ⟨_, _, _, "StubServerModel", rfl, by decide, (mm_w6 (i := 25) rfl rfl), Or.inl rfl⟩
theorem fl_M_74 : mm_FL "StubServerModel" 74 14 26 := ⟨_, _, _, "StubServerModel", rfl, by decide, (mm_w6 (i := 43) rfl rfl), Or.inl rfl⟩
theorem fl_M_269 : mm_FL "StubServerModel" 269 14 5 := ⟨_, _, _, "StubServerModel", rfl, by decide, (mm_w6 (i := 22) rfl rfl), Or.inl rfl⟩
theorem cs_M_272 : mm_CB "StubServerModel" 272 M_M_copy 2 ∧ Cond.instanceMethod M_M_copy.1 ∈ mm_all ∧ Cond.selects M_M_copy.1.cls M_M_copy.1 M_M_copy.1 ∈ mm_all := ⟨⟨(mm_w7 (i := 89) rfl rfl), wi_M_copy, wc_M_copy, ⟨by decide, by decide, by decide +kernel⟩, by decide⟩, wm_M_copy, (mm_w0 (i := 75) rfl rfl)⟩
theorem pl_M_serve_269 : mm_PL M_M_serve 269 14 5 (.int) := ⟨_, _, _, "StubServerModel", rfl, by decide, (mm_w6 (i := 22) rfl rfl), Or.inl rfl, by decide +kernel, Or.inl rfl⟩
theorem fl_M_26 : mm_FL "StubServerModel" 26 14 6 := ⟨_, _, _, "StubServerModel", rfl, by decide, (mm_w6 (i := 23) rfl rfl), Or.inl rfl⟩
theorem cs_M_251 : mm_CB "StubServerModel" 251 M_M_inScene 1 ∧ Cond.instanceMethod M_M_inScene.1 ∈ mm_all ∧ Cond.selects M_M_inScene.1.cls M_M_inScene.1 M_M_inScene.1 ∈ mm_all := ⟨⟨(mm_w7 (i := 5) rfl rfl), wi_M_inScene, wc_M_inScene, ⟨by decide, by decide, by decide +kernel⟩, by decide⟩, wm_M_inScene, (mm_w0 (i := 54) rfl rfl)⟩
theorem fl_M_59 : mm_FL "StubServerModel" 59 14 21 := ⟨_, _, _, "StubServerModel", rfl, by decide, (mm_w6 (i := 38) rfl rfl), Or.inl rfl⟩
theorem cs_M_254 : mm_CB "StubServerModel" 254 M_M_holds 1 ∧ Cond.instanceMethod M_M_holds.1 ∈ mm_all ∧ Cond.selects M_M_holds.1.cls M_M_holds.1 M_M_holds.1 ∈ mm_all := ⟨⟨(mm_w7 (i := 9) rfl rfl), wi_M_holds, wc_M_holds, ⟨by decide, by decide, by decide +kernel⟩, by decide⟩, wm_M_holds, (mm_w0 (i := 55) rfl rfl)⟩
theorem fl_M_71 : mm_FL "StubServerModel" 71 14 25 := ⟨_, _, _, "StubServerModel", rfl, by decide, (mm_w6 (i := 42) rfl rfl), Or.inl rfl⟩
theorem fl_M_41 : mm_FL "StubServerModel" 41 14 13 := ⟨_, _, _, "StubServerModel", rfl, by decide, (mm_w6 (i := 30) rfl rfl), Or.inl rfl⟩
theorem pl_M_holds_192 : mm_PL M_M_holds 192 14 38 (.int) := ⟨_, _, _, "StubServerModel", rfl, by decide, (mm_w6 (i := 55) rfl rfl), Or.inl rfl, by decide +kernel, Or.inl rfl⟩
theorem fl_M_192 : mm_FL "StubServerModel" 192 14 38 := ⟨_, _, _, "StubServerModel", rfl, by decide, (mm_w6 (i := 55) rfl rfl), Or.inl rfl⟩
theorem fl_M_86 : mm_FL "StubServerModel" 86 14 37 := ⟨_, _, _, "StubServerModel", rfl, by decide, (mm_w6 (i := 54) rfl rfl), Or.inl rfl⟩
theorem fl_M_47 : mm_FL "StubServerModel" 47 14 15 := ⟨_, _, _, "StubServerModel", rfl, by decide, (mm_w6 (i := 32) rfl rfl), Or.inl rfl⟩
theorem fl_M_35 : mm_FL "StubServerModel" 35 14 11 := ⟨_, _, _, "StubServerModel", rfl, by decide, (mm_w6 (i := 28) rfl rfl), Or.inl rfl⟩
theorem cs_M_227 : mm_CB "StubServerModel" 227 M_M_seekPart 1 ∧ Cond.instanceMethod M_M_seekPart.1 ∈ mm_all ∧ Cond.selects M_M_seekPart.1.cls M_M_seekPart.1 M_M_seekPart.1 ∈ mm_all := ⟨⟨(mm_w7 (i := 13) rfl rfl), wi_M_seekPart, wc_M_seekPart, ⟨by decide, by decide, by decide +kernel⟩, by decide⟩, wm_M_seekPart, (mm_w0 (i := 56) rfl rfl)⟩
theorem fl_M_38 : mm_FL "StubServerModel" 38 14 12 := ⟨_, _, _, "StubServerModel", rfl, by decide, (mm_w6 (i := 29) rfl rfl), Or.inl rfl⟩
theorem cs_M_230 : mm_CB "StubServerModel" 230 M_M_fits 1 ∧ Cond.instanceMethod M_M_fits.1 ∈ mm_all ∧ Cond.selects M_M_fits.1.cls M_M_fits.1 M_M_fits.1 ∈ mm_all := ⟨⟨(mm_w7 (i := 41) rfl rfl), wi_M_fits, wc_M_fits, ⟨by decide, by decide, by decide +kernel⟩, by decide⟩, wm_M_fits, (mm_w0 (i := 63) rfl rfl)⟩
theorem cs_M_233 : mm_CB "StubServerModel" 233 M_M_contains 1 ∧ Cond.instanceMethod M_M_contains.1 ∈ mm_all ∧ Cond.selects M_M_contains.1.cls M_M_contains.1 M_M_contains.1 ∈ mm_all := ⟨⟨(mm_w7 (i := 61) rfl rfl), wi_M_contains, wc_M_contains, ⟨by decide, by decide, by decide +kernel⟩, by decide⟩, wm_M_contains, (mm_w0 (i := 68) rfl rfl)⟩
theorem fl_M_185 : mm_FL "StubServerModel" 185 14 40 := ⟨_, _, _, "StubServerModel", rfl, by decide, (mm_w6 (i := 57) rfl rfl), Or.inl rfl⟩
theorem fl_M_44 : mm_FL "StubServerModel" 44 14 14 := ⟨_, _, _, "StubServerModel", rfl, by decide, (mm_w6 (i := 31) rfl rfl), Or.inl rfl⟩
theorem cs_M_206 : mm_CB "StubServerModel" 206 M_M_parameter 0 ∧ Cond.instanceMethod M_M_parameter.1 ∈ mm_all ∧ Cond.selects M_M_parameter.1.cls M_M_parameter.1 M_M_parameter.1 ∈ mm_all := ⟨⟨(mm_w7 (i := 17) rfl rfl), wi_M_parameter, wc_M_parameter, ⟨by decide, by decide, by decide +kernel⟩, by decide⟩, wm_M_parameter, (mm_w0 (i := 57) rfl rfl)⟩
theorem cs_M_210 : mm_CB "StubServerModel" 210 M_M_headerOf 0 ∧ Cond.instanceMethod M_M_headerOf.1 ∈ mm_all ∧ Cond.selects M_M_headerOf.1.cls M_M_headerOf.1 M_M_headerOf.1 ∈ mm_all := ⟨⟨(mm_w7 (i := 33) rfl rfl), wi_M_headerOf, wc_M_headerOf, ⟨by decide, by decide, by decide +kernel⟩, by decide⟩, wm_M_headerOf, (mm_w0 (i := 61) rfl rfl)⟩
theorem cs_M_203 : mm_CB "StubServerModel" 203 M_M_raw 2 ∧ Cond.instanceMethod M_M_raw.1 ∈ mm_all ∧ Cond.selects M_M_raw.1.cls M_M_raw.1 M_M_raw.1 ∈ mm_all := ⟨⟨(mm_w7 (i := 37) rfl rfl), wi_M_raw, wc_M_raw, ⟨by decide, by decide, by decide +kernel⟩, by decide⟩, wm_M_raw, (mm_w0 (i := 62) rfl rfl)⟩
theorem cs_M_195 : mm_CB "StubServerModel" 195 M_M_decode 2 ∧ Cond.instanceMethod M_M_decode.1 ∈ mm_all ∧ Cond.selects M_M_decode.1.cls M_M_decode.1 M_M_decode.1 ∈ mm_all := ⟨⟨(mm_w7 (i := 21) rfl rfl), wi_M_decode, wc_M_decode, ⟨by decide, by decide, by decide +kernel⟩, by decide⟩, wm_M_decode, (mm_w0 (i := 58) rfl rfl)⟩
theorem fl_M_89 : mm_FL "StubServerModel" 89 14 39 := ⟨_, _, _, "StubServerModel", rfl, by decide, (mm_w6 (i := 56) rfl rfl), Or.inl rfl⟩
theorem pl_M_seekPart_185 : mm_PL M_M_seekPart 185 14 40 (.int) := ⟨_, _, _, "StubServerModel", rfl, by decide, (mm_w6 (i := 57) rfl rfl), Or.inl rfl, by decide +kernel, Or.inl rfl⟩
theorem cs_M_199 : mm_CB "StubServerModel" 199 M_M_isSought 1 ∧ Cond.instanceMethod M_M_isSought.1 ∈ mm_all ∧ Cond.selects M_M_isSought.1.cls M_M_isSought.1 M_M_isSought.1 ∈ mm_all := ⟨⟨(mm_w7 (i := 29) rfl rfl), wi_M_isSought, wc_M_isSought, ⟨by decide, by decide, by decide +kernel⟩, by decide⟩, wm_M_isSought, (mm_w0 (i := 60) rfl rfl)⟩
theorem pl_M_decode_185 : mm_PL M_M_decode 185 14 40 (.int) := ⟨_, _, _, "StubServerModel", rfl, by decide, (mm_w6 (i := 57) rfl rfl), Or.inl rfl, by decide +kernel, Or.inl rfl⟩
theorem cs_M_188 : mm_CB "StubServerModel" 188 M_M_put 1 ∧ Cond.instanceMethod M_M_put.1 ∈ mm_all ∧ Cond.selects M_M_put.1.cls M_M_put.1 M_M_put.1 ∈ mm_all := ⟨⟨(mm_w7 (i := 25) rfl rfl), wi_M_put, wc_M_put, ⟨by decide, by decide, by decide +kernel⟩, by decide⟩, wm_M_put, (mm_w0 (i := 59) rfl rfl)⟩
theorem pl_M_put_185 : mm_PL M_M_put 185 14 40 (.int) := ⟨_, _, _, "StubServerModel", rfl, by decide, (mm_w6 (i := 57) rfl rfl), Or.inl rfl, by decide +kernel, Or.inl rfl⟩
theorem pl_M_raw_185 : mm_PL M_M_raw 185 14 40 (.int) := ⟨_, _, _, "StubServerModel", rfl, by decide, (mm_w6 (i := 57) rfl rfl), Or.inl rfl, by decide +kernel, Or.inl rfl⟩
theorem cs_M_213 : mm_CB "StubServerModel" 213 M_M_letterOf 2 ∧ Cond.instanceMethod M_M_letterOf.1 ∈ mm_all ∧ Cond.selects M_M_letterOf.1.cls M_M_letterOf.1 M_M_letterOf.1 ∈ mm_all := ⟨⟨(mm_w7 (i := 45) rfl rfl), wi_M_letterOf, wc_M_letterOf, ⟨by decide, by decide, by decide +kernel⟩, by decide⟩, wm_M_letterOf, (mm_w0 (i := 64) rfl rfl)⟩
theorem cs_M_216 : mm_CB "StubServerModel" 216 M_M_pieceEnd 2 ∧ Cond.instanceMethod M_M_pieceEnd.1 ∈ mm_all ∧ Cond.selects M_M_pieceEnd.1.cls M_M_pieceEnd.1 M_M_pieceEnd.1 ∈ mm_all := ⟨⟨(mm_w7 (i := 49) rfl rfl), wi_M_pieceEnd, wc_M_pieceEnd, ⟨by decide, by decide, by decide +kernel⟩, by decide⟩, wm_M_pieceEnd, (mm_w0 (i := 65) rfl rfl)⟩
theorem cs_M_223 : mm_CB "StubServerModel" 223 M_M_through 4 ∧ Cond.instanceMethod M_M_through.1 ∈ mm_all ∧ Cond.selects M_M_through.1.cls M_M_through.1 M_M_through.1 ∈ mm_all := ⟨⟨(mm_w7 (i := 53) rfl rfl), wi_M_through, wc_M_through, ⟨by decide, by decide, by decide +kernel⟩, by decide⟩, wm_M_through, (mm_w0 (i := 66) rfl rfl)⟩
theorem cs_M_219 : mm_CB "StubServerModel" 219 M_M_takes 4 ∧ Cond.instanceMethod M_M_takes.1 ∈ mm_all ∧ Cond.selects M_M_takes.1.cls M_M_takes.1 M_M_takes.1 ∈ mm_all := ⟨⟨(mm_w7 (i := 57) rfl rfl), wi_M_takes, wc_M_takes, ⟨by decide, by decide, by decide +kernel⟩, by decide⟩, wm_M_takes, (mm_w0 (i := 67) rfl rfl)⟩
theorem fl_M_53 : mm_FL "StubServerModel" 53 14 19 := ⟨_, _, _, "StubServerModel", rfl, by decide, (mm_w6 (i := 36) rfl rfl), Or.inl rfl⟩
theorem fl_M_62 : mm_FL "StubServerModel" 62 14 22 := ⟨_, _, _, "StubServerModel", rfl, by decide, (mm_w6 (i := 39) rfl rfl), Or.inl rfl⟩
theorem cs_M_245 : mm_CB "StubServerModel" 245 M_M_makeNumber 1 ∧ Cond.instanceMethod M_M_makeNumber.1 ∈ mm_all ∧ Cond.selects M_M_makeNumber.1.cls M_M_makeNumber.1 M_M_makeNumber.1 ∈ mm_all := ⟨⟨(mm_w7 (i := 73) rfl rfl), wi_M_makeNumber, wc_M_makeNumber, ⟨by decide, by decide, by decide +kernel⟩, by decide⟩, wm_M_makeNumber, (mm_w0 (i := 71) rfl rfl)⟩
theorem cs_M_248 : mm_CB "StubServerModel" 248 M_M_makePart 1 ∧ Cond.instanceMethod M_M_makePart.1 ∈ mm_all ∧ Cond.selects M_M_makePart.1.cls M_M_makePart.1 M_M_makePart.1 ∈ mm_all := ⟨⟨(mm_w7 (i := 81) rfl rfl), wi_M_makePart, wc_M_makePart, ⟨by decide, by decide, by decide +kernel⟩, by decide⟩, wm_M_makePart, (mm_w0 (i := 73) rfl rfl)⟩
theorem pl_M_expand_192 : mm_PL M_M_expand 192 14 38 (.int) := ⟨_, _, _, "StubServerModel", rfl, by decide, (mm_w6 (i := 55) rfl rfl), Or.inl rfl, by decide +kernel, Or.inl rfl⟩
theorem cs_M_239 : mm_CB "StubServerModel" 239 M_M_make 1 ∧ Cond.instanceMethod M_M_make.1 ∈ mm_all ∧ Cond.selects M_M_make.1.cls M_M_make.1 M_M_make.1 ∈ mm_all := ⟨⟨(mm_w7 (i := 77) rfl rfl), wi_M_make, wc_M_make, ⟨by decide, by decide, by decide +kernel⟩, by decide⟩, wm_M_make, (mm_w0 (i := 72) rfl rfl)⟩
theorem fl_M_236 : mm_FL "StubServerModel" 236 14 42 := ⟨_, _, _, "StubServerModel", rfl, by decide, (mm_w6 (i := 59) rfl rfl), Or.inl rfl⟩
theorem fl_M_92 : mm_FL "StubServerModel" 92 14 41 := ⟨_, _, _, "StubServerModel", rfl, by decide, (mm_w6 (i := 58) rfl rfl), Or.inl rfl⟩
theorem pl_M_make_236 : mm_PL M_M_make 236 14 42 (.int) := ⟨_, _, _, "StubServerModel", rfl, by decide, (mm_w6 (i := 59) rfl rfl), Or.inl rfl, by decide +kernel, Or.inl rfl⟩
theorem pl_M_respond_236 : mm_PL M_M_respond 236 14 42 (.int) := ⟨_, _, _, "StubServerModel", rfl, by decide, (mm_w6 (i := 59) rfl rfl), Or.inl rfl, by decide +kernel, Or.inl rfl⟩
theorem fl_M_20 : mm_FL "StubServerModel" 20 14 3 := ⟨_, _, _, "StubServerModel", rfl, by decide, (mm_w6 (i := 20) rfl rfl), Or.inl rfl⟩
theorem fl_M_23 : mm_FL "StubServerModel" 23 14 4 := ⟨_, _, _, "StubServerModel", rfl, by decide, (mm_w6 (i := 21) rfl rfl), Or.inl rfl⟩
theorem cs_M_284 : mm_CB "StubServerModel" 284 M_M_size 1 ∧ Cond.instanceMethod M_M_size.1 ∈ mm_all ∧ Cond.selects M_M_size.1.cls M_M_size.1 M_M_size.1 ∈ mm_all := ⟨⟨(mm_w7 (i := 109) rfl rfl), wi_M_size, wc_M_size, ⟨by decide, by decide, by decide +kernel⟩, by decide⟩, wm_M_size, (mm_w7 (i := 103) rfl rfl)⟩
theorem fl_M_286 : mm_FL "StubServerModel" 286 14 10 := ⟨_, _, _, "StubServerModel", rfl, by decide, (mm_w6 (i := 27) rfl rfl), Or.inl rfl⟩
theorem fl_M_32 : mm_FL "StubServerModel" 32 14 9 := ⟨_, _, _, "StubServerModel", rfl, by decide, (mm_w6 (i := 26) rfl rfl), Or.inl rfl⟩
theorem pl_M_type_286 : mm_PL M_M_type 286 14 10 (.int) := ⟨_, _, _, "StubServerModel", rfl, by decide, (mm_w6 (i := 27) rfl rfl), Or.inl rfl, by decide +kernel, Or.inl rfl⟩
theorem fl_M_289 : mm_FL "StubServerModel" 289 14 16 := ⟨_, _, _, "StubServerModel", rfl, by decide, (mm_w6 (i := 33) rfl rfl), Or.inl rfl⟩
theorem cs_M_292 : mm_CB "StubServerModel" 292 M_M_isPattern 1 ∧ Cond.instanceMethod M_M_isPattern.1 ∈ mm_all ∧ Cond.selects M_M_isPattern.1.cls M_M_isPattern.1 M_M_isPattern.1 ∈ mm_all := ⟨⟨(mm_w7 (i := 118) rfl rfl), wi_M_isPattern, wc_M_isPattern, ⟨by decide, by decide, by decide +kernel⟩, by decide⟩, wm_M_isPattern, (mm_w0 (i := 76) rfl rfl)⟩
theorem pl_M_match_289 : mm_PL M_M_match 289 14 16 (.int) := ⟨_, _, _, "StubServerModel", rfl, by decide, (mm_w6 (i := 33) rfl rfl), Or.inl rfl, by decide +kernel, Or.inl rfl⟩
theorem pl_M_match_286 : mm_PL M_M_match 286 14 10 (.int) := ⟨_, _, _, "StubServerModel", rfl, by decide, (mm_w6 (i := 27) rfl rfl), Or.inl rfl, by decide +kernel, Or.inl rfl⟩
theorem fl_M_295 : mm_FL "StubServerModel" 295 14 17 := ⟨_, _, _, "StubServerModel", rfl, by decide, (mm_w6 (i := 34) rfl rfl), Or.inl rfl⟩
theorem pl_M_stub_289 : mm_PL M_M_stub 289 14 16 (.int) := ⟨_, _, _, "StubServerModel", rfl, by decide, (mm_w6 (i := 33) rfl rfl), Or.inl rfl, by decide +kernel, Or.inl rfl⟩
theorem pl_M_stub_286 : mm_PL M_M_stub 286 14 10 (.int) := ⟨_, _, _, "StubServerModel", rfl, by decide, (mm_w6 (i := 27) rfl rfl), Or.inl rfl, by decide +kernel, Or.inl rfl⟩
theorem pl_M_stub_295 : mm_PL M_M_stub 295 14 17 (.int) := ⟨_, _, _, "StubServerModel", rfl, by decide, (mm_w6 (i := 34) rfl rfl), Or.inl rfl, by decide +kernel, Or.inl rfl⟩
theorem cs_M_298 : mm_CB "StubServerModel" 298 M_M_placeOf 1 ∧ Cond.instanceMethod M_M_placeOf.1 ∈ mm_all ∧ Cond.selects M_M_placeOf.1.cls M_M_placeOf.1 M_M_placeOf.1 ∈ mm_all := ⟨⟨(mm_w7 (i := 130) rfl rfl), wi_M_placeOf, wc_M_placeOf, ⟨by decide, by decide, by decide +kernel⟩, by decide⟩, wm_M_placeOf, (mm_w0 (i := 77) rfl rfl)⟩
theorem pl_M_reset_269 : mm_PL M_M_reset 269 14 5 (.int) := ⟨_, _, _, "StubServerModel", rfl, by decide, (mm_w6 (i := 22) rfl rfl), Or.inl rfl, by decide +kernel, Or.inl rfl⟩
theorem pl_M_count_289 : mm_PL M_M_count 289 14 16 (.int) := ⟨_, _, _, "StubServerModel", rfl, by decide, (mm_w6 (i := 33) rfl rfl), Or.inl rfl, by decide +kernel, Or.inl rfl⟩
theorem nl_L_7 : mm_NL "StubServerLaw" 7 3 := ⟨_, _, _, rfl, (mm_w1 (i := 30) rfl rfl), (mm_w1 (i := 31) rfl rfl), (mm_w1 (i := 1) rfl rfl)⟩
theorem cs_L_9 : mm_CB "StubServerLaw" 9 M_S_init 0 ∧ M_S_init.1.name = "<init>" ∧ Cond.instanceMethod M_S_init.1 ∈ mm_all := ⟨⟨(mm_w1 (i := 32) rfl rfl), wi_S_init, wc_S_init, ⟨by decide, by decide, by decide +kernel⟩, by decide⟩, rfl, wm_S_init⟩
theorem nl_L_10 : mm_NL "StubServerLaw" 10 14 := ⟨_, _, _, rfl, (mm_w6 (i := 11) rfl rfl), (mm_w6 (i := 12) rfl rfl), (mm_w1 (i := 14) rfl rfl)⟩
theorem cs_L_12 : mm_CB "StubServerLaw" 12 M_M_init 0 ∧ M_M_init.1.name = "<init>" ∧ Cond.instanceMethod M_M_init.1 ∈ mm_all := ⟨⟨(mm_w6 (i := 13) rfl rfl), wi_M_init, wc_M_init, ⟨by decide, by decide, by decide +kernel⟩, by decide⟩, rfl, wm_M_init⟩
theorem cs_L_13 : mm_CB "StubServerLaw" 13 M_S_send 3 ∧ Cond.instanceMethod M_S_send.1 ∈ mm_all ∧ Cond.selects M_S_send.1.cls M_S_send.1 M_S_send.1 ∈ mm_all := ⟨⟨(mm_w2 (i := 15) rfl rfl), wi_S_send, wc_S_send, ⟨by decide, by decide, by decide +kernel⟩, by decide⟩, wm_S_send, (mm_w2 (i := 17) rfl rfl)⟩
theorem cs_L_17 : mm_CB "StubServerLaw" 17 M_M_send 3 ∧ Cond.instanceMethod M_M_send.1 ∈ mm_all ∧ Cond.selects M_M_send.1.cls M_M_send.1 M_M_send.1 ∈ mm_all := ⟨⟨(mm_w6 (i := 148) rfl rfl), wi_M_send, wc_M_send, ⟨by decide, by decide, by decide +kernel⟩, by decide⟩, wm_M_send, (mm_w6 (i := 150) rfl rfl)⟩
theorem cs_L_18 : mm_CB "StubServerLaw" 18 M_S_open 1 ∧ Cond.instanceMethod M_S_open.1 ∈ mm_all ∧ Cond.selects M_S_open.1.cls M_S_open.1 M_S_open.1 ∈ mm_all := ⟨⟨(mm_w5 (i := 6) rfl rfl), wi_S_open, wc_S_open, ⟨by decide, by decide, by decide +kernel⟩, by decide⟩, wm_S_open, (mm_w5 (i := 8) rfl rfl)⟩
theorem cs_L_22 : mm_CB "StubServerLaw" 22 M_M_open 1 ∧ Cond.instanceMethod M_M_open.1 ∈ mm_all ∧ Cond.selects M_M_open.1.cls M_M_open.1 M_M_open.1 ∈ mm_all := ⟨⟨(mm_w7 (i := 93) rfl rfl), wi_M_open, wc_M_open, ⟨by decide, by decide, by decide +kernel⟩, by decide⟩, wm_M_open, (mm_w7 (i := 95) rfl rfl)⟩
theorem cs_L_23 : mm_CB "StubServerLaw" 23 M_S_isOpen 1 ∧ Cond.instanceMethod M_S_isOpen.1 ∈ mm_all ∧ Cond.selects M_S_isOpen.1.cls M_S_isOpen.1 M_S_isOpen.1 ∈ mm_all := ⟨⟨(mm_w5 (i := 15) rfl rfl), wi_S_isOpen, wc_S_isOpen, ⟨by decide, by decide, by decide +kernel⟩, by decide⟩, wm_S_isOpen, (mm_w2 (i := 21) rfl rfl)⟩
theorem cs_L_26 : mm_CB "StubServerLaw" 26 M_M_isOpen 1 ∧ Cond.instanceMethod M_M_isOpen.1 ∈ mm_all ∧ Cond.selects M_M_isOpen.1.cls M_M_isOpen.1 M_M_isOpen.1 ∈ mm_all := ⟨⟨(mm_w7 (i := 97) rfl rfl), wi_M_isOpen, wc_M_isOpen, ⟨by decide, by decide, by decide +kernel⟩, by decide⟩, wm_M_isOpen, (mm_w7 (i := 99) rfl rfl)⟩
theorem cs_L_27 : mm_CB "StubServerLaw" 27 M_S_size 1 ∧ Cond.instanceMethod M_S_size.1 ∈ mm_all ∧ Cond.selects M_S_size.1.cls M_S_size.1 M_S_size.1 ∈ mm_all := ⟨⟨(mm_w5 (i := 16) rfl rfl), wi_S_size, wc_S_size, ⟨by decide, by decide, by decide +kernel⟩, by decide⟩, wm_S_size, (mm_w5 (i := 18) rfl rfl)⟩
theorem cs_L_31 : mm_CB "StubServerLaw" 31 M_M_size 1 ∧ Cond.instanceMethod M_M_size.1 ∈ mm_all ∧ Cond.selects M_M_size.1.cls M_M_size.1 M_M_size.1 ∈ mm_all := ⟨⟨(mm_w7 (i := 101) rfl rfl), wi_M_size, wc_M_size, ⟨by decide, by decide, by decide +kernel⟩, by decide⟩, wm_M_size, (mm_w7 (i := 103) rfl rfl)⟩
theorem cs_L_32 : mm_CB "StubServerLaw" 32 M_S_at 2 ∧ Cond.instanceMethod M_S_at.1 ∈ mm_all ∧ Cond.selects M_S_at.1.cls M_S_at.1 M_S_at.1 ∈ mm_all := ⟨⟨(mm_w5 (i := 21) rfl rfl), wi_S_at, wc_S_at, ⟨by decide, by decide, by decide +kernel⟩, by decide⟩, wm_S_at, (mm_w5 (i := 23) rfl rfl)⟩
theorem cs_L_36 : mm_CB "StubServerLaw" 36 M_M_at 2 ∧ Cond.instanceMethod M_M_at.1 ∈ mm_all ∧ Cond.selects M_M_at.1.cls M_M_at.1 M_M_at.1 ∈ mm_all := ⟨⟨(mm_w7 (i := 105) rfl rfl), wi_M_at, wc_M_at, ⟨by decide, by decide, by decide +kernel⟩, by decide⟩, wm_M_at, (mm_w7 (i := 107) rfl rfl)⟩
theorem cs_L_37 : mm_CB "StubServerLaw" 37 M_S_type 2 ∧ Cond.instanceMethod M_S_type.1 ∈ mm_all ∧ Cond.selects M_S_type.1.cls M_S_type.1 M_S_type.1 ∈ mm_all := ⟨⟨(mm_w5 (i := 36) rfl rfl), wi_S_type, wc_S_type, ⟨by decide, by decide, by decide +kernel⟩, by decide⟩, wm_S_type, (mm_w5 (i := 38) rfl rfl)⟩
theorem cs_L_41 : mm_CB "StubServerLaw" 41 M_M_type 2 ∧ Cond.instanceMethod M_M_type.1 ∈ mm_all ∧ Cond.selects M_M_type.1.cls M_M_type.1 M_M_type.1 ∈ mm_all := ⟨⟨(mm_w7 (i := 110) rfl rfl), wi_M_type, wc_M_type, ⟨by decide, by decide, by decide +kernel⟩, by decide⟩, wm_M_type, (mm_w7 (i := 112) rfl rfl)⟩
theorem cs_L_42 : mm_CB "StubServerLaw" 42 M_S_match 2 ∧ Cond.instanceMethod M_S_match.1 ∈ mm_all ∧ Cond.selects M_S_match.1.cls M_S_match.1 M_S_match.1 ∈ mm_all := ⟨⟨(mm_w5 (i := 42) rfl rfl), wi_S_match, wc_S_match, ⟨by decide, by decide, by decide +kernel⟩, by decide⟩, wm_S_match, (mm_w5 (i := 44) rfl rfl)⟩
theorem cs_L_45 : mm_CB "StubServerLaw" 45 M_M_match 2 ∧ Cond.instanceMethod M_M_match.1 ∈ mm_all ∧ Cond.selects M_M_match.1.cls M_M_match.1 M_M_match.1 ∈ mm_all := ⟨⟨(mm_w7 (i := 114) rfl rfl), wi_M_match, wc_M_match, ⟨by decide, by decide, by decide +kernel⟩, by decide⟩, wm_M_match, (mm_w7 (i := 116) rfl rfl)⟩
theorem cs_L_46 : mm_CB "StubServerLaw" 46 M_S_stub 2 ∧ Cond.instanceMethod M_S_stub.1 ∈ mm_all ∧ Cond.selects M_S_stub.1.cls M_S_stub.1 M_S_stub.1 ∈ mm_all := ⟨⟨(mm_w5 (i := 135) rfl rfl), wi_S_stub, wc_S_stub, ⟨by decide, by decide, by decide +kernel⟩, by decide⟩, wm_S_stub, (mm_w5 (i := 137) rfl rfl)⟩
theorem cs_L_49 : mm_CB "StubServerLaw" 49 M_M_stub 2 ∧ Cond.instanceMethod M_M_stub.1 ∈ mm_all ∧ Cond.selects M_M_stub.1.cls M_M_stub.1 M_M_stub.1 ∈ mm_all := ⟨⟨(mm_w7 (i := 122) rfl rfl), wi_M_stub, wc_M_stub, ⟨by decide, by decide, by decide +kernel⟩, by decide⟩, wm_M_stub, (mm_w7 (i := 124) rfl rfl)⟩
theorem cs_L_50 : mm_CB "StubServerLaw" 50 M_S_scene 4 ∧ Cond.instanceMethod M_S_scene.1 ∈ mm_all ∧ Cond.selects M_S_scene.1.cls M_S_scene.1 M_S_scene.1 ∈ mm_all := ⟨⟨(mm_w5 (i := 177) rfl rfl), wi_S_scene, wc_S_scene, ⟨by decide, by decide, by decide +kernel⟩, by decide⟩, wm_S_scene, (mm_w5 (i := 179) rfl rfl)⟩
theorem cs_L_54 : mm_CB "StubServerLaw" 54 M_M_scene 4 ∧ Cond.instanceMethod M_M_scene.1 ∈ mm_all ∧ Cond.selects M_M_scene.1.cls M_M_scene.1 M_M_scene.1 ∈ mm_all := ⟨⟨(mm_w7 (i := 126) rfl rfl), wi_M_scene, wc_M_scene, ⟨by decide, by decide, by decide +kernel⟩, by decide⟩, wm_M_scene, (mm_w7 (i := 128) rfl rfl)⟩
theorem cs_L_55 : mm_CB "StubServerLaw" 55 M_S_remove 1 ∧ Cond.instanceMethod M_S_remove.1 ∈ mm_all ∧ Cond.selects M_S_remove.1.cls M_S_remove.1 M_S_remove.1 ∈ mm_all := ⟨⟨(mm_w5 (i := 210) rfl rfl), wi_S_remove, wc_S_remove, ⟨by decide, by decide, by decide +kernel⟩, by decide⟩, wm_S_remove, (mm_w5 (i := 212) rfl rfl)⟩
theorem cs_L_58 : mm_CB "StubServerLaw" 58 M_M_remove 1 ∧ Cond.instanceMethod M_M_remove.1 ∈ mm_all ∧ Cond.selects M_M_remove.1.cls M_M_remove.1 M_M_remove.1 ∈ mm_all := ⟨⟨(mm_w7 (i := 134) rfl rfl), wi_M_remove, wc_M_remove, ⟨by decide, by decide, by decide +kernel⟩, by decide⟩, wm_M_remove, (mm_w7 (i := 136) rfl rfl)⟩
theorem cs_L_59 : mm_CB "StubServerLaw" 59 M_S_reset 0 ∧ Cond.instanceMethod M_S_reset.1 ∈ mm_all ∧ Cond.selects M_S_reset.1.cls M_S_reset.1 M_S_reset.1 ∈ mm_all := ⟨⟨(mm_w5 (i := 214) rfl rfl), wi_S_reset, wc_S_reset, ⟨by decide, by decide, by decide +kernel⟩, by decide⟩, wm_S_reset, (mm_w5 (i := 216) rfl rfl)⟩
theorem cs_L_63 : mm_CB "StubServerLaw" 63 M_M_reset 0 ∧ Cond.instanceMethod M_M_reset.1 ∈ mm_all ∧ Cond.selects M_M_reset.1.cls M_M_reset.1 M_M_reset.1 ∈ mm_all := ⟨⟨(mm_w7 (i := 138) rfl rfl), wi_M_reset, wc_M_reset, ⟨by decide, by decide, by decide +kernel⟩, by decide⟩, wm_M_reset, (mm_w7 (i := 140) rfl rfl)⟩
theorem cs_L_64 : mm_CB "StubServerLaw" 64 M_S_count 0 ∧ Cond.instanceMethod M_S_count.1 ∈ mm_all ∧ Cond.selects M_S_count.1.cls M_S_count.1 M_S_count.1 ∈ mm_all := ⟨⟨(mm_w5 (i := 222) rfl rfl), wi_S_count, wc_S_count, ⟨by decide, by decide, by decide +kernel⟩, by decide⟩, wm_S_count, (mm_w5 (i := 224) rfl rfl)⟩
theorem cs_L_67 : mm_CB "StubServerLaw" 67 M_M_count 0 ∧ Cond.instanceMethod M_M_count.1 ∈ mm_all ∧ Cond.selects M_M_count.1.cls M_M_count.1 M_M_count.1 ∈ mm_all := ⟨⟨(mm_w7 (i := 142) rfl rfl), wi_M_count, wc_M_count, ⟨by decide, by decide, by decide +kernel⟩, by decide⟩, wm_M_count, (mm_w7 (i := 144) rfl rfl)⟩
theorem cs_L_68 : mm_CB "StubServerLaw" 68 M_S_journal 0 ∧ Cond.instanceMethod M_S_journal.1 ∈ mm_all ∧ Cond.selects M_S_journal.1.cls M_S_journal.1 M_S_journal.1 ∈ mm_all := ⟨⟨(mm_w5 (i := 227) rfl rfl), wi_S_journal, wc_S_journal, ⟨by decide, by decide, by decide +kernel⟩, by decide⟩, wm_S_journal, (mm_w5 (i := 229) rfl rfl)⟩
theorem cs_L_71 : mm_CB "StubServerLaw" 71 M_M_journal 0 ∧ Cond.instanceMethod M_M_journal.1 ∈ mm_all ∧ Cond.selects M_M_journal.1.cls M_M_journal.1 M_M_journal.1 ∈ mm_all := ⟨⟨(mm_w7 (i := 146) rfl rfl), wi_M_journal, wc_M_journal, ⟨by decide, by decide, by decide +kernel⟩, by decide⟩, wm_M_journal, (mm_w7 (i := 148) rfl rfl)⟩
theorem cs_L_72 : mm_CB "StubServerLaw" 72 M_S_chosen 1 ∧ Cond.instanceMethod M_S_chosen.1 ∈ mm_all ∧ Cond.selects M_S_chosen.1.cls M_S_chosen.1 M_S_chosen.1 ∈ mm_all := ⟨⟨(mm_w5 (i := 231) rfl rfl), wi_S_chosen, wc_S_chosen, ⟨by decide, by decide, by decide +kernel⟩, by decide⟩, wm_S_chosen, (mm_w5 (i := 233) rfl rfl)⟩
theorem cs_L_75 : mm_CB "StubServerLaw" 75 M_M_chosen 1 ∧ Cond.instanceMethod M_M_chosen.1 ∈ mm_all ∧ Cond.selects M_M_chosen.1.cls M_M_chosen.1 M_M_chosen.1 ∈ mm_all := ⟨⟨(mm_w7 (i := 150) rfl rfl), wi_M_chosen, wc_M_chosen, ⟨by decide, by decide, by decide +kernel⟩, by decide⟩, wm_M_chosen, (mm_w7 (i := 152) rfl rfl)⟩
theorem cs_L_76 : mm_CB "StubServerLaw" 76 M_S_near 1 ∧ Cond.instanceMethod M_S_near.1 ∈ mm_all ∧ Cond.selects M_S_near.1.cls M_S_near.1 M_S_near.1 ∈ mm_all := ⟨⟨(mm_w5 (i := 239) rfl rfl), wi_S_near, wc_S_near, ⟨by decide, by decide, by decide +kernel⟩, by decide⟩, wm_S_near, (mm_w6 (i := 1) rfl rfl)⟩
theorem cs_L_79 : mm_CB "StubServerLaw" 79 M_M_near 1 ∧ Cond.instanceMethod M_M_near.1 ∈ mm_all ∧ Cond.selects M_M_near.1.cls M_M_near.1 M_M_near.1 ∈ mm_all := ⟨⟨(mm_w7 (i := 154) rfl rfl), wi_M_near, wc_M_near, ⟨by decide, by decide, by decide +kernel⟩, by decide⟩, wm_M_near, (mm_w7 (i := 156) rfl rfl)⟩
theorem cs_L_80 : mm_CB "StubServerLaw" 80 M_S_state 1 ∧ Cond.instanceMethod M_S_state.1 ∈ mm_all ∧ Cond.selects M_S_state.1.cls M_S_state.1 M_S_state.1 ∈ mm_all := ⟨⟨(mm_w6 (i := 3) rfl rfl), wi_S_state, wc_S_state, ⟨by decide, by decide, by decide +kernel⟩, by decide⟩, wm_S_state, (mm_w6 (i := 5) rfl rfl)⟩
theorem cs_L_83 : mm_CB "StubServerLaw" 83 M_M_state 1 ∧ Cond.instanceMethod M_M_state.1 ∈ mm_all ∧ Cond.selects M_M_state.1.cls M_M_state.1 M_M_state.1 ∈ mm_all := ⟨⟨(mm_w7 (i := 158) rfl rfl), wi_M_state, wc_M_state, ⟨by decide, by decide, by decide +kernel⟩, by decide⟩, wm_M_state, (mm_w7 (i := 160) rfl rfl)⟩
theorem cs_L_84 : mm_CB "StubServerLaw" 84 M_S_served 0 ∧ Cond.instanceMethod M_S_served.1 ∈ mm_all ∧ Cond.selects M_S_served.1.cls M_S_served.1 M_S_served.1 ∈ mm_all := ⟨⟨(mm_w6 (i := 7) rfl rfl), wi_S_served, wc_S_served, ⟨by decide, by decide, by decide +kernel⟩, by decide⟩, wm_S_served, (mm_w6 (i := 9) rfl rfl)⟩
theorem cs_L_87 : mm_CB "StubServerLaw" 87 M_M_served 0 ∧ Cond.instanceMethod M_M_served.1 ∈ mm_all ∧ Cond.selects M_M_served.1.cls M_M_served.1 M_M_served.1 ∈ mm_all := ⟨⟨(mm_w7 (i := 162) rfl rfl), wi_M_served, wc_M_served, ⟨by decide, by decide, by decide +kernel⟩, by decide⟩, wm_M_served, (mm_w7 (i := 164) rfl rfl)⟩
theorem ar_byte : Cond.arrayClass .byte ∈ mm_all := mm_w1 (i := 83) rfl rfl
theorem ar_int : Cond.arrayClass .int ∈ mm_all := mm_w2 (i := 14) rfl rfl
theorem ar_char : Cond.arrayClass .char ∈ mm_all := mm_w5 (i := 5) rfl rfl
theorem ar_boolean : Cond.arrayClass .boolean ∈ mm_all := mm_w6 (i := 147) rfl rfl
