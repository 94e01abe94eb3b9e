def wsJ0_checkIndex_df160 : List Cond := .code yJ0_checkIndex_df160 cJ0_checkIndex_df160 2 none :: ([.fieldLink RJ0 1053 "jdk/internal/util/Preconditions" "SIOOBE_FORMATTER" "Ljava/util/function/BiFunction;", .methodLink RJ0 1059 yJ3_checkIndex_8e157, .static yJ3_checkIndex_8e157, .initialized RJ3, .code yJ3_checkIndex_8e157 cJ3_checkIndex_8e157 3 (some .int)])
def wsJ1_canEncode_fc78d : List Cond := .code yJ1_canEncode_fc78d cJ1_canEncode_fc78d 1 (some .boolean) :: ([])
def wsJ4_append_bf812_r1 : List Cond := [Cond.methodLink RJ4 53 yJ5_append_c97b9, Cond.sameMethod "java/lang/AbstractStringBuilder" "java/lang/AbstractStringBuilder" "append" "(I)Ljava/lang/AbstractStringBuilder;", Cond.superclass RJ4 RJ5, Cond.instanceMethod yJ5_append_c97b9, Cond.initialized RJ5, Cond.code yJ5_append_c97b9 cJ5_append_c97b9 4 (some (.object "java/lang/AbstractStringBuilder")), Cond.fieldLink RJ5 79 "java/lang/AbstractStringBuilder" "count" "I", Cond.fieldLink RJ5 15 "java/lang/AbstractStringBuilder" "value" "[B", Cond.methodLink RJ5 245 yJ6_stringSize_0f7a4, Cond.static yJ6_stringSize_0f7a4, Cond.initialized RJ6, Cond.code yJ6_stringSize_0f7a4 cJ6_stringSize_0f7a4 4 (some .int), Cond.methodLink RJ5 100 ⟨"java/lang/AbstractStringBuilder", "ensureCapacityInternal", "(I)V"⟩, Cond.sameMethod "java/lang/AbstractStringBuilder" "java/lang/AbstractStringBuilder" "ensureCapacityInternal" "(I)V", Cond.selects RJ4 ⟨"java/lang/AbstractStringBuilder", "ensureCapacityInternal", "(I)V"⟩ yJ5_ensureCapacityInternal_d00df, Cond.instanceMethod yJ5_ensureCapacityInternal_d00df, Cond.code yJ5_ensureCapacityInternal_d00df cJ5_ensureCapacityInternal_d00df 3 none, Cond.fieldLink RJ5 22 "java/lang/AbstractStringBuilder" "coder" "B", Cond.methodLink RJ5 104 ⟨"java/lang/AbstractStringBuilder", "newCapacity", "(I)I"⟩, Cond.sameMethod "java/lang/AbstractStringBuilder" "java/lang/AbstractStringBuilder" "newCapacity" "(I)I", Cond.selects RJ4 ⟨"java/lang/AbstractStringBuilder", "newCapacity", "(I)I"⟩ yJ5_newCapacity_0f7a4, Cond.instanceMethod yJ5_newCapacity_0f7a4, Cond.code yJ5_newCapacity_0f7a4 cJ5_newCapacity_0f7a4 6 (some .int), Cond.constant RJ5 39 (2147483647)]
def wsJ4_append_bf812_r2 : List Cond := [Cond.methodLink RJ5 114 yJ8_newLength_cabcc, Cond.static yJ8_newLength_cabcc, Cond.initialized RJ8, Cond.code yJ8_newLength_cabcc cJ8_newLength_cabcc 4 (some .int), Cond.methodLink RJ8 194 Lib.Math.max.name, Cond.static Lib.Math.max.name, Cond.initialized "java/lang/Math", Cond.code Lib.Math.max.name Lib.Math.max.code 2 (some .int), Cond.constant RJ8 200 (2147483639), Cond.methodLink RJ8 201 yJ8_hugeLength_7cf53, Cond.static yJ8_hugeLength_7cf53, Cond.code yJ8_hugeLength_7cf53 cJ8_hugeLength_7cf53 3 (some .int), Cond.methodLink RJ5 108 yJ7_copyOf_9075b, Cond.static yJ7_copyOf_9075b, Cond.initialized RJ7, Cond.code yJ7_copyOf_9075b cJ7_copyOf_9075b 3 (some (.array .byte)), Cond.methodLink RJ7 310 ⟨"[B", "clone", "()Ljava/lang/Object;"⟩, Cond.sameMethod "[B" "java/lang/Object" "clone" "()Ljava/lang/Object;", Cond.native ⟨"java/lang/Object", "clone", "()Ljava/lang/Object;"⟩, Cond.instanceMethod ⟨"java/lang/Object", "clone", "()Ljava/lang/Object;"⟩, Cond.selects "[B" ⟨"[B", "clone", "()Ljava/lang/Object;"⟩ ⟨"java/lang/Object", "clone", "()Ljava/lang/Object;"⟩, Cond.classLink RJ7 311 "[B", Cond.arrayClass .byte, Cond.methodLink RJ7 304 Lib.Math.min.name]
def wsJ4_append_bf812_r3 : List Cond := [Cond.static Lib.Math.min.name, Cond.code Lib.Math.min.name Lib.Math.min.code 2 (some .int), Cond.methodLink RJ7 150 arraycopyName, Cond.native arraycopyName, Cond.static arraycopyName, Cond.initialized "java/lang/System", Cond.methodLink RJ5 83 ⟨"java/lang/AbstractStringBuilder", "isLatin1", "()Z"⟩, Cond.sameMethod "java/lang/AbstractStringBuilder" "java/lang/AbstractStringBuilder" "isLatin1" "()Z", Cond.selects RJ4 ⟨"java/lang/AbstractStringBuilder", "isLatin1", "()Z"⟩ yJ5_isLatin1_aae02, Cond.instanceMethod yJ5_isLatin1_aae02, Cond.code yJ5_isLatin1_aae02 cJ5_isLatin1_aae02 1 (some .boolean), Cond.fieldLink RJ5 18 "java/lang/String" "COMPACT_STRINGS" "Z", Cond.methodLink RJ5 248 yJ6_getChars_ba4f3, Cond.static yJ6_getChars_ba4f3, Cond.code yJ6_getChars_ba4f3 cJ6_getChars_ba4f3 7 (some .int), Cond.fieldLink RJ6 83 "java/lang/Integer" "DigitOnes" "[B", Cond.fieldLink RJ6 87 "java/lang/Integer" "DigitTens" "[B", Cond.methodLink RJ5 251 yJ2_getChars_46870, Cond.static yJ2_getChars_46870, Cond.initialized RJ2, Cond.code yJ2_getChars_46870 cJ2_getChars_46870 5 (some .int), Cond.fieldLink RJ2 44 "java/lang/StringUTF16" "$assertionsDisabled" "Z", Cond.methodLink RJ2 96 yJ2_checkBoundsBeginEnd_d044e, Cond.static yJ2_checkBoundsBeginEnd_d044e]
def wsJ4_append_bf812_r4 : List Cond := [Cond.code yJ2_checkBoundsBeginEnd_d044e cJ2_checkBoundsBeginEnd_d044e 3 none, Cond.methodLink RJ2 48 yJ2_length_9d52b, Cond.static yJ2_length_9d52b, Cond.code yJ2_length_9d52b cJ2_length_9d52b 1 (some .int), Cond.methodLink RJ2 241 yJ0_checkBoundsBeginEnd_23922, Cond.static yJ0_checkBoundsBeginEnd_23922, Cond.initialized RJ0, Cond.code yJ0_checkBoundsBeginEnd_23922 cJ0_checkBoundsBeginEnd_23922 3 none, Cond.fieldLink RJ0 1053 "jdk/internal/util/Preconditions" "SIOOBE_FORMATTER" "Ljava/util/function/BiFunction;", Cond.methodLink RJ0 1062 yJ3_checkFromToIndex_8c36e, Cond.static yJ3_checkFromToIndex_8c36e, Cond.initialized RJ3, Cond.code yJ3_checkFromToIndex_8c36e cJ3_checkFromToIndex_8c36e 4 (some .int), Cond.methodLink RJ2 393 yJ2_getChars_ba4f3, Cond.static yJ2_getChars_ba4f3, Cond.code yJ2_getChars_ba4f3 cJ2_getChars_ba4f3 7 (some .int), Cond.fieldLink RJ2 403 "java/lang/Integer" "DigitOnes" "[B", Cond.fieldLink RJ2 407 "java/lang/Integer" "DigitTens" "[B", Cond.methodLink RJ2 111 yJ2_putChar_b72d1, Cond.static yJ2_putChar_b72d1, Cond.code yJ2_putChar_b72d1 cJ2_putChar_b72d1 3 none, Cond.fieldLink RJ2 59 "java/lang/StringUTF16" "HI_BYTE_SHIFT" "I", Cond.fieldLink RJ2 63 "java/lang/StringUTF16" "LO_BYTE_SHIFT" "I"]
def wsJ4_append_bf812 : List Cond := .code yJ4_append_bf812 cJ4_append_bf812 2 (some (.object "java/lang/StringBuilder")) :: ((wsJ4_append_bf812_r1 ++ (wsJ4_append_bf812_r2 ++ (wsJ4_append_bf812_r3 ++ wsJ4_append_bf812_r4))) ++ wsJ40)
def wsJ4_append_cf468_r1 : List Cond := [Cond.methodLink RJ4 50 yJ5_append_3fe6f, Cond.sameMethod "java/lang/AbstractStringBuilder" "java/lang/AbstractStringBuilder" "append" "(C)Ljava/lang/AbstractStringBuilder;", Cond.superclass RJ4 RJ5, Cond.instanceMethod yJ5_append_3fe6f, Cond.initialized RJ5, Cond.code yJ5_append_3fe6f cJ5_append_3fe6f 2 (some (.object "java/lang/AbstractStringBuilder")), Cond.fieldLink RJ5 79 "java/lang/AbstractStringBuilder" "count" "I", Cond.fieldLink RJ5 15 "java/lang/AbstractStringBuilder" "value" "[B", Cond.methodLink RJ5 100 ⟨"java/lang/AbstractStringBuilder", "ensureCapacityInternal", "(I)V"⟩, Cond.sameMethod "java/lang/AbstractStringBuilder" "java/lang/AbstractStringBuilder" "ensureCapacityInternal" "(I)V", Cond.selects RJ4 ⟨"java/lang/AbstractStringBuilder", "ensureCapacityInternal", "(I)V"⟩ yJ5_ensureCapacityInternal_d00df, Cond.instanceMethod yJ5_ensureCapacityInternal_d00df, Cond.code yJ5_ensureCapacityInternal_d00df cJ5_ensureCapacityInternal_d00df 3 none, Cond.fieldLink RJ5 22 "java/lang/AbstractStringBuilder" "coder" "B", Cond.methodLink RJ5 104 ⟨"java/lang/AbstractStringBuilder", "newCapacity", "(I)I"⟩, Cond.sameMethod "java/lang/AbstractStringBuilder" "java/lang/AbstractStringBuilder" "newCapacity" "(I)I", Cond.selects RJ4 ⟨"java/lang/AbstractStringBuilder", "newCapacity", "(I)I"⟩ yJ5_newCapacity_0f7a4, Cond.instanceMethod yJ5_newCapacity_0f7a4, Cond.code yJ5_newCapacity_0f7a4 cJ5_newCapacity_0f7a4 6 (some .int), Cond.constant RJ5 39 (2147483647), Cond.methodLink RJ5 114 yJ8_newLength_cabcc, Cond.static yJ8_newLength_cabcc, Cond.initialized RJ8, Cond.code yJ8_newLength_cabcc cJ8_newLength_cabcc 4 (some .int)]
def wsJ4_append_cf468_r2 : List Cond := [Cond.methodLink RJ8 194 Lib.Math.max.name, Cond.static Lib.Math.max.name, Cond.initialized "java/lang/Math", Cond.code Lib.Math.max.name Lib.Math.max.code 2 (some .int), Cond.constant RJ8 200 (2147483639), Cond.methodLink RJ8 201 yJ8_hugeLength_7cf53, Cond.static yJ8_hugeLength_7cf53, Cond.code yJ8_hugeLength_7cf53 cJ8_hugeLength_7cf53 3 (some .int), Cond.methodLink RJ5 108 yJ7_copyOf_9075b, Cond.static yJ7_copyOf_9075b, Cond.initialized RJ7, Cond.code yJ7_copyOf_9075b cJ7_copyOf_9075b 3 (some (.array .byte)), Cond.methodLink RJ7 310 ⟨"[B", "clone", "()Ljava/lang/Object;"⟩, Cond.sameMethod "[B" "java/lang/Object" "clone" "()Ljava/lang/Object;", Cond.native ⟨"java/lang/Object", "clone", "()Ljava/lang/Object;"⟩, Cond.instanceMethod ⟨"java/lang/Object", "clone", "()Ljava/lang/Object;"⟩, Cond.selects "[B" ⟨"[B", "clone", "()Ljava/lang/Object;"⟩ ⟨"java/lang/Object", "clone", "()Ljava/lang/Object;"⟩, Cond.classLink RJ7 311 "[B", Cond.arrayClass .byte, Cond.methodLink RJ7 304 Lib.Math.min.name, Cond.static Lib.Math.min.name, Cond.code Lib.Math.min.name Lib.Math.min.code 2 (some .int), Cond.methodLink RJ7 150 arraycopyName, Cond.native arraycopyName]
def wsJ4_append_cf468_r3 : List Cond := [Cond.static arraycopyName, Cond.initialized "java/lang/System", Cond.methodLink RJ5 83 ⟨"java/lang/AbstractStringBuilder", "isLatin1", "()Z"⟩, Cond.sameMethod "java/lang/AbstractStringBuilder" "java/lang/AbstractStringBuilder" "isLatin1" "()Z", Cond.selects RJ4 ⟨"java/lang/AbstractStringBuilder", "isLatin1", "()Z"⟩ yJ5_isLatin1_aae02, Cond.instanceMethod yJ5_isLatin1_aae02, Cond.code yJ5_isLatin1_aae02 cJ5_isLatin1_aae02 1 (some .boolean), Cond.fieldLink RJ5 18 "java/lang/String" "COMPACT_STRINGS" "Z", Cond.methodLink RJ5 191 yJ1_canEncode_fc78d, Cond.static yJ1_canEncode_fc78d, Cond.initialized RJ1, Cond.code yJ1_canEncode_fc78d cJ1_canEncode_fc78d 1 (some .boolean), Cond.methodLink RJ5 195 ⟨"java/lang/AbstractStringBuilder", "inflate", "()V"⟩, Cond.sameMethod "java/lang/AbstractStringBuilder" "java/lang/AbstractStringBuilder" "inflate" "()V", Cond.selects RJ4 ⟨"java/lang/AbstractStringBuilder", "inflate", "()V"⟩ yJ5_inflate_da8c8, Cond.instanceMethod yJ5_inflate_da8c8, Cond.code yJ5_inflate_da8c8 cJ5_inflate_da8c8 2 none, Cond.methodLink RJ5 26 yJ2_newBytesFor_77867, Cond.static yJ2_newBytesFor_77867, Cond.initialized RJ2, Cond.code yJ2_newBytesFor_77867 cJ2_newBytesFor_77867 1 (some (.array .byte)), Cond.methodLink RJ2 11 yJ2_newBytesLength_0f7a4, Cond.static yJ2_newBytesLength_0f7a4, Cond.code yJ2_newBytesLength_0f7a4 cJ2_newBytesLength_0f7a4 1 (some .int)]
def wsJ4_append_cf468_r4 : List Cond := [Cond.constant RJ2 20 (1073741823), Cond.methodLink RJ5 125 yJ1_inflate_0e8fd, Cond.static yJ1_inflate_0e8fd, Cond.code yJ1_inflate_0e8fd cJ1_inflate_0e8fd 5 none, Cond.methodLink RJ1 240 yJ2_inflate_0e8fd, Cond.static yJ2_inflate_0e8fd, Cond.code yJ2_inflate_0e8fd cJ2_inflate_0e8fd 6 none, Cond.methodLink RJ2 173 yJ2_checkBoundsOffCount_d044e, Cond.static yJ2_checkBoundsOffCount_d044e, Cond.code yJ2_checkBoundsOffCount_d044e cJ2_checkBoundsOffCount_d044e 3 none, Cond.methodLink RJ2 48 yJ2_length_9d52b, Cond.static yJ2_length_9d52b, Cond.code yJ2_length_9d52b cJ2_length_9d52b 1 (some .int), Cond.methodLink RJ2 419 yJ0_checkBoundsOffCount_cabcc, Cond.static yJ0_checkBoundsOffCount_cabcc, Cond.initialized RJ0, Cond.code yJ0_checkBoundsOffCount_cabcc cJ0_checkBoundsOffCount_cabcc 3 (some .int), Cond.fieldLink RJ0 1053 "jdk/internal/util/Preconditions" "SIOOBE_FORMATTER" "Ljava/util/function/BiFunction;", Cond.methodLink RJ0 1065 yJ3_checkFromIndexSize_8c36e, Cond.static yJ3_checkFromIndexSize_8c36e, Cond.initialized RJ3, Cond.code yJ3_checkFromIndexSize_8c36e cJ3_checkFromIndexSize_8c36e 4 (some .int), Cond.methodLink RJ2 111 yJ2_putChar_b72d1, Cond.static yJ2_putChar_b72d1]
def wsJ4_append_cf468_r5 : List Cond := [Cond.code yJ2_putChar_b72d1 cJ2_putChar_b72d1 3 none, Cond.fieldLink RJ2 44 "java/lang/StringUTF16" "$assertionsDisabled" "Z", Cond.fieldLink RJ2 59 "java/lang/StringUTF16" "HI_BYTE_SHIFT" "I", Cond.fieldLink RJ2 63 "java/lang/StringUTF16" "LO_BYTE_SHIFT" "I", Cond.methodLink RJ5 197 yJ2_putCharSB_b72d1, Cond.static yJ2_putCharSB_b72d1, Cond.code yJ2_putCharSB_b72d1 cJ2_putCharSB_b72d1 3 none, Cond.methodLink RJ2 67 yJ2_checkIndex_2214a, Cond.static yJ2_checkIndex_2214a, Cond.code yJ2_checkIndex_2214a cJ2_checkIndex_2214a 2 none, Cond.methodLink RJ2 414 yJ0_checkIndex_df160, Cond.static yJ0_checkIndex_df160, Cond.code yJ0_checkIndex_df160 cJ0_checkIndex_df160 2 none, Cond.methodLink RJ0 1059 yJ3_checkIndex_8e157, Cond.static yJ3_checkIndex_8e157, Cond.code yJ3_checkIndex_8e157 cJ3_checkIndex_8e157 3 (some .int)]
def wsJ4_append_cf468 : List Cond := .code yJ4_append_cf468 cJ4_append_cf468 2 (some (.object "java/lang/StringBuilder")) :: ((wsJ4_append_cf468_r1 ++ (wsJ4_append_cf468_r2 ++ (wsJ4_append_cf468_r3 ++ (wsJ4_append_cf468_r4 ++ wsJ4_append_cf468_r5)))) ++ wsJ40)
def wsJ4_charAt_5068e_r1 : List Cond := [Cond.methodLink RJ4 329 yJ5_charAt_5068e, Cond.sameMethod "java/lang/AbstractStringBuilder" "java/lang/AbstractStringBuilder" "charAt" "(I)C", Cond.superclass RJ4 RJ5, Cond.instanceMethod yJ5_charAt_5068e, Cond.initialized RJ5, Cond.code yJ5_charAt_5068e cJ5_charAt_5068e 5 (some .char), Cond.fieldLink RJ5 22 "java/lang/AbstractStringBuilder" "coder" "B", Cond.fieldLink RJ5 15 "java/lang/AbstractStringBuilder" "value" "[B", Cond.fieldLink RJ5 79 "java/lang/AbstractStringBuilder" "count" "I", Cond.methodLink RJ5 138 Lib.Math.min.name, Cond.static Lib.Math.min.name, Cond.initialized "java/lang/Math", Cond.code Lib.Math.min.name Lib.Math.min.code 2 (some .int), Cond.methodLink RJ5 144 yJ0_checkIndex_df160, Cond.static yJ0_checkIndex_df160, Cond.initialized RJ0, Cond.code yJ0_checkIndex_df160 cJ0_checkIndex_df160 2 none, Cond.fieldLink RJ0 1053 "jdk/internal/util/Preconditions" "SIOOBE_FORMATTER" "Ljava/util/function/BiFunction;", Cond.methodLink RJ0 1059 yJ3_checkIndex_8e157, Cond.static yJ3_checkIndex_8e157, Cond.initialized RJ3, Cond.code yJ3_checkIndex_8e157 cJ3_checkIndex_8e157 3 (some .int), Cond.methodLink RJ5 148 yJ2_getChar_3b067, Cond.static yJ2_getChar_3b067]
def wsJ4_charAt_5068e_r2 : List Cond := [Cond.initialized RJ2, Cond.code yJ2_getChar_3b067 cJ2_getChar_3b067 2 (some .char), Cond.fieldLink RJ2 44 "java/lang/StringUTF16" "$assertionsDisabled" "Z", Cond.fieldLink RJ2 59 "java/lang/StringUTF16" "HI_BYTE_SHIFT" "I", Cond.fieldLink RJ2 63 "java/lang/StringUTF16" "LO_BYTE_SHIFT" "I", Cond.methodLink RJ2 48 yJ2_length_9d52b, Cond.static yJ2_length_9d52b, Cond.code yJ2_length_9d52b cJ2_length_9d52b 1 (some .int)]
def wsJ4_charAt_5068e : List Cond := .code yJ4_charAt_5068e cJ4_charAt_5068e 2 (some .char) :: ((wsJ4_charAt_5068e_r1 ++ wsJ4_charAt_5068e_r2) ++ wsJ40)
def wsJ4_length_8abf5 : List Cond := .code yJ4_length_8abf5 cJ4_length_8abf5 1 (some .int) :: ([.methodLink RJ4 343 yJ5_length_8abf5, .sameMethod "java/lang/AbstractStringBuilder" "java/lang/AbstractStringBuilder" "length" "()I", .superclass RJ4 RJ5, .instanceMethod yJ5_length_8abf5, .initialized RJ5, .code yJ5_length_8abf5 cJ5_length_8abf5 1 (some .int), .fieldLink RJ5 79 "java/lang/AbstractStringBuilder" "count" "I"] ++ wsJ40)
def wsJ4_setLength_d00df_r1 : List Cond := [Cond.methodLink RJ4 333 yJ5_setLength_d00df, Cond.sameMethod "java/lang/AbstractStringBuilder" "java/lang/AbstractStringBuilder" "setLength" "(I)V", Cond.superclass RJ4 RJ5, Cond.instanceMethod yJ5_setLength_d00df, Cond.initialized RJ5, Cond.code yJ5_setLength_d00df cJ5_setLength_d00df 2 none, Cond.classLink RJ5 129 RJx7c733, Cond.instantiable RJx7c733 6, Cond.initialized RJx7c733, Cond.fieldLink RJ5 79 "java/lang/AbstractStringBuilder" "count" "I", Cond.fieldLink RJ5 15 "java/lang/AbstractStringBuilder" "value" "[B", Cond.fieldLink RJ5 73 "java/lang/AbstractStringBuilder" "maybeLatin1" "Z", Cond.methodLink RJ5 100 ⟨"java/lang/AbstractStringBuilder", "ensureCapacityInternal", "(I)V"⟩, Cond.sameMethod "java/lang/AbstractStringBuilder" "java/lang/AbstractStringBuilder" "ensureCapacityInternal" "(I)V", Cond.selects RJ4 ⟨"java/lang/AbstractStringBuilder", "ensureCapacityInternal", "(I)V"⟩ yJ5_ensureCapacityInternal_d00df, Cond.instanceMethod yJ5_ensureCapacityInternal_d00df, Cond.code yJ5_ensureCapacityInternal_d00df cJ5_ensureCapacityInternal_d00df 3 none, Cond.fieldLink RJ5 22 "java/lang/AbstractStringBuilder" "coder" "B", Cond.methodLink RJ5 104 ⟨"java/lang/AbstractStringBuilder", "newCapacity", "(I)I"⟩, Cond.sameMethod "java/lang/AbstractStringBuilder" "java/lang/AbstractStringBuilder" "newCapacity" "(I)I", Cond.selects RJ4 ⟨"java/lang/AbstractStringBuilder", "newCapacity", "(I)I"⟩ yJ5_newCapacity_0f7a4, Cond.instanceMethod yJ5_newCapacity_0f7a4, Cond.code yJ5_newCapacity_0f7a4 cJ5_newCapacity_0f7a4 6 (some .int), Cond.constant RJ5 39 (2147483647)]
def wsJ4_setLength_d00df_r2 : List Cond := [Cond.methodLink RJ5 114 yJ8_newLength_cabcc, Cond.static yJ8_newLength_cabcc, Cond.initialized RJ8, Cond.code yJ8_newLength_cabcc cJ8_newLength_cabcc 4 (some .int), Cond.methodLink RJ8 194 Lib.Math.max.name, Cond.static Lib.Math.max.name, Cond.initialized "java/lang/Math", Cond.code Lib.Math.max.name Lib.Math.max.code 2 (some .int), Cond.constant RJ8 200 (2147483639), Cond.methodLink RJ8 201 yJ8_hugeLength_7cf53, Cond.static yJ8_hugeLength_7cf53, Cond.code yJ8_hugeLength_7cf53 cJ8_hugeLength_7cf53 3 (some .int), Cond.methodLink RJ5 108 yJ7_copyOf_9075b, Cond.static yJ7_copyOf_9075b, Cond.initialized RJ7, Cond.code yJ7_copyOf_9075b cJ7_copyOf_9075b 3 (some (.array .byte)), Cond.methodLink RJ7 310 ⟨"[B", "clone", "()Ljava/lang/Object;"⟩, Cond.sameMethod "[B" "java/lang/Object" "clone" "()Ljava/lang/Object;", Cond.native ⟨"java/lang/Object", "clone", "()Ljava/lang/Object;"⟩, Cond.instanceMethod ⟨"java/lang/Object", "clone", "()Ljava/lang/Object;"⟩, Cond.selects "[B" ⟨"[B", "clone", "()Ljava/lang/Object;"⟩ ⟨"java/lang/Object", "clone", "()Ljava/lang/Object;"⟩, Cond.classLink RJ7 311 "[B", Cond.arrayClass .byte, Cond.methodLink RJ7 304 Lib.Math.min.name]
def wsJ4_setLength_d00df_r3 : List Cond := [Cond.static Lib.Math.min.name, Cond.code Lib.Math.min.name Lib.Math.min.code 2 (some .int), Cond.methodLink RJ7 150 arraycopyName, Cond.native arraycopyName, Cond.static arraycopyName, Cond.initialized "java/lang/System", Cond.methodLink RJ5 83 ⟨"java/lang/AbstractStringBuilder", "isLatin1", "()Z"⟩, Cond.sameMethod "java/lang/AbstractStringBuilder" "java/lang/AbstractStringBuilder" "isLatin1" "()Z", Cond.selects RJ4 ⟨"java/lang/AbstractStringBuilder", "isLatin1", "()Z"⟩ yJ5_isLatin1_aae02, Cond.instanceMethod yJ5_isLatin1_aae02, Cond.code yJ5_isLatin1_aae02 cJ5_isLatin1_aae02 1 (some .boolean), Cond.fieldLink RJ5 18 "java/lang/String" "COMPACT_STRINGS" "Z", Cond.methodLink RJ5 133 yJ1_fillNull_b72d1, Cond.static yJ1_fillNull_b72d1, Cond.initialized RJ1, Cond.code yJ1_fillNull_b72d1 cJ1_fillNull_b72d1 3 none, Cond.methodLink RJ1 236 yJ7_fill_eb02e, Cond.static yJ7_fill_eb02e, Cond.code yJ7_fill_eb02e cJ7_fill_eb02e 5 none, Cond.methodLink RJ7 13 yJ7_rangeCheck_23922, Cond.static yJ7_rangeCheck_23922, Cond.code yJ7_rangeCheck_23922 cJ7_rangeCheck_23922 3 none, Cond.classLink RJ7 45 RJ4, Cond.instantiable RJ4 4]
def wsJ4_setLength_d00df_r4 : List Cond := [Cond.initialized RJ4, Cond.classLink RJ7 68 RJx00060, Cond.instantiable RJx00060 6, Cond.initialized RJx00060, Cond.methodLink RJ5 137 yJ2_fillNull_b72d1, Cond.static yJ2_fillNull_b72d1, Cond.initialized RJ2, Cond.code yJ2_fillNull_b72d1 cJ2_fillNull_b72d1 3 none, Cond.methodLink RJ2 380 yJ7_fill_eb02e]
def wsJ4_setLength_d00df : List Cond := .code yJ4_setLength_d00df cJ4_setLength_d00df 2 none :: ((wsJ4_setLength_d00df_r1 ++ (wsJ4_setLength_d00df_r2 ++ (wsJ4_setLength_d00df_r3 ++ wsJ4_setLength_d00df_r4))) ++ wsJx7c7330 ++ wsJ40 ++ wsJx000600)
def wsJ5_append_3fe6f_r1 : List Cond := [Cond.fieldLink RJ5 79 "java/lang/AbstractStringBuilder" "count" "I", Cond.fieldLink RJ5 15 "java/lang/AbstractStringBuilder" "value" "[B", Cond.methodLink RJ5 100 ⟨"java/lang/AbstractStringBuilder", "ensureCapacityInternal", "(I)V"⟩, Cond.sameMethod "java/lang/AbstractStringBuilder" "java/lang/AbstractStringBuilder" "ensureCapacityInternal" "(I)V", Cond.selects RJ4 ⟨"java/lang/AbstractStringBuilder", "ensureCapacityInternal", "(I)V"⟩ yJ5_ensureCapacityInternal_d00df, Cond.instanceMethod yJ5_ensureCapacityInternal_d00df, Cond.initialized RJ5, Cond.code yJ5_ensureCapacityInternal_d00df cJ5_ensureCapacityInternal_d00df 3 none, Cond.fieldLink RJ5 22 "java/lang/AbstractStringBuilder" "coder" "B", Cond.methodLink RJ5 104 ⟨"java/lang/AbstractStringBuilder", "newCapacity", "(I)I"⟩, Cond.sameMethod "java/lang/AbstractStringBuilder" "java/lang/AbstractStringBuilder" "newCapacity" "(I)I", Cond.selects RJ4 ⟨"java/lang/AbstractStringBuilder", "newCapacity", "(I)I"⟩ yJ5_newCapacity_0f7a4, Cond.instanceMethod yJ5_newCapacity_0f7a4, Cond.code yJ5_newCapacity_0f7a4 cJ5_newCapacity_0f7a4 6 (some .int), Cond.constant RJ5 39 (2147483647), Cond.methodLink RJ5 114 yJ8_newLength_cabcc, Cond.static yJ8_newLength_cabcc, Cond.initialized RJ8, Cond.code yJ8_newLength_cabcc cJ8_newLength_cabcc 4 (some .int), Cond.methodLink RJ8 194 Lib.Math.max.name, Cond.static Lib.Math.max.name, Cond.initialized "java/lang/Math", Cond.code Lib.Math.max.name Lib.Math.max.code 2 (some .int), Cond.constant RJ8 200 (2147483639)]
def wsJ5_append_3fe6f_r2 : List Cond := [Cond.methodLink RJ8 201 yJ8_hugeLength_7cf53, Cond.static yJ8_hugeLength_7cf53, Cond.code yJ8_hugeLength_7cf53 cJ8_hugeLength_7cf53 3 (some .int), Cond.methodLink RJ5 108 yJ7_copyOf_9075b, Cond.static yJ7_copyOf_9075b, Cond.initialized RJ7, Cond.code yJ7_copyOf_9075b cJ7_copyOf_9075b 3 (some (.array .byte)), Cond.methodLink RJ7 310 ⟨"[B", "clone", "()Ljava/lang/Object;"⟩, Cond.sameMethod "[B" "java/lang/Object" "clone" "()Ljava/lang/Object;", Cond.native ⟨"java/lang/Object", "clone", "()Ljava/lang/Object;"⟩, Cond.instanceMethod ⟨"java/lang/Object", "clone", "()Ljava/lang/Object;"⟩, Cond.selects "[B" ⟨"[B", "clone", "()Ljava/lang/Object;"⟩ ⟨"java/lang/Object", "clone", "()Ljava/lang/Object;"⟩, Cond.classLink RJ7 311 "[B", Cond.arrayClass .byte, Cond.methodLink RJ7 304 Lib.Math.min.name, Cond.static Lib.Math.min.name, Cond.code Lib.Math.min.name Lib.Math.min.code 2 (some .int), Cond.methodLink RJ7 150 arraycopyName, Cond.native arraycopyName, Cond.static arraycopyName, Cond.initialized "java/lang/System", Cond.methodLink RJ5 83 ⟨"java/lang/AbstractStringBuilder", "isLatin1", "()Z"⟩, Cond.sameMethod "java/lang/AbstractStringBuilder" "java/lang/AbstractStringBuilder" "isLatin1" "()Z", Cond.selects RJ4 ⟨"java/lang/AbstractStringBuilder", "isLatin1", "()Z"⟩ yJ5_isLatin1_aae02]
def wsJ5_append_3fe6f_r3 : List Cond := [Cond.instanceMethod yJ5_isLatin1_aae02, Cond.code yJ5_isLatin1_aae02 cJ5_isLatin1_aae02 1 (some .boolean), Cond.fieldLink RJ5 18 "java/lang/String" "COMPACT_STRINGS" "Z", Cond.methodLink RJ5 191 yJ1_canEncode_fc78d, Cond.static yJ1_canEncode_fc78d, Cond.initialized RJ1, Cond.code yJ1_canEncode_fc78d cJ1_canEncode_fc78d 1 (some .boolean), Cond.methodLink RJ5 195 ⟨"java/lang/AbstractStringBuilder", "inflate", "()V"⟩, Cond.sameMethod "java/lang/AbstractStringBuilder" "java/lang/AbstractStringBuilder" "inflate" "()V", Cond.selects RJ4 ⟨"java/lang/AbstractStringBuilder", "inflate", "()V"⟩ yJ5_inflate_da8c8, Cond.instanceMethod yJ5_inflate_da8c8, Cond.code yJ5_inflate_da8c8 cJ5_inflate_da8c8 2 none, Cond.methodLink RJ5 26 yJ2_newBytesFor_77867, Cond.static yJ2_newBytesFor_77867, Cond.initialized RJ2, Cond.code yJ2_newBytesFor_77867 cJ2_newBytesFor_77867 1 (some (.array .byte)), Cond.methodLink RJ2 11 yJ2_newBytesLength_0f7a4, Cond.static yJ2_newBytesLength_0f7a4, Cond.code yJ2_newBytesLength_0f7a4 cJ2_newBytesLength_0f7a4 1 (some .int), Cond.constant RJ2 20 (1073741823), Cond.methodLink RJ5 125 yJ1_inflate_0e8fd, Cond.static yJ1_inflate_0e8fd, Cond.code yJ1_inflate_0e8fd cJ1_inflate_0e8fd 5 none, Cond.methodLink RJ1 240 yJ2_inflate_0e8fd]
def wsJ5_append_3fe6f_r4 : List Cond := [Cond.static yJ2_inflate_0e8fd, Cond.code yJ2_inflate_0e8fd cJ2_inflate_0e8fd 6 none, Cond.methodLink RJ2 173 yJ2_checkBoundsOffCount_d044e, Cond.static yJ2_checkBoundsOffCount_d044e, Cond.code yJ2_checkBoundsOffCount_d044e cJ2_checkBoundsOffCount_d044e 3 none, Cond.methodLink RJ2 48 yJ2_length_9d52b, Cond.static yJ2_length_9d52b, Cond.code yJ2_length_9d52b cJ2_length_9d52b 1 (some .int), Cond.methodLink RJ2 419 yJ0_checkBoundsOffCount_cabcc, Cond.static yJ0_checkBoundsOffCount_cabcc, Cond.initialized RJ0, Cond.code yJ0_checkBoundsOffCount_cabcc cJ0_checkBoundsOffCount_cabcc 3 (some .int), Cond.fieldLink RJ0 1053 "jdk/internal/util/Preconditions" "SIOOBE_FORMATTER" "Ljava/util/function/BiFunction;", Cond.methodLink RJ0 1065 yJ3_checkFromIndexSize_8c36e, Cond.static yJ3_checkFromIndexSize_8c36e, Cond.initialized RJ3, Cond.code yJ3_checkFromIndexSize_8c36e cJ3_checkFromIndexSize_8c36e 4 (some .int), Cond.methodLink RJ2 111 yJ2_putChar_b72d1, Cond.static yJ2_putChar_b72d1, Cond.code yJ2_putChar_b72d1 cJ2_putChar_b72d1 3 none, Cond.fieldLink RJ2 44 "java/lang/StringUTF16" "$assertionsDisabled" "Z", Cond.fieldLink RJ2 59 "java/lang/StringUTF16" "HI_BYTE_SHIFT" "I", Cond.fieldLink RJ2 63 "java/lang/StringUTF16" "LO_BYTE_SHIFT" "I", Cond.methodLink RJ5 197 yJ2_putCharSB_b72d1]
def wsJ5_append_3fe6f_r5 : List Cond := [Cond.static yJ2_putCharSB_b72d1, Cond.code yJ2_putCharSB_b72d1 cJ2_putCharSB_b72d1 3 none, Cond.methodLink RJ2 67 yJ2_checkIndex_2214a, Cond.static yJ2_checkIndex_2214a, Cond.code yJ2_checkIndex_2214a cJ2_checkIndex_2214a 2 none, Cond.methodLink RJ2 414 yJ0_checkIndex_df160, Cond.static yJ0_checkIndex_df160, Cond.code yJ0_checkIndex_df160 cJ0_checkIndex_df160 2 none, Cond.methodLink RJ0 1059 yJ3_checkIndex_8e157, Cond.static yJ3_checkIndex_8e157, Cond.code yJ3_checkIndex_8e157 cJ3_checkIndex_8e157 3 (some .int)]
def wsJ5_append_3fe6f : List Cond := .code yJ5_append_3fe6f cJ5_append_3fe6f 2 (some (.object "java/lang/AbstractStringBuilder")) :: ((wsJ5_append_3fe6f_r1 ++ (wsJ5_append_3fe6f_r2 ++ (wsJ5_append_3fe6f_r3 ++ (wsJ5_append_3fe6f_r4 ++ wsJ5_append_3fe6f_r5)))) ++ wsJ40)
def wsJ5_append_c97b9_r1 : List Cond := [Cond.fieldLink RJ5 79 "java/lang/AbstractStringBuilder" "count" "I", Cond.fieldLink RJ5 15 "java/lang/AbstractStringBuilder" "value" "[B", Cond.methodLink RJ5 245 yJ6_stringSize_0f7a4, Cond.static yJ6_stringSize_0f7a4, Cond.initialized RJ6, Cond.code yJ6_stringSize_0f7a4 cJ6_stringSize_0f7a4 4 (some .int), Cond.methodLink RJ5 100 ⟨"java/lang/AbstractStringBuilder", "ensureCapacityInternal", "(I)V"⟩, Cond.sameMethod "java/lang/AbstractStringBuilder" "java/lang/AbstractStringBuilder" "ensureCapacityInternal" "(I)V", Cond.selects RJ4 ⟨"java/lang/AbstractStringBuilder", "ensureCapacityInternal", "(I)V"⟩ yJ5_ensureCapacityInternal_d00df, Cond.instanceMethod yJ5_ensureCapacityInternal_d00df, Cond.initialized RJ5, Cond.code yJ5_ensureCapacityInternal_d00df cJ5_ensureCapacityInternal_d00df 3 none, Cond.fieldLink RJ5 22 "java/lang/AbstractStringBuilder" "coder" "B", Cond.methodLink RJ5 104 ⟨"java/lang/AbstractStringBuilder", "newCapacity", "(I)I"⟩, Cond.sameMethod "java/lang/AbstractStringBuilder" "java/lang/AbstractStringBuilder" "newCapacity" "(I)I", Cond.selects RJ4 ⟨"java/lang/AbstractStringBuilder", "newCapacity", "(I)I"⟩ yJ5_newCapacity_0f7a4, Cond.instanceMethod yJ5_newCapacity_0f7a4, Cond.code yJ5_newCapacity_0f7a4 cJ5_newCapacity_0f7a4 6 (some .int), Cond.constant RJ5 39 (2147483647), Cond.methodLink RJ5 114 yJ8_newLength_cabcc, Cond.static yJ8_newLength_cabcc, Cond.initialized RJ8, Cond.code yJ8_newLength_cabcc cJ8_newLength_cabcc 4 (some .int), Cond.methodLink RJ8 194 Lib.Math.max.name]
def wsJ5_append_c97b9_r2 : List Cond := [Cond.static Lib.Math.max.name, Cond.initialized "java/lang/Math", Cond.code Lib.Math.max.name Lib.Math.max.code 2 (some .int), Cond.constant RJ8 200 (2147483639), Cond.methodLink RJ8 201 yJ8_hugeLength_7cf53, Cond.static yJ8_hugeLength_7cf53, Cond.code yJ8_hugeLength_7cf53 cJ8_hugeLength_7cf53 3 (some .int), Cond.methodLink RJ5 108 yJ7_copyOf_9075b, Cond.static yJ7_copyOf_9075b, Cond.initialized RJ7, Cond.code yJ7_copyOf_9075b cJ7_copyOf_9075b 3 (some (.array .byte)), Cond.methodLink RJ7 310 ⟨"[B", "clone", "()Ljava/lang/Object;"⟩, Cond.sameMethod "[B" "java/lang/Object" "clone" "()Ljava/lang/Object;", Cond.native ⟨"java/lang/Object", "clone", "()Ljava/lang/Object;"⟩, Cond.instanceMethod ⟨"java/lang/Object", "clone", "()Ljava/lang/Object;"⟩, Cond.selects "[B" ⟨"[B", "clone", "()Ljava/lang/Object;"⟩ ⟨"java/lang/Object", "clone", "()Ljava/lang/Object;"⟩, Cond.classLink RJ7 311 "[B", Cond.arrayClass .byte, Cond.methodLink RJ7 304 Lib.Math.min.name, Cond.static Lib.Math.min.name, Cond.code Lib.Math.min.name Lib.Math.min.code 2 (some .int), Cond.methodLink RJ7 150 arraycopyName, Cond.native arraycopyName, Cond.static arraycopyName]
def wsJ5_append_c97b9_r3 : List Cond := [Cond.initialized "java/lang/System", Cond.methodLink RJ5 83 ⟨"java/lang/AbstractStringBuilder", "isLatin1", "()Z"⟩, Cond.sameMethod "java/lang/AbstractStringBuilder" "java/lang/AbstractStringBuilder" "isLatin1" "()Z", Cond.selects RJ4 ⟨"java/lang/AbstractStringBuilder", "isLatin1", "()Z"⟩ yJ5_isLatin1_aae02, Cond.instanceMethod yJ5_isLatin1_aae02, Cond.code yJ5_isLatin1_aae02 cJ5_isLatin1_aae02 1 (some .boolean), Cond.fieldLink RJ5 18 "java/lang/String" "COMPACT_STRINGS" "Z", Cond.methodLink RJ5 248 yJ6_getChars_ba4f3, Cond.static yJ6_getChars_ba4f3, Cond.code yJ6_getChars_ba4f3 cJ6_getChars_ba4f3 7 (some .int), Cond.fieldLink RJ6 83 "java/lang/Integer" "DigitOnes" "[B", Cond.fieldLink RJ6 87 "java/lang/Integer" "DigitTens" "[B", Cond.methodLink RJ5 251 yJ2_getChars_46870, Cond.static yJ2_getChars_46870, Cond.initialized RJ2, Cond.code yJ2_getChars_46870 cJ2_getChars_46870 5 (some .int), Cond.fieldLink RJ2 44 "java/lang/StringUTF16" "$assertionsDisabled" "Z", Cond.methodLink RJ2 96 yJ2_checkBoundsBeginEnd_d044e, Cond.static yJ2_checkBoundsBeginEnd_d044e, Cond.code yJ2_checkBoundsBeginEnd_d044e cJ2_checkBoundsBeginEnd_d044e 3 none, Cond.methodLink RJ2 48 yJ2_length_9d52b, Cond.static yJ2_length_9d52b, Cond.code yJ2_length_9d52b cJ2_length_9d52b 1 (some .int), Cond.methodLink RJ2 241 yJ0_checkBoundsBeginEnd_23922]
def wsJ5_append_c97b9_r4 : List Cond := [Cond.static yJ0_checkBoundsBeginEnd_23922, Cond.initialized RJ0, Cond.code yJ0_checkBoundsBeginEnd_23922 cJ0_checkBoundsBeginEnd_23922 3 none, Cond.fieldLink RJ0 1053 "jdk/internal/util/Preconditions" "SIOOBE_FORMATTER" "Ljava/util/function/BiFunction;", Cond.methodLink RJ0 1062 yJ3_checkFromToIndex_8c36e, Cond.static yJ3_checkFromToIndex_8c36e, Cond.initialized RJ3, Cond.code yJ3_checkFromToIndex_8c36e cJ3_checkFromToIndex_8c36e 4 (some .int), Cond.methodLink RJ2 393 yJ2_getChars_ba4f3, Cond.static yJ2_getChars_ba4f3, Cond.code yJ2_getChars_ba4f3 cJ2_getChars_ba4f3 7 (some .int), Cond.fieldLink RJ2 403 "java/lang/Integer" "DigitOnes" "[B", Cond.fieldLink RJ2 407 "java/lang/Integer" "DigitTens" "[B", Cond.methodLink RJ2 111 yJ2_putChar_b72d1, Cond.static yJ2_putChar_b72d1, Cond.code yJ2_putChar_b72d1 cJ2_putChar_b72d1 3 none, Cond.fieldLink RJ2 59 "java/lang/StringUTF16" "HI_BYTE_SHIFT" "I", Cond.fieldLink RJ2 63 "java/lang/StringUTF16" "LO_BYTE_SHIFT" "I"]
def wsJ5_append_c97b9 : List Cond := .code yJ5_append_c97b9 cJ5_append_c97b9 4 (some (.object "java/lang/AbstractStringBuilder")) :: ((wsJ5_append_c97b9_r1 ++ (wsJ5_append_c97b9_r2 ++ (wsJ5_append_c97b9_r3 ++ wsJ5_append_c97b9_r4))) ++ wsJ40)
def wsJ5_charAt_5068e_r1 : List Cond := [Cond.fieldLink RJ5 22 "java/lang/AbstractStringBuilder" "coder" "B", Cond.fieldLink RJ5 15 "java/lang/AbstractStringBuilder" "value" "[B", Cond.fieldLink RJ5 79 "java/lang/AbstractStringBuilder" "count" "I", Cond.methodLink RJ5 138 Lib.Math.min.name, Cond.static Lib.Math.min.name, Cond.initialized "java/lang/Math", Cond.code Lib.Math.min.name Lib.Math.min.code 2 (some .int), Cond.methodLink RJ5 144 yJ0_checkIndex_df160, Cond.static yJ0_checkIndex_df160, Cond.initialized RJ0, Cond.code yJ0_checkIndex_df160 cJ0_checkIndex_df160 2 none, Cond.fieldLink RJ0 1053 "jdk/internal/util/Preconditions" "SIOOBE_FORMATTER" "Ljava/util/function/BiFunction;", Cond.methodLink RJ0 1059 yJ3_checkIndex_8e157, Cond.static yJ3_checkIndex_8e157, Cond.initialized RJ3, Cond.code yJ3_checkIndex_8e157 cJ3_checkIndex_8e157 3 (some .int), Cond.methodLink RJ5 148 yJ2_getChar_3b067, Cond.static yJ2_getChar_3b067, Cond.initialized RJ2, Cond.code yJ2_getChar_3b067 cJ2_getChar_3b067 2 (some .char), Cond.fieldLink RJ2 44 "java/lang/StringUTF16" "$assertionsDisabled" "Z", Cond.fieldLink RJ2 59 "java/lang/StringUTF16" "HI_BYTE_SHIFT" "I", Cond.fieldLink RJ2 63 "java/lang/StringUTF16" "LO_BYTE_SHIFT" "I", Cond.methodLink RJ2 48 yJ2_length_9d52b]
def wsJ5_charAt_5068e_r2 : List Cond := [Cond.static yJ2_length_9d52b, Cond.code yJ2_length_9d52b cJ2_length_9d52b 1 (some .int)]
def wsJ5_charAt_5068e : List Cond := .code yJ5_charAt_5068e cJ5_charAt_5068e 5 (some .char) :: ((wsJ5_charAt_5068e_r1 ++ wsJ5_charAt_5068e_r2) ++ wsJ40)
def wsJ5_ensureCapacityInternal_d00df_r1 : List Cond := [Cond.fieldLink RJ5 15 "java/lang/AbstractStringBuilder" "value" "[B", Cond.fieldLink RJ5 22 "java/lang/AbstractStringBuilder" "coder" "B", Cond.methodLink RJ5 104 ⟨"java/lang/AbstractStringBuilder", "newCapacity", "(I)I"⟩, Cond.sameMethod "java/lang/AbstractStringBuilder" "java/lang/AbstractStringBuilder" "newCapacity" "(I)I", Cond.selects RJ4 ⟨"java/lang/AbstractStringBuilder", "newCapacity", "(I)I"⟩ yJ5_newCapacity_0f7a4, Cond.instanceMethod yJ5_newCapacity_0f7a4, Cond.initialized RJ5, Cond.code yJ5_newCapacity_0f7a4 cJ5_newCapacity_0f7a4 6 (some .int), Cond.constant RJ5 39 (2147483647), Cond.methodLink RJ5 114 yJ8_newLength_cabcc, Cond.static yJ8_newLength_cabcc, Cond.initialized RJ8, Cond.code yJ8_newLength_cabcc cJ8_newLength_cabcc 4 (some .int), Cond.methodLink RJ8 194 Lib.Math.max.name, Cond.static Lib.Math.max.name, Cond.initialized "java/lang/Math", Cond.code Lib.Math.max.name Lib.Math.max.code 2 (some .int), Cond.constant RJ8 200 (2147483639), Cond.methodLink RJ8 201 yJ8_hugeLength_7cf53, Cond.static yJ8_hugeLength_7cf53, Cond.code yJ8_hugeLength_7cf53 cJ8_hugeLength_7cf53 3 (some .int), Cond.methodLink RJ5 108 yJ7_copyOf_9075b, Cond.static yJ7_copyOf_9075b, Cond.initialized RJ7]
def wsJ5_ensureCapacityInternal_d00df_r2 : List Cond := [Cond.code yJ7_copyOf_9075b cJ7_copyOf_9075b 3 (some (.array .byte)), Cond.methodLink RJ7 310 ⟨"[B", "clone", "()Ljava/lang/Object;"⟩, Cond.sameMethod "[B" "java/lang/Object" "clone" "()Ljava/lang/Object;", Cond.native ⟨"java/lang/Object", "clone", "()Ljava/lang/Object;"⟩, Cond.instanceMethod ⟨"java/lang/Object", "clone", "()Ljava/lang/Object;"⟩, Cond.selects "[B" ⟨"[B", "clone", "()Ljava/lang/Object;"⟩ ⟨"java/lang/Object", "clone", "()Ljava/lang/Object;"⟩, Cond.classLink RJ7 311 "[B", Cond.arrayClass .byte, Cond.methodLink RJ7 304 Lib.Math.min.name, Cond.static Lib.Math.min.name, Cond.code Lib.Math.min.name Lib.Math.min.code 2 (some .int), Cond.methodLink RJ7 150 arraycopyName, Cond.native arraycopyName, Cond.static arraycopyName, Cond.initialized "java/lang/System"]
def wsJ5_ensureCapacityInternal_d00df : List Cond := .code yJ5_ensureCapacityInternal_d00df cJ5_ensureCapacityInternal_d00df 3 none :: ((wsJ5_ensureCapacityInternal_d00df_r1 ++ wsJ5_ensureCapacityInternal_d00df_r2) ++ wsJ40)
def wsJ5_isLatin1_aae02 : List Cond := .code yJ5_isLatin1_aae02 cJ5_isLatin1_aae02 1 (some .boolean) :: ([.fieldLink RJ5 18 "java/lang/String" "COMPACT_STRINGS" "Z", .fieldLink RJ5 22 "java/lang/AbstractStringBuilder" "coder" "B"] ++ wsJ40)
def wsJ5_length_8abf5 : List Cond := .code yJ5_length_8abf5 cJ5_length_8abf5 1 (some .int) :: ([.fieldLink RJ5 79 "java/lang/AbstractStringBuilder" "count" "I"] ++ wsJ40)
def wsJ5_newCapacity_0f7a4 : List Cond := .code yJ5_newCapacity_0f7a4 cJ5_newCapacity_0f7a4 6 (some .int) :: ([.fieldLink RJ5 15 "java/lang/AbstractStringBuilder" "value" "[B", .fieldLink RJ5 22 "java/lang/AbstractStringBuilder" "coder" "B", .constant RJ5 39 (2147483647), .methodLink RJ5 114 yJ8_newLength_cabcc, .static yJ8_newLength_cabcc, .initialized RJ8, .code yJ8_newLength_cabcc cJ8_newLength_cabcc 4 (some .int), .methodLink RJ8 194 Lib.Math.max.name, .static Lib.Math.max.name, .initialized "java/lang/Math", .code Lib.Math.max.name Lib.Math.max.code 2 (some .int), .constant RJ8 200 (2147483639), .methodLink RJ8 201 yJ8_hugeLength_7cf53, .static yJ8_hugeLength_7cf53, .code yJ8_hugeLength_7cf53 cJ8_hugeLength_7cf53 3 (some .int)] ++ wsJ40)
def wsJ5_setLength_d00df_r1 : List Cond := [Cond.classLink RJ5 129 RJx7c733, Cond.instantiable RJx7c733 6, Cond.initialized RJx7c733, Cond.fieldLink RJ5 79 "java/lang/AbstractStringBuilder" "count" "I", Cond.fieldLink RJ5 15 "java/lang/AbstractStringBuilder" "value" "[B", Cond.fieldLink RJ5 73 "java/lang/AbstractStringBuilder" "maybeLatin1" "Z", Cond.methodLink RJ5 100 ⟨"java/lang/AbstractStringBuilder", "ensureCapacityInternal", "(I)V"⟩, Cond.sameMethod "java/lang/AbstractStringBuilder" "java/lang/AbstractStringBuilder" "ensureCapacityInternal" "(I)V", Cond.selects RJ4 ⟨"java/lang/AbstractStringBuilder", "ensureCapacityInternal", "(I)V"⟩ yJ5_ensureCapacityInternal_d00df, Cond.instanceMethod yJ5_ensureCapacityInternal_d00df, Cond.initialized RJ5, Cond.code yJ5_ensureCapacityInternal_d00df cJ5_ensureCapacityInternal_d00df 3 none, Cond.fieldLink RJ5 22 "java/lang/AbstractStringBuilder" "coder" "B", Cond.methodLink RJ5 104 ⟨"java/lang/AbstractStringBuilder", "newCapacity", "(I)I"⟩, Cond.sameMethod "java/lang/AbstractStringBuilder" "java/lang/AbstractStringBuilder" "newCapacity" "(I)I", Cond.selects RJ4 ⟨"java/lang/AbstractStringBuilder", "newCapacity", "(I)I"⟩ yJ5_newCapacity_0f7a4, Cond.instanceMethod yJ5_newCapacity_0f7a4, Cond.code yJ5_newCapacity_0f7a4 cJ5_newCapacity_0f7a4 6 (some .int), Cond.constant RJ5 39 (2147483647), Cond.methodLink RJ5 114 yJ8_newLength_cabcc, Cond.static yJ8_newLength_cabcc, Cond.initialized RJ8, Cond.code yJ8_newLength_cabcc cJ8_newLength_cabcc 4 (some .int), Cond.methodLink RJ8 194 Lib.Math.max.name]
def wsJ5_setLength_d00df_r2 : List Cond := [Cond.static Lib.Math.max.name, Cond.initialized "java/lang/Math", Cond.code Lib.Math.max.name Lib.Math.max.code 2 (some .int), Cond.constant RJ8 200 (2147483639), Cond.methodLink RJ8 201 yJ8_hugeLength_7cf53, Cond.static yJ8_hugeLength_7cf53, Cond.code yJ8_hugeLength_7cf53 cJ8_hugeLength_7cf53 3 (some .int), Cond.methodLink RJ5 108 yJ7_copyOf_9075b, Cond.static yJ7_copyOf_9075b, Cond.initialized RJ7, Cond.code yJ7_copyOf_9075b cJ7_copyOf_9075b 3 (some (.array .byte)), Cond.methodLink RJ7 310 ⟨"[B", "clone", "()Ljava/lang/Object;"⟩, Cond.sameMethod "[B" "java/lang/Object" "clone" "()Ljava/lang/Object;", Cond.native ⟨"java/lang/Object", "clone", "()Ljava/lang/Object;"⟩, Cond.instanceMethod ⟨"java/lang/Object", "clone", "()Ljava/lang/Object;"⟩, Cond.selects "[B" ⟨"[B", "clone", "()Ljava/lang/Object;"⟩ ⟨"java/lang/Object", "clone", "()Ljava/lang/Object;"⟩, Cond.classLink RJ7 311 "[B", Cond.arrayClass .byte, Cond.methodLink RJ7 304 Lib.Math.min.name, Cond.static Lib.Math.min.name, Cond.code Lib.Math.min.name Lib.Math.min.code 2 (some .int), Cond.methodLink RJ7 150 arraycopyName, Cond.native arraycopyName, Cond.static arraycopyName]
def wsJ5_setLength_d00df_r3 : List Cond := [Cond.initialized "java/lang/System", Cond.methodLink RJ5 83 ⟨"java/lang/AbstractStringBuilder", "isLatin1", "()Z"⟩, Cond.sameMethod "java/lang/AbstractStringBuilder" "java/lang/AbstractStringBuilder" "isLatin1" "()Z", Cond.selects RJ4 ⟨"java/lang/AbstractStringBuilder", "isLatin1", "()Z"⟩ yJ5_isLatin1_aae02, Cond.instanceMethod yJ5_isLatin1_aae02, Cond.code yJ5_isLatin1_aae02 cJ5_isLatin1_aae02 1 (some .boolean), Cond.fieldLink RJ5 18 "java/lang/String" "COMPACT_STRINGS" "Z", Cond.methodLink RJ5 133 yJ1_fillNull_b72d1, Cond.static yJ1_fillNull_b72d1, Cond.initialized RJ1, Cond.code yJ1_fillNull_b72d1 cJ1_fillNull_b72d1 3 none, Cond.methodLink RJ1 236 yJ7_fill_eb02e, Cond.static yJ7_fill_eb02e, Cond.code yJ7_fill_eb02e cJ7_fill_eb02e 5 none, Cond.methodLink RJ7 13 yJ7_rangeCheck_23922, Cond.static yJ7_rangeCheck_23922, Cond.code yJ7_rangeCheck_23922 cJ7_rangeCheck_23922 3 none, Cond.classLink RJ7 45 RJ4, Cond.instantiable RJ4 4, Cond.initialized RJ4, Cond.classLink RJ7 68 RJx00060, Cond.instantiable RJx00060 6, Cond.initialized RJx00060, Cond.methodLink RJ5 137 yJ2_fillNull_b72d1]
def wsJ5_setLength_d00df_r4 : List Cond := [Cond.static yJ2_fillNull_b72d1, Cond.initialized RJ2, Cond.code yJ2_fillNull_b72d1 cJ2_fillNull_b72d1 3 none, Cond.methodLink RJ2 380 yJ7_fill_eb02e]
def wsJ5_setLength_d00df : List Cond := .code yJ5_setLength_d00df cJ5_setLength_d00df 2 none :: ((wsJ5_setLength_d00df_r1 ++ (wsJ5_setLength_d00df_r2 ++ (wsJ5_setLength_d00df_r3 ++ wsJ5_setLength_d00df_r4))) ++ wsJx7c7330 ++ wsJ40 ++ wsJx000600)
def wsJ6_getChars_ba4f3 : List Cond := .code yJ6_getChars_ba4f3 cJ6_getChars_ba4f3 7 (some .int) :: ([.fieldLink RJ6 83 "java/lang/Integer" "DigitOnes" "[B", .fieldLink RJ6 87 "java/lang/Integer" "DigitTens" "[B"])
def wsJ6_stringSize_0f7a4 : List Cond := .code yJ6_stringSize_0f7a4 cJ6_stringSize_0f7a4 4 (some .int) :: ([])
def wsJ7_copyOf_9075b : List Cond := .code yJ7_copyOf_9075b cJ7_copyOf_9075b 3 (some (.array .byte)) :: ([.methodLink RJ7 310 ⟨"[B", "clone", "()Ljava/lang/Object;"⟩, .sameMethod "[B" "java/lang/Object" "clone" "()Ljava/lang/Object;", .native ⟨"java/lang/Object", "clone", "()Ljava/lang/Object;"⟩, .instanceMethod ⟨"java/lang/Object", "clone", "()Ljava/lang/Object;"⟩, .selects "[B" ⟨"[B", "clone", "()Ljava/lang/Object;"⟩ ⟨"java/lang/Object", "clone", "()Ljava/lang/Object;"⟩, .classLink RJ7 311 "[B", .arrayClass .byte, .methodLink RJ7 304 Lib.Math.min.name, .static Lib.Math.min.name, .initialized "java/lang/Math", .code Lib.Math.min.name Lib.Math.min.code 2 (some .int), .methodLink RJ7 150 arraycopyName, .native arraycopyName, .static arraycopyName, .initialized "java/lang/System"])
def wsJ8_newLength_cabcc : List Cond := .code yJ8_newLength_cabcc cJ8_newLength_cabcc 4 (some .int) :: ([.methodLink RJ8 194 Lib.Math.max.name, .static Lib.Math.max.name, .initialized "java/lang/Math", .code Lib.Math.max.name Lib.Math.max.code 2 (some .int), .constant RJ8 200 (2147483639), .methodLink RJ8 201 yJ8_hugeLength_7cf53, .static yJ8_hugeLength_7cf53, .initialized RJ8, .code yJ8_hugeLength_7cf53 cJ8_hugeLength_7cf53 3 (some .int)])
/-! the StringBuilder: its bytes at an address a, of length nb, g their content -/
theorem sS_ne (a b : Nat) {k : Nat} (h : k ≠ 64) : (zS a)[k]? = (zS b)[k]? := by
  have e : zS a = (zS b).set 64 (.inl (3, a)) := rfl
  rw [e, List.getElem?_set_ne (Ne.symm h)]
theorem sF_up (ad : Nat → Nat) (f : Nat → Int32) (q : Nat) : ∀ (fs : List (Option Nat)) (i : Nat), fs.all (fun o => o != some 64) = true → zF (va_up ad 64 q) f i fs = zF ad f i fs
  | [], i, h => rfl
  | none :: fs, i, h => by
    simp only [List.all_cons, Bool.and_eq_true] at h
    simp only [zF, sF_up ad f q fs (i + 1) h.2]
  | some r :: fs, i, h => by
    simp only [List.all_cons, Bool.and_eq_true] at h
    have h1 : r ≠ 64 := by
      intro e
      subst e
      exact absurd h.1 (by decide)
    simp only [zF, sF_up ad f q fs (i + 1) h.2, xad h1]
def sNo : Option zh → Bool
  | some (.inr (_, fs)) => fs.all (fun o => o != some 64)
  | _ => true
theorem sS_no : ∀ k, k < 76 → k ≠ 63 → sNo (zS 0)[k]? = true := by decide +kernel
theorem sE_up (G : zG) (ad : Nat → Nat) (σ : zs) (c : Nat → Int32) (q : Nat) {nb k : Nat} {x : zh} (hx : (zS nb)[k]? = some x) (h3 : k ≠ 63) (h4 : k ≠ 64) : zE G (va_up ad 64 q) (zR σ 64 c) k x = zE G ad σ k x := by
  rw [zE_ne G _ σ c h4]
  have hk : k < 76 := (List.getElem?_eq_some_iff.mp hx).1
  have h := sS_no k hk h3
  rw [sS_ne 0 nb h4, hx] at h
  rcases x with ⟨t, n⟩ | ⟨ci, fs⟩
  · rfl
  · simp only [zE]
    rw [sF_up ad (σ k) q fs 0 h]
theorem sL_get {G : zG} {ad : Nat → Nat} {σ : zs} {nb N' q : Nat} {c : Nat → Int32} : ∀ (k : Nat) (e : Nat × va_E), (zW G (zS N') (va_up ad 64 q) (zR σ 64 c))[k]? = some e →
    (((zW G (zS nb) ad σ) ++ ([(q, .inl (G.2 3, (N', .inl c)))] : va_W)).set 63 (ad 63, .inr (1, (zF ad (σ 63) 0 [some 64, none, none, none]).set 0 (.ref q))))[if k = 64 then 76 else k]? = some e := by
  intro k e h
  have hlen : (zW G (zS nb) ad σ).length = 76 := by simp [zW]; rfl
  rw [zW_get] at h
  by_cases h4 : k = 64
  · subst h4
    have e0 : some (va_up ad 64 q 64, zE G (va_up ad 64 q) (zR σ 64 c) 64 (.inl (3, N'))) = some e := h
    rw [if_pos rfl, List.getElem?_set_ne (by decide), List.getElem?_append_right (by rw [hlen]; exact Nat.le_refl 76), hlen]
    rw [← e0]
    simp [va_up, zE, zQ, zR]
  · rw [if_neg h4]
    rw [sS_ne N' nb h4] at h
    cases hx : (zS nb)[k]? with
    | none => rw [hx] at h; cases h
    | some x =>
      rw [hx] at h
      have hk : k < 76 := (List.getElem?_eq_some_iff.mp hx).1
      have e0 : some (va_up ad 64 q k, zE G (va_up ad 64 q) (zR σ 64 c) k x) = some e := h
      rw [← e0, xad h4]
      by_cases h3 : k = 63
      · subst h3
        have e1 : x = .inr (1, [some 64, none, none, none]) := (Option.some.inj hx).symm
        subst e1
        rw [List.getElem?_set_self (by rw [List.length_append, hlen]; exact Nat.lt_add_right _ (by decide))]
        simp [zE, zF, va_up, zR]
      · rw [List.getElem?_set_ne (Ne.symm h3), List.getElem?_append_left (by rw [hlen]; exact hk), zW_get, hx, sE_up G ad σ c q hx h3 h4]
        rfl
theorem sP_pick {G : zG} {ad : Nat → Nat} {σ : zs} {nb N' q : Nat} {c : Nat → Int32} {H : Heap} (h : va_P G.1 vwCl (((zW G (zS nb) ad σ) ++ ([(q, .inl (G.2 3, (N', .inl c)))] : va_W)).set 63 (ad 63, .inr (1, (zF ad (σ 63) 0 [some 64, none, none, none]).set 0 (.ref q)))) H) : va_P G.1 vwCl (zW G (zS N') (va_up ad 64 q) (zR σ 64 c)) H :=
  fun k e hk => h _ e (sL_get k e hk)
theorem sD_pick {G : zG} {ad : Nat → Nat} {σ : zs} {nb N' q : Nat} {c : Nat → Int32} {A : Nat → Prop} (h : va_D A (((zW G (zS nb) ad σ) ++ ([(q, .inl (G.2 3, (N', .inl c)))] : va_W)).set 63 (ad 63, .inr (1, (zF ad (σ 63) 0 [some 64, none, none, none]).set 0 (.ref q))))) : va_D A (zW G (zS N') (va_up ad 64 q) (zR σ 64 c)) := by
  refine ⟨fun i j p r hi hj hpr => ?_, fun k e hk => h.2 _ e (sL_get k e hk)⟩
  have hl : ∀ (k : Nat) (e : Nat × va_E), (zW G (zS N') (va_up ad 64 q) (zR σ 64 c))[k]? = some e → k < 76 := by
    intro k e hk
    have h3 := (List.getElem?_eq_some_iff.mp hk).1
    have h4 : (zW G (zS N') (va_up ad 64 q) (zR σ 64 c)).length = 76 := by simp [zW]; rfl
    omega
  have h1 := h.1 _ _ p r (sL_get i p hi) (sL_get j r hj) hpr
  have a1 := hl i p hi
  have a2 := hl j r hj
  by_cases e1 : i = 64 <;> by_cases e2 : j = 64 <;> simp [e1, e2] at h1 <;> omega
theorem sR_R (σ : zs) (g c : Nat → Int32) : zR (zR σ 64 g) 64 c = zR σ 64 c := by
  funext a
  by_cases h : a = 64 <;> simp [zR, h]
theorem sU_U (ad : Nat → Nat) (a q : Nat) : va_up (va_up ad 64 a) 64 q = va_up ad 64 q := by
  funext k
  by_cases h : k = 64 <;> simp [va_up, h]
theorem sR_b (σ : zs) (g : Nat → Int32) (j : Nat) (v : Int32) : zp (zR σ 64 g) 64 j v = zR σ 64 (upd g j v) := by
  funext a
  by_cases h : a = 64 <;> simp [zp, zR, h]
theorem sR_row (σ : zs) (f g : Nat → Int32) (v : Int32) : zR (zp (zR σ 64 f) 63 3 v) 64 g = zR (zp σ 63 3 v) 64 g := by
  funext a
  by_cases h : a = 64
  · simp [zR, h]
  · by_cases h3 : a = 63
    · subst h3
      simp [zp, zR]
    · simp [zp, zR, h, h3]
theorem sad (ad : Nat → Nat) (a : Nat) : va_up ad 64 a 64 = a := by simp [va_up]
section SB
variable {p : Program} {l : Launch} {e : Env} {R : Room} {s : State} {m : MethodId} {args : Array Value} {below : List Frame} {meth : Method} {c : Code} {H : Heap} {locs : List Loc} {cells slots : Nat} {Q : State → Prop}
variable {cc bytes : ByteArray} {pc : Nat} {ls : Array Slot} {rest st : List Value} {A : Nat → Prop} {G : zG} {S : List zh} {ad : Nat → Nat} {σ σ' τ : zs} {r xv : Int32} {nb a : Nat} {g : Nat → Int32}
theorem s_top {x y : Int32} (h : x = y) (k : W p l e R s m args below meth c H locs cells slots Q (F0 m pc ls (.int y :: rest))) : W p l e R s m args below meth c H locs cells slots Q (F0 m pc ls (.int x :: rest)) := by
  subst h; exact k
theorem z_bald (hx : p.tables.exec = Jvm.exec) (hb : c.code = cc) (B : zB A s G S ad σ H locs) (k : Nat) {n : Nat} {i : Int32} (hk : S[k]? = some (.inl (3, n))) (hin : vp_in i n) (hdg : decode cc pc = .ok (.baload, 1))
    (kk : W p l e R s m args below meth c H locs cells slots Q (F0 m (pc + 1) ls (.int (σ k i.toNatClampNeg) :: rest))) : W p l e R s m args below meth c H locs cells slots Q (F0 m pc ls (.int i :: .ref (ad k) :: rest)) :=
  va_bald hx hb B.2.1 B.2.2.1 k 3 (z_arr B hk (by decide)) rfl hin hdg kk
theorem z_blen (hx : p.tables.exec = Jvm.exec) (hb : c.code = cc) (B : zB A s G S ad σ H locs) (k : Nat) {n : Nat} (hk : S[k]? = some (.inl (3, n))) (hdg : decode cc pc = .ok (.arraylength, 1))
    (kk : W p l e R s m args below meth c H locs cells slots Q (F0 m (pc + 1) ls (.int (Int32.ofNat n) :: rest))) : W p l e R s m args below meth c H locs cells slots Q (F0 m pc ls (.ref (ad k) :: rest)) :=
  va_alen hx hb B.2.1 B.2.2.1 k 3 (z_arr B hk (by decide)) (ty := .byte) rfl rfl hdg kk
theorem z_bast (hx : p.tables.exec = Jvm.exec) (hb : c.code = cc) (B : zB A s G S ad σ H locs) (k : Nat) {n : Nat} {i x : Int32} (hk : S[k]? = some (.inl (3, n))) (hin : vp_in i n) (hdg : decode cc pc = .ok (.bastore, 1))
    (kk : ∀ (H1 : Heap) (locs1 : List Loc), zB A s G S ad (zp σ k i.toNatClampNeg (vp_nar .byte x)) H1 locs1 → W p l e R s m args below meth c H1 locs1 cells slots Q (F0 m (pc + 1) ls rest)) : W p l e R s m args below meth c H locs cells slots Q (F0 m pc ls (.int x :: .int i :: .ref (ad k) :: rest)) := by
  have he := z_setA G ad σ hk (by decide) (upd (σ k) i.toNatClampNeg (vp_nar .byte x))
  exact va_bast hx hb B.2.1 B.2.2.1 B.2.2.2.1 B.2.2.2.2.1 k 3 (z_arr B hk (by decide)) rfl hin hdg (fun H1 locs1 hP hD hS => kk H1 locs1 ⟨B.1, B.2.1, by rw [← show _ = zW G S ad (zp σ k i.toNatClampNeg (vp_nar .byte x)) from he]; exact hP, by rw [← show _ = zW G S ad (zp σ k i.toNatClampNeg (vp_nar .byte x)) from he]; exact hD, hS, B.2.2.2.2.2⟩)
theorem s_geti (hx : p.tables.exec = Jvm.exec) (hb : c.code = cc) {own ref : String} {index : Nat} {Ts : List Cond} (hts : ∀ w ∈ Ts, w.before args s = true) (hin : ∀ w ∈ wsJ40, w ∈ Ts) (hown : s.vm.findClass own = some m.cls) (B : zB A s G (zS nb) (va_up ad 64 a) (zR σ 64 g) H locs)
    (i : Nat) (hi : i < 4) (hf : ([some 64, none, none, none] : List (Option Nat))[i]? = some none) (hlink : (Cond.fieldLink own index ref (TJ4 i).2.1 (TJ4 i).2.2.1) ∈ Ts) (hr : ref = (TJ4 i).1) (hdg : decode cc pc = .ok (.getfield index, 3))
    (kk : W p l e R s m args below meth c H locs cells slots Q (F0 m (pc + 3) ls (.int (σ 63 i) :: rest))) : W p l e R s m args below meth c H locs cells slots Q (F0 m pc ls (.ref (ad 63) :: rest)) := by
  have h := z_geti (C := RJ4) (R := R) (below := below) (meth := meth) (cells := cells) (slots := slots) (Q := Q) (ls := ls) (rest := rest) (l := l) (e := e) hx hb hts hin hown B 63 i (ci := 1) (fs := [some 64, none, none, none]) rfl rfl hf hi hlink hr hdg (by rw [zR_ne σ g (by decide)]; exact kk)
  rw [xad (by decide)] at h
  exact h
theorem s_getb (hx : p.tables.exec = Jvm.exec) (hb : c.code = cc) {own ref : String} {index : Nat} {Ts : List Cond} (hts : ∀ w ∈ Ts, w.before args s = true) (hin : ∀ w ∈ wsJ40, w ∈ Ts) (hown : s.vm.findClass own = some m.cls) (B : zB A s G (zS nb) (va_up ad 64 a) (zR σ 64 g) H locs)
    (hlink : (Cond.fieldLink own index ref (TJ4 0).2.1 (TJ4 0).2.2.1) ∈ Ts) (hr : ref = (TJ4 0).1) (hdg : decode cc pc = .ok (.getfield index, 3))
    (kk : W p l e R s m args below meth c H locs cells slots Q (F0 m (pc + 3) ls (.ref a :: rest))) : W p l e R s m args below meth c H locs cells slots Q (F0 m pc ls (.ref (ad 63) :: rest)) := by
  have h := z_getr (C := RJ4) (R := R) (below := below) (meth := meth) (cells := cells) (slots := slots) (Q := Q) (ls := ls) (rest := rest) (l := l) (e := e) hx hb hts hin hown B 63 0 64 (ci := 1) (fs := [some 64, none, none, none]) rfl rfl rfl (by decide) hlink hr hdg (by rw [sad]; exact kk)
  rw [xad (by decide)] at h
  exact h
theorem s_puti (hx : p.tables.exec = Jvm.exec) (hb : c.code = cc) {own ref : String} {index : Nat} {Ts : List Cond} (hts : ∀ w ∈ Ts, w.before args s = true) (hin : ∀ w ∈ wsJ40, w ∈ Ts) (hown : s.vm.findClass own = some m.cls) (B : zB A s G (zS nb) (va_up ad 64 a) (zR σ 64 g) H locs)
    (i : Nat) {v : Int32} (hi : i < 4) (hf : ([some 64, none, none, none] : List (Option Nat))[i]? = some none) (hlink : (Cond.fieldLink own index ref (TJ4 i).2.1 (TJ4 i).2.2.1) ∈ Ts) (hr : ref = (TJ4 i).1) (hfin : (TJ4 i).2.2.2 = false) (hn : narrow (tyJ4 i) (.int v) = .int v) (hfit : fits (tyJ4 i) (.int v) = true) (hdg : decode cc pc = .ok (.putfield index, 3))
    (kk : ∀ (H1 : Heap) (locs1 : List Loc), zB A s G (zS nb) (va_up ad 64 a) (zR (zp σ 63 i v) 64 g) H1 locs1 → W p l e R s m args below meth c H1 locs1 cells slots Q (F0 m (pc + 3) ls rest)) : W p l e R s m args below meth c H locs cells slots Q (F0 m pc ls (.int v :: .ref (ad 63) :: rest)) := by
  have h := z_puti (C := RJ4) (R := R) (below := below) (meth := meth) (cells := cells) (slots := slots) (Q := Q) (ls := ls) (rest := rest) (l := l) (e := e) hx hb hts hin hown tyJ4 tyJ4_ok nmJ4 B 63 i (ci := 1) (fs := [some 64, none, none, none]) rfl rfl hf hi hlink hr hfin hn hfit hdg (fun H1 locs1 B => kk H1 locs1 (by rw [← xR_p σ g i v (by decide)]; exact B))
  rw [xad (by decide)] at h
  exact h
theorem s_blen (hx : p.tables.exec = Jvm.exec) (hb : c.code = cc) (B : zB A s G (zS nb) (va_up ad 64 a) (zR σ 64 g) H locs) (hdg : decode cc pc = .ok (.arraylength, 1))
    (kk : W p l e R s m args below meth c H locs cells slots Q (F0 m (pc + 1) ls (.int (nI nb) :: rest))) : W p l e R s m args below meth c H locs cells slots Q (F0 m pc ls (.ref a :: rest)) := by
  have h := z_blen (R := R) (below := below) (meth := meth) (cells := cells) (slots := slots) (Q := Q) (ls := ls) (rest := rest) (l := l) (e := e) (m := m) (args := args) hx hb B 64 (n := nb) rfl hdg kk
  rw [sad] at h
  exact h
theorem s_bald (hx : p.tables.exec = Jvm.exec) (hb : c.code = cc) {i : Int32} (B : zB A s G (zS nb) (va_up ad 64 a) (zR σ 64 g) H locs) (hin : vp_in i nb) (hdg : decode cc pc = .ok (.baload, 1))
    (kk : W p l e R s m args below meth c H locs cells slots Q (F0 m (pc + 1) ls (.int (g i.toNatClampNeg) :: rest))) : W p l e R s m args below meth c H locs cells slots Q (F0 m pc ls (.int i :: .ref a :: rest)) := by
  have h := z_bald (R := R) (below := below) (meth := meth) (cells := cells) (slots := slots) (Q := Q) (ls := ls) (rest := rest) (l := l) (e := e) (m := m) (args := args) hx hb B 64 (n := nb) rfl hin hdg (by rw [zR_self]; exact kk)
  rw [sad] at h
  exact h
theorem s_bast (hx : p.tables.exec = Jvm.exec) (hb : c.code = cc) {i x : Int32} (B : zB A s G (zS nb) (va_up ad 64 a) (zR σ 64 g) H locs) (hin : vp_in i nb) (hdg : decode cc pc = .ok (.bastore, 1))
    (kk : ∀ (H1 : Heap) (locs1 : List Loc), zB A s G (zS nb) (va_up ad 64 a) (zR σ 64 (upd g i.toNatClampNeg (vp_nar .byte x))) H1 locs1 → W p l e R s m args below meth c H1 locs1 cells slots Q (F0 m (pc + 1) ls rest)) : W p l e R s m args below meth c H locs cells slots Q (F0 m pc ls (.int x :: .int i :: .ref a :: rest)) := by
  have h := z_bast (R := R) (below := below) (meth := meth) (cells := cells) (slots := slots) (Q := Q) (ls := ls) (rest := rest) (l := l) (e := e) (m := m) (args := args) hx hb B 64 (n := nb) rfl hin hdg (fun H1 locs1 B => kk H1 locs1 (by rw [← sR_b]; exact B))
  rw [sad] at h
  exact h
theorem s_v {mc ms : Nat} {av : Array Value} {P : xV → Prop} (B : zB A s G (zS nb) (va_up ad 64 a) (zR σ 64 g) H locs) (hr : va_Run p l e R s m args below meth c H locs cells slots mc ms (F0 m pc ls st) rest (va_Qv P (xPost G ad σ' (xA ad a H.size)) (xA ad a H.size) av) (xA ad a H.size))
    (kk : ∀ (nb' a' : Nat) (g' : Nat → Int32) (H1 : Heap) (locs1 : List Loc), P (nb', a', g') → zB A s G (zS nb') (va_up ad 64 a') (zR σ' 64 g') H1 locs1 → W p l e R s m args below meth c H1 locs1 (cells + mc) (slots + ms) Q (F0 m (pc + 3) ls rest)) : W p l e R s m args below meth c H locs cells slots Q (F0 m pc ls st) := by
  refine va_callv hr B.2.2.2.2.1 (fun q _ h => zA_sub B q h) (zA_sub B) (fun u t H1 locs1 ht hvm hq hB hz hk hS => ?_)
  obtain ⟨hP, hD⟩ := hB
  rw [ht] at hP
  exact kk u.1 u.2.1 u.2.2 H1 locs1 hq (zB_new B hP hD (zA_sub B) hS)
theorem s_vret (hx : p.tables.exec = Jvm.exec) (hb : c.code = cc) (hr : meth.sig.returnType = none) (hlocks : meth.locks = false) {P : xV → Prop} (B : zB A s G (zS nb) (va_up ad 64 a) (zR σ 64 g) H locs) (hP : P (nb, a, g)) (hd : decode cc pc = .ok (.return_, 1)) :
    W p l e R s m args below meth c H locs cells slots (MQ below (va_Qv P (xPost G ad σ A) A) args s cells slots A) (F0 m pc ls []) := by
  refine W.vret hx hb hr (fun t ht _ => ⟨⟨(nb, a, g), rfl, hP, ?_, B.2.2.2.1⟩, B.2.2.2.2.1.F ht⟩) B.2.2.2.2.1.2.2 hd hlocks
  show va_P _ _ _ t.heap
  rw [ht]; exact B.2.2.1
end SB

theorem s_of {x : Int32} (h : 0 ≤ x) : x = nI x.toNatClampNeg := by
  obtain ⟨j, hj, rfl⟩ := nI_of (x := x) (fun q => absurd q (z_not_lt h))
  rw [nI_clamp hj]
def fz_J3_checkIndex_8e157 (nb : Nat) (σ : zs) (a0 a1 : Int32) : Option (Int32 × zs) := zg (decide (0 ≤ a0) && decide (a0 < a1)) (some (a0, σ))
abbrev rz_J3_checkIndex_8e157 : Room := rm_J3_checkIndex_8e157
set_option maxHeartbeats 4000000 in
set_option maxRecDepth 100000 in
theorem cz_J3_checkIndex_8e157_n (l : Launch) (nb : Nat) {G : zG} {ad : Nat → Nat} {σ σ' : zs} {a0 a1 : Int32} {r : Int32} (hf : fz_J3_checkIndex_8e157 nb σ a0 a1 = some (r, σ')) : zMi l yJ3_checkIndex_8e157 wsJ3_checkIndex_8e157 rz_J3_checkIndex_8e157 G (zS nb) ad σ [.int a0, .int a1, .null] r σ' := by
  intro sz
  refine Met.ofW (cc := cJ3_checkIndex_8e157) (maxL := 3) (ret := (some .int)) (by decide) rfl ?_
  intro p e s m args below meth c s₁ B hml hv
  obtain ⟨rfl, hsz, hv⟩ := hv
  have hx := B.exec
  have hb := B.bytes
  have hr := B.returns
  have hlocks := B.notSynchronized
  subst hsz
  have B := zB_start hv
  have hl := lv_entry ([.int a0, .int a1, .null]) (n := 3) (Nat.le_of_ble_eq_true rfl)
  rw [lg_entry_eq]
  generalize (lg_sl ([.int a0, .int a1, .null]) ++ List.replicate (3 - (lg_sl ([.int a0, .int a1, .null])).length) Slot.unset).toArray = ls at hl ⊢
  have hl : lv_has ls 3 [(0, .int a0), (1, .int a1), (2, .null)] := hl
  generalize hAe : zA ad (zS nb).length s.heap.size = A at B ⊢
  unfold fz_J3_checkIndex_8e157 at hf
  obtain ⟨hg, hf⟩ := zg_some hf
  simp only [Bool.and_eq_true, decide_eq_true_eq] at hg
  refine lv_iload_n hx hb dJ3_checkIndex_8e157_0 rfl (lv_at hl 0 rfl) ?_
  refine lv_if_lt (tgt := 9) hx hb dJ3_checkIndex_8e157_1 (by decide) (fun hc => absurd hc (z_not_lt hg.1)) (fun hc => ?_)
  refine lv_iload_n hx hb dJ3_checkIndex_8e157_4 rfl (lv_at hl 0 rfl) ?_
  refine lv_iload_n hx hb dJ3_checkIndex_8e157_5 rfl (lv_at hl 1 rfl) ?_
  refine lv_icmp_lt (tgt := 16) hx hb dJ3_checkIndex_8e157_6 (by decide) (fun hc => ?_) (fun hc => absurd hg.2 hc)
  refine lv_iload_n hx hb dJ3_checkIndex_8e157_16 rfl (lv_at hl 0 rfl) ?_
  exact z_iret hx hb hr rfl hlocks B hf dJ3_checkIndex_8e157_17
set_option maxHeartbeats 4000000 in
set_option maxRecDepth 100000 in
theorem cz_J3_checkIndex_8e157_r (l : Launch) (nb : Nat) {G : zG} {ad : Nat → Nat} {σ σ' : zs} {a0 a1 : Int32} {t9 : Nat} {r : Int32} (hf : fz_J3_checkIndex_8e157 nb σ a0 a1 = some (r, σ')) : zMi l yJ3_checkIndex_8e157 wsJ3_checkIndex_8e157 rz_J3_checkIndex_8e157 G (zS nb) ad σ [.int a0, .int a1, .ref t9] r σ' := by
  intro sz
  refine Met.ofW (cc := cJ3_checkIndex_8e157) (maxL := 3) (ret := (some .int)) (by decide) rfl ?_
  intro p e s m args below meth c s₁ B hml hv
  obtain ⟨rfl, hsz, hv⟩ := hv
  have hx := B.exec
  have hb := B.bytes
  have hr := B.returns
  have hlocks := B.notSynchronized
  subst hsz
  have B := zB_start hv
  have hl := lv_entry ([.int a0, .int a1, .ref t9]) (n := 3) (Nat.le_of_ble_eq_true rfl)
  rw [lg_entry_eq]
  generalize (lg_sl ([.int a0, .int a1, .ref t9]) ++ List.replicate (3 - (lg_sl ([.int a0, .int a1, .ref t9])).length) Slot.unset).toArray = ls at hl ⊢
  have hl : lv_has ls 3 [(0, .int a0), (1, .int a1), (2, .ref t9)] := hl
  generalize hAe : zA ad (zS nb).length s.heap.size = A at B ⊢
  unfold fz_J3_checkIndex_8e157 at hf
  obtain ⟨hg, hf⟩ := zg_some hf
  simp only [Bool.and_eq_true, decide_eq_true_eq] at hg
  refine lv_iload_n hx hb dJ3_checkIndex_8e157_0 rfl (lv_at hl 0 rfl) ?_
  refine lv_if_lt (tgt := 9) hx hb dJ3_checkIndex_8e157_1 (by decide) (fun hc => absurd hc (z_not_lt hg.1)) (fun hc => ?_)
  refine lv_iload_n hx hb dJ3_checkIndex_8e157_4 rfl (lv_at hl 0 rfl) ?_
  refine lv_iload_n hx hb dJ3_checkIndex_8e157_5 rfl (lv_at hl 1 rfl) ?_
  refine lv_icmp_lt (tgt := 16) hx hb dJ3_checkIndex_8e157_6 (by decide) (fun hc => ?_) (fun hc => absurd hg.2 hc)
  refine lv_iload_n hx hb dJ3_checkIndex_8e157_16 rfl (lv_at hl 0 rfl) ?_
  exact z_iret hx hb hr rfl hlocks B hf dJ3_checkIndex_8e157_17
def fz_J5_isLatin1_aae02 (nb : Nat) (σ : zs) : Option (Int32 × zs) := if (σ 63 1) = 0 then (some ((1 : Int32), σ)) else (some ((0 : Int32), σ))
def fz_J1_canEncode_fc78d (nb : Nat) (σ : zs) (a0 : Int32) : Option (Int32 × zs) := if (255 : Int32) < a0 then (some ((0 : Int32), σ)) else (some ((1 : Int32), σ))
def fz_J6_stringSize_0f7a4_16 (nb : Nat) (K16 : zs → Int32 → Int32 → Int32 → Int32 → Option (Int32 × zs)) (σ : zs) (v0 v1 v2 v3 : Int32) : Option (Int32 × zs) := if (10 : Int32) ≤ v3 then (some (((10 : Int32) + v1), σ)) else (if v0 ≤ v2 then (K16 σ v0 v1 ((10 : Int32) * v2) (v3 + (1 : Int32))) else (some ((v3 + v1), σ)))
def fz_J6_stringSize_0f7a4_11 (nb : Nat) (σ : zs) (v0 v1 : Int32) : Option (Int32 × zs) := zlp4 (fz_J6_stringSize_0f7a4_16 nb) 1000 σ v0 v1 (-10 : Int32) (1 : Int32)
def fz_J6_stringSize_0f7a4 (nb : Nat) (σ : zs) (a0 : Int32) : Option (Int32 × zs) := if a0 < 0 then (fz_J6_stringSize_0f7a4_11 nb σ a0 (1 : Int32)) else (fz_J6_stringSize_0f7a4_11 nb σ (-a0) (0 : Int32))
def fz_J6_getChars_ba4f3_64_104 (nb : Nat) (σ : zs) (v5 v6 : Int32) : Option (Int32 × zs) := if v6 = 0 then (some (v5, σ)) else (zg (zin (v5 + (-1 : Int32)) nb) (some ((v5 + (-1 : Int32)), (zp σ 64 (v5 + (-1 : Int32)).toNatClampNeg (vp_nar .byte (45 : Int32))))))
def fz_J6_getChars_ba4f3_64_22 (nb : Nat) (K22 : zs → Int32 → Int32 → Int32 → Option (Int32 × zs)) (σ : zs) (v0 v5 v6 : Int32) : Option (Int32 × zs) := if (-100 : Int32) < v0 then (zg (zin (-v0) 100) (zg (zin (v5 + (-1 : Int32)) nb) (if (-9 : Int32) ≤ v0 then (fz_J6_getChars_ba4f3_64_104 nb (zp σ 64 (v5 + (-1 : Int32)).toNatClampNeg (vp_nar .byte (nI (48 + (-v0).toNatClampNeg % 10)))) (v5 + (-1 : Int32)) v6) else (zg (zin (-v0) 100) (zg (zin ((v5 + (-1 : Int32)) + (-1 : Int32)) nb) (fz_J6_getChars_ba4f3_64_104 nb (zp (zp σ 64 (v5 + (-1 : Int32)).toNatClampNeg (vp_nar .byte (nI (48 + (-v0).toNatClampNeg % 10)))) 64 ((v5 + (-1 : Int32)) + (-1 : Int32)).toNatClampNeg (vp_nar .byte (nI (48 + (-v0).toNatClampNeg / 10)))) ((v5 + (-1 : Int32)) + (-1 : Int32)) v6)))))) else (zg (zin (((v0 / (100 : Int32)) * (100 : Int32)) - v0) 100) (zg (zin (v5 + (-1 : Int32)) nb) (zg (zin (((v0 / (100 : Int32)) * (100 : Int32)) - v0) 100) (zg (zin ((v5 + (-1 : Int32)) + (-1 : Int32)) nb) (K22 (zp (zp σ 64 (v5 + (-1 : Int32)).toNatClampNeg (vp_nar .byte (nI (48 + (((v0 / (100 : Int32)) * (100 : Int32)) - v0).toNatClampNeg % 10)))) 64 ((v5 + (-1 : Int32)) + (-1 : Int32)).toNatClampNeg (vp_nar .byte (nI (48 + (((v0 / (100 : Int32)) * (100 : Int32)) - v0).toNatClampNeg / 10)))) (v0 / (100 : Int32)) ((v5 + (-1 : Int32)) + (-1 : Int32)) v6)))))
def fz_J6_getChars_ba4f3_64_12 (nb : Nat) (σ : zs) (v0 v5 s0 : Int32) : Option (Int32 × zs) := if s0 = 0 then (zlp3 (fz_J6_getChars_ba4f3_64_22 nb) 1000 σ (-v0) v5 s0) else (zlp3 (fz_J6_getChars_ba4f3_64_22 nb) 1000 σ v0 v5 s0)
def fz_J6_getChars_ba4f3_64 (nb : Nat) (σ : zs) (a0 a1 : Int32) : Option (Int32 × zs) := if 0 ≤ a0 then (fz_J6_getChars_ba4f3_64_12 nb σ a0 a1 (0 : Int32)) else (fz_J6_getChars_ba4f3_64_12 nb σ a0 a1 (1 : Int32))
def fz_J8_newLength_cabcc_21 (nb : Nat) (σ : zs) (v0 v1 : Int32) : Option (Int32 × zs) := none
def fz_J8_newLength_cabcc (nb : Nat) (σ : zs) (a0 a1 a2 : Int32) : Option (Int32 × zs) := if (a0 + (if a1 < a2 then a2 else a1)) ≤ (0 : Int32) then (fz_J8_newLength_cabcc_21 nb σ a0 a1) else (if (2147483639 : Int32) < (a0 + (if a1 < a2 then a2 else a1)) then (fz_J8_newLength_cabcc_21 nb σ a0 a1) else (some ((a0 + (if a1 < a2 then a2 else a1)), σ)))
def fz_J5_newCapacity_0f7a4 (nb : Nat) (σ : zs) (a1 : Int32) : Option (Int32 × zs) := zb (fz_J8_newLength_cabcc nb σ (Int32.ofNat nb) ((a1 <<< ((σ 63 1) &&& 31)) - (Int32.ofNat nb)) ((Int32.ofNat nb) + ((2 : Int32) <<< ((σ 63 1) &&& 31)))) (fun r2 σ3 => if r2 = (2147483647 : Int32) then (none) else (some ((r2 >>> ((σ3 63 1) &&& 31)), σ3)))
def fz_J0_checkIndex_df160 (nb : Nat) (σ : zs) (a0 a1 : Int32) : Option (Int32 × zs) := zb (fz_J3_checkIndex_8e157 nb σ a0 a1) (fun r2 σ3 => some (0, σ3))
theorem dJ5_isLatin1_aae02_0 : decode cJ5_isLatin1_aae02 0 = .ok (.getstatic 18, 3) := by decide +kernel
theorem dJ5_isLatin1_aae02_3 : decode cJ5_isLatin1_aae02 3 = .ok (.ifCond .eq 14, 3) := by decide +kernel
theorem dJ5_isLatin1_aae02_6 : decode cJ5_isLatin1_aae02 6 = .ok (.aload_n 0, 1) := by decide +kernel
theorem dJ5_isLatin1_aae02_7 : decode cJ5_isLatin1_aae02 7 = .ok (.getfield 22, 3) := by decide +kernel
theorem dJ5_isLatin1_aae02_10 : decode cJ5_isLatin1_aae02 10 = .ok (.ifCond .ne 7, 3) := by decide +kernel
theorem dJ5_isLatin1_aae02_13 : decode cJ5_isLatin1_aae02 13 = .ok (.iconst 1, 1) := by decide +kernel
theorem dJ5_isLatin1_aae02_14 : decode cJ5_isLatin1_aae02 14 = .ok (.goto 4, 3) := by decide +kernel
theorem dJ5_isLatin1_aae02_17 : decode cJ5_isLatin1_aae02 17 = .ok (.iconst 0, 1) := by decide +kernel
theorem dJ5_isLatin1_aae02_18 : decode cJ5_isLatin1_aae02 18 = .ok (.ireturn, 1) := by decide +kernel
def rz_J5_isLatin1_aae02 : Room := { frames := 1, cells := 0, slots := 0, locals := 16 }
set_option maxHeartbeats 4000000 in
set_option maxRecDepth 100000 in
theorem cz_J5_isLatin1_aae02 (l : Launch) (nb : Nat) {G : zG} {ad : Nat → Nat} {σ σ' : zs} {r : Int32} (hf : fz_J5_isLatin1_aae02 nb σ  = some (r, σ')) : zMi l yJ5_isLatin1_aae02 wsJ5_isLatin1_aae02 rz_J5_isLatin1_aae02 G (zS nb) ad σ [.ref (ad 63)] r σ' := by
  intro sz
  refine Met.ofW (cc := cJ5_isLatin1_aae02) (maxL := 1) (ret := (some .boolean)) (by decide) rfl ?_
  intro p e s m args below meth c s₁ B hml hv
  obtain ⟨rfl, hsz, hv⟩ := hv
  have hx := B.exec
  have hb := B.bytes
  have hr := B.returns
  have hts := atoms_spec (ws := wsJ5_isLatin1_aae02) B.pre
  have hown : s.vm.findClass RJ5 = some m.cls := findClass_of_methodNamed B.named
  have hlocks := B.notSynchronized
  subst hsz
  have B := zB_start hv
  have hinRJ4 : ∀ w ∈ wsJ40, w ∈ wsJ5_isLatin1_aae02 := by decide +kernel
  have hl := lv_entry ([.ref (ad 63)]) (n := 1) (Nat.le_of_ble_eq_true rfl)
  rw [lg_entry_eq]
  generalize (lg_sl ([.ref (ad 63)]) ++ List.replicate (1 - (lg_sl ([.ref (ad 63)])).length) Slot.unset).toArray = ls at hl ⊢
  have hl : lv_has ls 1 [(0, .ref (ad 63))] := hl
  generalize hAe : zA ad (zS nb).length s.heap.size = A at B ⊢
  unfold fz_J5_isLatin1_aae02 at hf
  refine z_comp hx hb hts hown B (index := 18) (by decide +kernel) rfl dJ5_isLatin1_aae02_0 ?_
  refine lv_if_eq (tgt := 17) hx hb dJ5_isLatin1_aae02_3 (by decide) (fun hc => absurd hc (by decide)) (fun hc => ?_)
  refine lv_aload_n hx hb dJ5_isLatin1_aae02_6 rfl (lv_at hl 0 rfl) ?_
  refine z_geti hx hb hts hinRJ4 hown B 63 1 rfl rfl rfl (by decide) (by decide +kernel) rfl dJ5_isLatin1_aae02_7 ?_
  refine lv_if_ne (tgt := 17) hx hb dJ5_isLatin1_aae02_10 (by decide) (fun hc => ?_) (fun hc => ?_)
  · have hf := zif_f hc hf
    refine lv_iconst (v := (0 : Int32)) hx hb dJ5_isLatin1_aae02_17 (by decide) ?_
    refine W.widen (k := 0) (n := 0) (Nat.le_of_ble_eq_true rfl) (Nat.le_of_ble_eq_true rfl) ?_
    exact z_iret hx hb hr (by decide) hlocks B hf dJ5_isLatin1_aae02_18
  · have hf := zif_t hc hf
    refine lv_iconst (v := (1 : Int32)) hx hb dJ5_isLatin1_aae02_13 (by decide) ?_
    refine lv_goto (tgt := 18) hx hb dJ5_isLatin1_aae02_14 (by decide) ?_
    refine W.widen (k := 0) (n := 0) (Nat.le_of_ble_eq_true rfl) (Nat.le_of_ble_eq_true rfl) ?_
    exact z_iret hx hb hr (by decide) hlocks B hf dJ5_isLatin1_aae02_18
theorem dJ1_canEncode_fc78d_0 : decode cJ1_canEncode_fc78d 0 = .ok (.iload_n 0, 1) := by decide +kernel
theorem dJ1_canEncode_fc78d_1 : decode cJ1_canEncode_fc78d 1 = .ok (.sipush 255, 3) := by decide +kernel
theorem dJ1_canEncode_fc78d_4 : decode cJ1_canEncode_fc78d 4 = .ok (.if_icmp .gt 7, 3) := by decide +kernel
theorem dJ1_canEncode_fc78d_7 : decode cJ1_canEncode_fc78d 7 = .ok (.iconst 1, 1) := by decide +kernel
theorem dJ1_canEncode_fc78d_8 : decode cJ1_canEncode_fc78d 8 = .ok (.goto 4, 3) := by decide +kernel
theorem dJ1_canEncode_fc78d_11 : decode cJ1_canEncode_fc78d 11 = .ok (.iconst 0, 1) := by decide +kernel
theorem dJ1_canEncode_fc78d_12 : decode cJ1_canEncode_fc78d 12 = .ok (.ireturn, 1) := by decide +kernel
def rz_J1_canEncode_fc78d : Room := { frames := 1, cells := 0, slots := 0, locals := 16 }
set_option maxHeartbeats 4000000 in
set_option maxRecDepth 100000 in
theorem cz_J1_canEncode_fc78d (l : Launch) (nb : Nat) {G : zG} {ad : Nat → Nat} {σ σ' : zs} {a0 : Int32} {r : Int32} (hf : fz_J1_canEncode_fc78d nb σ a0 = some (r, σ')) : zMi l yJ1_canEncode_fc78d wsJ1_canEncode_fc78d rz_J1_canEncode_fc78d G (zS nb) ad σ [.int a0] r σ' := by
  intro sz
  refine Met.ofW (cc := cJ1_canEncode_fc78d) (maxL := 1) (ret := (some .boolean)) (by decide) rfl ?_
  intro p e s m args below meth c s₁ B hml hv
  obtain ⟨rfl, hsz, hv⟩ := hv
  have hx := B.exec
  have hb := B.bytes
  have hr := B.returns
  have hts := atoms_spec (ws := wsJ1_canEncode_fc78d) B.pre
  have hown : s.vm.findClass RJ1 = some m.cls := findClass_of_methodNamed B.named
  have hlocks := B.notSynchronized
  subst hsz
  have B := zB_start hv
  have hl := lv_entry ([.int a0]) (n := 1) (Nat.le_of_ble_eq_true rfl)
  rw [lg_entry_eq]
  generalize (lg_sl ([.int a0]) ++ List.replicate (1 - (lg_sl ([.int a0])).length) Slot.unset).toArray = ls at hl ⊢
  have hl : lv_has ls 1 [(0, .int a0)] := hl
  generalize hAe : zA ad (zS nb).length s.heap.size = A at B ⊢
  unfold fz_J1_canEncode_fc78d at hf
  refine lv_iload_n hx hb dJ1_canEncode_fc78d_0 rfl (lv_at hl 0 rfl) ?_
  refine lv_sipush (v := (255 : Int32)) hx hb dJ1_canEncode_fc78d_1 (by decide) ?_
  refine lv_icmp_gt (tgt := 11) hx hb dJ1_canEncode_fc78d_4 (by decide) (fun hc => ?_) (fun hc => ?_)
  · have hf := zif_t hc hf
    refine lv_iconst (v := (0 : Int32)) hx hb dJ1_canEncode_fc78d_11 (by decide) ?_
    refine W.widen (k := 0) (n := 0) (Nat.le_of_ble_eq_true rfl) (Nat.le_of_ble_eq_true rfl) ?_
    exact z_iret hx hb hr (by decide) hlocks B hf dJ1_canEncode_fc78d_12
  · have hf := zif_f hc hf
    refine lv_iconst (v := (1 : Int32)) hx hb dJ1_canEncode_fc78d_7 (by decide) ?_
    refine lv_goto (tgt := 12) hx hb dJ1_canEncode_fc78d_8 (by decide) ?_
    refine W.widen (k := 0) (n := 0) (Nat.le_of_ble_eq_true rfl) (Nat.le_of_ble_eq_true rfl) ?_
    exact z_iret hx hb hr (by decide) hlocks B hf dJ1_canEncode_fc78d_12
theorem dJ6_stringSize_0f7a4_0 : decode cJ6_stringSize_0f7a4 0 = .ok (.iconst 1, 1) := by decide +kernel
theorem dJ6_stringSize_0f7a4_1 : decode cJ6_stringSize_0f7a4 1 = .ok (.istore_n 1, 1) := by decide +kernel
theorem dJ6_stringSize_0f7a4_2 : decode cJ6_stringSize_0f7a4 2 = .ok (.iload_n 0, 1) := by decide +kernel
theorem dJ6_stringSize_0f7a4_3 : decode cJ6_stringSize_0f7a4 3 = .ok (.ifCond .lt 8, 3) := by decide +kernel
theorem dJ6_stringSize_0f7a4_6 : decode cJ6_stringSize_0f7a4 6 = .ok (.iconst 0, 1) := by decide +kernel
theorem dJ6_stringSize_0f7a4_7 : decode cJ6_stringSize_0f7a4 7 = .ok (.istore_n 1, 1) := by decide +kernel
theorem dJ6_stringSize_0f7a4_8 : decode cJ6_stringSize_0f7a4 8 = .ok (.iload_n 0, 1) := by decide +kernel
theorem dJ6_stringSize_0f7a4_9 : decode cJ6_stringSize_0f7a4 9 = .ok (.ineg, 1) := by decide +kernel
theorem dJ6_stringSize_0f7a4_10 : decode cJ6_stringSize_0f7a4 10 = .ok (.istore_n 0, 1) := by decide +kernel
theorem dJ6_stringSize_0f7a4_11 : decode cJ6_stringSize_0f7a4 11 = .ok (.bipush (-10), 2) := by decide +kernel
theorem dJ6_stringSize_0f7a4_13 : decode cJ6_stringSize_0f7a4 13 = .ok (.istore_n 2, 1) := by decide +kernel
theorem dJ6_stringSize_0f7a4_14 : decode cJ6_stringSize_0f7a4 14 = .ok (.iconst 1, 1) := by decide +kernel
theorem dJ6_stringSize_0f7a4_15 : decode cJ6_stringSize_0f7a4 15 = .ok (.istore_n 3, 1) := by decide +kernel
theorem dJ6_stringSize_0f7a4_16 : decode cJ6_stringSize_0f7a4 16 = .ok (.iload_n 3, 1) := by decide +kernel
theorem dJ6_stringSize_0f7a4_17 : decode cJ6_stringSize_0f7a4 17 = .ok (.bipush 10, 2) := by decide +kernel
theorem dJ6_stringSize_0f7a4_19 : decode cJ6_stringSize_0f7a4 19 = .ok (.if_icmp .ge 23, 3) := by decide +kernel
theorem dJ6_stringSize_0f7a4_22 : decode cJ6_stringSize_0f7a4 22 = .ok (.iload_n 0, 1) := by decide +kernel
theorem dJ6_stringSize_0f7a4_23 : decode cJ6_stringSize_0f7a4 23 = .ok (.iload_n 2, 1) := by decide +kernel
theorem dJ6_stringSize_0f7a4_24 : decode cJ6_stringSize_0f7a4 24 = .ok (.if_icmp .le 7, 3) := by decide +kernel
theorem dJ6_stringSize_0f7a4_27 : decode cJ6_stringSize_0f7a4 27 = .ok (.iload_n 3, 1) := by decide +kernel
theorem dJ6_stringSize_0f7a4_28 : decode cJ6_stringSize_0f7a4 28 = .ok (.iload_n 1, 1) := by decide +kernel
theorem dJ6_stringSize_0f7a4_29 : decode cJ6_stringSize_0f7a4 29 = .ok (.iadd, 1) := by decide +kernel
theorem dJ6_stringSize_0f7a4_30 : decode cJ6_stringSize_0f7a4 30 = .ok (.ireturn, 1) := by decide +kernel
theorem dJ6_stringSize_0f7a4_31 : decode cJ6_stringSize_0f7a4 31 = .ok (.bipush 10, 2) := by decide +kernel
theorem dJ6_stringSize_0f7a4_33 : decode cJ6_stringSize_0f7a4 33 = .ok (.iload_n 2, 1) := by decide +kernel
theorem dJ6_stringSize_0f7a4_34 : decode cJ6_stringSize_0f7a4 34 = .ok (.imul, 1) := by decide +kernel
theorem dJ6_stringSize_0f7a4_35 : decode cJ6_stringSize_0f7a4 35 = .ok (.istore_n 2, 1) := by decide +kernel
theorem dJ6_stringSize_0f7a4_36 : decode cJ6_stringSize_0f7a4 36 = .ok (.iinc 3 1, 3) := by decide +kernel
theorem dJ6_stringSize_0f7a4_39 : decode cJ6_stringSize_0f7a4 39 = .ok (.goto (-23), 3) := by decide +kernel
theorem dJ6_stringSize_0f7a4_42 : decode cJ6_stringSize_0f7a4 42 = .ok (.bipush 10, 2) := by decide +kernel
theorem dJ6_stringSize_0f7a4_44 : decode cJ6_stringSize_0f7a4 44 = .ok (.iload_n 1, 1) := by decide +kernel
theorem dJ6_stringSize_0f7a4_45 : decode cJ6_stringSize_0f7a4 45 = .ok (.iadd, 1) := by decide +kernel
theorem dJ6_stringSize_0f7a4_46 : decode cJ6_stringSize_0f7a4 46 = .ok (.ireturn, 1) := by decide +kernel
def rz_J6_stringSize_0f7a4 : Room := { frames := 1, cells := 0, slots := 0, locals := 16 }
set_option maxHeartbeats 4000000 in
set_option maxRecDepth 100000 in
theorem cz_J6_stringSize_0f7a4 (l : Launch) (nb : Nat) {G : zG} {ad : Nat → Nat} {σ σ' : zs} {a0 : Int32} {r : Int32} (hf : fz_J6_stringSize_0f7a4 nb σ a0 = some (r, σ')) : zMi l yJ6_stringSize_0f7a4 wsJ6_stringSize_0f7a4 rz_J6_stringSize_0f7a4 G (zS nb) ad σ [.int a0] r σ' := by
  intro sz
  refine Met.ofW (cc := cJ6_stringSize_0f7a4) (maxL := 4) (ret := (some .int)) (by decide) rfl ?_
  intro p e s m args below meth c s₁ B hml hv
  obtain ⟨rfl, hsz, hv⟩ := hv
  have hx := B.exec
  have hb := B.bytes
  have hr := B.returns
  have hts := atoms_spec (ws := wsJ6_stringSize_0f7a4) B.pre
  have hown : s.vm.findClass RJ6 = some m.cls := findClass_of_methodNamed B.named
  have hlocks := B.notSynchronized
  subst hsz
  have B := zB_start hv
  have hl := lv_entry ([.int a0]) (n := 4) (Nat.le_of_ble_eq_true rfl)
  rw [lg_entry_eq]
  generalize (lg_sl ([.int a0]) ++ List.replicate (4 - (lg_sl ([.int a0])).length) Slot.unset).toArray = ls at hl ⊢
  have hl : lv_has ls 4 [(0, .int a0)] := hl
  generalize hAe : zA ad (zS nb).length s.heap.size = A at B ⊢
  have L16 : ∀ (n : Nat) (σ : zs) (v0 : Int32) (v1 : Int32) (v2 : Int32) (v3 : Int32) (H : Heap) (locs : List Loc) (ls : Array Slot), zlp4 (fz_J6_stringSize_0f7a4_16 nb) n σ v0 v1 v2 v3 = some (r, σ') → zB A s G (zS nb) ad σ H locs → lv_has ls 4 [(0, .int v0), (1, .int v1), (2, .int v2), (3, .int v3)] → W p l e (headSpec wsJ6_stringSize_0f7a4 rz_J6_stringSize_0f7a4).room s m ([.int a0] : List Value).toArray below meth c H locs 0 0 (MQ below (va_Qi (fun r' (_ : Unit) => r' = r) (zPost G (zS nb) ad σ') A) ([.int a0] : List Value).toArray s 0 0 A) (F0 m 16 ls []) := by
    intro n
    induction n with
    | zero =>
      intro σ v0 v1 v2 v3 H locs ls hf
      cases hf
    | succ n ih =>
      intro σ v0 v1 v2 v3 H locs ls hf B hl
      have hf : fz_J6_stringSize_0f7a4_16 nb (zlp4 (fz_J6_stringSize_0f7a4_16 nb) n) σ v0 v1 v2 v3 = some (r, σ') := hf
      unfold fz_J6_stringSize_0f7a4_16 at hf
      refine lv_iload_n hx hb dJ6_stringSize_0f7a4_16 rfl (lv_at hl 3 rfl) ?_
      refine lv_bipush (v := (10 : Int32)) hx hb dJ6_stringSize_0f7a4_17 (by decide) ?_
      refine lv_icmp_ge (tgt := 42) hx hb dJ6_stringSize_0f7a4_19 (by decide) (fun hc => ?_) (fun hc => ?_)
      · have hf := zif_t hc hf
        refine lv_bipush (v := (10 : Int32)) hx hb dJ6_stringSize_0f7a4_42 (by decide) ?_
        refine lv_iload_n hx hb dJ6_stringSize_0f7a4_44 rfl (lv_at hl 1 rfl) ?_
        refine lv_iadd hx hb dJ6_stringSize_0f7a4_45 ?_
        refine W.widen (k := 0) (n := 0) (Nat.le_of_ble_eq_true rfl) (Nat.le_of_ble_eq_true rfl) ?_
        exact z_iret hx hb hr rfl hlocks B hf dJ6_stringSize_0f7a4_46
      · have hf := zif_f hc hf
        refine lv_iload_n hx hb dJ6_stringSize_0f7a4_22 rfl (lv_at hl 0 rfl) ?_
        refine lv_iload_n hx hb dJ6_stringSize_0f7a4_23 rfl (lv_at hl 2 rfl) ?_
        refine lv_icmp_le (tgt := 31) hx hb dJ6_stringSize_0f7a4_24 (by decide) (fun hc => ?_) (fun hc => ?_)
        · have hf := zif_t hc hf
          refine lv_bipush (v := (10 : Int32)) hx hb dJ6_stringSize_0f7a4_31 (by decide) ?_
          refine lv_iload_n hx hb dJ6_stringSize_0f7a4_33 rfl (lv_at hl 2 rfl) ?_
          refine lv_imul hx hb dJ6_stringSize_0f7a4_34 ?_
          refine lv_istore_n (lv' := [(2, .int ((10 : Int32) * v2)), (0, .int v0), (1, .int v1), (3, .int v3)]) hx hb dJ6_stringSize_0f7a4_35 rfl hl (by decide) rfl (fun ls hl => ?_)
          refine lv_iinc (v := (v3 + (1 : Int32))) (lv' := [(3, .int (v3 + (1 : Int32))), (2, .int ((10 : Int32) * v2)), (0, .int v0), (1, .int v1)]) hx hb dJ6_stringSize_0f7a4_36 hl (k := 3) rfl (zc1 (by decide)) (by decide) rfl (fun ls hl => ?_)
          refine lv_goto (tgt := 16) hx hb dJ6_stringSize_0f7a4_39 (by decide) ?_
          exact ih _ _ _ _ _ _ _ _ hf B (lv_sub hl [2, 3, 1, 0] rfl)
        · have hf := zif_f hc hf
          refine lv_iload_n hx hb dJ6_stringSize_0f7a4_27 rfl (lv_at hl 3 rfl) ?_
          refine lv_iload_n hx hb dJ6_stringSize_0f7a4_28 rfl (lv_at hl 1 rfl) ?_
          refine lv_iadd hx hb dJ6_stringSize_0f7a4_29 ?_
          refine W.widen (k := 0) (n := 0) (Nat.le_of_ble_eq_true rfl) (Nat.le_of_ble_eq_true rfl) ?_
          exact z_iret hx hb hr rfl hlocks B hf dJ6_stringSize_0f7a4_30
  have L11 : ∀ (σ : zs) (v0 : Int32) (v1 : Int32) (H : Heap) (locs : List Loc) (ls : Array Slot), fz_J6_stringSize_0f7a4_11 nb σ v0 v1 = some (r, σ') → zB A s G (zS nb) ad σ H locs → lv_has ls 4 [(0, .int v0), (1, .int v1)] → W p l e (headSpec wsJ6_stringSize_0f7a4 rz_J6_stringSize_0f7a4).room s m ([.int a0] : List Value).toArray below meth c H locs 0 0 (MQ below (va_Qi (fun r' (_ : Unit) => r' = r) (zPost G (zS nb) ad σ') A) ([.int a0] : List Value).toArray s 0 0 A) (F0 m 11 ls []) := by
    intro σ v0 v1 H locs ls hf B hl
    unfold fz_J6_stringSize_0f7a4_11 at hf
    refine lv_bipush (v := (-10 : Int32)) hx hb dJ6_stringSize_0f7a4_11 (by decide) ?_
    refine lv_istore_n (lv' := [(2, .int (-10 : Int32)), (0, .int v0), (1, .int v1)]) hx hb dJ6_stringSize_0f7a4_13 rfl hl (by decide) rfl (fun ls hl => ?_)
    refine lv_iconst (v := (1 : Int32)) hx hb dJ6_stringSize_0f7a4_14 (by decide) ?_
    refine lv_istore_n (lv' := [(3, .int (1 : Int32)), (2, .int (-10 : Int32)), (0, .int v0), (1, .int v1)]) hx hb dJ6_stringSize_0f7a4_15 rfl hl (by decide) rfl (fun ls hl => ?_)
    exact L16  _ _ _ _ _ _ _ _ _ hf B (lv_sub hl [2, 3, 1, 0] rfl)
  unfold fz_J6_stringSize_0f7a4 at hf
  refine lv_iconst (v := (1 : Int32)) hx hb dJ6_stringSize_0f7a4_0 (by decide) ?_
  refine lv_istore_n (lv' := [(1, .int (1 : Int32)), (0, .int a0)]) hx hb dJ6_stringSize_0f7a4_1 rfl hl (by decide) rfl (fun ls hl => ?_)
  refine lv_iload_n hx hb dJ6_stringSize_0f7a4_2 rfl (lv_at hl 1 rfl) ?_
  refine lv_if_lt (tgt := 11) hx hb dJ6_stringSize_0f7a4_3 (by decide) (fun hc => ?_) (fun hc => ?_)
  · have hf := zif_t hc hf
    exact L11  _ _ _ _ _ _ hf B (lv_sub hl [1, 0] rfl)
  · have hf := zif_f hc hf
    refine lv_iconst (v := (0 : Int32)) hx hb dJ6_stringSize_0f7a4_6 (by decide) ?_
    refine lv_istore_n (lv' := [(1, .int (0 : Int32)), (0, .int a0)]) hx hb dJ6_stringSize_0f7a4_7 rfl hl (by decide) rfl (fun ls hl => ?_)
    refine lv_iload_n hx hb dJ6_stringSize_0f7a4_8 rfl (lv_at hl 1 rfl) ?_
    refine lv_ineg hx hb dJ6_stringSize_0f7a4_9 ?_
    refine lv_istore_n (lv' := [(0, .int (-a0)), (1, .int (0 : Int32))]) hx hb dJ6_stringSize_0f7a4_10 rfl hl (by decide) rfl (fun ls hl => ?_)
    exact L11  _ _ _ _ _ _ hf B (lv_sub hl [0, 1] rfl)
theorem dJ6_getChars_ba4f3_0 : decode cJ6_getChars_ba4f3 0 = .ok (.iload_n 1, 1) := by decide +kernel
theorem dJ6_getChars_ba4f3_1 : decode cJ6_getChars_ba4f3 1 = .ok (.istore 5, 2) := by decide +kernel
theorem dJ6_getChars_ba4f3_3 : decode cJ6_getChars_ba4f3 3 = .ok (.iload_n 0, 1) := by decide +kernel
theorem dJ6_getChars_ba4f3_4 : decode cJ6_getChars_ba4f3 4 = .ok (.ifCond .ge 7, 3) := by decide +kernel
theorem dJ6_getChars_ba4f3_7 : decode cJ6_getChars_ba4f3 7 = .ok (.iconst 1, 1) := by decide +kernel
theorem dJ6_getChars_ba4f3_8 : decode cJ6_getChars_ba4f3 8 = .ok (.goto 4, 3) := by decide +kernel
theorem dJ6_getChars_ba4f3_11 : decode cJ6_getChars_ba4f3 11 = .ok (.iconst 0, 1) := by decide +kernel
theorem dJ6_getChars_ba4f3_12 : decode cJ6_getChars_ba4f3 12 = .ok (.istore 6, 2) := by decide +kernel
theorem dJ6_getChars_ba4f3_14 : decode cJ6_getChars_ba4f3 14 = .ok (.iload 6, 2) := by decide +kernel
theorem dJ6_getChars_ba4f3_16 : decode cJ6_getChars_ba4f3 16 = .ok (.ifCond .ne 6, 3) := by decide +kernel
theorem dJ6_getChars_ba4f3_19 : decode cJ6_getChars_ba4f3 19 = .ok (.iload_n 0, 1) := by decide +kernel
theorem dJ6_getChars_ba4f3_20 : decode cJ6_getChars_ba4f3 20 = .ok (.ineg, 1) := by decide +kernel
theorem dJ6_getChars_ba4f3_21 : decode cJ6_getChars_ba4f3 21 = .ok (.istore_n 0, 1) := by decide +kernel
theorem dJ6_getChars_ba4f3_22 : decode cJ6_getChars_ba4f3 22 = .ok (.iload_n 0, 1) := by decide +kernel
theorem dJ6_getChars_ba4f3_23 : decode cJ6_getChars_ba4f3 23 = .ok (.bipush (-100), 2) := by decide +kernel
theorem dJ6_getChars_ba4f3_25 : decode cJ6_getChars_ba4f3 25 = .ok (.if_icmp .gt 47, 3) := by decide +kernel
theorem dJ6_getChars_ba4f3_28 : decode cJ6_getChars_ba4f3 28 = .ok (.iload_n 0, 1) := by decide +kernel
theorem dJ6_getChars_ba4f3_29 : decode cJ6_getChars_ba4f3 29 = .ok (.bipush 100, 2) := by decide +kernel
theorem dJ6_getChars_ba4f3_31 : decode cJ6_getChars_ba4f3 31 = .ok (.idiv, 1) := by decide +kernel
theorem dJ6_getChars_ba4f3_32 : decode cJ6_getChars_ba4f3 32 = .ok (.istore_n 3, 1) := by decide +kernel
theorem dJ6_getChars_ba4f3_33 : decode cJ6_getChars_ba4f3 33 = .ok (.iload_n 3, 1) := by decide +kernel
theorem dJ6_getChars_ba4f3_34 : decode cJ6_getChars_ba4f3 34 = .ok (.bipush 100, 2) := by decide +kernel
theorem dJ6_getChars_ba4f3_36 : decode cJ6_getChars_ba4f3 36 = .ok (.imul, 1) := by decide +kernel
theorem dJ6_getChars_ba4f3_37 : decode cJ6_getChars_ba4f3 37 = .ok (.iload_n 0, 1) := by decide +kernel
theorem dJ6_getChars_ba4f3_38 : decode cJ6_getChars_ba4f3 38 = .ok (.isub, 1) := by decide +kernel
theorem dJ6_getChars_ba4f3_39 : decode cJ6_getChars_ba4f3 39 = .ok (.istore 4, 2) := by decide +kernel
theorem dJ6_getChars_ba4f3_41 : decode cJ6_getChars_ba4f3 41 = .ok (.iload_n 3, 1) := by decide +kernel
theorem dJ6_getChars_ba4f3_42 : decode cJ6_getChars_ba4f3 42 = .ok (.istore_n 0, 1) := by decide +kernel
theorem dJ6_getChars_ba4f3_43 : decode cJ6_getChars_ba4f3 43 = .ok (.aload_n 2, 1) := by decide +kernel
theorem dJ6_getChars_ba4f3_44 : decode cJ6_getChars_ba4f3 44 = .ok (.iinc 5 (-1), 3) := by decide +kernel
theorem dJ6_getChars_ba4f3_47 : decode cJ6_getChars_ba4f3 47 = .ok (.iload 5, 2) := by decide +kernel
theorem dJ6_getChars_ba4f3_49 : decode cJ6_getChars_ba4f3 49 = .ok (.getstatic 83, 3) := by decide +kernel
theorem dJ6_getChars_ba4f3_52 : decode cJ6_getChars_ba4f3 52 = .ok (.iload 4, 2) := by decide +kernel
theorem dJ6_getChars_ba4f3_54 : decode cJ6_getChars_ba4f3 54 = .ok (.baload, 1) := by decide +kernel
theorem dJ6_getChars_ba4f3_55 : decode cJ6_getChars_ba4f3 55 = .ok (.bastore, 1) := by decide +kernel
theorem dJ6_getChars_ba4f3_56 : decode cJ6_getChars_ba4f3 56 = .ok (.aload_n 2, 1) := by decide +kernel
theorem dJ6_getChars_ba4f3_57 : decode cJ6_getChars_ba4f3 57 = .ok (.iinc 5 (-1), 3) := by decide +kernel
theorem dJ6_getChars_ba4f3_60 : decode cJ6_getChars_ba4f3 60 = .ok (.iload 5, 2) := by decide +kernel
theorem dJ6_getChars_ba4f3_62 : decode cJ6_getChars_ba4f3 62 = .ok (.getstatic 87, 3) := by decide +kernel
theorem dJ6_getChars_ba4f3_65 : decode cJ6_getChars_ba4f3 65 = .ok (.iload 4, 2) := by decide +kernel
theorem dJ6_getChars_ba4f3_67 : decode cJ6_getChars_ba4f3 67 = .ok (.baload, 1) := by decide +kernel
theorem dJ6_getChars_ba4f3_68 : decode cJ6_getChars_ba4f3 68 = .ok (.bastore, 1) := by decide +kernel
theorem dJ6_getChars_ba4f3_69 : decode cJ6_getChars_ba4f3 69 = .ok (.goto (-47), 3) := by decide +kernel
theorem dJ6_getChars_ba4f3_72 : decode cJ6_getChars_ba4f3 72 = .ok (.aload_n 2, 1) := by decide +kernel
theorem dJ6_getChars_ba4f3_73 : decode cJ6_getChars_ba4f3 73 = .ok (.iinc 5 (-1), 3) := by decide +kernel
theorem dJ6_getChars_ba4f3_76 : decode cJ6_getChars_ba4f3 76 = .ok (.iload 5, 2) := by decide +kernel
theorem dJ6_getChars_ba4f3_78 : decode cJ6_getChars_ba4f3 78 = .ok (.getstatic 83, 3) := by decide +kernel
theorem dJ6_getChars_ba4f3_81 : decode cJ6_getChars_ba4f3 81 = .ok (.iload_n 0, 1) := by decide +kernel
theorem dJ6_getChars_ba4f3_82 : decode cJ6_getChars_ba4f3 82 = .ok (.ineg, 1) := by decide +kernel
theorem dJ6_getChars_ba4f3_83 : decode cJ6_getChars_ba4f3 83 = .ok (.baload, 1) := by decide +kernel
theorem dJ6_getChars_ba4f3_84 : decode cJ6_getChars_ba4f3 84 = .ok (.bastore, 1) := by decide +kernel
theorem dJ6_getChars_ba4f3_85 : decode cJ6_getChars_ba4f3 85 = .ok (.iload_n 0, 1) := by decide +kernel
theorem dJ6_getChars_ba4f3_86 : decode cJ6_getChars_ba4f3 86 = .ok (.bipush (-9), 2) := by decide +kernel
theorem dJ6_getChars_ba4f3_88 : decode cJ6_getChars_ba4f3 88 = .ok (.if_icmp .ge 16, 3) := by decide +kernel
theorem dJ6_getChars_ba4f3_91 : decode cJ6_getChars_ba4f3 91 = .ok (.aload_n 2, 1) := by decide +kernel
theorem dJ6_getChars_ba4f3_92 : decode cJ6_getChars_ba4f3 92 = .ok (.iinc 5 (-1), 3) := by decide +kernel
theorem dJ6_getChars_ba4f3_95 : decode cJ6_getChars_ba4f3 95 = .ok (.iload 5, 2) := by decide +kernel
theorem dJ6_getChars_ba4f3_97 : decode cJ6_getChars_ba4f3 97 = .ok (.getstatic 87, 3) := by decide +kernel
theorem dJ6_getChars_ba4f3_100 : decode cJ6_getChars_ba4f3 100 = .ok (.iload_n 0, 1) := by decide +kernel
theorem dJ6_getChars_ba4f3_101 : decode cJ6_getChars_ba4f3 101 = .ok (.ineg, 1) := by decide +kernel
theorem dJ6_getChars_ba4f3_102 : decode cJ6_getChars_ba4f3 102 = .ok (.baload, 1) := by decide +kernel
theorem dJ6_getChars_ba4f3_103 : decode cJ6_getChars_ba4f3 103 = .ok (.bastore, 1) := by decide +kernel
theorem dJ6_getChars_ba4f3_104 : decode cJ6_getChars_ba4f3 104 = .ok (.iload 6, 2) := by decide +kernel
theorem dJ6_getChars_ba4f3_106 : decode cJ6_getChars_ba4f3 106 = .ok (.ifCond .eq 12, 3) := by decide +kernel
theorem dJ6_getChars_ba4f3_109 : decode cJ6_getChars_ba4f3 109 = .ok (.aload_n 2, 1) := by decide +kernel
theorem dJ6_getChars_ba4f3_110 : decode cJ6_getChars_ba4f3 110 = .ok (.iinc 5 (-1), 3) := by decide +kernel
theorem dJ6_getChars_ba4f3_113 : decode cJ6_getChars_ba4f3 113 = .ok (.iload 5, 2) := by decide +kernel
theorem dJ6_getChars_ba4f3_115 : decode cJ6_getChars_ba4f3 115 = .ok (.bipush 45, 2) := by decide +kernel
theorem dJ6_getChars_ba4f3_117 : decode cJ6_getChars_ba4f3 117 = .ok (.bastore, 1) := by decide +kernel
theorem dJ6_getChars_ba4f3_118 : decode cJ6_getChars_ba4f3 118 = .ok (.iload 5, 2) := by decide +kernel
theorem dJ6_getChars_ba4f3_120 : decode cJ6_getChars_ba4f3 120 = .ok (.ireturn, 1) := by decide +kernel
def rz_J6_getChars_ba4f3_64 : Room := { frames := 1, cells := 0, slots := 0, locals := 16 }
set_option maxHeartbeats 4000000 in
set_option maxRecDepth 100000 in
theorem cz_J6_getChars_ba4f3_64 (l : Launch) (nb : Nat) {G : zG} {ad : Nat → Nat} {σ σ' : zs} {a0 a1 : Int32} {r : Int32} (hf : fz_J6_getChars_ba4f3_64 nb σ a0 a1 = some (r, σ')) : zMi l yJ6_getChars_ba4f3 wsJ6_getChars_ba4f3 rz_J6_getChars_ba4f3_64 G (zS nb) ad σ [.int a0, .int a1, .ref (ad 64)] r σ' := by
  intro sz
  refine Met.ofW (cc := cJ6_getChars_ba4f3) (maxL := 7) (ret := (some .int)) (by decide) rfl ?_
  intro p e s m args below meth c s₁ B hml hv
  obtain ⟨rfl, hsz, hv⟩ := hv
  have hx := B.exec
  have hb := B.bytes
  have hr := B.returns
  have hts := atoms_spec (ws := wsJ6_getChars_ba4f3) B.pre
  have hown : s.vm.findClass RJ6 = some m.cls := findClass_of_methodNamed B.named
  have hlocks := B.notSynchronized
  subst hsz
  have B := zB_start hv
  have hl := lv_entry ([.int a0, .int a1, .ref (ad 64)]) (n := 7) (Nat.le_of_ble_eq_true rfl)
  rw [lg_entry_eq]
  generalize (lg_sl ([.int a0, .int a1, .ref (ad 64)]) ++ List.replicate (7 - (lg_sl ([.int a0, .int a1, .ref (ad 64)])).length) Slot.unset).toArray = ls at hl ⊢
  have hl : lv_has ls 7 [(0, .int a0), (1, .int a1), (2, .ref (ad 64))] := hl
  generalize hAe : zA ad (zS nb).length s.heap.size = A at B ⊢
  have L104 : ∀ (σ : zs) (v5 : Int32) (v6 : Int32) (H : Heap) (locs : List Loc) (ls : Array Slot), fz_J6_getChars_ba4f3_64_104 nb σ v5 v6 = some (r, σ') → zB A s G (zS nb) ad σ H locs → lv_has ls 7 [(2, .ref (ad 64)), (5, .int v5), (6, .int v6)] → W p l e (headSpec wsJ6_getChars_ba4f3 rz_J6_getChars_ba4f3_64).room s m ([.int a0, .int a1, .ref (ad 64)] : List Value).toArray below meth c H locs 0 0 (MQ below (va_Qi (fun r' (_ : Unit) => r' = r) (zPost G (zS nb) ad σ') A) ([.int a0, .int a1, .ref (ad 64)] : List Value).toArray s 0 0 A) (F0 m 104 ls []) := by
    intro σ v5 v6 H locs ls hf B hl
    unfold fz_J6_getChars_ba4f3_64_104 at hf
    refine lv_iload hx hb dJ6_getChars_ba4f3_104 (lv_at hl 2 rfl) ?_
    refine lv_if_eq (tgt := 118) hx hb dJ6_getChars_ba4f3_106 (by decide) (fun hc => ?_) (fun hc => ?_)
    · have hf := zif_t hc hf
      refine lv_iload hx hb dJ6_getChars_ba4f3_118 (lv_at hl 1 rfl) ?_
      refine W.widen (k := 0) (n := 0) (Nat.le_of_ble_eq_true rfl) (Nat.le_of_ble_eq_true rfl) ?_
      exact z_iret hx hb hr rfl hlocks B hf dJ6_getChars_ba4f3_120
    · have hf := zif_f hc hf
      refine lv_aload_n hx hb dJ6_getChars_ba4f3_109 rfl (lv_at hl 0 rfl) ?_
      refine lv_iinc (v := (v5 + (-1 : Int32))) (lv' := [(5, .int (v5 + (-1 : Int32))), (2, .ref (ad 64)), (6, .int v6)]) hx hb dJ6_getChars_ba4f3_110 hl (k := 1) rfl (zc1 (by decide)) (by decide) rfl (fun ls hl => ?_)
      refine lv_iload hx hb dJ6_getChars_ba4f3_113 (lv_at hl 0 rfl) ?_
      refine lv_bipush (v := (45 : Int32)) hx hb dJ6_getChars_ba4f3_115 (by decide) ?_
      obtain ⟨hg, hf⟩ := zg_some hf
      refine z_bast hx hb B 64 rfl (zin_ok hg) dJ6_getChars_ba4f3_117 (fun H locs B => ?_)
      refine lv_iload hx hb dJ6_getChars_ba4f3_118 (lv_at hl 0 rfl) ?_
      refine W.widen (k := 0) (n := 0) (Nat.le_of_ble_eq_true rfl) (Nat.le_of_ble_eq_true rfl) ?_
      exact z_iret hx hb hr rfl hlocks B hf dJ6_getChars_ba4f3_120
  have L22 : ∀ (n : Nat) (σ : zs) (v0 : Int32) (v5 : Int32) (v6 : Int32) (H : Heap) (locs : List Loc) (ls : Array Slot), zlp3 (fz_J6_getChars_ba4f3_64_22 nb) n σ v0 v5 v6 = some (r, σ') → zB A s G (zS nb) ad σ H locs → lv_has ls 7 [(0, .int v0), (2, .ref (ad 64)), (5, .int v5), (6, .int v6)] → W p l e (headSpec wsJ6_getChars_ba4f3 rz_J6_getChars_ba4f3_64).room s m ([.int a0, .int a1, .ref (ad 64)] : List Value).toArray below meth c H locs 0 0 (MQ below (va_Qi (fun r' (_ : Unit) => r' = r) (zPost G (zS nb) ad σ') A) ([.int a0, .int a1, .ref (ad 64)] : List Value).toArray s 0 0 A) (F0 m 22 ls []) := by
    intro n
    induction n with
    | zero =>
      intro σ v0 v5 v6 H locs ls hf
      cases hf
    | succ n ih =>
      intro σ v0 v5 v6 H locs ls hf B hl
      have hf : fz_J6_getChars_ba4f3_64_22 nb (zlp3 (fz_J6_getChars_ba4f3_64_22 nb) n) σ v0 v5 v6 = some (r, σ') := hf
      unfold fz_J6_getChars_ba4f3_64_22 at hf
      refine lv_iload_n hx hb dJ6_getChars_ba4f3_22 rfl (lv_at hl 0 rfl) ?_
      refine lv_bipush (v := (-100 : Int32)) hx hb dJ6_getChars_ba4f3_23 (by decide) ?_
      refine lv_icmp_gt (tgt := 72) hx hb dJ6_getChars_ba4f3_25 (by decide) (fun hc => ?_) (fun hc => ?_)
      · have hf := zif_t hc hf
        refine lv_aload_n hx hb dJ6_getChars_ba4f3_72 rfl (lv_at hl 1 rfl) ?_
        refine lv_iinc (v := (v5 + (-1 : Int32))) (lv' := [(5, .int (v5 + (-1 : Int32))), (0, .int v0), (2, .ref (ad 64)), (6, .int v6)]) hx hb dJ6_getChars_ba4f3_73 hl (k := 2) rfl (zc1 (by decide)) (by decide) rfl (fun ls hl => ?_)
        refine lv_iload hx hb dJ6_getChars_ba4f3_76 (lv_at hl 0 rfl) ?_
        refine z_ones hx hb hts hown B (index := 83) (by decide +kernel) rfl dJ6_getChars_ba4f3_78 ?_
        refine lv_iload_n hx hb dJ6_getChars_ba4f3_81 rfl (lv_at hl 1 rfl) ?_
        refine lv_ineg hx hb dJ6_getChars_ba4f3_82 ?_
        obtain ⟨hg, hf⟩ := zg_some hf
        refine z_onesb hx hb B (zin_ok hg) dJ6_getChars_ba4f3_83 ?_
        obtain ⟨hg, hf⟩ := zg_some hf
        refine z_bast hx hb B 64 rfl (zin_ok hg) dJ6_getChars_ba4f3_84 (fun H locs B => ?_)
        refine lv_iload_n hx hb dJ6_getChars_ba4f3_85 rfl (lv_at hl 1 rfl) ?_
        refine lv_bipush (v := (-9 : Int32)) hx hb dJ6_getChars_ba4f3_86 (by decide) ?_
        refine lv_icmp_ge (tgt := 104) hx hb dJ6_getChars_ba4f3_88 (by decide) (fun hc => ?_) (fun hc => ?_)
        · have hf := zif_t hc hf
          exact L104  _ _ _ _ _ _ hf B (lv_sub hl [2, 0, 3] rfl)
        · have hf := zif_f hc hf
          refine lv_aload_n hx hb dJ6_getChars_ba4f3_91 rfl (lv_at hl 2 rfl) ?_
          refine lv_iinc (v := ((v5 + (-1 : Int32)) + (-1 : Int32))) (lv' := [(5, .int ((v5 + (-1 : Int32)) + (-1 : Int32))), (0, .int v0), (2, .ref (ad 64)), (6, .int v6)]) hx hb dJ6_getChars_ba4f3_92 hl (k := 0) rfl (zc1 (by decide)) (by decide) rfl (fun ls hl => ?_)
          refine lv_iload hx hb dJ6_getChars_ba4f3_95 (lv_at hl 0 rfl) ?_
          refine z_tens hx hb hts hown B (index := 87) (by decide +kernel) rfl dJ6_getChars_ba4f3_97 ?_
          refine lv_iload_n hx hb dJ6_getChars_ba4f3_100 rfl (lv_at hl 1 rfl) ?_
          refine lv_ineg hx hb dJ6_getChars_ba4f3_101 ?_
          obtain ⟨hg, hf⟩ := zg_some hf
          refine z_tensb hx hb B (zin_ok hg) dJ6_getChars_ba4f3_102 ?_
          obtain ⟨hg, hf⟩ := zg_some hf
          refine z_bast hx hb B 64 rfl (zin_ok hg) dJ6_getChars_ba4f3_103 (fun H locs B => ?_)
          exact L104  _ _ _ _ _ _ hf B (lv_sub hl [2, 0, 3] rfl)
      · have hf := zif_f hc hf
        refine lv_iload_n hx hb dJ6_getChars_ba4f3_28 rfl (lv_at hl 0 rfl) ?_
        refine lv_bipush (v := (100 : Int32)) hx hb dJ6_getChars_ba4f3_29 (by decide) ?_
        refine lv_idiv hx hb dJ6_getChars_ba4f3_31 (by decide) ?_
        refine lv_istore_n (lv' := [(3, .int (v0 / (100 : Int32))), (0, .int v0), (2, .ref (ad 64)), (5, .int v5), (6, .int v6)]) hx hb dJ6_getChars_ba4f3_32 rfl hl (by decide) rfl (fun ls hl => ?_)
        refine lv_iload_n hx hb dJ6_getChars_ba4f3_33 rfl (lv_at hl 0 rfl) ?_
        refine lv_bipush (v := (100 : Int32)) hx hb dJ6_getChars_ba4f3_34 (by decide) ?_
        refine lv_imul hx hb dJ6_getChars_ba4f3_36 ?_
        refine lv_iload_n hx hb dJ6_getChars_ba4f3_37 rfl (lv_at hl 1 rfl) ?_
        refine lv_isub hx hb dJ6_getChars_ba4f3_38 ?_
        refine lv_istore (lv' := [(4, .int (((v0 / (100 : Int32)) * (100 : Int32)) - v0)), (3, .int (v0 / (100 : Int32))), (0, .int v0), (2, .ref (ad 64)), (5, .int v5), (6, .int v6)]) hx hb dJ6_getChars_ba4f3_39 hl (by decide) rfl (fun ls hl => ?_)
        refine lv_iload_n hx hb dJ6_getChars_ba4f3_41 rfl (lv_at hl 1 rfl) ?_
        refine lv_istore_n (lv' := [(0, .int (v0 / (100 : Int32))), (4, .int (((v0 / (100 : Int32)) * (100 : Int32)) - v0)), (3, .int (v0 / (100 : Int32))), (2, .ref (ad 64)), (5, .int v5), (6, .int v6)]) hx hb dJ6_getChars_ba4f3_42 rfl hl (by decide) rfl (fun ls hl => ?_)
        refine lv_aload_n hx hb dJ6_getChars_ba4f3_43 rfl (lv_at hl 3 rfl) ?_
        refine lv_iinc (v := (v5 + (-1 : Int32))) (lv' := [(5, .int (v5 + (-1 : Int32))), (0, .int (v0 / (100 : Int32))), (4, .int (((v0 / (100 : Int32)) * (100 : Int32)) - v0)), (3, .int (v0 / (100 : Int32))), (2, .ref (ad 64)), (6, .int v6)]) hx hb dJ6_getChars_ba4f3_44 hl (k := 4) rfl (zc1 (by decide)) (by decide) rfl (fun ls hl => ?_)
        refine lv_iload hx hb dJ6_getChars_ba4f3_47 (lv_at hl 0 rfl) ?_
        refine z_ones hx hb hts hown B (index := 83) (by decide +kernel) rfl dJ6_getChars_ba4f3_49 ?_
        refine lv_iload hx hb dJ6_getChars_ba4f3_52 (lv_at hl 2 rfl) ?_
        obtain ⟨hg, hf⟩ := zg_some hf
        refine z_onesb hx hb B (zin_ok hg) dJ6_getChars_ba4f3_54 ?_
        obtain ⟨hg, hf⟩ := zg_some hf
        refine z_bast hx hb B 64 rfl (zin_ok hg) dJ6_getChars_ba4f3_55 (fun H locs B => ?_)
        refine lv_aload_n hx hb dJ6_getChars_ba4f3_56 rfl (lv_at hl 4 rfl) ?_
        refine lv_iinc (v := ((v5 + (-1 : Int32)) + (-1 : Int32))) (lv' := [(5, .int ((v5 + (-1 : Int32)) + (-1 : Int32))), (0, .int (v0 / (100 : Int32))), (4, .int (((v0 / (100 : Int32)) * (100 : Int32)) - v0)), (3, .int (v0 / (100 : Int32))), (2, .ref (ad 64)), (6, .int v6)]) hx hb dJ6_getChars_ba4f3_57 hl (k := 0) rfl (zc1 (by decide)) (by decide) rfl (fun ls hl => ?_)
        refine lv_iload hx hb dJ6_getChars_ba4f3_60 (lv_at hl 0 rfl) ?_
        refine z_tens hx hb hts hown B (index := 87) (by decide +kernel) rfl dJ6_getChars_ba4f3_62 ?_
        refine lv_iload hx hb dJ6_getChars_ba4f3_65 (lv_at hl 2 rfl) ?_
        obtain ⟨hg, hf⟩ := zg_some hf
        refine z_tensb hx hb B (zin_ok hg) dJ6_getChars_ba4f3_67 ?_
        obtain ⟨hg, hf⟩ := zg_some hf
        refine z_bast hx hb B 64 rfl (zin_ok hg) dJ6_getChars_ba4f3_68 (fun H locs B => ?_)
        refine lv_goto (tgt := 22) hx hb dJ6_getChars_ba4f3_69 (by decide) ?_
        exact ih _ _ _ _ _ _ _ hf B (lv_sub hl [1, 4, 0, 5] rfl)
  have L12 : ∀ (σ : zs) (v0 : Int32) (v5 : Int32) (s0 : Int32) (H : Heap) (locs : List Loc) (ls : Array Slot), fz_J6_getChars_ba4f3_64_12 nb σ v0 v5 s0 = some (r, σ') → zB A s G (zS nb) ad σ H locs → lv_has ls 7 [(0, .int v0), (2, .ref (ad 64)), (5, .int v5)] → W p l e (headSpec wsJ6_getChars_ba4f3 rz_J6_getChars_ba4f3_64).room s m ([.int a0, .int a1, .ref (ad 64)] : List Value).toArray below meth c H locs 0 0 (MQ below (va_Qi (fun r' (_ : Unit) => r' = r) (zPost G (zS nb) ad σ') A) ([.int a0, .int a1, .ref (ad 64)] : List Value).toArray s 0 0 A) (F0 m 12 ls [.int s0]) := by
    intro σ v0 v5 s0 H locs ls hf B hl
    unfold fz_J6_getChars_ba4f3_64_12 at hf
    refine lv_istore (lv' := [(6, .int s0), (0, .int v0), (2, .ref (ad 64)), (5, .int v5)]) hx hb dJ6_getChars_ba4f3_12 hl (by decide) rfl (fun ls hl => ?_)
    refine lv_iload hx hb dJ6_getChars_ba4f3_14 (lv_at hl 0 rfl) ?_
    refine lv_if_ne (tgt := 22) hx hb dJ6_getChars_ba4f3_16 (by decide) (fun hc => ?_) (fun hc => ?_)
    · have hf := zif_f hc hf
      exact L22  _ _ _ _ _ _ _ _ hf B (lv_sub hl [1, 2, 3, 0] rfl)
    · have hf := zif_t hc hf
      refine lv_iload_n hx hb dJ6_getChars_ba4f3_19 rfl (lv_at hl 1 rfl) ?_
      refine lv_ineg hx hb dJ6_getChars_ba4f3_20 ?_
      refine lv_istore_n (lv' := [(0, .int (-v0)), (6, .int s0), (2, .ref (ad 64)), (5, .int v5)]) hx hb dJ6_getChars_ba4f3_21 rfl hl (by decide) rfl (fun ls hl => ?_)
      exact L22  _ _ _ _ _ _ _ _ hf B (lv_sub hl [0, 2, 3, 1] rfl)
  unfold fz_J6_getChars_ba4f3_64 at hf
  refine lv_iload_n hx hb dJ6_getChars_ba4f3_0 rfl (lv_at hl 1 rfl) ?_
  refine lv_istore (lv' := [(5, .int a1), (0, .int a0), (1, .int a1), (2, .ref (ad 64))]) hx hb dJ6_getChars_ba4f3_1 hl (by decide) rfl (fun ls hl => ?_)
  refine lv_iload_n hx hb dJ6_getChars_ba4f3_3 rfl (lv_at hl 1 rfl) ?_
  refine lv_if_ge (tgt := 11) hx hb dJ6_getChars_ba4f3_4 (by decide) (fun hc => ?_) (fun hc => ?_)
  · have hf := zif_t hc hf
    refine lv_iconst (v := (0 : Int32)) hx hb dJ6_getChars_ba4f3_11 (by decide) ?_
    exact L12  _ _ _ _ _ _ _ hf B (lv_sub hl [1, 3, 0] rfl)
  · have hf := zif_f hc hf
    refine lv_iconst (v := (1 : Int32)) hx hb dJ6_getChars_ba4f3_7 (by decide) ?_
    refine lv_goto (tgt := 12) hx hb dJ6_getChars_ba4f3_8 (by decide) ?_
    exact L12  _ _ _ _ _ _ _ hf B (lv_sub hl [1, 3, 0] rfl)
theorem dJ8_newLength_cabcc_0 : decode cJ8_newLength_cabcc 0 = .ok (.iload_n 0, 1) := by decide +kernel
theorem dJ8_newLength_cabcc_1 : decode cJ8_newLength_cabcc 1 = .ok (.iload_n 1, 1) := by decide +kernel
theorem dJ8_newLength_cabcc_2 : decode cJ8_newLength_cabcc 2 = .ok (.iload_n 2, 1) := by decide +kernel
theorem dJ8_newLength_cabcc_3 : decode cJ8_newLength_cabcc 3 = .ok (.invokestatic 194, 3) := by decide +kernel
theorem dJ8_newLength_cabcc_6 : decode cJ8_newLength_cabcc 6 = .ok (.iadd, 1) := by decide +kernel
theorem dJ8_newLength_cabcc_7 : decode cJ8_newLength_cabcc 7 = .ok (.istore_n 3, 1) := by decide +kernel
theorem dJ8_newLength_cabcc_8 : decode cJ8_newLength_cabcc 8 = .ok (.iconst 0, 1) := by decide +kernel
theorem dJ8_newLength_cabcc_9 : decode cJ8_newLength_cabcc 9 = .ok (.iload_n 3, 1) := by decide +kernel
theorem dJ8_newLength_cabcc_10 : decode cJ8_newLength_cabcc 10 = .ok (.if_icmp .ge 11, 3) := by decide +kernel
theorem dJ8_newLength_cabcc_13 : decode cJ8_newLength_cabcc 13 = .ok (.iload_n 3, 1) := by decide +kernel
theorem dJ8_newLength_cabcc_14 : decode cJ8_newLength_cabcc 14 = .ok (.ldc 200, 2) := by decide +kernel
theorem dJ8_newLength_cabcc_16 : decode cJ8_newLength_cabcc 16 = .ok (.if_icmp .gt 5, 3) := by decide +kernel
theorem dJ8_newLength_cabcc_19 : decode cJ8_newLength_cabcc 19 = .ok (.iload_n 3, 1) := by decide +kernel
theorem dJ8_newLength_cabcc_20 : decode cJ8_newLength_cabcc 20 = .ok (.ireturn, 1) := by decide +kernel
theorem dJ8_newLength_cabcc_21 : decode cJ8_newLength_cabcc 21 = .ok (.iload_n 0, 1) := by decide +kernel
theorem dJ8_newLength_cabcc_22 : decode cJ8_newLength_cabcc 22 = .ok (.iload_n 1, 1) := by decide +kernel
def rz_J8_newLength_cabcc : Room := { frames := 2, cells := 0, slots := 0, locals := 40 }
set_option maxHeartbeats 4000000 in
set_option maxRecDepth 100000 in
theorem cz_J8_newLength_cabcc (l : Launch) (nb : Nat) {G : zG} {ad : Nat → Nat} {σ σ' : zs} {a0 a1 a2 : Int32} {r : Int32} (hf : fz_J8_newLength_cabcc nb σ a0 a1 a2 = some (r, σ')) : zMi l yJ8_newLength_cabcc wsJ8_newLength_cabcc rz_J8_newLength_cabcc G (zS nb) ad σ [.int a0, .int a1, .int a2] r σ' := by
  intro sz
  refine Met.ofW (cc := cJ8_newLength_cabcc) (maxL := 4) (ret := (some .int)) (by decide) rfl ?_
  intro p e s m args below meth c s₁ B hml hv
  obtain ⟨rfl, hsz, hv⟩ := hv
  have hx := B.exec
  have hb := B.bytes
  have hr := B.returns
  have hts := atoms_spec (ws := wsJ8_newLength_cabcc) B.pre
  have hown : s.vm.findClass RJ8 = some m.cls := findClass_of_methodNamed B.named
  have hlocks := B.notSynchronized
  subst hsz
  have B := zB_start hv
  have hl := lv_entry ([.int a0, .int a1, .int a2]) (n := 4) (Nat.le_of_ble_eq_true rfl)
  rw [lg_entry_eq]
  generalize (lg_sl ([.int a0, .int a1, .int a2]) ++ List.replicate (4 - (lg_sl ([.int a0, .int a1, .int a2])).length) Slot.unset).toArray = ls at hl ⊢
  have hl : lv_has ls 4 [(0, .int a0), (1, .int a1), (2, .int a2)] := hl
  generalize hAe : zA ad (zS nb).length s.heap.size = A at B ⊢
  have L21 : ∀ (σ : zs) (v0 : Int32) (v1 : Int32) (H : Heap) (locs : List Loc) (ls : Array Slot), fz_J8_newLength_cabcc_21 nb σ v0 v1 = some (r, σ') → zB A s G (zS nb) ad σ H locs → lv_has ls 4 [(0, .int v0), (1, .int v1)] → W p l e (headSpec wsJ8_newLength_cabcc rz_J8_newLength_cabcc).room s m ([.int a0, .int a1, .int a2] : List Value).toArray below meth c H locs 0 0 (MQ below (va_Qi (fun r' (_ : Unit) => r' = r) (zPost G (zS nb) ad σ') A) ([.int a0, .int a1, .int a2] : List Value).toArray s 0 0 A) (F0 m 21 ls []) := by
    intro σ v0 v1 H locs ls hf B hl
    unfold fz_J8_newLength_cabcc_21 at hf
    refine lv_iload_n hx hb dJ8_newLength_cabcc_21 rfl (lv_at hl 0 rfl) ?_
    refine lv_iload_n hx hb dJ8_newLength_cabcc_22 rfl (lv_at hl 1 rfl) ?_
    cases hf
  unfold fz_J8_newLength_cabcc at hf
  refine lv_iload_n hx hb dJ8_newLength_cabcc_0 rfl (lv_at hl 0 rfl) ?_
  refine lv_iload_n hx hb dJ8_newLength_cabcc_1 rfl (lv_at hl 1 rfl) ?_
  refine lv_iload_n hx hb dJ8_newLength_cabcc_2 rfl (lv_at hl 2 rfl) ?_
  refine va_mmax hx hb (hml.trans hl.1.symm) hown (index := 194) (hts _ (by decide +kernel)) (hts _ (by decide +kernel)) (hts _ (by decide +kernel)) (hts _ (by decide +kernel)) (Nat.le_of_ble_eq_true rfl) (Nat.le_of_ble_eq_true rfl) (Nat.le_of_ble_eq_true rfl) (Nat.le_of_ble_eq_true rfl) dJ8_newLength_cabcc_3 ?_
  refine lv_iadd hx hb dJ8_newLength_cabcc_6 ?_
  refine lv_istore_n (lv' := [(3, .int (a0 + (if a1 < a2 then a2 else a1))), (0, .int a0), (1, .int a1), (2, .int a2)]) hx hb dJ8_newLength_cabcc_7 rfl hl (by decide) rfl (fun ls hl => ?_)
  refine lv_iconst (v := (0 : Int32)) hx hb dJ8_newLength_cabcc_8 (by decide) ?_
  refine lv_iload_n hx hb dJ8_newLength_cabcc_9 rfl (lv_at hl 0 rfl) ?_
  refine lv_icmp_ge (tgt := 21) hx hb dJ8_newLength_cabcc_10 (by decide) (fun hc => ?_) (fun hc => ?_)
  · have hf := zif_t hc hf
    exact L21  _ _ _ _ _ _ hf B (lv_sub hl [1, 2] rfl)
  · have hf := zif_f hc hf
    refine lv_iload_n hx hb dJ8_newLength_cabcc_13 rfl (lv_at hl 0 rfl) ?_
    refine lv_ldc (v := (2147483639 : Int32)) hx hb hown (hts (.constant RJ8 200 (2147483639)) (by decide +kernel)) dJ8_newLength_cabcc_14 ?_
    refine lv_icmp_gt (tgt := 21) hx hb dJ8_newLength_cabcc_16 (by decide) (fun hc => ?_) (fun hc => ?_)
    · have hf := zif_t hc hf
      exact L21  _ _ _ _ _ _ hf B (lv_sub hl [1, 2] rfl)
    · have hf := zif_f hc hf
      refine lv_iload_n hx hb dJ8_newLength_cabcc_19 rfl (lv_at hl 0 rfl) ?_
      refine W.widen (k := 0) (n := 0) (Nat.le_of_ble_eq_true rfl) (Nat.le_of_ble_eq_true rfl) ?_
      exact z_iret hx hb hr rfl hlocks B hf dJ8_newLength_cabcc_20
theorem dJ5_newCapacity_0f7a4_0 : decode cJ5_newCapacity_0f7a4 0 = .ok (.aload_n 0, 1) := by decide +kernel
theorem dJ5_newCapacity_0f7a4_1 : decode cJ5_newCapacity_0f7a4 1 = .ok (.getfield 15, 3) := by decide +kernel
theorem dJ5_newCapacity_0f7a4_4 : decode cJ5_newCapacity_0f7a4 4 = .ok (.arraylength, 1) := by decide +kernel
theorem dJ5_newCapacity_0f7a4_5 : decode cJ5_newCapacity_0f7a4 5 = .ok (.istore_n 2, 1) := by decide +kernel
theorem dJ5_newCapacity_0f7a4_6 : decode cJ5_newCapacity_0f7a4 6 = .ok (.iload_n 1, 1) := by decide +kernel
theorem dJ5_newCapacity_0f7a4_7 : decode cJ5_newCapacity_0f7a4 7 = .ok (.aload_n 0, 1) := by decide +kernel
theorem dJ5_newCapacity_0f7a4_8 : decode cJ5_newCapacity_0f7a4 8 = .ok (.getfield 22, 3) := by decide +kernel
theorem dJ5_newCapacity_0f7a4_11 : decode cJ5_newCapacity_0f7a4 11 = .ok (.ishl, 1) := by decide +kernel
theorem dJ5_newCapacity_0f7a4_12 : decode cJ5_newCapacity_0f7a4 12 = .ok (.istore_n 3, 1) := by decide +kernel
theorem dJ5_newCapacity_0f7a4_13 : decode cJ5_newCapacity_0f7a4 13 = .ok (.iload_n 3, 1) := by decide +kernel
theorem dJ5_newCapacity_0f7a4_14 : decode cJ5_newCapacity_0f7a4 14 = .ok (.iload_n 2, 1) := by decide +kernel
theorem dJ5_newCapacity_0f7a4_15 : decode cJ5_newCapacity_0f7a4 15 = .ok (.isub, 1) := by decide +kernel
theorem dJ5_newCapacity_0f7a4_16 : decode cJ5_newCapacity_0f7a4 16 = .ok (.istore 4, 2) := by decide +kernel
theorem dJ5_newCapacity_0f7a4_18 : decode cJ5_newCapacity_0f7a4 18 = .ok (.iload_n 2, 1) := by decide +kernel
theorem dJ5_newCapacity_0f7a4_19 : decode cJ5_newCapacity_0f7a4 19 = .ok (.iload 4, 2) := by decide +kernel
theorem dJ5_newCapacity_0f7a4_21 : decode cJ5_newCapacity_0f7a4 21 = .ok (.iload_n 2, 1) := by decide +kernel
theorem dJ5_newCapacity_0f7a4_22 : decode cJ5_newCapacity_0f7a4 22 = .ok (.iconst 2, 1) := by decide +kernel
theorem dJ5_newCapacity_0f7a4_23 : decode cJ5_newCapacity_0f7a4 23 = .ok (.aload_n 0, 1) := by decide +kernel
theorem dJ5_newCapacity_0f7a4_24 : decode cJ5_newCapacity_0f7a4 24 = .ok (.getfield 22, 3) := by decide +kernel
theorem dJ5_newCapacity_0f7a4_27 : decode cJ5_newCapacity_0f7a4 27 = .ok (.ishl, 1) := by decide +kernel
theorem dJ5_newCapacity_0f7a4_28 : decode cJ5_newCapacity_0f7a4 28 = .ok (.iadd, 1) := by decide +kernel
theorem dJ5_newCapacity_0f7a4_29 : decode cJ5_newCapacity_0f7a4 29 = .ok (.invokestatic 114, 3) := by decide +kernel
theorem dJ5_newCapacity_0f7a4_32 : decode cJ5_newCapacity_0f7a4 32 = .ok (.istore 5, 2) := by decide +kernel
theorem dJ5_newCapacity_0f7a4_34 : decode cJ5_newCapacity_0f7a4 34 = .ok (.iload 5, 2) := by decide +kernel
theorem dJ5_newCapacity_0f7a4_36 : decode cJ5_newCapacity_0f7a4 36 = .ok (.ldc 39, 2) := by decide +kernel
theorem dJ5_newCapacity_0f7a4_38 : decode cJ5_newCapacity_0f7a4 38 = .ok (.if_icmp .ne 13, 3) := by decide +kernel
theorem dJ5_newCapacity_0f7a4_51 : decode cJ5_newCapacity_0f7a4 51 = .ok (.iload 5, 2) := by decide +kernel
theorem dJ5_newCapacity_0f7a4_53 : decode cJ5_newCapacity_0f7a4 53 = .ok (.aload_n 0, 1) := by decide +kernel
theorem dJ5_newCapacity_0f7a4_54 : decode cJ5_newCapacity_0f7a4 54 = .ok (.getfield 22, 3) := by decide +kernel
theorem dJ5_newCapacity_0f7a4_57 : decode cJ5_newCapacity_0f7a4 57 = .ok (.ishr, 1) := by decide +kernel
theorem dJ5_newCapacity_0f7a4_58 : decode cJ5_newCapacity_0f7a4 58 = .ok (.ireturn, 1) := by decide +kernel
set_option maxRecDepth 20000 in
theorem ggJ5_newCapacity_0f7a4_J8_newLength_cabcc : GoodIn wsJ5_newCapacity_0f7a4 wsJ8_newLength_cabcc := goodIn_r _ [7, 8, 9, 10, 11, 12, 13, 14, 6, 15] (by decide +kernel) (by decide +kernel)
set_option maxRecDepth 20000 in
theorem gJ5_newCapacity_0f7a4_J8_newLength_cabcc : GoodIn wsJ5_newCapacity_0f7a4 (va_wsS RJ5 114 yJ8_newLength_cabcc wsJ8_newLength_cabcc) := goodIn_app (goodIn_of _ (by decide +kernel)) ggJ5_newCapacity_0f7a4_J8_newLength_cabcc
def rz_J5_newCapacity_0f7a4 : Room := { frames := 3, cells := 0, slots := 0, locals := 63 }
set_option maxHeartbeats 4000000 in
set_option maxRecDepth 100000 in
theorem cz_J5_newCapacity_0f7a4 (l : Launch) (nb : Nat) {G : zG} {ad : Nat → Nat} {σ σ' : zs} {a1 : Int32} {r : Int32} (hf : fz_J5_newCapacity_0f7a4 nb σ a1 = some (r, σ')) : zMi l yJ5_newCapacity_0f7a4 wsJ5_newCapacity_0f7a4 rz_J5_newCapacity_0f7a4 G (zS nb) ad σ [.ref (ad 63), .int a1] r σ' := by
  intro sz
  refine Met.ofW (cc := cJ5_newCapacity_0f7a4) (maxL := 6) (ret := (some .int)) (by decide) rfl ?_
  intro p e s m args below meth c s₁ B hml hv
  obtain ⟨rfl, hsz, hv⟩ := hv
  have hx := B.exec
  have hb := B.bytes
  have hr := B.returns
  have hts := atoms_spec (ws := wsJ5_newCapacity_0f7a4) B.pre
  have hown : s.vm.findClass RJ5 = some m.cls := findClass_of_methodNamed B.named
  have hlocks := B.notSynchronized
  subst hsz
  have B := zB_start hv
  have hinRJ4 : ∀ w ∈ wsJ40, w ∈ wsJ5_newCapacity_0f7a4 := by decide +kernel
  have hl := lv_entry ([.ref (ad 63), .int a1]) (n := 6) (Nat.le_of_ble_eq_true rfl)
  rw [lg_entry_eq]
  generalize (lg_sl ([.ref (ad 63), .int a1]) ++ List.replicate (6 - (lg_sl ([.ref (ad 63), .int a1])).length) Slot.unset).toArray = ls at hl ⊢
  have hl : lv_has ls 6 [(0, .ref (ad 63)), (1, .int a1)] := hl
  generalize hAe : zA ad (zS nb).length s.heap.size = A at B ⊢
  unfold fz_J5_newCapacity_0f7a4 at hf
  refine lv_aload_n hx hb dJ5_newCapacity_0f7a4_0 rfl (lv_at hl 0 rfl) ?_
  refine z_getr hx hb hts hinRJ4 hown B 63 0 64 rfl rfl rfl (by decide) (by decide +kernel) rfl dJ5_newCapacity_0f7a4_1 ?_
  refine z_blen hx hb B 64 rfl dJ5_newCapacity_0f7a4_4 ?_
  refine lv_istore_n (lv' := [(2, .int (Int32.ofNat nb)), (0, .ref (ad 63)), (1, .int a1)]) hx hb dJ5_newCapacity_0f7a4_5 rfl hl (by decide) rfl (fun ls hl => ?_)
  refine lv_iload_n hx hb dJ5_newCapacity_0f7a4_6 rfl (lv_at hl 2 rfl) ?_
  refine lv_aload_n hx hb dJ5_newCapacity_0f7a4_7 rfl (lv_at hl 1 rfl) ?_
  refine z_geti hx hb hts hinRJ4 hown B 63 1 rfl rfl rfl (by decide) (by decide +kernel) rfl dJ5_newCapacity_0f7a4_8 ?_
  refine lv_ishl hx hb dJ5_newCapacity_0f7a4_11 ?_
  refine lv_istore_n (lv' := [(3, .int (a1 <<< ((σ 63 1) &&& 31))), (2, .int (Int32.ofNat nb)), (0, .ref (ad 63)), (1, .int a1)]) hx hb dJ5_newCapacity_0f7a4_12 rfl hl (by decide) rfl (fun ls hl => ?_)
  refine lv_iload_n hx hb dJ5_newCapacity_0f7a4_13 rfl (lv_at hl 0 rfl) ?_
  refine lv_iload_n hx hb dJ5_newCapacity_0f7a4_14 rfl (lv_at hl 1 rfl) ?_
  refine lv_isub hx hb dJ5_newCapacity_0f7a4_15 ?_
  refine lv_istore (lv' := [(4, .int ((a1 <<< ((σ 63 1) &&& 31)) - (Int32.ofNat nb))), (3, .int (a1 <<< ((σ 63 1) &&& 31))), (2, .int (Int32.ofNat nb)), (0, .ref (ad 63)), (1, .int a1)]) hx hb dJ5_newCapacity_0f7a4_16 hl (by decide) rfl (fun ls hl => ?_)
  refine lv_iload_n hx hb dJ5_newCapacity_0f7a4_18 rfl (lv_at hl 2 rfl) ?_
  refine lv_iload hx hb dJ5_newCapacity_0f7a4_19 (lv_at hl 0 rfl) ?_
  refine lv_iload_n hx hb dJ5_newCapacity_0f7a4_21 rfl (lv_at hl 2 rfl) ?_
  refine lv_iconst (v := (2 : Int32)) hx hb dJ5_newCapacity_0f7a4_22 (by decide) ?_
  refine lv_aload_n hx hb dJ5_newCapacity_0f7a4_23 rfl (lv_at hl 3 rfl) ?_
  refine z_geti hx hb hts hinRJ4 hown B 63 1 rfl rfl rfl (by decide) (by decide +kernel) rfl dJ5_newCapacity_0f7a4_24 ?_
  refine lv_ishl hx hb dJ5_newCapacity_0f7a4_27 ?_
  refine lv_iadd hx hb dJ5_newCapacity_0f7a4_28 ?_
  obtain ⟨r2, σ3, hu1, hf⟩ := zb_some hf
  refine z_i B (va_runS (As := [.int (Int32.ofNat nb), .int ((a1 <<< ((σ 63 1) &&& 31)) - (Int32.ofNat nb)), .int ((Int32.ofNat nb) + ((2 : Int32) <<< ((σ 63 1) &&& 31)))]) (rest := []) ⟨hx, hb, hml, hown, hts⟩ (cz_J8_newLength_cabcc l nb hu1 _) (va_cwS 3 hts gJ5_newCapacity_0f7a4_J8_newLength_cabcc rfl rfl rfl (by decide +kernel) ⟨Nat.le_of_ble_eq_true rfl, Nat.le_of_ble_eq_true rfl⟩) (z_preS B) rfl rfl hl.1 rfl (lv_room (Nat.le_of_ble_eq_true rfl)) dJ5_newCapacity_0f7a4_29 ⟨Nat.le_of_ble_eq_true rfl, Nat.le_of_ble_eq_true rfl⟩) (fun H locs B => ?_)
  refine lv_istore (lv' := [(5, .int r2), (4, .int ((a1 <<< ((σ 63 1) &&& 31)) - (Int32.ofNat nb))), (3, .int (a1 <<< ((σ 63 1) &&& 31))), (2, .int (Int32.ofNat nb)), (0, .ref (ad 63)), (1, .int a1)]) hx hb dJ5_newCapacity_0f7a4_32 hl (by decide) rfl (fun ls hl => ?_)
  refine lv_iload hx hb dJ5_newCapacity_0f7a4_34 (lv_at hl 0 rfl) ?_
  refine lv_ldc (v := (2147483647 : Int32)) hx hb hown (hts (.constant RJ5 39 (2147483647)) (by decide +kernel)) dJ5_newCapacity_0f7a4_36 ?_
  refine lv_icmp_ne (tgt := 51) hx hb dJ5_newCapacity_0f7a4_38 (by decide) (fun hc => ?_) (fun hc => ?_)
  · have hf := zif_f hc hf
    refine lv_iload hx hb dJ5_newCapacity_0f7a4_51 (lv_at hl 0 rfl) ?_
    refine lv_aload_n hx hb dJ5_newCapacity_0f7a4_53 rfl (lv_at hl 4 rfl) ?_
    refine z_geti hx hb hts hinRJ4 hown B 63 1 rfl rfl rfl (by decide) (by decide +kernel) rfl dJ5_newCapacity_0f7a4_54 ?_
    refine lv_ishr hx hb dJ5_newCapacity_0f7a4_57 ?_
    refine W.widen (k := 0) (n := 0) (Nat.le_of_ble_eq_true rfl) (Nat.le_of_ble_eq_true rfl) ?_
    exact z_iret hx hb hr rfl hlocks B hf dJ5_newCapacity_0f7a4_58
  · have hf := zif_t hc hf
    cases hf
theorem dJ0_checkIndex_df160_0 : decode cJ0_checkIndex_df160 0 = .ok (.iload_n 0, 1) := by decide +kernel
theorem dJ0_checkIndex_df160_1 : decode cJ0_checkIndex_df160 1 = .ok (.iload_n 1, 1) := by decide +kernel
theorem dJ0_checkIndex_df160_2 : decode cJ0_checkIndex_df160 2 = .ok (.getstatic 1053, 3) := by decide +kernel
theorem dJ0_checkIndex_df160_5 : decode cJ0_checkIndex_df160 5 = .ok (.invokestatic 1059, 3) := by decide +kernel
theorem dJ0_checkIndex_df160_8 : decode cJ0_checkIndex_df160 8 = .ok (.pop, 1) := by decide +kernel
theorem dJ0_checkIndex_df160_9 : decode cJ0_checkIndex_df160 9 = .ok (.return_, 1) := by decide +kernel
set_option maxRecDepth 20000 in
theorem ggJ0_checkIndex_df160_J3_checkIndex_8e157 : GoodIn wsJ0_checkIndex_df160 wsJ3_checkIndex_8e157 := goodIn_r _ [5] (by decide +kernel) (by decide +kernel)
set_option maxRecDepth 20000 in
theorem gJ0_checkIndex_df160_J3_checkIndex_8e157 : GoodIn wsJ0_checkIndex_df160 (va_wsS RJ0 1059 yJ3_checkIndex_8e157 wsJ3_checkIndex_8e157) := goodIn_app (goodIn_of _ (by decide +kernel)) ggJ0_checkIndex_df160_J3_checkIndex_8e157
def rz_J0_checkIndex_df160 : Room := { frames := 2, cells := 0, slots := 0, locals := 38 }
set_option maxHeartbeats 4000000 in
set_option maxRecDepth 100000 in
theorem cz_J0_checkIndex_df160 (l : Launch) (nb : Nat) {G : zG} {ad : Nat → Nat} {σ σ' : zs} {a0 a1 : Int32} {r : Int32} (hf : fz_J0_checkIndex_df160 nb σ a0 a1 = some (r, σ')) : zMv l yJ0_checkIndex_df160 wsJ0_checkIndex_df160 rz_J0_checkIndex_df160 G (zS nb) ad σ [.int a0, .int a1] σ' := by
  intro sz
  refine Met.ofW (cc := cJ0_checkIndex_df160) (maxL := 2) (ret := none) (by decide) rfl ?_
  intro p e s m args below meth c s₁ B hml hv
  obtain ⟨rfl, hsz, hv⟩ := hv
  have hx := B.exec
  have hb := B.bytes
  have hr := B.returns
  have hts := atoms_spec (ws := wsJ0_checkIndex_df160) B.pre
  have hown : s.vm.findClass RJ0 = some m.cls := findClass_of_methodNamed B.named
  have hlocks := B.notSynchronized
  subst hsz
  have B := zB_start hv
  have hl := lv_entry ([.int a0, .int a1]) (n := 2) (Nat.le_of_ble_eq_true rfl)
  rw [lg_entry_eq]
  generalize (lg_sl ([.int a0, .int a1]) ++ List.replicate (2 - (lg_sl ([.int a0, .int a1])).length) Slot.unset).toArray = ls at hl ⊢
  have hl : lv_has ls 2 [(0, .int a0), (1, .int a1)] := hl
  generalize hAe : zA ad (zS nb).length s.heap.size = A at B ⊢
  unfold fz_J0_checkIndex_df160 at hf
  refine lv_iload_n hx hb dJ0_checkIndex_df160_0 rfl (lv_at hl 0 rfl) ?_
  refine lv_iload_n hx hb dJ0_checkIndex_df160_1 rfl (lv_at hl 1 rfl) ?_
  rcases B.2.2.2.2.2.fmt with hz | ⟨t9, hz⟩
  · refine va_gets hx hb hz B.2.2.2.2.1 hown (hts (.fieldLink RJ0 1053 "jdk/internal/util/Preconditions" "SIOOBE_FORMATTER" "Ljava/util/function/BiFunction;") (by decide +kernel)) (fun _ h => h) dJ0_checkIndex_df160_2 ?_
    obtain ⟨r2, σ3, hu1, hf⟩ := zb_some hf
    refine z_i B (va_runS (As := [.int a0, .int a1, .null]) (rest := []) ⟨hx, hb, hml, hown, hts⟩ (cz_J3_checkIndex_8e157_n l nb hu1 _) (va_cwS 3 hts gJ0_checkIndex_df160_J3_checkIndex_8e157 rfl rfl rfl (by decide +kernel) ⟨Nat.le_of_ble_eq_true rfl, Nat.le_of_ble_eq_true rfl⟩) (z_preS B) rfl rfl hl.1 rfl (lv_room (Nat.le_of_ble_eq_true rfl)) dJ0_checkIndex_df160_5 ⟨Nat.le_of_ble_eq_true rfl, Nat.le_of_ble_eq_true rfl⟩) (fun H locs B => ?_)
    refine lv_pop hx hb dJ0_checkIndex_df160_8 rfl ?_
    refine W.widen (k := 0) (n := 0) (Nat.le_of_ble_eq_true rfl) (Nat.le_of_ble_eq_true rfl) ?_
    exact z_vret hx hb hr hlocks B hf dJ0_checkIndex_df160_9
  · refine va_gets hx hb hz B.2.2.2.2.1 hown (hts (.fieldLink RJ0 1053 "jdk/internal/util/Preconditions" "SIOOBE_FORMATTER" "Ljava/util/function/BiFunction;") (by decide +kernel)) (fun _ h => h) dJ0_checkIndex_df160_2 ?_
    obtain ⟨r2, σ3, hu1, hf⟩ := zb_some hf
    refine z_i B (va_runS (As := [.int a0, .int a1, .ref t9]) (rest := []) ⟨hx, hb, hml, hown, hts⟩ (cz_J3_checkIndex_8e157_r l nb hu1 _) (va_cwS 3 hts gJ0_checkIndex_df160_J3_checkIndex_8e157 rfl rfl rfl (by decide +kernel) ⟨Nat.le_of_ble_eq_true rfl, Nat.le_of_ble_eq_true rfl⟩) (z_preS B) rfl rfl hl.1 rfl (lv_room (Nat.le_of_ble_eq_true rfl)) dJ0_checkIndex_df160_5 ⟨Nat.le_of_ble_eq_true rfl, Nat.le_of_ble_eq_true rfl⟩) (fun H locs B => ?_)
    refine lv_pop hx hb dJ0_checkIndex_df160_8 rfl ?_
    refine W.widen (k := 0) (n := 0) (Nat.le_of_ble_eq_true rfl) (Nat.le_of_ble_eq_true rfl) ?_
    exact z_vret hx hb hr hlocks B hf dJ0_checkIndex_df160_9

def sCap (nb mn : Nat) : Nat := nb + (if mn - nb < nb + 2 then nb + 2 else mn - nb)
theorem sCap_ok {nb mn : Nat} (h : nb < mn) (hm : mn ≤ 40) : nb < sCap nb mn ∧ mn ≤ sCap nb mn ∧ sCap nb mn ≤ 100 := by
  unfold sCap
  split <;> omega
theorem sNC0 : ∀ nb, nb < 40 → ∀ mn, mn < 41 → nb < mn → (¬ ((Int32.ofNat nb) + (if ((nI mn <<< ((0 : Int32) &&& 31)) - (Int32.ofNat nb)) < ((Int32.ofNat nb) + ((2 : Int32) <<< ((0 : Int32) &&& 31))) then ((Int32.ofNat nb) + ((2 : Int32) <<< ((0 : Int32) &&& 31))) else ((nI mn <<< ((0 : Int32) &&& 31)) - (Int32.ofNat nb)))) ≤ (0 : Int32)) ∧ (¬ (2147483639 : Int32) < ((Int32.ofNat nb) + (if ((nI mn <<< ((0 : Int32) &&& 31)) - (Int32.ofNat nb)) < ((Int32.ofNat nb) + ((2 : Int32) <<< ((0 : Int32) &&& 31))) then ((Int32.ofNat nb) + ((2 : Int32) <<< ((0 : Int32) &&& 31))) else ((nI mn <<< ((0 : Int32) &&& 31)) - (Int32.ofNat nb))))) ∧ (¬ ((Int32.ofNat nb) + (if ((nI mn <<< ((0 : Int32) &&& 31)) - (Int32.ofNat nb)) < ((Int32.ofNat nb) + ((2 : Int32) <<< ((0 : Int32) &&& 31))) then ((Int32.ofNat nb) + ((2 : Int32) <<< ((0 : Int32) &&& 31))) else ((nI mn <<< ((0 : Int32) &&& 31)) - (Int32.ofNat nb)))) = (2147483647 : Int32)) ∧ ((Int32.ofNat nb) + (if ((nI mn <<< ((0 : Int32) &&& 31)) - (Int32.ofNat nb)) < ((Int32.ofNat nb) + ((2 : Int32) <<< ((0 : Int32) &&& 31))) then ((Int32.ofNat nb) + ((2 : Int32) <<< ((0 : Int32) &&& 31))) else ((nI mn <<< ((0 : Int32) &&& 31)) - (Int32.ofNat nb)))) >>> ((0 : Int32) &&& 31) = nI (sCap nb mn) := by decide +kernel
theorem sNC {nb mn : Nat} {σ : zs} (h : nb < mn) (hm : mn ≤ 40) (h0 : σ 63 1 = 0) : fz_J5_newCapacity_0f7a4 nb σ (nI mn) = some (nI (sCap nb mn), σ) := by
  obtain ⟨h1, h2, h3, h4⟩ := sNC0 nb (by omega) mn (by omega) h
  unfold fz_J5_newCapacity_0f7a4 fz_J8_newLength_cabcc
  rw [h0, if_neg h1, if_neg h2]
  show (if _ = (2147483647 : Int32) then none else some (_, σ)) = _
  rw [if_neg h3, h0, h4]
theorem s_shr : ∀ n, n < 101 → nI n >>> ((0 : Int32) &&& 31) = nI n := by decide +kernel
theorem s_shl : ∀ n, n < 101 → nI n <<< ((0 : Int32) &&& 31) = nI n := by decide +kernel
theorem s_le : ∀ mn, mn < 41 → ∀ nb, nb < 101 → (nI mn - nI nb ≤ (0 : Int32) ↔ mn ≤ nb) := by decide +kernel
theorem sB7 : ∀ ch, ch < 128 → vp_nar .byte ((nI ch).toInt8.toInt32) = nI ch ∧ fits .byte (.int (nI ch)) = true ∧ vp_nar .byte (nI ch) = nI ch := by decide +kernel
theorem s255 : ∀ ch, ch < 128 → ¬ (255 : Int32) < nI ch := by decide +kernel
theorem s_m1 : ∀ x, x < 100 → nI (x + 1) + (-1 : Int32) = nI x := by decide +kernel
def sEn (mn nb : Nat) (g : Nat → Int32) (u : xV) : Prop := mn ≤ u.1 ∧ u.1 ≤ 100 ∧ nb ≤ u.1 ∧ (∀ j, j < nb → u.2.2 j = g j) ∧ ∀ j, fits .byte (.int (u.2.2 j)) = true
theorem sp_e (σ : zs) (k j : Nat) (v : Int32) : zp σ k j v k j = v := by simp [zp, zR, upd]
theorem sp_n (σ : zs) {k j a : Nat} (v : Int32) (h : a ≠ k) : zp σ k j v a = σ a := by simp [zp, zR, h]
theorem XS_0 {nb : Nat} {g : Nat → Int32} {σ : zs} (h : ∀ j, fits .byte (.int (g j)) = true) (hn : nb ≤ 100) (hc : σ 63 3 = 0) : XS nb g σ := by
  have e : (σ 63 3).toNatClampNeg = 0 := by rw [hc]; rfl
  refine ⟨fun j hj => ?_, ?_, h, hn⟩
  · rw [e] at hj; omega
  · rw [e]; exact Nat.zero_le _
theorem XS_n {nb n : Nat} {g f : Nat → Int32} {σ : zs} (h : ∀ j, fits .byte (.int (g j)) = true) (hn : nb ≤ 100) (hc : σ 63 3 = nI n) (hb : n ≤ nb) (hf : σ 64 = f) (hj : ∀ j, j < n → g j = f j) : XS nb g σ := by
  have e : (σ 63 3).toNatClampNeg = n := by rw [hc]; exact nI_clamp (by omega)
  refine ⟨fun j h1 => ?_, ?_, h, hn⟩
  · rw [e] at h1; rw [hf]; exact hj j h1
  · rw [e]; exact hb
theorem sC_le {nb cnt : Nat} {g : Nat → Int32} {σ : zs} (hs : XS nb g σ) (hc : σ 63 3 = nI cnt) (h40 : cnt ≤ 40) : cnt ≤ nb ∧ ∀ j, j < cnt → g j = σ 64 j := by
  have e : (σ 63 3).toNatClampNeg = cnt := by rw [hc]; exact nI_clamp (by omega)
  refine ⟨?_, fun j hj => hs.1 j (by rw [e]; exact hj)⟩
  have := hs.2.1
  rw [e] at this
  exact this
theorem sFit_upd {g : Nat → Int32} {j : Nat} {v : Int32} (h : ∀ j, fits .byte (.int (g j)) = true) (hv : fits .byte (.int v) = true) : ∀ i, fits .byte (.int (upd g j v i)) = true := by
  intro i
  by_cases e : i = j
  · subst e; simp only [upd, if_pos]; exact hv
  · simp only [upd, if_neg e]; exact h i
/-- the digits of a number below 1000, written from place cnt on -/
theorem sDig_lt (i cnt : Nat) (f h : Nat → Int32) (j : Nat) (hj : j < cnt) (e : f j = h j) : sDig i cnt f j = h j := by
  unfold sDig
  have a0 : j ≠ cnt := by omega
  have a1 : j ≠ cnt + 1 := by omega
  have a2 : j ≠ cnt + 2 := by omega
  split
  · simp [upd, a0, e]
  · split <;> simp [upd, a0, a1, a2, e]
theorem sDig_in (i cnt : Nat) (f h : Nat → Int32) (j : Nat) (h1 : cnt ≤ j) (h2 : j < cnt + sLen i) : sDig i cnt f j = sDig i cnt h j := by
  unfold sLen at h2
  unfold sDig
  split
  · rename_i hi
    rw [if_pos hi] at h2
    have e : j = cnt := by omega
    subst e; simp [upd]
  · rename_i hi
    rw [if_neg hi] at h2
    split
    · rename_i hi2
      rw [if_pos hi2] at h2
      by_cases e : j = cnt
      · subst e; simp [upd]
      · have e1 : j = cnt + 1 := by omega
        subst e1; simp [upd]
    · rename_i hi2
      rw [if_neg hi2] at h2
      by_cases e : j = cnt
      · subst e; simp [upd]
      · by_cases e1 : j = cnt + 1
        · subst e1; simp [upd]
        · have e2 : j = cnt + 2 := by omega
          subst e2; simp [upd]
theorem sDig_fit (i cnt : Nat) (f : Nat → Int32) (h : ∀ j, fits .byte (.int (f j)) = true) : ∀ j, fits .byte (.int (sDig i cnt f j)) = true := by
  unfold sDig
  split
  · exact sFit_upd h (sB7 _ (by omega)).2.1
  · split
    · exact sFit_upd (sFit_upd h (sB7 _ (by omega)).2.1) (sB7 _ (by omega)).2.1
    · exact sFit_upd (sFit_upd (sFit_upd h (sB7 _ (by omega)).2.1) (sB7 _ (by omega)).2.1) (sB7 _ (by omega)).2.1
theorem sLen_le (i : Nat) : 1 ≤ sLen i ∧ sLen i ≤ 3 := by
  unfold sLen
  split
  · omega
  · split <;> omega
theorem sG0 : ∀ i, i < 1000 → (¬ nI i < 0) ∧ (0 : Int32) ≤ nI i ∧ (((-100 : Int32) < -nI i) ↔ i < 100) ∧ (((-9 : Int32) ≤ -nI i) ↔ i < 10) ∧ -(-nI i) = nI i ∧ (-nI i ≤ (-10 : Int32) ↔ 10 ≤ i) ∧ (-nI i ≤ (-100 : Int32) ↔ 100 ≤ i) ∧ ¬ -nI i ≤ (-1000 : Int32) := by decide +kernel
theorem sG1 : ∀ i, i < 1000 → (-nI i) / (100 : Int32) = -nI (i / 100) ∧ ((-nI (i / 100)) * (100 : Int32)) - (-nI i) = nI (i % 100) := by decide +kernel
theorem sSS {nb i : Nat} {σ : zs} (hi : i < 1000) : fz_J6_stringSize_0f7a4 nb σ (nI i) = some (nI (sLen i), σ) := by
  obtain ⟨h1, h2, -, -, -, h6, h7, h8⟩ := sG0 i hi
  unfold fz_J6_stringSize_0f7a4
  rw [if_neg h1]
  unfold fz_J6_stringSize_0f7a4_11
  show fz_J6_stringSize_0f7a4_16 nb (zlp4 (fz_J6_stringSize_0f7a4_16 nb) 999) σ (-nI i) 0 (-10 : Int32) 1 = _
  rw [fz_J6_stringSize_0f7a4_16, if_neg (by decide)]
  unfold sLen
  by_cases a : i < 10
  · rw [if_neg (fun q => absurd (h6.mp q) (by omega)), if_pos a]; rfl
  · rw [if_pos (h6.mpr (by omega)), if_neg a]
    show fz_J6_stringSize_0f7a4_16 nb (zlp4 (fz_J6_stringSize_0f7a4_16 nb) 998) σ (-nI i) 0 (-100 : Int32) 2 = _
    rw [fz_J6_stringSize_0f7a4_16, if_neg (by decide)]
    by_cases b : i < 100
    · rw [if_neg (fun q => absurd (h7.mp q) (by omega)), if_pos b]; rfl
    · rw [if_pos (h7.mpr (by omega)), if_neg b]
      show fz_J6_stringSize_0f7a4_16 nb (zlp4 (fz_J6_stringSize_0f7a4_16 nb) 997) σ (-nI i) 0 (-1000 : Int32) 3 = _
      rw [fz_J6_stringSize_0f7a4_16, if_neg (by decide), if_neg h8]; rfl
theorem s_zin {i n : Nat} (h : i < n) (hn : n < 2 ^ 31) : zin (nI i) n = true := by
  have h1 : (nI i).toNatClampNeg = i := nI_clamp (by omega)
  have h2 : (0 : Int32) ≤ nI i := nI_pos' (by omega)
  simp [zin, h1, h2, h]
theorem s_zg {α : Type} {b : Bool} (h : b = true) (t : Option α) : zg b t = t := by subst h; rfl
theorem sGC {nb i cnt : Nat} {σ : zs} (hi : i < 1000) (hn : nb ≤ 100) (hc : cnt + sLen i ≤ nb) : fz_J6_getChars_ba4f3_64 nb σ (nI i) (nI (cnt + sLen i)) = some (nI cnt, zR σ 64 (sDig i cnt (σ 64))) := by
  obtain ⟨h1, h2, h3, h4, h5, -, -, -⟩ := sG0 i hi
  obtain ⟨h6, h7⟩ := sG1 i hi
  have hz : ∀ x, x < 2 ^ 31 → (nI x).toNatClampNeg = x := fun x hx => nI_clamp hx
  unfold fz_J6_getChars_ba4f3_64
  rw [if_pos h2]
  unfold fz_J6_getChars_ba4f3_64_12
  rw [if_pos rfl]
  unfold sLen at hc ⊢
  unfold sDig
  show fz_J6_getChars_ba4f3_64_22 nb (zlp3 (fz_J6_getChars_ba4f3_64_22 nb) 999) σ (-nI i) _ 0 = _
  by_cases a : i < 10
  · rw [if_pos a] at hc ⊢
    rw [if_pos a, fz_J6_getChars_ba4f3_64_22, if_pos (h3.mpr (by omega)), h5, s_m1 cnt (by omega), s_zg (s_zin (by omega) (by omega)), s_zg (s_zin (by omega) (by omega)), if_pos (h4.mpr a)]
    unfold fz_J6_getChars_ba4f3_64_104
    rw [if_pos rfl, hz i (by omega), hz cnt (by omega), show i % 10 = i by omega, (sB7 (48 + i) (by omega)).2.2]
    rfl
  · rw [if_neg a] at hc ⊢
    rw [if_neg a]
    by_cases b : i < 100
    · rw [if_pos b] at hc ⊢
      rw [if_pos b, fz_J6_getChars_ba4f3_64_22, if_pos (h3.mpr b), h5, s_m1 (cnt + 1) (by omega), s_m1 cnt (by omega), s_zg (s_zin b (by omega)), s_zg (s_zin (by omega) (by omega)), if_neg (fun q => absurd (h4.mp q) a), s_zg (s_zin b (by omega)), s_zg (s_zin (by omega) (by omega))]
      unfold fz_J6_getChars_ba4f3_64_104
      rw [if_pos rfl, hz i (by omega), hz cnt (by omega), hz (cnt + 1) (by omega), (sB7 (48 + i % 10) (by omega)).2.2, (sB7 (48 + i / 10) (by omega)).2.2]
      show some (nI cnt, zp (zR σ 64 _) 64 cnt _) = _
      rw [sR_b]
    · rw [if_neg b] at hc ⊢
      rw [if_neg b, fz_J6_getChars_ba4f3_64_22, if_neg (fun q => absurd (h3.mp q) b), h6, h7, s_m1 (cnt + 2) (by omega), s_m1 (cnt + 1) (by omega), s_zg (s_zin (by omega) (by omega)), s_zg (s_zin (by omega) (by omega)), s_zg (s_zin (by omega) (by omega)), s_zg (s_zin (by omega) (by omega))]
      obtain ⟨-, -, k3, k4, k5, -, -, -⟩ := sG0 (i / 100) (by omega)
      rw [hz (i % 100) (by omega), hz (cnt + 2) (by omega), hz (cnt + 1) (by omega), (sB7 (48 + i % 100 % 10) (by omega)).2.2, (sB7 (48 + i % 100 / 10) (by omega)).2.2]
      show fz_J6_getChars_ba4f3_64_22 nb (zlp3 (fz_J6_getChars_ba4f3_64_22 nb) 998) (zp (zR σ 64 _) 64 (cnt + 1) _) (-nI (i / 100)) _ 0 = _
      rw [sR_b, fz_J6_getChars_ba4f3_64_22, if_pos (k3.mpr (by omega)), k5, s_m1 cnt (by omega), s_zg (s_zin (by omega) (by omega)), s_zg (s_zin (by omega) (by omega)), if_pos (k4.mpr (by omega))]
      unfold fz_J6_getChars_ba4f3_64_104
      rw [if_pos rfl, hz (i / 100) (by omega), hz cnt (by omega), (sB7 (48 + i / 100 % 10) (by omega)).2.2, sR_b]

theorem sCI {nb i cnt : Nat} {σ : zs} (hi : i < cnt) (hc : cnt < 2 ^ 31) : fz_J0_checkIndex_df160 nb σ (nI i) (nI cnt) = some (0, σ) := by
  have h1 : (0 : Int32) ≤ nI i := nI_pos' (by omega)
  have h2 : nI i < nI cnt := nI_lt hi hc
  simp [fz_J0_checkIndex_df160, fz_J3_checkIndex_8e157, zb, zg, h1, h2]
