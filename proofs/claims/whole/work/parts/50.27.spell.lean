def wsJ1_charAt_3b067 : List Cond := .code yJ1_charAt_3b067 cJ1_charAt_3b067 2 (some .char) :: ([.methodLink RJ1 9 yJ0_checkIndex_df160, .static yJ0_checkIndex_df160, .initialized RJ0, .code yJ0_checkIndex_df160 cJ0_checkIndex_df160 2 none, .fieldLink RJ0 1053 "jdk/internal/util/Preconditions" "SIOOBE_FORMATTER" "Ljava/util/function/BiFunction;", .methodLink RJ0 1059 yJ3_checkIndex_8e157, .static yJ3_checkIndex_8e157, .initialized RJ3, .code yJ3_checkIndex_8e157 cJ3_checkIndex_8e157 3 (some .int)])
def wsJ0_charAt_5068e_r1 : List Cond := [Cond.fieldLink RJ0 9 "java/lang/String" "value" "[B", Cond.methodLink RJ0 492 yJ0_isLatin1_aae02, Cond.instanceMethod yJ0_isLatin1_aae02, Cond.selects RJ0 yJ0_isLatin1_aae02 yJ0_isLatin1_aae02, Cond.initialized RJ0, Cond.code yJ0_isLatin1_aae02 cJ0_isLatin1_aae02 1 (some .boolean), Cond.fieldLink RJ0 38 "java/lang/String" "COMPACT_STRINGS" "Z", Cond.fieldLink RJ0 15 "java/lang/String" "coder" "B", Cond.methodLink RJ0 495 yJ1_charAt_3b067, Cond.static yJ1_charAt_3b067, Cond.initialized RJ1, Cond.code yJ1_charAt_3b067 cJ1_charAt_3b067 2 (some .char), Cond.methodLink RJ1 9 yJ0_checkIndex_df160, Cond.static yJ0_checkIndex_df160, Cond.code yJ0_checkIndex_df160 cJ0_checkIndex_df160 2 none, Cond.fieldLink RJ0 1053 "jdk/internal/util/Preconditions" "SIOOBE_FORMATTER" "Ljava/util/function/BiFunction;", Cond.methodLink RJ0 1059 yJ3_checkIndex_8e157, Cond.static yJ3_checkIndex_8e157, Cond.initialized RJ3, Cond.code yJ3_checkIndex_8e157 cJ3_checkIndex_8e157 3 (some .int), Cond.methodLink RJ0 498 yJ2_charAt_3b067, Cond.static yJ2_charAt_3b067, Cond.initialized RJ2, Cond.code yJ2_charAt_3b067 cJ2_charAt_3b067 2 (some .char)]
def wsJ0_charAt_5068e_r2 : List Cond := [Cond.methodLink RJ2 67 yJ2_checkIndex_2214a, Cond.static yJ2_checkIndex_2214a, Cond.code yJ2_checkIndex_2214a cJ2_checkIndex_2214a 2 none, Cond.methodLink RJ2 48 yJ2_length_9d52b, Cond.static yJ2_length_9d52b, Cond.code yJ2_length_9d52b cJ2_length_9d52b 1 (some .int), Cond.methodLink RJ2 414 yJ0_checkIndex_df160, Cond.methodLink RJ2 71 yJ2_getChar_3b067, Cond.static yJ2_getChar_3b067, Cond.code yJ2_getChar_3b067 cJ2_getChar_3b067 2 (some .char), Cond.fieldLink RJ2 44 "java/lang/StringUTF16" "$assertionsDisabled" "Z", Cond.fieldLink RJ2 59 "java/lang/StringUTF16" "HI_BYTE_SHIFT" "I", Cond.fieldLink RJ2 63 "java/lang/StringUTF16" "LO_BYTE_SHIFT" "I"]
def wsJ0_charAt_5068e : List Cond := .code yJ0_charAt_5068e cJ0_charAt_5068e 2 (some .char) :: ((wsJ0_charAt_5068e_r1 ++ wsJ0_charAt_5068e_r2) ++ wsJ00)
def wsX8_spell_r1 : List Cond := [Cond.fieldLink RX8 51 "CapabilityStore" "spelled" "Ljava/lang/StringBuilder;", Cond.fieldLink RX8 12 "CapabilityStore" "now" "LCapabilityStore$State;", Cond.fieldLink RX8 66 "CapabilityStore$State" "tokens" "LCapabilityStore$Tokens;", Cond.fieldLink RX8 175 "CapabilityStore$Tokens" "caveats" "[I", Cond.fieldLink RX8 189 "CapabilityStore$Tokens" "kind" "[I", Cond.fieldLink RX8 190 "CapabilityStore$Tokens" "first" "[I", Cond.fieldLink RX8 191 "CapabilityStore$Tokens" "second" "[I", Cond.methodLink RX8 400 yJ4_setLength_d00df, Cond.instanceMethod yJ4_setLength_d00df, Cond.selects RJ4 yJ4_setLength_d00df yJ4_setLength_d00df, Cond.initialized RJ4, Cond.code yJ4_setLength_d00df cJ4_setLength_d00df 2 none, Cond.methodLink RJ4 333 yJ5_setLength_d00df, Cond.sameMethod "java/lang/AbstractStringBuilder" "java/lang/AbstractStringBuilder" "setLength" "(I)V", Cond.superclass RJ4 RJ5, Cond.instanceMethod yJ5_setLength_d00df, Cond.initialized RJ5, Cond.code yJ5_setLength_d00df cJ5_setLength_d00df 2 none, Cond.classLink RJ5 129 RJx7c733, Cond.instantiable RJx7c733 6, Cond.initialized RJx7c733, Cond.fieldLink RJ5 79 "java/lang/AbstractStringBuilder" "count" "I", Cond.fieldLink RJ5 15 "java/lang/AbstractStringBuilder" "value" "[B", Cond.fieldLink RJ5 73 "java/lang/AbstractStringBuilder" "maybeLatin1" "Z"]
def wsX8_spell_r2 : List Cond := [Cond.methodLink RJ5 100 ⟨"java/lang/AbstractStringBuilder", "ensureCapacityInternal", "(I)V"⟩, Cond.sameMethod "java/lang/AbstractStringBuilder" "java/lang/AbstractStringBuilder" "ensureCapacityInternal" "(I)V", Cond.selects RJ4 ⟨"java/lang/AbstractStringBuilder", "ensureCapacityInternal", "(I)V"⟩ yJ5_ensureCapacityInternal_d00df, Cond.instanceMethod yJ5_ensureCapacityInternal_d00df, Cond.code yJ5_ensureCapacityInternal_d00df cJ5_ensureCapacityInternal_d00df 3 none, Cond.fieldLink RJ5 22 "java/lang/AbstractStringBuilder" "coder" "B", Cond.methodLink RJ5 104 ⟨"java/lang/AbstractStringBuilder", "newCapacity", "(I)I"⟩, Cond.sameMethod "java/lang/AbstractStringBuilder" "java/lang/AbstractStringBuilder" "newCapacity" "(I)I", Cond.selects RJ4 ⟨"java/lang/AbstractStringBuilder", "newCapacity", "(I)I"⟩ yJ5_newCapacity_0f7a4, Cond.instanceMethod yJ5_newCapacity_0f7a4, Cond.code yJ5_newCapacity_0f7a4 cJ5_newCapacity_0f7a4 6 (some .int), Cond.constant RJ5 39 (2147483647), Cond.methodLink RJ5 114 yJ8_newLength_cabcc, Cond.static yJ8_newLength_cabcc, Cond.initialized RJ8, Cond.code yJ8_newLength_cabcc cJ8_newLength_cabcc 4 (some .int), Cond.methodLink RJ8 194 Lib.Math.max.name, Cond.static Lib.Math.max.name, Cond.initialized "java/lang/Math", Cond.code Lib.Math.max.name Lib.Math.max.code 2 (some .int), Cond.constant RJ8 200 (2147483639), Cond.methodLink RJ8 201 yJ8_hugeLength_7cf53, Cond.static yJ8_hugeLength_7cf53, Cond.code yJ8_hugeLength_7cf53 cJ8_hugeLength_7cf53 3 (some .int)]
def wsX8_spell_r3 : List Cond := [Cond.methodLink RJ5 108 yJ7_copyOf_9075b, Cond.static yJ7_copyOf_9075b, Cond.initialized RJ7, Cond.code yJ7_copyOf_9075b cJ7_copyOf_9075b 3 (some (.array .byte)), Cond.methodLink RJ7 310 ⟨"[B", "clone", "()Ljava/lang/Object;"⟩, Cond.sameMethod "[B" "java/lang/Object" "clone" "()Ljava/lang/Object;", Cond.native ⟨"java/lang/Object", "clone", "()Ljava/lang/Object;"⟩, Cond.instanceMethod ⟨"java/lang/Object", "clone", "()Ljava/lang/Object;"⟩, Cond.selects "[B" ⟨"[B", "clone", "()Ljava/lang/Object;"⟩ ⟨"java/lang/Object", "clone", "()Ljava/lang/Object;"⟩, Cond.classLink RJ7 311 "[B", Cond.arrayClass .byte, Cond.methodLink RJ7 304 Lib.Math.min.name, Cond.static Lib.Math.min.name, Cond.code Lib.Math.min.name Lib.Math.min.code 2 (some .int), Cond.methodLink RJ7 150 arraycopyName, Cond.native arraycopyName, Cond.static arraycopyName, Cond.initialized "java/lang/System", Cond.methodLink RJ5 83 ⟨"java/lang/AbstractStringBuilder", "isLatin1", "()Z"⟩, Cond.sameMethod "java/lang/AbstractStringBuilder" "java/lang/AbstractStringBuilder" "isLatin1" "()Z", Cond.selects RJ4 ⟨"java/lang/AbstractStringBuilder", "isLatin1", "()Z"⟩ yJ5_isLatin1_aae02, Cond.instanceMethod yJ5_isLatin1_aae02, Cond.code yJ5_isLatin1_aae02 cJ5_isLatin1_aae02 1 (some .boolean), Cond.fieldLink RJ5 18 "java/lang/String" "COMPACT_STRINGS" "Z"]
def wsX8_spell_r4 : List Cond := [Cond.methodLink RJ5 133 yJ1_fillNull_b72d1, Cond.static yJ1_fillNull_b72d1, Cond.initialized RJ1, Cond.code yJ1_fillNull_b72d1 cJ1_fillNull_b72d1 3 none, Cond.methodLink RJ1 236 yJ7_fill_eb02e, Cond.static yJ7_fill_eb02e, Cond.code yJ7_fill_eb02e cJ7_fill_eb02e 5 none, Cond.methodLink RJ7 13 yJ7_rangeCheck_23922, Cond.static yJ7_rangeCheck_23922, Cond.code yJ7_rangeCheck_23922 cJ7_rangeCheck_23922 3 none, Cond.classLink RJ7 45 RJ4, Cond.instantiable RJ4 4, Cond.classLink RJ7 68 RJx00060, Cond.instantiable RJx00060 6, Cond.initialized RJx00060, Cond.methodLink RJ5 137 yJ2_fillNull_b72d1, Cond.static yJ2_fillNull_b72d1, Cond.initialized RJ2, Cond.code yJ2_fillNull_b72d1 cJ2_fillNull_b72d1 3 none, Cond.methodLink RJ2 380 yJ7_fill_eb02e, Cond.methodLink RX8 403 yJ4_append_cf468, Cond.instanceMethod yJ4_append_cf468, Cond.selects RJ4 yJ4_append_cf468 yJ4_append_cf468, Cond.code yJ4_append_cf468 cJ4_append_cf468 2 (some (.object "java/lang/StringBuilder"))]
def wsX8_spell_r5 : List Cond := [Cond.methodLink RJ4 50 yJ5_append_3fe6f, Cond.sameMethod "java/lang/AbstractStringBuilder" "java/lang/AbstractStringBuilder" "append" "(C)Ljava/lang/AbstractStringBuilder;", Cond.instanceMethod yJ5_append_3fe6f, Cond.code yJ5_append_3fe6f cJ5_append_3fe6f 2 (some (.object "java/lang/AbstractStringBuilder")), Cond.methodLink RJ5 191 yJ1_canEncode_fc78d, Cond.static yJ1_canEncode_fc78d, Cond.code yJ1_canEncode_fc78d cJ1_canEncode_fc78d 1 (some .boolean), Cond.methodLink RJ5 195 ⟨"java/lang/AbstractStringBuilder", "inflate", "()V"⟩, Cond.sameMethod "java/lang/AbstractStringBuilder" "java/lang/AbstractStringBuilder" "inflate" "()V", Cond.selects RJ4 ⟨"java/lang/AbstractStringBuilder", "inflate", "()V"⟩ yJ5_inflate_da8c8, Cond.instanceMethod yJ5_inflate_da8c8, Cond.code yJ5_inflate_da8c8 cJ5_inflate_da8c8 2 none, Cond.methodLink RJ5 26 yJ2_newBytesFor_77867, Cond.static yJ2_newBytesFor_77867, Cond.code yJ2_newBytesFor_77867 cJ2_newBytesFor_77867 1 (some (.array .byte)), Cond.methodLink RJ2 11 yJ2_newBytesLength_0f7a4, Cond.static yJ2_newBytesLength_0f7a4, Cond.code yJ2_newBytesLength_0f7a4 cJ2_newBytesLength_0f7a4 1 (some .int), Cond.constant RJ2 20 (1073741823), Cond.methodLink RJ5 125 yJ1_inflate_0e8fd, Cond.static yJ1_inflate_0e8fd, Cond.code yJ1_inflate_0e8fd cJ1_inflate_0e8fd 5 none, Cond.methodLink RJ1 240 yJ2_inflate_0e8fd, Cond.static yJ2_inflate_0e8fd]
def wsX8_spell_r6 : List Cond := [Cond.code yJ2_inflate_0e8fd cJ2_inflate_0e8fd 6 none, Cond.methodLink RJ2 173 yJ2_checkBoundsOffCount_d044e, Cond.static yJ2_checkBoundsOffCount_d044e, Cond.code yJ2_checkBoundsOffCount_d044e cJ2_checkBoundsOffCount_d044e 3 none, Cond.methodLink RJ2 48 yJ2_length_9d52b, Cond.static yJ2_length_9d52b, Cond.code yJ2_length_9d52b cJ2_length_9d52b 1 (some .int), Cond.methodLink RJ2 419 yJ0_checkBoundsOffCount_cabcc, Cond.static yJ0_checkBoundsOffCount_cabcc, Cond.initialized RJ0, Cond.code yJ0_checkBoundsOffCount_cabcc cJ0_checkBoundsOffCount_cabcc 3 (some .int), Cond.fieldLink RJ0 1053 "jdk/internal/util/Preconditions" "SIOOBE_FORMATTER" "Ljava/util/function/BiFunction;", Cond.methodLink RJ0 1065 yJ3_checkFromIndexSize_8c36e, Cond.static yJ3_checkFromIndexSize_8c36e, Cond.initialized RJ3, Cond.code yJ3_checkFromIndexSize_8c36e cJ3_checkFromIndexSize_8c36e 4 (some .int), Cond.methodLink RJ2 111 yJ2_putChar_b72d1, Cond.static yJ2_putChar_b72d1, Cond.code yJ2_putChar_b72d1 cJ2_putChar_b72d1 3 none, Cond.fieldLink RJ2 44 "java/lang/StringUTF16" "$assertionsDisabled" "Z", Cond.fieldLink RJ2 59 "java/lang/StringUTF16" "HI_BYTE_SHIFT" "I", Cond.fieldLink RJ2 63 "java/lang/StringUTF16" "LO_BYTE_SHIFT" "I", Cond.methodLink RJ5 197 yJ2_putCharSB_b72d1, Cond.static yJ2_putCharSB_b72d1]
def wsX8_spell_r7 : List Cond := [Cond.code yJ2_putCharSB_b72d1 cJ2_putCharSB_b72d1 3 none, Cond.methodLink RJ2 67 yJ2_checkIndex_2214a, Cond.static yJ2_checkIndex_2214a, Cond.code yJ2_checkIndex_2214a cJ2_checkIndex_2214a 2 none, Cond.methodLink RJ2 414 yJ0_checkIndex_df160, Cond.static yJ0_checkIndex_df160, Cond.code yJ0_checkIndex_df160 cJ0_checkIndex_df160 2 none, Cond.methodLink RJ0 1059 yJ3_checkIndex_8e157, Cond.static yJ3_checkIndex_8e157, Cond.code yJ3_checkIndex_8e157 cJ3_checkIndex_8e157 3 (some .int), Cond.methodLink RX8 409 yJ0_charAt_5068e, Cond.instanceMethod yJ0_charAt_5068e, Cond.selects RJ0 yJ0_charAt_5068e yJ0_charAt_5068e, Cond.code yJ0_charAt_5068e cJ0_charAt_5068e 2 (some .char), Cond.fieldLink RJ0 9 "java/lang/String" "value" "[B", Cond.methodLink RJ0 492 yJ0_isLatin1_aae02, Cond.instanceMethod yJ0_isLatin1_aae02, Cond.selects RJ0 yJ0_isLatin1_aae02 yJ0_isLatin1_aae02, Cond.code yJ0_isLatin1_aae02 cJ0_isLatin1_aae02 1 (some .boolean), Cond.fieldLink RJ0 38 "java/lang/String" "COMPACT_STRINGS" "Z", Cond.fieldLink RJ0 15 "java/lang/String" "coder" "B", Cond.methodLink RJ0 495 yJ1_charAt_3b067, Cond.static yJ1_charAt_3b067, Cond.code yJ1_charAt_3b067 cJ1_charAt_3b067 2 (some .char)]
def wsX8_spell_r8 : List Cond := [Cond.methodLink RJ1 9 yJ0_checkIndex_df160, Cond.methodLink RJ0 498 yJ2_charAt_3b067, Cond.static yJ2_charAt_3b067, Cond.code yJ2_charAt_3b067 cJ2_charAt_3b067 2 (some .char), Cond.methodLink RJ2 71 yJ2_getChar_3b067, Cond.static yJ2_getChar_3b067, Cond.code yJ2_getChar_3b067 cJ2_getChar_3b067 2 (some .char), Cond.methodLink RX8 412 yJ4_append_bf812, Cond.instanceMethod yJ4_append_bf812, Cond.selects RJ4 yJ4_append_bf812 yJ4_append_bf812, Cond.code yJ4_append_bf812 cJ4_append_bf812 2 (some (.object "java/lang/StringBuilder")), Cond.methodLink RJ4 53 yJ5_append_c97b9, Cond.sameMethod "java/lang/AbstractStringBuilder" "java/lang/AbstractStringBuilder" "append" "(I)Ljava/lang/AbstractStringBuilder;", Cond.instanceMethod yJ5_append_c97b9, Cond.code yJ5_append_c97b9 cJ5_append_c97b9 4 (some (.object "java/lang/AbstractStringBuilder")), Cond.methodLink RJ5 245 yJ6_stringSize_0f7a4, Cond.static yJ6_stringSize_0f7a4, Cond.initialized RJ6, Cond.code yJ6_stringSize_0f7a4 cJ6_stringSize_0f7a4 4 (some .int), Cond.methodLink RJ5 248 yJ6_getChars_ba4f3, Cond.static yJ6_getChars_ba4f3, Cond.code yJ6_getChars_ba4f3 cJ6_getChars_ba4f3 7 (some .int), Cond.fieldLink RJ6 83 "java/lang/Integer" "DigitOnes" "[B", Cond.fieldLink RJ6 87 "java/lang/Integer" "DigitTens" "[B"]
def wsX8_spell_r9 : List Cond := [Cond.methodLink RJ5 251 yJ2_getChars_46870, Cond.static yJ2_getChars_46870, Cond.code yJ2_getChars_46870 cJ2_getChars_46870 5 (some .int), Cond.methodLink RJ2 96 yJ2_checkBoundsBeginEnd_d044e, Cond.static yJ2_checkBoundsBeginEnd_d044e, Cond.code yJ2_checkBoundsBeginEnd_d044e cJ2_checkBoundsBeginEnd_d044e 3 none, Cond.methodLink RJ2 241 yJ0_checkBoundsBeginEnd_23922, Cond.static yJ0_checkBoundsBeginEnd_23922, Cond.code yJ0_checkBoundsBeginEnd_23922 cJ0_checkBoundsBeginEnd_23922 3 none, Cond.methodLink RJ0 1062 yJ3_checkFromToIndex_8c36e, Cond.static yJ3_checkFromToIndex_8c36e, Cond.code yJ3_checkFromToIndex_8c36e cJ3_checkFromToIndex_8c36e 4 (some .int), Cond.methodLink RJ2 393 yJ2_getChars_ba4f3, Cond.static yJ2_getChars_ba4f3, Cond.code yJ2_getChars_ba4f3 cJ2_getChars_ba4f3 7 (some .int), Cond.fieldLink RJ2 403 "java/lang/Integer" "DigitOnes" "[B", Cond.fieldLink RJ2 407 "java/lang/Integer" "DigitTens" "[B"]
def wsX8_spell : List Cond := .code yX8_spell cX8_spell 4 none :: ((wsX8_spell_r1 ++ (wsX8_spell_r2 ++ (wsX8_spell_r3 ++ (wsX8_spell_r4 ++ (wsX8_spell_r5 ++ (wsX8_spell_r6 ++ (wsX8_spell_r7 ++ (wsX8_spell_r8 ++ wsX8_spell_r9)))))))) ++ wsX80 ++ wsX60 ++ wsX70 ++ wsJx7c7330 ++ wsJ40 ++ wsJx000600 ++ wsJ00 ++ zPad)
def wsX8_describe_r1 : List Cond := [Cond.fieldLink RX8 51 "CapabilityStore" "spelled" "Ljava/lang/StringBuilder;", Cond.methodLink RX8 97 yX8_needToken, Cond.instanceMethod yX8_needToken, Cond.selects RX8 yX8_needToken yX8_needToken, Cond.initialized RX8, Cond.code yX8_needToken cX8_needToken 2 none, Cond.fieldLink RX8 12 "CapabilityStore" "now" "LCapabilityStore$State;", Cond.fieldLink RX8 66 "CapabilityStore$State" "tokens" "LCapabilityStore$Tokens;", Cond.fieldLink RX8 70 "CapabilityStore$Tokens" "count" "I", Cond.methodLink RX8 186 yX8_needIndex, Cond.static yX8_needIndex, Cond.code yX8_needIndex cX8_needIndex 1 none, Cond.classLink RX8 361 "java/lang/IndexOutOfBoundsException", Cond.initialized "java/lang/IndexOutOfBoundsException", Cond.methodLink RX8 192 yX8_spell, Cond.instanceMethod yX8_spell, Cond.selects RX8 yX8_spell yX8_spell, Cond.code yX8_spell cX8_spell 4 none, Cond.fieldLink RX8 175 "CapabilityStore$Tokens" "caveats" "[I", Cond.fieldLink RX8 189 "CapabilityStore$Tokens" "kind" "[I", Cond.fieldLink RX8 190 "CapabilityStore$Tokens" "first" "[I", Cond.fieldLink RX8 191 "CapabilityStore$Tokens" "second" "[I", Cond.methodLink RX8 400 yJ4_setLength_d00df, Cond.instanceMethod yJ4_setLength_d00df]
def wsX8_describe_r2 : List Cond := [Cond.selects RJ4 yJ4_setLength_d00df yJ4_setLength_d00df, Cond.initialized RJ4, Cond.code yJ4_setLength_d00df cJ4_setLength_d00df 2 none, Cond.methodLink RJ4 333 yJ5_setLength_d00df, Cond.sameMethod "java/lang/AbstractStringBuilder" "java/lang/AbstractStringBuilder" "setLength" "(I)V", Cond.superclass RJ4 RJ5, Cond.instanceMethod yJ5_setLength_d00df, Cond.initialized RJ5, Cond.code yJ5_setLength_d00df cJ5_setLength_d00df 2 none, Cond.classLink RJ5 129 RJx7c733, Cond.instantiable RJx7c733 6, Cond.initialized RJx7c733, Cond.fieldLink RJ5 79 "java/lang/AbstractStringBuilder" "count" "I", Cond.fieldLink RJ5 15 "java/lang/AbstractStringBuilder" "value" "[B", Cond.fieldLink RJ5 73 "java/lang/AbstractStringBuilder" "maybeLatin1" "Z", Cond.methodLink RJ5 100 ⟨"java/lang/AbstractStringBuilder", "ensureCapacityInternal", "(I)V"⟩, Cond.sameMethod "java/lang/AbstractStringBuilder" "java/lang/AbstractStringBuilder" "ensureCapacityInternal" "(I)V", Cond.selects RJ4 ⟨"java/lang/AbstractStringBuilder", "ensureCapacityInternal", "(I)V"⟩ yJ5_ensureCapacityInternal_d00df, Cond.instanceMethod yJ5_ensureCapacityInternal_d00df, Cond.code yJ5_ensureCapacityInternal_d00df cJ5_ensureCapacityInternal_d00df 3 none, Cond.fieldLink RJ5 22 "java/lang/AbstractStringBuilder" "coder" "B", Cond.methodLink RJ5 104 ⟨"java/lang/AbstractStringBuilder", "newCapacity", "(I)I"⟩, Cond.sameMethod "java/lang/AbstractStringBuilder" "java/lang/AbstractStringBuilder" "newCapacity" "(I)I", Cond.selects RJ4 ⟨"java/lang/AbstractStringBuilder", "newCapacity", "(I)I"⟩ yJ5_newCapacity_0f7a4]
def wsX8_describe_r3 : List Cond := [Cond.instanceMethod yJ5_newCapacity_0f7a4, Cond.code yJ5_newCapacity_0f7a4 cJ5_newCapacity_0f7a4 6 (some .int), Cond.constant RJ5 39 (2147483647), Cond.methodLink RJ5 114 yJ8_newLength_cabcc, Cond.static yJ8_newLength_cabcc, Cond.initialized RJ8, Cond.code yJ8_newLength_cabcc cJ8_newLength_cabcc 4 (some .int), Cond.methodLink RJ8 194 Lib.Math.max.name, Cond.static Lib.Math.max.name, Cond.initialized "java/lang/Math", Cond.code Lib.Math.max.name Lib.Math.max.code 2 (some .int), Cond.constant RJ8 200 (2147483639), Cond.methodLink RJ8 201 yJ8_hugeLength_7cf53, Cond.static yJ8_hugeLength_7cf53, Cond.code yJ8_hugeLength_7cf53 cJ8_hugeLength_7cf53 3 (some .int), Cond.methodLink RJ5 108 yJ7_copyOf_9075b, Cond.static yJ7_copyOf_9075b, Cond.initialized RJ7, Cond.code yJ7_copyOf_9075b cJ7_copyOf_9075b 3 (some (.array .byte)), Cond.methodLink RJ7 310 ⟨"[B", "clone", "()Ljava/lang/Object;"⟩, Cond.sameMethod "[B" "java/lang/Object" "clone" "()Ljava/lang/Object;", Cond.native ⟨"java/lang/Object", "clone", "()Ljava/lang/Object;"⟩, Cond.instanceMethod ⟨"java/lang/Object", "clone", "()Ljava/lang/Object;"⟩, Cond.selects "[B" ⟨"[B", "clone", "()Ljava/lang/Object;"⟩ ⟨"java/lang/Object", "clone", "()Ljava/lang/Object;"⟩]
def wsX8_describe_r4 : List Cond := [Cond.classLink RJ7 311 "[B", Cond.arrayClass .byte, Cond.methodLink RJ7 304 Lib.Math.min.name, Cond.static Lib.Math.min.name, Cond.code Lib.Math.min.name Lib.Math.min.code 2 (some .int), Cond.methodLink RJ7 150 arraycopyName, Cond.native arraycopyName, Cond.static arraycopyName, Cond.initialized "java/lang/System", Cond.methodLink RJ5 83 ⟨"java/lang/AbstractStringBuilder", "isLatin1", "()Z"⟩, Cond.sameMethod "java/lang/AbstractStringBuilder" "java/lang/AbstractStringBuilder" "isLatin1" "()Z", Cond.selects RJ4 ⟨"java/lang/AbstractStringBuilder", "isLatin1", "()Z"⟩ yJ5_isLatin1_aae02, Cond.instanceMethod yJ5_isLatin1_aae02, Cond.code yJ5_isLatin1_aae02 cJ5_isLatin1_aae02 1 (some .boolean), Cond.fieldLink RJ5 18 "java/lang/String" "COMPACT_STRINGS" "Z", Cond.methodLink RJ5 133 yJ1_fillNull_b72d1, Cond.static yJ1_fillNull_b72d1, Cond.initialized RJ1, Cond.code yJ1_fillNull_b72d1 cJ1_fillNull_b72d1 3 none, Cond.methodLink RJ1 236 yJ7_fill_eb02e, Cond.static yJ7_fill_eb02e, Cond.code yJ7_fill_eb02e cJ7_fill_eb02e 5 none, Cond.methodLink RJ7 13 yJ7_rangeCheck_23922, Cond.static yJ7_rangeCheck_23922]
def wsX8_describe_r5 : List Cond := [Cond.code yJ7_rangeCheck_23922 cJ7_rangeCheck_23922 3 none, Cond.classLink RJ7 45 RJ4, Cond.instantiable RJ4 4, Cond.classLink RJ7 68 RJx00060, Cond.instantiable RJx00060 6, Cond.initialized RJx00060, Cond.methodLink RJ5 137 yJ2_fillNull_b72d1, Cond.static yJ2_fillNull_b72d1, Cond.initialized RJ2, Cond.code yJ2_fillNull_b72d1 cJ2_fillNull_b72d1 3 none, Cond.methodLink RJ2 380 yJ7_fill_eb02e, Cond.methodLink RX8 403 yJ4_append_cf468, Cond.instanceMethod yJ4_append_cf468, Cond.selects RJ4 yJ4_append_cf468 yJ4_append_cf468, Cond.code yJ4_append_cf468 cJ4_append_cf468 2 (some (.object "java/lang/StringBuilder")), Cond.methodLink RJ4 50 yJ5_append_3fe6f, Cond.sameMethod "java/lang/AbstractStringBuilder" "java/lang/AbstractStringBuilder" "append" "(C)Ljava/lang/AbstractStringBuilder;", Cond.instanceMethod yJ5_append_3fe6f, Cond.code yJ5_append_3fe6f cJ5_append_3fe6f 2 (some (.object "java/lang/AbstractStringBuilder")), Cond.methodLink RJ5 191 yJ1_canEncode_fc78d, Cond.static yJ1_canEncode_fc78d, Cond.code yJ1_canEncode_fc78d cJ1_canEncode_fc78d 1 (some .boolean), Cond.methodLink RJ5 195 ⟨"java/lang/AbstractStringBuilder", "inflate", "()V"⟩, Cond.sameMethod "java/lang/AbstractStringBuilder" "java/lang/AbstractStringBuilder" "inflate" "()V"]
def wsX8_describe_r6 : List Cond := [Cond.selects RJ4 ⟨"java/lang/AbstractStringBuilder", "inflate", "()V"⟩ yJ5_inflate_da8c8, Cond.instanceMethod yJ5_inflate_da8c8, Cond.code yJ5_inflate_da8c8 cJ5_inflate_da8c8 2 none, Cond.methodLink RJ5 26 yJ2_newBytesFor_77867, Cond.static yJ2_newBytesFor_77867, Cond.code yJ2_newBytesFor_77867 cJ2_newBytesFor_77867 1 (some (.array .byte)), Cond.methodLink RJ2 11 yJ2_newBytesLength_0f7a4, Cond.static yJ2_newBytesLength_0f7a4, Cond.code yJ2_newBytesLength_0f7a4 cJ2_newBytesLength_0f7a4 1 (some .int), Cond.constant RJ2 20 (1073741823), Cond.methodLink RJ5 125 yJ1_inflate_0e8fd, Cond.static yJ1_inflate_0e8fd, Cond.code yJ1_inflate_0e8fd cJ1_inflate_0e8fd 5 none, Cond.methodLink RJ1 240 yJ2_inflate_0e8fd, Cond.static yJ2_inflate_0e8fd, Cond.code yJ2_inflate_0e8fd cJ2_inflate_0e8fd 6 none, Cond.methodLink RJ2 173 yJ2_checkBoundsOffCount_d044e, Cond.static yJ2_checkBoundsOffCount_d044e, Cond.code yJ2_checkBoundsOffCount_d044e cJ2_checkBoundsOffCount_d044e 3 none, Cond.methodLink RJ2 48 yJ2_length_9d52b, Cond.static yJ2_length_9d52b, Cond.code yJ2_length_9d52b cJ2_length_9d52b 1 (some .int), Cond.methodLink RJ2 419 yJ0_checkBoundsOffCount_cabcc, Cond.static yJ0_checkBoundsOffCount_cabcc]
def wsX8_describe_r7 : List Cond := [Cond.initialized RJ0, Cond.code yJ0_checkBoundsOffCount_cabcc cJ0_checkBoundsOffCount_cabcc 3 (some .int), Cond.fieldLink RJ0 1053 "jdk/internal/util/Preconditions" "SIOOBE_FORMATTER" "Ljava/util/function/BiFunction;", Cond.methodLink RJ0 1065 yJ3_checkFromIndexSize_8c36e, Cond.static yJ3_checkFromIndexSize_8c36e, Cond.initialized RJ3, Cond.code yJ3_checkFromIndexSize_8c36e cJ3_checkFromIndexSize_8c36e 4 (some .int), Cond.methodLink RJ2 111 yJ2_putChar_b72d1, Cond.static yJ2_putChar_b72d1, Cond.code yJ2_putChar_b72d1 cJ2_putChar_b72d1 3 none, Cond.fieldLink RJ2 44 "java/lang/StringUTF16" "$assertionsDisabled" "Z", Cond.fieldLink RJ2 59 "java/lang/StringUTF16" "HI_BYTE_SHIFT" "I", Cond.fieldLink RJ2 63 "java/lang/StringUTF16" "LO_BYTE_SHIFT" "I", Cond.methodLink RJ5 197 yJ2_putCharSB_b72d1, Cond.static yJ2_putCharSB_b72d1, Cond.code yJ2_putCharSB_b72d1 cJ2_putCharSB_b72d1 3 none, Cond.methodLink RJ2 67 yJ2_checkIndex_2214a, Cond.static yJ2_checkIndex_2214a, Cond.code yJ2_checkIndex_2214a cJ2_checkIndex_2214a 2 none, Cond.methodLink RJ2 414 yJ0_checkIndex_df160, Cond.static yJ0_checkIndex_df160, Cond.code yJ0_checkIndex_df160 cJ0_checkIndex_df160 2 none, Cond.methodLink RJ0 1059 yJ3_checkIndex_8e157, Cond.static yJ3_checkIndex_8e157]
def wsX8_describe_r8 : List Cond := [Cond.code yJ3_checkIndex_8e157 cJ3_checkIndex_8e157 3 (some .int), Cond.methodLink RX8 409 yJ0_charAt_5068e, Cond.instanceMethod yJ0_charAt_5068e, Cond.selects RJ0 yJ0_charAt_5068e yJ0_charAt_5068e, Cond.code yJ0_charAt_5068e cJ0_charAt_5068e 2 (some .char), Cond.fieldLink RJ0 9 "java/lang/String" "value" "[B", Cond.methodLink RJ0 492 yJ0_isLatin1_aae02, Cond.instanceMethod yJ0_isLatin1_aae02, Cond.selects RJ0 yJ0_isLatin1_aae02 yJ0_isLatin1_aae02, Cond.code yJ0_isLatin1_aae02 cJ0_isLatin1_aae02 1 (some .boolean), Cond.fieldLink RJ0 38 "java/lang/String" "COMPACT_STRINGS" "Z", Cond.fieldLink RJ0 15 "java/lang/String" "coder" "B", Cond.methodLink RJ0 495 yJ1_charAt_3b067, Cond.static yJ1_charAt_3b067, Cond.code yJ1_charAt_3b067 cJ1_charAt_3b067 2 (some .char), Cond.methodLink RJ1 9 yJ0_checkIndex_df160, Cond.methodLink RJ0 498 yJ2_charAt_3b067, Cond.static yJ2_charAt_3b067, Cond.code yJ2_charAt_3b067 cJ2_charAt_3b067 2 (some .char), Cond.methodLink RJ2 71 yJ2_getChar_3b067, Cond.static yJ2_getChar_3b067, Cond.code yJ2_getChar_3b067 cJ2_getChar_3b067 2 (some .char), Cond.methodLink RX8 412 yJ4_append_bf812, Cond.instanceMethod yJ4_append_bf812]
def wsX8_describe_r9 : List Cond := [Cond.selects RJ4 yJ4_append_bf812 yJ4_append_bf812, Cond.code yJ4_append_bf812 cJ4_append_bf812 2 (some (.object "java/lang/StringBuilder")), Cond.methodLink RJ4 53 yJ5_append_c97b9, Cond.sameMethod "java/lang/AbstractStringBuilder" "java/lang/AbstractStringBuilder" "append" "(I)Ljava/lang/AbstractStringBuilder;", Cond.instanceMethod yJ5_append_c97b9, Cond.code yJ5_append_c97b9 cJ5_append_c97b9 4 (some (.object "java/lang/AbstractStringBuilder")), Cond.methodLink RJ5 245 yJ6_stringSize_0f7a4, Cond.static yJ6_stringSize_0f7a4, Cond.initialized RJ6, Cond.code yJ6_stringSize_0f7a4 cJ6_stringSize_0f7a4 4 (some .int), Cond.methodLink RJ5 248 yJ6_getChars_ba4f3, Cond.static yJ6_getChars_ba4f3, Cond.code yJ6_getChars_ba4f3 cJ6_getChars_ba4f3 7 (some .int), Cond.fieldLink RJ6 83 "java/lang/Integer" "DigitOnes" "[B", Cond.fieldLink RJ6 87 "java/lang/Integer" "DigitTens" "[B", Cond.methodLink RJ5 251 yJ2_getChars_46870, Cond.static yJ2_getChars_46870, Cond.code yJ2_getChars_46870 cJ2_getChars_46870 5 (some .int), Cond.methodLink RJ2 96 yJ2_checkBoundsBeginEnd_d044e, Cond.static yJ2_checkBoundsBeginEnd_d044e, Cond.code yJ2_checkBoundsBeginEnd_d044e cJ2_checkBoundsBeginEnd_d044e 3 none, Cond.methodLink RJ2 241 yJ0_checkBoundsBeginEnd_23922, Cond.static yJ0_checkBoundsBeginEnd_23922, Cond.code yJ0_checkBoundsBeginEnd_23922 cJ0_checkBoundsBeginEnd_23922 3 none]
def wsX8_describe_r10 : List Cond := [Cond.methodLink RJ0 1062 yJ3_checkFromToIndex_8c36e, Cond.static yJ3_checkFromToIndex_8c36e, Cond.code yJ3_checkFromToIndex_8c36e cJ3_checkFromToIndex_8c36e 4 (some .int), Cond.methodLink RJ2 393 yJ2_getChars_ba4f3, Cond.static yJ2_getChars_ba4f3, Cond.code yJ2_getChars_ba4f3 cJ2_getChars_ba4f3 7 (some .int), Cond.fieldLink RJ2 403 "java/lang/Integer" "DigitOnes" "[B", Cond.fieldLink RJ2 407 "java/lang/Integer" "DigitTens" "[B", Cond.methodLink RX8 195 yJ4_length_8abf5, Cond.instanceMethod yJ4_length_8abf5, Cond.selects RJ4 yJ4_length_8abf5 yJ4_length_8abf5, Cond.code yJ4_length_8abf5 cJ4_length_8abf5 1 (some .int), Cond.methodLink RJ4 343 yJ5_length_8abf5, Cond.sameMethod "java/lang/AbstractStringBuilder" "java/lang/AbstractStringBuilder" "length" "()I", Cond.instanceMethod yJ5_length_8abf5, Cond.code yJ5_length_8abf5 cJ5_length_8abf5 1 (some .int), Cond.methodLink RX8 197 yJ4_charAt_5068e, Cond.instanceMethod yJ4_charAt_5068e, Cond.selects RJ4 yJ4_charAt_5068e yJ4_charAt_5068e, Cond.code yJ4_charAt_5068e cJ4_charAt_5068e 2 (some .char), Cond.methodLink RJ4 329 yJ5_charAt_5068e, Cond.sameMethod "java/lang/AbstractStringBuilder" "java/lang/AbstractStringBuilder" "charAt" "(I)C", Cond.instanceMethod yJ5_charAt_5068e, Cond.code yJ5_charAt_5068e cJ5_charAt_5068e 5 (some .char)]
def wsX8_describe_r11 : List Cond := [Cond.methodLink RJ5 138 Lib.Math.min.name, Cond.methodLink RJ5 144 yJ0_checkIndex_df160, Cond.methodLink RJ5 148 yJ2_getChar_3b067]
def wsX8_describe : List Cond := .code yX8_describe cX8_describe 3 (some .int) :: ((wsX8_describe_r1 ++ (wsX8_describe_r2 ++ (wsX8_describe_r3 ++ (wsX8_describe_r4 ++ (wsX8_describe_r5 ++ (wsX8_describe_r6 ++ (wsX8_describe_r7 ++ (wsX8_describe_r8 ++ (wsX8_describe_r9 ++ (wsX8_describe_r10 ++ wsX8_describe_r11)))))))))) ++ wsX80 ++ wsX60 ++ wsX70 ++ wsJx7c7330 ++ wsJ40 ++ wsJx000600 ++ wsJ00 ++ (vx_atS RX8 365 "java/lang/IndexOutOfBoundsException" ["java/lang/RuntimeException", "java/lang/Exception"]).filter goodWord ++ zPad)
def wsL_describe_r1 : List Cond := [Cond.classLink RL 13 "java/lang/IndexOutOfBoundsException", Cond.methodLink RL 46 yX8_describe, Cond.instanceMethod yX8_describe, Cond.selects RX8 yX8_describe yX8_describe, Cond.initialized RX8, Cond.code yX8_describe cX8_describe 3 (some .int), Cond.fieldLink RX8 51 "CapabilityStore" "spelled" "Ljava/lang/StringBuilder;", Cond.methodLink RX8 97 yX8_needToken, Cond.instanceMethod yX8_needToken, Cond.selects RX8 yX8_needToken yX8_needToken, Cond.code yX8_needToken cX8_needToken 2 none, Cond.fieldLink RX8 12 "CapabilityStore" "now" "LCapabilityStore$State;", Cond.fieldLink RX8 66 "CapabilityStore$State" "tokens" "LCapabilityStore$Tokens;", Cond.fieldLink RX8 70 "CapabilityStore$Tokens" "count" "I", Cond.methodLink RX8 186 yX8_needIndex, Cond.static yX8_needIndex, Cond.code yX8_needIndex cX8_needIndex 1 none, Cond.classLink RX8 361 "java/lang/IndexOutOfBoundsException", Cond.initialized "java/lang/IndexOutOfBoundsException", Cond.methodLink RX8 192 yX8_spell, Cond.instanceMethod yX8_spell, Cond.selects RX8 yX8_spell yX8_spell, Cond.code yX8_spell cX8_spell 4 none, Cond.fieldLink RX8 175 "CapabilityStore$Tokens" "caveats" "[I"]
def wsL_describe_r2 : List Cond := [Cond.fieldLink RX8 189 "CapabilityStore$Tokens" "kind" "[I", Cond.fieldLink RX8 190 "CapabilityStore$Tokens" "first" "[I", Cond.fieldLink RX8 191 "CapabilityStore$Tokens" "second" "[I", Cond.methodLink RX8 400 yJ4_setLength_d00df, Cond.instanceMethod yJ4_setLength_d00df, Cond.selects RJ4 yJ4_setLength_d00df yJ4_setLength_d00df, Cond.initialized RJ4, Cond.code yJ4_setLength_d00df cJ4_setLength_d00df 2 none, Cond.methodLink RJ4 333 yJ5_setLength_d00df, Cond.sameMethod "java/lang/AbstractStringBuilder" "java/lang/AbstractStringBuilder" "setLength" "(I)V", Cond.superclass RJ4 RJ5, Cond.instanceMethod yJ5_setLength_d00df, Cond.initialized RJ5, Cond.code yJ5_setLength_d00df cJ5_setLength_d00df 2 none, Cond.classLink RJ5 129 RJx7c733, Cond.instantiable RJx7c733 6, Cond.initialized RJx7c733, Cond.fieldLink RJ5 79 "java/lang/AbstractStringBuilder" "count" "I", Cond.fieldLink RJ5 15 "java/lang/AbstractStringBuilder" "value" "[B", Cond.fieldLink RJ5 73 "java/lang/AbstractStringBuilder" "maybeLatin1" "Z", Cond.methodLink RJ5 100 ⟨"java/lang/AbstractStringBuilder", "ensureCapacityInternal", "(I)V"⟩, Cond.sameMethod "java/lang/AbstractStringBuilder" "java/lang/AbstractStringBuilder" "ensureCapacityInternal" "(I)V", Cond.selects RJ4 ⟨"java/lang/AbstractStringBuilder", "ensureCapacityInternal", "(I)V"⟩ yJ5_ensureCapacityInternal_d00df, Cond.instanceMethod yJ5_ensureCapacityInternal_d00df]
def wsL_describe_r3 : List Cond := [Cond.code yJ5_ensureCapacityInternal_d00df cJ5_ensureCapacityInternal_d00df 3 none, Cond.fieldLink RJ5 22 "java/lang/AbstractStringBuilder" "coder" "B", Cond.methodLink RJ5 104 ⟨"java/lang/AbstractStringBuilder", "newCapacity", "(I)I"⟩, Cond.sameMethod "java/lang/AbstractStringBuilder" "java/lang/AbstractStringBuilder" "newCapacity" "(I)I", Cond.selects RJ4 ⟨"java/lang/AbstractStringBuilder", "newCapacity", "(I)I"⟩ yJ5_newCapacity_0f7a4, Cond.instanceMethod yJ5_newCapacity_0f7a4, Cond.code yJ5_newCapacity_0f7a4 cJ5_newCapacity_0f7a4 6 (some .int), Cond.constant RJ5 39 (2147483647), Cond.methodLink RJ5 114 yJ8_newLength_cabcc, Cond.static yJ8_newLength_cabcc, Cond.initialized RJ8, Cond.code yJ8_newLength_cabcc cJ8_newLength_cabcc 4 (some .int), Cond.methodLink RJ8 194 Lib.Math.max.name, Cond.static Lib.Math.max.name, Cond.initialized "java/lang/Math", Cond.code Lib.Math.max.name Lib.Math.max.code 2 (some .int), Cond.constant RJ8 200 (2147483639), Cond.methodLink RJ8 201 yJ8_hugeLength_7cf53, Cond.static yJ8_hugeLength_7cf53, Cond.code yJ8_hugeLength_7cf53 cJ8_hugeLength_7cf53 3 (some .int), Cond.methodLink RJ5 108 yJ7_copyOf_9075b, Cond.static yJ7_copyOf_9075b, Cond.initialized RJ7, Cond.code yJ7_copyOf_9075b cJ7_copyOf_9075b 3 (some (.array .byte))]
def wsL_describe_r4 : List Cond := [Cond.methodLink RJ7 310 ⟨"[B", "clone", "()Ljava/lang/Object;"⟩, Cond.sameMethod "[B" "java/lang/Object" "clone" "()Ljava/lang/Object;", Cond.native ⟨"java/lang/Object", "clone", "()Ljava/lang/Object;"⟩, Cond.instanceMethod ⟨"java/lang/Object", "clone", "()Ljava/lang/Object;"⟩, Cond.selects "[B" ⟨"[B", "clone", "()Ljava/lang/Object;"⟩ ⟨"java/lang/Object", "clone", "()Ljava/lang/Object;"⟩, Cond.classLink RJ7 311 "[B", Cond.arrayClass .byte, Cond.methodLink RJ7 304 Lib.Math.min.name, Cond.static Lib.Math.min.name, Cond.code Lib.Math.min.name Lib.Math.min.code 2 (some .int), Cond.methodLink RJ7 150 arraycopyName, Cond.native arraycopyName, Cond.static arraycopyName, Cond.initialized "java/lang/System", Cond.methodLink RJ5 83 ⟨"java/lang/AbstractStringBuilder", "isLatin1", "()Z"⟩, Cond.sameMethod "java/lang/AbstractStringBuilder" "java/lang/AbstractStringBuilder" "isLatin1" "()Z", Cond.selects RJ4 ⟨"java/lang/AbstractStringBuilder", "isLatin1", "()Z"⟩ yJ5_isLatin1_aae02, Cond.instanceMethod yJ5_isLatin1_aae02, Cond.code yJ5_isLatin1_aae02 cJ5_isLatin1_aae02 1 (some .boolean), Cond.fieldLink RJ5 18 "java/lang/String" "COMPACT_STRINGS" "Z", Cond.methodLink RJ5 133 yJ1_fillNull_b72d1, Cond.static yJ1_fillNull_b72d1, Cond.initialized RJ1, Cond.code yJ1_fillNull_b72d1 cJ1_fillNull_b72d1 3 none]
def wsL_describe_r5 : List Cond := [Cond.methodLink RJ1 236 yJ7_fill_eb02e, Cond.static yJ7_fill_eb02e, Cond.code yJ7_fill_eb02e cJ7_fill_eb02e 5 none, Cond.methodLink RJ7 13 yJ7_rangeCheck_23922, Cond.static yJ7_rangeCheck_23922, Cond.code yJ7_rangeCheck_23922 cJ7_rangeCheck_23922 3 none, Cond.classLink RJ7 45 RJ4, Cond.instantiable RJ4 4, Cond.classLink RJ7 68 RJx00060, Cond.instantiable RJx00060 6, Cond.initialized RJx00060, Cond.methodLink RJ5 137 yJ2_fillNull_b72d1, Cond.static yJ2_fillNull_b72d1, Cond.initialized RJ2, Cond.code yJ2_fillNull_b72d1 cJ2_fillNull_b72d1 3 none, Cond.methodLink RJ2 380 yJ7_fill_eb02e, Cond.methodLink RX8 403 yJ4_append_cf468, Cond.instanceMethod yJ4_append_cf468, Cond.selects RJ4 yJ4_append_cf468 yJ4_append_cf468, Cond.code yJ4_append_cf468 cJ4_append_cf468 2 (some (.object "java/lang/StringBuilder")), Cond.methodLink RJ4 50 yJ5_append_3fe6f, Cond.sameMethod "java/lang/AbstractStringBuilder" "java/lang/AbstractStringBuilder" "append" "(C)Ljava/lang/AbstractStringBuilder;", Cond.instanceMethod yJ5_append_3fe6f, Cond.code yJ5_append_3fe6f cJ5_append_3fe6f 2 (some (.object "java/lang/AbstractStringBuilder"))]
def wsL_describe_r6 : List Cond := [Cond.methodLink RJ5 191 yJ1_canEncode_fc78d, Cond.static yJ1_canEncode_fc78d, Cond.code yJ1_canEncode_fc78d cJ1_canEncode_fc78d 1 (some .boolean), Cond.methodLink RJ5 195 ⟨"java/lang/AbstractStringBuilder", "inflate", "()V"⟩, Cond.sameMethod "java/lang/AbstractStringBuilder" "java/lang/AbstractStringBuilder" "inflate" "()V", Cond.selects RJ4 ⟨"java/lang/AbstractStringBuilder", "inflate", "()V"⟩ yJ5_inflate_da8c8, Cond.instanceMethod yJ5_inflate_da8c8, Cond.code yJ5_inflate_da8c8 cJ5_inflate_da8c8 2 none, Cond.methodLink RJ5 26 yJ2_newBytesFor_77867, Cond.static yJ2_newBytesFor_77867, Cond.code yJ2_newBytesFor_77867 cJ2_newBytesFor_77867 1 (some (.array .byte)), Cond.methodLink RJ2 11 yJ2_newBytesLength_0f7a4, Cond.static yJ2_newBytesLength_0f7a4, Cond.code yJ2_newBytesLength_0f7a4 cJ2_newBytesLength_0f7a4 1 (some .int), Cond.constant RJ2 20 (1073741823), Cond.methodLink RJ5 125 yJ1_inflate_0e8fd, Cond.static yJ1_inflate_0e8fd, Cond.code yJ1_inflate_0e8fd cJ1_inflate_0e8fd 5 none, Cond.methodLink RJ1 240 yJ2_inflate_0e8fd, Cond.static yJ2_inflate_0e8fd, Cond.code yJ2_inflate_0e8fd cJ2_inflate_0e8fd 6 none, Cond.methodLink RJ2 173 yJ2_checkBoundsOffCount_d044e, Cond.static yJ2_checkBoundsOffCount_d044e, Cond.code yJ2_checkBoundsOffCount_d044e cJ2_checkBoundsOffCount_d044e 3 none]
def wsL_describe_r7 : List Cond := [Cond.methodLink RJ2 48 yJ2_length_9d52b, Cond.static yJ2_length_9d52b, Cond.code yJ2_length_9d52b cJ2_length_9d52b 1 (some .int), Cond.methodLink RJ2 419 yJ0_checkBoundsOffCount_cabcc, Cond.static yJ0_checkBoundsOffCount_cabcc, Cond.initialized RJ0, Cond.code yJ0_checkBoundsOffCount_cabcc cJ0_checkBoundsOffCount_cabcc 3 (some .int), Cond.fieldLink RJ0 1053 "jdk/internal/util/Preconditions" "SIOOBE_FORMATTER" "Ljava/util/function/BiFunction;", Cond.methodLink RJ0 1065 yJ3_checkFromIndexSize_8c36e, Cond.static yJ3_checkFromIndexSize_8c36e, Cond.initialized RJ3, Cond.code yJ3_checkFromIndexSize_8c36e cJ3_checkFromIndexSize_8c36e 4 (some .int), Cond.methodLink RJ2 111 yJ2_putChar_b72d1, Cond.static yJ2_putChar_b72d1, Cond.code yJ2_putChar_b72d1 cJ2_putChar_b72d1 3 none, Cond.fieldLink RJ2 44 "java/lang/StringUTF16" "$assertionsDisabled" "Z", Cond.fieldLink RJ2 59 "java/lang/StringUTF16" "HI_BYTE_SHIFT" "I", Cond.fieldLink RJ2 63 "java/lang/StringUTF16" "LO_BYTE_SHIFT" "I", Cond.methodLink RJ5 197 yJ2_putCharSB_b72d1, Cond.static yJ2_putCharSB_b72d1, Cond.code yJ2_putCharSB_b72d1 cJ2_putCharSB_b72d1 3 none, Cond.methodLink RJ2 67 yJ2_checkIndex_2214a, Cond.static yJ2_checkIndex_2214a, Cond.code yJ2_checkIndex_2214a cJ2_checkIndex_2214a 2 none]
def wsL_describe_r8 : List Cond := [Cond.methodLink RJ2 414 yJ0_checkIndex_df160, Cond.static yJ0_checkIndex_df160, Cond.code yJ0_checkIndex_df160 cJ0_checkIndex_df160 2 none, Cond.methodLink RJ0 1059 yJ3_checkIndex_8e157, Cond.static yJ3_checkIndex_8e157, Cond.code yJ3_checkIndex_8e157 cJ3_checkIndex_8e157 3 (some .int), Cond.methodLink RX8 409 yJ0_charAt_5068e, Cond.instanceMethod yJ0_charAt_5068e, Cond.selects RJ0 yJ0_charAt_5068e yJ0_charAt_5068e, Cond.code yJ0_charAt_5068e cJ0_charAt_5068e 2 (some .char), Cond.fieldLink RJ0 9 "java/lang/String" "value" "[B", Cond.methodLink RJ0 492 yJ0_isLatin1_aae02, Cond.instanceMethod yJ0_isLatin1_aae02, Cond.selects RJ0 yJ0_isLatin1_aae02 yJ0_isLatin1_aae02, Cond.code yJ0_isLatin1_aae02 cJ0_isLatin1_aae02 1 (some .boolean), Cond.fieldLink RJ0 38 "java/lang/String" "COMPACT_STRINGS" "Z", Cond.fieldLink RJ0 15 "java/lang/String" "coder" "B", Cond.methodLink RJ0 495 yJ1_charAt_3b067, Cond.static yJ1_charAt_3b067, Cond.code yJ1_charAt_3b067 cJ1_charAt_3b067 2 (some .char), Cond.methodLink RJ1 9 yJ0_checkIndex_df160, Cond.methodLink RJ0 498 yJ2_charAt_3b067, Cond.static yJ2_charAt_3b067, Cond.code yJ2_charAt_3b067 cJ2_charAt_3b067 2 (some .char)]
def wsL_describe_r9 : List Cond := [Cond.methodLink RJ2 71 yJ2_getChar_3b067, Cond.static yJ2_getChar_3b067, Cond.code yJ2_getChar_3b067 cJ2_getChar_3b067 2 (some .char), Cond.methodLink RX8 412 yJ4_append_bf812, Cond.instanceMethod yJ4_append_bf812, Cond.selects RJ4 yJ4_append_bf812 yJ4_append_bf812, Cond.code yJ4_append_bf812 cJ4_append_bf812 2 (some (.object "java/lang/StringBuilder")), Cond.methodLink RJ4 53 yJ5_append_c97b9, Cond.sameMethod "java/lang/AbstractStringBuilder" "java/lang/AbstractStringBuilder" "append" "(I)Ljava/lang/AbstractStringBuilder;", Cond.instanceMethod yJ5_append_c97b9, Cond.code yJ5_append_c97b9 cJ5_append_c97b9 4 (some (.object "java/lang/AbstractStringBuilder")), Cond.methodLink RJ5 245 yJ6_stringSize_0f7a4, Cond.static yJ6_stringSize_0f7a4, Cond.initialized RJ6, Cond.code yJ6_stringSize_0f7a4 cJ6_stringSize_0f7a4 4 (some .int), Cond.methodLink RJ5 248 yJ6_getChars_ba4f3, Cond.static yJ6_getChars_ba4f3, Cond.code yJ6_getChars_ba4f3 cJ6_getChars_ba4f3 7 (some .int), Cond.fieldLink RJ6 83 "java/lang/Integer" "DigitOnes" "[B", Cond.fieldLink RJ6 87 "java/lang/Integer" "DigitTens" "[B", Cond.methodLink RJ5 251 yJ2_getChars_46870, Cond.static yJ2_getChars_46870, Cond.code yJ2_getChars_46870 cJ2_getChars_46870 5 (some .int), Cond.methodLink RJ2 96 yJ2_checkBoundsBeginEnd_d044e]
def wsL_describe_r10 : List Cond := [Cond.static yJ2_checkBoundsBeginEnd_d044e, Cond.code yJ2_checkBoundsBeginEnd_d044e cJ2_checkBoundsBeginEnd_d044e 3 none, Cond.methodLink RJ2 241 yJ0_checkBoundsBeginEnd_23922, Cond.static yJ0_checkBoundsBeginEnd_23922, Cond.code yJ0_checkBoundsBeginEnd_23922 cJ0_checkBoundsBeginEnd_23922 3 none, Cond.methodLink RJ0 1062 yJ3_checkFromToIndex_8c36e, Cond.static yJ3_checkFromToIndex_8c36e, Cond.code yJ3_checkFromToIndex_8c36e cJ3_checkFromToIndex_8c36e 4 (some .int), Cond.methodLink RJ2 393 yJ2_getChars_ba4f3, Cond.static yJ2_getChars_ba4f3, Cond.code yJ2_getChars_ba4f3 cJ2_getChars_ba4f3 7 (some .int), Cond.fieldLink RJ2 403 "java/lang/Integer" "DigitOnes" "[B", Cond.fieldLink RJ2 407 "java/lang/Integer" "DigitTens" "[B", Cond.methodLink RX8 195 yJ4_length_8abf5, Cond.instanceMethod yJ4_length_8abf5, Cond.selects RJ4 yJ4_length_8abf5 yJ4_length_8abf5, Cond.code yJ4_length_8abf5 cJ4_length_8abf5 1 (some .int), Cond.methodLink RJ4 343 yJ5_length_8abf5, Cond.sameMethod "java/lang/AbstractStringBuilder" "java/lang/AbstractStringBuilder" "length" "()I", Cond.instanceMethod yJ5_length_8abf5, Cond.code yJ5_length_8abf5 cJ5_length_8abf5 1 (some .int), Cond.methodLink RX8 197 yJ4_charAt_5068e, Cond.instanceMethod yJ4_charAt_5068e, Cond.selects RJ4 yJ4_charAt_5068e yJ4_charAt_5068e]
def wsL_describe_r11 : List Cond := [Cond.code yJ4_charAt_5068e cJ4_charAt_5068e 2 (some .char), Cond.methodLink RJ4 329 yJ5_charAt_5068e, Cond.sameMethod "java/lang/AbstractStringBuilder" "java/lang/AbstractStringBuilder" "charAt" "(I)C", Cond.instanceMethod yJ5_charAt_5068e, Cond.code yJ5_charAt_5068e cJ5_charAt_5068e 5 (some .char), Cond.methodLink RJ5 138 Lib.Math.min.name, Cond.methodLink RJ5 144 yJ0_checkIndex_df160, Cond.methodLink RJ5 148 yJ2_getChar_3b067]
def wsL_describe : List Cond := .codeWith yL_describe cL_describe 5 (some .int) [(0, 10, 13, 13)] :: ((wsL_describe_r1 ++ (wsL_describe_r2 ++ (wsL_describe_r3 ++ (wsL_describe_r4 ++ (wsL_describe_r5 ++ (wsL_describe_r6 ++ (wsL_describe_r7 ++ (wsL_describe_r8 ++ (wsL_describe_r9 ++ (wsL_describe_r10 ++ wsL_describe_r11)))))))))) ++ wsX80 ++ wsX60 ++ wsX70 ++ wsJx7c7330 ++ wsJ40 ++ wsJx000600 ++ wsJ00 ++ zPad ++ (vx_atS RX8 365 "java/lang/IndexOutOfBoundsException" ["java/lang/RuntimeException", "java/lang/Exception"]).filter goodWord)
def rm_J0_checkIndex_df160 : Room := { frames := 2, cells := 0, slots := 0, locals := 38 }
set_option maxHeartbeats 4000000 in
set_option maxRecDepth 100000 in
theorem c_J0_checkIndex_df160 (l : Launch) {G : zG} {ad : Nat → Nat} {σ σ' : zs} {a0 a1 : Int32} {r : Int32} (hf : f_J0_checkIndex_df160 σ a0 a1 = some (r, σ')) : xMv l yJ0_checkIndex_df160 wsJ0_checkIndex_df160 rm_J0_checkIndex_df160 G ad σ [.int a0, .int a1] σ' := by
  intro sz nb a g hs
  refine Met.ofW (cc := cJ0_checkIndex_df160) (maxL := 2) (ret := none) (by decide) rfl ?_
  intro p e s m args below meth c s₁ B hml hv
  obtain ⟨rfl, hsz, hv⟩ := hv
  have hx := B.exec
  have hb := B.bytes
  have hr := B.returns
  have hts := atoms_spec (ws := wsJ0_checkIndex_df160) B.pre
  have hown : s.vm.findClass RJ0 = some m.cls := findClass_of_methodNamed B.named
  have hlocks := B.notSynchronized
  subst hsz
  have B := xB_start hs hv
  have hl := lv_entry ([.int a0, .int a1]) (n := 2) (Nat.le_of_ble_eq_true rfl)
  rw [lg_entry_eq]
  generalize (lg_sl ([.int a0, .int a1]) ++ List.replicate (2 - (lg_sl ([.int a0, .int a1])).length) Slot.unset).toArray = ls at hl ⊢
  have hl : lv_has ls 2 [(0, .int a0), (1, .int a1)] := hl
  generalize hAe : xA ad a s.heap.size = A at B ⊢
  unfold f_J0_checkIndex_df160 at hf
  refine lv_iload_n hx hb dJ0_checkIndex_df160_0 rfl (lv_at hl 0 rfl) ?_
  refine lv_iload_n hx hb dJ0_checkIndex_df160_1 rfl (lv_at hl 1 rfl) ?_
  rcases (xT B).fmt with hz | ⟨t9, hz⟩
  · refine va_gets hx hb hz (xS B) hown (hts (.fieldLink RJ0 1053 "jdk/internal/util/Preconditions" "SIOOBE_FORMATTER" "Ljava/util/function/BiFunction;") (by decide +kernel)) (fun _ h => h) dJ0_checkIndex_df160_2 ?_
    obtain ⟨r2, σ3, hu1, hf⟩ := zb_some hf
    refine x_i B (fun nb a g hs Bz => va_runS (As := [.int a0, .int a1, .null]) (rest := []) ⟨hx, hb, hml, hown, hts⟩ (c_J3_checkIndex_8e157_n l hu1 _ nb a g hs) (va_cwS 3 hts gJ0_checkIndex_df160_J3_checkIndex_8e157 rfl rfl rfl (by decide +kernel) ⟨Nat.le_of_ble_eq_true rfl, Nat.le_of_ble_eq_true rfl⟩) (z_preS Bz) rfl rfl hl.1 rfl (lv_room (Nat.le_of_ble_eq_true rfl)) dJ0_checkIndex_df160_5 ⟨Nat.le_of_ble_eq_true rfl, Nat.le_of_ble_eq_true rfl⟩) (fun H locs B => ?_)
    refine lv_pop hx hb dJ0_checkIndex_df160_8 rfl ?_
    refine W.widen (k := 0) (n := 0) (Nat.le_of_ble_eq_true rfl) (Nat.le_of_ble_eq_true rfl) ?_
    exact x_vret hx hb hr hlocks B hf dJ0_checkIndex_df160_9
  · refine va_gets hx hb hz (xS B) hown (hts (.fieldLink RJ0 1053 "jdk/internal/util/Preconditions" "SIOOBE_FORMATTER" "Ljava/util/function/BiFunction;") (by decide +kernel)) (fun _ h => h) dJ0_checkIndex_df160_2 ?_
    obtain ⟨r2, σ3, hu1, hf⟩ := zb_some hf
    refine x_i B (fun nb a g hs Bz => va_runS (As := [.int a0, .int a1, .ref t9]) (rest := []) ⟨hx, hb, hml, hown, hts⟩ (c_J3_checkIndex_8e157_r l hu1 _ nb a g hs) (va_cwS 3 hts gJ0_checkIndex_df160_J3_checkIndex_8e157 rfl rfl rfl (by decide +kernel) ⟨Nat.le_of_ble_eq_true rfl, Nat.le_of_ble_eq_true rfl⟩) (z_preS Bz) rfl rfl hl.1 rfl (lv_room (Nat.le_of_ble_eq_true rfl)) dJ0_checkIndex_df160_5 ⟨Nat.le_of_ble_eq_true rfl, Nat.le_of_ble_eq_true rfl⟩) (fun H locs B => ?_)
    refine lv_pop hx hb dJ0_checkIndex_df160_8 rfl ?_
    refine W.widen (k := 0) (n := 0) (Nat.le_of_ble_eq_true rfl) (Nat.le_of_ble_eq_true rfl) ?_
    exact x_vret hx hb hr hlocks B hf dJ0_checkIndex_df160_9
theorem dJ1_charAt_3b067_0 : decode cJ1_charAt_3b067 0 = .ok (.iload_n 1, 1) := by decide +kernel
theorem dJ1_charAt_3b067_1 : decode cJ1_charAt_3b067 1 = .ok (.aload_n 0, 1) := by decide +kernel
theorem dJ1_charAt_3b067_2 : decode cJ1_charAt_3b067 2 = .ok (.arraylength, 1) := by decide +kernel
theorem dJ1_charAt_3b067_3 : decode cJ1_charAt_3b067 3 = .ok (.invokestatic 9, 3) := by decide +kernel
theorem dJ1_charAt_3b067_6 : decode cJ1_charAt_3b067 6 = .ok (.aload_n 0, 1) := by decide +kernel
theorem dJ1_charAt_3b067_7 : decode cJ1_charAt_3b067 7 = .ok (.iload_n 1, 1) := by decide +kernel
theorem dJ1_charAt_3b067_8 : decode cJ1_charAt_3b067 8 = .ok (.baload, 1) := by decide +kernel
theorem dJ1_charAt_3b067_9 : decode cJ1_charAt_3b067 9 = .ok (.sipush 255, 3) := by decide +kernel
theorem dJ1_charAt_3b067_12 : decode cJ1_charAt_3b067 12 = .ok (.iand, 1) := by decide +kernel
theorem dJ1_charAt_3b067_13 : decode cJ1_charAt_3b067 13 = .ok (.i2c, 1) := by decide +kernel
theorem dJ1_charAt_3b067_14 : decode cJ1_charAt_3b067 14 = .ok (.ireturn, 1) := by decide +kernel
set_option maxRecDepth 20000 in
theorem ggJ1_charAt_3b067_J0_checkIndex_df160 : GoodIn wsJ1_charAt_3b067 wsJ0_checkIndex_df160 := goodIn_r _ [4, 5, 6, 7, 8, 9] (by decide +kernel) (by decide +kernel)
set_option maxRecDepth 20000 in
theorem gJ1_charAt_3b067_J0_checkIndex_df160 : GoodIn wsJ1_charAt_3b067 (va_wsS RJ1 9 yJ0_checkIndex_df160 wsJ0_checkIndex_df160) := goodIn_app (goodIn_of _ (by decide +kernel)) ggJ1_charAt_3b067_J0_checkIndex_df160
def rm_J1_charAt_3b067_G25 : Room := { frames := 3, cells := 0, slots := 0, locals := 59 }
set_option maxHeartbeats 4000000 in
set_option maxRecDepth 100000 in
theorem c_J1_charAt_3b067_G25 (l : Launch) {G : zG} {ad : Nat → Nat} {σ σ' : zs} {a1 : Int32} {r : Int32} (hf : f_J1_charAt_3b067_G25 σ a1 = some (r, σ')) : xMi l yJ1_charAt_3b067 wsJ1_charAt_3b067 rm_J1_charAt_3b067_G25 G ad σ [.ref (G.2 5), .int a1] r σ' := by
  intro sz nb a g hs
  refine Met.ofW (cc := cJ1_charAt_3b067) (maxL := 2) (ret := (some .char)) (by decide) rfl ?_
  intro p e s m args below meth c s₁ B hml hv
  obtain ⟨rfl, hsz, hv⟩ := hv
  have hx := B.exec
  have hb := B.bytes
  have hr := B.returns
  have hts := atoms_spec (ws := wsJ1_charAt_3b067) B.pre
  have hown : s.vm.findClass RJ1 = some m.cls := findClass_of_methodNamed B.named
  have hlocks := B.notSynchronized
  subst hsz
  have B := xB_start hs hv
  have hl := lv_entry ([.ref (G.2 5), .int a1]) (n := 2) (Nat.le_of_ble_eq_true rfl)
  rw [lg_entry_eq]
  generalize (lg_sl ([.ref (G.2 5), .int a1]) ++ List.replicate (2 - (lg_sl ([.ref (G.2 5), .int a1])).length) Slot.unset).toArray = ls at hl ⊢
  have hl : lv_has ls 2 [(0, .ref (G.2 5)), (1, .int a1)] := hl
  generalize hAe : xA ad a s.heap.size = A at B ⊢
  unfold f_J1_charAt_3b067_G25 at hf
  refine lv_iload_n hx hb dJ1_charAt_3b067_0 rfl (lv_at hl 1 rfl) ?_
  refine lv_aload_n hx hb dJ1_charAt_3b067_1 rfl (lv_at hl 0 rfl) ?_
  refine x_cs B (fun nb a g hs Bz => z_letl hx hb Bz dJ1_charAt_3b067_2 ?_)
  obtain ⟨r2, σ3, hu1, hf⟩ := zb_some hf
  refine x_v B (fun nb a g hs Bz => va_runS (As := [.int a1, .int (5 : Int32)]) (rest := []) ⟨hx, hb, hml, hown, hts⟩ (c_J0_checkIndex_df160 l hu1 _ nb a g hs) (va_cwS 2 hts gJ1_charAt_3b067_J0_checkIndex_df160 rfl rfl rfl (by decide +kernel) ⟨Nat.le_of_ble_eq_true rfl, Nat.le_of_ble_eq_true rfl⟩) (z_preS Bz) rfl rfl hl.1 rfl (lv_room (Nat.le_of_ble_eq_true rfl)) dJ1_charAt_3b067_3 ⟨Nat.le_of_ble_eq_true rfl, Nat.le_of_ble_eq_true rfl⟩) (fun H locs B => ?_)
  refine lv_aload_n hx hb dJ1_charAt_3b067_6 rfl (lv_at hl 0 rfl) ?_
  refine lv_iload_n hx hb dJ1_charAt_3b067_7 rfl (lv_at hl 1 rfl) ?_
  obtain ⟨hg, hf⟩ := zg_some hf
  refine x_cs B (fun nb a g hs Bz => z_letb hx hb Bz (zin_ok hg) dJ1_charAt_3b067_8 ?_)
  refine lv_sipush (v := (255 : Int32)) hx hb dJ1_charAt_3b067_9 (by decide) ?_
  refine lv_iand hx hb dJ1_charAt_3b067_12 ?_
  refine lv_i2c (v := (((zLet.getD a1.toNatClampNeg 0) &&& (255 : Int32)).toUInt32 % 65536).toInt32) hx hb dJ1_charAt_3b067_13 rfl ?_
  obtain ⟨hg, hf⟩ := zg_some hf
  refine W.widen (k := 0) (n := 0) (Nat.le_of_ble_eq_true rfl) (Nat.le_of_ble_eq_true rfl) ?_
  exact x_iret hx hb hr (s_charg hg) hlocks B hf dJ1_charAt_3b067_14
theorem dJ0_charAt_5068e_0 : decode cJ0_charAt_5068e 0 = .ok (.aload_n 0, 1) := by decide +kernel
theorem dJ0_charAt_5068e_1 : decode cJ0_charAt_5068e 1 = .ok (.invokevirtual 492, 3) := by decide +kernel
theorem dJ0_charAt_5068e_4 : decode cJ0_charAt_5068e 4 = .ok (.ifCond .eq 12, 3) := by decide +kernel
theorem dJ0_charAt_5068e_7 : decode cJ0_charAt_5068e 7 = .ok (.aload_n 0, 1) := by decide +kernel
theorem dJ0_charAt_5068e_8 : decode cJ0_charAt_5068e 8 = .ok (.getfield 9, 3) := by decide +kernel
theorem dJ0_charAt_5068e_11 : decode cJ0_charAt_5068e 11 = .ok (.iload_n 1, 1) := by decide +kernel
theorem dJ0_charAt_5068e_12 : decode cJ0_charAt_5068e 12 = .ok (.invokestatic 495, 3) := by decide +kernel
theorem dJ0_charAt_5068e_15 : decode cJ0_charAt_5068e 15 = .ok (.ireturn, 1) := by decide +kernel
set_option maxRecDepth 20000 in
theorem ggJ0_charAt_5068e_J0_isLatin1_aae02 : GoodIn wsJ0_charAt_5068e wsJ0_isLatin1_aae02 := goodIn_r _ [6, 7, 8, 38, 39, 40, 41] (by decide +kernel) (by decide +kernel)
set_option maxRecDepth 20000 in
theorem gJ0_charAt_5068e_J0_isLatin1_aae02 : GoodIn wsJ0_charAt_5068e (wsV RJ0 492 RJ0 yJ0_isLatin1_aae02 wsJ0_isLatin1_aae02) := goodIn_app (goodIn_of _ (by decide +kernel)) ggJ0_charAt_5068e_J0_isLatin1_aae02
set_option maxRecDepth 20000 in
theorem ggJ0_charAt_5068e_J1_charAt_3b067 : GoodIn wsJ0_charAt_5068e wsJ1_charAt_3b067 := goodIn_r _ [12, 13, 14, 5, 15, 16, 17, 18, 19, 20] (by decide +kernel) (by decide +kernel)
set_option maxRecDepth 20000 in
theorem gJ0_charAt_5068e_J1_charAt_3b067 : GoodIn wsJ0_charAt_5068e (va_wsS RJ0 495 yJ1_charAt_3b067 wsJ1_charAt_3b067) := goodIn_app (goodIn_of _ (by decide +kernel)) ggJ0_charAt_5068e_J1_charAt_3b067
def rm_J0_charAt_5068e : Room := { frames := 4, cells := 0, slots := 0, locals := 80 }
set_option maxHeartbeats 4000000 in
set_option maxRecDepth 100000 in
theorem c_J0_charAt_5068e (l : Launch) {G : zG} {ad : Nat → Nat} {σ σ' : zs} {a1 : Int32} {r : Int32} (hf : f_J0_charAt_5068e σ a1 = some (r, σ')) : xMi l yJ0_charAt_5068e wsJ0_charAt_5068e rm_J0_charAt_5068e G ad σ [.ref (G.2 4), .int a1] r σ' := by
  intro sz nb a g hs
  refine Met.ofW (cc := cJ0_charAt_5068e) (maxL := 2) (ret := (some .char)) (by decide) rfl ?_
  intro p e s m args below meth c s₁ B hml hv
  obtain ⟨rfl, hsz, hv⟩ := hv
  have hx := B.exec
  have hb := B.bytes
  have hr := B.returns
  have hts := atoms_spec (ws := wsJ0_charAt_5068e) B.pre
  have hown : s.vm.findClass RJ0 = some m.cls := findClass_of_methodNamed B.named
  have hlocks := B.notSynchronized
  subst hsz
  have B := xB_start hs hv
  have hl := lv_entry ([.ref (G.2 4), .int a1]) (n := 2) (Nat.le_of_ble_eq_true rfl)
  rw [lg_entry_eq]
  generalize (lg_sl ([.ref (G.2 4), .int a1]) ++ List.replicate (2 - (lg_sl ([.ref (G.2 4), .int a1])).length) Slot.unset).toArray = ls at hl ⊢
  have hl : lv_has ls 2 [(0, .ref (G.2 4)), (1, .int a1)] := hl
  generalize hAe : xA ad a s.heap.size = A at B ⊢
  unfold f_J0_charAt_5068e at hf
  refine lv_aload_n hx hb dJ0_charAt_5068e_0 rfl (lv_at hl 0 rfl) ?_
  refine x_i B (fun nb a g hs Bz => va_runV (As := []) (rest := []) ⟨hx, hb, hml, hown, hts⟩ (c_J0_isLatin1_aae02 l (show f_J0_isLatin1_aae02 σ = some ((1 : Int32), σ) from rfl) _ nb a g hs) (cwV 0 hts gJ0_charAt_5068e_J0_isLatin1_aae02 rfl rfl rfl (by decide +kernel) ⟨Nat.le_of_ble_eq_true rfl, Nat.le_of_ble_eq_true rfl⟩) (z_preL Bz) rfl rfl hl.1 rfl (lv_room (Nat.le_of_ble_eq_true rfl)) dJ0_charAt_5068e_1 ⟨Nat.le_of_ble_eq_true rfl, Nat.le_of_ble_eq_true rfl⟩) (fun H locs B => ?_)
  refine lv_if_eq (tgt := 16) hx hb dJ0_charAt_5068e_4 (by decide) (fun hc => absurd hc (by decide)) (fun hc => ?_)
  refine lv_aload_n hx hb dJ0_charAt_5068e_7 rfl (lv_at hl 0 rfl) ?_
  refine x_cs B (fun nb a g hs Bz => z_letv hx hb hts hown Bz (index := 9) (by decide +kernel) rfl dJ0_charAt_5068e_8 ?_)
  refine lv_iload_n hx hb dJ0_charAt_5068e_11 rfl (lv_at hl 1 rfl) ?_
  obtain ⟨r2, σ3, hu1, hf⟩ := zb_some hf
  refine x_i B (fun nb a g hs Bz => va_runS (As := [.ref (G.2 5), .int a1]) (rest := []) ⟨hx, hb, hml, hown, hts⟩ (c_J1_charAt_3b067_G25 l hu1 _ nb a g hs) (va_cwS 2 hts gJ0_charAt_5068e_J1_charAt_3b067 rfl rfl rfl (by decide +kernel) ⟨Nat.le_of_ble_eq_true rfl, Nat.le_of_ble_eq_true rfl⟩) (z_preS Bz) rfl rfl hl.1 rfl (lv_room (Nat.le_of_ble_eq_true rfl)) dJ0_charAt_5068e_12 ⟨Nat.le_of_ble_eq_true rfl, Nat.le_of_ble_eq_true rfl⟩) (fun H locs B => ?_)
  obtain ⟨hg, hf⟩ := zg_some hf
  refine W.widen (k := 0) (n := 0) (Nat.le_of_ble_eq_true rfl) (Nat.le_of_ble_eq_true rfl) ?_
  exact x_iret hx hb hr (s_charg hg) hlocks B hf dJ0_charAt_5068e_15
theorem dX8_spell_0 : decode cX8_spell 0 = .ok (.aload_n 0, 1) := by decide +kernel
theorem dX8_spell_1 : decode cX8_spell 1 = .ok (.getfield 51, 3) := by decide +kernel
theorem dX8_spell_4 : decode cX8_spell 4 = .ok (.iconst 0, 1) := by decide +kernel
theorem dX8_spell_5 : decode cX8_spell 5 = .ok (.invokevirtual 400, 3) := by decide +kernel
theorem dX8_spell_8 : decode cX8_spell 8 = .ok (.iconst 0, 1) := by decide +kernel
theorem dX8_spell_9 : decode cX8_spell 9 = .ok (.istore_n 2, 1) := by decide +kernel
theorem dX8_spell_10 : decode cX8_spell 10 = .ok (.iload_n 2, 1) := by decide +kernel
theorem dX8_spell_11 : decode cX8_spell 11 = .ok (.aload_n 0, 1) := by decide +kernel
theorem dX8_spell_12 : decode cX8_spell 12 = .ok (.getfield 12, 3) := by decide +kernel
theorem dX8_spell_15 : decode cX8_spell 15 = .ok (.getfield 66, 3) := by decide +kernel
theorem dX8_spell_18 : decode cX8_spell 18 = .ok (.getfield 175, 3) := by decide +kernel
theorem dX8_spell_21 : decode cX8_spell 21 = .ok (.iload_n 1, 1) := by decide +kernel
theorem dX8_spell_22 : decode cX8_spell 22 = .ok (.iaload, 1) := by decide +kernel
theorem dX8_spell_23 : decode cX8_spell 23 = .ok (.if_icmp .ge 121, 3) := by decide +kernel
theorem dX8_spell_26 : decode cX8_spell 26 = .ok (.iload_n 1, 1) := by decide +kernel
theorem dX8_spell_27 : decode cX8_spell 27 = .ok (.iconst 4, 1) := by decide +kernel
theorem dX8_spell_28 : decode cX8_spell 28 = .ok (.imul, 1) := by decide +kernel
theorem dX8_spell_29 : decode cX8_spell 29 = .ok (.iload_n 2, 1) := by decide +kernel
theorem dX8_spell_30 : decode cX8_spell 30 = .ok (.iadd, 1) := by decide +kernel
theorem dX8_spell_31 : decode cX8_spell 31 = .ok (.istore_n 3, 1) := by decide +kernel
theorem dX8_spell_32 : decode cX8_spell 32 = .ok (.iload_n 2, 1) := by decide +kernel
theorem dX8_spell_33 : decode cX8_spell 33 = .ok (.ifCond .le 13, 3) := by decide +kernel
theorem dX8_spell_36 : decode cX8_spell 36 = .ok (.aload_n 0, 1) := by decide +kernel
theorem dX8_spell_37 : decode cX8_spell 37 = .ok (.getfield 51, 3) := by decide +kernel
theorem dX8_spell_40 : decode cX8_spell 40 = .ok (.bipush 59, 2) := by decide +kernel
theorem dX8_spell_42 : decode cX8_spell 42 = .ok (.invokevirtual 403, 3) := by decide +kernel
theorem dX8_spell_45 : decode cX8_spell 45 = .ok (.pop, 1) := by decide +kernel
theorem dX8_spell_46 : decode cX8_spell 46 = .ok (.aload_n 0, 1) := by decide +kernel
theorem dX8_spell_47 : decode cX8_spell 47 = .ok (.getfield 51, 3) := by decide +kernel
theorem dX8_spell_50 : decode cX8_spell 50 = .ok (.ldc_w 407, 3) := by decide +kernel
theorem dX8_spell_53 : decode cX8_spell 53 = .ok (.aload_n 0, 1) := by decide +kernel
theorem dX8_spell_54 : decode cX8_spell 54 = .ok (.getfield 12, 3) := by decide +kernel
theorem dX8_spell_57 : decode cX8_spell 57 = .ok (.getfield 66, 3) := by decide +kernel
theorem dX8_spell_60 : decode cX8_spell 60 = .ok (.getfield 189, 3) := by decide +kernel
theorem dX8_spell_63 : decode cX8_spell 63 = .ok (.iload_n 3, 1) := by decide +kernel
theorem dX8_spell_64 : decode cX8_spell 64 = .ok (.iaload, 1) := by decide +kernel
theorem dX8_spell_65 : decode cX8_spell 65 = .ok (.invokevirtual 409, 3) := by decide +kernel
theorem dX8_spell_68 : decode cX8_spell 68 = .ok (.invokevirtual 403, 3) := by decide +kernel
theorem dX8_spell_71 : decode cX8_spell 71 = .ok (.pop, 1) := by decide +kernel
theorem dX8_spell_72 : decode cX8_spell 72 = .ok (.aload_n 0, 1) := by decide +kernel
theorem dX8_spell_73 : decode cX8_spell 73 = .ok (.getfield 51, 3) := by decide +kernel
theorem dX8_spell_76 : decode cX8_spell 76 = .ok (.aload_n 0, 1) := by decide +kernel
theorem dX8_spell_77 : decode cX8_spell 77 = .ok (.getfield 12, 3) := by decide +kernel
theorem dX8_spell_80 : decode cX8_spell 80 = .ok (.getfield 66, 3) := by decide +kernel
theorem dX8_spell_83 : decode cX8_spell 83 = .ok (.getfield 190, 3) := by decide +kernel
theorem dX8_spell_86 : decode cX8_spell 86 = .ok (.iload_n 3, 1) := by decide +kernel
theorem dX8_spell_87 : decode cX8_spell 87 = .ok (.iaload, 1) := by decide +kernel
theorem dX8_spell_88 : decode cX8_spell 88 = .ok (.invokevirtual 412, 3) := by decide +kernel
theorem dX8_spell_91 : decode cX8_spell 91 = .ok (.pop, 1) := by decide +kernel
theorem dX8_spell_92 : decode cX8_spell 92 = .ok (.aload_n 0, 1) := by decide +kernel
theorem dX8_spell_93 : decode cX8_spell 93 = .ok (.getfield 12, 3) := by decide +kernel
theorem dX8_spell_96 : decode cX8_spell 96 = .ok (.getfield 66, 3) := by decide +kernel
theorem dX8_spell_99 : decode cX8_spell 99 = .ok (.getfield 189, 3) := by decide +kernel
theorem dX8_spell_102 : decode cX8_spell 102 = .ok (.iload_n 3, 1) := by decide +kernel
theorem dX8_spell_103 : decode cX8_spell 103 = .ok (.iaload, 1) := by decide +kernel
theorem dX8_spell_104 : decode cX8_spell 104 = .ok (.iconst 4, 1) := by decide +kernel
theorem dX8_spell_105 : decode cX8_spell 105 = .ok (.if_icmp .ne 33, 3) := by decide +kernel
theorem dX8_spell_108 : decode cX8_spell 108 = .ok (.aload_n 0, 1) := by decide +kernel
theorem dX8_spell_109 : decode cX8_spell 109 = .ok (.getfield 51, 3) := by decide +kernel
theorem dX8_spell_112 : decode cX8_spell 112 = .ok (.bipush 45, 2) := by decide +kernel
theorem dX8_spell_114 : decode cX8_spell 114 = .ok (.invokevirtual 403, 3) := by decide +kernel
theorem dX8_spell_117 : decode cX8_spell 117 = .ok (.pop, 1) := by decide +kernel
theorem dX8_spell_118 : decode cX8_spell 118 = .ok (.aload_n 0, 1) := by decide +kernel
theorem dX8_spell_119 : decode cX8_spell 119 = .ok (.getfield 51, 3) := by decide +kernel
theorem dX8_spell_122 : decode cX8_spell 122 = .ok (.aload_n 0, 1) := by decide +kernel
theorem dX8_spell_123 : decode cX8_spell 123 = .ok (.getfield 12, 3) := by decide +kernel
theorem dX8_spell_126 : decode cX8_spell 126 = .ok (.getfield 66, 3) := by decide +kernel
theorem dX8_spell_129 : decode cX8_spell 129 = .ok (.getfield 191, 3) := by decide +kernel
theorem dX8_spell_132 : decode cX8_spell 132 = .ok (.iload_n 3, 1) := by decide +kernel
theorem dX8_spell_133 : decode cX8_spell 133 = .ok (.iaload, 1) := by decide +kernel
theorem dX8_spell_134 : decode cX8_spell 134 = .ok (.invokevirtual 412, 3) := by decide +kernel
theorem dX8_spell_137 : decode cX8_spell 137 = .ok (.pop, 1) := by decide +kernel
theorem dX8_spell_138 : decode cX8_spell 138 = .ok (.iinc 2 1, 3) := by decide +kernel
theorem dX8_spell_141 : decode cX8_spell 141 = .ok (.goto (-131), 3) := by decide +kernel
theorem dX8_spell_144 : decode cX8_spell 144 = .ok (.return_, 1) := by decide +kernel
set_option maxRecDepth 20000 in
theorem ggX8_spell_J4_setLength_d00df : GoodIn wsX8_spell wsJ4_setLength_d00df := goodIn_r _ [12, 13, 14, 15, 16, 17, 18, 19, 20, 21, 22, 23, 24, 25, 26, 27, 28, 29, 30, 31, 32, 33, 34, 35, 36, 37, 38, 39, 40, 41, 42, 43, 44, 45, 46, 47, 48, 49, 50, 51, 52, 53, 54, 55, 56, 57, 58, 59, 60, 61, 62, 63, 64, 65, 66, 67, 68, 69, 70, 71, 72, 73, 74, 75, 76, 77, 78, 79, 80, 81, 82, 83, 84, 11, 85, 86, 87, 88, 89, 90, 91, 92, 238, 239, 240, 241, 242, 243, 244, 245, 246, 247, 248, 249, 250, 251, 252, 253] (by decide +kernel) (by decide +kernel)
set_option maxRecDepth 20000 in
theorem gX8_spell_J4_setLength_d00df : GoodIn wsX8_spell (wsV RX8 400 RJ4 yJ4_setLength_d00df wsJ4_setLength_d00df) := goodIn_app (goodIn_of _ (by decide +kernel)) ggX8_spell_J4_setLength_d00df
set_option maxRecDepth 20000 in
theorem ggX8_spell_J0_charAt_5068e : GoodIn wsX8_spell wsJ0_charAt_5068e := goodIn_r _ [158, 159, 160, 161, 162, 130, 163, 164, 165, 166, 167, 75, 168, 169, 150, 151, 132, 152, 153, 135, 154, 170, 171, 90, 172, 146, 147, 148, 125, 126, 127, 149, 173, 174, 175, 140, 141, 142, 254, 255, 256, 257] (by decide +kernel) (by decide +kernel)
set_option maxRecDepth 20000 in
theorem gX8_spell_J0_charAt_5068e : GoodIn wsX8_spell (wsV RX8 409 RJ0 yJ0_charAt_5068e wsJ0_charAt_5068e) := goodIn_app (goodIn_of _ (by decide +kernel)) ggX8_spell_J0_charAt_5068e
set_option maxRecDepth 20000 in
theorem ggX8_spell_J4_append_cf468 : GoodIn wsX8_spell wsJ4_append_cf468 := goodIn_r _ [96, 97, 98, 15, 99, 17, 100, 22, 23, 25, 26, 27, 28, 29, 30, 31, 32, 33, 34, 35, 36, 37, 38, 39, 40, 41, 42, 43, 44, 45, 46, 47, 48, 49, 50, 51, 52, 53, 54, 55, 56, 57, 58, 59, 60, 61, 62, 63, 64, 65, 66, 67, 68, 69, 70, 71, 72, 101, 102, 75, 103, 104, 105, 106, 107, 108, 109, 110, 90, 111, 112, 113, 114, 115, 116, 117, 118, 119, 120, 121, 122, 123, 124, 125, 126, 127, 128, 129, 130, 131, 132, 133, 134, 135, 136, 137, 138, 139, 140, 141, 142, 143, 144, 145, 146, 147, 148, 149, 150, 151, 152, 153, 154, 244, 245, 246, 247] (by decide +kernel) (by decide +kernel)
set_option maxRecDepth 20000 in
theorem gX8_spell_J4_append_cf468 : GoodIn wsX8_spell (wsV RX8 403 RJ4 yJ4_append_cf468 wsJ4_append_cf468) := goodIn_app (goodIn_of _ (by decide +kernel)) ggX8_spell_J4_append_cf468
set_option maxRecDepth 20000 in
theorem ggX8_spell_J4_append_bf812 : GoodIn wsX8_spell wsJ4_append_bf812 := goodIn_r _ [179, 180, 181, 15, 182, 17, 183, 22, 23, 184, 185, 186, 187, 25, 26, 27, 28, 29, 30, 31, 32, 33, 34, 35, 36, 37, 38, 39, 40, 41, 42, 43, 44, 45, 46, 47, 48, 49, 50, 51, 52, 53, 54, 55, 56, 57, 58, 59, 60, 61, 62, 63, 64, 65, 66, 67, 68, 69, 70, 71, 72, 188, 189, 190, 191, 192, 193, 194, 90, 195, 140, 196, 197, 198, 125, 126, 127, 199, 200, 130, 201, 132, 202, 203, 135, 204, 205, 206, 207, 208, 209, 137, 138, 139, 141, 142, 244, 245, 246, 247] (by decide +kernel) (by decide +kernel)
set_option maxRecDepth 20000 in
theorem gX8_spell_J4_append_bf812 : GoodIn wsX8_spell (wsV RX8 412 RJ4 yJ4_append_bf812 wsJ4_append_bf812) := goodIn_app (goodIn_of _ (by decide +kernel)) ggX8_spell_J4_append_bf812
def rm_X8_spell : Room := { frames := 8, cells := 26, slots := 2600, locals := 261 }
set_option maxHeartbeats 4000000 in
set_option maxRecDepth 100000 in
theorem c_X8_spell (l : Launch) {G : zG} {ad : Nat → Nat} {σ σ' : zs} {a1 : Int32} {r : Int32} (hf : f_X8_spell σ a1 = some (r, σ')) : xMv l yX8_spell wsX8_spell rm_X8_spell G ad σ [.ref (ad 0), .int a1] σ' := by
  intro sz nb a g hs
  refine Met.ofW (cc := cX8_spell) (maxL := 4) (ret := none) (by decide) rfl ?_
  intro p e s m args below meth c s₁ B hml hv
  obtain ⟨rfl, hsz, hv⟩ := hv
  have hx := B.exec
  have hb := B.bytes
  have hr := B.returns
  have hts := atoms_spec (ws := wsX8_spell) B.pre
  have hown : s.vm.findClass RX8 = some m.cls := findClass_of_methodNamed B.named
  have hlocks := B.notSynchronized
  subst hsz
  have B := xB_start hs hv
  have hinRX6 : ∀ w ∈ wsX60, w ∈ wsX8_spell := by decide +kernel
  have hinRX7 : ∀ w ∈ wsX70, w ∈ wsX8_spell := by decide +kernel
  have hinRX8 : ∀ w ∈ wsX80, w ∈ wsX8_spell := by decide +kernel
  have hl := lv_entry ([.ref (ad 0), .int a1]) (n := 4) (Nat.le_of_ble_eq_true rfl)
  rw [lg_entry_eq]
  generalize (lg_sl ([.ref (ad 0), .int a1]) ++ List.replicate (4 - (lg_sl ([.ref (ad 0), .int a1])).length) Slot.unset).toArray = ls at hl ⊢
  have hl : lv_has ls 4 [(0, .ref (ad 0)), (1, .int a1)] := hl
  generalize hAe : xA ad a s.heap.size = A at B ⊢
  have L10_5 : ∀ (σ : zs) (v1 : Int32) (v2 : Int32) (H : Heap) (locs : List Loc) (ls : Array Slot), zlp2 (f_X8_spell_10) 0 σ v1 v2 = some (r, σ') → xB A s G ad σ H locs → lv_has ls 4 [(0, .ref (ad 0)), (1, .int v1), (2, .int v2)] → W p l e (headSpec wsX8_spell rm_X8_spell).room s m ([.ref (ad 0), .int a1] : List Value).toArray below meth c H locs 26 2600 (MQ below (va_Qv (fun (u : xV) => xQ σ' u) (xPost G ad σ' A) A) ([.ref (ad 0), .int a1] : List Value).toArray s 26 2600 A) (F0 m 10 ls []) := by
    intro σ v1 v2 H locs ls hf
    cases hf
  have L46_4 : ∀ (K10 : zs → Int32 → Int32 → Option (Int32 × zs)) (hK10 : ∀ (σ : zs) (v1 : Int32) (v2 : Int32) (H : Heap) (locs : List Loc) (ls : Array Slot), K10 σ v1 v2 = some (r, σ') → xB A s G ad σ H locs → lv_has ls 4 [(0, .ref (ad 0)), (1, .int v1), (2, .int v2)] → W p l e (headSpec wsX8_spell rm_X8_spell).room s m ([.ref (ad 0), .int a1] : List Value).toArray below meth c H locs 26 2600 (MQ below (va_Qv (fun (u : xV) => xQ σ' u) (xPost G ad σ' A) A) ([.ref (ad 0), .int a1] : List Value).toArray s 26 2600 A) (F0 m 10 ls [])) (σ : zs) (v1 : Int32) (v2 : Int32) (v3 : Int32) (H : Heap) (locs : List Loc) (ls : Array Slot), f_X8_spell_46 K10 σ v1 v2 v3 = some (r, σ') → xB A s G ad σ H locs → lv_has ls 4 [(0, .ref (ad 0)), (1, .int v1), (2, .int v2), (3, .int v3)] → W p l e (headSpec wsX8_spell rm_X8_spell).room s m ([.ref (ad 0), .int a1] : List Value).toArray below meth c H locs 22 2200 (MQ below (va_Qv (fun (u : xV) => xQ σ' u) (xPost G ad σ' A) A) ([.ref (ad 0), .int a1] : List Value).toArray s 26 2600 A) (F0 m 46 ls []) := by
    intro K10 hK10 σ v1 v2 v3 H locs ls hf B hl
    unfold f_X8_spell_46 at hf
    refine lv_aload_n hx hb dX8_spell_46 rfl (lv_at hl 0 rfl) ?_
    refine x_getr hx hb hts hinRX8 hown B 0 7 63 (by decide) (by decide) (fun _ => rfl) rfl rfl (by decide) (by decide +kernel) rfl dX8_spell_47 ?_
    refine x_cs B (fun nb a g hs Bz => z_ldc8 hx hb hown Bz dX8_spell_50 ?_)
    refine lv_aload_n hx hb dX8_spell_53 rfl (lv_at hl 0 rfl) ?_
    refine x_getr hx hb hts hinRX8 hown B 0 0 1 (by decide) (by decide) (fun _ => rfl) rfl rfl (by decide) (by decide +kernel) rfl dX8_spell_54 ?_
    refine x_getr hx hb hts hinRX6 hown B 1 0 2 (by decide) (by decide) (fun _ => rfl) rfl rfl (by decide) (by decide +kernel) rfl dX8_spell_57 ?_
    refine x_getr hx hb hts hinRX7 hown B 2 8 10 (by decide) (by decide) (fun _ => rfl) rfl rfl (by decide) (by decide +kernel) rfl dX8_spell_60 ?_
    refine lv_iload_n hx hb dX8_spell_63 rfl (lv_at hl 3 rfl) ?_
    obtain ⟨hg, hf⟩ := zg_some hf
    refine x_iald hx hb B 10 (by decide) (fun _ => rfl) (zin_ok hg) dX8_spell_64 ?_
    obtain ⟨r5, σ6, hu4, hf⟩ := zb_some hf
    refine x_i B (fun nb a g hs Bz => va_runV (As := [.int (σ 10 v3.toNatClampNeg)]) (rest := [.ref (ad 63)]) ⟨hx, hb, hml, hown, hts⟩ (c_J0_charAt_5068e l hu4 _ nb a g hs) (cwV 1 hts gX8_spell_J0_charAt_5068e rfl rfl rfl (by decide +kernel) ⟨Nat.le_of_ble_eq_true rfl, Nat.le_of_ble_eq_true rfl⟩) (z_preL Bz) rfl rfl hl.1 rfl (lv_room (Nat.le_of_ble_eq_true rfl)) dX8_spell_65 ⟨Nat.le_of_ble_eq_true rfl, Nat.le_of_ble_eq_true rfl⟩) (fun H locs B => ?_)
    obtain ⟨r8, σ9, hu7, hf⟩ := zb_some hf
    refine x_r B (fun nb a g hs Bz => va_runV (As := [.int r5]) (rest := []) ⟨hx, hb, hml, hown, hts⟩ (c_J4_append_cf468 l hu7 _ nb a g hs) (cwV 1 hts gX8_spell_J4_append_cf468 rfl rfl rfl (by decide +kernel) ⟨Nat.le_of_ble_eq_true rfl, Nat.le_of_ble_eq_true rfl⟩) (x_preV Bz (by decide) (fun _ => rfl) rfl) rfl rfl hl.1 rfl (lv_room (Nat.le_of_ble_eq_true rfl)) dX8_spell_68 ⟨Nat.le_of_ble_eq_true rfl, Nat.le_of_ble_eq_true rfl⟩) (fun H locs B => ?_)
    refine lv_pop hx hb dX8_spell_71 rfl ?_
    refine lv_aload_n hx hb dX8_spell_72 rfl (lv_at hl 0 rfl) ?_
    refine x_getr hx hb hts hinRX8 hown B 0 7 63 (by decide) (by decide) (fun _ => rfl) rfl rfl (by decide) (by decide +kernel) rfl dX8_spell_73 ?_
    refine lv_aload_n hx hb dX8_spell_76 rfl (lv_at hl 0 rfl) ?_
    refine x_getr hx hb hts hinRX8 hown B 0 0 1 (by decide) (by decide) (fun _ => rfl) rfl rfl (by decide) (by decide +kernel) rfl dX8_spell_77 ?_
    refine x_getr hx hb hts hinRX6 hown B 1 0 2 (by decide) (by decide) (fun _ => rfl) rfl rfl (by decide) (by decide +kernel) rfl dX8_spell_80 ?_
    refine x_getr hx hb hts hinRX7 hown B 2 9 11 (by decide) (by decide) (fun _ => rfl) rfl rfl (by decide) (by decide +kernel) rfl dX8_spell_83 ?_
    refine lv_iload_n hx hb dX8_spell_86 rfl (lv_at hl 3 rfl) ?_
    obtain ⟨hg, hf⟩ := zg_some hf
    refine x_iald hx hb B 11 (by decide) (fun _ => rfl) (zin_ok hg) dX8_spell_87 ?_
    obtain ⟨r11, σ12, hu10, hf⟩ := zb_some hf
    refine x_r B (fun nb a g hs Bz => va_runV (As := [.int (σ9 11 v3.toNatClampNeg)]) (rest := []) ⟨hx, hb, hml, hown, hts⟩ (c_J4_append_bf812 l hu10 _ nb a g hs) (cwV 1 hts gX8_spell_J4_append_bf812 rfl rfl rfl (by decide +kernel) ⟨Nat.le_of_ble_eq_true rfl, Nat.le_of_ble_eq_true rfl⟩) (x_preV Bz (by decide) (fun _ => rfl) rfl) rfl rfl hl.1 rfl (lv_room (Nat.le_of_ble_eq_true rfl)) dX8_spell_88 ⟨Nat.le_of_ble_eq_true rfl, Nat.le_of_ble_eq_true rfl⟩) (fun H locs B => ?_)
    refine lv_pop hx hb dX8_spell_91 rfl ?_
    refine lv_aload_n hx hb dX8_spell_92 rfl (lv_at hl 0 rfl) ?_
    refine x_getr hx hb hts hinRX8 hown B 0 0 1 (by decide) (by decide) (fun _ => rfl) rfl rfl (by decide) (by decide +kernel) rfl dX8_spell_93 ?_
    refine x_getr hx hb hts hinRX6 hown B 1 0 2 (by decide) (by decide) (fun _ => rfl) rfl rfl (by decide) (by decide +kernel) rfl dX8_spell_96 ?_
    refine x_getr hx hb hts hinRX7 hown B 2 8 10 (by decide) (by decide) (fun _ => rfl) rfl rfl (by decide) (by decide +kernel) rfl dX8_spell_99 ?_
    refine lv_iload_n hx hb dX8_spell_102 rfl (lv_at hl 3 rfl) ?_
    obtain ⟨hg, hf⟩ := zg_some hf
    refine x_iald hx hb B 10 (by decide) (fun _ => rfl) (zin_ok hg) dX8_spell_103 ?_
    refine lv_iconst (v := (4 : Int32)) hx hb dX8_spell_104 (by decide) ?_
    refine lv_icmp_ne (tgt := 138) hx hb dX8_spell_105 (by decide) (fun hc => ?_) (fun hc => ?_)
    · have hf := zif_f hc hf
      refine lv_iinc (v := (v2 + (1 : Int32))) (lv' := [(2, .int (v2 + (1 : Int32))), (0, .ref (ad 0)), (1, .int v1), (3, .int v3)]) hx hb dX8_spell_138 hl (k := 2) rfl (zc1 (by decide)) (by decide) rfl (fun ls hl => ?_)
      refine lv_goto (tgt := 10) hx hb dX8_spell_141 (by decide) ?_
      refine W.widen (k := 26) (n := 2600) (Nat.le_of_ble_eq_true rfl) (Nat.le_of_ble_eq_true rfl) ?_
      exact hK10 _ _ _ _ _ _ hf B (lv_sub hl [1, 2, 0] rfl)
    · have hf := zif_t hc hf
      refine lv_aload_n hx hb dX8_spell_108 rfl (lv_at hl 0 rfl) ?_
      refine x_getr hx hb hts hinRX8 hown B 0 7 63 (by decide) (by decide) (fun _ => rfl) rfl rfl (by decide) (by decide +kernel) rfl dX8_spell_109 ?_
      refine lv_bipush (v := (45 : Int32)) hx hb dX8_spell_112 (by decide) ?_
      obtain ⟨r14, σ15, hu13, hf⟩ := zb_some hf
      refine x_r B (fun nb a g hs Bz => va_runV (As := [.int (45 : Int32)]) (rest := []) ⟨hx, hb, hml, hown, hts⟩ (c_J4_append_cf468 l hu13 _ nb a g hs) (cwV 1 hts gX8_spell_J4_append_cf468 rfl rfl rfl (by decide +kernel) ⟨Nat.le_of_ble_eq_true rfl, Nat.le_of_ble_eq_true rfl⟩) (x_preV Bz (by decide) (fun _ => rfl) rfl) rfl rfl hl.1 rfl (lv_room (Nat.le_of_ble_eq_true rfl)) dX8_spell_114 ⟨Nat.le_of_ble_eq_true rfl, Nat.le_of_ble_eq_true rfl⟩) (fun H locs B => ?_)
      refine lv_pop hx hb dX8_spell_117 rfl ?_
      refine lv_aload_n hx hb dX8_spell_118 rfl (lv_at hl 0 rfl) ?_
      refine x_getr hx hb hts hinRX8 hown B 0 7 63 (by decide) (by decide) (fun _ => rfl) rfl rfl (by decide) (by decide +kernel) rfl dX8_spell_119 ?_
      refine lv_aload_n hx hb dX8_spell_122 rfl (lv_at hl 0 rfl) ?_
      refine x_getr hx hb hts hinRX8 hown B 0 0 1 (by decide) (by decide) (fun _ => rfl) rfl rfl (by decide) (by decide +kernel) rfl dX8_spell_123 ?_
      refine x_getr hx hb hts hinRX6 hown B 1 0 2 (by decide) (by decide) (fun _ => rfl) rfl rfl (by decide) (by decide +kernel) rfl dX8_spell_126 ?_
      refine x_getr hx hb hts hinRX7 hown B 2 10 12 (by decide) (by decide) (fun _ => rfl) rfl rfl (by decide) (by decide +kernel) rfl dX8_spell_129 ?_
      refine lv_iload_n hx hb dX8_spell_132 rfl (lv_at hl 3 rfl) ?_
      obtain ⟨hg, hf⟩ := zg_some hf
      refine x_iald hx hb B 12 (by decide) (fun _ => rfl) (zin_ok hg) dX8_spell_133 ?_
      obtain ⟨r17, σ18, hu16, hf⟩ := zb_some hf
      refine x_r B (fun nb a g hs Bz => va_runV (As := [.int (σ15 12 v3.toNatClampNeg)]) (rest := []) ⟨hx, hb, hml, hown, hts⟩ (c_J4_append_bf812 l hu16 _ nb a g hs) (cwV 1 hts gX8_spell_J4_append_bf812 rfl rfl rfl (by decide +kernel) ⟨Nat.le_of_ble_eq_true rfl, Nat.le_of_ble_eq_true rfl⟩) (x_preV Bz (by decide) (fun _ => rfl) rfl) rfl rfl hl.1 rfl (lv_room (Nat.le_of_ble_eq_true rfl)) dX8_spell_134 ⟨Nat.le_of_ble_eq_true rfl, Nat.le_of_ble_eq_true rfl⟩) (fun H locs B => ?_)
      refine lv_pop hx hb dX8_spell_137 rfl ?_
      refine lv_iinc (v := (v2 + (1 : Int32))) (lv' := [(2, .int (v2 + (1 : Int32))), (0, .ref (ad 0)), (1, .int v1), (3, .int v3)]) hx hb dX8_spell_138 hl (k := 2) rfl (zc1 (by decide)) (by decide) rfl (fun ls hl => ?_)
      refine lv_goto (tgt := 10) hx hb dX8_spell_141 (by decide) ?_
      exact hK10 _ _ _ _ _ _ hf B (lv_sub hl [1, 2, 0] rfl)
  have L10_4 : ∀ (σ : zs) (v1 : Int32) (v2 : Int32) (H : Heap) (locs : List Loc) (ls : Array Slot), zlp2 (f_X8_spell_10) 1 σ v1 v2 = some (r, σ') → xB A s G ad σ H locs → lv_has ls 4 [(0, .ref (ad 0)), (1, .int v1), (2, .int v2)] → W p l e (headSpec wsX8_spell rm_X8_spell).room s m ([.ref (ad 0), .int a1] : List Value).toArray below meth c H locs 21 2100 (MQ below (va_Qv (fun (u : xV) => xQ σ' u) (xPost G ad σ' A) A) ([.ref (ad 0), .int a1] : List Value).toArray s 26 2600 A) (F0 m 10 ls []) := by
    intro σ v1 v2 H locs ls hf B hl
    have hf : f_X8_spell_10 (zlp2 (f_X8_spell_10) 0) σ v1 v2 = some (r, σ') := hf
    unfold f_X8_spell_10 at hf
    refine lv_iload_n hx hb dX8_spell_10 rfl (lv_at hl 2 rfl) ?_
    refine lv_aload_n hx hb dX8_spell_11 rfl (lv_at hl 0 rfl) ?_
    refine x_getr hx hb hts hinRX8 hown B 0 0 1 (by decide) (by decide) (fun _ => rfl) rfl rfl (by decide) (by decide +kernel) rfl dX8_spell_12 ?_
    refine x_getr hx hb hts hinRX6 hown B 1 0 2 (by decide) (by decide) (fun _ => rfl) rfl rfl (by decide) (by decide +kernel) rfl dX8_spell_15 ?_
    refine x_getr hx hb hts hinRX7 hown B 2 7 9 (by decide) (by decide) (fun _ => rfl) rfl rfl (by decide) (by decide +kernel) rfl dX8_spell_18 ?_
    refine lv_iload_n hx hb dX8_spell_21 rfl (lv_at hl 1 rfl) ?_
    obtain ⟨hg, hf⟩ := zg_some hf
    refine x_iald hx hb B 9 (by decide) (fun _ => rfl) (zin_ok hg) dX8_spell_22 ?_
    refine lv_icmp_ge (tgt := 144) hx hb dX8_spell_23 (by decide) (fun hc => ?_) (fun hc => ?_)
    · have hf := zif_t hc hf
      refine W.widen (k := 26) (n := 2600) (Nat.le_of_ble_eq_true rfl) (Nat.le_of_ble_eq_true rfl) ?_
      exact x_vret hx hb hr hlocks B hf dX8_spell_144
    · have hf := zif_f hc hf
      refine lv_iload_n hx hb dX8_spell_26 rfl (lv_at hl 1 rfl) ?_
      refine lv_iconst (v := (4 : Int32)) hx hb dX8_spell_27 (by decide) ?_
      refine lv_imul hx hb dX8_spell_28 ?_
      refine lv_iload_n hx hb dX8_spell_29 rfl (lv_at hl 2 rfl) ?_
      refine lv_iadd hx hb dX8_spell_30 ?_
      refine lv_istore_n (lv' := [(3, .int ((v1 * (4 : Int32)) + v2)), (0, .ref (ad 0)), (1, .int v1), (2, .int v2)]) hx hb dX8_spell_31 rfl hl (by decide) rfl (fun ls hl => ?_)
      refine lv_iload_n hx hb dX8_spell_32 rfl (lv_at hl 3 rfl) ?_
      refine lv_if_le (tgt := 46) hx hb dX8_spell_33 (by decide) (fun hc => ?_) (fun hc => ?_)
      · have hf := zif_t hc hf
        refine W.widen (k := 22) (n := 2200) (Nat.le_of_ble_eq_true rfl) (Nat.le_of_ble_eq_true rfl) ?_
        exact L46_4 _ L10_5  _ _ _ _ _ _ _ hf B (lv_sub hl [1, 2, 3, 0] rfl)
      · have hf := zif_f hc hf
        refine lv_aload_n hx hb dX8_spell_36 rfl (lv_at hl 1 rfl) ?_
        refine x_getr hx hb hts hinRX8 hown B 0 7 63 (by decide) (by decide) (fun _ => rfl) rfl rfl (by decide) (by decide +kernel) rfl dX8_spell_37 ?_
        refine lv_bipush (v := (59 : Int32)) hx hb dX8_spell_40 (by decide) ?_
        obtain ⟨r20, σ21, hu19, hf⟩ := zb_some hf
        refine x_r B (fun nb a g hs Bz => va_runV (As := [.int (59 : Int32)]) (rest := []) ⟨hx, hb, hml, hown, hts⟩ (c_J4_append_cf468 l hu19 _ nb a g hs) (cwV 1 hts gX8_spell_J4_append_cf468 rfl rfl rfl (by decide +kernel) ⟨Nat.le_of_ble_eq_true rfl, Nat.le_of_ble_eq_true rfl⟩) (x_preV Bz (by decide) (fun _ => rfl) rfl) rfl rfl hl.1 rfl (lv_room (Nat.le_of_ble_eq_true rfl)) dX8_spell_42 ⟨Nat.le_of_ble_eq_true rfl, Nat.le_of_ble_eq_true rfl⟩) (fun H locs B => ?_)
        refine lv_pop hx hb dX8_spell_45 rfl ?_
        exact L46_4 _ L10_5  _ _ _ _ _ _ _ hf B (lv_sub hl [1, 2, 3, 0] rfl)
  have L46_3 : ∀ (K10 : zs → Int32 → Int32 → Option (Int32 × zs)) (hK10 : ∀ (σ : zs) (v1 : Int32) (v2 : Int32) (H : Heap) (locs : List Loc) (ls : Array Slot), K10 σ v1 v2 = some (r, σ') → xB A s G ad σ H locs → lv_has ls 4 [(0, .ref (ad 0)), (1, .int v1), (2, .int v2)] → W p l e (headSpec wsX8_spell rm_X8_spell).room s m ([.ref (ad 0), .int a1] : List Value).toArray below meth c H locs 21 2100 (MQ below (va_Qv (fun (u : xV) => xQ σ' u) (xPost G ad σ' A) A) ([.ref (ad 0), .int a1] : List Value).toArray s 26 2600 A) (F0 m 10 ls [])) (σ : zs) (v1 : Int32) (v2 : Int32) (v3 : Int32) (H : Heap) (locs : List Loc) (ls : Array Slot), f_X8_spell_46 K10 σ v1 v2 v3 = some (r, σ') → xB A s G ad σ H locs → lv_has ls 4 [(0, .ref (ad 0)), (1, .int v1), (2, .int v2), (3, .int v3)] → W p l e (headSpec wsX8_spell rm_X8_spell).room s m ([.ref (ad 0), .int a1] : List Value).toArray below meth c H locs 17 1700 (MQ below (va_Qv (fun (u : xV) => xQ σ' u) (xPost G ad σ' A) A) ([.ref (ad 0), .int a1] : List Value).toArray s 26 2600 A) (F0 m 46 ls []) := by
    intro K10 hK10 σ v1 v2 v3 H locs ls hf B hl
    unfold f_X8_spell_46 at hf
    refine lv_aload_n hx hb dX8_spell_46 rfl (lv_at hl 0 rfl) ?_
    refine x_getr hx hb hts hinRX8 hown B 0 7 63 (by decide) (by decide) (fun _ => rfl) rfl rfl (by decide) (by decide +kernel) rfl dX8_spell_47 ?_
    refine x_cs B (fun nb a g hs Bz => z_ldc8 hx hb hown Bz dX8_spell_50 ?_)
    refine lv_aload_n hx hb dX8_spell_53 rfl (lv_at hl 0 rfl) ?_
    refine x_getr hx hb hts hinRX8 hown B 0 0 1 (by decide) (by decide) (fun _ => rfl) rfl rfl (by decide) (by decide +kernel) rfl dX8_spell_54 ?_
    refine x_getr hx hb hts hinRX6 hown B 1 0 2 (by decide) (by decide) (fun _ => rfl) rfl rfl (by decide) (by decide +kernel) rfl dX8_spell_57 ?_
    refine x_getr hx hb hts hinRX7 hown B 2 8 10 (by decide) (by decide) (fun _ => rfl) rfl rfl (by decide) (by decide +kernel) rfl dX8_spell_60 ?_
    refine lv_iload_n hx hb dX8_spell_63 rfl (lv_at hl 3 rfl) ?_
    obtain ⟨hg, hf⟩ := zg_some hf
    refine x_iald hx hb B 10 (by decide) (fun _ => rfl) (zin_ok hg) dX8_spell_64 ?_
    obtain ⟨r23, σ24, hu22, hf⟩ := zb_some hf
    refine x_i B (fun nb a g hs Bz => va_runV (As := [.int (σ 10 v3.toNatClampNeg)]) (rest := [.ref (ad 63)]) ⟨hx, hb, hml, hown, hts⟩ (c_J0_charAt_5068e l hu22 _ nb a g hs) (cwV 1 hts gX8_spell_J0_charAt_5068e rfl rfl rfl (by decide +kernel) ⟨Nat.le_of_ble_eq_true rfl, Nat.le_of_ble_eq_true rfl⟩) (z_preL Bz) rfl rfl hl.1 rfl (lv_room (Nat.le_of_ble_eq_true rfl)) dX8_spell_65 ⟨Nat.le_of_ble_eq_true rfl, Nat.le_of_ble_eq_true rfl⟩) (fun H locs B => ?_)
    obtain ⟨r26, σ27, hu25, hf⟩ := zb_some hf
    refine x_r B (fun nb a g hs Bz => va_runV (As := [.int r23]) (rest := []) ⟨hx, hb, hml, hown, hts⟩ (c_J4_append_cf468 l hu25 _ nb a g hs) (cwV 1 hts gX8_spell_J4_append_cf468 rfl rfl rfl (by decide +kernel) ⟨Nat.le_of_ble_eq_true rfl, Nat.le_of_ble_eq_true rfl⟩) (x_preV Bz (by decide) (fun _ => rfl) rfl) rfl rfl hl.1 rfl (lv_room (Nat.le_of_ble_eq_true rfl)) dX8_spell_68 ⟨Nat.le_of_ble_eq_true rfl, Nat.le_of_ble_eq_true rfl⟩) (fun H locs B => ?_)
    refine lv_pop hx hb dX8_spell_71 rfl ?_
    refine lv_aload_n hx hb dX8_spell_72 rfl (lv_at hl 0 rfl) ?_
    refine x_getr hx hb hts hinRX8 hown B 0 7 63 (by decide) (by decide) (fun _ => rfl) rfl rfl (by decide) (by decide +kernel) rfl dX8_spell_73 ?_
    refine lv_aload_n hx hb dX8_spell_76 rfl (lv_at hl 0 rfl) ?_
    refine x_getr hx hb hts hinRX8 hown B 0 0 1 (by decide) (by decide) (fun _ => rfl) rfl rfl (by decide) (by decide +kernel) rfl dX8_spell_77 ?_
    refine x_getr hx hb hts hinRX6 hown B 1 0 2 (by decide) (by decide) (fun _ => rfl) rfl rfl (by decide) (by decide +kernel) rfl dX8_spell_80 ?_
    refine x_getr hx hb hts hinRX7 hown B 2 9 11 (by decide) (by decide) (fun _ => rfl) rfl rfl (by decide) (by decide +kernel) rfl dX8_spell_83 ?_
    refine lv_iload_n hx hb dX8_spell_86 rfl (lv_at hl 3 rfl) ?_
    obtain ⟨hg, hf⟩ := zg_some hf
    refine x_iald hx hb B 11 (by decide) (fun _ => rfl) (zin_ok hg) dX8_spell_87 ?_
    obtain ⟨r29, σ30, hu28, hf⟩ := zb_some hf
    refine x_r B (fun nb a g hs Bz => va_runV (As := [.int (σ27 11 v3.toNatClampNeg)]) (rest := []) ⟨hx, hb, hml, hown, hts⟩ (c_J4_append_bf812 l hu28 _ nb a g hs) (cwV 1 hts gX8_spell_J4_append_bf812 rfl rfl rfl (by decide +kernel) ⟨Nat.le_of_ble_eq_true rfl, Nat.le_of_ble_eq_true rfl⟩) (x_preV Bz (by decide) (fun _ => rfl) rfl) rfl rfl hl.1 rfl (lv_room (Nat.le_of_ble_eq_true rfl)) dX8_spell_88 ⟨Nat.le_of_ble_eq_true rfl, Nat.le_of_ble_eq_true rfl⟩) (fun H locs B => ?_)
    refine lv_pop hx hb dX8_spell_91 rfl ?_
    refine lv_aload_n hx hb dX8_spell_92 rfl (lv_at hl 0 rfl) ?_
    refine x_getr hx hb hts hinRX8 hown B 0 0 1 (by decide) (by decide) (fun _ => rfl) rfl rfl (by decide) (by decide +kernel) rfl dX8_spell_93 ?_
    refine x_getr hx hb hts hinRX6 hown B 1 0 2 (by decide) (by decide) (fun _ => rfl) rfl rfl (by decide) (by decide +kernel) rfl dX8_spell_96 ?_
    refine x_getr hx hb hts hinRX7 hown B 2 8 10 (by decide) (by decide) (fun _ => rfl) rfl rfl (by decide) (by decide +kernel) rfl dX8_spell_99 ?_
    refine lv_iload_n hx hb dX8_spell_102 rfl (lv_at hl 3 rfl) ?_
    obtain ⟨hg, hf⟩ := zg_some hf
    refine x_iald hx hb B 10 (by decide) (fun _ => rfl) (zin_ok hg) dX8_spell_103 ?_
    refine lv_iconst (v := (4 : Int32)) hx hb dX8_spell_104 (by decide) ?_
    refine lv_icmp_ne (tgt := 138) hx hb dX8_spell_105 (by decide) (fun hc => ?_) (fun hc => ?_)
    · have hf := zif_f hc hf
      refine lv_iinc (v := (v2 + (1 : Int32))) (lv' := [(2, .int (v2 + (1 : Int32))), (0, .ref (ad 0)), (1, .int v1), (3, .int v3)]) hx hb dX8_spell_138 hl (k := 2) rfl (zc1 (by decide)) (by decide) rfl (fun ls hl => ?_)
      refine lv_goto (tgt := 10) hx hb dX8_spell_141 (by decide) ?_
      refine W.widen (k := 21) (n := 2100) (Nat.le_of_ble_eq_true rfl) (Nat.le_of_ble_eq_true rfl) ?_
      exact hK10 _ _ _ _ _ _ hf B (lv_sub hl [1, 2, 0] rfl)
    · have hf := zif_t hc hf
      refine lv_aload_n hx hb dX8_spell_108 rfl (lv_at hl 0 rfl) ?_
      refine x_getr hx hb hts hinRX8 hown B 0 7 63 (by decide) (by decide) (fun _ => rfl) rfl rfl (by decide) (by decide +kernel) rfl dX8_spell_109 ?_
      refine lv_bipush (v := (45 : Int32)) hx hb dX8_spell_112 (by decide) ?_
      obtain ⟨r32, σ33, hu31, hf⟩ := zb_some hf
      refine x_r B (fun nb a g hs Bz => va_runV (As := [.int (45 : Int32)]) (rest := []) ⟨hx, hb, hml, hown, hts⟩ (c_J4_append_cf468 l hu31 _ nb a g hs) (cwV 1 hts gX8_spell_J4_append_cf468 rfl rfl rfl (by decide +kernel) ⟨Nat.le_of_ble_eq_true rfl, Nat.le_of_ble_eq_true rfl⟩) (x_preV Bz (by decide) (fun _ => rfl) rfl) rfl rfl hl.1 rfl (lv_room (Nat.le_of_ble_eq_true rfl)) dX8_spell_114 ⟨Nat.le_of_ble_eq_true rfl, Nat.le_of_ble_eq_true rfl⟩) (fun H locs B => ?_)
      refine lv_pop hx hb dX8_spell_117 rfl ?_
      refine lv_aload_n hx hb dX8_spell_118 rfl (lv_at hl 0 rfl) ?_
      refine x_getr hx hb hts hinRX8 hown B 0 7 63 (by decide) (by decide) (fun _ => rfl) rfl rfl (by decide) (by decide +kernel) rfl dX8_spell_119 ?_
      refine lv_aload_n hx hb dX8_spell_122 rfl (lv_at hl 0 rfl) ?_
      refine x_getr hx hb hts hinRX8 hown B 0 0 1 (by decide) (by decide) (fun _ => rfl) rfl rfl (by decide) (by decide +kernel) rfl dX8_spell_123 ?_
      refine x_getr hx hb hts hinRX6 hown B 1 0 2 (by decide) (by decide) (fun _ => rfl) rfl rfl (by decide) (by decide +kernel) rfl dX8_spell_126 ?_
      refine x_getr hx hb hts hinRX7 hown B 2 10 12 (by decide) (by decide) (fun _ => rfl) rfl rfl (by decide) (by decide +kernel) rfl dX8_spell_129 ?_
      refine lv_iload_n hx hb dX8_spell_132 rfl (lv_at hl 3 rfl) ?_
      obtain ⟨hg, hf⟩ := zg_some hf
      refine x_iald hx hb B 12 (by decide) (fun _ => rfl) (zin_ok hg) dX8_spell_133 ?_
      obtain ⟨r35, σ36, hu34, hf⟩ := zb_some hf
      refine x_r B (fun nb a g hs Bz => va_runV (As := [.int (σ33 12 v3.toNatClampNeg)]) (rest := []) ⟨hx, hb, hml, hown, hts⟩ (c_J4_append_bf812 l hu34 _ nb a g hs) (cwV 1 hts gX8_spell_J4_append_bf812 rfl rfl rfl (by decide +kernel) ⟨Nat.le_of_ble_eq_true rfl, Nat.le_of_ble_eq_true rfl⟩) (x_preV Bz (by decide) (fun _ => rfl) rfl) rfl rfl hl.1 rfl (lv_room (Nat.le_of_ble_eq_true rfl)) dX8_spell_134 ⟨Nat.le_of_ble_eq_true rfl, Nat.le_of_ble_eq_true rfl⟩) (fun H locs B => ?_)
      refine lv_pop hx hb dX8_spell_137 rfl ?_
      refine lv_iinc (v := (v2 + (1 : Int32))) (lv' := [(2, .int (v2 + (1 : Int32))), (0, .ref (ad 0)), (1, .int v1), (3, .int v3)]) hx hb dX8_spell_138 hl (k := 2) rfl (zc1 (by decide)) (by decide) rfl (fun ls hl => ?_)
      refine lv_goto (tgt := 10) hx hb dX8_spell_141 (by decide) ?_
      exact hK10 _ _ _ _ _ _ hf B (lv_sub hl [1, 2, 0] rfl)
  have L10_3 : ∀ (σ : zs) (v1 : Int32) (v2 : Int32) (H : Heap) (locs : List Loc) (ls : Array Slot), zlp2 (f_X8_spell_10) 2 σ v1 v2 = some (r, σ') → xB A s G ad σ H locs → lv_has ls 4 [(0, .ref (ad 0)), (1, .int v1), (2, .int v2)] → W p l e (headSpec wsX8_spell rm_X8_spell).room s m ([.ref (ad 0), .int a1] : List Value).toArray below meth c H locs 16 1600 (MQ below (va_Qv (fun (u : xV) => xQ σ' u) (xPost G ad σ' A) A) ([.ref (ad 0), .int a1] : List Value).toArray s 26 2600 A) (F0 m 10 ls []) := by
    intro σ v1 v2 H locs ls hf B hl
    have hf : f_X8_spell_10 (zlp2 (f_X8_spell_10) 1) σ v1 v2 = some (r, σ') := hf
    unfold f_X8_spell_10 at hf
    refine lv_iload_n hx hb dX8_spell_10 rfl (lv_at hl 2 rfl) ?_
    refine lv_aload_n hx hb dX8_spell_11 rfl (lv_at hl 0 rfl) ?_
    refine x_getr hx hb hts hinRX8 hown B 0 0 1 (by decide) (by decide) (fun _ => rfl) rfl rfl (by decide) (by decide +kernel) rfl dX8_spell_12 ?_
    refine x_getr hx hb hts hinRX6 hown B 1 0 2 (by decide) (by decide) (fun _ => rfl) rfl rfl (by decide) (by decide +kernel) rfl dX8_spell_15 ?_
    refine x_getr hx hb hts hinRX7 hown B 2 7 9 (by decide) (by decide) (fun _ => rfl) rfl rfl (by decide) (by decide +kernel) rfl dX8_spell_18 ?_
    refine lv_iload_n hx hb dX8_spell_21 rfl (lv_at hl 1 rfl) ?_
    obtain ⟨hg, hf⟩ := zg_some hf
    refine x_iald hx hb B 9 (by decide) (fun _ => rfl) (zin_ok hg) dX8_spell_22 ?_
    refine lv_icmp_ge (tgt := 144) hx hb dX8_spell_23 (by decide) (fun hc => ?_) (fun hc => ?_)
    · have hf := zif_t hc hf
      refine W.widen (k := 26) (n := 2600) (Nat.le_of_ble_eq_true rfl) (Nat.le_of_ble_eq_true rfl) ?_
      exact x_vret hx hb hr hlocks B hf dX8_spell_144
    · have hf := zif_f hc hf
      refine lv_iload_n hx hb dX8_spell_26 rfl (lv_at hl 1 rfl) ?_
      refine lv_iconst (v := (4 : Int32)) hx hb dX8_spell_27 (by decide) ?_
      refine lv_imul hx hb dX8_spell_28 ?_
      refine lv_iload_n hx hb dX8_spell_29 rfl (lv_at hl 2 rfl) ?_
      refine lv_iadd hx hb dX8_spell_30 ?_
      refine lv_istore_n (lv' := [(3, .int ((v1 * (4 : Int32)) + v2)), (0, .ref (ad 0)), (1, .int v1), (2, .int v2)]) hx hb dX8_spell_31 rfl hl (by decide) rfl (fun ls hl => ?_)
      refine lv_iload_n hx hb dX8_spell_32 rfl (lv_at hl 3 rfl) ?_
      refine lv_if_le (tgt := 46) hx hb dX8_spell_33 (by decide) (fun hc => ?_) (fun hc => ?_)
      · have hf := zif_t hc hf
        refine W.widen (k := 17) (n := 1700) (Nat.le_of_ble_eq_true rfl) (Nat.le_of_ble_eq_true rfl) ?_
        exact L46_3 _ L10_4  _ _ _ _ _ _ _ hf B (lv_sub hl [1, 2, 3, 0] rfl)
      · have hf := zif_f hc hf
        refine lv_aload_n hx hb dX8_spell_36 rfl (lv_at hl 1 rfl) ?_
        refine x_getr hx hb hts hinRX8 hown B 0 7 63 (by decide) (by decide) (fun _ => rfl) rfl rfl (by decide) (by decide +kernel) rfl dX8_spell_37 ?_
        refine lv_bipush (v := (59 : Int32)) hx hb dX8_spell_40 (by decide) ?_
        obtain ⟨r38, σ39, hu37, hf⟩ := zb_some hf
        refine x_r B (fun nb a g hs Bz => va_runV (As := [.int (59 : Int32)]) (rest := []) ⟨hx, hb, hml, hown, hts⟩ (c_J4_append_cf468 l hu37 _ nb a g hs) (cwV 1 hts gX8_spell_J4_append_cf468 rfl rfl rfl (by decide +kernel) ⟨Nat.le_of_ble_eq_true rfl, Nat.le_of_ble_eq_true rfl⟩) (x_preV Bz (by decide) (fun _ => rfl) rfl) rfl rfl hl.1 rfl (lv_room (Nat.le_of_ble_eq_true rfl)) dX8_spell_42 ⟨Nat.le_of_ble_eq_true rfl, Nat.le_of_ble_eq_true rfl⟩) (fun H locs B => ?_)
        refine lv_pop hx hb dX8_spell_45 rfl ?_
        exact L46_3 _ L10_4  _ _ _ _ _ _ _ hf B (lv_sub hl [1, 2, 3, 0] rfl)
  have L46_2 : ∀ (K10 : zs → Int32 → Int32 → Option (Int32 × zs)) (hK10 : ∀ (σ : zs) (v1 : Int32) (v2 : Int32) (H : Heap) (locs : List Loc) (ls : Array Slot), K10 σ v1 v2 = some (r, σ') → xB A s G ad σ H locs → lv_has ls 4 [(0, .ref (ad 0)), (1, .int v1), (2, .int v2)] → W p l e (headSpec wsX8_spell rm_X8_spell).room s m ([.ref (ad 0), .int a1] : List Value).toArray below meth c H locs 16 1600 (MQ below (va_Qv (fun (u : xV) => xQ σ' u) (xPost G ad σ' A) A) ([.ref (ad 0), .int a1] : List Value).toArray s 26 2600 A) (F0 m 10 ls [])) (σ : zs) (v1 : Int32) (v2 : Int32) (v3 : Int32) (H : Heap) (locs : List Loc) (ls : Array Slot), f_X8_spell_46 K10 σ v1 v2 v3 = some (r, σ') → xB A s G ad σ H locs → lv_has ls 4 [(0, .ref (ad 0)), (1, .int v1), (2, .int v2), (3, .int v3)] → W p l e (headSpec wsX8_spell rm_X8_spell).room s m ([.ref (ad 0), .int a1] : List Value).toArray below meth c H locs 12 1200 (MQ below (va_Qv (fun (u : xV) => xQ σ' u) (xPost G ad σ' A) A) ([.ref (ad 0), .int a1] : List Value).toArray s 26 2600 A) (F0 m 46 ls []) := by
    intro K10 hK10 σ v1 v2 v3 H locs ls hf B hl
    unfold f_X8_spell_46 at hf
    refine lv_aload_n hx hb dX8_spell_46 rfl (lv_at hl 0 rfl) ?_
    refine x_getr hx hb hts hinRX8 hown B 0 7 63 (by decide) (by decide) (fun _ => rfl) rfl rfl (by decide) (by decide +kernel) rfl dX8_spell_47 ?_
    refine x_cs B (fun nb a g hs Bz => z_ldc8 hx hb hown Bz dX8_spell_50 ?_)
    refine lv_aload_n hx hb dX8_spell_53 rfl (lv_at hl 0 rfl) ?_
    refine x_getr hx hb hts hinRX8 hown B 0 0 1 (by decide) (by decide) (fun _ => rfl) rfl rfl (by decide) (by decide +kernel) rfl dX8_spell_54 ?_
    refine x_getr hx hb hts hinRX6 hown B 1 0 2 (by decide) (by decide) (fun _ => rfl) rfl rfl (by decide) (by decide +kernel) rfl dX8_spell_57 ?_
    refine x_getr hx hb hts hinRX7 hown B 2 8 10 (by decide) (by decide) (fun _ => rfl) rfl rfl (by decide) (by decide +kernel) rfl dX8_spell_60 ?_
    refine lv_iload_n hx hb dX8_spell_63 rfl (lv_at hl 3 rfl) ?_
    obtain ⟨hg, hf⟩ := zg_some hf
    refine x_iald hx hb B 10 (by decide) (fun _ => rfl) (zin_ok hg) dX8_spell_64 ?_
    obtain ⟨r41, σ42, hu40, hf⟩ := zb_some hf
    refine x_i B (fun nb a g hs Bz => va_runV (As := [.int (σ 10 v3.toNatClampNeg)]) (rest := [.ref (ad 63)]) ⟨hx, hb, hml, hown, hts⟩ (c_J0_charAt_5068e l hu40 _ nb a g hs) (cwV 1 hts gX8_spell_J0_charAt_5068e rfl rfl rfl (by decide +kernel) ⟨Nat.le_of_ble_eq_true rfl, Nat.le_of_ble_eq_true rfl⟩) (z_preL Bz) rfl rfl hl.1 rfl (lv_room (Nat.le_of_ble_eq_true rfl)) dX8_spell_65 ⟨Nat.le_of_ble_eq_true rfl, Nat.le_of_ble_eq_true rfl⟩) (fun H locs B => ?_)
    obtain ⟨r44, σ45, hu43, hf⟩ := zb_some hf
    refine x_r B (fun nb a g hs Bz => va_runV (As := [.int r41]) (rest := []) ⟨hx, hb, hml, hown, hts⟩ (c_J4_append_cf468 l hu43 _ nb a g hs) (cwV 1 hts gX8_spell_J4_append_cf468 rfl rfl rfl (by decide +kernel) ⟨Nat.le_of_ble_eq_true rfl, Nat.le_of_ble_eq_true rfl⟩) (x_preV Bz (by decide) (fun _ => rfl) rfl) rfl rfl hl.1 rfl (lv_room (Nat.le_of_ble_eq_true rfl)) dX8_spell_68 ⟨Nat.le_of_ble_eq_true rfl, Nat.le_of_ble_eq_true rfl⟩) (fun H locs B => ?_)
    refine lv_pop hx hb dX8_spell_71 rfl ?_
    refine lv_aload_n hx hb dX8_spell_72 rfl (lv_at hl 0 rfl) ?_
    refine x_getr hx hb hts hinRX8 hown B 0 7 63 (by decide) (by decide) (fun _ => rfl) rfl rfl (by decide) (by decide +kernel) rfl dX8_spell_73 ?_
    refine lv_aload_n hx hb dX8_spell_76 rfl (lv_at hl 0 rfl) ?_
    refine x_getr hx hb hts hinRX8 hown B 0 0 1 (by decide) (by decide) (fun _ => rfl) rfl rfl (by decide) (by decide +kernel) rfl dX8_spell_77 ?_
    refine x_getr hx hb hts hinRX6 hown B 1 0 2 (by decide) (by decide) (fun _ => rfl) rfl rfl (by decide) (by decide +kernel) rfl dX8_spell_80 ?_
    refine x_getr hx hb hts hinRX7 hown B 2 9 11 (by decide) (by decide) (fun _ => rfl) rfl rfl (by decide) (by decide +kernel) rfl dX8_spell_83 ?_
    refine lv_iload_n hx hb dX8_spell_86 rfl (lv_at hl 3 rfl) ?_
    obtain ⟨hg, hf⟩ := zg_some hf
    refine x_iald hx hb B 11 (by decide) (fun _ => rfl) (zin_ok hg) dX8_spell_87 ?_
    obtain ⟨r47, σ48, hu46, hf⟩ := zb_some hf
    refine x_r B (fun nb a g hs Bz => va_runV (As := [.int (σ45 11 v3.toNatClampNeg)]) (rest := []) ⟨hx, hb, hml, hown, hts⟩ (c_J4_append_bf812 l hu46 _ nb a g hs) (cwV 1 hts gX8_spell_J4_append_bf812 rfl rfl rfl (by decide +kernel) ⟨Nat.le_of_ble_eq_true rfl, Nat.le_of_ble_eq_true rfl⟩) (x_preV Bz (by decide) (fun _ => rfl) rfl) rfl rfl hl.1 rfl (lv_room (Nat.le_of_ble_eq_true rfl)) dX8_spell_88 ⟨Nat.le_of_ble_eq_true rfl, Nat.le_of_ble_eq_true rfl⟩) (fun H locs B => ?_)
    refine lv_pop hx hb dX8_spell_91 rfl ?_
    refine lv_aload_n hx hb dX8_spell_92 rfl (lv_at hl 0 rfl) ?_
    refine x_getr hx hb hts hinRX8 hown B 0 0 1 (by decide) (by decide) (fun _ => rfl) rfl rfl (by decide) (by decide +kernel) rfl dX8_spell_93 ?_
    refine x_getr hx hb hts hinRX6 hown B 1 0 2 (by decide) (by decide) (fun _ => rfl) rfl rfl (by decide) (by decide +kernel) rfl dX8_spell_96 ?_
    refine x_getr hx hb hts hinRX7 hown B 2 8 10 (by decide) (by decide) (fun _ => rfl) rfl rfl (by decide) (by decide +kernel) rfl dX8_spell_99 ?_
    refine lv_iload_n hx hb dX8_spell_102 rfl (lv_at hl 3 rfl) ?_
    obtain ⟨hg, hf⟩ := zg_some hf
    refine x_iald hx hb B 10 (by decide) (fun _ => rfl) (zin_ok hg) dX8_spell_103 ?_
    refine lv_iconst (v := (4 : Int32)) hx hb dX8_spell_104 (by decide) ?_
    refine lv_icmp_ne (tgt := 138) hx hb dX8_spell_105 (by decide) (fun hc => ?_) (fun hc => ?_)
    · have hf := zif_f hc hf
      refine lv_iinc (v := (v2 + (1 : Int32))) (lv' := [(2, .int (v2 + (1 : Int32))), (0, .ref (ad 0)), (1, .int v1), (3, .int v3)]) hx hb dX8_spell_138 hl (k := 2) rfl (zc1 (by decide)) (by decide) rfl (fun ls hl => ?_)
      refine lv_goto (tgt := 10) hx hb dX8_spell_141 (by decide) ?_
      refine W.widen (k := 16) (n := 1600) (Nat.le_of_ble_eq_true rfl) (Nat.le_of_ble_eq_true rfl) ?_
      exact hK10 _ _ _ _ _ _ hf B (lv_sub hl [1, 2, 0] rfl)
    · have hf := zif_t hc hf
      refine lv_aload_n hx hb dX8_spell_108 rfl (lv_at hl 0 rfl) ?_
      refine x_getr hx hb hts hinRX8 hown B 0 7 63 (by decide) (by decide) (fun _ => rfl) rfl rfl (by decide) (by decide +kernel) rfl dX8_spell_109 ?_
      refine lv_bipush (v := (45 : Int32)) hx hb dX8_spell_112 (by decide) ?_
      obtain ⟨r50, σ51, hu49, hf⟩ := zb_some hf
      refine x_r B (fun nb a g hs Bz => va_runV (As := [.int (45 : Int32)]) (rest := []) ⟨hx, hb, hml, hown, hts⟩ (c_J4_append_cf468 l hu49 _ nb a g hs) (cwV 1 hts gX8_spell_J4_append_cf468 rfl rfl rfl (by decide +kernel) ⟨Nat.le_of_ble_eq_true rfl, Nat.le_of_ble_eq_true rfl⟩) (x_preV Bz (by decide) (fun _ => rfl) rfl) rfl rfl hl.1 rfl (lv_room (Nat.le_of_ble_eq_true rfl)) dX8_spell_114 ⟨Nat.le_of_ble_eq_true rfl, Nat.le_of_ble_eq_true rfl⟩) (fun H locs B => ?_)
      refine lv_pop hx hb dX8_spell_117 rfl ?_
      refine lv_aload_n hx hb dX8_spell_118 rfl (lv_at hl 0 rfl) ?_
      refine x_getr hx hb hts hinRX8 hown B 0 7 63 (by decide) (by decide) (fun _ => rfl) rfl rfl (by decide) (by decide +kernel) rfl dX8_spell_119 ?_
      refine lv_aload_n hx hb dX8_spell_122 rfl (lv_at hl 0 rfl) ?_
      refine x_getr hx hb hts hinRX8 hown B 0 0 1 (by decide) (by decide) (fun _ => rfl) rfl rfl (by decide) (by decide +kernel) rfl dX8_spell_123 ?_
      refine x_getr hx hb hts hinRX6 hown B 1 0 2 (by decide) (by decide) (fun _ => rfl) rfl rfl (by decide) (by decide +kernel) rfl dX8_spell_126 ?_
      refine x_getr hx hb hts hinRX7 hown B 2 10 12 (by decide) (by decide) (fun _ => rfl) rfl rfl (by decide) (by decide +kernel) rfl dX8_spell_129 ?_
      refine lv_iload_n hx hb dX8_spell_132 rfl (lv_at hl 3 rfl) ?_
      obtain ⟨hg, hf⟩ := zg_some hf
      refine x_iald hx hb B 12 (by decide) (fun _ => rfl) (zin_ok hg) dX8_spell_133 ?_
      obtain ⟨r53, σ54, hu52, hf⟩ := zb_some hf
      refine x_r B (fun nb a g hs Bz => va_runV (As := [.int (σ51 12 v3.toNatClampNeg)]) (rest := []) ⟨hx, hb, hml, hown, hts⟩ (c_J4_append_bf812 l hu52 _ nb a g hs) (cwV 1 hts gX8_spell_J4_append_bf812 rfl rfl rfl (by decide +kernel) ⟨Nat.le_of_ble_eq_true rfl, Nat.le_of_ble_eq_true rfl⟩) (x_preV Bz (by decide) (fun _ => rfl) rfl) rfl rfl hl.1 rfl (lv_room (Nat.le_of_ble_eq_true rfl)) dX8_spell_134 ⟨Nat.le_of_ble_eq_true rfl, Nat.le_of_ble_eq_true rfl⟩) (fun H locs B => ?_)
      refine lv_pop hx hb dX8_spell_137 rfl ?_
      refine lv_iinc (v := (v2 + (1 : Int32))) (lv' := [(2, .int (v2 + (1 : Int32))), (0, .ref (ad 0)), (1, .int v1), (3, .int v3)]) hx hb dX8_spell_138 hl (k := 2) rfl (zc1 (by decide)) (by decide) rfl (fun ls hl => ?_)
      refine lv_goto (tgt := 10) hx hb dX8_spell_141 (by decide) ?_
      exact hK10 _ _ _ _ _ _ hf B (lv_sub hl [1, 2, 0] rfl)
  have L10_2 : ∀ (σ : zs) (v1 : Int32) (v2 : Int32) (H : Heap) (locs : List Loc) (ls : Array Slot), zlp2 (f_X8_spell_10) 3 σ v1 v2 = some (r, σ') → xB A s G ad σ H locs → lv_has ls 4 [(0, .ref (ad 0)), (1, .int v1), (2, .int v2)] → W p l e (headSpec wsX8_spell rm_X8_spell).room s m ([.ref (ad 0), .int a1] : List Value).toArray below meth c H locs 11 1100 (MQ below (va_Qv (fun (u : xV) => xQ σ' u) (xPost G ad σ' A) A) ([.ref (ad 0), .int a1] : List Value).toArray s 26 2600 A) (F0 m 10 ls []) := by
    intro σ v1 v2 H locs ls hf B hl
    have hf : f_X8_spell_10 (zlp2 (f_X8_spell_10) 2) σ v1 v2 = some (r, σ') := hf
    unfold f_X8_spell_10 at hf
    refine lv_iload_n hx hb dX8_spell_10 rfl (lv_at hl 2 rfl) ?_
    refine lv_aload_n hx hb dX8_spell_11 rfl (lv_at hl 0 rfl) ?_
    refine x_getr hx hb hts hinRX8 hown B 0 0 1 (by decide) (by decide) (fun _ => rfl) rfl rfl (by decide) (by decide +kernel) rfl dX8_spell_12 ?_
    refine x_getr hx hb hts hinRX6 hown B 1 0 2 (by decide) (by decide) (fun _ => rfl) rfl rfl (by decide) (by decide +kernel) rfl dX8_spell_15 ?_
    refine x_getr hx hb hts hinRX7 hown B 2 7 9 (by decide) (by decide) (fun _ => rfl) rfl rfl (by decide) (by decide +kernel) rfl dX8_spell_18 ?_
    refine lv_iload_n hx hb dX8_spell_21 rfl (lv_at hl 1 rfl) ?_
    obtain ⟨hg, hf⟩ := zg_some hf
    refine x_iald hx hb B 9 (by decide) (fun _ => rfl) (zin_ok hg) dX8_spell_22 ?_
    refine lv_icmp_ge (tgt := 144) hx hb dX8_spell_23 (by decide) (fun hc => ?_) (fun hc => ?_)
    · have hf := zif_t hc hf
      refine W.widen (k := 26) (n := 2600) (Nat.le_of_ble_eq_true rfl) (Nat.le_of_ble_eq_true rfl) ?_
      exact x_vret hx hb hr hlocks B hf dX8_spell_144
    · have hf := zif_f hc hf
      refine lv_iload_n hx hb dX8_spell_26 rfl (lv_at hl 1 rfl) ?_
      refine lv_iconst (v := (4 : Int32)) hx hb dX8_spell_27 (by decide) ?_
      refine lv_imul hx hb dX8_spell_28 ?_
      refine lv_iload_n hx hb dX8_spell_29 rfl (lv_at hl 2 rfl) ?_
      refine lv_iadd hx hb dX8_spell_30 ?_
      refine lv_istore_n (lv' := [(3, .int ((v1 * (4 : Int32)) + v2)), (0, .ref (ad 0)), (1, .int v1), (2, .int v2)]) hx hb dX8_spell_31 rfl hl (by decide) rfl (fun ls hl => ?_)
      refine lv_iload_n hx hb dX8_spell_32 rfl (lv_at hl 3 rfl) ?_
      refine lv_if_le (tgt := 46) hx hb dX8_spell_33 (by decide) (fun hc => ?_) (fun hc => ?_)
      · have hf := zif_t hc hf
        refine W.widen (k := 12) (n := 1200) (Nat.le_of_ble_eq_true rfl) (Nat.le_of_ble_eq_true rfl) ?_
        exact L46_2 _ L10_3  _ _ _ _ _ _ _ hf B (lv_sub hl [1, 2, 3, 0] rfl)
      · have hf := zif_f hc hf
        refine lv_aload_n hx hb dX8_spell_36 rfl (lv_at hl 1 rfl) ?_
        refine x_getr hx hb hts hinRX8 hown B 0 7 63 (by decide) (by decide) (fun _ => rfl) rfl rfl (by decide) (by decide +kernel) rfl dX8_spell_37 ?_
        refine lv_bipush (v := (59 : Int32)) hx hb dX8_spell_40 (by decide) ?_
        obtain ⟨r56, σ57, hu55, hf⟩ := zb_some hf
        refine x_r B (fun nb a g hs Bz => va_runV (As := [.int (59 : Int32)]) (rest := []) ⟨hx, hb, hml, hown, hts⟩ (c_J4_append_cf468 l hu55 _ nb a g hs) (cwV 1 hts gX8_spell_J4_append_cf468 rfl rfl rfl (by decide +kernel) ⟨Nat.le_of_ble_eq_true rfl, Nat.le_of_ble_eq_true rfl⟩) (x_preV Bz (by decide) (fun _ => rfl) rfl) rfl rfl hl.1 rfl (lv_room (Nat.le_of_ble_eq_true rfl)) dX8_spell_42 ⟨Nat.le_of_ble_eq_true rfl, Nat.le_of_ble_eq_true rfl⟩) (fun H locs B => ?_)
        refine lv_pop hx hb dX8_spell_45 rfl ?_
        exact L46_2 _ L10_3  _ _ _ _ _ _ _ hf B (lv_sub hl [1, 2, 3, 0] rfl)
  have L46_1 : ∀ (K10 : zs → Int32 → Int32 → Option (Int32 × zs)) (hK10 : ∀ (σ : zs) (v1 : Int32) (v2 : Int32) (H : Heap) (locs : List Loc) (ls : Array Slot), K10 σ v1 v2 = some (r, σ') → xB A s G ad σ H locs → lv_has ls 4 [(0, .ref (ad 0)), (1, .int v1), (2, .int v2)] → W p l e (headSpec wsX8_spell rm_X8_spell).room s m ([.ref (ad 0), .int a1] : List Value).toArray below meth c H locs 11 1100 (MQ below (va_Qv (fun (u : xV) => xQ σ' u) (xPost G ad σ' A) A) ([.ref (ad 0), .int a1] : List Value).toArray s 26 2600 A) (F0 m 10 ls [])) (σ : zs) (v1 : Int32) (v2 : Int32) (v3 : Int32) (H : Heap) (locs : List Loc) (ls : Array Slot), f_X8_spell_46 K10 σ v1 v2 v3 = some (r, σ') → xB A s G ad σ H locs → lv_has ls 4 [(0, .ref (ad 0)), (1, .int v1), (2, .int v2), (3, .int v3)] → W p l e (headSpec wsX8_spell rm_X8_spell).room s m ([.ref (ad 0), .int a1] : List Value).toArray below meth c H locs 7 700 (MQ below (va_Qv (fun (u : xV) => xQ σ' u) (xPost G ad σ' A) A) ([.ref (ad 0), .int a1] : List Value).toArray s 26 2600 A) (F0 m 46 ls []) := by
    intro K10 hK10 σ v1 v2 v3 H locs ls hf B hl
    unfold f_X8_spell_46 at hf
    refine lv_aload_n hx hb dX8_spell_46 rfl (lv_at hl 0 rfl) ?_
    refine x_getr hx hb hts hinRX8 hown B 0 7 63 (by decide) (by decide) (fun _ => rfl) rfl rfl (by decide) (by decide +kernel) rfl dX8_spell_47 ?_
    refine x_cs B (fun nb a g hs Bz => z_ldc8 hx hb hown Bz dX8_spell_50 ?_)
    refine lv_aload_n hx hb dX8_spell_53 rfl (lv_at hl 0 rfl) ?_
    refine x_getr hx hb hts hinRX8 hown B 0 0 1 (by decide) (by decide) (fun _ => rfl) rfl rfl (by decide) (by decide +kernel) rfl dX8_spell_54 ?_
    refine x_getr hx hb hts hinRX6 hown B 1 0 2 (by decide) (by decide) (fun _ => rfl) rfl rfl (by decide) (by decide +kernel) rfl dX8_spell_57 ?_
    refine x_getr hx hb hts hinRX7 hown B 2 8 10 (by decide) (by decide) (fun _ => rfl) rfl rfl (by decide) (by decide +kernel) rfl dX8_spell_60 ?_
    refine lv_iload_n hx hb dX8_spell_63 rfl (lv_at hl 3 rfl) ?_
    obtain ⟨hg, hf⟩ := zg_some hf
    refine x_iald hx hb B 10 (by decide) (fun _ => rfl) (zin_ok hg) dX8_spell_64 ?_
    obtain ⟨r59, σ60, hu58, hf⟩ := zb_some hf
    refine x_i B (fun nb a g hs Bz => va_runV (As := [.int (σ 10 v3.toNatClampNeg)]) (rest := [.ref (ad 63)]) ⟨hx, hb, hml, hown, hts⟩ (c_J0_charAt_5068e l hu58 _ nb a g hs) (cwV 1 hts gX8_spell_J0_charAt_5068e rfl rfl rfl (by decide +kernel) ⟨Nat.le_of_ble_eq_true rfl, Nat.le_of_ble_eq_true rfl⟩) (z_preL Bz) rfl rfl hl.1 rfl (lv_room (Nat.le_of_ble_eq_true rfl)) dX8_spell_65 ⟨Nat.le_of_ble_eq_true rfl, Nat.le_of_ble_eq_true rfl⟩) (fun H locs B => ?_)
    obtain ⟨r62, σ63, hu61, hf⟩ := zb_some hf
    refine x_r B (fun nb a g hs Bz => va_runV (As := [.int r59]) (rest := []) ⟨hx, hb, hml, hown, hts⟩ (c_J4_append_cf468 l hu61 _ nb a g hs) (cwV 1 hts gX8_spell_J4_append_cf468 rfl rfl rfl (by decide +kernel) ⟨Nat.le_of_ble_eq_true rfl, Nat.le_of_ble_eq_true rfl⟩) (x_preV Bz (by decide) (fun _ => rfl) rfl) rfl rfl hl.1 rfl (lv_room (Nat.le_of_ble_eq_true rfl)) dX8_spell_68 ⟨Nat.le_of_ble_eq_true rfl, Nat.le_of_ble_eq_true rfl⟩) (fun H locs B => ?_)
    refine lv_pop hx hb dX8_spell_71 rfl ?_
    refine lv_aload_n hx hb dX8_spell_72 rfl (lv_at hl 0 rfl) ?_
    refine x_getr hx hb hts hinRX8 hown B 0 7 63 (by decide) (by decide) (fun _ => rfl) rfl rfl (by decide) (by decide +kernel) rfl dX8_spell_73 ?_
    refine lv_aload_n hx hb dX8_spell_76 rfl (lv_at hl 0 rfl) ?_
    refine x_getr hx hb hts hinRX8 hown B 0 0 1 (by decide) (by decide) (fun _ => rfl) rfl rfl (by decide) (by decide +kernel) rfl dX8_spell_77 ?_
    refine x_getr hx hb hts hinRX6 hown B 1 0 2 (by decide) (by decide) (fun _ => rfl) rfl rfl (by decide) (by decide +kernel) rfl dX8_spell_80 ?_
    refine x_getr hx hb hts hinRX7 hown B 2 9 11 (by decide) (by decide) (fun _ => rfl) rfl rfl (by decide) (by decide +kernel) rfl dX8_spell_83 ?_
    refine lv_iload_n hx hb dX8_spell_86 rfl (lv_at hl 3 rfl) ?_
    obtain ⟨hg, hf⟩ := zg_some hf
    refine x_iald hx hb B 11 (by decide) (fun _ => rfl) (zin_ok hg) dX8_spell_87 ?_
    obtain ⟨r65, σ66, hu64, hf⟩ := zb_some hf
    refine x_r B (fun nb a g hs Bz => va_runV (As := [.int (σ63 11 v3.toNatClampNeg)]) (rest := []) ⟨hx, hb, hml, hown, hts⟩ (c_J4_append_bf812 l hu64 _ nb a g hs) (cwV 1 hts gX8_spell_J4_append_bf812 rfl rfl rfl (by decide +kernel) ⟨Nat.le_of_ble_eq_true rfl, Nat.le_of_ble_eq_true rfl⟩) (x_preV Bz (by decide) (fun _ => rfl) rfl) rfl rfl hl.1 rfl (lv_room (Nat.le_of_ble_eq_true rfl)) dX8_spell_88 ⟨Nat.le_of_ble_eq_true rfl, Nat.le_of_ble_eq_true rfl⟩) (fun H locs B => ?_)
    refine lv_pop hx hb dX8_spell_91 rfl ?_
    refine lv_aload_n hx hb dX8_spell_92 rfl (lv_at hl 0 rfl) ?_
    refine x_getr hx hb hts hinRX8 hown B 0 0 1 (by decide) (by decide) (fun _ => rfl) rfl rfl (by decide) (by decide +kernel) rfl dX8_spell_93 ?_
    refine x_getr hx hb hts hinRX6 hown B 1 0 2 (by decide) (by decide) (fun _ => rfl) rfl rfl (by decide) (by decide +kernel) rfl dX8_spell_96 ?_
    refine x_getr hx hb hts hinRX7 hown B 2 8 10 (by decide) (by decide) (fun _ => rfl) rfl rfl (by decide) (by decide +kernel) rfl dX8_spell_99 ?_
    refine lv_iload_n hx hb dX8_spell_102 rfl (lv_at hl 3 rfl) ?_
    obtain ⟨hg, hf⟩ := zg_some hf
    refine x_iald hx hb B 10 (by decide) (fun _ => rfl) (zin_ok hg) dX8_spell_103 ?_
    refine lv_iconst (v := (4 : Int32)) hx hb dX8_spell_104 (by decide) ?_
    refine lv_icmp_ne (tgt := 138) hx hb dX8_spell_105 (by decide) (fun hc => ?_) (fun hc => ?_)
    · have hf := zif_f hc hf
      refine lv_iinc (v := (v2 + (1 : Int32))) (lv' := [(2, .int (v2 + (1 : Int32))), (0, .ref (ad 0)), (1, .int v1), (3, .int v3)]) hx hb dX8_spell_138 hl (k := 2) rfl (zc1 (by decide)) (by decide) rfl (fun ls hl => ?_)
      refine lv_goto (tgt := 10) hx hb dX8_spell_141 (by decide) ?_
      refine W.widen (k := 11) (n := 1100) (Nat.le_of_ble_eq_true rfl) (Nat.le_of_ble_eq_true rfl) ?_
      exact hK10 _ _ _ _ _ _ hf B (lv_sub hl [1, 2, 0] rfl)
    · have hf := zif_t hc hf
      refine lv_aload_n hx hb dX8_spell_108 rfl (lv_at hl 0 rfl) ?_
      refine x_getr hx hb hts hinRX8 hown B 0 7 63 (by decide) (by decide) (fun _ => rfl) rfl rfl (by decide) (by decide +kernel) rfl dX8_spell_109 ?_
      refine lv_bipush (v := (45 : Int32)) hx hb dX8_spell_112 (by decide) ?_
      obtain ⟨r68, σ69, hu67, hf⟩ := zb_some hf
      refine x_r B (fun nb a g hs Bz => va_runV (As := [.int (45 : Int32)]) (rest := []) ⟨hx, hb, hml, hown, hts⟩ (c_J4_append_cf468 l hu67 _ nb a g hs) (cwV 1 hts gX8_spell_J4_append_cf468 rfl rfl rfl (by decide +kernel) ⟨Nat.le_of_ble_eq_true rfl, Nat.le_of_ble_eq_true rfl⟩) (x_preV Bz (by decide) (fun _ => rfl) rfl) rfl rfl hl.1 rfl (lv_room (Nat.le_of_ble_eq_true rfl)) dX8_spell_114 ⟨Nat.le_of_ble_eq_true rfl, Nat.le_of_ble_eq_true rfl⟩) (fun H locs B => ?_)
      refine lv_pop hx hb dX8_spell_117 rfl ?_
      refine lv_aload_n hx hb dX8_spell_118 rfl (lv_at hl 0 rfl) ?_
      refine x_getr hx hb hts hinRX8 hown B 0 7 63 (by decide) (by decide) (fun _ => rfl) rfl rfl (by decide) (by decide +kernel) rfl dX8_spell_119 ?_
      refine lv_aload_n hx hb dX8_spell_122 rfl (lv_at hl 0 rfl) ?_
      refine x_getr hx hb hts hinRX8 hown B 0 0 1 (by decide) (by decide) (fun _ => rfl) rfl rfl (by decide) (by decide +kernel) rfl dX8_spell_123 ?_
      refine x_getr hx hb hts hinRX6 hown B 1 0 2 (by decide) (by decide) (fun _ => rfl) rfl rfl (by decide) (by decide +kernel) rfl dX8_spell_126 ?_
      refine x_getr hx hb hts hinRX7 hown B 2 10 12 (by decide) (by decide) (fun _ => rfl) rfl rfl (by decide) (by decide +kernel) rfl dX8_spell_129 ?_
      refine lv_iload_n hx hb dX8_spell_132 rfl (lv_at hl 3 rfl) ?_
      obtain ⟨hg, hf⟩ := zg_some hf
      refine x_iald hx hb B 12 (by decide) (fun _ => rfl) (zin_ok hg) dX8_spell_133 ?_
      obtain ⟨r71, σ72, hu70, hf⟩ := zb_some hf
      refine x_r B (fun nb a g hs Bz => va_runV (As := [.int (σ69 12 v3.toNatClampNeg)]) (rest := []) ⟨hx, hb, hml, hown, hts⟩ (c_J4_append_bf812 l hu70 _ nb a g hs) (cwV 1 hts gX8_spell_J4_append_bf812 rfl rfl rfl (by decide +kernel) ⟨Nat.le_of_ble_eq_true rfl, Nat.le_of_ble_eq_true rfl⟩) (x_preV Bz (by decide) (fun _ => rfl) rfl) rfl rfl hl.1 rfl (lv_room (Nat.le_of_ble_eq_true rfl)) dX8_spell_134 ⟨Nat.le_of_ble_eq_true rfl, Nat.le_of_ble_eq_true rfl⟩) (fun H locs B => ?_)
      refine lv_pop hx hb dX8_spell_137 rfl ?_
      refine lv_iinc (v := (v2 + (1 : Int32))) (lv' := [(2, .int (v2 + (1 : Int32))), (0, .ref (ad 0)), (1, .int v1), (3, .int v3)]) hx hb dX8_spell_138 hl (k := 2) rfl (zc1 (by decide)) (by decide) rfl (fun ls hl => ?_)
      refine lv_goto (tgt := 10) hx hb dX8_spell_141 (by decide) ?_
      exact hK10 _ _ _ _ _ _ hf B (lv_sub hl [1, 2, 0] rfl)
  have L10_1 : ∀ (σ : zs) (v1 : Int32) (v2 : Int32) (H : Heap) (locs : List Loc) (ls : Array Slot), zlp2 (f_X8_spell_10) 4 σ v1 v2 = some (r, σ') → xB A s G ad σ H locs → lv_has ls 4 [(0, .ref (ad 0)), (1, .int v1), (2, .int v2)] → W p l e (headSpec wsX8_spell rm_X8_spell).room s m ([.ref (ad 0), .int a1] : List Value).toArray below meth c H locs 6 600 (MQ below (va_Qv (fun (u : xV) => xQ σ' u) (xPost G ad σ' A) A) ([.ref (ad 0), .int a1] : List Value).toArray s 26 2600 A) (F0 m 10 ls []) := by
    intro σ v1 v2 H locs ls hf B hl
    have hf : f_X8_spell_10 (zlp2 (f_X8_spell_10) 3) σ v1 v2 = some (r, σ') := hf
    unfold f_X8_spell_10 at hf
    refine lv_iload_n hx hb dX8_spell_10 rfl (lv_at hl 2 rfl) ?_
    refine lv_aload_n hx hb dX8_spell_11 rfl (lv_at hl 0 rfl) ?_
    refine x_getr hx hb hts hinRX8 hown B 0 0 1 (by decide) (by decide) (fun _ => rfl) rfl rfl (by decide) (by decide +kernel) rfl dX8_spell_12 ?_
    refine x_getr hx hb hts hinRX6 hown B 1 0 2 (by decide) (by decide) (fun _ => rfl) rfl rfl (by decide) (by decide +kernel) rfl dX8_spell_15 ?_
    refine x_getr hx hb hts hinRX7 hown B 2 7 9 (by decide) (by decide) (fun _ => rfl) rfl rfl (by decide) (by decide +kernel) rfl dX8_spell_18 ?_
    refine lv_iload_n hx hb dX8_spell_21 rfl (lv_at hl 1 rfl) ?_
    obtain ⟨hg, hf⟩ := zg_some hf
    refine x_iald hx hb B 9 (by decide) (fun _ => rfl) (zin_ok hg) dX8_spell_22 ?_
    refine lv_icmp_ge (tgt := 144) hx hb dX8_spell_23 (by decide) (fun hc => ?_) (fun hc => ?_)
    · have hf := zif_t hc hf
      refine W.widen (k := 26) (n := 2600) (Nat.le_of_ble_eq_true rfl) (Nat.le_of_ble_eq_true rfl) ?_
      exact x_vret hx hb hr hlocks B hf dX8_spell_144
    · have hf := zif_f hc hf
      refine lv_iload_n hx hb dX8_spell_26 rfl (lv_at hl 1 rfl) ?_
      refine lv_iconst (v := (4 : Int32)) hx hb dX8_spell_27 (by decide) ?_
      refine lv_imul hx hb dX8_spell_28 ?_
      refine lv_iload_n hx hb dX8_spell_29 rfl (lv_at hl 2 rfl) ?_
      refine lv_iadd hx hb dX8_spell_30 ?_
      refine lv_istore_n (lv' := [(3, .int ((v1 * (4 : Int32)) + v2)), (0, .ref (ad 0)), (1, .int v1), (2, .int v2)]) hx hb dX8_spell_31 rfl hl (by decide) rfl (fun ls hl => ?_)
      refine lv_iload_n hx hb dX8_spell_32 rfl (lv_at hl 3 rfl) ?_
      refine lv_if_le (tgt := 46) hx hb dX8_spell_33 (by decide) (fun hc => ?_) (fun hc => ?_)
      · have hf := zif_t hc hf
        refine W.widen (k := 7) (n := 700) (Nat.le_of_ble_eq_true rfl) (Nat.le_of_ble_eq_true rfl) ?_
        exact L46_1 _ L10_2  _ _ _ _ _ _ _ hf B (lv_sub hl [1, 2, 3, 0] rfl)
      · have hf := zif_f hc hf
        refine lv_aload_n hx hb dX8_spell_36 rfl (lv_at hl 1 rfl) ?_
        refine x_getr hx hb hts hinRX8 hown B 0 7 63 (by decide) (by decide) (fun _ => rfl) rfl rfl (by decide) (by decide +kernel) rfl dX8_spell_37 ?_
        refine lv_bipush (v := (59 : Int32)) hx hb dX8_spell_40 (by decide) ?_
        obtain ⟨r74, σ75, hu73, hf⟩ := zb_some hf
        refine x_r B (fun nb a g hs Bz => va_runV (As := [.int (59 : Int32)]) (rest := []) ⟨hx, hb, hml, hown, hts⟩ (c_J4_append_cf468 l hu73 _ nb a g hs) (cwV 1 hts gX8_spell_J4_append_cf468 rfl rfl rfl (by decide +kernel) ⟨Nat.le_of_ble_eq_true rfl, Nat.le_of_ble_eq_true rfl⟩) (x_preV Bz (by decide) (fun _ => rfl) rfl) rfl rfl hl.1 rfl (lv_room (Nat.le_of_ble_eq_true rfl)) dX8_spell_42 ⟨Nat.le_of_ble_eq_true rfl, Nat.le_of_ble_eq_true rfl⟩) (fun H locs B => ?_)
        refine lv_pop hx hb dX8_spell_45 rfl ?_
        exact L46_1 _ L10_2  _ _ _ _ _ _ _ hf B (lv_sub hl [1, 2, 3, 0] rfl)
  have L46_0 : ∀ (K10 : zs → Int32 → Int32 → Option (Int32 × zs)) (hK10 : ∀ (σ : zs) (v1 : Int32) (v2 : Int32) (H : Heap) (locs : List Loc) (ls : Array Slot), K10 σ v1 v2 = some (r, σ') → xB A s G ad σ H locs → lv_has ls 4 [(0, .ref (ad 0)), (1, .int v1), (2, .int v2)] → W p l e (headSpec wsX8_spell rm_X8_spell).room s m ([.ref (ad 0), .int a1] : List Value).toArray below meth c H locs 6 600 (MQ below (va_Qv (fun (u : xV) => xQ σ' u) (xPost G ad σ' A) A) ([.ref (ad 0), .int a1] : List Value).toArray s 26 2600 A) (F0 m 10 ls [])) (σ : zs) (v1 : Int32) (v2 : Int32) (v3 : Int32) (H : Heap) (locs : List Loc) (ls : Array Slot), f_X8_spell_46 K10 σ v1 v2 v3 = some (r, σ') → xB A s G ad σ H locs → lv_has ls 4 [(0, .ref (ad 0)), (1, .int v1), (2, .int v2), (3, .int v3)] → W p l e (headSpec wsX8_spell rm_X8_spell).room s m ([.ref (ad 0), .int a1] : List Value).toArray below meth c H locs 2 200 (MQ below (va_Qv (fun (u : xV) => xQ σ' u) (xPost G ad σ' A) A) ([.ref (ad 0), .int a1] : List Value).toArray s 26 2600 A) (F0 m 46 ls []) := by
    intro K10 hK10 σ v1 v2 v3 H locs ls hf B hl
    unfold f_X8_spell_46 at hf
    refine lv_aload_n hx hb dX8_spell_46 rfl (lv_at hl 0 rfl) ?_
    refine x_getr hx hb hts hinRX8 hown B 0 7 63 (by decide) (by decide) (fun _ => rfl) rfl rfl (by decide) (by decide +kernel) rfl dX8_spell_47 ?_
    refine x_cs B (fun nb a g hs Bz => z_ldc8 hx hb hown Bz dX8_spell_50 ?_)
    refine lv_aload_n hx hb dX8_spell_53 rfl (lv_at hl 0 rfl) ?_
    refine x_getr hx hb hts hinRX8 hown B 0 0 1 (by decide) (by decide) (fun _ => rfl) rfl rfl (by decide) (by decide +kernel) rfl dX8_spell_54 ?_
    refine x_getr hx hb hts hinRX6 hown B 1 0 2 (by decide) (by decide) (fun _ => rfl) rfl rfl (by decide) (by decide +kernel) rfl dX8_spell_57 ?_
    refine x_getr hx hb hts hinRX7 hown B 2 8 10 (by decide) (by decide) (fun _ => rfl) rfl rfl (by decide) (by decide +kernel) rfl dX8_spell_60 ?_
    refine lv_iload_n hx hb dX8_spell_63 rfl (lv_at hl 3 rfl) ?_
    obtain ⟨hg, hf⟩ := zg_some hf
    refine x_iald hx hb B 10 (by decide) (fun _ => rfl) (zin_ok hg) dX8_spell_64 ?_
    obtain ⟨r77, σ78, hu76, hf⟩ := zb_some hf
    refine x_i B (fun nb a g hs Bz => va_runV (As := [.int (σ 10 v3.toNatClampNeg)]) (rest := [.ref (ad 63)]) ⟨hx, hb, hml, hown, hts⟩ (c_J0_charAt_5068e l hu76 _ nb a g hs) (cwV 1 hts gX8_spell_J0_charAt_5068e rfl rfl rfl (by decide +kernel) ⟨Nat.le_of_ble_eq_true rfl, Nat.le_of_ble_eq_true rfl⟩) (z_preL Bz) rfl rfl hl.1 rfl (lv_room (Nat.le_of_ble_eq_true rfl)) dX8_spell_65 ⟨Nat.le_of_ble_eq_true rfl, Nat.le_of_ble_eq_true rfl⟩) (fun H locs B => ?_)
    obtain ⟨r80, σ81, hu79, hf⟩ := zb_some hf
    refine x_r B (fun nb a g hs Bz => va_runV (As := [.int r77]) (rest := []) ⟨hx, hb, hml, hown, hts⟩ (c_J4_append_cf468 l hu79 _ nb a g hs) (cwV 1 hts gX8_spell_J4_append_cf468 rfl rfl rfl (by decide +kernel) ⟨Nat.le_of_ble_eq_true rfl, Nat.le_of_ble_eq_true rfl⟩) (x_preV Bz (by decide) (fun _ => rfl) rfl) rfl rfl hl.1 rfl (lv_room (Nat.le_of_ble_eq_true rfl)) dX8_spell_68 ⟨Nat.le_of_ble_eq_true rfl, Nat.le_of_ble_eq_true rfl⟩) (fun H locs B => ?_)
    refine lv_pop hx hb dX8_spell_71 rfl ?_
    refine lv_aload_n hx hb dX8_spell_72 rfl (lv_at hl 0 rfl) ?_
    refine x_getr hx hb hts hinRX8 hown B 0 7 63 (by decide) (by decide) (fun _ => rfl) rfl rfl (by decide) (by decide +kernel) rfl dX8_spell_73 ?_
    refine lv_aload_n hx hb dX8_spell_76 rfl (lv_at hl 0 rfl) ?_
    refine x_getr hx hb hts hinRX8 hown B 0 0 1 (by decide) (by decide) (fun _ => rfl) rfl rfl (by decide) (by decide +kernel) rfl dX8_spell_77 ?_
    refine x_getr hx hb hts hinRX6 hown B 1 0 2 (by decide) (by decide) (fun _ => rfl) rfl rfl (by decide) (by decide +kernel) rfl dX8_spell_80 ?_
    refine x_getr hx hb hts hinRX7 hown B 2 9 11 (by decide) (by decide) (fun _ => rfl) rfl rfl (by decide) (by decide +kernel) rfl dX8_spell_83 ?_
    refine lv_iload_n hx hb dX8_spell_86 rfl (lv_at hl 3 rfl) ?_
    obtain ⟨hg, hf⟩ := zg_some hf
    refine x_iald hx hb B 11 (by decide) (fun _ => rfl) (zin_ok hg) dX8_spell_87 ?_
    obtain ⟨r83, σ84, hu82, hf⟩ := zb_some hf
    refine x_r B (fun nb a g hs Bz => va_runV (As := [.int (σ81 11 v3.toNatClampNeg)]) (rest := []) ⟨hx, hb, hml, hown, hts⟩ (c_J4_append_bf812 l hu82 _ nb a g hs) (cwV 1 hts gX8_spell_J4_append_bf812 rfl rfl rfl (by decide +kernel) ⟨Nat.le_of_ble_eq_true rfl, Nat.le_of_ble_eq_true rfl⟩) (x_preV Bz (by decide) (fun _ => rfl) rfl) rfl rfl hl.1 rfl (lv_room (Nat.le_of_ble_eq_true rfl)) dX8_spell_88 ⟨Nat.le_of_ble_eq_true rfl, Nat.le_of_ble_eq_true rfl⟩) (fun H locs B => ?_)
    refine lv_pop hx hb dX8_spell_91 rfl ?_
    refine lv_aload_n hx hb dX8_spell_92 rfl (lv_at hl 0 rfl) ?_
    refine x_getr hx hb hts hinRX8 hown B 0 0 1 (by decide) (by decide) (fun _ => rfl) rfl rfl (by decide) (by decide +kernel) rfl dX8_spell_93 ?_
    refine x_getr hx hb hts hinRX6 hown B 1 0 2 (by decide) (by decide) (fun _ => rfl) rfl rfl (by decide) (by decide +kernel) rfl dX8_spell_96 ?_
    refine x_getr hx hb hts hinRX7 hown B 2 8 10 (by decide) (by decide) (fun _ => rfl) rfl rfl (by decide) (by decide +kernel) rfl dX8_spell_99 ?_
    refine lv_iload_n hx hb dX8_spell_102 rfl (lv_at hl 3 rfl) ?_
    obtain ⟨hg, hf⟩ := zg_some hf
    refine x_iald hx hb B 10 (by decide) (fun _ => rfl) (zin_ok hg) dX8_spell_103 ?_
    refine lv_iconst (v := (4 : Int32)) hx hb dX8_spell_104 (by decide) ?_
    refine lv_icmp_ne (tgt := 138) hx hb dX8_spell_105 (by decide) (fun hc => ?_) (fun hc => ?_)
    · have hf := zif_f hc hf
      refine lv_iinc (v := (v2 + (1 : Int32))) (lv' := [(2, .int (v2 + (1 : Int32))), (0, .ref (ad 0)), (1, .int v1), (3, .int v3)]) hx hb dX8_spell_138 hl (k := 2) rfl (zc1 (by decide)) (by decide) rfl (fun ls hl => ?_)
      refine lv_goto (tgt := 10) hx hb dX8_spell_141 (by decide) ?_
      refine W.widen (k := 6) (n := 600) (Nat.le_of_ble_eq_true rfl) (Nat.le_of_ble_eq_true rfl) ?_
      exact hK10 _ _ _ _ _ _ hf B (lv_sub hl [1, 2, 0] rfl)
    · have hf := zif_t hc hf
      refine lv_aload_n hx hb dX8_spell_108 rfl (lv_at hl 0 rfl) ?_
      refine x_getr hx hb hts hinRX8 hown B 0 7 63 (by decide) (by decide) (fun _ => rfl) rfl rfl (by decide) (by decide +kernel) rfl dX8_spell_109 ?_
      refine lv_bipush (v := (45 : Int32)) hx hb dX8_spell_112 (by decide) ?_
      obtain ⟨r86, σ87, hu85, hf⟩ := zb_some hf
      refine x_r B (fun nb a g hs Bz => va_runV (As := [.int (45 : Int32)]) (rest := []) ⟨hx, hb, hml, hown, hts⟩ (c_J4_append_cf468 l hu85 _ nb a g hs) (cwV 1 hts gX8_spell_J4_append_cf468 rfl rfl rfl (by decide +kernel) ⟨Nat.le_of_ble_eq_true rfl, Nat.le_of_ble_eq_true rfl⟩) (x_preV Bz (by decide) (fun _ => rfl) rfl) rfl rfl hl.1 rfl (lv_room (Nat.le_of_ble_eq_true rfl)) dX8_spell_114 ⟨Nat.le_of_ble_eq_true rfl, Nat.le_of_ble_eq_true rfl⟩) (fun H locs B => ?_)
      refine lv_pop hx hb dX8_spell_117 rfl ?_
      refine lv_aload_n hx hb dX8_spell_118 rfl (lv_at hl 0 rfl) ?_
      refine x_getr hx hb hts hinRX8 hown B 0 7 63 (by decide) (by decide) (fun _ => rfl) rfl rfl (by decide) (by decide +kernel) rfl dX8_spell_119 ?_
      refine lv_aload_n hx hb dX8_spell_122 rfl (lv_at hl 0 rfl) ?_
      refine x_getr hx hb hts hinRX8 hown B 0 0 1 (by decide) (by decide) (fun _ => rfl) rfl rfl (by decide) (by decide +kernel) rfl dX8_spell_123 ?_
      refine x_getr hx hb hts hinRX6 hown B 1 0 2 (by decide) (by decide) (fun _ => rfl) rfl rfl (by decide) (by decide +kernel) rfl dX8_spell_126 ?_
      refine x_getr hx hb hts hinRX7 hown B 2 10 12 (by decide) (by decide) (fun _ => rfl) rfl rfl (by decide) (by decide +kernel) rfl dX8_spell_129 ?_
      refine lv_iload_n hx hb dX8_spell_132 rfl (lv_at hl 3 rfl) ?_
      obtain ⟨hg, hf⟩ := zg_some hf
      refine x_iald hx hb B 12 (by decide) (fun _ => rfl) (zin_ok hg) dX8_spell_133 ?_
      obtain ⟨r89, σ90, hu88, hf⟩ := zb_some hf
      refine x_r B (fun nb a g hs Bz => va_runV (As := [.int (σ87 12 v3.toNatClampNeg)]) (rest := []) ⟨hx, hb, hml, hown, hts⟩ (c_J4_append_bf812 l hu88 _ nb a g hs) (cwV 1 hts gX8_spell_J4_append_bf812 rfl rfl rfl (by decide +kernel) ⟨Nat.le_of_ble_eq_true rfl, Nat.le_of_ble_eq_true rfl⟩) (x_preV Bz (by decide) (fun _ => rfl) rfl) rfl rfl hl.1 rfl (lv_room (Nat.le_of_ble_eq_true rfl)) dX8_spell_134 ⟨Nat.le_of_ble_eq_true rfl, Nat.le_of_ble_eq_true rfl⟩) (fun H locs B => ?_)
      refine lv_pop hx hb dX8_spell_137 rfl ?_
      refine lv_iinc (v := (v2 + (1 : Int32))) (lv' := [(2, .int (v2 + (1 : Int32))), (0, .ref (ad 0)), (1, .int v1), (3, .int v3)]) hx hb dX8_spell_138 hl (k := 2) rfl (zc1 (by decide)) (by decide) rfl (fun ls hl => ?_)
      refine lv_goto (tgt := 10) hx hb dX8_spell_141 (by decide) ?_
      exact hK10 _ _ _ _ _ _ hf B (lv_sub hl [1, 2, 0] rfl)
  have L10_0 : ∀ (σ : zs) (v1 : Int32) (v2 : Int32) (H : Heap) (locs : List Loc) (ls : Array Slot), zlp2 (f_X8_spell_10) 5 σ v1 v2 = some (r, σ') → xB A s G ad σ H locs → lv_has ls 4 [(0, .ref (ad 0)), (1, .int v1), (2, .int v2)] → W p l e (headSpec wsX8_spell rm_X8_spell).room s m ([.ref (ad 0), .int a1] : List Value).toArray below meth c H locs 1 100 (MQ below (va_Qv (fun (u : xV) => xQ σ' u) (xPost G ad σ' A) A) ([.ref (ad 0), .int a1] : List Value).toArray s 26 2600 A) (F0 m 10 ls []) := by
    intro σ v1 v2 H locs ls hf B hl
    have hf : f_X8_spell_10 (zlp2 (f_X8_spell_10) 4) σ v1 v2 = some (r, σ') := hf
    unfold f_X8_spell_10 at hf
    refine lv_iload_n hx hb dX8_spell_10 rfl (lv_at hl 2 rfl) ?_
    refine lv_aload_n hx hb dX8_spell_11 rfl (lv_at hl 0 rfl) ?_
    refine x_getr hx hb hts hinRX8 hown B 0 0 1 (by decide) (by decide) (fun _ => rfl) rfl rfl (by decide) (by decide +kernel) rfl dX8_spell_12 ?_
    refine x_getr hx hb hts hinRX6 hown B 1 0 2 (by decide) (by decide) (fun _ => rfl) rfl rfl (by decide) (by decide +kernel) rfl dX8_spell_15 ?_
    refine x_getr hx hb hts hinRX7 hown B 2 7 9 (by decide) (by decide) (fun _ => rfl) rfl rfl (by decide) (by decide +kernel) rfl dX8_spell_18 ?_
    refine lv_iload_n hx hb dX8_spell_21 rfl (lv_at hl 1 rfl) ?_
    obtain ⟨hg, hf⟩ := zg_some hf
    refine x_iald hx hb B 9 (by decide) (fun _ => rfl) (zin_ok hg) dX8_spell_22 ?_
    refine lv_icmp_ge (tgt := 144) hx hb dX8_spell_23 (by decide) (fun hc => ?_) (fun hc => ?_)
    · have hf := zif_t hc hf
      refine W.widen (k := 26) (n := 2600) (Nat.le_of_ble_eq_true rfl) (Nat.le_of_ble_eq_true rfl) ?_
      exact x_vret hx hb hr hlocks B hf dX8_spell_144
    · have hf := zif_f hc hf
      refine lv_iload_n hx hb dX8_spell_26 rfl (lv_at hl 1 rfl) ?_
      refine lv_iconst (v := (4 : Int32)) hx hb dX8_spell_27 (by decide) ?_
      refine lv_imul hx hb dX8_spell_28 ?_
      refine lv_iload_n hx hb dX8_spell_29 rfl (lv_at hl 2 rfl) ?_
      refine lv_iadd hx hb dX8_spell_30 ?_
      refine lv_istore_n (lv' := [(3, .int ((v1 * (4 : Int32)) + v2)), (0, .ref (ad 0)), (1, .int v1), (2, .int v2)]) hx hb dX8_spell_31 rfl hl (by decide) rfl (fun ls hl => ?_)
      refine lv_iload_n hx hb dX8_spell_32 rfl (lv_at hl 3 rfl) ?_
      refine lv_if_le (tgt := 46) hx hb dX8_spell_33 (by decide) (fun hc => ?_) (fun hc => ?_)
      · have hf := zif_t hc hf
        refine W.widen (k := 2) (n := 200) (Nat.le_of_ble_eq_true rfl) (Nat.le_of_ble_eq_true rfl) ?_
        exact L46_0 _ L10_1  _ _ _ _ _ _ _ hf B (lv_sub hl [1, 2, 3, 0] rfl)
      · have hf := zif_f hc hf
        refine lv_aload_n hx hb dX8_spell_36 rfl (lv_at hl 1 rfl) ?_
        refine x_getr hx hb hts hinRX8 hown B 0 7 63 (by decide) (by decide) (fun _ => rfl) rfl rfl (by decide) (by decide +kernel) rfl dX8_spell_37 ?_
        refine lv_bipush (v := (59 : Int32)) hx hb dX8_spell_40 (by decide) ?_
        obtain ⟨r92, σ93, hu91, hf⟩ := zb_some hf
        refine x_r B (fun nb a g hs Bz => va_runV (As := [.int (59 : Int32)]) (rest := []) ⟨hx, hb, hml, hown, hts⟩ (c_J4_append_cf468 l hu91 _ nb a g hs) (cwV 1 hts gX8_spell_J4_append_cf468 rfl rfl rfl (by decide +kernel) ⟨Nat.le_of_ble_eq_true rfl, Nat.le_of_ble_eq_true rfl⟩) (x_preV Bz (by decide) (fun _ => rfl) rfl) rfl rfl hl.1 rfl (lv_room (Nat.le_of_ble_eq_true rfl)) dX8_spell_42 ⟨Nat.le_of_ble_eq_true rfl, Nat.le_of_ble_eq_true rfl⟩) (fun H locs B => ?_)
        refine lv_pop hx hb dX8_spell_45 rfl ?_
        exact L46_0 _ L10_1  _ _ _ _ _ _ _ hf B (lv_sub hl [1, 2, 3, 0] rfl)
  unfold f_X8_spell at hf
  refine lv_aload_n hx hb dX8_spell_0 rfl (lv_at hl 0 rfl) ?_
  refine x_getr hx hb hts hinRX8 hown B 0 7 63 (by decide) (by decide) (fun _ => rfl) rfl rfl (by decide) (by decide +kernel) rfl dX8_spell_1 ?_
  refine lv_iconst (v := (0 : Int32)) hx hb dX8_spell_4 (by decide) ?_
  obtain ⟨r2, σ3, hu1, hf⟩ := zb_some hf
  refine x_v B (fun nb a g hs Bz => va_runV (As := [.int (0 : Int32)]) (rest := []) ⟨hx, hb, hml, hown, hts⟩ (c_J4_setLength_d00df l hu1 _ nb a g hs) (cwV 1 hts gX8_spell_J4_setLength_d00df rfl rfl rfl (by decide +kernel) ⟨Nat.le_of_ble_eq_true rfl, Nat.le_of_ble_eq_true rfl⟩) (x_preV Bz (by decide) (fun _ => rfl) rfl) rfl rfl hl.1 rfl (lv_room (Nat.le_of_ble_eq_true rfl)) dX8_spell_5 ⟨Nat.le_of_ble_eq_true rfl, Nat.le_of_ble_eq_true rfl⟩) (fun H locs B => ?_)
  refine lv_iconst (v := (0 : Int32)) hx hb dX8_spell_8 (by decide) ?_
  refine lv_istore_n (lv' := [(2, .int (0 : Int32)), (0, .ref (ad 0)), (1, .int a1)]) hx hb dX8_spell_9 rfl hl (by decide) rfl (fun ls hl => ?_)
  exact L10_0 _ _ _ _ _ _ hf B (lv_sub hl [1, 2, 0] rfl)
theorem dX8_describe_0 : decode cX8_describe 0 = .ok (.aload_n 0, 1) := by decide +kernel
theorem dX8_describe_1 : decode cX8_describe 1 = .ok (.iload_n 1, 1) := by decide +kernel
theorem dX8_describe_2 : decode cX8_describe 2 = .ok (.invokevirtual 97, 3) := by decide +kernel
theorem dX8_describe_5 : decode cX8_describe 5 = .ok (.aload_n 0, 1) := by decide +kernel
theorem dX8_describe_6 : decode cX8_describe 6 = .ok (.iload_n 1, 1) := by decide +kernel
theorem dX8_describe_7 : decode cX8_describe 7 = .ok (.invokevirtual 192, 3) := by decide +kernel
theorem dX8_describe_10 : decode cX8_describe 10 = .ok (.iload_n 2, 1) := by decide +kernel
theorem dX8_describe_11 : decode cX8_describe 11 = .ok (.iconst (-1), 1) := by decide +kernel
theorem dX8_describe_12 : decode cX8_describe 12 = .ok (.if_icmp .lt 18, 3) := by decide +kernel
theorem dX8_describe_15 : decode cX8_describe 15 = .ok (.iload_n 2, 1) := by decide +kernel
theorem dX8_describe_16 : decode cX8_describe 16 = .ok (.aload_n 0, 1) := by decide +kernel
theorem dX8_describe_17 : decode cX8_describe 17 = .ok (.getfield 51, 3) := by decide +kernel
theorem dX8_describe_20 : decode cX8_describe 20 = .ok (.invokevirtual 195, 3) := by decide +kernel
theorem dX8_describe_23 : decode cX8_describe 23 = .ok (.if_icmp .ge 7, 3) := by decide +kernel
theorem dX8_describe_26 : decode cX8_describe 26 = .ok (.iconst 1, 1) := by decide +kernel
theorem dX8_describe_27 : decode cX8_describe 27 = .ok (.goto 4, 3) := by decide +kernel
theorem dX8_describe_30 : decode cX8_describe 30 = .ok (.iconst 0, 1) := by decide +kernel
theorem dX8_describe_31 : decode cX8_describe 31 = .ok (.invokestatic 186, 3) := by decide +kernel
theorem dX8_describe_34 : decode cX8_describe 34 = .ok (.iload_n 2, 1) := by decide +kernel
theorem dX8_describe_35 : decode cX8_describe 35 = .ok (.iconst (-1), 1) := by decide +kernel
theorem dX8_describe_36 : decode cX8_describe 36 = .ok (.if_icmp .ne 13, 3) := by decide +kernel
theorem dX8_describe_39 : decode cX8_describe 39 = .ok (.aload_n 0, 1) := by decide +kernel
theorem dX8_describe_40 : decode cX8_describe 40 = .ok (.getfield 51, 3) := by decide +kernel
theorem dX8_describe_43 : decode cX8_describe 43 = .ok (.invokevirtual 195, 3) := by decide +kernel
theorem dX8_describe_46 : decode cX8_describe 46 = .ok (.goto 11, 3) := by decide +kernel
theorem dX8_describe_49 : decode cX8_describe 49 = .ok (.aload_n 0, 1) := by decide +kernel
theorem dX8_describe_50 : decode cX8_describe 50 = .ok (.getfield 51, 3) := by decide +kernel
theorem dX8_describe_53 : decode cX8_describe 53 = .ok (.iload_n 2, 1) := by decide +kernel
theorem dX8_describe_54 : decode cX8_describe 54 = .ok (.invokevirtual 197, 3) := by decide +kernel
theorem dX8_describe_57 : decode cX8_describe 57 = .ok (.ireturn, 1) := by decide +kernel
set_option maxRecDepth 20000 in
theorem ggX8_describe_X8_needToken : GoodIn wsX8_describe wsX8_needToken := goodIn_ca (goodIn_r _ [6, 7, 8, 9, 10, 11, 5, 12, 13, 14, 244, 245, 246, 247, 248, 249, 250, 251, 252, 253, 254, 255, 256, 257, 258, 259, 260, 261, 262, 263, 264, 265, 266, 267, 268, 269, 270, 271] (by decide +kernel) (by decide +kernel)) (goodIn_sub (fun _ h => List.mem_cons_of_mem _ (List.mem_append_left _ (List.mem_append_right _ h))) (by decide +kernel))
set_option maxRecDepth 20000 in
theorem gX8_describe_X8_needToken : GoodIn wsX8_describe (wsV RX8 97 RX8 yX8_needToken wsX8_needToken) := goodIn_app (goodIn_of _ (by decide +kernel)) ggX8_describe_X8_needToken
set_option maxRecDepth 20000 in
theorem ggX8_describe_X8_spell : GoodIn wsX8_describe wsX8_spell := goodIn_ca (goodIn_r _ [18, 1, 7, 8, 19, 20, 21, 22, 23, 24, 25, 26, 27, 28, 29, 30, 31, 32, 33, 34, 35, 36, 37, 38, 39, 40, 41, 42, 43, 44, 45, 46, 47, 48, 49, 50, 51, 52, 53, 54, 55, 56, 57, 58, 59, 60, 61, 62, 63, 64, 65, 66, 67, 68, 69, 70, 71, 72, 73, 74, 75, 76, 77, 78, 79, 80, 81, 82, 83, 84, 85, 86, 87, 88, 89, 90, 91, 92, 93, 94, 95, 96, 97, 98, 99, 100, 101, 102, 103, 104, 105, 106, 107, 108, 109, 110, 111, 112, 113, 114, 115, 116, 117, 118, 119, 120, 121, 122, 123, 124, 125, 126, 127, 128, 129, 130, 131, 132, 133, 134, 135, 136, 137, 138, 139, 140, 141, 142, 143, 144, 145, 146, 147, 148, 149, 150, 151, 152, 153, 154, 155, 156, 157, 158, 159, 160, 161, 162, 163, 164, 165, 166, 167, 168, 169, 170, 171, 172, 173, 174, 175, 176, 177, 178, 179, 180, 181, 182, 183, 184, 185, 186, 187, 188, 189, 190, 191, 192, 193, 194, 195, 196, 197, 198, 199, 200, 201, 202, 203, 204, 205, 206, 207, 208, 209, 210, 211, 212, 213, 214, 215, 216, 217, 218, 219, 220, 221, 222, 223, 224, 244, 245, 246, 247, 248, 249, 250, 251, 252, 253, 254, 255, 256, 257, 258, 259, 260, 261, 262, 263, 264, 265, 266, 267, 268, 269, 270, 271, 272, 273, 274, 275, 276, 277, 278, 279, 280, 281, 282, 283, 284, 285, 286, 287, 288, 289, 290, 291] (by decide +kernel) (by decide +kernel)) (goodIn_sub (fun _ h => List.mem_cons_of_mem _ (List.mem_append_right _ h)) (by decide +kernel))
set_option maxRecDepth 20000 in
theorem gX8_describe_X8_spell : GoodIn wsX8_describe (wsV RX8 192 RX8 yX8_spell wsX8_spell) := goodIn_app (goodIn_of _ (by decide +kernel)) ggX8_describe_X8_spell
set_option maxRecDepth 20000 in
theorem ggX8_describe_X8_needIndex : GoodIn wsX8_describe wsX8_needIndex := goodIn_ca (goodIn_r _ [12, 13, 14] (by decide +kernel) (by decide +kernel)) (goodIn_sub (fun _ h => List.mem_cons_of_mem _ (List.mem_append_left _ (List.mem_append_right _ h))) (by decide +kernel))
set_option maxRecDepth 20000 in
theorem gX8_describe_X8_needIndex : GoodIn wsX8_describe (va_wsS RX8 186 yX8_needIndex wsX8_needIndex) := goodIn_app (goodIn_of _ (by decide +kernel)) ggX8_describe_X8_needIndex
set_option maxRecDepth 20000 in
theorem ggX8_describe_J4_charAt_5068e : GoodIn wsX8_describe wsJ4_charAt_5068e := goodIn_r _ [236, 237, 238, 30, 239, 32, 240, 45, 38, 37, 241, 76, 58, 77, 242, 165, 145, 166, 147, 167, 168, 150, 169, 243, 189, 105, 190, 155, 156, 157, 140, 141, 142, 278, 279, 280, 281] (by decide +kernel) (by decide +kernel)
set_option maxRecDepth 20000 in
theorem gX8_describe_J4_charAt_5068e : GoodIn wsX8_describe (wsV RX8 197 RJ4 yJ4_charAt_5068e wsJ4_charAt_5068e) := goodIn_app (goodIn_of _ (by decide +kernel)) ggX8_describe_J4_charAt_5068e
set_option maxRecDepth 20000 in
theorem ggX8_describe_J4_length_8abf5 : GoodIn wsX8_describe wsJ4_length_8abf5 := goodIn_r _ [228, 229, 230, 30, 231, 32, 232, 37, 278, 279, 280, 281] (by decide +kernel) (by decide +kernel)
set_option maxRecDepth 20000 in
theorem gX8_describe_J4_length_8abf5 : GoodIn wsX8_describe (wsV RX8 195 RJ4 yJ4_length_8abf5 wsJ4_length_8abf5) := goodIn_app (goodIn_of _ (by decide +kernel)) ggX8_describe_J4_length_8abf5
def rm_X8_describe : Room := { frames := 10, cells := 28, slots := 2612, locals := 284 }
set_option maxHeartbeats 4000000 in
set_option maxRecDepth 100000 in
theorem c_X8_describe (l : Launch) (hfl : l.stackTraces = false) {G : zG} {ad : Nat → Nat} {σ σ' : zs} {a1 a2 : Int32} {ex : Nat} {r : Int32} (hf : f_X8_describe σ a1 a2 = some (ex, r, σ')) : xXi l yX8_describe wsX8_describe rm_X8_describe G ad σ [.ref (ad 0), .int a1, .int a2] ex r σ' := by
  intro sz nb a g hs
  refine vx_ofW (cc := cX8_describe) (maxL := 3) (ret := (some .int)) (by decide) rfl ?_
  intro p e s m args below meth c s₁ B hml hno hv
  obtain ⟨rfl, hsz, hv⟩ := hv
  have hx := B.exec
  have hb := B.bytes
  have hr := B.returns
  have hts := atoms_spec (ws := wsX8_describe) B.pre
  have hown : s.vm.findClass RX8 = some m.cls := findClass_of_methodNamed B.named
  have hlocks := B.notSynchronized
  subst hsz
  have B := xB_start hs hv
  have hinRX8 : ∀ w ∈ wsX80, w ∈ wsX8_describe := by decide +kernel
  have hl := lv_entry ([.ref (ad 0), .int a1, .int a2]) (n := 3) (Nat.le_of_ble_eq_true rfl)
  rw [lg_entry_eq]
  generalize (lg_sl ([.ref (ad 0), .int a1, .int a2]) ++ List.replicate (3 - (lg_sl ([.ref (ad 0), .int a1, .int a2])).length) Slot.unset).toArray = ls at hl ⊢
  have hl : lv_has ls 3 [(0, .ref (ad 0)), (1, .int a1), (2, .int a2)] := hl
  generalize hAe : xA ad a s.heap.size = A at B ⊢
  have L31 : ∀ (σ : zs) (v2 : Int32) (s0 : Int32) (H : Heap) (locs : List Loc) (ls : Array Slot), f_X8_describe_31 σ v2 s0 = some (ex, r, σ') → xB A s G ad σ H locs → lv_has ls 3 [(0, .ref (ad 0)), (2, .int v2)] → W p l e (headSpec wsX8_describe rm_X8_describe).room s m ([.ref (ad 0), .int a1, .int a2] : List Value).toArray below meth c H locs 27 2606 (vx_MQ below (va_Qi (fun r' (u : xV) => (ex = 0 ∧ r' = r) ∧ xQ σ' u) (xPost G ad σ' A) A) (xXC G ad ex σ' A) ([.ref (ad 0), .int a1, .int a2] : List Value).toArray s 28 2612 A) (F0 m 31 ls [.int s0]) := by
    intro σ v2 s0 H locs ls hf B hl
    unfold f_X8_describe_31 at hf
    obtain ⟨u7, r8, σ9, hu7, hf⟩ := zx_some hf
    refine x_xv B (fun nb a g hs Bz => vx_runS (As := [.int s0]) (rest := []) ⟨hx, hb, hml, hown, hts⟩ (c_X8_needIndex l hfl hu7 _ nb a g hs) (va_cwS 1 hts gX8_describe_X8_needIndex rfl rfl rfl (by decide +kernel) ⟨Nat.le_of_ble_eq_true rfl, Nat.le_of_ble_eq_true rfl⟩) (z_preS Bz) rfl rfl hl.1 rfl (lv_room (Nat.le_of_ble_eq_true rfl)) dX8_describe_31 ⟨Nat.le_of_ble_eq_true rfl, Nat.le_of_ble_eq_true rfl⟩) (fun H locs ce q9 h0 B k1 k2 k3 => ?_) (fun H locs h0 B => ?_)
    · exact x_xout hno hlocks (zx_no hf h0) h0 B k1 k2 k3 (Nat.le_of_ble_eq_true rfl) (Nat.le_of_ble_eq_true rfl)
    have hf := zx_ok hf h0
    refine lv_iload_n hx hb dX8_describe_34 rfl (lv_at hl 1 rfl) ?_
    refine lv_iconst (v := (-1 : Int32)) hx hb dX8_describe_35 (by decide) ?_
    refine lv_icmp_ne (tgt := 49) hx hb dX8_describe_36 (by decide) (fun hc => ?_) (fun hc => ?_)
    · have hf := zif_f hc hf
      refine lv_aload_n hx hb dX8_describe_49 rfl (lv_at hl 0 rfl) ?_
      refine x_getr hx hb hts hinRX8 hown B 0 7 63 (by decide) (by decide) (fun _ => rfl) rfl rfl (by decide) (by decide +kernel) rfl dX8_describe_50 ?_
      refine lv_iload_n hx hb dX8_describe_53 rfl (lv_at hl 1 rfl) ?_
      obtain ⟨r11, σ12, hu10, hf⟩ := zb_some hf
      refine x_i B (fun nb a g hs Bz => va_runV (As := [.int v2]) (rest := []) ⟨hx, hb, hml, hown, hts⟩ (c_J4_charAt_5068e l hu10 _ nb a g hs) (cwV 1 hts gX8_describe_J4_charAt_5068e rfl rfl rfl (by decide +kernel) ⟨Nat.le_of_ble_eq_true rfl, Nat.le_of_ble_eq_true rfl⟩) (x_preV Bz (by decide) (fun _ => rfl) rfl) rfl rfl hl.1 rfl (lv_room (Nat.le_of_ble_eq_true rfl)) dX8_describe_54 ⟨Nat.le_of_ble_eq_true rfl, Nat.le_of_ble_eq_true rfl⟩) (fun H locs B => ?_)
      refine W.widen (k := 28) (n := 2612) (Nat.le_of_ble_eq_true rfl) (Nat.le_of_ble_eq_true rfl) ?_
      exact x_xiret hx hb hr rfl hlocks B hf dX8_describe_57
    · have hf := zif_t hc hf
      refine lv_aload_n hx hb dX8_describe_39 rfl (lv_at hl 0 rfl) ?_
      refine x_getr hx hb hts hinRX8 hown B 0 7 63 (by decide) (by decide) (fun _ => rfl) rfl rfl (by decide) (by decide +kernel) rfl dX8_describe_40 ?_
      obtain ⟨r14, σ15, hu13, hf⟩ := zb_some hf
      refine x_i B (fun nb a g hs Bz => va_runV (As := []) (rest := []) ⟨hx, hb, hml, hown, hts⟩ (c_J4_length_8abf5 l hu13 _ nb a g hs) (cwV 0 hts gX8_describe_J4_length_8abf5 rfl rfl rfl (by decide +kernel) ⟨Nat.le_of_ble_eq_true rfl, Nat.le_of_ble_eq_true rfl⟩) (x_preV Bz (by decide) (fun _ => rfl) rfl) rfl rfl hl.1 rfl (lv_room (Nat.le_of_ble_eq_true rfl)) dX8_describe_43 ⟨Nat.le_of_ble_eq_true rfl, Nat.le_of_ble_eq_true rfl⟩) (fun H locs B => ?_)
      refine lv_goto (tgt := 57) hx hb dX8_describe_46 (by decide) ?_
      refine W.widen (k := 28) (n := 2612) (Nat.le_of_ble_eq_true rfl) (Nat.le_of_ble_eq_true rfl) ?_
      exact x_xiret hx hb hr rfl hlocks B hf dX8_describe_57
  unfold f_X8_describe at hf
  refine lv_aload_n hx hb dX8_describe_0 rfl (lv_at hl 0 rfl) ?_
  refine lv_iload_n hx hb dX8_describe_1 rfl (lv_at hl 1 rfl) ?_
  obtain ⟨u1, r2, σ3, hu1, hf⟩ := zx_some hf
  refine x_xv B (fun nb a g hs Bz => vx_runV (As := [.int a1]) (rest := []) ⟨hx, hb, hml, hown, hts⟩ (c_X8_needToken l hfl hu1 _ nb a g hs) (cwV 1 hts gX8_describe_X8_needToken rfl rfl rfl (by decide +kernel) ⟨Nat.le_of_ble_eq_true rfl, Nat.le_of_ble_eq_true rfl⟩) (x_preV Bz (by decide) (fun _ => rfl) rfl) rfl rfl hl.1 rfl (lv_room (Nat.le_of_ble_eq_true rfl)) dX8_describe_2 ⟨Nat.le_of_ble_eq_true rfl, Nat.le_of_ble_eq_true rfl⟩) (fun H locs ce q9 h0 B k1 k2 k3 => ?_) (fun H locs h0 B => ?_)
  · exact x_xout hno hlocks (zx_no hf h0) h0 B k1 k2 k3 (Nat.le_of_ble_eq_true rfl) (Nat.le_of_ble_eq_true rfl)
  have hf := zx_ok hf h0
  refine lv_aload_n hx hb dX8_describe_5 rfl (lv_at hl 0 rfl) ?_
  refine lv_iload_n hx hb dX8_describe_6 rfl (lv_at hl 1 rfl) ?_
  obtain ⟨r5, σ6, hu4, hf⟩ := zb_some hf
  refine x_v B (fun nb a g hs Bz => va_runV (As := [.int a1]) (rest := []) ⟨hx, hb, hml, hown, hts⟩ (c_X8_spell l hu4 _ nb a g hs) (cwV 1 hts gX8_describe_X8_spell rfl rfl rfl (by decide +kernel) ⟨Nat.le_of_ble_eq_true rfl, Nat.le_of_ble_eq_true rfl⟩) (x_preV Bz (by decide) (fun _ => rfl) rfl) rfl rfl hl.1 rfl (lv_room (Nat.le_of_ble_eq_true rfl)) dX8_describe_7 ⟨Nat.le_of_ble_eq_true rfl, Nat.le_of_ble_eq_true rfl⟩) (fun H locs B => ?_)
  refine lv_iload_n hx hb dX8_describe_10 rfl (lv_at hl 2 rfl) ?_
  refine lv_iconst (v := (-1 : Int32)) hx hb dX8_describe_11 (by decide) ?_
  refine lv_icmp_lt (tgt := 30) hx hb dX8_describe_12 (by decide) (fun hc => ?_) (fun hc => ?_)
  · have hf := zif_t hc hf
    refine lv_iconst (v := (0 : Int32)) hx hb dX8_describe_30 (by decide) ?_
    exact L31  _ _ _ _ _ _ hf B (lv_sub hl [0, 2] rfl)
  · have hf := zif_f hc hf
    refine lv_iload_n hx hb dX8_describe_15 rfl (lv_at hl 2 rfl) ?_
    refine lv_aload_n hx hb dX8_describe_16 rfl (lv_at hl 0 rfl) ?_
    refine x_getr hx hb hts hinRX8 hown B 0 7 63 (by decide) (by decide) (fun _ => rfl) rfl rfl (by decide) (by decide +kernel) rfl dX8_describe_17 ?_
    obtain ⟨r17, σ18, hu16, hf⟩ := zb_some hf
    refine x_i B (fun nb a g hs Bz => va_runV (As := []) (rest := [.int a2]) ⟨hx, hb, hml, hown, hts⟩ (c_J4_length_8abf5 l hu16 _ nb a g hs) (cwV 0 hts gX8_describe_J4_length_8abf5 rfl rfl rfl (by decide +kernel) ⟨Nat.le_of_ble_eq_true rfl, Nat.le_of_ble_eq_true rfl⟩) (x_preV Bz (by decide) (fun _ => rfl) rfl) rfl rfl hl.1 rfl (lv_room (Nat.le_of_ble_eq_true rfl)) dX8_describe_20 ⟨Nat.le_of_ble_eq_true rfl, Nat.le_of_ble_eq_true rfl⟩) (fun H locs B => ?_)
    refine lv_icmp_ge (tgt := 30) hx hb dX8_describe_23 (by decide) (fun hc => ?_) (fun hc => ?_)
    · have hf := zif_t hc hf
      refine lv_iconst (v := (0 : Int32)) hx hb dX8_describe_30 (by decide) ?_
      exact L31  _ _ _ _ _ _ hf B (lv_sub hl [0, 2] rfl)
    · have hf := zif_f hc hf
      refine lv_iconst (v := (1 : Int32)) hx hb dX8_describe_26 (by decide) ?_
      refine lv_goto (tgt := 31) hx hb dX8_describe_27 (by decide) ?_
      exact L31  _ _ _ _ _ _ hf B (lv_sub hl [0, 2] rfl)
theorem dL_describe_0 : decode cL_describe 0 = .ok (.aload_n 3, 1) := by decide +kernel
theorem dL_describe_1 : decode cL_describe 1 = .ok (.iconst 0, 1) := by decide +kernel
theorem dL_describe_2 : decode cL_describe 2 = .ok (.aload_n 0, 1) := by decide +kernel
theorem dL_describe_3 : decode cL_describe 3 = .ok (.iload_n 1, 1) := by decide +kernel
theorem dL_describe_4 : decode cL_describe 4 = .ok (.iload_n 2, 1) := by decide +kernel
theorem dL_describe_5 : decode cL_describe 5 = .ok (.invokevirtual 46, 3) := by decide +kernel
theorem dL_describe_8 : decode cL_describe 8 = .ok (.i2l, 1) := by decide +kernel
theorem dL_describe_9 : decode cL_describe 9 = .ok (.lastore, 1) := by decide +kernel
theorem dL_describe_10 : decode cL_describe 10 = .ok (.goto 7, 3) := by decide +kernel
theorem dL_describe_13 : decode cL_describe 13 = .ok (.astore 4, 2) := by decide +kernel
theorem dL_describe_15 : decode cL_describe 15 = .ok (.iconst 1, 1) := by decide +kernel
theorem dL_describe_16 : decode cL_describe 16 = .ok (.ireturn, 1) := by decide +kernel
theorem dL_describe_17 : decode cL_describe 17 = .ok (.iconst 0, 1) := by decide +kernel
theorem dL_describe_18 : decode cL_describe 18 = .ok (.ireturn, 1) := by decide +kernel
set_option maxRecDepth 20000 in
theorem ggL_describe_X8_describe : GoodIn wsL_describe wsX8_describe := goodIn_ca (goodIn_ca (goodIn_r _ [6, 7, 8, 9, 10, 5, 11, 12, 13, 14, 15, 16, 17, 18, 19, 20, 21, 22, 23, 24, 25, 26, 27, 28, 29, 30, 31, 32, 33, 34, 35, 36, 37, 38, 39, 40, 41, 42, 43, 44, 45, 46, 47, 48, 49, 50, 51, 52, 53, 54, 55, 56, 57, 58, 59, 60, 61, 62, 63, 64, 65, 66, 67, 68, 69, 70, 71, 72, 73, 74, 75, 76, 77, 78, 79, 80, 81, 82, 83, 84, 85, 86, 87, 88, 89, 90, 91, 92, 93, 94, 95, 96, 97, 98, 99, 100, 101, 102, 103, 104, 105, 106, 107, 108, 109, 110, 111, 112, 113, 114, 115, 116, 117, 118, 119, 120, 121, 122, 123, 124, 125, 126, 127, 128, 129, 130, 131, 132, 133, 134, 135, 136, 137, 138, 139, 140, 141, 142, 143, 144, 145, 146, 147, 148, 149, 150, 151, 152, 153, 154, 155, 156, 157, 158, 159, 160, 161, 162, 163, 164, 165, 166, 167, 168, 169, 170, 171, 172, 173, 174, 175, 176, 177, 178, 179, 180, 181, 182, 183, 184, 185, 186, 187, 188, 189, 190, 191, 192, 193, 194, 195, 196, 197, 198, 199, 200, 201, 202, 203, 204, 205, 206, 207, 208, 209, 210, 211, 212, 213, 214, 215, 216, 217, 218, 219, 220, 221, 222, 223, 224, 225, 226, 227, 228, 229, 230, 231, 232, 233, 234, 235, 236, 237, 238, 239, 240, 241, 242, 243, 244, 245, 246, 247, 248, 249, 250, 251, 252, 253, 254, 255, 256, 257, 258, 259, 260, 261, 262, 263, 264, 265, 266, 267, 268, 269, 270, 271, 272, 273, 274, 275, 276, 277, 278, 279, 280, 281, 282, 283, 284, 285, 286, 287, 288, 289, 290, 291, 292, 293, 294, 295, 296] (by decide +kernel) (by decide +kernel)) (goodIn_sub (fun _ h => List.mem_cons_of_mem _ (List.mem_append_right _ h)) (by decide +kernel))) (goodIn_sub (fun _ h => List.mem_cons_of_mem _ (List.mem_append_left _ (List.mem_append_right _ h))) (by decide +kernel))
set_option maxRecDepth 20000 in
theorem gL_describe_X8_describe : GoodIn wsL_describe (wsV RL 46 RX8 yX8_describe wsX8_describe) := goodIn_app (goodIn_of _ (by decide +kernel)) ggL_describe_X8_describe
def rm_L_describe_0_75 : Room := { frames := 11, cells := 28, slots := 2612, locals := 306 }
set_option maxHeartbeats 4000000 in
set_option maxRecDepth 100000 in
theorem c_L_describe_0_75 (l : Launch) (hfl : l.stackTraces = false) {G : zG} {ad : Nat → Nat} {σ σ' : zs} {a1 a2 : Int32} {r : Int32} (hf : f_L_describe_0_75 σ a1 a2 = some (r, σ')) : xMi l yL_describe wsL_describe rm_L_describe_0_75 G ad σ [.ref (ad 0), .int a1, .int a2, .ref (ad 75)] r σ' := by
  intro sz nb a g hs
  refine z_ofWH (cc := cL_describe) (maxL := 5) (ret := (some .int)) (by decide) rfl ?_
  intro p e s m args below meth c s₁ B hml hv
  obtain ⟨rfl, hsz, hv⟩ := hv
  have hx := B.exec
  have hb := B.bytes
  have hr := B.returns
  have hts := atoms_spec (ws := wsL_describe) B.pre
  have hown : s.vm.findClass RL = some m.cls := findClass_of_methodNamed B.named
  have hlocks := B.notSynchronized
  subst hsz
  have htab : c.exceptionTable.toList = [⟨0, 10, 13, 13⟩] := vx_table (x := yL_describe) B (hts (.codeWith yL_describe cL_describe 5 (some .int) [(0, 10, 13, 13)]) List.mem_cons_self)
  have B := xB_start hs hv
  have hl := lv_entry ([.ref (ad 0), .int a1, .int a2, .ref (ad 75)]) (n := 5) (Nat.le_of_ble_eq_true rfl)
  rw [lg_entry_eq]
  generalize (lg_sl ([.ref (ad 0), .int a1, .int a2, .ref (ad 75)]) ++ List.replicate (5 - (lg_sl ([.ref (ad 0), .int a1, .int a2, .ref (ad 75)])).length) Slot.unset).toArray = ls at hl ⊢
  have hl : lv_has ls 5 [(0, .ref (ad 0)), (1, .int a1), (2, .int a2), (3, .ref (ad 75))] := hl
  generalize hAe : xA ad a s.heap.size = A at B ⊢
  unfold f_L_describe_0_75 at hf
  refine lv_aload_n hx hb dL_describe_0 rfl (lv_at hl 3 rfl) ?_
  refine lv_iconst (v := (0 : Int32)) hx hb dL_describe_1 (by decide) ?_
  refine lv_aload_n hx hb dL_describe_2 rfl (lv_at hl 0 rfl) ?_
  refine lv_iload_n hx hb dL_describe_3 rfl (lv_at hl 1 rfl) ?_
  refine lv_iload_n hx hb dL_describe_4 rfl (lv_at hl 2 rfl) ?_
  obtain ⟨u1, r2, σ3, hu1, hf⟩ := zc_some hf
  refine x_xi B (fun nb a g hs Bz => vx_runV (As := [.int a1, .int a2]) (rest := [.int (0 : Int32), .ref (ad 75)]) ⟨hx, hb, hml, hown, hts⟩ (c_X8_describe l hfl hu1 _ nb a g hs) (cwV 2 hts gL_describe_X8_describe rfl rfl rfl (by decide +kernel) ⟨Nat.le_of_ble_eq_true rfl, Nat.le_of_ble_eq_true rfl⟩) (x_preV Bz (by decide) (fun _ => rfl) rfl) rfl rfl hl.1 rfl (lv_room (Nat.le_of_ble_eq_true rfl)) dL_describe_5 ⟨Nat.le_of_ble_eq_true rfl, Nat.le_of_ble_eq_true rfl⟩) (fun H locs ce q9 h0 B k1 k2 k3 => ?_) (fun H locs h0 B => ?_)
  · have hf := zx_no hf h0
    by_cases he1 : u1 = 1
    · have hf := zif_t he1 hf
      subst he1
      refine vx_catch (E := "java/lang/IndexOutOfBoundsException") (name := "java/lang/IndexOutOfBoundsException") hown [] ⟨0, 10, 13, 13⟩ [] htab (fun z hz => by cases hz) (by decide) (by decide) (hts (.classLink RL 13 "java/lang/IndexOutOfBoundsException") (by decide +kernel)) (((xT B).castable (by decide +kernel)).use rfl) k1 k2 k3 ?_
      refine lv_astore (lv' := [(4, .ref q9), (0, .ref (ad 0)), (1, .int a1), (2, .int a2), (3, .ref (ad 75))]) hx hb dL_describe_13 hl (by decide) rfl (fun ls hl => ?_)
      refine lv_iconst (v := (1 : Int32)) hx hb dL_describe_15 (by decide) ?_
      refine W.widen (k := 28) (n := 2612) (Nat.le_of_ble_eq_true rfl) (Nat.le_of_ble_eq_true rfl) ?_
      exact x_iret hx hb hr rfl hlocks B hf dL_describe_16
    have hf := zif_f he1 hf
    cases hf
  have hf := zx_ok hf h0
  refine lv_i2l (v := r2.toInt64) hx hb dL_describe_8 rfl ?_
  obtain ⟨hg, hf⟩ := zg_some hf
  refine x_last hx hb B 75 rfl (by decide) (by decide) (fun _ => rfl) (zin_ok hg) dL_describe_9 (fun H locs B => ?_)
  refine lv_goto (tgt := 17) hx hb dL_describe_10 (by decide) ?_
  refine lv_iconst (v := (0 : Int32)) hx hb dL_describe_17 (by decide) ?_
  refine W.widen (k := 28) (n := 2612) (Nat.le_of_ble_eq_true rfl) (Nat.le_of_ble_eq_true rfl) ?_
  exact x_iret hx hb hr rfl hlocks B hf dL_describe_18
