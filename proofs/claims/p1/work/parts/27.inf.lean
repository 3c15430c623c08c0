noncomputable section
/-! words by their places, rows by their words -/
set_option maxRecDepth 20000 in
/-- the methods: name, code, size, type, handlers -/
def ex_inf : Nat → ex_I := fun k => @Bool.rec (fun _ => Nat → ex_I) (fun k => @Bool.rec (fun _ => Nat → ex_I) (fun k => @Bool.rec (fun _ => Nat → ex_I) (fun k => @Bool.rec (fun _ => Nat → ex_I) (fun k => @Bool.rec (fun _ => Nat → ex_I) (fun k => @Bool.rec (fun _ => Nat → ex_I) (fun k => @Bool.rec (fun _ => Nat → ex_I) (fun k => @Bool.rec (fun _ => Nat → ex_I) (fun k => @Bool.rec (fun _ => Nat → ex_I) (fun _ => (⟨"CallerhallLaw", "law", "([I)Z"⟩, code, 10, (Option.some Jvm.ClassFile.FieldType.boolean), none)) (fun _ => (⟨"CallerhallLaw", "doneShare", "(LCallerhall;[D)I"⟩, method_39_code, 3, (Option.some Jvm.ClassFile.FieldType.int), some [(0, 8, 11, 144)])) (Nat.ble k 388) k) (fun k => @Bool.rec (fun _ => Nat → ex_I) (fun _ => (⟨"CallerhallLaw", "met", "(LCallerhall;II[J)I"⟩, method_38_code, 5, (Option.some Jvm.ClassFile.FieldType.int), some [(0, 10, 13, 13), (0, 10, 17, 25)])) (fun _ => (⟨"CallerhallLaw", "setOf", "(LCallerhall;II[J)I"⟩, method_37_code, 5, (Option.some Jvm.ClassFile.FieldType.int), some [(0, 10, 13, 13)])) (Nat.ble k 386) k) (Nat.ble k 387) k) (fun k => @Bool.rec (fun _ => Nat → ex_I) (fun k => @Bool.rec (fun _ => Nat → ex_I) (fun _ => (⟨"CallerhallLaw", "tip", "(LCallerhall;[J)I"⟩, method_36_code, 3, (Option.some Jvm.ClassFile.FieldType.int), some [(0, 8, 11, 48)])) (fun _ => (⟨"CallerhallLaw", "hall", "(LCallerhall;I[J)I"⟩, method_35_code, 4, (Option.some Jvm.ClassFile.FieldType.int), some [(0, 9, 12, 25)])) (Nat.ble k 384) k) (fun _ => (⟨"CallerhallLaw", "progress", "(LCallerhall;[J)I"⟩, method_34_code, 3, (Option.some Jvm.ClassFile.FieldType.int), some [(0, 8, 11, 27), (0, 8, 14, 48)])) (Nat.ble k 383) k) (Nat.ble k 385) k) (fun k => @Bool.rec (fun _ => Nat → ex_I) (fun k => @Bool.rec (fun _ => Nat → ex_I) (fun k => @Bool.rec (fun _ => Nat → ex_I) (fun _ => (⟨"CallerhallLaw", "sing", "(LCallerhall;I[J)I"⟩, method_33_code, 4, (Option.some Jvm.ClassFile.FieldType.int), some [(0, 9, 12, 25)])) (fun _ => (⟨"CallerhallLaw", "wayAt", "(LCallerhall;I[J)I"⟩, method_32_code, 4, (Option.some Jvm.ClassFile.FieldType.int), some [(0, 9, 12, 13)])) (Nat.ble k 381) k) (fun _ => (⟨"CallerhallLaw", "wayHome", "(LCallerhall;I[J)I"⟩, method_31_code, 4, (Option.some Jvm.ClassFile.FieldType.int), some [(0, 9, 12, 25), (0, 9, 15, 39)])) (Nat.ble k 380) k) (fun k => @Bool.rec (fun _ => Nat → ex_I) (fun k => @Bool.rec (fun _ => Nat → ex_I) (fun _ => (⟨"CallerhallLaw", "turned", "(LCallerhall;I[J)I"⟩, method_30_code, 4, (Option.some Jvm.ClassFile.FieldType.int), some [(0, 9, 12, 13)])) (fun _ => (⟨"CallerhallLaw", "repairs", "(LCallerhall;C[J)I"⟩, method_29_code, 4, (Option.some Jvm.ClassFile.FieldType.int), some [(0, 9, 12, 25)])) (Nat.ble k 378) k) (fun _ => (⟨"CallerhallLaw", "pair", "(LCallerhall;I[J)I"⟩, method_28_code, 4, (Option.some Jvm.ClassFile.FieldType.int), some [(0, 9, 12, 13), (0, 9, 15, 39)])) (Nat.ble k 377) k) (Nat.ble k 379) k) (Nat.ble k 382) k) (fun k => @Bool.rec (fun _ => Nat → ex_I) (fun k => @Bool.rec (fun _ => Nat → ex_I) (fun k => @Bool.rec (fun _ => Nat → ex_I) (fun k => @Bool.rec (fun _ => Nat → ex_I) (fun _ => (⟨"CallerhallLaw", "partner", "(LCallerhall;IZI[J)I"⟩, method_27_code, 6, (Option.some Jvm.ClassFile.FieldType.int), some [(0, 12, 15, 13), (0, 12, 19, 25), (0, 12, 23, 39)])) (fun _ => (⟨"CallerhallLaw", "isAmong", "(LCallerhall;IC[J)I"⟩, method_26_code, 5, (Option.some Jvm.ClassFile.FieldType.int), some [(0, 17, 20, 13), (0, 17, 24, 25), (0, 17, 28, 39)])) (Nat.ble k 375) k) (fun _ => (⟨"CallerhallLaw", "callAt", "(LCallerhall;I[J)I"⟩, method_25_code, 4, (Option.some Jvm.ClassFile.FieldType.int), some [(0, 9, 12, 13)])) (Nat.ble k 374) k) (fun k => @Bool.rec (fun _ => Nat → ex_I) (fun k => @Bool.rec (fun _ => Nat → ex_I) (fun _ => (⟨"CallerhallLaw", "back", "(LCallerhall;[J)I"⟩, method_24_code, 3, (Option.some Jvm.ClassFile.FieldType.int), some [(0, 8, 11, 39)])) (fun _ => (⟨"CallerhallLaw", "fits", "(LCallerhall;CCC[J)I"⟩, method_23_code, 6, (Option.some Jvm.ClassFile.FieldType.int), some [(0, 19, 22, 25)])) (Nat.ble k 372) k) (fun _ => (⟨"CallerhallLaw", "whom", "(LCallerhall;[J)I"⟩, method_22_code, 3, (Option.some Jvm.ClassFile.FieldType.int), some [(0, 8, 11, 39)])) (Nat.ble k 371) k) (Nat.ble k 373) k) (fun k => @Bool.rec (fun _ => Nat → ex_I) (fun k => @Bool.rec (fun _ => Nat → ex_I) (fun k => @Bool.rec (fun _ => Nat → ex_I) (fun _ => (⟨"CallerhallLaw", "finish", "(LCallerhall;[J)I"⟩, method_21_code, 3, (Option.some Jvm.ClassFile.FieldType.int), some [(0, 8, 11, 48), (0, 8, 14, 27)])) (fun _ => (⟨"CallerhallLaw", "dance", "(LCallerhall;CCCII[J)I"⟩, method_20_code, 8, (Option.some Jvm.ClassFile.FieldType.int), some [(0, 16, 19, 25), (0, 16, 23, 39), (0, 16, 27, 27)])) (Nat.ble k 369) k) (fun _ => (⟨"CallerhallLaw", "levelOf", "(LCallerhall;C[J)I"⟩, method_19_code, 4, (Option.some Jvm.ClassFile.FieldType.int), some [(0, 9, 12, 25), (0, 9, 15, 39)])) (Nat.ble k 368) k) (fun k => @Bool.rec (fun _ => Nat → ex_I) (fun k => @Bool.rec (fun _ => Nat → ex_I) (fun _ => (⟨"CallerhallLaw", "beatsOf", "(LCallerhall;C[J)I"⟩, method_18_code, 4, (Option.some Jvm.ClassFile.FieldType.int), some [(0, 9, 12, 25), (0, 9, 15, 39)])) (fun _ => (⟨"CallerhallLaw", "parts", "(LCallerhall;C[J)I"⟩, method_17_code, 4, (Option.some Jvm.ClassFile.FieldType.int), some [(0, 9, 12, 25), (0, 9, 15, 39)])) (Nat.ble k 366) k) (fun _ => (⟨"CallerhallLaw", "timing", "(LCallerhall;CII[J)I"⟩, method_16_code, 6, (Option.some Jvm.ClassFile.FieldType.int), some [(0, 12, 15, 25), (0, 12, 19, 39)])) (Nat.ble k 365) k) (Nat.ble k 367) k) (Nat.ble k 370) k) (Nat.ble k 376) k) (fun k => @Bool.rec (fun _ => Nat → ex_I) (fun k => @Bool.rec (fun _ => Nat → ex_I) (fun k => @Bool.rec (fun _ => Nat → ex_I) (fun k => @Bool.rec (fun _ => Nat → ex_I) (fun k => @Bool.rec (fun _ => Nat → ex_I) (fun _ => (⟨"CallerhallLaw", "forget", "(LCallerhall;C[J)I"⟩, method_15_code, 4, (Option.some Jvm.ClassFile.FieldType.int), some [(0, 9, 12, 25)])) (fun _ => (⟨"CallerhallLaw", "define", "(LCallerhall;CICCC[J)I"⟩, method_14_code, 8, (Option.some Jvm.ClassFile.FieldType.int), some [(0, 16, 19, 25), (0, 16, 23, 48)])) (Nat.ble k 363) k) (fun _ => (⟨"CallerhallLaw", "year", "(LCallerhall;I[J)I"⟩, method_13_code, 4, (Option.some Jvm.ClassFile.FieldType.int), some [(0, 9, 12, 25)])) (Nat.ble k 362) k) (fun k => @Bool.rec (fun _ => Nat → ex_I) (fun k => @Bool.rec (fun _ => Nat → ex_I) (fun _ => (⟨"CallerhallLaw", "level", "(LCallerhall;I[J)I"⟩, method_12_code, 4, (Option.some Jvm.ClassFile.FieldType.int), some [(0, 9, 12, 25)])) (fun _ => (⟨"CallerhallLaw", "phantom", "(LCallerhall;III[J)I"⟩, method_11_code, 6, (Option.some Jvm.ClassFile.FieldType.int), some [(0, 12, 15, 25), (0, 12, 19, 27), (0, 12, 23, 48)])) (Nat.ble k 360) k) (fun _ => (⟨"CallerhallLaw", "skill", "(LCallerhall;II[J)I"⟩, method_10_code, 5, (Option.some Jvm.ClassFile.FieldType.int), some [(0, 10, 13, 13), (0, 10, 17, 25)])) (Nat.ble k 359) k) (Nat.ble k 361) k) (fun k => @Bool.rec (fun _ => Nat → ex_I) (fun k => @Bool.rec (fun _ => Nat → ex_I) (fun k => @Bool.rec (fun _ => Nat → ex_I) (fun _ => (⟨"CallerhallLaw", "find", "(LCallerhall;II[J)I"⟩, method_9_code, 5, (Option.some Jvm.ClassFile.FieldType.int), some [(0, 10, 13, 39)])) (fun _ => (⟨"CallerhallLaw", "turnAll", "(LCallerhall;I[J)I"⟩, method_8_code, 4, (Option.some Jvm.ClassFile.FieldType.int), some [(0, 9, 12, 25)])) (Nat.ble k 357) k) (fun _ => (⟨"CallerhallLaw", "change", "(LCallerhall;II[J)I"⟩, method_7_code, 5, (Option.some Jvm.ClassFile.FieldType.int), some [(0, 10, 13, 13), (0, 10, 17, 25)])) (Nat.ble k 356) k) (fun k => @Bool.rec (fun _ => Nat → ex_I) (fun k => @Bool.rec (fun _ => Nat → ex_I) (fun _ => (⟨"CallerhallLaw", "put", "(LCallerhall;IIII[J)I"⟩, method_6_code, 7, (Option.some Jvm.ClassFile.FieldType.int), some [(0, 14, 17, 13), (0, 14, 21, 25), (0, 14, 25, 27)])) (fun _ => (⟨"CallerhallLaw", "facing", "(LCallerhall;I[J)I"⟩, method_5_code, 4, (Option.some Jvm.ClassFile.FieldType.int), some [(0, 9, 12, 13)])) (Nat.ble k 354) k) (fun _ => (⟨"CallerhallLaw", "y", "(LCallerhall;I[J)I"⟩, method_4_code, 4, (Option.some Jvm.ClassFile.FieldType.int), some [(0, 9, 12, 13)])) (Nat.ble k 353) k) (Nat.ble k 355) k) (Nat.ble k 358) k) (fun k => @Bool.rec (fun _ => Nat → ex_I) (fun k => @Bool.rec (fun _ => Nat → ex_I) (fun k => @Bool.rec (fun _ => Nat → ex_I) (fun k => @Bool.rec (fun _ => Nat → ex_I) (fun _ => (⟨"CallerhallLaw", "x", "(LCallerhall;I[J)I"⟩, method_3_code, 4, (Option.some Jvm.ClassFile.FieldType.int), some [(0, 9, 12, 13)])) (fun _ => (⟨"jdk/internal/util/Preconditions", "checkFromToIndex", "(IIILjava/util/function/BiFunction;)I"⟩, prog_54_method_12_code, 4, (Option.some Jvm.ClassFile.FieldType.int), none)) (Nat.ble k 351) k) (fun _ => (⟨"jdk/internal/util/Preconditions", "checkIndex", "(IILjava/util/function/BiFunction;)I"⟩, prog_54_method_11_code, 3, (Option.some Jvm.ClassFile.FieldType.int), none)) (Nat.ble k 350) k) (fun k => @Bool.rec (fun _ => Nat → ex_I) (fun k => @Bool.rec (fun _ => Nat → ex_I) (fun _ => (⟨"jdk/internal/util/ArraysSupport", "hugeLength", "(II)I"⟩, prog_53_method_28_code, 3, (Option.some Jvm.ClassFile.FieldType.int), none)) (fun _ => (⟨"jdk/internal/util/ArraysSupport", "newLength", "(III)I"⟩, prog_53_method_27_code, 4, (Option.some Jvm.ClassFile.FieldType.int), none)) (Nat.ble k 348) k) (fun _ => (⟨"java/util/Objects", "checkIndex", "(II)I"⟩, prog_50_method_17_code, 2, (Option.some Jvm.ClassFile.FieldType.int), none)) (Nat.ble k 347) k) (Nat.ble k 349) k) (fun k => @Bool.rec (fun _ => Nat → ex_I) (fun k => @Bool.rec (fun _ => Nat → ex_I) (fun k => @Bool.rec (fun _ => Nat → ex_I) (fun _ => (⟨"java/util/Arrays", "copyOf", "([Ljava/lang/Object;ILjava/lang/Class;)[Ljava/lang/Object;"⟩, prog_45_method_120_code, 4, (Option.some (Jvm.ClassFile.FieldType.array (Jvm.ClassFile.FieldType.object "java/lang/Object"))), none)) (fun _ => (⟨"java/util/Arrays", "copyOf", "([Ljava/lang/Object;I)[Ljava/lang/Object;"⟩, prog_45_method_119_code, 2, (Option.some (Jvm.ClassFile.FieldType.array (Jvm.ClassFile.FieldType.object "java/lang/Object"))), none)) (Nat.ble k 345) k) (fun _ => (⟨"java/util/ArrayList", "iterator", "()Ljava/util/Iterator;"⟩, prog_43_method_55_code, 1, (Option.some (Jvm.ClassFile.FieldType.object "java/util/Iterator")), none)) (Nat.ble k 344) k) (fun k => @Bool.rec (fun _ => Nat → ex_I) (fun k => @Bool.rec (fun _ => Nat → ex_I) (fun _ => (⟨"java/util/ArrayList", "addAll", "(Ljava/util/Collection;)Z"⟩, prog_43_method_41_code, 6, (Option.some Jvm.ClassFile.FieldType.boolean), none)) (fun _ => (⟨"java/util/ArrayList", "clear", "()V"⟩, prog_43_method_40_code, 4, (Option.none : Option Jvm.ClassFile.FieldType), none)) (Nat.ble k 342) k) (fun _ => (⟨"java/util/ArrayList", "fastRemove", "([Ljava/lang/Object;I)V"⟩, prog_43_method_39_code, 4, (Option.none : Option Jvm.ClassFile.FieldType), none)) (Nat.ble k 341) k) (Nat.ble k 343) k) (Nat.ble k 346) k) (Nat.ble k 352) k) (Nat.ble k 364) k) (fun k => @Bool.rec (fun _ => Nat → ex_I) (fun k => @Bool.rec (fun _ => Nat → ex_I) (fun k => @Bool.rec (fun _ => Nat → ex_I) (fun k => @Bool.rec (fun _ => Nat → ex_I) (fun k => @Bool.rec (fun _ => Nat → ex_I) (fun k => @Bool.rec (fun _ => Nat → ex_I) (fun _ => (⟨"java/util/ArrayList", "remove", "(I)Ljava/lang/Object;"⟩, prog_43_method_29_code, 4, (Option.some (Jvm.ClassFile.FieldType.object "java/lang/Object")), none)) (fun _ => (⟨"java/util/ArrayList", "add", "(Ljava/lang/Object;)Z"⟩, prog_43_method_25_code, 2, (Option.some Jvm.ClassFile.FieldType.boolean), none)) (Nat.ble k 339) k) (fun k => @Bool.rec (fun _ => Nat → ex_I) (fun _ => (⟨"java/util/ArrayList", "add", "(Ljava/lang/Object;[Ljava/lang/Object;I)V"⟩, prog_43_method_24_code, 4, (Option.none : Option Jvm.ClassFile.FieldType), none)) (fun _ => (⟨"java/util/ArrayList", "get", "(I)Ljava/lang/Object;"⟩, prog_43_method_20_code, 2, (Option.some (Jvm.ClassFile.FieldType.object "java/lang/Object")), none)) (Nat.ble k 337) k) (Nat.ble k 338) k) (fun k => @Bool.rec (fun _ => Nat → ex_I) (fun k => @Bool.rec (fun _ => Nat → ex_I) (fun _ => (⟨"java/util/ArrayList", "elementData", "(I)Ljava/lang/Object;"⟩, prog_43_method_18_code, 2, (Option.some (Jvm.ClassFile.FieldType.object "java/lang/Object")), none)) (fun _ => (⟨"java/util/ArrayList", "toArray", "()[Ljava/lang/Object;"⟩, prog_43_method_16_code, 1, (Option.some (Jvm.ClassFile.FieldType.array (Jvm.ClassFile.FieldType.object "java/lang/Object"))), none)) (Nat.ble k 335) k) (fun _ => (⟨"java/util/ArrayList", "isEmpty", "()Z"⟩, prog_43_method_9_code, 1, (Option.some Jvm.ClassFile.FieldType.boolean), none)) (Nat.ble k 334) k) (Nat.ble k 336) k) (fun k => @Bool.rec (fun _ => Nat → ex_I) (fun k => @Bool.rec (fun _ => Nat → ex_I) (fun k => @Bool.rec (fun _ => Nat → ex_I) (fun _ => (⟨"java/util/ArrayList", "size", "()I"⟩, prog_43_method_8_code, 1, (Option.some Jvm.ClassFile.FieldType.int), none)) (fun _ => (⟨"java/util/ArrayList", "grow", "()[Ljava/lang/Object;"⟩, prog_43_method_7_code, 1, (Option.some (Jvm.ClassFile.FieldType.array (Jvm.ClassFile.FieldType.object "java/lang/Object"))), none)) (Nat.ble k 332) k) (fun _ => (⟨"java/util/ArrayList", "grow", "(I)[Ljava/lang/Object;"⟩, prog_43_method_6_code, 4, (Option.some (Jvm.ClassFile.FieldType.array (Jvm.ClassFile.FieldType.object "java/lang/Object"))), none)) (Nat.ble k 331) k) (fun k => @Bool.rec (fun _ => Nat → ex_I) (fun k => @Bool.rec (fun _ => Nat → ex_I) (fun _ => (⟨"java/util/ArrayList", "<init>", "()V"⟩, prog_43_method_2_code, 1, (Option.none : Option Jvm.ClassFile.FieldType), none)) (fun _ => (⟨"java/util/ArrayList$Itr", "checkForComodification", "()V"⟩, prog_44_method_6_code, 1, (Option.none : Option Jvm.ClassFile.FieldType), none)) (Nat.ble k 329) k) (fun _ => (⟨"java/util/ArrayList$Itr", "next", "()Ljava/lang/Object;"⟩, prog_44_method_3_code, 3, (Option.some (Jvm.ClassFile.FieldType.object "java/lang/Object")), none)) (Nat.ble k 328) k) (Nat.ble k 330) k) (Nat.ble k 333) k) (fun k => @Bool.rec (fun _ => Nat → ex_I) (fun k => @Bool.rec (fun _ => Nat → ex_I) (fun k => @Bool.rec (fun _ => Nat → ex_I) (fun k => @Bool.rec (fun _ => Nat → ex_I) (fun _ => (⟨"java/util/ArrayList$Itr", "hasNext", "()Z"⟩, prog_44_method_2_code, 1, (Option.some Jvm.ClassFile.FieldType.boolean), none)) (fun _ => (⟨"java/util/ArrayList$Itr", "<init>", "(Ljava/util/ArrayList;)V"⟩, prog_44_method_1_code, 2, (Option.none : Option Jvm.ClassFile.FieldType), none)) (Nat.ble k 326) k) (fun _ => (⟨"java/util/AbstractList", "<init>", "()V"⟩, prog_42_method_1_code, 1, (Option.none : Option Jvm.ClassFile.FieldType), none)) (Nat.ble k 325) k) (fun k => @Bool.rec (fun _ => Nat → ex_I) (fun k => @Bool.rec (fun _ => Nat → ex_I) (fun _ => (⟨"java/util/AbstractCollection", "<init>", "()V"⟩, prog_41_method_1_code, 1, (Option.none : Option Jvm.ClassFile.FieldType), none)) (fun _ => (⟨"java/lang/StringUTF16", "checkBoundsBeginEnd", "(II[B)V"⟩, prog_35_method_93_code, 3, (Option.none : Option Jvm.ClassFile.FieldType), none)) (Nat.ble k 323) k) (fun _ => (⟨"java/lang/StringUTF16", "checkIndex", "(I[B)V"⟩, prog_35_method_91_code, 2, (Option.none : Option Jvm.ClassFile.FieldType), none)) (Nat.ble k 322) k) (Nat.ble k 324) k) (fun k => @Bool.rec (fun _ => Nat → ex_I) (fun k => @Bool.rec (fun _ => Nat → ex_I) (fun k => @Bool.rec (fun _ => Nat → ex_I) (fun _ => (⟨"java/lang/StringUTF16", "charAt", "([BI)C"⟩, prog_35_method_83_code, 2, (Option.some Jvm.ClassFile.FieldType.char), none)) (fun _ => (⟨"java/lang/StringUTF16", "indexOfSupplementary", "([BIII)I"⟩, prog_35_method_49_code, 7, (Option.some Jvm.ClassFile.FieldType.int), none)) (Nat.ble k 320) k) (fun _ => (⟨"java/lang/StringUTF16", "indexOfCharUnsafe", "([BIII)I"⟩, prog_35_method_48_code, 5, (Option.some Jvm.ClassFile.FieldType.int), none)) (Nat.ble k 319) k) (fun k => @Bool.rec (fun _ => Nat → ex_I) (fun k => @Bool.rec (fun _ => Nat → ex_I) (fun _ => (⟨"java/lang/StringUTF16", "indexOfChar", "([BIII)I"⟩, prog_35_method_47_code, 4, (Option.some Jvm.ClassFile.FieldType.int), none)) (fun _ => (⟨"java/lang/StringUTF16", "indexOf", "([BIII)I"⟩, prog_35_method_40_code, 4, (Option.some Jvm.ClassFile.FieldType.int), none)) (Nat.ble k 317) k) (fun _ => (⟨"java/lang/StringUTF16", "length", "([B)I"⟩, prog_35_method_6_code, 1, (Option.some Jvm.ClassFile.FieldType.int), none)) (Nat.ble k 316) k) (Nat.ble k 318) k) (Nat.ble k 321) k) (Nat.ble k 327) k) (fun k => @Bool.rec (fun _ => Nat → ex_I) (fun k => @Bool.rec (fun _ => Nat → ex_I) (fun k => @Bool.rec (fun _ => Nat → ex_I) (fun k => @Bool.rec (fun _ => Nat → ex_I) (fun k => @Bool.rec (fun _ => Nat → ex_I) (fun _ => (⟨"java/lang/StringUTF16", "getChar", "([BI)C"⟩, prog_35_method_5_code, 2, (Option.some Jvm.ClassFile.FieldType.char), none)) (fun _ => (⟨"java/lang/StringLatin1", "indexOfChar", "([BIII)I"⟩, prog_34_method_23_code, 6, (Option.some Jvm.ClassFile.FieldType.int), none)) (Nat.ble k 314) k) (fun _ => (⟨"java/lang/StringLatin1", "indexOf", "([BIII)I"⟩, prog_34_method_22_code, 4, (Option.some Jvm.ClassFile.FieldType.int), none)) (Nat.ble k 313) k) (fun k => @Bool.rec (fun _ => Nat → ex_I) (fun k => @Bool.rec (fun _ => Nat → ex_I) (fun _ => (⟨"java/lang/StringLatin1", "canEncode", "(I)Z"⟩, prog_34_method_4_code, 1, (Option.some Jvm.ClassFile.FieldType.boolean), none)) (fun _ => (⟨"java/lang/StringLatin1", "charAt", "([BI)C"⟩, prog_34_method_2_code, 2, (Option.some Jvm.ClassFile.FieldType.char), none)) (Nat.ble k 311) k) (fun _ => (⟨"java/lang/String", "checkBoundsBeginEnd", "(III)V"⟩, prog_33_method_158_code, 3, (Option.none : Option Jvm.ClassFile.FieldType), none)) (Nat.ble k 310) k) (Nat.ble k 312) k) (fun k => @Bool.rec (fun _ => Nat → ex_I) (fun k => @Bool.rec (fun _ => Nat → ex_I) (fun k => @Bool.rec (fun _ => Nat → ex_I) (fun _ => (⟨"java/lang/String", "checkIndex", "(II)V"⟩, prog_33_method_155_code, 2, (Option.none : Option Jvm.ClassFile.FieldType), none)) (fun _ => (⟨"java/lang/String", "isLatin1", "()Z"⟩, prog_33_method_154_code, 1, (Option.some Jvm.ClassFile.FieldType.boolean), none)) (Nat.ble k 308) k) (fun _ => (⟨"java/lang/String", "coder", "()B"⟩, prog_33_method_152_code, 1, (Option.some Jvm.ClassFile.FieldType.byte), none)) (Nat.ble k 307) k) (fun k => @Bool.rec (fun _ => Nat → ex_I) (fun k => @Bool.rec (fun _ => Nat → ex_I) (fun _ => (⟨"java/lang/String", "indexOf", "(II)I"⟩, prog_33_method_80_code, 3, (Option.some Jvm.ClassFile.FieldType.int), none)) (fun _ => (⟨"java/lang/String", "indexOf", "(I)I"⟩, prog_33_method_79_code, 2, (Option.some Jvm.ClassFile.FieldType.int), none)) (Nat.ble k 305) k) (fun _ => (⟨"java/lang/String", "charAt", "(I)C"⟩, prog_33_method_56_code, 2, (Option.some Jvm.ClassFile.FieldType.char), none)) (Nat.ble k 304) k) (Nat.ble k 306) k) (Nat.ble k 309) k) (fun k => @Bool.rec (fun _ => Nat → ex_I) (fun k => @Bool.rec (fun _ => Nat → ex_I) (fun k => @Bool.rec (fun _ => Nat → ex_I) (fun k => @Bool.rec (fun _ => Nat → ex_I) (fun _ => (⟨"java/lang/String", "length", "()I"⟩, prog_33_method_54_code, 1, (Option.some Jvm.ClassFile.FieldType.int), none)) (fun _ => (⟨"java/lang/Math", "min", "(II)I"⟩, prog_31_method_69_code, 2, (Option.some Jvm.ClassFile.FieldType.int), none)) (Nat.ble k 302) k) (fun _ => (⟨"java/lang/Math", "max", "(II)I"⟩, prog_31_method_65_code, 2, (Option.some Jvm.ClassFile.FieldType.int), none)) (Nat.ble k 301) k) (fun k => @Bool.rec (fun _ => Nat → ex_I) (fun k => @Bool.rec (fun _ => Nat → ex_I) (fun _ => (⟨"java/lang/Math", "abs", "(J)J"⟩, prog_31_method_61_code, 2, (Option.some Jvm.ClassFile.FieldType.long), none)) (fun _ => (⟨"java/lang/Math", "abs", "(I)I"⟩, prog_31_method_59_code, 1, (Option.some Jvm.ClassFile.FieldType.int), none)) (Nat.ble k 299) k) (fun _ => (⟨"java/lang/Math", "floorMod", "(II)I"⟩, prog_31_method_50_code, 3, (Option.some Jvm.ClassFile.FieldType.int), none)) (Nat.ble k 298) k) (Nat.ble k 300) k) (fun k => @Bool.rec (fun _ => Nat → ex_I) (fun k => @Bool.rec (fun _ => Nat → ex_I) (fun k => @Bool.rec (fun _ => Nat → ex_I) (fun _ => (⟨"java/lang/Character", "lowSurrogate", "(I)C"⟩, prog_22_method_29_code, 1, (Option.some Jvm.ClassFile.FieldType.char), none)) (fun _ => (⟨"java/lang/Character", "highSurrogate", "(I)C"⟩, prog_22_method_28_code, 1, (Option.some Jvm.ClassFile.FieldType.char), none)) (Nat.ble k 296) k) (fun _ => (⟨"java/lang/Character", "isValidCodePoint", "(I)Z"⟩, prog_22_method_11_code, 2, (Option.some Jvm.ClassFile.FieldType.boolean), none)) (Nat.ble k 295) k) (fun k => @Bool.rec (fun _ => Nat → ex_I) (fun k => @Bool.rec (fun _ => Nat → ex_I) (fun _ => (⟨"java/lang/Character", "charValue", "()C"⟩, prog_22_method_4_code, 1, (Option.some Jvm.ClassFile.FieldType.char), none)) (fun _ => (⟨"java/lang/Character", "valueOf", "(C)Ljava/lang/Character;"⟩, prog_22_method_3_code, 1, (Option.some (Jvm.ClassFile.FieldType.object "java/lang/Character")), none)) (Nat.ble k 293) k) (fun _ => (⟨"java/lang/Character", "<init>", "(C)V"⟩, prog_22_method_2_code, 2, (Option.none : Option Jvm.ClassFile.FieldType), none)) (Nat.ble k 292) k) (Nat.ble k 294) k) (Nat.ble k 297) k) (Nat.ble k 303) k) (Nat.ble k 315) k) (Nat.ble k 340) k) (fun k => @Bool.rec (fun _ => Nat → ex_I) (fun k => @Bool.rec (fun _ => Nat → ex_I) (fun k => @Bool.rec (fun _ => Nat → ex_I) (fun k => @Bool.rec (fun _ => Nat → ex_I) (fun k => @Bool.rec (fun _ => Nat → ex_I) (fun k => @Bool.rec (fun _ => Nat → ex_I) (fun k => @Bool.rec (fun _ => Nat → ex_I) (fun _ => (⟨"java/lang/ArrayIndexOutOfBoundsException", "<init>", "(Ljava/lang/String;)V"⟩, prog_20_method_2_code, 2, (Option.none : Option Jvm.ClassFile.FieldType), none)) (fun _ => (⟨"CallerhallModel", "isConsistent", "()Z"⟩, prog_14_method_114_code, 1, (Option.some Jvm.ClassFile.FieldType.boolean), none)) (Nat.ble k 290) k) (fun k => @Bool.rec (fun _ => Nat → ex_I) (fun _ => (⟨"CallerhallModel", "meanAway", "()D"⟩, prog_14_method_113_code, 4, (Option.some Jvm.ClassFile.FieldType.double), none)) (fun _ => (⟨"CallerhallModel", "doneShare", "()F"⟩, prog_14_method_112_code, 1, (Option.some Jvm.ClassFile.FieldType.float), none)) (Nat.ble k 288) k) (Nat.ble k 289) k) (fun k => @Bool.rec (fun _ => Nat → ex_I) (fun k => @Bool.rec (fun _ => Nat → ex_I) (fun _ => (⟨"CallerhallModel", "beats", "()J"⟩, prog_14_method_111_code, 1, (Option.some Jvm.ClassFile.FieldType.long), none)) (fun _ => (⟨"CallerhallModel", "met", "(II)I"⟩, prog_14_method_110_code, 3, (Option.some Jvm.ClassFile.FieldType.int), none)) (Nat.ble k 286) k) (fun _ => (⟨"CallerhallModel", "setOf", "(II)I"⟩, prog_14_method_109_code, 3, (Option.some Jvm.ClassFile.FieldType.int), none)) (Nat.ble k 285) k) (Nat.ble k 287) k) (fun k => @Bool.rec (fun _ => Nat → ex_I) (fun k => @Bool.rec (fun _ => Nat → ex_I) (fun k => @Bool.rec (fun _ => Nat → ex_I) (fun _ => (⟨"CallerhallModel", "tip", "()I"⟩, prog_14_method_108_code, 11, (Option.some Jvm.ClassFile.FieldType.int), none)) (fun _ => (⟨"CallerhallModel", "danced", "(I)I"⟩, prog_14_method_107_code, 5, (Option.some Jvm.ClassFile.FieldType.int), none)) (Nat.ble k 283) k) (fun _ => (⟨"CallerhallModel", "metOf", "(II)I"⟩, prog_14_method_106_code, 6, (Option.some Jvm.ClassFile.FieldType.int), none)) (Nat.ble k 282) k) (fun k => @Bool.rec (fun _ => Nat → ex_I) (fun k => @Bool.rec (fun _ => Nat → ex_I) (fun _ => (⟨"CallerhallModel", "hall", "(I)I"⟩, prog_14_method_105_code, 3, (Option.some Jvm.ClassFile.FieldType.int), none)) (fun _ => (⟨"CallerhallModel", "gone", "()I"⟩, prog_14_method_104_code, 1, (Option.some Jvm.ClassFile.FieldType.int), none)) (Nat.ble k 280) k) (fun _ => (⟨"CallerhallModel", "progress", "()I"⟩, prog_14_method_103_code, 2, (Option.some Jvm.ClassFile.FieldType.int), none)) (Nat.ble k 279) k) (Nat.ble k 281) k) (Nat.ble k 284) k) (fun k => @Bool.rec (fun _ => Nat → ex_I) (fun k => @Bool.rec (fun _ => Nat → ex_I) (fun k => @Bool.rec (fun _ => Nat → ex_I) (fun k => @Bool.rec (fun _ => Nat → ex_I) (fun _ => (⟨"CallerhallModel", "sung", "()I"⟩, prog_14_method_102_code, 1, (Option.some Jvm.ClassFile.FieldType.int), none)) (fun _ => (⟨"CallerhallModel", "sing", "(I)I"⟩, prog_14_method_101_code, 3, (Option.some Jvm.ClassFile.FieldType.int), none)) (Nat.ble k 277) k) (fun _ => (⟨"CallerhallModel", "wayAt", "(I)C"⟩, prog_14_method_100_code, 2, (Option.some Jvm.ClassFile.FieldType.char), none)) (Nat.ble k 276) k) (fun k => @Bool.rec (fun _ => Nat → ex_I) (fun k => @Bool.rec (fun _ => Nat → ex_I) (fun _ => (⟨"CallerhallModel", "wayHome", "(I)I"⟩, prog_14_method_99_code, 7, (Option.some Jvm.ClassFile.FieldType.int), none)) (fun _ => (⟨"CallerhallModel", "led", "([IC)[I"⟩, prog_14_method_98_code, 5, (Option.some (Jvm.ClassFile.FieldType.array Jvm.ClassFile.FieldType.int)), none)) (Nat.ble k 274) k) (fun _ => (⟨"CallerhallModel", "clashes", "()I"⟩, prog_14_method_97_code, 1, (Option.some Jvm.ClassFile.FieldType.int), none)) (Nat.ble k 273) k) (Nat.ble k 275) k) (fun k => @Bool.rec (fun _ => Nat → ex_I) (fun k => @Bool.rec (fun _ => Nat → ex_I) (fun k => @Bool.rec (fun _ => Nat → ex_I) (fun _ => (⟨"CallerhallModel", "broken", "()I"⟩, prog_14_method_96_code, 1, (Option.some Jvm.ClassFile.FieldType.int), none)) (fun _ => (⟨"CallerhallModel", "turned", "(I)I"⟩, prog_14_method_95_code, 2, (Option.some Jvm.ClassFile.FieldType.int), none)) (Nat.ble k 271) k) (fun _ => (⟨"CallerhallModel", "isSymmetric", "()Z"⟩, prog_14_method_94_code, 4, (Option.some Jvm.ClassFile.FieldType.boolean), none)) (Nat.ble k 270) k) (fun k => @Bool.rec (fun _ => Nat → ex_I) (fun k => @Bool.rec (fun _ => Nat → ex_I) (fun _ => (⟨"CallerhallModel", "isHome", "()Z"⟩, prog_14_method_93_code, 1, (Option.some Jvm.ClassFile.FieldType.boolean), none)) (fun _ => (⟨"CallerhallModel", "repairs", "(C)I"⟩, prog_14_method_92_code, 2, (Option.some Jvm.ClassFile.FieldType.int), none)) (Nat.ble k 268) k) (fun _ => (⟨"CallerhallModel", "formation", "()C"⟩, prog_14_method_91_code, 2, (Option.some Jvm.ClassFile.FieldType.char), none)) (Nat.ble k 267) k) (Nat.ble k 269) k) (Nat.ble k 272) k) (Nat.ble k 278) k) (fun k => @Bool.rec (fun _ => Nat → ex_I) (fun k => @Bool.rec (fun _ => Nat → ex_I) (fun k => @Bool.rec (fun _ => Nat → ex_I) (fun k => @Bool.rec (fun _ => Nat → ex_I) (fun k => @Bool.rec (fun _ => Nat → ex_I) (fun _ => (⟨"CallerhallModel", "missing", "(C)I"⟩, prog_14_method_90_code, 8, (Option.some Jvm.ClassFile.FieldType.int), none)) (fun _ => (⟨"CallerhallModel", "placesOf", "(C)[I"⟩, prog_14_method_89_code, 4, (Option.some (Jvm.ClassFile.FieldType.array Jvm.ClassFile.FieldType.int)), none)) (Nat.ble k 265) k) (fun _ => (⟨"CallerhallModel", "places", "(C)[I"⟩, prog_14_method_88_code, 8, (Option.some (Jvm.ClassFile.FieldType.array Jvm.ClassFile.FieldType.int)), none)) (Nat.ble k 264) k) (fun k => @Bool.rec (fun _ => Nat → ex_I) (fun k => @Bool.rec (fun _ => Nat → ex_I) (fun _ => (⟨"CallerhallModel", "pair", "(I)C"⟩, prog_14_method_87_code, 4, (Option.some Jvm.ClassFile.FieldType.char), none)) (fun _ => (⟨"CallerhallModel", "partner", "(IZI)I"⟩, prog_14_method_86_code, 6, (Option.some Jvm.ClassFile.FieldType.int), none)) (Nat.ble k 262) k) (fun _ => (⟨"CallerhallModel", "isAmong", "(IC)Z"⟩, prog_14_method_85_code, 4, (Option.some Jvm.ClassFile.FieldType.boolean), none)) (Nat.ble k 261) k) (Nat.ble k 263) k) (fun k => @Bool.rec (fun _ => Nat → ex_I) (fun k => @Bool.rec (fun _ => Nat → ex_I) (fun k => @Bool.rec (fun _ => Nat → ex_I) (fun _ => (⟨"CallerhallModel", "callAt", "(I)C"⟩, prog_14_method_84_code, 2, (Option.some Jvm.ClassFile.FieldType.char), none)) (fun _ => (⟨"CallerhallModel", "calls", "()I"⟩, prog_14_method_83_code, 1, (Option.some Jvm.ClassFile.FieldType.int), none)) (Nat.ble k 259) k) (fun _ => (⟨"CallerhallModel", "back", "()I"⟩, prog_14_method_82_code, 1, (Option.some Jvm.ClassFile.FieldType.int), none)) (Nat.ble k 258) k) (fun k => @Bool.rec (fun _ => Nat → ex_I) (fun k => @Bool.rec (fun _ => Nat → ex_I) (fun _ => (⟨"CallerhallModel", "fits", "(CCC)Z"⟩, prog_14_method_81_code, 5, (Option.some Jvm.ClassFile.FieldType.boolean), none)) (fun _ => (⟨"CallerhallModel", "whom", "()I"⟩, prog_14_method_80_code, 1, (Option.some Jvm.ClassFile.FieldType.int), none)) (Nat.ble k 256) k) (fun _ => (⟨"CallerhallModel", "why", "()C"⟩, prog_14_method_79_code, 1, (Option.some Jvm.ClassFile.FieldType.char), none)) (Nat.ble k 255) k) (Nat.ble k 257) k) (Nat.ble k 260) k) (fun k => @Bool.rec (fun _ => Nat → ex_I) (fun k => @Bool.rec (fun _ => Nat → ex_I) (fun k => @Bool.rec (fun _ => Nat → ex_I) (fun k => @Bool.rec (fun _ => Nat → ex_I) (fun _ => (⟨"CallerhallModel", "left", "()I"⟩, prog_14_method_78_code, 1, (Option.some Jvm.ClassFile.FieldType.int), none)) (fun _ => (⟨"CallerhallModel", "firstHands", "(LCallerhallModel$Call;I[I)V"⟩, prog_14_method_77_code, 6, (Option.none : Option Jvm.ClassFile.FieldType), none)) (Nat.ble k 253) k) (fun _ => (⟨"CallerhallModel", "finish", "()I"⟩, prog_14_method_76_code, 9, (Option.some Jvm.ClassFile.FieldType.int), none)) (Nat.ble k 252) k) (fun k => @Bool.rec (fun _ => Nat → ex_I) (fun k => @Bool.rec (fun _ => Nat → ex_I) (fun _ => (⟨"CallerhallModel", "dance", "(CCCII)I"⟩, prog_14_method_75_code, 13, (Option.some Jvm.ClassFile.FieldType.int), none)) (fun _ => (⟨"CallerhallModel", "beat", "(I)V"⟩, prog_14_method_74_code, 2, (Option.none : Option Jvm.ClassFile.FieldType), none)) (Nat.ble k 250) k) (fun _ => (⟨"CallerhallModel", "flows", "([I[I[I[I)V"⟩, prog_14_method_73_code, 6, (Option.none : Option Jvm.ClassFile.FieldType), none)) (Nat.ble k 249) k) (Nat.ble k 251) k) (fun k => @Bool.rec (fun _ => Nat → ex_I) (fun k => @Bool.rec (fun _ => Nat → ex_I) (fun k => @Bool.rec (fun _ => Nat → ex_I) (fun _ => (⟨"CallerhallModel", "cannot", "(CII)I"⟩, prog_14_method_72_code, 4, (Option.some Jvm.ClassFile.FieldType.int), none)) (fun _ => (⟨"CallerhallModel", "runs", "([ILCallerhallModel$Call;I)[I"⟩, prog_14_method_71_code, 12, (Option.some (Jvm.ClassFile.FieldType.array Jvm.ClassFile.FieldType.int)), none)) (Nat.ble k 247) k) (fun _ => (⟨"CallerhallModel", "crosses", "(LCallerhallModel$Floor;I[II)V"⟩, prog_14_method_70_code, 10, (Option.none : Option Jvm.ClassFile.FieldType), none)) (Nat.ble k 246) k) (fun k => @Bool.rec (fun _ => Nat → ex_I) (fun k => @Bool.rec (fun _ => Nat → ex_I) (fun _ => (⟨"CallerhallModel", "dances", "(LCallerhallModel$Floor;CIIIC[[I[I[I)V"⟩, prog_14_method_69_code, 11, (Option.none : Option Jvm.ClassFile.FieldType), none)) (fun _ => (⟨"CallerhallModel", "dances", "(LCallerhallModel$Floor;CCI)Z"⟩, prog_14_method_68_code, 17, (Option.some Jvm.ClassFile.FieldType.boolean), none)) (Nat.ble k 244) k) (fun _ => (⟨"CallerhallModel", "misfit", "(LCallerhallModel$Floor;[Z[I[[IC)I"⟩, prog_14_method_67_code, 8, (Option.some Jvm.ClassFile.FieldType.int), none)) (Nat.ble k 243) k) (Nat.ble k 245) k) (Nat.ble k 248) k) (Nat.ble k 254) k) (Nat.ble k 266) k) (fun k => @Bool.rec (fun _ => Nat → ex_I) (fun k => @Bool.rec (fun _ => Nat → ex_I) (fun k => @Bool.rec (fun _ => Nat → ex_I) (fun k => @Bool.rec (fun _ => Nat → ex_I) (fun k => @Bool.rec (fun _ => Nat → ex_I) (fun k => @Bool.rec (fun _ => Nat → ex_I) (fun _ => (⟨"CallerhallModel", "rounds", "(LCallerhallModel$Floor;III)V"⟩, prog_14_method_66_code, 11, (Option.none : Option Jvm.ClassFile.FieldType), none)) (fun _ => (⟨"CallerhallModel", "goes", "(LCallerhallModel$Floor;III)V"⟩, prog_14_method_65_code, 4, (Option.none : Option Jvm.ClassFile.FieldType), none)) (Nat.ble k 241) k) (fun _ => (⟨"CallerhallModel", "takes", "(LCallerhallModel$Floor;II)V"⟩, prog_14_method_64_code, 5, (Option.none : Option Jvm.ClassFile.FieldType), none)) (Nat.ble k 240) k) (fun k => @Bool.rec (fun _ => Nat → ex_I) (fun k => @Bool.rec (fun _ => Nat → ex_I) (fun _ => (⟨"CallerhallModel", "counts", "(LCallerhallModel$Floor;II)V"⟩, prog_14_method_63_code, 4, (Option.none : Option Jvm.ClassFile.FieldType), none)) (fun _ => (⟨"CallerhallModel", "turns", "(LCallerhallModel$Floor;II)V"⟩, prog_14_method_62_code, 4, (Option.none : Option Jvm.ClassFile.FieldType), none)) (Nat.ble k 238) k) (fun _ => (⟨"CallerhallModel", "boxes", "(LCallerhallModel$Floor;[Z)[[I"⟩, prog_14_method_61_code, 10, (Option.some (Jvm.ClassFile.FieldType.array (Jvm.ClassFile.FieldType.array Jvm.ClassFile.FieldType.int))), none)) (Nat.ble k 237) k) (Nat.ble k 239) k) (fun k => @Bool.rec (fun _ => Nat → ex_I) (fun k => @Bool.rec (fun _ => Nat → ex_I) (fun k => @Bool.rec (fun _ => Nat → ex_I) (fun _ => (⟨"CallerhallModel", "kindOf", "(LCallerhallModel$Floor;II)C"⟩, prog_14_method_60_code, 4, (Option.some Jvm.ClassFile.FieldType.char), none)) (fun _ => (⟨"CallerhallModel", "columns", "(LCallerhallModel$Floor;)[I"⟩, prog_14_method_59_code, 1, (Option.some (Jvm.ClassFile.FieldType.array Jvm.ClassFile.FieldType.int)), none)) (Nat.ble k 235) k) (fun _ => (⟨"CallerhallModel", "rows", "(LCallerhallModel$Floor;[ZIZ)[I"⟩, prog_14_method_58_code, 4, (Option.some (Jvm.ClassFile.FieldType.array Jvm.ClassFile.FieldType.int)), none)) (Nat.ble k 234) k) (fun k => @Bool.rec (fun _ => Nat → ex_I) (fun k => @Bool.rec (fun _ => Nat → ex_I) (fun _ => (⟨"CallerhallModel", "chains", "(LCallerhallModel$Floor;[ZIZZ)[I"⟩, prog_14_method_57_code, 12, (Option.some (Jvm.ClassFile.FieldType.array Jvm.ClassFile.FieldType.int)), none)) (fun _ => (⟨"CallerhallModel", "next", "(LCallerhallModel$Floor;[ZIIIZZ)I"⟩, prog_14_method_56_code, 10, (Option.some Jvm.ClassFile.FieldType.int), none)) (Nat.ble k 232) k) (fun _ => (⟨"CallerhallModel", "facing", "(LCallerhallModel$Floor;[ZI)[I"⟩, prog_14_method_55_code, 7, (Option.some (Jvm.ClassFile.FieldType.array Jvm.ClassFile.FieldType.int)), none)) (Nat.ble k 231) k) (Nat.ble k 233) k) (Nat.ble k 236) k) (fun k => @Bool.rec (fun _ => Nat → ex_I) (fun k => @Bool.rec (fun _ => Nat → ex_I) (fun k => @Bool.rec (fun _ => Nat → ex_I) (fun k => @Bool.rec (fun _ => Nat → ex_I) (fun _ => (⟨"CallerhallModel", "together", "(LCallerhallModel$Floor;II)Z"⟩, prog_14_method_54_code, 4, (Option.some Jvm.ClassFile.FieldType.boolean), none)) (fun _ => (⟨"CallerhallModel", "parts", "(LCallerhallModel$Floor;)Z"⟩, prog_14_method_53_code, 8, (Option.some Jvm.ClassFile.FieldType.boolean), none)) (Nat.ble k 229) k) (fun _ => (⟨"CallerhallModel", "lay", "(LCallerhallModel$Floor;IIII)V"⟩, prog_14_method_52_code, 5, (Option.none : Option Jvm.ClassFile.FieldType), none)) (Nat.ble k 228) k) (fun k => @Bool.rec (fun _ => Nat → ex_I) (fun k => @Bool.rec (fun _ => Nat → ex_I) (fun _ => (⟨"CallerhallModel", "lower", "(LCallerhallModel$Floor;)Z"⟩, prog_14_method_51_code, 9, (Option.some Jvm.ClassFile.FieldType.boolean), none)) (fun _ => (⟨"CallerhallModel", "everybody", "(LCallerhallModel$Floor;)[Z"⟩, prog_14_method_50_code, 3, (Option.some (Jvm.ClassFile.FieldType.array Jvm.ClassFile.FieldType.boolean)), none)) (Nat.ble k 226) k) (fun _ => (⟨"CallerhallModel", "units", "(LCallerhallModel$Floor;C)LCallerhallModel$Floor;"⟩, prog_14_method_49_code, 14, (Option.some (Jvm.ClassFile.FieldType.object "CallerhallModel$Floor")), none)) (Nat.ble k 225) k) (Nat.ble k 227) k) (fun k => @Bool.rec (fun _ => Nat → ex_I) (fun k => @Bool.rec (fun _ => Nat → ex_I) (fun k => @Bool.rec (fun _ => Nat → ex_I) (fun _ => (⟨"CallerhallModel", "raise", "(LCallerhallModel$Floor;C)LCallerhallModel$Floor;"⟩, prog_14_method_48_code, 7, (Option.some (Jvm.ClassFile.FieldType.object "CallerhallModel$Floor")), none)) (fun _ => (⟨"CallerhallModel", "isUnits", "(C)Z"⟩, prog_14_method_47_code, 1, (Option.some Jvm.ClassFile.FieldType.boolean), none)) (Nat.ble k 223) k) (fun _ => (⟨"CallerhallModel", "ground", "([I)LCallerhallModel$Floor;"⟩, prog_14_method_46_code, 4, (Option.some (Jvm.ClassFile.FieldType.object "CallerhallModel$Floor")), none)) (Nat.ble k 222) k) (fun k => @Bool.rec (fun _ => Nat → ex_I) (fun k => @Bool.rec (fun _ => Nat → ex_I) (fun _ => (⟨"CallerhallModel", "among", "(LCallerhallModel$Floor;C)[Z"⟩, prog_14_method_45_code, 11, (Option.some (Jvm.ClassFile.FieldType.array Jvm.ClassFile.FieldType.boolean)), none)) (fun _ => (⟨"CallerhallModel", "isOf", "(LCallerhallModel$Floor;IC)Z"⟩, prog_14_method_44_code, 5, (Option.some Jvm.ClassFile.FieldType.boolean), none)) (Nat.ble k 220) k) (fun _ => (⟨"CallerhallModel", "skillOf", "(LCallerhallModel$Floor;I)I"⟩, prog_14_method_43_code, 3, (Option.some Jvm.ClassFile.FieldType.int), none)) (Nat.ble k 219) k) (Nat.ble k 221) k) (Nat.ble k 224) k) (Nat.ble k 230) k) (fun k => @Bool.rec (fun _ => Nat → ex_I) (fun k => @Bool.rec (fun _ => Nat → ex_I) (fun k => @Bool.rec (fun _ => Nat → ex_I) (fun k => @Bool.rec (fun _ => Nat → ex_I) (fun k => @Bool.rec (fun _ => Nat → ex_I) (fun _ => (⟨"CallerhallModel", "levelOf", "(C)I"⟩, prog_14_method_42_code, 2, (Option.some Jvm.ClassFile.FieldType.int), none)) (fun _ => (⟨"CallerhallModel", "beatsOf", "(C)I"⟩, prog_14_method_41_code, 2, (Option.some Jvm.ClassFile.FieldType.int), none)) (Nat.ble k 217) k) (fun _ => (⟨"CallerhallModel", "parts", "(C)I"⟩, prog_14_method_40_code, 2, (Option.some Jvm.ClassFile.FieldType.int), none)) (Nat.ble k 216) k) (fun k => @Bool.rec (fun _ => Nat → ex_I) (fun k => @Bool.rec (fun _ => Nat → ex_I) (fun _ => (⟨"CallerhallModel", "noCall", "(C)Z"⟩, prog_14_method_39_code, 2, (Option.some Jvm.ClassFile.FieldType.boolean), none)) (fun _ => (⟨"CallerhallModel", "callOf", "(CCC)LCallerhallModel$Call;"⟩, prog_14_method_38_code, 6, (Option.some (Jvm.ClassFile.FieldType.object "CallerhallModel$Call")), none)) (Nat.ble k 214) k) (fun _ => (⟨"CallerhallModel", "holding", "(C)LCallerhallModel$Version;"⟩, prog_14_method_37_code, 5, (Option.some (Jvm.ClassFile.FieldType.object "CallerhallModel$Version")), none)) (Nat.ble k 213) k) (Nat.ble k 215) k) (fun k => @Bool.rec (fun _ => Nat → ex_I) (fun k => @Bool.rec (fun _ => Nat → ex_I) (fun k => @Bool.rec (fun _ => Nat → ex_I) (fun _ => (⟨"CallerhallModel", "timing", "(CII)I"⟩, prog_14_method_36_code, 6, (Option.some Jvm.ClassFile.FieldType.int), none)) (fun _ => (⟨"CallerhallModel", "beatsIn", "(LCallerhallModel$Version;)I"⟩, prog_14_method_35_code, 1, (Option.some Jvm.ClassFile.FieldType.int), none)) (Nat.ble k 211) k) (fun _ => (⟨"CallerhallModel", "partsOf", "(Ljava/util/List;)I"⟩, prog_14_method_34_code, 4, (Option.some Jvm.ClassFile.FieldType.int), none)) (Nat.ble k 210) k) (fun k => @Bool.rec (fun _ => Nat → ex_I) (fun k => @Bool.rec (fun _ => Nat → ex_I) (fun _ => (⟨"CallerhallModel", "forget", "(C)I"⟩, prog_14_method_33_code, 3, (Option.some Jvm.ClassFile.FieldType.int), none)) (fun _ => (⟨"CallerhallModel", "define", "(CICCC)I"⟩, prog_14_method_32_code, 7, (Option.some Jvm.ClassFile.FieldType.int), none)) (Nat.ble k 208) k) (fun _ => (⟨"CallerhallModel", "isAct", "(CCC)Z"⟩, prog_14_method_31_code, 3, (Option.some Jvm.ClassFile.FieldType.boolean), none)) (Nat.ble k 207) k) (Nat.ble k 209) k) (Nat.ble k 212) k) (fun k => @Bool.rec (fun _ => Nat → ex_I) (fun k => @Bool.rec (fun _ => Nat → ex_I) (fun k => @Bool.rec (fun _ => Nat → ex_I) (fun k => @Bool.rec (fun _ => Nat → ex_I) (fun _ => (⟨"CallerhallModel", "of", "(CI)LCallerhallModel$Version;"⟩, prog_14_method_30_code, 5, (Option.some (Jvm.ClassFile.FieldType.object "CallerhallModel$Version")), none)) (fun _ => (⟨"CallerhallModel", "isLetter", "(C)Z"⟩, prog_14_method_29_code, 1, (Option.some Jvm.ClassFile.FieldType.boolean), none)) (Nat.ble k 205) k) (fun _ => (⟨"CallerhallModel", "year", "(I)I"⟩, prog_14_method_28_code, 3, (Option.some Jvm.ClassFile.FieldType.int), none)) (Nat.ble k 204) k) (fun k => @Bool.rec (fun _ => Nat → ex_I) (fun k => @Bool.rec (fun _ => Nat → ex_I) (fun _ => (⟨"CallerhallModel", "level", "(I)I"⟩, prog_14_method_27_code, 3, (Option.some Jvm.ClassFile.FieldType.int), none)) (fun _ => (⟨"CallerhallModel", "clearPhantoms", "()I"⟩, prog_14_method_26_code, 2, (Option.some Jvm.ClassFile.FieldType.int), none)) (Nat.ble k 202) k) (fun _ => (⟨"CallerhallModel", "phantom", "(III)I"⟩, prog_14_method_25_code, 7, (Option.some Jvm.ClassFile.FieldType.int), none)) (Nat.ble k 201) k) (Nat.ble k 203) k) (fun k => @Bool.rec (fun _ => Nat → ex_I) (fun k => @Bool.rec (fun _ => Nat → ex_I) (fun k => @Bool.rec (fun _ => Nat → ex_I) (fun _ => (⟨"CallerhallModel", "skill", "(II)I"⟩, prog_14_method_24_code, 4, (Option.some Jvm.ClassFile.FieldType.int), none)) (fun _ => (⟨"CallerhallModel", "find", "(II)I"⟩, prog_14_method_23_code, 4, (Option.some Jvm.ClassFile.FieldType.int), none)) (Nat.ble k 199) k) (fun _ => (⟨"CallerhallModel", "turnAll", "(I)I"⟩, prog_14_method_22_code, 2, (Option.some Jvm.ClassFile.FieldType.int), none)) (Nat.ble k 198) k) (fun k => @Bool.rec (fun _ => Nat → ex_I) (fun k => @Bool.rec (fun _ => Nat → ex_I) (fun _ => (⟨"CallerhallModel", "change", "(II)I"⟩, prog_14_method_21_code, 6, (Option.some Jvm.ClassFile.FieldType.int), none)) (fun _ => (⟨"CallerhallModel", "put", "(IIII)I"⟩, prog_14_method_20_code, 7, (Option.some Jvm.ClassFile.FieldType.int), none)) (Nat.ble k 196) k) (fun _ => (⟨"CallerhallModel", "isPlace", "(III)Z"⟩, prog_14_method_19_code, 3, (Option.some Jvm.ClassFile.FieldType.boolean), none)) (Nat.ble k 195) k) (Nat.ble k 197) k) (Nat.ble k 200) k) (Nat.ble k 206) k) (Nat.ble k 218) k) (Nat.ble k 242) k) (Nat.ble k 291) k) (fun k => @Bool.rec (fun _ => Nat → ex_I) (fun k => @Bool.rec (fun _ => Nat → ex_I) (fun k => @Bool.rec (fun _ => Nat → ex_I) (fun k => @Bool.rec (fun _ => Nat → ex_I) (fun k => @Bool.rec (fun _ => Nat → ex_I) (fun k => @Bool.rec (fun _ => Nat → ex_I) (fun k => @Bool.rec (fun _ => Nat → ex_I) (fun k => @Bool.rec (fun _ => Nat → ex_I) (fun _ => (⟨"CallerhallModel", "dancerAt", "(II)I"⟩, prog_14_method_18_code, 4, (Option.some Jvm.ClassFile.FieldType.int), none)) (fun _ => (⟨"CallerhallModel", "facing", "(I)I"⟩, prog_14_method_17_code, 2, (Option.some Jvm.ClassFile.FieldType.int), none)) (Nat.ble k 193) k) (fun k => @Bool.rec (fun _ => Nat → ex_I) (fun _ => (⟨"CallerhallModel", "y", "(I)I"⟩, prog_14_method_16_code, 2, (Option.some Jvm.ClassFile.FieldType.int), none)) (fun _ => (⟨"CallerhallModel", "x", "(I)I"⟩, prog_14_method_15_code, 2, (Option.some Jvm.ClassFile.FieldType.int), none)) (Nat.ble k 191) k) (Nat.ble k 192) k) (fun k => @Bool.rec (fun _ => Nat → ex_I) (fun k => @Bool.rec (fun _ => Nat → ex_I) (fun _ => (⟨"CallerhallModel", "home", "()I"⟩, prog_14_method_14_code, 5, (Option.some Jvm.ClassFile.FieldType.int), none)) (fun _ => (⟨"CallerhallModel", "tells", "()V"⟩, prog_14_method_13_code, 1, (Option.none : Option Jvm.ClassFile.FieldType), none)) (Nat.ble k 189) k) (fun _ => (⟨"CallerhallModel", "allHome", "([I)Z"⟩, prog_14_method_12_code, 4, (Option.some Jvm.ClassFile.FieldType.boolean), none)) (Nat.ble k 188) k) (Nat.ble k 190) k) (fun k => @Bool.rec (fun _ => Nat → ex_I) (fun k => @Bool.rec (fun _ => Nat → ex_I) (fun k => @Bool.rec (fun _ => Nat → ex_I) (fun _ => (⟨"CallerhallModel", "same", "([I[I)Z"⟩, prog_14_method_11_code, 4, (Option.some Jvm.ClassFile.FieldType.boolean), none)) (fun _ => (⟨"CallerhallModel", "turn", "([II)[I"⟩, prog_14_method_10_code, 6, (Option.some (Jvm.ClassFile.FieldType.array Jvm.ClassFile.FieldType.int)), none)) (Nat.ble k 186) k) (fun _ => (⟨"CallerhallModel", "row", "()[I"⟩, prog_14_method_9_code, 3, (Option.some (Jvm.ClassFile.FieldType.array Jvm.ClassFile.FieldType.int)), none)) (Nat.ble k 185) k) (fun k => @Bool.rec (fun _ => Nat → ex_I) (fun k => @Bool.rec (fun _ => Nat → ex_I) (fun _ => (⟨"CallerhallModel", "puts", "([I)V"⟩, prog_14_method_8_code, 3, (Option.none : Option Jvm.ClassFile.FieldType), none)) (fun _ => (⟨"CallerhallModel", "homes", "()[I"⟩, prog_14_method_7_code, 8, (Option.some (Jvm.ClassFile.FieldType.array Jvm.ClassFile.FieldType.int)), none)) (Nat.ble k 183) k) (fun _ => (⟨"CallerhallModel", "noDancer", "(I)Z"⟩, prog_14_method_6_code, 2, (Option.some Jvm.ClassFile.FieldType.boolean), none)) (Nat.ble k 182) k) (Nat.ble k 184) k) (Nat.ble k 187) k) (fun k => @Bool.rec (fun _ => Nat → ex_I) (fun k => @Bool.rec (fun _ => Nat → ex_I) (fun k => @Bool.rec (fun _ => Nat → ex_I) (fun k => @Bool.rec (fun _ => Nat → ex_I) (fun _ => (⟨"CallerhallModel", "no", "(ZI)Z"⟩, prog_14_method_5_code, 3, (Option.some Jvm.ClassFile.FieldType.boolean), none)) (fun _ => (⟨"CallerhallModel", "isIn", "(JJJ)Z"⟩, prog_14_method_4_code, 6, (Option.some Jvm.ClassFile.FieldType.boolean), none)) (Nat.ble k 180) k) (fun _ => (⟨"CallerhallModel", "refuse", "(I)I"⟩, prog_14_method_3_code, 2, (Option.some Jvm.ClassFile.FieldType.int), none)) (Nat.ble k 179) k) (fun k => @Bool.rec (fun _ => Nat → ex_I) (fun k => @Bool.rec (fun _ => Nat → ex_I) (fun _ => (⟨"CallerhallModel", "thrown", "()I"⟩, prog_14_method_2_code, 1, (Option.some Jvm.ClassFile.FieldType.int), none)) (fun _ => (⟨"CallerhallModel", "<init>", "()V"⟩, prog_14_method_1_code, 2, (Option.none : Option Jvm.ClassFile.FieldType), none)) (Nat.ble k 177) k) (fun _ => (⟨"CallerhallModel$Version", "<init>", "(I)V"⟩, prog_17_method_1_code, 2, (Option.none : Option Jvm.ClassFile.FieldType), none)) (Nat.ble k 176) k) (Nat.ble k 178) k) (fun k => @Bool.rec (fun _ => Nat → ex_I) (fun k => @Bool.rec (fun _ => Nat → ex_I) (fun k => @Bool.rec (fun _ => Nat → ex_I) (fun _ => (⟨"CallerhallModel$Floor", "at", "(II)I"⟩, prog_16_method_2_code, 4, (Option.some Jvm.ClassFile.FieldType.int), none)) (fun _ => (⟨"CallerhallModel$Floor", "<init>", "(LCallerhallModel$Floor;I)V"⟩, prog_16_method_1_code, 3, (Option.none : Option Jvm.ClassFile.FieldType), none)) (Nat.ble k 174) k) (fun _ => (⟨"CallerhallModel$Call", "level", "()I"⟩, prog_15_method_3_code, 4, (Option.some Jvm.ClassFile.FieldType.int), none)) (Nat.ble k 173) k) (fun k => @Bool.rec (fun _ => Nat → ex_I) (fun k => @Bool.rec (fun _ => Nat → ex_I) (fun _ => (⟨"CallerhallModel$Call", "parts", "()I"⟩, prog_15_method_2_code, 4, (Option.some Jvm.ClassFile.FieldType.int), none)) (fun _ => (⟨"CallerhallModel$Call", "<init>", "(CC)V"⟩, prog_15_method_1_code, 3, (Option.none : Option Jvm.ClassFile.FieldType), none)) (Nat.ble k 171) k) (fun _ => (⟨"Callerhall", "turnedY", "(III)I"⟩, prog_1_method_77_code, 3, (Option.some Jvm.ClassFile.FieldType.int), none)) (Nat.ble k 170) k) (Nat.ble k 172) k) (Nat.ble k 175) k) (Nat.ble k 181) k) (fun k => @Bool.rec (fun _ => Nat → ex_I) (fun k => @Bool.rec (fun _ => Nat → ex_I) (fun k => @Bool.rec (fun _ => Nat → ex_I) (fun k => @Bool.rec (fun _ => Nat → ex_I) (fun k => @Bool.rec (fun _ => Nat → ex_I) (fun _ => (⟨"Callerhall", "turnedX", "(III)I"⟩, prog_1_method_76_code, 3, (Option.some Jvm.ClassFile.FieldType.int), none)) (fun _ => (⟨"Callerhall", "isInShape", "(III)Z"⟩, prog_1_method_75_code, 9, (Option.some Jvm.ClassFile.FieldType.boolean), none)) (Nat.ble k 168) k) (fun _ => (⟨"Callerhall", "countOutside", "(I)I"⟩, prog_1_method_74_code, 6, (Option.some Jvm.ClassFile.FieldType.int), none)) (Nat.ble k 167) k) (fun k => @Bool.rec (fun _ => Nat → ex_I) (fun k => @Bool.rec (fun _ => Nat → ex_I) (fun _ => (⟨"Callerhall", "areHome", "([I[I[I)Z"⟩, prog_1_method_73_code, 8, (Option.some Jvm.ClassFile.FieldType.boolean), none)) (fun _ => (⟨"Callerhall", "countAway", "()I"⟩, prog_1_method_72_code, 4, (Option.some Jvm.ClassFile.FieldType.int), none)) (Nat.ble k 165) k) (fun _ => (⟨"Callerhall", "spotOf", "(I)I"⟩, prog_1_method_71_code, 3, (Option.some Jvm.ClassFile.FieldType.int), none)) (Nat.ble k 164) k) (Nat.ble k 166) k) (fun k => @Bool.rec (fun _ => Nat → ex_I) (fun k => @Bool.rec (fun _ => Nat → ex_I) (fun k => @Bool.rec (fun _ => Nat → ex_I) (fun _ => (⟨"Callerhall", "forgetPast", "()V"⟩, prog_1_method_70_code, 1, (Option.none : Option Jvm.ClassFile.FieldType), none)) (fun _ => (⟨"Callerhall", "putAllHome", "()V"⟩, prog_1_method_69_code, 3, (Option.none : Option Jvm.ClassFile.FieldType), none)) (Nat.ble k 162) k) (fun _ => (⟨"Callerhall", "isDoneInParts", "(I)Z"⟩, prog_1_method_68_code, 5, (Option.some Jvm.ClassFile.FieldType.boolean), none)) (Nat.ble k 161) k) (fun k => @Bool.rec (fun _ => Nat → ex_I) (fun k => @Bool.rec (fun _ => Nat → ex_I) (fun _ => (⟨"Callerhall", "findLastAct", "(LCallerhall$Places;I)Z"⟩, prog_1_method_67_code, 4, (Option.some Jvm.ClassFile.FieldType.boolean), none)) (fun _ => (⟨"Callerhall", "pairAll", "(II)V"⟩, prog_1_method_66_code, 3, (Option.none : Option Jvm.ClassFile.FieldType), none)) (Nat.ble k 159) k) (fun _ => (⟨"Callerhall", "settle", "(I)V"⟩, prog_1_method_65_code, 2, (Option.none : Option Jvm.ClassFile.FieldType), none)) (Nat.ble k 158) k) (Nat.ble k 160) k) (Nat.ble k 163) k) (fun k => @Bool.rec (fun _ => Nat → ex_I) (fun k => @Bool.rec (fun _ => Nat → ex_I) (fun k => @Bool.rec (fun _ => Nat → ex_I) (fun k => @Bool.rec (fun _ => Nat → ex_I) (fun _ => (⟨"Callerhall", "judge", "(LCallerhall$Plan;ZII)V"⟩, prog_1_method_64_code, 5, (Option.none : Option Jvm.ClassFile.FieldType), none)) (fun _ => (⟨"Callerhall", "readCall", "(C)V"⟩, prog_1_method_63_code, 4, (Option.none : Option Jvm.ClassFile.FieldType), none)) (Nat.ble k 156) k) (fun _ => (⟨"Callerhall", "indexIn", "(Ljava/lang/String;C)I"⟩, prog_1_method_62_code, 4, (Option.some Jvm.ClassFile.FieldType.int), none)) (Nat.ble k 155) k) (fun k => @Bool.rec (fun _ => Nat → ex_I) (fun k => @Bool.rec (fun _ => Nat → ex_I) (fun _ => (⟨"Callerhall", "conceptOf", "(C)I"⟩, prog_1_method_61_code, 2, (Option.some Jvm.ClassFile.FieldType.int), none)) (fun _ => (⟨"Callerhall", "whoOf", "(C)I"⟩, prog_1_method_60_code, 2, (Option.some Jvm.ClassFile.FieldType.int), none)) (Nat.ble k 153) k) (fun _ => (⟨"Callerhall", "actOf", "(C)I"⟩, prog_1_method_59_code, 2, (Option.some Jvm.ClassFile.FieldType.int), none)) (Nat.ble k 152) k) (Nat.ble k 154) k) (fun k => @Bool.rec (fun _ => Nat → ex_I) (fun k => @Bool.rec (fun _ => Nat → ex_I) (fun k => @Bool.rec (fun _ => Nat → ex_I) (fun _ => (⟨"Callerhall", "letterOf", "(C)I"⟩, prog_1_method_58_code, 2, (Option.some Jvm.ClassFile.FieldType.int), none)) (fun _ => (⟨"Callerhall", "checkCouple", "(I)V"⟩, prog_1_method_57_code, 2, (Option.none : Option Jvm.ClassFile.FieldType), none)) (Nat.ble k 150) k) (fun _ => (⟨"Callerhall", "checkYear", "(I)V"⟩, prog_1_method_56_code, 2, (Option.none : Option Jvm.ClassFile.FieldType), none)) (Nat.ble k 149) k) (fun k => @Bool.rec (fun _ => Nat → ex_I) (fun k => @Bool.rec (fun _ => Nat → ex_I) (fun _ => (⟨"Callerhall", "checkPlace", "(III)V"⟩, prog_1_method_55_code, 4, (Option.none : Option Jvm.ClassFile.FieldType), none)) (fun _ => (⟨"Callerhall", "checkDancer", "(I)V"⟩, prog_1_method_54_code, 2, (Option.none : Option Jvm.ClassFile.FieldType), none)) (Nat.ble k 147) k) (fun _ => (⟨"Callerhall", "isConsistent", "()Z"⟩, prog_1_method_53_code, 2, (Option.some Jvm.ClassFile.FieldType.boolean), none)) (Nat.ble k 146) k) (Nat.ble k 148) k) (Nat.ble k 151) k) (Nat.ble k 157) k) (Nat.ble k 169) k) (fun k => @Bool.rec (fun _ => Nat → ex_I) (fun k => @Bool.rec (fun _ => Nat → ex_I) (fun k => @Bool.rec (fun _ => Nat → ex_I) (fun k => @Bool.rec (fun _ => Nat → ex_I) (fun k => @Bool.rec (fun _ => Nat → ex_I) (fun k => @Bool.rec (fun _ => Nat → ex_I) (fun _ => (⟨"Callerhall", "meanAway", "()D"⟩, prog_1_method_52_code, 5, (Option.some Jvm.ClassFile.FieldType.double), none)) (fun _ => (⟨"Callerhall", "doneShare", "()F"⟩, prog_1_method_51_code, 1, (Option.some Jvm.ClassFile.FieldType.float), none)) (Nat.ble k 144) k) (fun k => @Bool.rec (fun _ => Nat → ex_I) (fun _ => (⟨"Callerhall", "beats", "()J"⟩, prog_1_method_50_code, 1, (Option.some Jvm.ClassFile.FieldType.long), none)) (fun _ => (⟨"Callerhall", "met", "(II)I"⟩, prog_1_method_49_code, 3, (Option.some Jvm.ClassFile.FieldType.int), none)) (Nat.ble k 142) k) (Nat.ble k 143) k) (fun k => @Bool.rec (fun _ => Nat → ex_I) (fun k => @Bool.rec (fun _ => Nat → ex_I) (fun _ => (⟨"Callerhall", "setOf", "(II)I"⟩, prog_1_method_48_code, 3, (Option.some Jvm.ClassFile.FieldType.int), none)) (fun _ => (⟨"Callerhall", "tip", "()I"⟩, prog_1_method_47_code, 1, (Option.some Jvm.ClassFile.FieldType.int), none)) (Nat.ble k 140) k) (fun _ => (⟨"Callerhall", "hall", "(I)I"⟩, prog_1_method_46_code, 3, (Option.some Jvm.ClassFile.FieldType.int), none)) (Nat.ble k 139) k) (Nat.ble k 141) k) (fun k => @Bool.rec (fun _ => Nat → ex_I) (fun k => @Bool.rec (fun _ => Nat → ex_I) (fun k => @Bool.rec (fun _ => Nat → ex_I) (fun _ => (⟨"Callerhall", "gone", "()I"⟩, prog_1_method_45_code, 1, (Option.some Jvm.ClassFile.FieldType.int), none)) (fun _ => (⟨"Callerhall", "progress", "()I"⟩, prog_1_method_44_code, 2, (Option.some Jvm.ClassFile.FieldType.int), none)) (Nat.ble k 137) k) (fun _ => (⟨"Callerhall", "sung", "()I"⟩, prog_1_method_43_code, 1, (Option.some Jvm.ClassFile.FieldType.int), none)) (Nat.ble k 136) k) (fun k => @Bool.rec (fun _ => Nat → ex_I) (fun k => @Bool.rec (fun _ => Nat → ex_I) (fun _ => (⟨"Callerhall", "sing", "(I)I"⟩, prog_1_method_42_code, 3, (Option.some Jvm.ClassFile.FieldType.int), none)) (fun _ => (⟨"Callerhall", "wayAt", "(I)C"⟩, prog_1_method_41_code, 3, (Option.some Jvm.ClassFile.FieldType.char), none)) (Nat.ble k 134) k) (fun _ => (⟨"Callerhall", "wayHome", "(I)I"⟩, prog_1_method_40_code, 3, (Option.some Jvm.ClassFile.FieldType.int), none)) (Nat.ble k 133) k) (Nat.ble k 135) k) (Nat.ble k 138) k) (fun k => @Bool.rec (fun _ => Nat → ex_I) (fun k => @Bool.rec (fun _ => Nat → ex_I) (fun k => @Bool.rec (fun _ => Nat → ex_I) (fun k => @Bool.rec (fun _ => Nat → ex_I) (fun _ => (⟨"Callerhall", "clashes", "()I"⟩, prog_1_method_39_code, 1, (Option.some Jvm.ClassFile.FieldType.int), none)) (fun _ => (⟨"Callerhall", "broken", "()I"⟩, prog_1_method_38_code, 1, (Option.some Jvm.ClassFile.FieldType.int), none)) (Nat.ble k 131) k) (fun _ => (⟨"Callerhall", "turned", "(I)I"⟩, prog_1_method_37_code, 2, (Option.some Jvm.ClassFile.FieldType.int), none)) (Nat.ble k 130) k) (fun k => @Bool.rec (fun _ => Nat → ex_I) (fun k => @Bool.rec (fun _ => Nat → ex_I) (fun _ => (⟨"Callerhall", "isSymmetric", "()Z"⟩, prog_1_method_36_code, 3, (Option.some Jvm.ClassFile.FieldType.boolean), none)) (fun _ => (⟨"Callerhall", "isHome", "()Z"⟩, prog_1_method_35_code, 1, (Option.some Jvm.ClassFile.FieldType.boolean), none)) (Nat.ble k 128) k) (fun _ => (⟨"Callerhall", "repairs", "(C)I"⟩, prog_1_method_34_code, 3, (Option.some Jvm.ClassFile.FieldType.int), none)) (Nat.ble k 127) k) (Nat.ble k 129) k) (fun k => @Bool.rec (fun _ => Nat → ex_I) (fun k => @Bool.rec (fun _ => Nat → ex_I) (fun k => @Bool.rec (fun _ => Nat → ex_I) (fun _ => (⟨"Callerhall", "formation", "()C"⟩, prog_1_method_33_code, 2, (Option.some Jvm.ClassFile.FieldType.char), none)) (fun _ => (⟨"Callerhall", "pair", "(I)C"⟩, prog_1_method_32_code, 3, (Option.some Jvm.ClassFile.FieldType.char), none)) (Nat.ble k 125) k) (fun _ => (⟨"Callerhall", "partner", "(IZI)I"⟩, prog_1_method_31_code, 5, (Option.some Jvm.ClassFile.FieldType.int), none)) (Nat.ble k 124) k) (fun k => @Bool.rec (fun _ => Nat → ex_I) (fun k => @Bool.rec (fun _ => Nat → ex_I) (fun _ => (⟨"Callerhall", "isAmong", "(IC)Z"⟩, prog_1_method_30_code, 4, (Option.some Jvm.ClassFile.FieldType.boolean), none)) (fun _ => (⟨"Callerhall", "callAt", "(I)C"⟩, prog_1_method_29_code, 2, (Option.some Jvm.ClassFile.FieldType.char), none)) (Nat.ble k 122) k) (fun _ => (⟨"Callerhall", "calls", "()I"⟩, prog_1_method_28_code, 1, (Option.some Jvm.ClassFile.FieldType.int), none)) (Nat.ble k 121) k) (Nat.ble k 123) k) (Nat.ble k 126) k) (Nat.ble k 132) k) (fun k => @Bool.rec (fun _ => Nat → ex_I) (fun k => @Bool.rec (fun _ => Nat → ex_I) (fun k => @Bool.rec (fun _ => Nat → ex_I) (fun k => @Bool.rec (fun _ => Nat → ex_I) (fun k => @Bool.rec (fun _ => Nat → ex_I) (fun _ => (⟨"Callerhall", "back", "()I"⟩, prog_1_method_27_code, 1, (Option.some Jvm.ClassFile.FieldType.int), none)) (fun _ => (⟨"Callerhall", "fits", "(CCC)Z"⟩, prog_1_method_26_code, 7, (Option.some Jvm.ClassFile.FieldType.boolean), none)) (Nat.ble k 119) k) (fun _ => (⟨"Callerhall", "whom", "()I"⟩, prog_1_method_25_code, 1, (Option.some Jvm.ClassFile.FieldType.int), none)) (Nat.ble k 118) k) (fun k => @Bool.rec (fun _ => Nat → ex_I) (fun k => @Bool.rec (fun _ => Nat → ex_I) (fun _ => (⟨"Callerhall", "why", "()C"⟩, prog_1_method_24_code, 1, (Option.some Jvm.ClassFile.FieldType.char), none)) (fun _ => (⟨"Callerhall", "left", "()I"⟩, prog_1_method_23_code, 1, (Option.some Jvm.ClassFile.FieldType.int), none)) (Nat.ble k 116) k) (fun _ => (⟨"Callerhall", "finish", "()I"⟩, prog_1_method_22_code, 2, (Option.some Jvm.ClassFile.FieldType.int), none)) (Nat.ble k 115) k) (Nat.ble k 117) k) (fun k => @Bool.rec (fun _ => Nat → ex_I) (fun k => @Bool.rec (fun _ => Nat → ex_I) (fun k => @Bool.rec (fun _ => Nat → ex_I) (fun _ => (⟨"Callerhall", "dance", "(CCCII)I"⟩, prog_1_method_21_code, 10, (Option.some Jvm.ClassFile.FieldType.int), none)) (fun _ => (⟨"Callerhall", "levelOf", "(C)I"⟩, prog_1_method_20_code, 2, (Option.some Jvm.ClassFile.FieldType.int), none)) (Nat.ble k 113) k) (fun _ => (⟨"Callerhall", "beatsOf", "(C)I"⟩, prog_1_method_19_code, 2, (Option.some Jvm.ClassFile.FieldType.int), none)) (Nat.ble k 112) k) (fun k => @Bool.rec (fun _ => Nat → ex_I) (fun k => @Bool.rec (fun _ => Nat → ex_I) (fun _ => (⟨"Callerhall", "parts", "(C)I"⟩, prog_1_method_18_code, 2, (Option.some Jvm.ClassFile.FieldType.int), none)) (fun _ => (⟨"Callerhall", "timing", "(CII)I"⟩, prog_1_method_17_code, 6, (Option.some Jvm.ClassFile.FieldType.int), none)) (Nat.ble k 110) k) (fun _ => (⟨"Callerhall", "forget", "(C)I"⟩, prog_1_method_16_code, 3, (Option.some Jvm.ClassFile.FieldType.int), none)) (Nat.ble k 109) k) (Nat.ble k 111) k) (Nat.ble k 114) k) (fun k => @Bool.rec (fun _ => Nat → ex_I) (fun k => @Bool.rec (fun _ => Nat → ex_I) (fun k => @Bool.rec (fun _ => Nat → ex_I) (fun k => @Bool.rec (fun _ => Nat → ex_I) (fun _ => (⟨"Callerhall", "define", "(CICCC)I"⟩, prog_1_method_15_code, 10, (Option.some Jvm.ClassFile.FieldType.int), none)) (fun _ => (⟨"Callerhall", "year", "(I)I"⟩, prog_1_method_14_code, 3, (Option.some Jvm.ClassFile.FieldType.int), none)) (Nat.ble k 107) k) (fun _ => (⟨"Callerhall", "level", "(I)I"⟩, prog_1_method_13_code, 3, (Option.some Jvm.ClassFile.FieldType.int), none)) (Nat.ble k 106) k) (fun k => @Bool.rec (fun _ => Nat → ex_I) (fun k => @Bool.rec (fun _ => Nat → ex_I) (fun _ => (⟨"Callerhall", "clearPhantoms", "()I"⟩, prog_1_method_12_code, 2, (Option.some Jvm.ClassFile.FieldType.int), none)) (fun _ => (⟨"Callerhall", "phantom", "(III)I"⟩, prog_1_method_11_code, 4, (Option.some Jvm.ClassFile.FieldType.int), none)) (Nat.ble k 104) k) (fun _ => (⟨"Callerhall", "skill", "(II)I"⟩, prog_1_method_10_code, 4, (Option.some Jvm.ClassFile.FieldType.int), none)) (Nat.ble k 103) k) (Nat.ble k 105) k) (fun k => @Bool.rec (fun _ => Nat → ex_I) (fun k => @Bool.rec (fun _ => Nat → ex_I) (fun k => @Bool.rec (fun _ => Nat → ex_I) (fun _ => (⟨"Callerhall", "find", "(II)I"⟩, prog_1_method_9_code, 4, (Option.some Jvm.ClassFile.FieldType.int), none)) (fun _ => (⟨"Callerhall", "turnAll", "(I)I"⟩, prog_1_method_8_code, 5, (Option.some Jvm.ClassFile.FieldType.int), none)) (Nat.ble k 101) k) (fun _ => (⟨"Callerhall", "change", "(II)I"⟩, prog_1_method_7_code, 7, (Option.some Jvm.ClassFile.FieldType.int), none)) (Nat.ble k 100) k) (fun k => @Bool.rec (fun _ => Nat → ex_I) (fun k => @Bool.rec (fun _ => Nat → ex_I) (fun _ => (⟨"Callerhall", "put", "(IIII)I"⟩, prog_1_method_6_code, 7, (Option.some Jvm.ClassFile.FieldType.int), none)) (fun _ => (⟨"Callerhall", "facing", "(I)I"⟩, prog_1_method_5_code, 2, (Option.some Jvm.ClassFile.FieldType.int), none)) (Nat.ble k 98) k) (fun _ => (⟨"Callerhall", "y", "(I)I"⟩, prog_1_method_4_code, 2, (Option.some Jvm.ClassFile.FieldType.int), none)) (Nat.ble k 97) k) (Nat.ble k 99) k) (Nat.ble k 102) k) (Nat.ble k 108) k) (Nat.ble k 120) k) (Nat.ble k 145) k) (fun k => @Bool.rec (fun _ => Nat → ex_I) (fun k => @Bool.rec (fun _ => Nat → ex_I) (fun k => @Bool.rec (fun _ => Nat → ex_I) (fun k => @Bool.rec (fun _ => Nat → ex_I) (fun k => @Bool.rec (fun _ => Nat → ex_I) (fun k => @Bool.rec (fun _ => Nat → ex_I) (fun k => @Bool.rec (fun _ => Nat → ex_I) (fun _ => (⟨"Callerhall", "x", "(I)I"⟩, prog_1_method_3_code, 2, (Option.some Jvm.ClassFile.FieldType.int), none)) (fun _ => (⟨"Callerhall", "home", "()I"⟩, prog_1_method_2_code, 2, (Option.some Jvm.ClassFile.FieldType.int), none)) (Nat.ble k 95) k) (fun k => @Bool.rec (fun _ => Nat → ex_I) (fun _ => (⟨"Callerhall", "<init>", "()V"⟩, prog_1_method_1_code, 2, (Option.none : Option Jvm.ClassFile.FieldType), none)) (fun _ => (⟨"Callerhall$Tally", "<init>", "()V"⟩, prog_12_method_1_code, 1, (Option.none : Option Jvm.ClassFile.FieldType), none)) (Nat.ble k 93) k) (Nat.ble k 94) k) (fun k => @Bool.rec (fun _ => Nat → ex_I) (fun k => @Bool.rec (fun _ => Nat → ex_I) (fun _ => (⟨"Callerhall$Steps", "stepPair", "(LCallerhall$Floor;II)V"⟩, prog_11_method_25_code, 8, (Option.none : Option Jvm.ClassFile.FieldType), none)) (fun _ => (⟨"Callerhall$Steps", "isInBox", "(LCallerhall$Floor;II)Z"⟩, prog_11_method_24_code, 7, (Option.some Jvm.ClassFile.FieldType.boolean), none)) (Nat.ble k 91) k) (fun _ => (⟨"Callerhall$Steps", "stepInBox", "(LCallerhall$Floor;I)V"⟩, prog_11_method_23_code, 3, (Option.none : Option Jvm.ClassFile.FieldType), none)) (Nat.ble k 90) k) (Nat.ble k 92) k) (fun k => @Bool.rec (fun _ => Nat → ex_I) (fun k => @Bool.rec (fun _ => Nat → ex_I) (fun k => @Bool.rec (fun _ => Nat → ex_I) (fun _ => (⟨"Callerhall$Steps", "stepFacing", "(LCallerhall$Floor;II)V"⟩, prog_11_method_22_code, 4, (Option.none : Option Jvm.ClassFile.FieldType), none)) (fun _ => (⟨"Callerhall$Steps", "stepAlone", "(LCallerhall$Floor;II)V"⟩, prog_11_method_21_code, 4, (Option.none : Option Jvm.ClassFile.FieldType), none)) (Nat.ble k 88) k) (fun _ => (⟨"Callerhall$Steps", "step", "(LCallerhall$Floor;II)V"⟩, prog_11_method_20_code, 5, (Option.none : Option Jvm.ClassFile.FieldType), none)) (Nat.ble k 87) k) (fun k => @Bool.rec (fun _ => Nat → ex_I) (fun k => @Bool.rec (fun _ => Nat → ex_I) (fun _ => (⟨"Callerhall$Steps", "takeHands", "(LCallerhall$Floor;I)V"⟩, prog_11_method_19_code, 4, (Option.none : Option Jvm.ClassFile.FieldType), none)) (fun _ => (⟨"Callerhall$Steps", "hasItsOwn", "(II)Z"⟩, prog_11_method_18_code, 4, (Option.some Jvm.ClassFile.FieldType.boolean), none)) (Nat.ble k 85) k) (fun _ => (⟨"Callerhall$Steps", "findMisfit", "(LCallerhall$Floor;I)I"⟩, prog_11_method_17_code, 5, (Option.some Jvm.ClassFile.FieldType.int), none)) (Nat.ble k 84) k) (Nat.ble k 86) k) (Nat.ble k 89) k) (fun k => @Bool.rec (fun _ => Nat → ex_I) (fun k => @Bool.rec (fun _ => Nat → ex_I) (fun k => @Bool.rec (fun _ => Nat → ex_I) (fun k => @Bool.rec (fun _ => Nat → ex_I) (fun _ => (⟨"Callerhall$Steps", "putInBox", "(LCallerhall$Floor;II)V"⟩, prog_11_method_16_code, 4, (Option.none : Option Jvm.ClassFile.FieldType), none)) (fun _ => (⟨"Callerhall$Steps", "findCorner", "(LCallerhall$Floor;III)I"⟩, prog_11_method_15_code, 7, (Option.some Jvm.ClassFile.FieldType.int), none)) (Nat.ble k 82) k) (fun _ => (⟨"Callerhall$Steps", "isFree", "(I)Z"⟩, prog_11_method_14_code, 2, (Option.some Jvm.ClassFile.FieldType.boolean), none)) (Nat.ble k 81) k) (fun k => @Bool.rec (fun _ => Nat → ex_I) (fun k => @Bool.rec (fun _ => Nat → ex_I) (fun _ => (⟨"Callerhall$Steps", "findBoxes", "(LCallerhall$Floor;)V"⟩, prog_11_method_13_code, 7, (Option.none : Option Jvm.ClassFile.FieldType), none)) (fun _ => (⟨"Callerhall$Steps", "findColumns", "(LCallerhall$Floor;)V"⟩, prog_11_method_12_code, 9, (Option.none : Option Jvm.ClassFile.FieldType), none)) (Nat.ble k 79) k) (fun _ => (⟨"Callerhall$Steps", "pairForUnits", "(LCallerhall$Floor;Z)V"⟩, prog_11_method_11_code, 3, (Option.none : Option Jvm.ClassFile.FieldType), none)) (Nat.ble k 78) k) (Nat.ble k 80) k) (fun k => @Bool.rec (fun _ => Nat → ex_I) (fun k => @Bool.rec (fun _ => Nat → ex_I) (fun k => @Bool.rec (fun _ => Nat → ex_I) (fun _ => (⟨"Callerhall$Steps", "findBeside", "(LCallerhall$Floor;IZ)I"⟩, prog_11_method_10_code, 9, (Option.some Jvm.ClassFile.FieldType.int), none)) (fun _ => (⟨"Callerhall$Steps", "findRows", "(LCallerhall$Floor;Z)V"⟩, prog_11_method_9_code, 6, (Option.none : Option Jvm.ClassFile.FieldType), none)) (Nat.ble k 76) k) (fun _ => (⟨"Callerhall$Steps", "findFaces", "(LCallerhall$Floor;)V"⟩, prog_11_method_8_code, 8, (Option.none : Option Jvm.ClassFile.FieldType), none)) (Nat.ble k 75) k) (fun k => @Bool.rec (fun _ => Nat → ex_I) (fun k => @Bool.rec (fun _ => Nat → ex_I) (fun _ => (⟨"Callerhall$Steps", "isAheadInOrder", "(LCallerhall$Floor;II)Z"⟩, prog_11_method_7_code, 4, (Option.some Jvm.ClassFile.FieldType.boolean), none)) (fun _ => (⟨"Callerhall$Steps", "begin", "(LCallerhall$Floor;)V"⟩, prog_11_method_6_code, 6, (Option.none : Option Jvm.ClassFile.FieldType), none)) (Nat.ble k 73) k) (fun _ => (⟨"Callerhall$Steps", "ready", "(LCallerhall$Floor;I)V"⟩, prog_11_method_5_code, 4, (Option.none : Option Jvm.ClassFile.FieldType), none)) (Nat.ble k 72) k) (Nat.ble k 74) k) (Nat.ble k 77) k) (Nat.ble k 83) k) (fun k => @Bool.rec (fun _ => Nat → ex_I) (fun k => @Bool.rec (fun _ => Nat → ex_I) (fun k => @Bool.rec (fun _ => Nat → ex_I) (fun k => @Bool.rec (fun _ => Nat → ex_I) (fun k => @Bool.rec (fun _ => Nat → ex_I) (fun _ => (⟨"Callerhall$Steps", "nearnessOf", "(LCallerhall$Floor;I)I"⟩, prog_11_method_4_code, 9, (Option.some Jvm.ClassFile.FieldType.int), none)) (fun _ => (⟨"Callerhall$Steps", "tell", "(LCallerhall$Floor;I)Z"⟩, prog_11_method_3_code, 8, (Option.some Jvm.ClassFile.FieldType.boolean), none)) (Nat.ble k 70) k) (fun _ => (⟨"Callerhall$Steps", "space", "(IZZ)V"⟩, prog_11_method_2_code, 4, (Option.none : Option Jvm.ClassFile.FieldType), none)) (Nat.ble k 69) k) (fun k => @Bool.rec (fun _ => Nat → ex_I) (fun k => @Bool.rec (fun _ => Nat → ex_I) (fun _ => (⟨"Callerhall$Steps", "<init>", "()V"⟩, prog_11_method_1_code, 1, (Option.none : Option Jvm.ClassFile.FieldType), none)) (fun _ => (⟨"Callerhall$Stage", "spreadUnits", "(LCallerhall$Floor;LCallerhall$Floor;Z)V"⟩, prog_10_method_10_code, 6, (Option.none : Option Jvm.ClassFile.FieldType), none)) (Nat.ble k 67) k) (fun _ => (⟨"Callerhall$Stage", "makeUnits", "(LCallerhall$Floor;LCallerhall$Floor;Z)Z"⟩, prog_10_method_9_code, 9, (Option.some Jvm.ClassFile.FieldType.boolean), none)) (Nat.ble k 66) k) (Nat.ble k 68) k) (fun k => @Bool.rec (fun _ => Nat → ex_I) (fun k => @Bool.rec (fun _ => Nat → ex_I) (fun k => @Bool.rec (fun _ => Nat → ex_I) (fun _ => (⟨"Callerhall$Stage", "leave", "(I)V"⟩, prog_10_method_8_code, 3, (Option.none : Option Jvm.ClassFile.FieldType), none)) (fun _ => (⟨"Callerhall$Stage", "begin", "(LCallerhall$Floor;LCallerhall$Plan;I)V"⟩, prog_10_method_7_code, 6, (Option.none : Option Jvm.ClassFile.FieldType), none)) (Nat.ble k 64) k) (fun _ => (⟨"Callerhall$Stage", "enter", "(I)V"⟩, prog_10_method_6_code, 2, (Option.none : Option Jvm.ClassFile.FieldType), none)) (Nat.ble k 63) k) (fun k => @Bool.rec (fun _ => Nat → ex_I) (fun k => @Bool.rec (fun _ => Nat → ex_I) (fun _ => (⟨"Callerhall$Stage", "floorAt", "(I)LCallerhall$Floor;"⟩, prog_10_method_5_code, 2, (Option.some (Jvm.ClassFile.FieldType.object "Callerhall$Floor")), none)) (fun _ => (⟨"Callerhall$Stage", "refuse", "(CI)V"⟩, prog_10_method_4_code, 3, (Option.none : Option Jvm.ClassFile.FieldType), none)) (Nat.ble k 61) k) (fun _ => (⟨"Callerhall$Stage", "run", "(LCallerhall$Plan;II)C"⟩, prog_10_method_3_code, 11, (Option.some Jvm.ClassFile.FieldType.char), none)) (Nat.ble k 60) k) (Nat.ble k 62) k) (Nat.ble k 65) k) (fun k => @Bool.rec (fun _ => Nat → ex_I) (fun k => @Bool.rec (fun _ => Nat → ex_I) (fun k => @Bool.rec (fun _ => Nat → ex_I) (fun k => @Bool.rec (fun _ => Nat → ex_I) (fun _ => (⟨"Callerhall$Stage", "load", "(LCallerhall$Places;[I)V"⟩, prog_10_method_2_code, 3, (Option.none : Option Jvm.ClassFile.FieldType), none)) (fun _ => (⟨"Callerhall$Stage", "<init>", "(LCallerhall$Places;)V"⟩, prog_10_method_1_code, 2, (Option.none : Option Jvm.ClassFile.FieldType), none)) (Nat.ble k 58) k) (fun _ => (⟨"Callerhall$Song", "count", "(I)V"⟩, prog_9_method_3_code, 2, (Option.none : Option Jvm.ClassFile.FieldType), none)) (Nat.ble k 57) k) (fun k => @Bool.rec (fun _ => Nat → ex_I) (fun k => @Bool.rec (fun _ => Nat → ex_I) (fun _ => (⟨"Callerhall$Song", "begin", "(I)V"⟩, prog_9_method_2_code, 2, (Option.none : Option Jvm.ClassFile.FieldType), none)) (fun _ => (⟨"Callerhall$Song", "<init>", "()V"⟩, prog_9_method_1_code, 1, (Option.none : Option Jvm.ClassFile.FieldType), none)) (Nat.ble k 55) k) (fun _ => (⟨"Callerhall$Plan", "beatsUpTo", "(I)I"⟩, prog_8_method_9_code, 2, (Option.some Jvm.ClassFile.FieldType.int), none)) (Nat.ble k 54) k) (Nat.ble k 56) k) (fun k => @Bool.rec (fun _ => Nat → ex_I) (fun k => @Bool.rec (fun _ => Nat → ex_I) (fun k => @Bool.rec (fun _ => Nat → ex_I) (fun _ => (⟨"Callerhall$Plan", "innerAt", "(I)I"⟩, prog_8_method_8_code, 2, (Option.some Jvm.ClassFile.FieldType.int), none)) (fun _ => (⟨"Callerhall$Plan", "copy", "(LCallerhall$Plan;I)V"⟩, prog_8_method_7_code, 4, (Option.none : Option Jvm.ClassFile.FieldType), none)) (Nat.ble k 52) k) (fun _ => (⟨"Callerhall$Plan", "readVersion", "(LCallerhall$Book;I)V"⟩, prog_8_method_6_code, 4, (Option.none : Option Jvm.ClassFile.FieldType), none)) (Nat.ble k 51) k) (fun k => @Bool.rec (fun _ => Nat → ex_I) (fun k => @Bool.rec (fun _ => Nat → ex_I) (fun _ => (⟨"Callerhall$Plan", "putOn", "(II)V"⟩, prog_8_method_5_code, 3, (Option.none : Option Jvm.ClassFile.FieldType), none)) (fun _ => (⟨"Callerhall$Plan", "readAct", "(I)V"⟩, prog_8_method_4_code, 2, (Option.none : Option Jvm.ClassFile.FieldType), none)) (Nat.ble k 49) k) (fun _ => (⟨"Callerhall$Plan", "append", "(III)V"⟩, prog_8_method_3_code, 4, (Option.none : Option Jvm.ClassFile.FieldType), none)) (Nat.ble k 48) k) (Nat.ble k 50) k) (Nat.ble k 53) k) (Nat.ble k 59) k) (Nat.ble k 71) k) (fun k => @Bool.rec (fun _ => Nat → ex_I) (fun k => @Bool.rec (fun _ => Nat → ex_I) (fun k => @Bool.rec (fun _ => Nat → ex_I) (fun k => @Bool.rec (fun _ => Nat → ex_I) (fun k => @Bool.rec (fun _ => Nat → ex_I) (fun k => @Bool.rec (fun _ => Nat → ex_I) (fun _ => (⟨"Callerhall$Plan", "clear", "()V"⟩, prog_8_method_2_code, 1, (Option.none : Option Jvm.ClassFile.FieldType), none)) (fun _ => (⟨"Callerhall$Plan", "<init>", "()V"⟩, prog_8_method_1_code, 1, (Option.none : Option Jvm.ClassFile.FieldType), none)) (Nat.ble k 46) k) (fun _ => (⟨"Callerhall$Places", "isAt", "(ILCallerhall$Floor;)Z"⟩, prog_7_method_5_code, 3, (Option.some Jvm.ClassFile.FieldType.boolean), none)) (Nat.ble k 45) k) (fun k => @Bool.rec (fun _ => Nat → ex_I) (fun k => @Bool.rec (fun _ => Nat → ex_I) (fun _ => (⟨"Callerhall$Places", "read", "(LCallerhall$Floor;)V"⟩, prog_7_method_4_code, 3, (Option.none : Option Jvm.ClassFile.FieldType), none)) (fun _ => (⟨"Callerhall$Places", "indexAt", "(II)I"⟩, prog_7_method_3_code, 4, (Option.some Jvm.ClassFile.FieldType.int), none)) (Nat.ble k 43) k) (fun _ => (⟨"Callerhall$Places", "tell", "(IIII)V"⟩, prog_7_method_2_code, 5, (Option.none : Option Jvm.ClassFile.FieldType), none)) (Nat.ble k 42) k) (Nat.ble k 44) k) (fun k => @Bool.rec (fun _ => Nat → ex_I) (fun k => @Bool.rec (fun _ => Nat → ex_I) (fun k => @Bool.rec (fun _ => Nat → ex_I) (fun _ => (⟨"Callerhall$Places", "<init>", "()V"⟩, prog_7_method_1_code, 1, (Option.none : Option Jvm.ClassFile.FieldType), none)) (fun _ => (⟨"Callerhall$Past", "letterAt", "(I)C"⟩, prog_6_method_5_code, 2, (Option.some Jvm.ClassFile.FieldType.char), none)) (Nat.ble k 40) k) (fun _ => (⟨"Callerhall$Past", "drop", "()V"⟩, prog_6_method_4_code, 1, (Option.none : Option Jvm.ClassFile.FieldType), none)) (Nat.ble k 39) k) (fun k => @Bool.rec (fun _ => Nat → ex_I) (fun k => @Bool.rec (fun _ => Nat → ex_I) (fun _ => (⟨"Callerhall$Past", "readLast", "(LCallerhall$Places;)V"⟩, prog_6_method_3_code, 4, (Option.none : Option Jvm.ClassFile.FieldType), none)) (fun _ => (⟨"Callerhall$Past", "keep", "(LCallerhall$Places;C)V"⟩, prog_6_method_2_code, 5, (Option.none : Option Jvm.ClassFile.FieldType), none)) (Nat.ble k 37) k) (fun _ => (⟨"Callerhall$Past", "<init>", "()V"⟩, prog_6_method_1_code, 1, (Option.none : Option Jvm.ClassFile.FieldType), none)) (Nat.ble k 36) k) (Nat.ble k 38) k) (Nat.ble k 41) k) (fun k => @Bool.rec (fun _ => Nat → ex_I) (fun k => @Bool.rec (fun _ => Nat → ex_I) (fun k => @Bool.rec (fun _ => Nat → ex_I) (fun k => @Bool.rec (fun _ => Nat → ex_I) (fun _ => (⟨"Callerhall$Party", "isCounted", "()Z"⟩, prog_5_method_7_code, 5, (Option.some Jvm.ClassFile.FieldType.boolean), none)) (fun _ => (⟨"Callerhall$Party", "meet", "([III)V"⟩, prog_5_method_6_code, 5, (Option.none : Option Jvm.ClassFile.FieldType), none)) (Nat.ble k 34) k) (fun _ => (⟨"Callerhall$Party", "countMet", "([III)I"⟩, prog_5_method_5_code, 6, (Option.some Jvm.ClassFile.FieldType.int), none)) (Nat.ble k 33) k) (fun k => @Bool.rec (fun _ => Nat → ex_I) (fun k => @Bool.rec (fun _ => Nat → ex_I) (fun _ => (⟨"Callerhall$Party", "choose", "([II)I"⟩, prog_5_method_4_code, 7, (Option.some Jvm.ClassFile.FieldType.int), none)) (fun _ => (⟨"Callerhall$Party", "fillTip", "()I"⟩, prog_5_method_3_code, 6, (Option.some Jvm.ClassFile.FieldType.int), none)) (Nat.ble k 31) k) (fun _ => (⟨"Callerhall$Party", "open", "(I)V"⟩, prog_5_method_2_code, 4, (Option.none : Option Jvm.ClassFile.FieldType), none)) (Nat.ble k 30) k) (Nat.ble k 32) k) (fun k => @Bool.rec (fun _ => Nat → ex_I) (fun k => @Bool.rec (fun _ => Nat → ex_I) (fun k => @Bool.rec (fun _ => Nat → ex_I) (fun _ => (⟨"Callerhall$Party", "<init>", "()V"⟩, prog_5_method_1_code, 1, (Option.none : Option Jvm.ClassFile.FieldType), none)) (fun _ => (⟨"Callerhall$Flow", "count", "(LCallerhall$Floor;)V"⟩, prog_4_method_3_code, 4, (Option.none : Option Jvm.ClassFile.FieldType), none)) (Nat.ble k 28) k) (fun _ => (⟨"Callerhall$Flow", "clear", "()V"⟩, prog_4_method_2_code, 2, (Option.none : Option Jvm.ClassFile.FieldType), none)) (Nat.ble k 27) k) (fun k => @Bool.rec (fun _ => Nat → ex_I) (fun k => @Bool.rec (fun _ => Nat → ex_I) (fun _ => (⟨"Callerhall$Flow", "<init>", "()V"⟩, prog_4_method_1_code, 1, (Option.none : Option Jvm.ClassFile.FieldType), none)) (fun _ => (⟨"Callerhall$Floor", "settle", "(LCallerhall$Floor;IIIII)V"⟩, prog_3_method_20_code, 7, (Option.none : Option Jvm.ClassFile.FieldType), none)) (Nat.ble k 25) k) (fun _ => (⟨"Callerhall$Floor", "spread", "(LCallerhall$Floor;ZZ)V"⟩, prog_3_method_19_code, 8, (Option.none : Option Jvm.ClassFile.FieldType), none)) (Nat.ble k 24) k) (Nat.ble k 26) k) (Nat.ble k 29) k) (Nat.ble k 35) k) (fun k => @Bool.rec (fun _ => Nat → ex_I) (fun k => @Bool.rec (fun _ => Nat → ex_I) (fun k => @Bool.rec (fun _ => Nat → ex_I) (fun k => @Bool.rec (fun _ => Nat → ex_I) (fun k => @Bool.rec (fun _ => Nat → ex_I) (fun _ => (⟨"Callerhall$Floor", "countWith", "(I)I"⟩, prog_3_method_18_code, 4, (Option.some Jvm.ClassFile.FieldType.int), none)) (fun _ => (⟨"Callerhall$Floor", "hasMoved", "(I)Z"⟩, prog_3_method_17_code, 2, (Option.some Jvm.ClassFile.FieldType.boolean), none)) (Nat.ble k 22) k) (fun _ => (⟨"Callerhall$Floor", "isPassing", "(I)Z"⟩, prog_3_method_16_code, 5, (Option.some Jvm.ClassFile.FieldType.boolean), none)) (Nat.ble k 21) k) (fun k => @Bool.rec (fun _ => Nat → ex_I) (fun k => @Bool.rec (fun _ => Nat → ex_I) (fun _ => (⟨"Callerhall$Floor", "collide", "()I"⟩, prog_3_method_15_code, 3, (Option.some Jvm.ClassFile.FieldType.int), none)) (fun _ => (⟨"Callerhall$Floor", "takeHand", "(II)V"⟩, prog_3_method_14_code, 3, (Option.none : Option Jvm.ClassFile.FieldType), none)) (Nat.ble k 19) k) (fun _ => (⟨"Callerhall$Floor", "trade", "(II)V"⟩, prog_3_method_13_code, 5, (Option.none : Option Jvm.ClassFile.FieldType), none)) (Nat.ble k 18) k) (Nat.ble k 20) k) (fun k => @Bool.rec (fun _ => Nat → ex_I) (fun k => @Bool.rec (fun _ => Nat → ex_I) (fun k => @Bool.rec (fun _ => Nat → ex_I) (fun _ => (⟨"Callerhall$Floor", "carry", "(IIII)V"⟩, prog_3_method_12_code, 7, (Option.none : Option Jvm.ClassFile.FieldType), none)) (fun _ => (⟨"Callerhall$Floor", "turnBy", "(II)V"⟩, prog_3_method_11_code, 3, (Option.none : Option Jvm.ClassFile.FieldType), none)) (Nat.ble k 16) k) (fun _ => (⟨"Callerhall$Floor", "go", "(III)V"⟩, prog_3_method_10_code, 5, (Option.none : Option Jvm.ClassFile.FieldType), none)) (Nat.ble k 15) k) (fun k => @Bool.rec (fun _ => Nat → ex_I) (fun k => @Bool.rec (fun _ => Nat → ex_I) (fun _ => (⟨"Callerhall$Floor", "mark", "()V"⟩, prog_3_method_9_code, 2, (Option.none : Option Jvm.ClassFile.FieldType), none)) (fun _ => (⟨"Callerhall$Floor", "isToward", "(III)Z"⟩, prog_3_method_8_code, 5, (Option.some Jvm.ClassFile.FieldType.boolean), none)) (Nat.ble k 13) k) (fun _ => (⟨"Callerhall$Floor", "bitOf", "(I)I"⟩, prog_3_method_7_code, 1, (Option.some Jvm.ClassFile.FieldType.int), none)) (Nat.ble k 12) k) (Nat.ble k 14) k) (Nat.ble k 17) k) (fun k => @Bool.rec (fun _ => Nat → ex_I) (fun k => @Bool.rec (fun _ => Nat → ex_I) (fun k => @Bool.rec (fun _ => Nat → ex_I) (fun k => @Bool.rec (fun _ => Nat → ex_I) (fun _ => (⟨"Callerhall$Floor", "addUnit", "(LCallerhall$Floor;IIZ)Z"⟩, prog_3_method_6_code, 9, (Option.some Jvm.ClassFile.FieldType.boolean), none)) (fun _ => (⟨"Callerhall$Floor", "dropPhantoms", "(LCallerhall$Places;)V"⟩, prog_3_method_5_code, 2, (Option.none : Option Jvm.ClassFile.FieldType), none)) (Nat.ble k 10) k) (fun _ => (⟨"Callerhall$Floor", "addPhantoms", "(LCallerhall$Places;)V"⟩, prog_3_method_4_code, 4, (Option.none : Option Jvm.ClassFile.FieldType), none)) (Nat.ble k 9) k) (fun k => @Bool.rec (fun _ => Nat → ex_I) (fun k => @Bool.rec (fun _ => Nat → ex_I) (fun _ => (⟨"Callerhall$Floor", "addDancers", "(LCallerhall$Places;[I)V"⟩, prog_3_method_3_code, 5, (Option.none : Option Jvm.ClassFile.FieldType), none)) (fun _ => (⟨"Callerhall$Floor", "add", "(IIIIII)V"⟩, prog_3_method_2_code, 7, (Option.none : Option Jvm.ClassFile.FieldType), none)) (Nat.ble k 7) k) (fun _ => (⟨"Callerhall$Floor", "<init>", "()V"⟩, prog_3_method_1_code, 1, (Option.none : Option Jvm.ClassFile.FieldType), none)) (Nat.ble k 6) k) (Nat.ble k 8) k) (fun k => @Bool.rec (fun _ => Nat → ex_I) (fun k => @Bool.rec (fun _ => Nat → ex_I) (fun k => @Bool.rec (fun _ => Nat → ex_I) (fun _ => (⟨"Callerhall$Book", "drop", "(I)I"⟩, prog_2_method_6_code, 3, (Option.some Jvm.ClassFile.FieldType.int), none)) (fun _ => (⟨"Callerhall$Book", "add", "(IIIII)I"⟩, prog_2_method_5_code, 8, (Option.some Jvm.ClassFile.FieldType.int), none)) (Nat.ble k 4) k) (fun _ => (⟨"Callerhall$Book", "canAdd", "(II)Z"⟩, prog_2_method_4_code, 4, (Option.some Jvm.ClassFile.FieldType.boolean), none)) (Nat.ble k 3) k) (fun k => @Bool.rec (fun _ => Nat → ex_I) (fun k => @Bool.rec (fun _ => Nat → ex_I) (fun _ => (⟨"Callerhall$Book", "holding", "(II)I"⟩, prog_2_method_3_code, 6, (Option.some Jvm.ClassFile.FieldType.int), none)) (fun _ => (⟨"Callerhall$Book", "versionOf", "(II)I"⟩, prog_2_method_2_code, 5, (Option.some Jvm.ClassFile.FieldType.int), none)) (Nat.ble k 1) k) (fun _ => (⟨"Callerhall$Book", "<init>", "()V"⟩, prog_2_method_1_code, 1, (Option.none : Option Jvm.ClassFile.FieldType), none)) (Nat.ble k 0) k) (Nat.ble k 2) k) (Nat.ble k 5) k) (Nat.ble k 11) k) (Nat.ble k 23) k) (Nat.ble k 47) k) (Nat.ble k 96) k) (Nat.ble k 194) k
def ex_Xc : ex_X := ([("java/lang/IndexOutOfBoundsException", "java/lang/IllegalArgumentException"), ("java/lang/IndexOutOfBoundsException", "java/lang/UnsupportedOperationException"), ("java/lang/IndexOutOfBoundsException", "java/util/NoSuchElementException"), ("java/lang/IndexOutOfBoundsException", "java/lang/IllegalStateException"), ("java/lang/IndexOutOfBoundsException", "java/lang/ArithmeticException"), ("java/lang/IllegalArgumentException", "java/lang/IndexOutOfBoundsException"), ("java/lang/IllegalArgumentException", "java/lang/UnsupportedOperationException"), ("java/lang/IllegalArgumentException", "java/util/NoSuchElementException"), ("java/lang/IllegalArgumentException", "java/lang/IllegalStateException"), ("java/lang/IllegalArgumentException", "java/lang/ArithmeticException"), ("java/lang/UnsupportedOperationException", "java/lang/IndexOutOfBoundsException"), ("java/lang/UnsupportedOperationException", "java/lang/IllegalArgumentException"), ("java/lang/UnsupportedOperationException", "java/util/NoSuchElementException"), ("java/lang/UnsupportedOperationException", "java/lang/IllegalStateException"), ("java/lang/UnsupportedOperationException", "java/lang/ArithmeticException"), ("java/util/NoSuchElementException", "java/lang/IndexOutOfBoundsException"), ("java/util/NoSuchElementException", "java/lang/IllegalArgumentException"), ("java/util/NoSuchElementException", "java/lang/UnsupportedOperationException"), ("java/util/NoSuchElementException", "java/lang/IllegalStateException"), ("java/util/NoSuchElementException", "java/lang/ArithmeticException"), ("java/lang/IllegalStateException", "java/lang/IndexOutOfBoundsException"), ("java/lang/IllegalStateException", "java/lang/IllegalArgumentException"), ("java/lang/IllegalStateException", "java/lang/UnsupportedOperationException"), ("java/lang/IllegalStateException", "java/util/NoSuchElementException"), ("java/lang/IllegalStateException", "java/lang/ArithmeticException"), ("java/lang/ArithmeticException", "java/lang/IndexOutOfBoundsException"), ("java/lang/ArithmeticException", "java/lang/IllegalArgumentException"), ("java/lang/ArithmeticException", "java/lang/UnsupportedOperationException"), ("java/lang/ArithmeticException", "java/util/NoSuchElementException"), ("java/lang/ArithmeticException", "java/lang/IllegalStateException")], [("java/util/ArrayList$Itr", (⟨"java/util/Iterator", "hasNext", "()Z"⟩ : MethodName), (ex_inf 327).1), ("java/util/ArrayList$Itr", (⟨"java/util/Iterator", "next", "()Ljava/lang/Object;"⟩ : MethodName), (ex_inf 328).1), ("java/util/ArrayList", (⟨"java/util/List", "iterator", "()Ljava/util/Iterator;"⟩ : MethodName), (ex_inf 344).1), ("java/util/ArrayList", (⟨"java/util/List", "add", "(Ljava/lang/Object;)Z"⟩ : MethodName), (ex_inf 339).1), ("java/util/ArrayList", (⟨"java/util/List", "clear", "()V"⟩ : MethodName), (ex_inf 342).1), ("java/util/ArrayList", (⟨"java/util/List", "size", "()I"⟩ : MethodName), (ex_inf 333).1), ("java/util/ArrayList", (⟨"java/util/List", "get", "(I)Ljava/lang/Object;"⟩ : MethodName), (ex_inf 337).1), ("java/util/ArrayList", (⟨"java/util/List", "addAll", "(Ljava/util/Collection;)Z"⟩ : MethodName), (ex_inf 343).1), ("java/util/ArrayList", (⟨"java/util/List", "remove", "(I)Ljava/lang/Object;"⟩ : MethodName), (ex_inf 340).1), ("java/util/ArrayList", (⟨"java/util/List", "isEmpty", "()Z"⟩ : MethodName), (ex_inf 334).1)], [(⟨"Callerhall$Floor", "add", "(IIIIII)V"⟩ : MethodName), (⟨"Callerhall$Floor", "countWith", "(I)I"⟩ : MethodName), (⟨"Callerhall$Floor", "isPassing", "(I)Z"⟩ : MethodName), (⟨"Callerhall$Floor", "hasMoved", "(I)Z"⟩ : MethodName), (⟨"Callerhall$Floor", "settle", "(LCallerhall$Floor;IIIII)V"⟩ : MethodName), (⟨"Callerhall$Party", "choose", "([II)I"⟩ : MethodName), (⟨"Callerhall$Party", "meet", "([III)V"⟩ : MethodName), (⟨"Callerhall$Party", "countMet", "([III)I"⟩ : MethodName), (⟨"Callerhall$Plan", "append", "(III)V"⟩ : MethodName), (⟨"Callerhall$Stage", "leave", "(I)V"⟩ : MethodName), (⟨"Callerhall$Stage", "refuse", "(CI)V"⟩ : MethodName), (⟨"Callerhall$Stage", "enter", "(I)V"⟩ : MethodName), (⟨"Callerhall$Stage", "floorAt", "(I)LCallerhall$Floor;"⟩ : MethodName), (⟨"Callerhall$Stage", "begin", "(LCallerhall$Floor;LCallerhall$Plan;I)V"⟩ : MethodName), (⟨"Callerhall$Stage", "makeUnits", "(LCallerhall$Floor;LCallerhall$Floor;Z)Z"⟩ : MethodName), (⟨"Callerhall$Stage", "spreadUnits", "(LCallerhall$Floor;LCallerhall$Floor;Z)V"⟩ : MethodName), (⟨"Callerhall$Steps", "nearnessOf", "(LCallerhall$Floor;I)I"⟩ : MethodName), (⟨"Callerhall$Steps", "findRows", "(LCallerhall$Floor;Z)V"⟩ : MethodName), (⟨"Callerhall$Steps", "findBoxes", "(LCallerhall$Floor;)V"⟩ : MethodName), (⟨"Callerhall$Steps", "findFaces", "(LCallerhall$Floor;)V"⟩ : MethodName), (⟨"Callerhall$Steps", "begin", "(LCallerhall$Floor;)V"⟩ : MethodName), (⟨"Callerhall$Steps", "isAheadInOrder", "(LCallerhall$Floor;II)Z"⟩ : MethodName), (⟨"Callerhall$Steps", "findBeside", "(LCallerhall$Floor;IZ)I"⟩ : MethodName), (⟨"Callerhall$Steps", "findColumns", "(LCallerhall$Floor;)V"⟩ : MethodName), (⟨"Callerhall$Steps", "findCorner", "(LCallerhall$Floor;III)I"⟩ : MethodName), (⟨"Callerhall$Steps", "isFree", "(I)Z"⟩ : MethodName), (⟨"Callerhall$Steps", "putInBox", "(LCallerhall$Floor;II)V"⟩ : MethodName), (⟨"Callerhall$Steps", "hasItsOwn", "(II)Z"⟩ : MethodName), (⟨"Callerhall$Steps", "stepPair", "(LCallerhall$Floor;II)V"⟩ : MethodName), (⟨"Callerhall$Steps", "stepInBox", "(LCallerhall$Floor;I)V"⟩ : MethodName), (⟨"Callerhall$Steps", "stepFacing", "(LCallerhall$Floor;II)V"⟩ : MethodName), (⟨"Callerhall$Steps", "stepAlone", "(LCallerhall$Floor;II)V"⟩ : MethodName), (⟨"Callerhall$Steps", "isInBox", "(LCallerhall$Floor;II)Z"⟩ : MethodName), (⟨"Callerhall", "countAway", "()I"⟩ : MethodName), (⟨"Callerhall", "putAllHome", "()V"⟩ : MethodName), (⟨"Callerhall", "checkDancer", "(I)V"⟩ : MethodName), (⟨"Callerhall", "forgetPast", "()V"⟩ : MethodName), (⟨"Callerhall", "checkPlace", "(III)V"⟩ : MethodName), (⟨"Callerhall", "checkYear", "(I)V"⟩ : MethodName), (⟨"Callerhall", "letterOf", "(C)I"⟩ : MethodName), (⟨"Callerhall", "actOf", "(C)I"⟩ : MethodName), (⟨"Callerhall", "whoOf", "(C)I"⟩ : MethodName), (⟨"Callerhall", "conceptOf", "(C)I"⟩ : MethodName), (⟨"Callerhall", "readCall", "(C)V"⟩ : MethodName), (⟨"Callerhall", "judge", "(LCallerhall$Plan;ZII)V"⟩ : MethodName), (⟨"Callerhall", "settle", "(I)V"⟩ : MethodName), (⟨"Callerhall", "pairAll", "(II)V"⟩ : MethodName), (⟨"Callerhall", "countOutside", "(I)I"⟩ : MethodName), (⟨"Callerhall", "areHome", "([I[I[I)Z"⟩ : MethodName), (⟨"Callerhall", "findLastAct", "(LCallerhall$Places;I)Z"⟩ : MethodName), (⟨"Callerhall", "checkCouple", "(I)V"⟩ : MethodName), (⟨"Callerhall", "spotOf", "(I)I"⟩ : MethodName), (⟨"Callerhall", "isDoneInParts", "(I)Z"⟩ : MethodName), (⟨"Callerhall", "indexIn", "(Ljava/lang/String;C)I"⟩ : MethodName), (⟨"Callerhall", "isInShape", "(III)Z"⟩ : MethodName), (⟨"CallerhallModel", "homes", "()[I"⟩ : MethodName), (⟨"CallerhallModel", "puts", "([I)V"⟩ : MethodName), (⟨"CallerhallModel", "no", "(ZI)Z"⟩ : MethodName), (⟨"CallerhallModel", "tells", "()V"⟩ : MethodName), (⟨"CallerhallModel", "row", "()[I"⟩ : MethodName), (⟨"CallerhallModel", "noDancer", "(I)Z"⟩ : MethodName), (⟨"CallerhallModel", "dancerAt", "(II)I"⟩ : MethodName), (⟨"CallerhallModel", "of", "(CI)LCallerhallModel$Version;"⟩ : MethodName), (⟨"CallerhallModel", "holding", "(C)LCallerhallModel$Version;"⟩ : MethodName), (⟨"CallerhallModel", "callOf", "(CCC)LCallerhallModel$Call;"⟩ : MethodName), (⟨"CallerhallModel", "noCall", "(C)Z"⟩ : MethodName), (⟨"CallerhallModel", "skillOf", "(LCallerhallModel$Floor;I)I"⟩ : MethodName), (⟨"CallerhallModel", "isOf", "(LCallerhallModel$Floor;IC)Z"⟩ : MethodName), (⟨"CallerhallModel", "units", "(LCallerhallModel$Floor;C)LCallerhallModel$Floor;"⟩ : MethodName), (⟨"CallerhallModel", "parts", "(LCallerhallModel$Floor;)Z"⟩ : MethodName), (⟨"CallerhallModel", "counts", "(LCallerhallModel$Floor;II)V"⟩ : MethodName), (⟨"CallerhallModel", "takes", "(LCallerhallModel$Floor;II)V"⟩ : MethodName), (⟨"CallerhallModel", "turns", "(LCallerhallModel$Floor;II)V"⟩ : MethodName), (⟨"CallerhallModel", "dances", "(LCallerhallModel$Floor;CIIIC[[I[I[I)V"⟩ : MethodName), (⟨"CallerhallModel", "among", "(LCallerhallModel$Floor;C)[Z"⟩ : MethodName), (⟨"CallerhallModel", "rounds", "(LCallerhallModel$Floor;III)V"⟩ : MethodName), (⟨"CallerhallModel", "crosses", "(LCallerhallModel$Floor;I[II)V"⟩ : MethodName), (⟨"CallerhallModel", "lower", "(LCallerhallModel$Floor;)Z"⟩ : MethodName), (⟨"CallerhallModel", "dances", "(LCallerhallModel$Floor;CCI)Z"⟩ : MethodName), (⟨"CallerhallModel", "raise", "(LCallerhallModel$Floor;C)LCallerhallModel$Floor;"⟩ : MethodName), (⟨"CallerhallModel", "ground", "([I)LCallerhallModel$Floor;"⟩ : MethodName), (⟨"CallerhallModel", "refuse", "(I)I"⟩ : MethodName), (⟨"CallerhallModel", "flows", "([I[I[I[I)V"⟩ : MethodName), (⟨"CallerhallModel", "beat", "(I)V"⟩ : MethodName), (⟨"CallerhallModel", "runs", "([ILCallerhallModel$Call;I)[I"⟩ : MethodName), (⟨"CallerhallModel", "cannot", "(CII)I"⟩ : MethodName), (⟨"CallerhallModel", "firstHands", "(LCallerhallModel$Call;I[I)V"⟩ : MethodName), (⟨"CallerhallModel", "placesOf", "(C)[I"⟩ : MethodName), (⟨"CallerhallModel", "missing", "(C)I"⟩ : MethodName), (⟨"CallerhallModel", "allHome", "([I)Z"⟩ : MethodName), (⟨"CallerhallModel", "led", "([IC)[I"⟩ : MethodName), (⟨"CallerhallModel", "metOf", "(II)I"⟩ : MethodName), (⟨"CallerhallModel", "danced", "(I)I"⟩ : MethodName), (⟨"java/util/ArrayList", "grow", "(I)[Ljava/lang/Object;"⟩ : MethodName), (⟨"java/util/ArrayList", "grow", "()[Ljava/lang/Object;"⟩ : MethodName), (⟨"java/util/ArrayList", "add", "(Ljava/lang/Object;[Ljava/lang/Object;I)V"⟩ : MethodName), (⟨"java/util/ArrayList", "fastRemove", "([Ljava/lang/Object;I)V"⟩ : MethodName)])
abbrev ex_tW (w : Cond) : Prop := w ∈ ex_TT ex_Xc.2.2
theorem ts_0 : ex_tW (Cond.selects "Callerhall$Floor" (ex_inf 7).1 (ex_inf 7).1) := ex_ts (y := (⟨"Callerhall$Floor", "add", "(IIIIII)V"⟩ : MethodName)) 0 rfl
theorem ts_1 : ex_tW (Cond.selects "Callerhall$Floor" (ex_inf 23).1 (ex_inf 23).1) := ex_ts (y := (⟨"Callerhall$Floor", "countWith", "(I)I"⟩ : MethodName)) 1 rfl
theorem ts_2 : ex_tW (Cond.selects "Callerhall$Floor" (ex_inf 21).1 (ex_inf 21).1) := ex_ts (y := (⟨"Callerhall$Floor", "isPassing", "(I)Z"⟩ : MethodName)) 2 rfl
theorem ts_3 : ex_tW (Cond.selects "Callerhall$Floor" (ex_inf 22).1 (ex_inf 22).1) := ex_ts (y := (⟨"Callerhall$Floor", "hasMoved", "(I)Z"⟩ : MethodName)) 3 rfl
theorem ts_4 : ex_tW (Cond.selects "Callerhall$Floor" (ex_inf 25).1 (ex_inf 25).1) := ex_ts (y := (⟨"Callerhall$Floor", "settle", "(LCallerhall$Floor;IIIII)V"⟩ : MethodName)) 4 rfl
theorem ts_5 : ex_tW (Cond.selects "Callerhall$Party" (ex_inf 32).1 (ex_inf 32).1) := ex_ts (y := (⟨"Callerhall$Party", "choose", "([II)I"⟩ : MethodName)) 5 rfl
theorem ts_6 : ex_tW (Cond.selects "Callerhall$Party" (ex_inf 34).1 (ex_inf 34).1) := ex_ts (y := (⟨"Callerhall$Party", "meet", "([III)V"⟩ : MethodName)) 6 rfl
theorem ts_7 : ex_tW (Cond.selects "Callerhall$Party" (ex_inf 33).1 (ex_inf 33).1) := ex_ts (y := (⟨"Callerhall$Party", "countMet", "([III)I"⟩ : MethodName)) 7 rfl
theorem ts_8 : ex_tW (Cond.selects "Callerhall$Plan" (ex_inf 48).1 (ex_inf 48).1) := ex_ts (y := (⟨"Callerhall$Plan", "append", "(III)V"⟩ : MethodName)) 8 rfl
theorem ts_9 : ex_tW (Cond.selects "Callerhall$Stage" (ex_inf 65).1 (ex_inf 65).1) := ex_ts (y := (⟨"Callerhall$Stage", "leave", "(I)V"⟩ : MethodName)) 9 rfl
theorem ts_10 : ex_tW (Cond.selects "Callerhall$Stage" (ex_inf 61).1 (ex_inf 61).1) := ex_ts (y := (⟨"Callerhall$Stage", "refuse", "(CI)V"⟩ : MethodName)) 10 rfl
theorem ts_11 : ex_tW (Cond.selects "Callerhall$Stage" (ex_inf 63).1 (ex_inf 63).1) := ex_ts (y := (⟨"Callerhall$Stage", "enter", "(I)V"⟩ : MethodName)) 11 rfl
theorem ts_12 : ex_tW (Cond.selects "Callerhall$Stage" (ex_inf 62).1 (ex_inf 62).1) := ex_ts (y := (⟨"Callerhall$Stage", "floorAt", "(I)LCallerhall$Floor;"⟩ : MethodName)) 12 rfl
theorem ts_13 : ex_tW (Cond.selects "Callerhall$Stage" (ex_inf 64).1 (ex_inf 64).1) := ex_ts (y := (⟨"Callerhall$Stage", "begin", "(LCallerhall$Floor;LCallerhall$Plan;I)V"⟩ : MethodName)) 13 rfl
theorem ts_14 : ex_tW (Cond.selects "Callerhall$Stage" (ex_inf 66).1 (ex_inf 66).1) := ex_ts (y := (⟨"Callerhall$Stage", "makeUnits", "(LCallerhall$Floor;LCallerhall$Floor;Z)Z"⟩ : MethodName)) 14 rfl
theorem ts_15 : ex_tW (Cond.selects "Callerhall$Stage" (ex_inf 67).1 (ex_inf 67).1) := ex_ts (y := (⟨"Callerhall$Stage", "spreadUnits", "(LCallerhall$Floor;LCallerhall$Floor;Z)V"⟩ : MethodName)) 15 rfl
theorem ts_16 : ex_tW (Cond.selects "Callerhall$Steps" (ex_inf 71).1 (ex_inf 71).1) := ex_ts (y := (⟨"Callerhall$Steps", "nearnessOf", "(LCallerhall$Floor;I)I"⟩ : MethodName)) 16 rfl
theorem ts_17 : ex_tW (Cond.selects "Callerhall$Steps" (ex_inf 76).1 (ex_inf 76).1) := ex_ts (y := (⟨"Callerhall$Steps", "findRows", "(LCallerhall$Floor;Z)V"⟩ : MethodName)) 17 rfl
theorem ts_18 : ex_tW (Cond.selects "Callerhall$Steps" (ex_inf 80).1 (ex_inf 80).1) := ex_ts (y := (⟨"Callerhall$Steps", "findBoxes", "(LCallerhall$Floor;)V"⟩ : MethodName)) 18 rfl
theorem ts_19 : ex_tW (Cond.selects "Callerhall$Steps" (ex_inf 75).1 (ex_inf 75).1) := ex_ts (y := (⟨"Callerhall$Steps", "findFaces", "(LCallerhall$Floor;)V"⟩ : MethodName)) 19 rfl
theorem ts_20 : ex_tW (Cond.selects "Callerhall$Steps" (ex_inf 73).1 (ex_inf 73).1) := ex_ts (y := (⟨"Callerhall$Steps", "begin", "(LCallerhall$Floor;)V"⟩ : MethodName)) 20 rfl
theorem ts_21 : ex_tW (Cond.selects "Callerhall$Steps" (ex_inf 74).1 (ex_inf 74).1) := ex_ts (y := (⟨"Callerhall$Steps", "isAheadInOrder", "(LCallerhall$Floor;II)Z"⟩ : MethodName)) 21 rfl
theorem ts_22 : ex_tW (Cond.selects "Callerhall$Steps" (ex_inf 77).1 (ex_inf 77).1) := ex_ts (y := (⟨"Callerhall$Steps", "findBeside", "(LCallerhall$Floor;IZ)I"⟩ : MethodName)) 22 rfl
theorem ts_23 : ex_tW (Cond.selects "Callerhall$Steps" (ex_inf 79).1 (ex_inf 79).1) := ex_ts (y := (⟨"Callerhall$Steps", "findColumns", "(LCallerhall$Floor;)V"⟩ : MethodName)) 23 rfl
theorem ts_24 : ex_tW (Cond.selects "Callerhall$Steps" (ex_inf 82).1 (ex_inf 82).1) := ex_ts (y := (⟨"Callerhall$Steps", "findCorner", "(LCallerhall$Floor;III)I"⟩ : MethodName)) 24 rfl
theorem ts_25 : ex_tW (Cond.selects "Callerhall$Steps" (ex_inf 81).1 (ex_inf 81).1) := ex_ts (y := (⟨"Callerhall$Steps", "isFree", "(I)Z"⟩ : MethodName)) 25 rfl
theorem ts_26 : ex_tW (Cond.selects "Callerhall$Steps" (ex_inf 83).1 (ex_inf 83).1) := ex_ts (y := (⟨"Callerhall$Steps", "putInBox", "(LCallerhall$Floor;II)V"⟩ : MethodName)) 26 rfl
theorem ts_27 : ex_tW (Cond.selects "Callerhall$Steps" (ex_inf 85).1 (ex_inf 85).1) := ex_ts (y := (⟨"Callerhall$Steps", "hasItsOwn", "(II)Z"⟩ : MethodName)) 27 rfl
theorem ts_28 : ex_tW (Cond.selects "Callerhall$Steps" (ex_inf 92).1 (ex_inf 92).1) := ex_ts (y := (⟨"Callerhall$Steps", "stepPair", "(LCallerhall$Floor;II)V"⟩ : MethodName)) 28 rfl
theorem ts_29 : ex_tW (Cond.selects "Callerhall$Steps" (ex_inf 90).1 (ex_inf 90).1) := ex_ts (y := (⟨"Callerhall$Steps", "stepInBox", "(LCallerhall$Floor;I)V"⟩ : MethodName)) 29 rfl
theorem ts_30 : ex_tW (Cond.selects "Callerhall$Steps" (ex_inf 89).1 (ex_inf 89).1) := ex_ts (y := (⟨"Callerhall$Steps", "stepFacing", "(LCallerhall$Floor;II)V"⟩ : MethodName)) 30 rfl
theorem ts_31 : ex_tW (Cond.selects "Callerhall$Steps" (ex_inf 88).1 (ex_inf 88).1) := ex_ts (y := (⟨"Callerhall$Steps", "stepAlone", "(LCallerhall$Floor;II)V"⟩ : MethodName)) 31 rfl
theorem ts_32 : ex_tW (Cond.selects "Callerhall$Steps" (ex_inf 91).1 (ex_inf 91).1) := ex_ts (y := (⟨"Callerhall$Steps", "isInBox", "(LCallerhall$Floor;II)Z"⟩ : MethodName)) 32 rfl
theorem ts_33 : ex_tW (Cond.selects "Callerhall" (ex_inf 165).1 (ex_inf 165).1) := ex_ts (y := (⟨"Callerhall", "countAway", "()I"⟩ : MethodName)) 33 rfl
theorem ts_34 : ex_tW (Cond.selects "Callerhall" (ex_inf 162).1 (ex_inf 162).1) := ex_ts (y := (⟨"Callerhall", "putAllHome", "()V"⟩ : MethodName)) 34 rfl
theorem ts_35 : ex_tW (Cond.selects "Callerhall" (ex_inf 147).1 (ex_inf 147).1) := ex_ts (y := (⟨"Callerhall", "checkDancer", "(I)V"⟩ : MethodName)) 35 rfl
theorem ts_36 : ex_tW (Cond.selects "Callerhall" (ex_inf 163).1 (ex_inf 163).1) := ex_ts (y := (⟨"Callerhall", "forgetPast", "()V"⟩ : MethodName)) 36 rfl
theorem ts_37 : ex_tW (Cond.selects "Callerhall" (ex_inf 148).1 (ex_inf 148).1) := ex_ts (y := (⟨"Callerhall", "checkPlace", "(III)V"⟩ : MethodName)) 37 rfl
theorem ts_38 : ex_tW (Cond.selects "Callerhall" (ex_inf 149).1 (ex_inf 149).1) := ex_ts (y := (⟨"Callerhall", "checkYear", "(I)V"⟩ : MethodName)) 38 rfl
theorem ts_39 : ex_tW (Cond.selects "Callerhall" (ex_inf 151).1 (ex_inf 151).1) := ex_ts (y := (⟨"Callerhall", "letterOf", "(C)I"⟩ : MethodName)) 39 rfl
theorem ts_40 : ex_tW (Cond.selects "Callerhall" (ex_inf 152).1 (ex_inf 152).1) := ex_ts (y := (⟨"Callerhall", "actOf", "(C)I"⟩ : MethodName)) 40 rfl
theorem ts_41 : ex_tW (Cond.selects "Callerhall" (ex_inf 153).1 (ex_inf 153).1) := ex_ts (y := (⟨"Callerhall", "whoOf", "(C)I"⟩ : MethodName)) 41 rfl
theorem ts_42 : ex_tW (Cond.selects "Callerhall" (ex_inf 154).1 (ex_inf 154).1) := ex_ts (y := (⟨"Callerhall", "conceptOf", "(C)I"⟩ : MethodName)) 42 rfl
theorem ts_43 : ex_tW (Cond.selects "Callerhall" (ex_inf 156).1 (ex_inf 156).1) := ex_ts (y := (⟨"Callerhall", "readCall", "(C)V"⟩ : MethodName)) 43 rfl
theorem ts_44 : ex_tW (Cond.selects "Callerhall" (ex_inf 157).1 (ex_inf 157).1) := ex_ts (y := (⟨"Callerhall", "judge", "(LCallerhall$Plan;ZII)V"⟩ : MethodName)) 44 rfl
theorem ts_45 : ex_tW (Cond.selects "Callerhall" (ex_inf 158).1 (ex_inf 158).1) := ex_ts (y := (⟨"Callerhall", "settle", "(I)V"⟩ : MethodName)) 45 rfl
theorem ts_46 : ex_tW (Cond.selects "Callerhall" (ex_inf 159).1 (ex_inf 159).1) := ex_ts (y := (⟨"Callerhall", "pairAll", "(II)V"⟩ : MethodName)) 46 rfl
theorem ts_47 : ex_tW (Cond.selects "Callerhall" (ex_inf 167).1 (ex_inf 167).1) := ex_ts (y := (⟨"Callerhall", "countOutside", "(I)I"⟩ : MethodName)) 47 rfl
theorem ts_48 : ex_tW (Cond.selects "Callerhall" (ex_inf 166).1 (ex_inf 166).1) := ex_ts (y := (⟨"Callerhall", "areHome", "([I[I[I)Z"⟩ : MethodName)) 48 rfl
theorem ts_49 : ex_tW (Cond.selects "Callerhall" (ex_inf 160).1 (ex_inf 160).1) := ex_ts (y := (⟨"Callerhall", "findLastAct", "(LCallerhall$Places;I)Z"⟩ : MethodName)) 49 rfl
theorem ts_50 : ex_tW (Cond.selects "Callerhall" (ex_inf 150).1 (ex_inf 150).1) := ex_ts (y := (⟨"Callerhall", "checkCouple", "(I)V"⟩ : MethodName)) 50 rfl
theorem ts_51 : ex_tW (Cond.selects "Callerhall" (ex_inf 164).1 (ex_inf 164).1) := ex_ts (y := (⟨"Callerhall", "spotOf", "(I)I"⟩ : MethodName)) 51 rfl
theorem ts_52 : ex_tW (Cond.selects "Callerhall" (ex_inf 161).1 (ex_inf 161).1) := ex_ts (y := (⟨"Callerhall", "isDoneInParts", "(I)Z"⟩ : MethodName)) 52 rfl
theorem ts_53 : ex_tW (Cond.selects "Callerhall" (ex_inf 155).1 (ex_inf 155).1) := ex_ts (y := (⟨"Callerhall", "indexIn", "(Ljava/lang/String;C)I"⟩ : MethodName)) 53 rfl
theorem ts_54 : ex_tW (Cond.selects "Callerhall" (ex_inf 168).1 (ex_inf 168).1) := ex_ts (y := (⟨"Callerhall", "isInShape", "(III)Z"⟩ : MethodName)) 54 rfl
theorem ts_55 : ex_tW (Cond.selects "CallerhallModel" (ex_inf 183).1 (ex_inf 183).1) := ex_ts (y := (⟨"CallerhallModel", "homes", "()[I"⟩ : MethodName)) 55 rfl
theorem ts_56 : ex_tW (Cond.selects "CallerhallModel" (ex_inf 184).1 (ex_inf 184).1) := ex_ts (y := (⟨"CallerhallModel", "puts", "([I)V"⟩ : MethodName)) 56 rfl
theorem ts_57 : ex_tW (Cond.selects "CallerhallModel" (ex_inf 181).1 (ex_inf 181).1) := ex_ts (y := (⟨"CallerhallModel", "no", "(ZI)Z"⟩ : MethodName)) 57 rfl
theorem ts_58 : ex_tW (Cond.selects "CallerhallModel" (ex_inf 189).1 (ex_inf 189).1) := ex_ts (y := (⟨"CallerhallModel", "tells", "()V"⟩ : MethodName)) 58 rfl
theorem ts_59 : ex_tW (Cond.selects "CallerhallModel" (ex_inf 185).1 (ex_inf 185).1) := ex_ts (y := (⟨"CallerhallModel", "row", "()[I"⟩ : MethodName)) 59 rfl
theorem ts_60 : ex_tW (Cond.selects "CallerhallModel" (ex_inf 182).1 (ex_inf 182).1) := ex_ts (y := (⟨"CallerhallModel", "noDancer", "(I)Z"⟩ : MethodName)) 60 rfl
theorem ts_61 : ex_tW (Cond.selects "CallerhallModel" (ex_inf 194).1 (ex_inf 194).1) := ex_ts (y := (⟨"CallerhallModel", "dancerAt", "(II)I"⟩ : MethodName)) 61 rfl
theorem ts_62 : ex_tW (Cond.selects "CallerhallModel" (ex_inf 206).1 (ex_inf 206).1) := ex_ts (y := (⟨"CallerhallModel", "of", "(CI)LCallerhallModel$Version;"⟩ : MethodName)) 62 rfl
theorem ts_63 : ex_tW (Cond.selects "CallerhallModel" (ex_inf 213).1 (ex_inf 213).1) := ex_ts (y := (⟨"CallerhallModel", "holding", "(C)LCallerhallModel$Version;"⟩ : MethodName)) 63 rfl
theorem ts_64 : ex_tW (Cond.selects "CallerhallModel" (ex_inf 214).1 (ex_inf 214).1) := ex_ts (y := (⟨"CallerhallModel", "callOf", "(CCC)LCallerhallModel$Call;"⟩ : MethodName)) 64 rfl
theorem ts_65 : ex_tW (Cond.selects "CallerhallModel" (ex_inf 215).1 (ex_inf 215).1) := ex_ts (y := (⟨"CallerhallModel", "noCall", "(C)Z"⟩ : MethodName)) 65 rfl
theorem ts_66 : ex_tW (Cond.selects "CallerhallModel" (ex_inf 219).1 (ex_inf 219).1) := ex_ts (y := (⟨"CallerhallModel", "skillOf", "(LCallerhallModel$Floor;I)I"⟩ : MethodName)) 66 rfl
theorem ts_67 : ex_tW (Cond.selects "CallerhallModel" (ex_inf 220).1 (ex_inf 220).1) := ex_ts (y := (⟨"CallerhallModel", "isOf", "(LCallerhallModel$Floor;IC)Z"⟩ : MethodName)) 67 rfl
theorem ts_68 : ex_tW (Cond.selects "CallerhallModel" (ex_inf 225).1 (ex_inf 225).1) := ex_ts (y := (⟨"CallerhallModel", "units", "(LCallerhallModel$Floor;C)LCallerhallModel$Floor;"⟩ : MethodName)) 68 rfl
theorem ts_69 : ex_tW (Cond.selects "CallerhallModel" (ex_inf 229).1 (ex_inf 229).1) := ex_ts (y := (⟨"CallerhallModel", "parts", "(LCallerhallModel$Floor;)Z"⟩ : MethodName)) 69 rfl
theorem ts_70 : ex_tW (Cond.selects "CallerhallModel" (ex_inf 239).1 (ex_inf 239).1) := ex_ts (y := (⟨"CallerhallModel", "counts", "(LCallerhallModel$Floor;II)V"⟩ : MethodName)) 70 rfl
theorem ts_71 : ex_tW (Cond.selects "CallerhallModel" (ex_inf 240).1 (ex_inf 240).1) := ex_ts (y := (⟨"CallerhallModel", "takes", "(LCallerhallModel$Floor;II)V"⟩ : MethodName)) 71 rfl
theorem ts_72 : ex_tW (Cond.selects "CallerhallModel" (ex_inf 238).1 (ex_inf 238).1) := ex_ts (y := (⟨"CallerhallModel", "turns", "(LCallerhallModel$Floor;II)V"⟩ : MethodName)) 72 rfl
theorem ts_73 : ex_tW (Cond.selects "CallerhallModel" (ex_inf 245).1 (ex_inf 245).1) := ex_ts (y := (⟨"CallerhallModel", "dances", "(LCallerhallModel$Floor;CIIIC[[I[I[I)V"⟩ : MethodName)) 73 rfl
theorem ts_74 : ex_tW (Cond.selects "CallerhallModel" (ex_inf 221).1 (ex_inf 221).1) := ex_ts (y := (⟨"CallerhallModel", "among", "(LCallerhallModel$Floor;C)[Z"⟩ : MethodName)) 74 rfl
theorem ts_75 : ex_tW (Cond.selects "CallerhallModel" (ex_inf 242).1 (ex_inf 242).1) := ex_ts (y := (⟨"CallerhallModel", "rounds", "(LCallerhallModel$Floor;III)V"⟩ : MethodName)) 75 rfl
theorem ts_76 : ex_tW (Cond.selects "CallerhallModel" (ex_inf 246).1 (ex_inf 246).1) := ex_ts (y := (⟨"CallerhallModel", "crosses", "(LCallerhallModel$Floor;I[II)V"⟩ : MethodName)) 76 rfl
theorem ts_77 : ex_tW (Cond.selects "CallerhallModel" (ex_inf 227).1 (ex_inf 227).1) := ex_ts (y := (⟨"CallerhallModel", "lower", "(LCallerhallModel$Floor;)Z"⟩ : MethodName)) 77 rfl
theorem ts_78 : ex_tW (Cond.selects "CallerhallModel" (ex_inf 244).1 (ex_inf 244).1) := ex_ts (y := (⟨"CallerhallModel", "dances", "(LCallerhallModel$Floor;CCI)Z"⟩ : MethodName)) 78 rfl
theorem ts_79 : ex_tW (Cond.selects "CallerhallModel" (ex_inf 224).1 (ex_inf 224).1) := ex_ts (y := (⟨"CallerhallModel", "raise", "(LCallerhallModel$Floor;C)LCallerhallModel$Floor;"⟩ : MethodName)) 79 rfl
theorem ts_80 : ex_tW (Cond.selects "CallerhallModel" (ex_inf 222).1 (ex_inf 222).1) := ex_ts (y := (⟨"CallerhallModel", "ground", "([I)LCallerhallModel$Floor;"⟩ : MethodName)) 80 rfl
theorem ts_81 : ex_tW (Cond.selects "CallerhallModel" (ex_inf 179).1 (ex_inf 179).1) := ex_ts (y := (⟨"CallerhallModel", "refuse", "(I)I"⟩ : MethodName)) 81 rfl
theorem ts_82 : ex_tW (Cond.selects "CallerhallModel" (ex_inf 249).1 (ex_inf 249).1) := ex_ts (y := (⟨"CallerhallModel", "flows", "([I[I[I[I)V"⟩ : MethodName)) 82 rfl
theorem ts_83 : ex_tW (Cond.selects "CallerhallModel" (ex_inf 250).1 (ex_inf 250).1) := ex_ts (y := (⟨"CallerhallModel", "beat", "(I)V"⟩ : MethodName)) 83 rfl
theorem ts_84 : ex_tW (Cond.selects "CallerhallModel" (ex_inf 247).1 (ex_inf 247).1) := ex_ts (y := (⟨"CallerhallModel", "runs", "([ILCallerhallModel$Call;I)[I"⟩ : MethodName)) 84 rfl
theorem ts_85 : ex_tW (Cond.selects "CallerhallModel" (ex_inf 248).1 (ex_inf 248).1) := ex_ts (y := (⟨"CallerhallModel", "cannot", "(CII)I"⟩ : MethodName)) 85 rfl
theorem ts_86 : ex_tW (Cond.selects "CallerhallModel" (ex_inf 253).1 (ex_inf 253).1) := ex_ts (y := (⟨"CallerhallModel", "firstHands", "(LCallerhallModel$Call;I[I)V"⟩ : MethodName)) 86 rfl
theorem ts_87 : ex_tW (Cond.selects "CallerhallModel" (ex_inf 265).1 (ex_inf 265).1) := ex_ts (y := (⟨"CallerhallModel", "placesOf", "(C)[I"⟩ : MethodName)) 87 rfl
theorem ts_88 : ex_tW (Cond.selects "CallerhallModel" (ex_inf 266).1 (ex_inf 266).1) := ex_ts (y := (⟨"CallerhallModel", "missing", "(C)I"⟩ : MethodName)) 88 rfl
theorem ts_89 : ex_tW (Cond.selects "CallerhallModel" (ex_inf 188).1 (ex_inf 188).1) := ex_ts (y := (⟨"CallerhallModel", "allHome", "([I)Z"⟩ : MethodName)) 89 rfl
theorem ts_90 : ex_tW (Cond.selects "CallerhallModel" (ex_inf 274).1 (ex_inf 274).1) := ex_ts (y := (⟨"CallerhallModel", "led", "([IC)[I"⟩ : MethodName)) 90 rfl
theorem ts_91 : ex_tW (Cond.selects "CallerhallModel" (ex_inf 282).1 (ex_inf 282).1) := ex_ts (y := (⟨"CallerhallModel", "metOf", "(II)I"⟩ : MethodName)) 91 rfl
theorem ts_92 : ex_tW (Cond.selects "CallerhallModel" (ex_inf 283).1 (ex_inf 283).1) := ex_ts (y := (⟨"CallerhallModel", "danced", "(I)I"⟩ : MethodName)) 92 rfl
theorem ts_93 : ex_tW (Cond.selects "java/util/ArrayList" (ex_inf 331).1 (ex_inf 331).1) := ex_ts (y := (⟨"java/util/ArrayList", "grow", "(I)[Ljava/lang/Object;"⟩ : MethodName)) 93 rfl
theorem ts_94 : ex_tW (Cond.selects "java/util/ArrayList" (ex_inf 332).1 (ex_inf 332).1) := ex_ts (y := (⟨"java/util/ArrayList", "grow", "()[Ljava/lang/Object;"⟩ : MethodName)) 94 rfl
theorem ts_95 : ex_tW (Cond.selects "java/util/ArrayList" (ex_inf 338).1 (ex_inf 338).1) := ex_ts (y := (⟨"java/util/ArrayList", "add", "(Ljava/lang/Object;[Ljava/lang/Object;I)V"⟩ : MethodName)) 95 rfl
theorem ts_96 : ex_tW (Cond.selects "java/util/ArrayList" (ex_inf 341).1 (ex_inf 341).1) := ex_ts (y := (⟨"java/util/ArrayList", "fastRemove", "([Ljava/lang/Object;I)V"⟩ : MethodName)) 96 rfl
theorem tw_0 : ex_tW (Jvm.Cond.initialized "CallerhallLaw") := ex_tt ex_q1 0 rfl rfl
theorem tw_1 : ex_tW (Jvm.Cond.initialized "Callerhall") := ex_tt ex_q1 1 rfl rfl
theorem tw_2 : ex_tW (Jvm.Cond.initialized "Callerhall$Places") := ex_tt ex_q1 2 rfl rfl
theorem tw_3 : ex_tW (Jvm.Cond.initialized "Callerhall$Stage") := ex_tt ex_q1 3 rfl rfl
theorem tw_4 : ex_tW (Jvm.Cond.initialized "Callerhall$Floor") := ex_tt ex_q1 4 rfl rfl
theorem tw_5 : ex_tW (Jvm.Cond.initialized "Callerhall$Steps") := ex_tt ex_q1 5 rfl rfl
theorem tw_6 : ex_tW (Jvm.Cond.initialized "Callerhall$Book") := ex_tt ex_q1 6 rfl rfl
theorem tw_7 : ex_tW (Jvm.Cond.initialized "Callerhall$Plan") := ex_tt ex_q1 7 rfl rfl
theorem tw_8 : ex_tW (Jvm.Cond.initialized "Callerhall$Past") := ex_tt ex_q1 8 rfl rfl
theorem tw_9 : ex_tW (Jvm.Cond.initialized "Callerhall$Flow") := ex_tt ex_q1 9 rfl rfl
theorem tw_10 : ex_tW (Jvm.Cond.initialized "Callerhall$Song") := ex_tt ex_q1 10 rfl rfl
theorem tw_11 : ex_tW (Jvm.Cond.initialized "Callerhall$Party") := ex_tt ex_q1 11 rfl rfl
theorem tw_12 : ex_tW (Jvm.Cond.initialized "Callerhall$Tally") := ex_tt ex_q1 12 rfl rfl
theorem tw_13 : ex_tW (Jvm.Cond.initialized "CallerhallModel") := ex_tt ex_q1 13 rfl rfl
theorem tw_14 : ex_tW (Jvm.Cond.initialized "java/util/AbstractCollection") := ex_tt ex_q1 14 rfl rfl
theorem tw_15 : ex_tW (Jvm.Cond.initialized "java/util/AbstractList") := ex_tt ex_q1 15 rfl rfl
theorem tw_16 : ex_tW (Jvm.Cond.initialized "java/util/ArrayList") := ex_tt ex_q1 16 rfl rfl
theorem tw_17 : ex_tW (Jvm.Cond.initialized "jdk/internal/util/ArraysSupport") := ex_tt ex_q1 17 rfl rfl
theorem tw_18 : ex_tW (Jvm.Cond.initialized "java/lang/Math") := ex_tt ex_q1 18 rfl rfl
theorem tw_19 : ex_tW (Jvm.Cond.initialized "java/util/Arrays") := ex_tt ex_q1 19 rfl rfl
theorem tw_24 : ex_tW (Jvm.Cond.initialized "java/lang/IndexOutOfBoundsException") := ex_tt ex_q1 24 rfl rfl
theorem tw_26 : ex_tW (Jvm.Cond.initialized "java/lang/String") := ex_tt ex_q1 26 rfl rfl
theorem tw_27 : ex_tW (Jvm.Cond.initialized "java/lang/IllegalArgumentException") := ex_tt ex_q1 27 rfl rfl
theorem tw_28 : ex_tW (Jvm.Cond.initialized "java/lang/UnsupportedOperationException") := ex_tt ex_q1 28 rfl rfl
theorem tw_29 : ex_tW (Jvm.Cond.initialized "java/util/NoSuchElementException") := ex_tt ex_q1 29 rfl rfl
theorem tw_30 : ex_tW (Jvm.Cond.initialized "java/lang/IllegalStateException") := ex_tt ex_q1 30 rfl rfl
theorem tw_31 : ex_tW (Jvm.Cond.initialized "java/util/ArrayList$Itr") := ex_tt ex_q1 31 rfl rfl
theorem tw_32 : ex_tW (Jvm.Cond.initialized "java/lang/StringLatin1") := ex_tt ex_q1 32 rfl rfl
theorem tw_33 : ex_tW (Jvm.Cond.initialized "java/lang/StringUTF16") := ex_tt ex_q1 33 rfl rfl
theorem tw_34 : ex_tW (Jvm.Cond.initialized "jdk/internal/util/Preconditions") := ex_tt ex_q1 34 rfl rfl
theorem tw_35 : ex_tW (Jvm.Cond.initialized "java/lang/Character") := ex_tt ex_q1 35 rfl rfl
theorem tw_36 : ex_tW (Jvm.Cond.initialized "java/util/Objects") := ex_tt ex_q1 36 rfl rfl
theorem tw_37 : ex_tW (Jvm.Cond.initialized "CallerhallModel$Version") := ex_tt ex_q1 37 rfl rfl
theorem tw_38 : ex_tW (Jvm.Cond.initialized "CallerhallModel$Call") := ex_tt ex_q1 38 rfl rfl
theorem tw_39 : ex_tW (Jvm.Cond.initialized "CallerhallModel$Floor") := ex_tt ex_q1 39 rfl rfl
theorem tw_41 : ex_tW (Jvm.Cond.initialized "java/lang/ArithmeticException") := ex_tt ex_q1 41 rfl rfl
theorem tw_42 : ex_tW (Jvm.Cond.classLink "CallerhallLaw" (8 : Nat) "Callerhall") := ex_tt ex_q1 42 rfl rfl
theorem tw_43 : ex_tW (Jvm.Cond.instantiable "Callerhall" (19 : Nat)) := ex_tt ex_q1 43 rfl rfl
theorem tw_44 : ex_tW (Jvm.Cond.methodLink "CallerhallLaw" (146 : Nat) ({ cls := "Callerhall", name := "<init>", desc := "()V" } : Jvm.MethodName)) := ex_tt ex_q1 44 rfl rfl
theorem tw_45 : ex_tW (Jvm.Cond.instanceMethod ({ cls := "Callerhall", name := "<init>", desc := "()V" } : Jvm.MethodName)) := ex_tt ex_q1 45 rfl rfl
theorem tw_46 : ex_tW (Jvm.Cond.code ({ cls := "Callerhall", name := "<init>", desc := "()V" } : Jvm.MethodName) prog_1_method_1_code (2 : Nat) (Option.none : Option Jvm.ClassFile.FieldType)) := ex_tt ex_q1 46 rfl rfl
theorem tw_47 : ex_tW (Jvm.Cond.methodLink "Callerhall" (1 : Nat) ({ cls := "java/lang/Object", name := "<init>", desc := "()V" } : Jvm.MethodName)) := ex_tt ex_q1 47 rfl rfl
theorem tw_48 : ex_tW (Jvm.Cond.instanceMethod ({ cls := "java/lang/Object", name := "<init>", desc := "()V" } : Jvm.MethodName)) := ex_tt ex_q1 48 rfl rfl
theorem tw_49 : ex_tW (Jvm.Cond.code ({ cls := "java/lang/Object", name := "<init>", desc := "()V" } : Jvm.MethodName) object_method_1_code (1 : Nat) (Option.none : Option Jvm.ClassFile.FieldType)) := ex_tt ex_q1 49 rfl rfl
theorem tw_50 : ex_tW (Jvm.Cond.classLink "Callerhall" (7 : Nat) "Callerhall$Places") := ex_tt ex_q1 50 rfl rfl
theorem tw_51 : ex_tW (Jvm.Cond.instantiable "Callerhall$Places" (4 : Nat)) := ex_tt ex_q1 51 rfl rfl
theorem tw_52 : (Jvm.Cond.methodLinkNest "Callerhall" (9 : Nat) ({ cls := "Callerhall$Places", name := "<init>", desc := "()V" } : Jvm.MethodName) "Callerhall") ∈ ex_TN := ex_twn ex_q1 52 rfl rfl
theorem tw_53 : ex_tW (Jvm.Cond.instanceMethod ({ cls := "Callerhall$Places", name := "<init>", desc := "()V" } : Jvm.MethodName)) := ex_tt ex_q1 53 rfl rfl
theorem tw_54 : ex_tW (Jvm.Cond.code ({ cls := "Callerhall$Places", name := "<init>", desc := "()V" } : Jvm.MethodName) prog_7_method_1_code (1 : Nat) (Option.none : Option Jvm.ClassFile.FieldType)) := ex_tt ex_q1 54 rfl rfl
theorem tw_55 : ex_tW (Jvm.Cond.methodLink "Callerhall$Places" (3 : Nat) ({ cls := "java/lang/Object", name := "<init>", desc := "()V" } : Jvm.MethodName)) := ex_tt ex_q1 55 rfl rfl
theorem tw_56 : ex_tW (Jvm.Cond.fieldLink "Callerhall$Places" (9 : Nat) "Callerhall$Places" "x" "[I") := ex_tt ex_q1 56 rfl rfl
theorem tw_57 : ex_tW (Jvm.Cond.fieldLink "Callerhall$Past" (36 : Nat) "Callerhall$Places" "x" "[I") := ex_tt ex_q1 57 rfl rfl
theorem tw_58 : ex_tW (Jvm.Cond.fieldLink "Callerhall" (133 : Nat) "Callerhall$Places" "x" "[I") := ex_tt ex_q1 58 rfl rfl
theorem tw_59 : ex_tW (Jvm.Cond.fieldLink "Callerhall$Floor" (67 : Nat) "Callerhall$Places" "x" "[I") := ex_tt ex_q1 59 rfl rfl
theorem tw_60 : ex_tW (Jvm.Cond.fieldLink "Callerhall$Places" (15 : Nat) "Callerhall$Places" "y" "[I") := ex_tt ex_q1 60 rfl rfl
theorem tw_61 : ex_tW (Jvm.Cond.fieldLink "Callerhall$Past" (42 : Nat) "Callerhall$Places" "y" "[I") := ex_tt ex_q1 61 rfl rfl
theorem tw_62 : ex_tW (Jvm.Cond.fieldLink "Callerhall$Floor" (70 : Nat) "Callerhall$Places" "y" "[I") := ex_tt ex_q1 62 rfl rfl
theorem tw_63 : ex_tW (Jvm.Cond.fieldLink "Callerhall" (136 : Nat) "Callerhall$Places" "y" "[I") := ex_tt ex_q1 63 rfl rfl
theorem tw_64 : ex_tW (Jvm.Cond.fieldLink "Callerhall$Places" (18 : Nat) "Callerhall$Places" "f" "[I") := ex_tt ex_q1 64 rfl rfl
theorem tw_65 : ex_tW (Jvm.Cond.fieldLink "Callerhall$Past" (45 : Nat) "Callerhall$Places" "f" "[I") := ex_tt ex_q1 65 rfl rfl
theorem tw_66 : ex_tW (Jvm.Cond.fieldLink "Callerhall$Floor" (71 : Nat) "Callerhall$Places" "f" "[I") := ex_tt ex_q1 66 rfl rfl
theorem tw_67 : ex_tW (Jvm.Cond.fieldLink "Callerhall" (139 : Nat) "Callerhall$Places" "f" "[I") := ex_tt ex_q1 67 rfl rfl
theorem tw_68 : ex_tW (Jvm.Cond.fieldLink "Callerhall$Places" (21 : Nat) "Callerhall$Places" "count" "I") := ex_tt ex_q1 68 rfl rfl
theorem tw_69 : ex_tW (Jvm.Cond.fieldLink "Callerhall" (106 : Nat) "Callerhall$Places" "count" "I") := ex_tt ex_q1 69 rfl rfl
theorem tw_70 : ex_tW (Jvm.Cond.fieldLink "Callerhall$Floor" (76 : Nat) "Callerhall$Places" "count" "I") := ex_tt ex_q1 70 rfl rfl
theorem tw_80 : ex_tW (Jvm.Cond.arrayClass Jvm.ClassFile.FieldType.int) := ex_tt ex_q1 80 rfl rfl
theorem tw_81 : ex_tW (Jvm.Cond.classLink "Callerhall" (29 : Nat) "Callerhall$Stage") := ex_tt ex_q1 81 rfl rfl
theorem tw_82 : ex_tW (Jvm.Cond.instantiable "Callerhall$Stage" (8 : Nat)) := ex_tt ex_q1 82 rfl rfl
theorem tw_83 : ex_tW (Jvm.Cond.methodLink "Callerhall" (31 : Nat) ({ cls := "Callerhall$Stage", name := "<init>", desc := "(LCallerhall$Places;)V" } : Jvm.MethodName)) := ex_tt ex_q1 83 rfl rfl
theorem tw_84 : ex_tW (Jvm.Cond.instanceMethod ({ cls := "Callerhall$Stage", name := "<init>", desc := "(LCallerhall$Places;)V" } : Jvm.MethodName)) := ex_tt ex_q1 84 rfl rfl
theorem tw_85 : ex_tW (Jvm.Cond.code ({ cls := "Callerhall$Stage", name := "<init>", desc := "(LCallerhall$Places;)V" } : Jvm.MethodName) prog_10_method_1_code (2 : Nat) (Option.none : Option Jvm.ClassFile.FieldType)) := ex_tt ex_q1 85 rfl rfl
theorem tw_86 : ex_tW (Jvm.Cond.methodLink "Callerhall$Stage" (3 : Nat) ({ cls := "java/lang/Object", name := "<init>", desc := "()V" } : Jvm.MethodName)) := ex_tt ex_q1 86 rfl rfl
theorem tw_87 : ex_tW (Jvm.Cond.classLink "Callerhall$Stage" (9 : Nat) "Callerhall$Floor") := ex_tt ex_q1 87 rfl rfl
theorem tw_88 : ex_tW (Jvm.Cond.instantiable "Callerhall$Floor" (16 : Nat)) := ex_tt ex_q1 88 rfl rfl
theorem tw_89 : (Jvm.Cond.methodLinkNest "Callerhall$Stage" (11 : Nat) ({ cls := "Callerhall$Floor", name := "<init>", desc := "()V" } : Jvm.MethodName) "Callerhall") ∈ ex_TN := ex_twn ex_q1 89 rfl rfl
theorem tw_90 : ex_tW (Jvm.Cond.instanceMethod ({ cls := "Callerhall$Floor", name := "<init>", desc := "()V" } : Jvm.MethodName)) := ex_tt ex_q1 90 rfl rfl
theorem tw_91 : ex_tW (Jvm.Cond.code ({ cls := "Callerhall$Floor", name := "<init>", desc := "()V" } : Jvm.MethodName) prog_3_method_1_code (1 : Nat) (Option.none : Option Jvm.ClassFile.FieldType)) := ex_tt ex_q1 91 rfl rfl
theorem tw_92 : ex_tW (Jvm.Cond.methodLink "Callerhall$Floor" (3 : Nat) ({ cls := "java/lang/Object", name := "<init>", desc := "()V" } : Jvm.MethodName)) := ex_tt ex_q1 92 rfl rfl
theorem tw_93 : ex_tW (Jvm.Cond.fieldLink "Callerhall$Floor" (9 : Nat) "Callerhall$Floor" "x" "[I") := ex_tt ex_q1 93 rfl rfl
theorem tw_94 : ex_tW (Jvm.Cond.fieldLink "Callerhall$Steps" (67 : Nat) "Callerhall$Floor" "x" "[I") := ex_tt ex_q1 94 rfl rfl
theorem tw_95 : ex_tW (Jvm.Cond.fieldLink "Callerhall$Places" (25 : Nat) "Callerhall$Floor" "x" "[I") := ex_tt ex_q1 95 rfl rfl
theorem tw_96 : ex_tW (Jvm.Cond.fieldLink "Callerhall" (447 : Nat) "Callerhall$Floor" "x" "[I") := ex_tt ex_q1 96 rfl rfl
theorem tw_97 : ex_tW (Jvm.Cond.fieldLink "Callerhall$Floor" (15 : Nat) "Callerhall$Floor" "y" "[I") := ex_tt ex_q1 97 rfl rfl
theorem tw_98 : ex_tW (Jvm.Cond.fieldLink "Callerhall$Steps" (75 : Nat) "Callerhall$Floor" "y" "[I") := ex_tt ex_q1 98 rfl rfl
theorem tw_99 : ex_tW (Jvm.Cond.fieldLink "Callerhall$Places" (28 : Nat) "Callerhall$Floor" "y" "[I") := ex_tt ex_q1 99 rfl rfl
theorem tw_100 : ex_tW (Jvm.Cond.fieldLink "Callerhall" (450 : Nat) "Callerhall$Floor" "y" "[I") := ex_tt ex_q1 100 rfl rfl
theorem tw_101 : ex_tW (Jvm.Cond.fieldLink "Callerhall$Floor" (18 : Nat) "Callerhall$Floor" "f" "[I") := ex_tt ex_q1 101 rfl rfl
theorem tw_102 : ex_tW (Jvm.Cond.fieldLink "Callerhall$Places" (29 : Nat) "Callerhall$Floor" "f" "[I") := ex_tt ex_q1 102 rfl rfl
theorem tw_103 : ex_tW (Jvm.Cond.fieldLink "Callerhall$Steps" (105 : Nat) "Callerhall$Floor" "f" "[I") := ex_tt ex_q1 103 rfl rfl
theorem tw_104 : ex_tW (Jvm.Cond.fieldLink "Callerhall$Stage" (159 : Nat) "Callerhall$Floor" "f" "[I") := ex_tt ex_q1 104 rfl rfl
theorem tw_105 : ex_tW (Jvm.Cond.fieldLink "Callerhall" (451 : Nat) "Callerhall$Floor" "f" "[I") := ex_tt ex_q1 105 rfl rfl
theorem tw_106 : ex_tW (Jvm.Cond.fieldLink "Callerhall$Floor" (21 : Nat) "Callerhall$Floor" "number" "[I") := ex_tt ex_q1 106 rfl rfl
theorem tw_107 : ex_tW (Jvm.Cond.fieldLink "Callerhall$Steps" (102 : Nat) "Callerhall$Floor" "number" "[I") := ex_tt ex_q1 107 rfl rfl
theorem tw_108 : ex_tW (Jvm.Cond.fieldLink "Callerhall$Floor" (24 : Nat) "Callerhall$Floor" "ability" "[I") := ex_tt ex_q1 108 rfl rfl
theorem tw_109 : ex_tW (Jvm.Cond.fieldLink "Callerhall$Steps" (78 : Nat) "Callerhall$Floor" "ability" "[I") := ex_tt ex_q1 109 rfl rfl
theorem tw_110 : ex_tW (Jvm.Cond.fieldLink "Callerhall$Floor" (27 : Nat) "Callerhall$Floor" "groups" "[I") := ex_tt ex_q1 110 rfl rfl
theorem tw_111 : ex_tW (Jvm.Cond.fieldLink "Callerhall$Steps" (60 : Nat) "Callerhall$Floor" "groups" "[I") := ex_tt ex_q1 111 rfl rfl
theorem tw_112 : ex_tW (Jvm.Cond.fieldLink "Callerhall$Floor" (30 : Nat) "Callerhall$Floor" "wasX" "[I") := ex_tt ex_q1 112 rfl rfl
theorem tw_113 : ex_tW (Jvm.Cond.fieldLink "Callerhall$Floor" (33 : Nat) "Callerhall$Floor" "wasY" "[I") := ex_tt ex_q1 113 rfl rfl
theorem tw_114 : ex_tW (Jvm.Cond.fieldLink "Callerhall$Floor" (36 : Nat) "Callerhall$Floor" "turns" "[I") := ex_tt ex_q1 114 rfl rfl
theorem tw_115 : ex_tW (Jvm.Cond.fieldLink "Callerhall$Flow" (28 : Nat) "Callerhall$Floor" "turns" "[I") := ex_tt ex_q1 115 rfl rfl
theorem tw_116 : ex_tW (Jvm.Cond.fieldLink "Callerhall" (452 : Nat) "Callerhall$Floor" "turns" "[I") := ex_tt ex_q1 116 rfl rfl
theorem tw_117 : ex_tW (Jvm.Cond.fieldLink "Callerhall$Floor" (39 : Nat) "Callerhall$Floor" "firstHand" "[I") := ex_tt ex_q1 117 rfl rfl
theorem tw_118 : ex_tW (Jvm.Cond.fieldLink "Callerhall$Flow" (33 : Nat) "Callerhall$Floor" "firstHand" "[I") := ex_tt ex_q1 118 rfl rfl
theorem tw_119 : ex_tW (Jvm.Cond.fieldLink "Callerhall$Floor" (42 : Nat) "Callerhall$Floor" "lastHand" "[I") := ex_tt ex_q1 119 rfl rfl
theorem tw_120 : ex_tW (Jvm.Cond.fieldLink "Callerhall$Flow" (36 : Nat) "Callerhall$Floor" "lastHand" "[I") := ex_tt ex_q1 120 rfl rfl
theorem tw_121 : ex_tW (Jvm.Cond.fieldLink "Callerhall$Floor" (45 : Nat) "Callerhall$Floor" "lead" "[I") := ex_tt ex_q1 121 rfl rfl
theorem tw_122 : ex_tW (Jvm.Cond.fieldLink "Callerhall$Floor" (48 : Nat) "Callerhall$Floor" "trail" "[I") := ex_tt ex_q1 122 rfl rfl
theorem tw_123 : ex_tW (Jvm.Cond.fieldLink "Callerhall$Floor" (51 : Nat) "Callerhall$Floor" "passing" "[Z") := ex_tt ex_q1 123 rfl rfl
theorem tw_124 : ex_tW (Jvm.Cond.fieldLink "Callerhall$Floor" (55 : Nat) "Callerhall$Floor" "count" "I") := ex_tt ex_q1 124 rfl rfl
theorem tw_125 : ex_tW (Jvm.Cond.fieldLink "Callerhall$Steps" (51 : Nat) "Callerhall$Floor" "count" "I") := ex_tt ex_q1 125 rfl rfl
theorem tw_126 : ex_tW (Jvm.Cond.fieldLink "Callerhall$Stage" (146 : Nat) "Callerhall$Floor" "count" "I") := ex_tt ex_q1 126 rfl rfl
theorem tw_127 : ex_tW (Jvm.Cond.fieldLink "Callerhall$Floor" (59 : Nat) "Callerhall$Floor" "isCounting" "Z") := ex_tt ex_q1 127 rfl rfl
theorem tw_128 : ex_tW (Jvm.Cond.fieldLink "Callerhall$Stage" (94 : Nat) "Callerhall$Floor" "isCounting" "Z") := ex_tt ex_q1 128 rfl rfl
theorem tw_162 : ex_tW (Jvm.Cond.arrayClass Jvm.ClassFile.FieldType.boolean) := ex_tt ex_q1 162 rfl rfl
theorem tw_163 : ex_tW (Jvm.Cond.classLink "Callerhall$Stage" (24 : Nat) "Callerhall$Steps") := ex_tt ex_q1 163 rfl rfl
theorem tw_164 : ex_tW (Jvm.Cond.instantiable "Callerhall$Steps" (12 : Nat)) := ex_tt ex_q1 164 rfl rfl
theorem tw_165 : (Jvm.Cond.methodLinkNest "Callerhall$Stage" (26 : Nat) ({ cls := "Callerhall$Steps", name := "<init>", desc := "()V" } : Jvm.MethodName) "Callerhall") ∈ ex_TN := ex_twn ex_q1 165 rfl rfl
theorem tw_166 : ex_tW (Jvm.Cond.instanceMethod ({ cls := "Callerhall$Steps", name := "<init>", desc := "()V" } : Jvm.MethodName)) := ex_tt ex_q1 166 rfl rfl
theorem tw_167 : ex_tW (Jvm.Cond.code ({ cls := "Callerhall$Steps", name := "<init>", desc := "()V" } : Jvm.MethodName) prog_11_method_1_code (1 : Nat) (Option.none : Option Jvm.ClassFile.FieldType)) := ex_tt ex_q1 167 rfl rfl
theorem tw_168 : ex_tW (Jvm.Cond.methodLink "Callerhall$Steps" (3 : Nat) ({ cls := "java/lang/Object", name := "<init>", desc := "()V" } : Jvm.MethodName)) := ex_tt ex_q1 168 rfl rfl
theorem tw_169 : ex_tW (Jvm.Cond.fieldLink "Callerhall$Steps" (9 : Nat) "Callerhall$Steps" "told" "[Z") := ex_tt ex_q1 169 rfl rfl
theorem tw_170 : ex_tW (Jvm.Cond.fieldLink "Callerhall" (312 : Nat) "Callerhall$Steps" "told" "[Z") := ex_tt ex_q1 170 rfl rfl
theorem tw_171 : ex_tW (Jvm.Cond.fieldLink "Callerhall$Steps" (15 : Nat) "Callerhall$Steps" "isDancing" "[Z") := ex_tt ex_q1 171 rfl rfl
theorem tw_172 : ex_tW (Jvm.Cond.fieldLink "Callerhall$Steps" (18 : Nat) "Callerhall$Steps" "order" "[I") := ex_tt ex_q1 172 rfl rfl
theorem tw_173 : ex_tW (Jvm.Cond.fieldLink "Callerhall$Steps" (22 : Nat) "Callerhall$Steps" "zone" "[I") := ex_tt ex_q1 173 rfl rfl
theorem tw_174 : ex_tW (Jvm.Cond.fieldLink "Callerhall$Steps" (25 : Nat) "Callerhall$Steps" "mate" "[I") := ex_tt ex_q1 174 rfl rfl
theorem tw_175 : ex_tW (Jvm.Cond.fieldLink "Callerhall$Stage" (153 : Nat) "Callerhall$Steps" "mate" "[I") := ex_tt ex_q1 175 rfl rfl
theorem tw_176 : ex_tW (Jvm.Cond.fieldLink "Callerhall" (319 : Nat) "Callerhall$Steps" "mate" "[I") := ex_tt ex_q1 176 rfl rfl
theorem tw_177 : ex_tW (Jvm.Cond.fieldLink "Callerhall$Steps" (28 : Nat) "Callerhall$Steps" "kind" "[I") := ex_tt ex_q1 177 rfl rfl
theorem tw_178 : ex_tW (Jvm.Cond.fieldLink "Callerhall$Stage" (156 : Nat) "Callerhall$Steps" "kind" "[I") := ex_tt ex_q1 178 rfl rfl
theorem tw_179 : ex_tW (Jvm.Cond.fieldLink "Callerhall" (322 : Nat) "Callerhall$Steps" "kind" "[I") := ex_tt ex_q1 179 rfl rfl
theorem tw_180 : ex_tW (Jvm.Cond.fieldLink "Callerhall$Steps" (31 : Nat) "Callerhall$Steps" "isBoxed" "[Z") := ex_tt ex_q1 180 rfl rfl
theorem tw_181 : ex_tW (Jvm.Cond.fieldLink "Callerhall$Steps" (34 : Nat) "Callerhall$Steps" "boxX" "[I") := ex_tt ex_q1 181 rfl rfl
theorem tw_182 : ex_tW (Jvm.Cond.fieldLink "Callerhall$Steps" (37 : Nat) "Callerhall$Steps" "boxY" "[I") := ex_tt ex_q1 182 rfl rfl
theorem tw_183 : ex_tW (Jvm.Cond.fieldLink "Callerhall$Steps" (40 : Nat) "Callerhall$Steps" "spacing" "I") := ex_tt ex_q1 183 rfl rfl
theorem tw_184 : ex_tW (Jvm.Cond.fieldLink "Callerhall$Steps" (44 : Nat) "Callerhall$Steps" "isPartedByX" "Z") := ex_tt ex_q1 184 rfl rfl
theorem tw_185 : ex_tW (Jvm.Cond.fieldLink "Callerhall$Steps" (48 : Nat) "Callerhall$Steps" "isPartedByY" "Z") := ex_tt ex_q1 185 rfl rfl
theorem tw_211 : ex_tW (Jvm.Cond.fieldLink "Callerhall$Stage" (12 : Nat) "Callerhall$Stage" "ground" "LCallerhall$Floor;") := ex_tt ex_q1 211 rfl rfl
theorem tw_212 : ex_tW (Jvm.Cond.fieldLink "Callerhall" (303 : Nat) "Callerhall$Stage" "ground" "LCallerhall$Floor;") := ex_tt ex_q1 212 rfl rfl
theorem tw_213 : ex_tW (Jvm.Cond.fieldLink "Callerhall$Stage" (18 : Nat) "Callerhall$Stage" "middle" "LCallerhall$Floor;") := ex_tt ex_q1 213 rfl rfl
theorem tw_214 : ex_tW (Jvm.Cond.fieldLink "Callerhall$Stage" (21 : Nat) "Callerhall$Stage" "top" "LCallerhall$Floor;") := ex_tt ex_q1 214 rfl rfl
theorem tw_215 : ex_tW (Jvm.Cond.fieldLink "Callerhall$Stage" (27 : Nat) "Callerhall$Stage" "steps" "LCallerhall$Steps;") := ex_tt ex_q1 215 rfl rfl
theorem tw_216 : ex_tW (Jvm.Cond.fieldLink "Callerhall" (299 : Nat) "Callerhall$Stage" "steps" "LCallerhall$Steps;") := ex_tt ex_q1 216 rfl rfl
theorem tw_217 : ex_tW (Jvm.Cond.fieldLink "Callerhall$Stage" (42 : Nat) "Callerhall$Stage" "phantoms" "LCallerhall$Places;") := ex_tt ex_q1 217 rfl rfl
theorem tw_218 : ex_tW (Jvm.Cond.fieldLink "Callerhall$Stage" (31 : Nat) "Callerhall$Stage" "depth" "I") := ex_tt ex_q1 218 rfl rfl
theorem tw_219 : ex_tW (Jvm.Cond.fieldLink "Callerhall$Stage" (35 : Nat) "Callerhall$Stage" "reason" "C") := ex_tt ex_q1 219 rfl rfl
theorem tw_220 : ex_tW (Jvm.Cond.fieldLink "Callerhall$Stage" (39 : Nat) "Callerhall$Stage" "culprit" "I") := ex_tt ex_q1 220 rfl rfl
theorem tw_221 : ex_tW (Jvm.Cond.fieldLink "Callerhall" (434 : Nat) "Callerhall$Stage" "culprit" "I") := ex_tt ex_q1 221 rfl rfl
theorem tw_239 : ex_tW (Jvm.Cond.classLink "Callerhall" (38 : Nat) "Callerhall$Book") := ex_tt ex_q1 239 rfl rfl
theorem tw_240 : ex_tW (Jvm.Cond.instantiable "Callerhall$Book" (7 : Nat)) := ex_tt ex_q2 0 rfl rfl
theorem tw_241 : (Jvm.Cond.methodLinkNest "Callerhall" (40 : Nat) ({ cls := "Callerhall$Book", name := "<init>", desc := "()V" } : Jvm.MethodName) "Callerhall") ∈ ex_TN := ex_twn ex_q2 1 rfl rfl
theorem tw_242 : ex_tW (Jvm.Cond.instanceMethod ({ cls := "Callerhall$Book", name := "<init>", desc := "()V" } : Jvm.MethodName)) := ex_tt ex_q2 2 rfl rfl
theorem tw_243 : ex_tW (Jvm.Cond.code ({ cls := "Callerhall$Book", name := "<init>", desc := "()V" } : Jvm.MethodName) prog_2_method_1_code (1 : Nat) (Option.none : Option Jvm.ClassFile.FieldType)) := ex_tt ex_q2 3 rfl rfl
theorem tw_244 : ex_tW (Jvm.Cond.methodLink "Callerhall$Book" (1 : Nat) ({ cls := "java/lang/Object", name := "<init>", desc := "()V" } : Jvm.MethodName)) := ex_tt ex_q2 4 rfl rfl
theorem tw_245 : ex_tW (Jvm.Cond.classLink "Callerhall$Book" (22 : Nat) "[[I") := ex_tt ex_q2 5 rfl rfl
theorem tw_247 : ex_tW (Jvm.Cond.fieldLink "Callerhall$Book" (9 : Nat) "Callerhall$Book" "versions" "[I") := ex_tt ex_q2 7 rfl rfl
theorem tw_248 : ex_tW (Jvm.Cond.fieldLink "Callerhall$Book" (13 : Nat) "Callerhall$Book" "years" "[I") := ex_tt ex_q2 8 rfl rfl
theorem tw_249 : ex_tW (Jvm.Cond.fieldLink "Callerhall$Book" (16 : Nat) "Callerhall$Book" "actCounts" "[I") := ex_tt ex_q2 9 rfl rfl
theorem tw_250 : ex_tW (Jvm.Cond.fieldLink "Callerhall$Plan" (61 : Nat) "Callerhall$Book" "actCounts" "[I") := ex_tt ex_q2 10 rfl rfl
theorem tw_251 : ex_tW (Jvm.Cond.fieldLink "Callerhall$Book" (19 : Nat) "Callerhall$Book" "beatsTold" "[I") := ex_tt ex_q2 11 rfl rfl
theorem tw_252 : ex_tW (Jvm.Cond.fieldLink "Callerhall$Plan" (71 : Nat) "Callerhall$Book" "beatsTold" "[I") := ex_tt ex_q2 12 rfl rfl
theorem tw_253 : ex_tW (Jvm.Cond.fieldLink "Callerhall" (215 : Nat) "Callerhall$Book" "beatsTold" "[I") := ex_tt ex_q2 13 rfl rfl
theorem tw_254 : ex_tW (Jvm.Cond.fieldLink "Callerhall$Book" (24 : Nat) "Callerhall$Book" "acts" "[[I") := ex_tt ex_q2 14 rfl rfl
theorem tw_255 : ex_tW (Jvm.Cond.fieldLink "Callerhall$Plan" (64 : Nat) "Callerhall$Book" "acts" "[[I") := ex_tt ex_q2 15 rfl rfl
theorem tw_256 : ex_tW (Jvm.Cond.fieldLink "Callerhall$Book" (27 : Nat) "Callerhall$Book" "whos" "[[I") := ex_tt ex_q2 16 rfl rfl
theorem tw_257 : ex_tW (Jvm.Cond.fieldLink "Callerhall$Plan" (67 : Nat) "Callerhall$Book" "whos" "[[I") := ex_tt ex_q2 17 rfl rfl
theorem tw_258 : ex_tW (Jvm.Cond.fieldLink "Callerhall$Book" (30 : Nat) "Callerhall$Book" "concepts" "[[I") := ex_tt ex_q2 18 rfl rfl
theorem tw_259 : ex_tW (Jvm.Cond.fieldLink "Callerhall$Plan" (69 : Nat) "Callerhall$Book" "concepts" "[[I") := ex_tt ex_q2 19 rfl rfl
theorem tw_275 : ex_tW (Jvm.Cond.classLink "Callerhall" (45 : Nat) "Callerhall$Plan") := ex_tt ex_q2 35 rfl rfl
theorem tw_276 : ex_tW (Jvm.Cond.instantiable "Callerhall$Plan" (9 : Nat)) := ex_tt ex_q2 36 rfl rfl
theorem tw_277 : (Jvm.Cond.methodLinkNest "Callerhall" (47 : Nat) ({ cls := "Callerhall$Plan", name := "<init>", desc := "()V" } : Jvm.MethodName) "Callerhall") ∈ ex_TN := ex_twn ex_q2 37 rfl rfl
theorem tw_278 : ex_tW (Jvm.Cond.instanceMethod ({ cls := "Callerhall$Plan", name := "<init>", desc := "()V" } : Jvm.MethodName)) := ex_tt ex_q2 38 rfl rfl
theorem tw_279 : ex_tW (Jvm.Cond.code ({ cls := "Callerhall$Plan", name := "<init>", desc := "()V" } : Jvm.MethodName) prog_8_method_1_code (1 : Nat) (Option.none : Option Jvm.ClassFile.FieldType)) := ex_tt ex_q2 39 rfl rfl
theorem tw_280 : ex_tW (Jvm.Cond.methodLink "Callerhall$Plan" (3 : Nat) ({ cls := "java/lang/Object", name := "<init>", desc := "()V" } : Jvm.MethodName)) := ex_tt ex_q2 40 rfl rfl
theorem tw_281 : ex_tW (Jvm.Cond.fieldLink "Callerhall$Plan" (11 : Nat) "Callerhall$Plan" "acts" "[I") := ex_tt ex_q2 41 rfl rfl
theorem tw_282 : ex_tW (Jvm.Cond.fieldLink "Callerhall$Stage" (62 : Nat) "Callerhall$Plan" "acts" "[I") := ex_tt ex_q2 42 rfl rfl
theorem tw_283 : ex_tW (Jvm.Cond.fieldLink "Callerhall$Plan" (17 : Nat) "Callerhall$Plan" "whos" "[I") := ex_tt ex_q2 43 rfl rfl
theorem tw_284 : ex_tW (Jvm.Cond.fieldLink "Callerhall$Stage" (125 : Nat) "Callerhall$Plan" "whos" "[I") := ex_tt ex_q2 44 rfl rfl
theorem tw_285 : ex_tW (Jvm.Cond.fieldLink "Callerhall$Plan" (20 : Nat) "Callerhall$Plan" "concepts" "[I") := ex_tt ex_q2 45 rfl rfl
theorem tw_286 : ex_tW (Jvm.Cond.fieldLink "Callerhall$Plan" (23 : Nat) "Callerhall$Plan" "actCount" "I") := ex_tt ex_q2 46 rfl rfl
theorem tw_287 : ex_tW (Jvm.Cond.fieldLink "Callerhall$Stage" (59 : Nat) "Callerhall$Plan" "actCount" "I") := ex_tt ex_q2 47 rfl rfl
theorem tw_288 : ex_tW (Jvm.Cond.fieldLink "Callerhall$Plan" (27 : Nat) "Callerhall$Plan" "concept" "I") := ex_tt ex_q2 48 rfl rfl
theorem tw_289 : ex_tW (Jvm.Cond.fieldLink "Callerhall$Stage" (50 : Nat) "Callerhall$Plan" "concept" "I") := ex_tt ex_q2 49 rfl rfl
theorem tw_290 : ex_tW (Jvm.Cond.fieldLink "Callerhall$Plan" (30 : Nat) "Callerhall$Plan" "partCount" "I") := ex_tt ex_q2 50 rfl rfl
theorem tw_291 : ex_tW (Jvm.Cond.fieldLink "Callerhall" (225 : Nat) "Callerhall$Plan" "partCount" "I") := ex_tt ex_q2 51 rfl rfl
theorem tw_292 : ex_tW (Jvm.Cond.fieldLink "Callerhall$Plan" (33 : Nat) "Callerhall$Plan" "beatCount" "I") := ex_tt ex_q2 52 rfl rfl
theorem tw_293 : ex_tW (Jvm.Cond.fieldLink "Callerhall" (218 : Nat) "Callerhall$Plan" "beatCount" "I") := ex_tt ex_q2 53 rfl rfl
theorem tw_294 : ex_tW (Jvm.Cond.fieldLink "Callerhall$Plan" (36 : Nat) "Callerhall$Plan" "highest" "I") := ex_tt ex_q2 54 rfl rfl
theorem tw_295 : ex_tW (Jvm.Cond.fieldLink "Callerhall" (228 : Nat) "Callerhall$Plan" "highest" "I") := ex_tt ex_q2 55 rfl rfl
theorem tw_296 : ex_tW (Jvm.Cond.fieldLink "Callerhall$Plan" (39 : Nat) "Callerhall$Plan" "done" "I") := ex_tt ex_q2 56 rfl rfl
theorem tw_297 : ex_tW (Jvm.Cond.fieldLink "Callerhall" (270 : Nat) "Callerhall$Plan" "done" "I") := ex_tt ex_q2 57 rfl rfl
theorem tw_317 : ex_tW (Jvm.Cond.classLink "Callerhall" (55 : Nat) "Callerhall$Past") := ex_tt ex_q2 77 rfl rfl
theorem tw_318 : ex_tW (Jvm.Cond.instantiable "Callerhall$Past" (4 : Nat)) := ex_tt ex_q2 78 rfl rfl
theorem tw_319 : (Jvm.Cond.methodLinkNest "Callerhall" (57 : Nat) ({ cls := "Callerhall$Past", name := "<init>", desc := "()V" } : Jvm.MethodName) "Callerhall") ∈ ex_TN := ex_twn ex_q2 79 rfl rfl
theorem tw_320 : ex_tW (Jvm.Cond.instanceMethod ({ cls := "Callerhall$Past", name := "<init>", desc := "()V" } : Jvm.MethodName)) := ex_tt ex_q2 80 rfl rfl
theorem tw_321 : ex_tW (Jvm.Cond.code ({ cls := "Callerhall$Past", name := "<init>", desc := "()V" } : Jvm.MethodName) prog_6_method_1_code (1 : Nat) (Option.none : Option Jvm.ClassFile.FieldType)) := ex_tt ex_q2 81 rfl rfl
theorem tw_322 : ex_tW (Jvm.Cond.methodLink "Callerhall$Past" (3 : Nat) ({ cls := "java/lang/Object", name := "<init>", desc := "()V" } : Jvm.MethodName)) := ex_tt ex_q2 82 rfl rfl
theorem tw_323 : ex_tW (Jvm.Cond.classLink "Callerhall$Past" (9 : Nat) "[[I") := ex_tt ex_q2 83 rfl rfl
theorem tw_324 : ex_tW (Jvm.Cond.fieldLink "Callerhall$Past" (11 : Nat) "Callerhall$Past" "rows" "[[I") := ex_tt ex_q2 84 rfl rfl
theorem tw_325 : ex_tW (Jvm.Cond.fieldLink "Callerhall$Past" (16 : Nat) "Callerhall$Past" "letters" "[C") := ex_tt ex_q2 85 rfl rfl
theorem tw_326 : ex_tW (Jvm.Cond.fieldLink "Callerhall$Past" (20 : Nat) "Callerhall$Past" "newest" "I") := ex_tt ex_q2 86 rfl rfl
theorem tw_327 : ex_tW (Jvm.Cond.fieldLink "Callerhall$Past" (24 : Nat) "Callerhall$Past" "size" "I") := ex_tt ex_q2 87 rfl rfl
theorem tw_328 : ex_tW (Jvm.Cond.fieldLink "Callerhall" (287 : Nat) "Callerhall$Past" "size" "I") := ex_tt ex_q2 88 rfl rfl
theorem tw_338 : ex_tW (Jvm.Cond.arrayClass Jvm.ClassFile.FieldType.char) := ex_tt ex_q2 98 rfl rfl
theorem tw_339 : ex_tW (Jvm.Cond.classLink "Callerhall" (62 : Nat) "Callerhall$Flow") := ex_tt ex_q2 99 rfl rfl
theorem tw_340 : ex_tW (Jvm.Cond.instantiable "Callerhall$Flow" (5 : Nat)) := ex_tt ex_q2 100 rfl rfl
theorem tw_341 : (Jvm.Cond.methodLinkNest "Callerhall" (64 : Nat) ({ cls := "Callerhall$Flow", name := "<init>", desc := "()V" } : Jvm.MethodName) "Callerhall") ∈ ex_TN := ex_twn ex_q2 101 rfl rfl
theorem tw_342 : ex_tW (Jvm.Cond.instanceMethod ({ cls := "Callerhall$Flow", name := "<init>", desc := "()V" } : Jvm.MethodName)) := ex_tt ex_q2 102 rfl rfl
theorem tw_343 : ex_tW (Jvm.Cond.code ({ cls := "Callerhall$Flow", name := "<init>", desc := "()V" } : Jvm.MethodName) prog_4_method_1_code (1 : Nat) (Option.none : Option Jvm.ClassFile.FieldType)) := ex_tt ex_q2 103 rfl rfl
theorem tw_344 : ex_tW (Jvm.Cond.methodLink "Callerhall$Flow" (3 : Nat) ({ cls := "java/lang/Object", name := "<init>", desc := "()V" } : Jvm.MethodName)) := ex_tt ex_q2 104 rfl rfl
theorem tw_345 : ex_tW (Jvm.Cond.fieldLink "Callerhall$Flow" (9 : Nat) "Callerhall$Flow" "lastTurns" "[I") := ex_tt ex_q2 105 rfl rfl
theorem tw_346 : ex_tW (Jvm.Cond.fieldLink "Callerhall" (340 : Nat) "Callerhall$Flow" "lastTurns" "[I") := ex_tt ex_q2 106 rfl rfl
theorem tw_347 : ex_tW (Jvm.Cond.fieldLink "Callerhall$Flow" (15 : Nat) "Callerhall$Flow" "flowing" "[I") := ex_tt ex_q2 107 rfl rfl
theorem tw_348 : ex_tW (Jvm.Cond.fieldLink "Callerhall$Flow" (18 : Nat) "Callerhall$Flow" "hands" "[I") := ex_tt ex_q2 108 rfl rfl
theorem tw_349 : ex_tW (Jvm.Cond.fieldLink "Callerhall$Flow" (21 : Nat) "Callerhall$Flow" "breaks" "I") := ex_tt ex_q2 109 rfl rfl
theorem tw_350 : ex_tW (Jvm.Cond.fieldLink "Callerhall" (343 : Nat) "Callerhall$Flow" "breaks" "I") := ex_tt ex_q2 110 rfl rfl
theorem tw_351 : ex_tW (Jvm.Cond.fieldLink "Callerhall$Flow" (25 : Nat) "Callerhall$Flow" "clashCount" "I") := ex_tt ex_q2 111 rfl rfl
theorem tw_352 : ex_tW (Jvm.Cond.fieldLink "Callerhall" (346 : Nat) "Callerhall$Flow" "clashCount" "I") := ex_tt ex_q2 112 rfl rfl
theorem tw_364 : ex_tW (Jvm.Cond.classLink "Callerhall" (69 : Nat) "Callerhall$Song") := ex_tt ex_q2 124 rfl rfl
theorem tw_365 : ex_tW (Jvm.Cond.instantiable "Callerhall$Song" (4 : Nat)) := ex_tt ex_q2 125 rfl rfl
theorem tw_366 : (Jvm.Cond.methodLinkNest "Callerhall" (71 : Nat) ({ cls := "Callerhall$Song", name := "<init>", desc := "()V" } : Jvm.MethodName) "Callerhall") ∈ ex_TN := ex_twn ex_q2 126 rfl rfl
theorem tw_367 : ex_tW (Jvm.Cond.instanceMethod ({ cls := "Callerhall$Song", name := "<init>", desc := "()V" } : Jvm.MethodName)) := ex_tt ex_q2 127 rfl rfl
theorem tw_368 : ex_tW (Jvm.Cond.code ({ cls := "Callerhall$Song", name := "<init>", desc := "()V" } : Jvm.MethodName) prog_9_method_1_code (1 : Nat) (Option.none : Option Jvm.ClassFile.FieldType)) := ex_tt ex_q2 128 rfl rfl
theorem tw_369 : ex_tW (Jvm.Cond.methodLink "Callerhall$Song" (1 : Nat) ({ cls := "java/lang/Object", name := "<init>", desc := "()V" } : Jvm.MethodName)) := ex_tt ex_q2 129 rfl rfl
theorem tw_370 : ex_tW (Jvm.Cond.fieldLink "Callerhall$Song" (7 : Nat) "Callerhall$Song" "figure" "I") := ex_tt ex_q2 130 rfl rfl
theorem tw_371 : ex_tW (Jvm.Cond.fieldLink "Callerhall" (365 : Nat) "Callerhall$Song" "figure" "I") := ex_tt ex_q2 131 rfl rfl
theorem tw_372 : ex_tW (Jvm.Cond.fieldLink "Callerhall$Song" (13 : Nat) "Callerhall$Song" "done" "I") := ex_tt ex_q2 132 rfl rfl
theorem tw_373 : ex_tW (Jvm.Cond.fieldLink "Callerhall" (361 : Nat) "Callerhall$Song" "done" "I") := ex_tt ex_q2 133 rfl rfl
theorem tw_374 : ex_tW (Jvm.Cond.fieldLink "Callerhall$Song" (16 : Nat) "Callerhall$Song" "rightsGone" "I") := ex_tt ex_q2 134 rfl rfl
theorem tw_375 : ex_tW (Jvm.Cond.fieldLink "Callerhall" (368 : Nat) "Callerhall$Song" "rightsGone" "I") := ex_tt ex_q2 135 rfl rfl
theorem tw_376 : ex_tW (Jvm.Cond.fieldLink "Callerhall$Song" (19 : Nat) "Callerhall$Song" "doneInAll" "J") := ex_tt ex_q2 136 rfl rfl
theorem tw_377 : ex_tW (Jvm.Cond.fieldLink "Callerhall" (393 : Nat) "Callerhall$Song" "doneInAll" "J") := ex_tt ex_q2 137 rfl rfl
theorem tw_387 : ex_tW (Jvm.Cond.classLink "Callerhall" (76 : Nat) "Callerhall$Party") := ex_tt ex_q2 147 rfl rfl
theorem tw_388 : ex_tW (Jvm.Cond.instantiable "Callerhall$Party" (5 : Nat)) := ex_tt ex_q2 148 rfl rfl
theorem tw_389 : (Jvm.Cond.methodLinkNest "Callerhall" (78 : Nat) ({ cls := "Callerhall$Party", name := "<init>", desc := "()V" } : Jvm.MethodName) "Callerhall") ∈ ex_TN := ex_twn ex_q2 149 rfl rfl
theorem tw_390 : ex_tW (Jvm.Cond.instanceMethod ({ cls := "Callerhall$Party", name := "<init>", desc := "()V" } : Jvm.MethodName)) := ex_tt ex_q2 150 rfl rfl
theorem tw_391 : ex_tW (Jvm.Cond.code ({ cls := "Callerhall$Party", name := "<init>", desc := "()V" } : Jvm.MethodName) prog_5_method_1_code (1 : Nat) (Option.none : Option Jvm.ClassFile.FieldType)) := ex_tt ex_q2 151 rfl rfl
theorem tw_392 : ex_tW (Jvm.Cond.methodLink "Callerhall$Party" (1 : Nat) ({ cls := "java/lang/Object", name := "<init>", desc := "()V" } : Jvm.MethodName)) := ex_tt ex_q2 152 rfl rfl
theorem tw_393 : ex_tW (Jvm.Cond.classLink "Callerhall$Party" (9 : Nat) "[[I") := ex_tt ex_q2 153 rfl rfl
theorem tw_394 : ex_tW (Jvm.Cond.fieldLink "Callerhall$Party" (11 : Nat) "Callerhall$Party" "sets" "[[I") := ex_tt ex_q2 154 rfl rfl
theorem tw_395 : ex_tW (Jvm.Cond.fieldLink "Callerhall" (386 : Nat) "Callerhall$Party" "sets" "[[I") := ex_tt ex_q2 155 rfl rfl
theorem tw_396 : ex_tW (Jvm.Cond.fieldLink "Callerhall$Party" (14 : Nat) "Callerhall$Party" "meetings" "[[I") := ex_tt ex_q2 156 rfl rfl
theorem tw_397 : ex_tW (Jvm.Cond.fieldLink "Callerhall" (390 : Nat) "Callerhall$Party" "meetings" "[[I") := ex_tt ex_q2 157 rfl rfl
theorem tw_398 : ex_tW (Jvm.Cond.fieldLink "Callerhall$Party" (17 : Nat) "Callerhall$Party" "tipsDanced" "[I") := ex_tt ex_q2 158 rfl rfl
theorem tw_399 : ex_tW (Jvm.Cond.fieldLink "Callerhall$Party" (21 : Nat) "Callerhall$Party" "couples" "I") := ex_tt ex_q2 159 rfl rfl
theorem tw_400 : ex_tW (Jvm.Cond.fieldLink "Callerhall" (377 : Nat) "Callerhall$Party" "couples" "I") := ex_tt ex_q2 160 rfl rfl
theorem tw_401 : ex_tW (Jvm.Cond.fieldLink "Callerhall$Party" (25 : Nat) "Callerhall$Party" "tips" "I") := ex_tt ex_q2 161 rfl rfl
theorem tw_402 : ex_tW (Jvm.Cond.fieldLink "Callerhall" (371 : Nat) "Callerhall$Party" "tips" "I") := ex_tt ex_q2 162 rfl rfl
theorem tw_414 : ex_tW (Jvm.Cond.classLink "Callerhall" (83 : Nat) "Callerhall$Tally") := ex_tt ex_q2 174 rfl rfl
theorem tw_415 : ex_tW (Jvm.Cond.instantiable "Callerhall$Tally" (4 : Nat)) := ex_tt ex_q2 175 rfl rfl
theorem tw_416 : (Jvm.Cond.methodLinkNest "Callerhall" (85 : Nat) ({ cls := "Callerhall$Tally", name := "<init>", desc := "()V" } : Jvm.MethodName) "Callerhall") ∈ ex_TN := ex_twn ex_q2 176 rfl rfl
theorem tw_417 : ex_tW (Jvm.Cond.instanceMethod ({ cls := "Callerhall$Tally", name := "<init>", desc := "()V" } : Jvm.MethodName)) := ex_tt ex_q2 177 rfl rfl
theorem tw_418 : ex_tW (Jvm.Cond.code ({ cls := "Callerhall$Tally", name := "<init>", desc := "()V" } : Jvm.MethodName) prog_12_method_1_code (1 : Nat) (Option.none : Option Jvm.ClassFile.FieldType)) := ex_tt ex_q2 178 rfl rfl
theorem tw_419 : ex_tW (Jvm.Cond.methodLink "Callerhall$Tally" (1 : Nat) ({ cls := "java/lang/Object", name := "<init>", desc := "()V" } : Jvm.MethodName)) := ex_tt ex_q2 179 rfl rfl
theorem tw_420 : ex_tW (Jvm.Cond.fieldLink "Callerhall$Tally" (7 : Nat) "Callerhall$Tally" "tried" "I") := ex_tt ex_q2 180 rfl rfl
theorem tw_421 : ex_tW (Jvm.Cond.fieldLink "Callerhall" (397 : Nat) "Callerhall$Tally" "tried" "I") := ex_tt ex_q2 181 rfl rfl
theorem tw_422 : ex_tW (Jvm.Cond.fieldLink "Callerhall$Tally" (13 : Nat) "Callerhall$Tally" "danced" "I") := ex_tt ex_q2 182 rfl rfl
theorem tw_423 : ex_tW (Jvm.Cond.fieldLink "Callerhall" (403 : Nat) "Callerhall$Tally" "danced" "I") := ex_tt ex_q2 183 rfl rfl
theorem tw_424 : ex_tW (Jvm.Cond.fieldLink "Callerhall$Tally" (16 : Nat) "Callerhall$Tally" "reason" "C") := ex_tt ex_q2 184 rfl rfl
theorem tw_425 : ex_tW (Jvm.Cond.fieldLink "Callerhall" (273 : Nat) "Callerhall$Tally" "reason" "C") := ex_tt ex_q2 185 rfl rfl
theorem tw_426 : ex_tW (Jvm.Cond.fieldLink "Callerhall$Tally" (20 : Nat) "Callerhall$Tally" "culprit" "I") := ex_tt ex_q2 186 rfl rfl
theorem tw_427 : ex_tW (Jvm.Cond.fieldLink "Callerhall" (277 : Nat) "Callerhall$Tally" "culprit" "I") := ex_tt ex_q2 187 rfl rfl
theorem tw_437 : ex_tW (Jvm.Cond.fieldLink "Callerhall" (109 : Nat) "Callerhall" "SPOT_X" "[I") := ex_tt ex_q2 197 rfl rfl
theorem tw_439 : ex_tW (Jvm.Cond.fieldLink "Callerhall" (112 : Nat) "Callerhall" "SPOT_Y" "[I") := ex_tt ex_q2 199 rfl rfl
theorem tw_441 : ex_tW (Jvm.Cond.fieldLink "Callerhall" (115 : Nat) "Callerhall" "SPOT_F" "[I") := ex_tt ex_q2 201 rfl rfl
theorem tw_443 : ex_tW (Jvm.Cond.methodLink "Callerhall" (118 : Nat) ({ cls := "Callerhall$Places", name := "tell", desc := "(IIII)V" } : Jvm.MethodName)) := ex_tt ex_q2 203 rfl rfl
theorem tw_444 : ex_tW (Jvm.Cond.instanceMethod ({ cls := "Callerhall$Places", name := "tell", desc := "(IIII)V" } : Jvm.MethodName)) := ex_tt ex_q2 204 rfl rfl
theorem tw_445 : ex_tW (Jvm.Cond.selects "Callerhall$Places" ({ cls := "Callerhall$Places", name := "tell", desc := "(IIII)V" } : Jvm.MethodName) ({ cls := "Callerhall$Places", name := "tell", desc := "(IIII)V" } : Jvm.MethodName)) := ex_tt ex_q2 205 rfl rfl
theorem tw_446 : ex_tW (Jvm.Cond.code ({ cls := "Callerhall$Places", name := "tell", desc := "(IIII)V" } : Jvm.MethodName) prog_7_method_2_code (5 : Nat) (Option.none : Option Jvm.ClassFile.FieldType)) := ex_tt ex_q2 206 rfl rfl
theorem tw_447 : ex_tW (Jvm.Cond.fieldLink "Callerhall" (10 : Nat) "Callerhall" "dancers" "LCallerhall$Places;") := ex_tt ex_q2 207 rfl rfl
theorem tw_448 : ex_tW (Jvm.Cond.fieldLink "Callerhall" (16 : Nat) "Callerhall" "phantoms" "LCallerhall$Places;") := ex_tt ex_q2 208 rfl rfl
theorem tw_449 : ex_tW (Jvm.Cond.fieldLink "Callerhall" (19 : Nat) "Callerhall" "trial" "LCallerhall$Places;") := ex_tt ex_q2 209 rfl rfl
theorem tw_450 : ex_tW (Jvm.Cond.fieldLink "Callerhall" (22 : Nat) "Callerhall" "skills" "[I") := ex_tt ex_q2 210 rfl rfl
theorem tw_451 : ex_tW (Jvm.Cond.fieldLink "Callerhall" (26 : Nat) "Callerhall" "experts" "[I") := ex_tt ex_q2 211 rfl rfl
theorem tw_452 : ex_tW (Jvm.Cond.fieldLink "Callerhall" (34 : Nat) "Callerhall" "stage" "LCallerhall$Stage;") := ex_tt ex_q2 212 rfl rfl
theorem tw_453 : ex_tW (Jvm.Cond.fieldLink "Callerhall" (41 : Nat) "Callerhall" "book" "LCallerhall$Book;") := ex_tt ex_q2 213 rfl rfl
theorem tw_454 : ex_tW (Jvm.Cond.fieldLink "Callerhall" (48 : Nat) "Callerhall" "plan" "LCallerhall$Plan;") := ex_tt ex_q2 214 rfl rfl
theorem tw_455 : ex_tW (Jvm.Cond.fieldLink "Callerhall" (52 : Nat) "Callerhall" "rest" "LCallerhall$Plan;") := ex_tt ex_q2 215 rfl rfl
theorem tw_456 : ex_tW (Jvm.Cond.fieldLink "Callerhall" (58 : Nat) "Callerhall" "past" "LCallerhall$Past;") := ex_tt ex_q2 216 rfl rfl
theorem tw_457 : ex_tW (Jvm.Cond.fieldLink "Callerhall" (65 : Nat) "Callerhall" "flow" "LCallerhall$Flow;") := ex_tt ex_q2 217 rfl rfl
theorem tw_458 : ex_tW (Jvm.Cond.fieldLink "Callerhall" (72 : Nat) "Callerhall" "song" "LCallerhall$Song;") := ex_tt ex_q2 218 rfl rfl
theorem tw_459 : ex_tW (Jvm.Cond.fieldLink "Callerhall" (79 : Nat) "Callerhall" "party" "LCallerhall$Party;") := ex_tt ex_q2 219 rfl rfl
theorem tw_460 : ex_tW (Jvm.Cond.fieldLink "Callerhall" (86 : Nat) "Callerhall" "tally" "LCallerhall$Tally;") := ex_tt ex_q2 220 rfl rfl
theorem tw_461 : ex_tW (Jvm.Cond.fieldLink "Callerhall" (90 : Nat) "Callerhall" "turnsAhead" "[I") := ex_tt ex_q2 221 rfl rfl
theorem tw_462 : ex_tW (Jvm.Cond.fieldLink "Callerhall" (93 : Nat) "Callerhall" "way" "[I") := ex_tt ex_q2 222 rfl rfl
theorem tw_463 : ex_tW (Jvm.Cond.fieldLink "Callerhall" (96 : Nat) "Callerhall" "wayLength" "I") := ex_tt ex_q2 223 rfl rfl
theorem tw_464 : ex_tW (Jvm.Cond.fieldLink "Callerhall" (100 : Nat) "Callerhall" "levelTold" "I") := ex_tt ex_q2 224 rfl rfl
theorem tw_465 : ex_tW (Jvm.Cond.fieldLink "Callerhall" (103 : Nat) "Callerhall" "yearTold" "I") := ex_tt ex_q2 225 rfl rfl
theorem tw_505 : ex_tW (Jvm.Cond.methodLink "CallerhallLaw" (150 : Nat) ({ cls := "Callerhall", name := "home", desc := "()I" } : Jvm.MethodName)) := ex_tt ex_q3 25 rfl rfl
theorem tw_506 : ex_tW (Jvm.Cond.instanceMethod ({ cls := "Callerhall", name := "home", desc := "()I" } : Jvm.MethodName)) := ex_tt ex_q3 26 rfl rfl
theorem tw_507 : ex_tW (Jvm.Cond.selects "Callerhall" ({ cls := "Callerhall", name := "home", desc := "()I" } : Jvm.MethodName) ({ cls := "Callerhall", name := "home", desc := "()I" } : Jvm.MethodName)) := ex_tt ex_q3 27 rfl rfl
theorem tw_508 : ex_tW (Jvm.Cond.code ({ cls := "Callerhall", name := "home", desc := "()I" } : Jvm.MethodName) prog_1_method_2_code (2 : Nat) (Option.some Jvm.ClassFile.FieldType.int)) := ex_tt ex_q3 28 rfl rfl
theorem tw_509 : ex_tW (Jvm.Cond.methodLink "Callerhall" (122 : Nat) ({ cls := "Callerhall", name := "countAway", desc := "()I" } : Jvm.MethodName)) := ex_tt ex_q3 29 rfl rfl
theorem tw_511 : ex_tW (Jvm.Cond.instanceMethod ({ cls := "Callerhall", name := "countAway", desc := "()I" } : Jvm.MethodName)) := ex_tt ex_q3 31 rfl rfl
theorem tw_512 : ex_tW (Jvm.Cond.code ({ cls := "Callerhall", name := "countAway", desc := "()I" } : Jvm.MethodName) prog_1_method_72_code (4 : Nat) (Option.some Jvm.ClassFile.FieldType.int)) := ex_tt ex_q3 32 rfl rfl
theorem tw_513 : ex_tW (Jvm.Cond.methodLink "Callerhall" (406 : Nat) ({ cls := "Callerhall", name := "spotOf", desc := "(I)I" } : Jvm.MethodName)) := ex_tt ex_q3 33 rfl rfl
theorem tw_515 : ex_tW (Jvm.Cond.instanceMethod ({ cls := "Callerhall", name := "spotOf", desc := "(I)I" } : Jvm.MethodName)) := ex_tt ex_q3 35 rfl rfl
theorem tw_516 : ex_tW (Jvm.Cond.code ({ cls := "Callerhall", name := "spotOf", desc := "(I)I" } : Jvm.MethodName) prog_1_method_71_code (3 : Nat) (Option.some Jvm.ClassFile.FieldType.int)) := ex_tt ex_q3 36 rfl rfl
theorem tw_517 : ex_tW (Jvm.Cond.methodLink "Callerhall" (126 : Nat) ({ cls := "Callerhall", name := "putAllHome", desc := "()V" } : Jvm.MethodName)) := ex_tt ex_q3 37 rfl rfl
theorem tw_519 : ex_tW (Jvm.Cond.instanceMethod ({ cls := "Callerhall", name := "putAllHome", desc := "()V" } : Jvm.MethodName)) := ex_tt ex_q3 39 rfl rfl
theorem tw_520 : ex_tW (Jvm.Cond.code ({ cls := "Callerhall", name := "putAllHome", desc := "()V" } : Jvm.MethodName) prog_1_method_69_code (3 : Nat) (Option.none : Option Jvm.ClassFile.FieldType)) := ex_tt ex_q3 40 rfl rfl
theorem tw_521 : ex_tW (Jvm.Cond.methodLink "Callerhall" (459 : Nat) ({ cls := "Callerhall$Flow", name := "clear", desc := "()V" } : Jvm.MethodName)) := ex_tt ex_q3 41 rfl rfl
theorem tw_522 : ex_tW (Jvm.Cond.instanceMethod ({ cls := "Callerhall$Flow", name := "clear", desc := "()V" } : Jvm.MethodName)) := ex_tt ex_q3 42 rfl rfl
theorem tw_523 : ex_tW (Jvm.Cond.selects "Callerhall$Flow" ({ cls := "Callerhall$Flow", name := "clear", desc := "()V" } : Jvm.MethodName) ({ cls := "Callerhall$Flow", name := "clear", desc := "()V" } : Jvm.MethodName)) := ex_tt ex_q3 43 rfl rfl
theorem tw_524 : ex_tW (Jvm.Cond.code ({ cls := "Callerhall$Flow", name := "clear", desc := "()V" } : Jvm.MethodName) prog_4_method_2_code (2 : Nat) (Option.none : Option Jvm.ClassFile.FieldType)) := ex_tt ex_q3 44 rfl rfl
theorem tw_525 : ex_tW (Jvm.Cond.methodLink "Callerhall" (153 : Nat) ({ cls := "Callerhall", name := "forgetPast", desc := "()V" } : Jvm.MethodName)) := ex_tt ex_q3 45 rfl rfl
theorem tw_527 : ex_tW (Jvm.Cond.instanceMethod ({ cls := "Callerhall", name := "forgetPast", desc := "()V" } : Jvm.MethodName)) := ex_tt ex_q3 47 rfl rfl
theorem tw_528 : ex_tW (Jvm.Cond.code ({ cls := "Callerhall", name := "forgetPast", desc := "()V" } : Jvm.MethodName) prog_1_method_70_code (1 : Nat) (Option.none : Option Jvm.ClassFile.FieldType)) := ex_tt ex_q3 48 rfl rfl
theorem tw_529 : ex_tW (Jvm.Cond.methodLink "Callerhall" (175 : Nat) ({ cls := "Callerhall$Plan", name := "clear", desc := "()V" } : Jvm.MethodName)) := ex_tt ex_q3 49 rfl rfl
theorem tw_530 : ex_tW (Jvm.Cond.instanceMethod ({ cls := "Callerhall$Plan", name := "clear", desc := "()V" } : Jvm.MethodName)) := ex_tt ex_q3 50 rfl rfl
theorem tw_531 : ex_tW (Jvm.Cond.selects "Callerhall$Plan" ({ cls := "Callerhall$Plan", name := "clear", desc := "()V" } : Jvm.MethodName) ({ cls := "Callerhall$Plan", name := "clear", desc := "()V" } : Jvm.MethodName)) := ex_tt ex_q3 51 rfl rfl
theorem tw_532 : ex_tW (Jvm.Cond.code ({ cls := "Callerhall$Plan", name := "clear", desc := "()V" } : Jvm.MethodName) prog_8_method_2_code (1 : Nat) (Option.none : Option Jvm.ClassFile.FieldType)) := ex_tt ex_q3 52 rfl rfl
theorem tw_533 : ex_tW (Jvm.Cond.methodLink "CallerhallLaw" (190 : Nat) ({ cls := "Callerhall", name := "clearPhantoms", desc := "()I" } : Jvm.MethodName)) := ex_tt ex_q3 53 rfl rfl
theorem tw_534 : ex_tW (Jvm.Cond.instanceMethod ({ cls := "Callerhall", name := "clearPhantoms", desc := "()I" } : Jvm.MethodName)) := ex_tt ex_q3 54 rfl rfl
theorem tw_535 : ex_tW (Jvm.Cond.selects "Callerhall" ({ cls := "Callerhall", name := "clearPhantoms", desc := "()I" } : Jvm.MethodName) ({ cls := "Callerhall", name := "clearPhantoms", desc := "()I" } : Jvm.MethodName)) := ex_tt ex_q3 55 rfl rfl
theorem tw_536 : ex_tW (Jvm.Cond.code ({ cls := "Callerhall", name := "clearPhantoms", desc := "()I" } : Jvm.MethodName) prog_1_method_12_code (2 : Nat) (Option.some Jvm.ClassFile.FieldType.int)) := ex_tt ex_q3 56 rfl rfl
theorem tw_537 : ex_tW (Jvm.Cond.methodLink "CallerhallLaw" (229 : Nat) ({ cls := "Callerhall", name := "left", desc := "()I" } : Jvm.MethodName)) := ex_tt ex_q3 57 rfl rfl
theorem tw_538 : ex_tW (Jvm.Cond.instanceMethod ({ cls := "Callerhall", name := "left", desc := "()I" } : Jvm.MethodName)) := ex_tt ex_q3 58 rfl rfl
theorem tw_539 : ex_tW (Jvm.Cond.selects "Callerhall" ({ cls := "Callerhall", name := "left", desc := "()I" } : Jvm.MethodName) ({ cls := "Callerhall", name := "left", desc := "()I" } : Jvm.MethodName)) := ex_tt ex_q3 59 rfl rfl
theorem tw_540 : ex_tW (Jvm.Cond.code ({ cls := "Callerhall", name := "left", desc := "()I" } : Jvm.MethodName) prog_1_method_23_code (1 : Nat) (Option.some Jvm.ClassFile.FieldType.int)) := ex_tt ex_q3 60 rfl rfl
theorem tw_541 : ex_tW (Jvm.Cond.methodLink "CallerhallLaw" (233 : Nat) ({ cls := "Callerhall", name := "why", desc := "()C" } : Jvm.MethodName)) := ex_tt ex_q3 61 rfl rfl
theorem tw_542 : ex_tW (Jvm.Cond.instanceMethod ({ cls := "Callerhall", name := "why", desc := "()C" } : Jvm.MethodName)) := ex_tt ex_q3 62 rfl rfl
theorem tw_543 : ex_tW (Jvm.Cond.selects "Callerhall" ({ cls := "Callerhall", name := "why", desc := "()C" } : Jvm.MethodName) ({ cls := "Callerhall", name := "why", desc := "()C" } : Jvm.MethodName)) := ex_tt ex_q3 63 rfl rfl
theorem tw_544 : ex_tW (Jvm.Cond.code ({ cls := "Callerhall", name := "why", desc := "()C" } : Jvm.MethodName) prog_1_method_24_code (1 : Nat) (Option.some Jvm.ClassFile.FieldType.char)) := ex_tt ex_q3 64 rfl rfl
theorem tw_545 : ex_tW (Jvm.Cond.methodLink "CallerhallLaw" (248 : Nat) ({ cls := "Callerhall", name := "calls", desc := "()I" } : Jvm.MethodName)) := ex_tt ex_q3 65 rfl rfl
theorem tw_546 : ex_tW (Jvm.Cond.instanceMethod ({ cls := "Callerhall", name := "calls", desc := "()I" } : Jvm.MethodName)) := ex_tt ex_q3 66 rfl rfl
theorem tw_547 : ex_tW (Jvm.Cond.selects "Callerhall" ({ cls := "Callerhall", name := "calls", desc := "()I" } : Jvm.MethodName) ({ cls := "Callerhall", name := "calls", desc := "()I" } : Jvm.MethodName)) := ex_tt ex_q3 67 rfl rfl
theorem tw_548 : ex_tW (Jvm.Cond.code ({ cls := "Callerhall", name := "calls", desc := "()I" } : Jvm.MethodName) prog_1_method_28_code (1 : Nat) (Option.some Jvm.ClassFile.FieldType.int)) := ex_tt ex_q3 68 rfl rfl
theorem tw_549 : ex_tW (Jvm.Cond.methodLink "CallerhallLaw" (266 : Nat) ({ cls := "Callerhall", name := "formation", desc := "()C" } : Jvm.MethodName)) := ex_tt ex_q3 69 rfl rfl
theorem tw_550 : ex_tW (Jvm.Cond.instanceMethod ({ cls := "Callerhall", name := "formation", desc := "()C" } : Jvm.MethodName)) := ex_tt ex_q3 70 rfl rfl
theorem tw_551 : ex_tW (Jvm.Cond.selects "Callerhall" ({ cls := "Callerhall", name := "formation", desc := "()C" } : Jvm.MethodName) ({ cls := "Callerhall", name := "formation", desc := "()C" } : Jvm.MethodName)) := ex_tt ex_q3 71 rfl rfl
theorem tw_552 : ex_tW (Jvm.Cond.code ({ cls := "Callerhall", name := "formation", desc := "()C" } : Jvm.MethodName) prog_1_method_33_code (2 : Nat) (Option.some Jvm.ClassFile.FieldType.char)) := ex_tt ex_q3 72 rfl rfl
theorem tw_554 : ex_tW (Jvm.Cond.methodLink "Callerhall" (327 : Nat) ({ cls := "java/lang/String", name := "length", desc := "()I" } : Jvm.MethodName)) := ex_tt ex_q3 74 rfl rfl
theorem tw_555 : ex_tW (Jvm.Cond.instanceMethod ({ cls := "java/lang/String", name := "length", desc := "()I" } : Jvm.MethodName)) := ex_tt ex_q3 75 rfl rfl
theorem tw_556 : ex_tW (Jvm.Cond.selects "java/lang/String" ({ cls := "java/lang/String", name := "length", desc := "()I" } : Jvm.MethodName) ({ cls := "java/lang/String", name := "length", desc := "()I" } : Jvm.MethodName)) := ex_tt ex_q3 76 rfl rfl
theorem tw_557 : ex_tW (Jvm.Cond.code ({ cls := "java/lang/String", name := "length", desc := "()I" } : Jvm.MethodName) prog_33_method_54_code (1 : Nat) (Option.some Jvm.ClassFile.FieldType.int)) := ex_tt ex_q3 77 rfl rfl
theorem tw_558 : ex_tW (Jvm.Cond.methodLink "java/lang/String" (335 : Nat) ({ cls := "java/lang/String", name := "coder", desc := "()B" } : Jvm.MethodName)) := ex_tt ex_q3 78 rfl rfl
theorem tw_559 : ex_tW (Jvm.Cond.instanceMethod ({ cls := "java/lang/String", name := "coder", desc := "()B" } : Jvm.MethodName)) := ex_tt ex_q3 79 rfl rfl
theorem tw_560 : ex_tW (Jvm.Cond.selects "java/lang/String" ({ cls := "java/lang/String", name := "coder", desc := "()B" } : Jvm.MethodName) ({ cls := "java/lang/String", name := "coder", desc := "()B" } : Jvm.MethodName)) := ex_tt ex_q3 80 rfl rfl
theorem tw_561 : ex_tW (Jvm.Cond.code ({ cls := "java/lang/String", name := "coder", desc := "()B" } : Jvm.MethodName) prog_33_method_152_code (1 : Nat) (Option.some Jvm.ClassFile.FieldType.byte)) := ex_tt ex_q3 81 rfl rfl
theorem tw_562 : ex_tW (Jvm.Cond.fieldLink "java/lang/String" (38 : Nat) "java/lang/String" "COMPACT_STRINGS" "Z") := ex_tt ex_q3 82 rfl rfl
theorem tw_564 : ex_tW (Jvm.Cond.methodLink "Callerhall" (330 : Nat) ({ cls := "Callerhall", name := "countOutside", desc := "(I)I" } : Jvm.MethodName)) := ex_tt ex_q3 84 rfl rfl
theorem tw_566 : ex_tW (Jvm.Cond.instanceMethod ({ cls := "Callerhall", name := "countOutside", desc := "(I)I" } : Jvm.MethodName)) := ex_tt ex_q3 86 rfl rfl
theorem tw_567 : ex_tW (Jvm.Cond.code ({ cls := "Callerhall", name := "countOutside", desc := "(I)I" } : Jvm.MethodName) prog_1_method_74_code (6 : Nat) (Option.some Jvm.ClassFile.FieldType.int)) := ex_tt ex_q3 87 rfl rfl
theorem tw_568 : ex_tW (Jvm.Cond.methodLink "Callerhall" (460 : Nat) ({ cls := "Callerhall", name := "isInShape", desc := "(III)Z" } : Jvm.MethodName)) := ex_tt ex_q3 88 rfl rfl
theorem tw_570 : ex_tW (Jvm.Cond.instanceMethod ({ cls := "Callerhall", name := "isInShape", desc := "(III)Z" } : Jvm.MethodName)) := ex_tt ex_q3 90 rfl rfl
theorem tw_571 : ex_tW (Jvm.Cond.code ({ cls := "Callerhall", name := "isInShape", desc := "(III)Z" } : Jvm.MethodName) prog_1_method_75_code (9 : Nat) (Option.some Jvm.ClassFile.FieldType.boolean)) := ex_tt ex_q3 91 rfl rfl
theorem tw_572 : ex_tW (Jvm.Cond.methodLink "Callerhall" (165 : Nat) ({ cls := "Callerhall", name := "turnedX", desc := "(III)I" } : Jvm.MethodName)) := ex_tt ex_q3 92 rfl rfl
theorem tw_573 : ex_tW (Jvm.Cond.static ({ cls := "Callerhall", name := "turnedX", desc := "(III)I" } : Jvm.MethodName)) := ex_tt ex_q3 93 rfl rfl
theorem tw_574 : ex_tW (Jvm.Cond.code ({ cls := "Callerhall", name := "turnedX", desc := "(III)I" } : Jvm.MethodName) prog_1_method_76_code (3 : Nat) (Option.some Jvm.ClassFile.FieldType.int)) := ex_tt ex_q3 94 rfl rfl
theorem tw_575 : ex_tW (Jvm.Cond.methodLink "Callerhall" (169 : Nat) ({ cls := "Callerhall", name := "turnedY", desc := "(III)I" } : Jvm.MethodName)) := ex_tt ex_q3 95 rfl rfl
theorem tw_576 : ex_tW (Jvm.Cond.static ({ cls := "Callerhall", name := "turnedY", desc := "(III)I" } : Jvm.MethodName)) := ex_tt ex_q3 96 rfl rfl
theorem tw_577 : ex_tW (Jvm.Cond.code ({ cls := "Callerhall", name := "turnedY", desc := "(III)I" } : Jvm.MethodName) prog_1_method_77_code (3 : Nat) (Option.some Jvm.ClassFile.FieldType.int)) := ex_tt ex_q3 97 rfl rfl
theorem tw_578 : ex_tW (Jvm.Cond.methodLink "Callerhall" (467 : Nat) ({ cls := "java/lang/Math", name := "max", desc := "(II)I" } : Jvm.MethodName)) := ex_tt ex_q3 98 rfl rfl
theorem tw_579 : ex_tW (Jvm.Cond.static ({ cls := "java/lang/Math", name := "max", desc := "(II)I" } : Jvm.MethodName)) := ex_tt ex_q3 99 rfl rfl
theorem tw_580 : ex_tW (Jvm.Cond.code ({ cls := "java/lang/Math", name := "max", desc := "(II)I" } : Jvm.MethodName) prog_31_method_65_code (2 : Nat) (Option.some Jvm.ClassFile.FieldType.int)) := ex_tt ex_q3 100 rfl rfl
theorem tw_581 : ex_tW (Jvm.Cond.fieldLink "Callerhall" (470 : Nat) "Callerhall" "SHAPE_X" "[I") := ex_tt ex_q3 101 rfl rfl
theorem tw_583 : ex_tW (Jvm.Cond.fieldLink "Callerhall" (473 : Nat) "Callerhall" "SHAPE_Y" "[I") := ex_tt ex_q3 103 rfl rfl
theorem tw_585 : ex_tW (Jvm.Cond.fieldLink "Callerhall" (476 : Nat) "Callerhall" "SHAPE_F" "[I") := ex_tt ex_q3 105 rfl rfl
theorem tw_587 : ex_tW (Jvm.Cond.methodLink "Callerhall" (464 : Nat) ({ cls := "java/lang/Math", name := "min", desc := "(II)I" } : Jvm.MethodName)) := ex_tt ex_q3 107 rfl rfl
theorem tw_588 : ex_tW (Jvm.Cond.static ({ cls := "java/lang/Math", name := "min", desc := "(II)I" } : Jvm.MethodName)) := ex_tt ex_q3 108 rfl rfl
theorem tw_589 : ex_tW (Jvm.Cond.code ({ cls := "java/lang/Math", name := "min", desc := "(II)I" } : Jvm.MethodName) prog_31_method_69_code (2 : Nat) (Option.some Jvm.ClassFile.FieldType.int)) := ex_tt ex_q3 109 rfl rfl
theorem tw_590 : ex_tW (Jvm.Cond.methodLink "Callerhall" (333 : Nat) ({ cls := "java/lang/String", name := "charAt", desc := "(I)C" } : Jvm.MethodName)) := ex_tt ex_q3 110 rfl rfl
theorem tw_591 : ex_tW (Jvm.Cond.instanceMethod ({ cls := "java/lang/String", name := "charAt", desc := "(I)C" } : Jvm.MethodName)) := ex_tt ex_q3 111 rfl rfl
theorem tw_592 : ex_tW (Jvm.Cond.selects "java/lang/String" ({ cls := "java/lang/String", name := "charAt", desc := "(I)C" } : Jvm.MethodName) ({ cls := "java/lang/String", name := "charAt", desc := "(I)C" } : Jvm.MethodName)) := ex_tt ex_q3 112 rfl rfl
theorem tw_593 : ex_tW (Jvm.Cond.code ({ cls := "java/lang/String", name := "charAt", desc := "(I)C" } : Jvm.MethodName) prog_33_method_56_code (2 : Nat) (Option.some Jvm.ClassFile.FieldType.char)) := ex_tt ex_q3 113 rfl rfl
theorem tw_594 : ex_tW (Jvm.Cond.methodLink "java/lang/String" (492 : Nat) ({ cls := "java/lang/String", name := "isLatin1", desc := "()Z" } : Jvm.MethodName)) := ex_tt ex_q3 114 rfl rfl
theorem tw_595 : ex_tW (Jvm.Cond.instanceMethod ({ cls := "java/lang/String", name := "isLatin1", desc := "()Z" } : Jvm.MethodName)) := ex_tt ex_q3 115 rfl rfl
theorem tw_596 : ex_tW (Jvm.Cond.selects "java/lang/String" ({ cls := "java/lang/String", name := "isLatin1", desc := "()Z" } : Jvm.MethodName) ({ cls := "java/lang/String", name := "isLatin1", desc := "()Z" } : Jvm.MethodName)) := ex_tt ex_q3 116 rfl rfl
theorem tw_597 : ex_tW (Jvm.Cond.code ({ cls := "java/lang/String", name := "isLatin1", desc := "()Z" } : Jvm.MethodName) prog_33_method_154_code (1 : Nat) (Option.some Jvm.ClassFile.FieldType.boolean)) := ex_tt ex_q3 117 rfl rfl
theorem tw_598 : ex_tW (Jvm.Cond.methodLink "java/lang/String" (495 : Nat) ({ cls := "java/lang/StringLatin1", name := "charAt", desc := "([BI)C" } : Jvm.MethodName)) := ex_tt ex_q3 118 rfl rfl
theorem tw_599 : ex_tW (Jvm.Cond.static ({ cls := "java/lang/StringLatin1", name := "charAt", desc := "([BI)C" } : Jvm.MethodName)) := ex_tt ex_q3 119 rfl rfl
theorem tw_600 : ex_tW (Jvm.Cond.code ({ cls := "java/lang/StringLatin1", name := "charAt", desc := "([BI)C" } : Jvm.MethodName) prog_34_method_2_code (2 : Nat) (Option.some Jvm.ClassFile.FieldType.char)) := ex_tt ex_q3 120 rfl rfl
theorem tw_601 : ex_tW (Jvm.Cond.methodLink "java/lang/StringLatin1" (9 : Nat) ({ cls := "java/lang/String", name := "checkIndex", desc := "(II)V" } : Jvm.MethodName)) := ex_tt ex_q3 121 rfl rfl
theorem tw_602 : ex_tW (Jvm.Cond.static ({ cls := "java/lang/String", name := "checkIndex", desc := "(II)V" } : Jvm.MethodName)) := ex_tt ex_q3 122 rfl rfl
theorem tw_603 : ex_tW (Jvm.Cond.code ({ cls := "java/lang/String", name := "checkIndex", desc := "(II)V" } : Jvm.MethodName) prog_33_method_155_code (2 : Nat) (Option.none : Option Jvm.ClassFile.FieldType)) := ex_tt ex_q3 123 rfl rfl
theorem tw_604 : ex_tW (Jvm.Cond.fieldLink "java/lang/String" (1053 : Nat) "jdk/internal/util/Preconditions" "SIOOBE_FORMATTER" "Ljava/util/function/BiFunction;") := ex_tt ex_q3 124 rfl rfl
theorem tw_606 : ex_tW (Jvm.Cond.methodLink "java/lang/String" (1059 : Nat) ({ cls := "jdk/internal/util/Preconditions", name := "checkIndex", desc := "(IILjava/util/function/BiFunction;)I" } : Jvm.MethodName)) := ex_tt ex_q3 126 rfl rfl
theorem tw_607 : ex_tW (Jvm.Cond.static ({ cls := "jdk/internal/util/Preconditions", name := "checkIndex", desc := "(IILjava/util/function/BiFunction;)I" } : Jvm.MethodName)) := ex_tt ex_q3 127 rfl rfl
theorem tw_608 : ex_tW (Jvm.Cond.code ({ cls := "jdk/internal/util/Preconditions", name := "checkIndex", desc := "(IILjava/util/function/BiFunction;)I" } : Jvm.MethodName) prog_54_method_11_code (3 : Nat) (Option.some Jvm.ClassFile.FieldType.int)) := ex_tt ex_q3 128 rfl rfl
theorem tw_609 : ex_tW (Jvm.Cond.methodLink "java/lang/String" (498 : Nat) ({ cls := "java/lang/StringUTF16", name := "charAt", desc := "([BI)C" } : Jvm.MethodName)) := ex_tt ex_q3 129 rfl rfl
theorem tw_610 : ex_tW (Jvm.Cond.static ({ cls := "java/lang/StringUTF16", name := "charAt", desc := "([BI)C" } : Jvm.MethodName)) := ex_tt ex_q3 130 rfl rfl
theorem tw_611 : ex_tW (Jvm.Cond.code ({ cls := "java/lang/StringUTF16", name := "charAt", desc := "([BI)C" } : Jvm.MethodName) prog_35_method_83_code (2 : Nat) (Option.some Jvm.ClassFile.FieldType.char)) := ex_tt ex_q3 131 rfl rfl
theorem tw_612 : ex_tW (Jvm.Cond.methodLink "java/lang/StringUTF16" (67 : Nat) ({ cls := "java/lang/StringUTF16", name := "checkIndex", desc := "(I[B)V" } : Jvm.MethodName)) := ex_tt ex_q3 132 rfl rfl
theorem tw_613 : ex_tW (Jvm.Cond.static ({ cls := "java/lang/StringUTF16", name := "checkIndex", desc := "(I[B)V" } : Jvm.MethodName)) := ex_tt ex_q3 133 rfl rfl
theorem tw_614 : ex_tW (Jvm.Cond.code ({ cls := "java/lang/StringUTF16", name := "checkIndex", desc := "(I[B)V" } : Jvm.MethodName) prog_35_method_91_code (2 : Nat) (Option.none : Option Jvm.ClassFile.FieldType)) := ex_tt ex_q3 134 rfl rfl
theorem tw_615 : ex_tW (Jvm.Cond.methodLink "java/lang/StringUTF16" (48 : Nat) ({ cls := "java/lang/StringUTF16", name := "length", desc := "([B)I" } : Jvm.MethodName)) := ex_tt ex_q3 135 rfl rfl
theorem tw_616 : ex_tW (Jvm.Cond.static ({ cls := "java/lang/StringUTF16", name := "length", desc := "([B)I" } : Jvm.MethodName)) := ex_tt ex_q3 136 rfl rfl
theorem tw_617 : ex_tW (Jvm.Cond.code ({ cls := "java/lang/StringUTF16", name := "length", desc := "([B)I" } : Jvm.MethodName) prog_35_method_6_code (1 : Nat) (Option.some Jvm.ClassFile.FieldType.int)) := ex_tt ex_q3 137 rfl rfl
theorem tw_618 : ex_tW (Jvm.Cond.methodLink "java/lang/StringUTF16" (414 : Nat) ({ cls := "java/lang/String", name := "checkIndex", desc := "(II)V" } : Jvm.MethodName)) := ex_tt ex_q3 138 rfl rfl
theorem tw_619 : ex_tW (Jvm.Cond.methodLink "java/lang/StringUTF16" (71 : Nat) ({ cls := "java/lang/StringUTF16", name := "getChar", desc := "([BI)C" } : Jvm.MethodName)) := ex_tt ex_q3 139 rfl rfl
theorem tw_620 : ex_tW (Jvm.Cond.static ({ cls := "java/lang/StringUTF16", name := "getChar", desc := "([BI)C" } : Jvm.MethodName)) := ex_tt ex_q3 140 rfl rfl
theorem tw_621 : ex_tW (Jvm.Cond.code ({ cls := "java/lang/StringUTF16", name := "getChar", desc := "([BI)C" } : Jvm.MethodName) prog_35_method_5_code (2 : Nat) (Option.some Jvm.ClassFile.FieldType.char)) := ex_tt ex_q3 141 rfl rfl
theorem tw_622 : ex_tW (Jvm.Cond.fieldLink "java/lang/StringUTF16" (44 : Nat) "java/lang/StringUTF16" "$assertionsDisabled" "Z") := ex_tt ex_q3 142 rfl rfl
theorem tw_624 : ex_tW (Jvm.Cond.fieldLink "java/lang/StringUTF16" (59 : Nat) "java/lang/StringUTF16" "HI_BYTE_SHIFT" "I") := ex_tt ex_q3 144 rfl rfl
theorem tw_626 : ex_tW (Jvm.Cond.fieldLink "java/lang/StringUTF16" (63 : Nat) "java/lang/StringUTF16" "LO_BYTE_SHIFT" "I") := ex_tt ex_q3 146 rfl rfl
theorem tw_629 : ex_tW (Jvm.Cond.methodLink "CallerhallLaw" (273 : Nat) ({ cls := "Callerhall", name := "isHome", desc := "()Z" } : Jvm.MethodName)) := ex_tt ex_q3 149 rfl rfl
theorem tw_630 : ex_tW (Jvm.Cond.instanceMethod ({ cls := "Callerhall", name := "isHome", desc := "()Z" } : Jvm.MethodName)) := ex_tt ex_q3 150 rfl rfl
theorem tw_631 : ex_tW (Jvm.Cond.selects "Callerhall" ({ cls := "Callerhall", name := "isHome", desc := "()Z" } : Jvm.MethodName) ({ cls := "Callerhall", name := "isHome", desc := "()Z" } : Jvm.MethodName)) := ex_tt ex_q3 151 rfl rfl
theorem tw_632 : ex_tW (Jvm.Cond.code ({ cls := "Callerhall", name := "isHome", desc := "()Z" } : Jvm.MethodName) prog_1_method_35_code (1 : Nat) (Option.some Jvm.ClassFile.FieldType.boolean)) := ex_tt ex_q3 152 rfl rfl
theorem tw_633 : ex_tW (Jvm.Cond.methodLink "Callerhall" (336 : Nat) ({ cls := "Callerhall", name := "areHome", desc := "([I[I[I)Z" } : Jvm.MethodName)) := ex_tt ex_q3 153 rfl rfl
theorem tw_635 : ex_tW (Jvm.Cond.instanceMethod ({ cls := "Callerhall", name := "areHome", desc := "([I[I[I)Z" } : Jvm.MethodName)) := ex_tt ex_q3 155 rfl rfl
theorem tw_636 : ex_tW (Jvm.Cond.code ({ cls := "Callerhall", name := "areHome", desc := "([I[I[I)Z" } : Jvm.MethodName) prog_1_method_73_code (8 : Nat) (Option.some Jvm.ClassFile.FieldType.boolean)) := ex_tt ex_q3 156 rfl rfl
theorem tw_637 : ex_tW (Jvm.Cond.methodLink "CallerhallLaw" (278 : Nat) ({ cls := "Callerhall", name := "isSymmetric", desc := "()Z" } : Jvm.MethodName)) := ex_tt ex_q3 157 rfl rfl
theorem tw_638 : ex_tW (Jvm.Cond.instanceMethod ({ cls := "Callerhall", name := "isSymmetric", desc := "()Z" } : Jvm.MethodName)) := ex_tt ex_q3 158 rfl rfl
theorem tw_639 : ex_tW (Jvm.Cond.selects "Callerhall" ({ cls := "Callerhall", name := "isSymmetric", desc := "()Z" } : Jvm.MethodName) ({ cls := "Callerhall", name := "isSymmetric", desc := "()Z" } : Jvm.MethodName)) := ex_tt ex_q3 159 rfl rfl
theorem tw_640 : ex_tW (Jvm.Cond.code ({ cls := "Callerhall", name := "isSymmetric", desc := "()Z" } : Jvm.MethodName) prog_1_method_36_code (3 : Nat) (Option.some Jvm.ClassFile.FieldType.boolean)) := ex_tt ex_q3 160 rfl rfl
theorem tw_641 : ex_tW (Jvm.Cond.methodLink "CallerhallLaw" (285 : Nat) ({ cls := "Callerhall", name := "broken", desc := "()I" } : Jvm.MethodName)) := ex_tt ex_q3 161 rfl rfl
theorem tw_642 : ex_tW (Jvm.Cond.instanceMethod ({ cls := "Callerhall", name := "broken", desc := "()I" } : Jvm.MethodName)) := ex_tt ex_q3 162 rfl rfl
theorem tw_643 : ex_tW (Jvm.Cond.selects "Callerhall" ({ cls := "Callerhall", name := "broken", desc := "()I" } : Jvm.MethodName) ({ cls := "Callerhall", name := "broken", desc := "()I" } : Jvm.MethodName)) := ex_tt ex_q3 163 rfl rfl
theorem tw_644 : ex_tW (Jvm.Cond.code ({ cls := "Callerhall", name := "broken", desc := "()I" } : Jvm.MethodName) prog_1_method_38_code (1 : Nat) (Option.some Jvm.ClassFile.FieldType.int)) := ex_tt ex_q3 164 rfl rfl
theorem tw_645 : ex_tW (Jvm.Cond.methodLink "CallerhallLaw" (289 : Nat) ({ cls := "Callerhall", name := "clashes", desc := "()I" } : Jvm.MethodName)) := ex_tt ex_q3 165 rfl rfl
theorem tw_646 : ex_tW (Jvm.Cond.instanceMethod ({ cls := "Callerhall", name := "clashes", desc := "()I" } : Jvm.MethodName)) := ex_tt ex_q3 166 rfl rfl
theorem tw_647 : ex_tW (Jvm.Cond.selects "Callerhall" ({ cls := "Callerhall", name := "clashes", desc := "()I" } : Jvm.MethodName) ({ cls := "Callerhall", name := "clashes", desc := "()I" } : Jvm.MethodName)) := ex_tt ex_q3 167 rfl rfl
theorem tw_648 : ex_tW (Jvm.Cond.code ({ cls := "Callerhall", name := "clashes", desc := "()I" } : Jvm.MethodName) prog_1_method_39_code (1 : Nat) (Option.some Jvm.ClassFile.FieldType.int)) := ex_tt ex_q3 168 rfl rfl
theorem tw_649 : ex_tW (Jvm.Cond.methodLink "CallerhallLaw" (302 : Nat) ({ cls := "Callerhall", name := "sung", desc := "()I" } : Jvm.MethodName)) := ex_tt ex_q3 169 rfl rfl
theorem tw_650 : ex_tW (Jvm.Cond.instanceMethod ({ cls := "Callerhall", name := "sung", desc := "()I" } : Jvm.MethodName)) := ex_tt ex_q3 170 rfl rfl
theorem tw_651 : ex_tW (Jvm.Cond.selects "Callerhall" ({ cls := "Callerhall", name := "sung", desc := "()I" } : Jvm.MethodName) ({ cls := "Callerhall", name := "sung", desc := "()I" } : Jvm.MethodName)) := ex_tt ex_q3 171 rfl rfl
theorem tw_652 : ex_tW (Jvm.Cond.code ({ cls := "Callerhall", name := "sung", desc := "()I" } : Jvm.MethodName) prog_1_method_43_code (1 : Nat) (Option.some Jvm.ClassFile.FieldType.int)) := ex_tt ex_q3 172 rfl rfl
theorem tw_653 : ex_tW (Jvm.Cond.methodLink "CallerhallLaw" (309 : Nat) ({ cls := "Callerhall", name := "gone", desc := "()I" } : Jvm.MethodName)) := ex_tt ex_q3 173 rfl rfl
theorem tw_654 : ex_tW (Jvm.Cond.instanceMethod ({ cls := "Callerhall", name := "gone", desc := "()I" } : Jvm.MethodName)) := ex_tt ex_q3 174 rfl rfl
theorem tw_655 : ex_tW (Jvm.Cond.selects "Callerhall" ({ cls := "Callerhall", name := "gone", desc := "()I" } : Jvm.MethodName) ({ cls := "Callerhall", name := "gone", desc := "()I" } : Jvm.MethodName)) := ex_tt ex_q3 175 rfl rfl
theorem tw_656 : ex_tW (Jvm.Cond.code ({ cls := "Callerhall", name := "gone", desc := "()I" } : Jvm.MethodName) prog_1_method_45_code (1 : Nat) (Option.some Jvm.ClassFile.FieldType.int)) := ex_tt ex_q3 176 rfl rfl
theorem tw_657 : ex_tW (Jvm.Cond.methodLink "CallerhallLaw" (325 : Nat) ({ cls := "Callerhall", name := "beats", desc := "()J" } : Jvm.MethodName)) := ex_tt ex_q3 177 rfl rfl
theorem tw_658 : ex_tW (Jvm.Cond.instanceMethod ({ cls := "Callerhall", name := "beats", desc := "()J" } : Jvm.MethodName)) := ex_tt ex_q3 178 rfl rfl
theorem tw_659 : ex_tW (Jvm.Cond.selects "Callerhall" ({ cls := "Callerhall", name := "beats", desc := "()J" } : Jvm.MethodName) ({ cls := "Callerhall", name := "beats", desc := "()J" } : Jvm.MethodName)) := ex_tt ex_q3 179 rfl rfl
theorem tw_660 : ex_tW (Jvm.Cond.code ({ cls := "Callerhall", name := "beats", desc := "()J" } : Jvm.MethodName) prog_1_method_50_code (1 : Nat) (Option.some Jvm.ClassFile.FieldType.long)) := ex_tt ex_q3 180 rfl rfl
theorem tw_661 : ex_tW (Jvm.Cond.methodLink "CallerhallLaw" (334 : Nat) ({ cls := "Callerhall", name := "meanAway", desc := "()D" } : Jvm.MethodName)) := ex_tt ex_q3 181 rfl rfl
theorem tw_662 : ex_tW (Jvm.Cond.instanceMethod ({ cls := "Callerhall", name := "meanAway", desc := "()D" } : Jvm.MethodName)) := ex_tt ex_q3 182 rfl rfl
theorem tw_663 : ex_tW (Jvm.Cond.selects "Callerhall" ({ cls := "Callerhall", name := "meanAway", desc := "()D" } : Jvm.MethodName) ({ cls := "Callerhall", name := "meanAway", desc := "()D" } : Jvm.MethodName)) := ex_tt ex_q3 183 rfl rfl
theorem tw_664 : ex_tW (Jvm.Cond.code ({ cls := "Callerhall", name := "meanAway", desc := "()D" } : Jvm.MethodName) prog_1_method_52_code (5 : Nat) (Option.some Jvm.ClassFile.FieldType.double)) := ex_tt ex_q3 184 rfl rfl
theorem tw_665 : ex_tW (Jvm.Cond.methodLink "Callerhall" (409 : Nat) ({ cls := "java/lang/Math", name := "abs", desc := "(J)J" } : Jvm.MethodName)) := ex_tt ex_q3 185 rfl rfl
theorem tw_666 : ex_tW (Jvm.Cond.static ({ cls := "java/lang/Math", name := "abs", desc := "(J)J" } : Jvm.MethodName)) := ex_tt ex_q3 186 rfl rfl
theorem tw_667 : ex_tW (Jvm.Cond.code ({ cls := "java/lang/Math", name := "abs", desc := "(J)J" } : Jvm.MethodName) prog_31_method_61_code (2 : Nat) (Option.some Jvm.ClassFile.FieldType.long)) := ex_tt ex_q3 187 rfl rfl
theorem tw_668 : ex_tW (Jvm.Cond.constantDouble "Callerhall" (412 : Nat) (4620693217682128896 : UInt64)) := ex_tt ex_q3 188 rfl rfl
theorem tw_669 : ex_tW (Jvm.Cond.methodLink "CallerhallLaw" (339 : Nat) ({ cls := "Callerhall", name := "isConsistent", desc := "()Z" } : Jvm.MethodName)) := ex_tt ex_q3 189 rfl rfl
theorem tw_670 : ex_tW (Jvm.Cond.instanceMethod ({ cls := "Callerhall", name := "isConsistent", desc := "()Z" } : Jvm.MethodName)) := ex_tt ex_q3 190 rfl rfl
theorem tw_671 : ex_tW (Jvm.Cond.selects "Callerhall" ({ cls := "Callerhall", name := "isConsistent", desc := "()Z" } : Jvm.MethodName) ({ cls := "Callerhall", name := "isConsistent", desc := "()Z" } : Jvm.MethodName)) := ex_tt ex_q3 191 rfl rfl
theorem tw_672 : ex_tW (Jvm.Cond.code ({ cls := "Callerhall", name := "isConsistent", desc := "()Z" } : Jvm.MethodName) prog_1_method_53_code (2 : Nat) (Option.some Jvm.ClassFile.FieldType.boolean)) := ex_tt ex_q3 192 rfl rfl
theorem tw_673 : ex_tW (Jvm.Cond.methodLink "Callerhall" (146 : Nat) ({ cls := "Callerhall$Places", name := "indexAt", desc := "(II)I" } : Jvm.MethodName)) := ex_tt ex_q3 193 rfl rfl
theorem tw_674 : ex_tW (Jvm.Cond.instanceMethod ({ cls := "Callerhall$Places", name := "indexAt", desc := "(II)I" } : Jvm.MethodName)) := ex_tt ex_q3 194 rfl rfl
theorem tw_675 : ex_tW (Jvm.Cond.selects "Callerhall$Places" ({ cls := "Callerhall$Places", name := "indexAt", desc := "(II)I" } : Jvm.MethodName) ({ cls := "Callerhall$Places", name := "indexAt", desc := "(II)I" } : Jvm.MethodName)) := ex_tt ex_q3 195 rfl rfl
theorem tw_676 : ex_tW (Jvm.Cond.code ({ cls := "Callerhall$Places", name := "indexAt", desc := "(II)I" } : Jvm.MethodName) prog_7_method_3_code (4 : Nat) (Option.some Jvm.ClassFile.FieldType.int)) := ex_tt ex_q3 196 rfl rfl
theorem tw_678 : ex_tW (Jvm.Cond.methodLink "Callerhall" (414 : Nat) ({ cls := "Callerhall", name := "isDoneInParts", desc := "(I)Z" } : Jvm.MethodName)) := ex_tt ex_q3 198 rfl rfl
theorem tw_680 : ex_tW (Jvm.Cond.instanceMethod ({ cls := "Callerhall", name := "isDoneInParts", desc := "(I)Z" } : Jvm.MethodName)) := ex_tt ex_q3 200 rfl rfl
theorem tw_681 : ex_tW (Jvm.Cond.code ({ cls := "Callerhall", name := "isDoneInParts", desc := "(I)Z" } : Jvm.MethodName) prog_1_method_68_code (5 : Nat) (Option.some Jvm.ClassFile.FieldType.boolean)) := ex_tt ex_q3 201 rfl rfl
theorem tw_682 : ex_tW (Jvm.Cond.methodLink "Callerhall" (280 : Nat) ({ cls := "Callerhall$Plan", name := "readAct", desc := "(I)V" } : Jvm.MethodName)) := ex_tt ex_q3 202 rfl rfl
theorem tw_683 : ex_tW (Jvm.Cond.instanceMethod ({ cls := "Callerhall$Plan", name := "readAct", desc := "(I)V" } : Jvm.MethodName)) := ex_tt ex_q3 203 rfl rfl
theorem tw_684 : ex_tW (Jvm.Cond.selects "Callerhall$Plan" ({ cls := "Callerhall$Plan", name := "readAct", desc := "(I)V" } : Jvm.MethodName) ({ cls := "Callerhall$Plan", name := "readAct", desc := "(I)V" } : Jvm.MethodName)) := ex_tt ex_q3 204 rfl rfl
theorem tw_685 : ex_tW (Jvm.Cond.code ({ cls := "Callerhall$Plan", name := "readAct", desc := "(I)V" } : Jvm.MethodName) prog_8_method_4_code (2 : Nat) (Option.none : Option Jvm.ClassFile.FieldType)) := ex_tt ex_q3 205 rfl rfl
theorem tw_686 : ex_tW (Jvm.Cond.methodLink "Callerhall$Plan" (54 : Nat) ({ cls := "Callerhall$Plan", name := "clear", desc := "()V" } : Jvm.MethodName)) := ex_tt ex_q3 206 rfl rfl
theorem tw_687 : ex_tW (Jvm.Cond.methodLink "Callerhall$Plan" (57 : Nat) ({ cls := "Callerhall$Plan", name := "append", desc := "(III)V" } : Jvm.MethodName)) := ex_tt ex_q3 207 rfl rfl
theorem tw_689 : ex_tW (Jvm.Cond.instanceMethod ({ cls := "Callerhall$Plan", name := "append", desc := "(III)V" } : Jvm.MethodName)) := ex_tt ex_q3 209 rfl rfl
theorem tw_690 : ex_tW (Jvm.Cond.code ({ cls := "Callerhall$Plan", name := "append", desc := "(III)V" } : Jvm.MethodName) prog_8_method_3_code (4 : Nat) (Option.none : Option Jvm.ClassFile.FieldType)) := ex_tt ex_q3 210 rfl rfl
theorem tw_691 : (Jvm.Cond.fieldLinkNest "Callerhall$Plan" (42 : Nat) "Callerhall" "ACT_PARTS" "[I" "Callerhall") ∈ ex_TN := ex_twn ex_q3 211 rfl rfl
theorem tw_693 : (Jvm.Cond.fieldLinkNest "Callerhall$Plan" (45 : Nat) "Callerhall" "ACT_LEVELS" "[I" "Callerhall") ∈ ex_TN := ex_twn ex_q3 213 rfl rfl
theorem tw_695 : ex_tW (Jvm.Cond.methodLink "Callerhall$Plan" (48 : Nat) ({ cls := "java/lang/Math", name := "max", desc := "(II)I" } : Jvm.MethodName)) := ex_tt ex_q3 215 rfl rfl
theorem tw_696 : ex_tW (Jvm.Cond.methodLink "Callerhall" (242 : Nat) ({ cls := "Callerhall$Stage", name := "load", desc := "(LCallerhall$Places;[I)V" } : Jvm.MethodName)) := ex_tt ex_q3 216 rfl rfl
theorem tw_697 : ex_tW (Jvm.Cond.instanceMethod ({ cls := "Callerhall$Stage", name := "load", desc := "(LCallerhall$Places;[I)V" } : Jvm.MethodName)) := ex_tt ex_q3 217 rfl rfl
theorem tw_698 : ex_tW (Jvm.Cond.selects "Callerhall$Stage" ({ cls := "Callerhall$Stage", name := "load", desc := "(LCallerhall$Places;[I)V" } : Jvm.MethodName) ({ cls := "Callerhall$Stage", name := "load", desc := "(LCallerhall$Places;[I)V" } : Jvm.MethodName)) := ex_tt ex_q3 218 rfl rfl
theorem tw_699 : ex_tW (Jvm.Cond.code ({ cls := "Callerhall$Stage", name := "load", desc := "(LCallerhall$Places;[I)V" } : Jvm.MethodName) prog_10_method_2_code (3 : Nat) (Option.none : Option Jvm.ClassFile.FieldType)) := ex_tt ex_q3 219 rfl rfl
theorem tw_700 : ex_tW (Jvm.Cond.methodLink "Callerhall$Stage" (46 : Nat) ({ cls := "Callerhall$Floor", name := "addDancers", desc := "(LCallerhall$Places;[I)V" } : Jvm.MethodName)) := ex_tt ex_q3 220 rfl rfl
theorem tw_701 : ex_tW (Jvm.Cond.instanceMethod ({ cls := "Callerhall$Floor", name := "addDancers", desc := "(LCallerhall$Places;[I)V" } : Jvm.MethodName)) := ex_tt ex_q3 221 rfl rfl
theorem tw_702 : ex_tW (Jvm.Cond.selects "Callerhall$Floor" ({ cls := "Callerhall$Floor", name := "addDancers", desc := "(LCallerhall$Places;[I)V" } : Jvm.MethodName) ({ cls := "Callerhall$Floor", name := "addDancers", desc := "(LCallerhall$Places;[I)V" } : Jvm.MethodName)) := ex_tt ex_q3 222 rfl rfl
theorem tw_703 : ex_tW (Jvm.Cond.code ({ cls := "Callerhall$Floor", name := "addDancers", desc := "(LCallerhall$Places;[I)V" } : Jvm.MethodName) prog_3_method_3_code (5 : Nat) (Option.none : Option Jvm.ClassFile.FieldType)) := ex_tt ex_q3 223 rfl rfl
theorem tw_704 : ex_tW (Jvm.Cond.methodLink "Callerhall$Floor" (63 : Nat) ({ cls := "Callerhall$Floor", name := "bitOf", desc := "(I)I" } : Jvm.MethodName)) := ex_tt ex_q3 224 rfl rfl
theorem tw_705 : ex_tW (Jvm.Cond.static ({ cls := "Callerhall$Floor", name := "bitOf", desc := "(I)I" } : Jvm.MethodName)) := ex_tt ex_q3 225 rfl rfl
theorem tw_706 : ex_tW (Jvm.Cond.code ({ cls := "Callerhall$Floor", name := "bitOf", desc := "(I)I" } : Jvm.MethodName) prog_3_method_7_code (1 : Nat) (Option.some Jvm.ClassFile.FieldType.int)) := ex_tt ex_q3 226 rfl rfl
theorem tw_707 : ex_tW (Jvm.Cond.methodLink "Callerhall$Floor" (72 : Nat) ({ cls := "Callerhall$Floor", name := "add", desc := "(IIIIII)V" } : Jvm.MethodName)) := ex_tt ex_q3 227 rfl rfl
theorem tw_709 : ex_tW (Jvm.Cond.instanceMethod ({ cls := "Callerhall$Floor", name := "add", desc := "(IIIIII)V" } : Jvm.MethodName)) := ex_tt ex_q3 229 rfl rfl
theorem tw_710 : ex_tW (Jvm.Cond.code ({ cls := "Callerhall$Floor", name := "add", desc := "(IIIIII)V" } : Jvm.MethodName) prog_3_method_2_code (7 : Nat) (Option.none : Option Jvm.ClassFile.FieldType)) := ex_tt ex_q3 230 rfl rfl
theorem tw_711 : ex_tW (Jvm.Cond.methodLink "Callerhall" (283 : Nat) ({ cls := "Callerhall$Stage", name := "run", desc := "(LCallerhall$Plan;II)C" } : Jvm.MethodName)) := ex_tt ex_q3 231 rfl rfl
theorem tw_712 : ex_tW (Jvm.Cond.instanceMethod ({ cls := "Callerhall$Stage", name := "run", desc := "(LCallerhall$Plan;II)C" } : Jvm.MethodName)) := ex_tt ex_q3 232 rfl rfl
theorem tw_713 : ex_tW (Jvm.Cond.selects "Callerhall$Stage" ({ cls := "Callerhall$Stage", name := "run", desc := "(LCallerhall$Plan;II)C" } : Jvm.MethodName) ({ cls := "Callerhall$Stage", name := "run", desc := "(LCallerhall$Plan;II)C" } : Jvm.MethodName)) := ex_tt ex_q3 233 rfl rfl
theorem tw_714 : ex_tW (Jvm.Cond.code ({ cls := "Callerhall$Stage", name := "run", desc := "(LCallerhall$Plan;II)C" } : Jvm.MethodName) prog_10_method_3_code (11 : Nat) (Option.some Jvm.ClassFile.FieldType.char)) := ex_tt ex_q3 234 rfl rfl
theorem tw_715 : ex_tW (Jvm.Cond.methodLink "Callerhall$Stage" (55 : Nat) ({ cls := "Callerhall$Stage", name := "enter", desc := "(I)V" } : Jvm.MethodName)) := ex_tt ex_q3 235 rfl rfl
theorem tw_717 : ex_tW (Jvm.Cond.instanceMethod ({ cls := "Callerhall$Stage", name := "enter", desc := "(I)V" } : Jvm.MethodName)) := ex_tt ex_q3 237 rfl rfl
theorem tw_718 : ex_tW (Jvm.Cond.code ({ cls := "Callerhall$Stage", name := "enter", desc := "(I)V" } : Jvm.MethodName) prog_10_method_6_code (2 : Nat) (Option.none : Option Jvm.ClassFile.FieldType)) := ex_tt ex_q3 238 rfl rfl
theorem tw_719 : ex_tW (Jvm.Cond.methodLink "Callerhall$Stage" (70 : Nat) ({ cls := "Callerhall$Stage", name := "floorAt", desc := "(I)LCallerhall$Floor;" } : Jvm.MethodName)) := ex_tt ex_q3 239 rfl rfl
theorem tw_721 : ex_tW (Jvm.Cond.instanceMethod ({ cls := "Callerhall$Stage", name := "floorAt", desc := "(I)LCallerhall$Floor;" } : Jvm.MethodName)) := ex_tt ex_q4 1 rfl rfl
theorem tw_722 : ex_tW (Jvm.Cond.code ({ cls := "Callerhall$Stage", name := "floorAt", desc := "(I)LCallerhall$Floor;" } : Jvm.MethodName) prog_10_method_5_code (2 : Nat) (Option.some (Jvm.ClassFile.FieldType.object "Callerhall$Floor"))) := ex_tt ex_q4 2 rfl rfl
theorem tw_723 : ex_tW (Jvm.Cond.methodLink "Callerhall$Stage" (113 : Nat) ({ cls := "Callerhall$Floor", name := "addPhantoms", desc := "(LCallerhall$Places;)V" } : Jvm.MethodName)) := ex_tt ex_q4 3 rfl rfl
theorem tw_724 : ex_tW (Jvm.Cond.instanceMethod ({ cls := "Callerhall$Floor", name := "addPhantoms", desc := "(LCallerhall$Places;)V" } : Jvm.MethodName)) := ex_tt ex_q4 4 rfl rfl
theorem tw_725 : ex_tW (Jvm.Cond.selects "Callerhall$Floor" ({ cls := "Callerhall$Floor", name := "addPhantoms", desc := "(LCallerhall$Places;)V" } : Jvm.MethodName) ({ cls := "Callerhall$Floor", name := "addPhantoms", desc := "(LCallerhall$Places;)V" } : Jvm.MethodName)) := ex_tt ex_q4 5 rfl rfl
theorem tw_726 : ex_tW (Jvm.Cond.code ({ cls := "Callerhall$Floor", name := "addPhantoms", desc := "(LCallerhall$Places;)V" } : Jvm.MethodName) prog_3_method_4_code (4 : Nat) (Option.none : Option Jvm.ClassFile.FieldType)) := ex_tt ex_q4 6 rfl rfl
theorem tw_727 : ex_tW (Jvm.Cond.methodLink "Callerhall$Stage" (117 : Nat) ({ cls := "Callerhall$Stage", name := "makeUnits", desc := "(LCallerhall$Floor;LCallerhall$Floor;Z)Z" } : Jvm.MethodName)) := ex_tt ex_q4 7 rfl rfl
theorem tw_729 : ex_tW (Jvm.Cond.instanceMethod ({ cls := "Callerhall$Stage", name := "makeUnits", desc := "(LCallerhall$Floor;LCallerhall$Floor;Z)Z" } : Jvm.MethodName)) := ex_tt ex_q4 9 rfl rfl
theorem tw_730 : ex_tW (Jvm.Cond.code ({ cls := "Callerhall$Stage", name := "makeUnits", desc := "(LCallerhall$Floor;LCallerhall$Floor;Z)Z" } : Jvm.MethodName) prog_10_method_9_code (9 : Nat) (Option.some Jvm.ClassFile.FieldType.boolean)) := ex_tt ex_q4 10 rfl rfl
theorem tw_731 : ex_tW (Jvm.Cond.methodLink "Callerhall$Stage" (91 : Nat) ({ cls := "Callerhall$Floor", name := "mark", desc := "()V" } : Jvm.MethodName)) := ex_tt ex_q4 11 rfl rfl
theorem tw_732 : ex_tW (Jvm.Cond.instanceMethod ({ cls := "Callerhall$Floor", name := "mark", desc := "()V" } : Jvm.MethodName)) := ex_tt ex_q4 12 rfl rfl
theorem tw_733 : ex_tW (Jvm.Cond.selects "Callerhall$Floor" ({ cls := "Callerhall$Floor", name := "mark", desc := "()V" } : Jvm.MethodName) ({ cls := "Callerhall$Floor", name := "mark", desc := "()V" } : Jvm.MethodName)) := ex_tt ex_q4 13 rfl rfl
theorem tw_734 : ex_tW (Jvm.Cond.code ({ cls := "Callerhall$Floor", name := "mark", desc := "()V" } : Jvm.MethodName) prog_3_method_9_code (2 : Nat) (Option.none : Option Jvm.ClassFile.FieldType)) := ex_tt ex_q4 14 rfl rfl
theorem tw_735 : ex_tW (Jvm.Cond.methodLink "Callerhall$Stage" (149 : Nat) ({ cls := "Callerhall$Steps", name := "pairForUnits", desc := "(LCallerhall$Floor;Z)V" } : Jvm.MethodName)) := ex_tt ex_q4 15 rfl rfl
theorem tw_736 : ex_tW (Jvm.Cond.instanceMethod ({ cls := "Callerhall$Steps", name := "pairForUnits", desc := "(LCallerhall$Floor;Z)V" } : Jvm.MethodName)) := ex_tt ex_q4 16 rfl rfl
theorem tw_737 : ex_tW (Jvm.Cond.selects "Callerhall$Steps" ({ cls := "Callerhall$Steps", name := "pairForUnits", desc := "(LCallerhall$Floor;Z)V" } : Jvm.MethodName) ({ cls := "Callerhall$Steps", name := "pairForUnits", desc := "(LCallerhall$Floor;Z)V" } : Jvm.MethodName)) := ex_tt ex_q4 17 rfl rfl
theorem tw_738 : ex_tW (Jvm.Cond.code ({ cls := "Callerhall$Steps", name := "pairForUnits", desc := "(LCallerhall$Floor;Z)V" } : Jvm.MethodName) prog_11_method_11_code (3 : Nat) (Option.none : Option Jvm.ClassFile.FieldType)) := ex_tt ex_q4 18 rfl rfl
theorem tw_739 : ex_tW (Jvm.Cond.methodLink "Callerhall$Steps" (122 : Nat) ({ cls := "Callerhall$Steps", name := "space", desc := "(IZZ)V" } : Jvm.MethodName)) := ex_tt ex_q4 19 rfl rfl
theorem tw_740 : ex_tW (Jvm.Cond.instanceMethod ({ cls := "Callerhall$Steps", name := "space", desc := "(IZZ)V" } : Jvm.MethodName)) := ex_tt ex_q4 20 rfl rfl
theorem tw_741 : ex_tW (Jvm.Cond.selects "Callerhall$Steps" ({ cls := "Callerhall$Steps", name := "space", desc := "(IZZ)V" } : Jvm.MethodName) ({ cls := "Callerhall$Steps", name := "space", desc := "(IZZ)V" } : Jvm.MethodName)) := ex_tt ex_q4 21 rfl rfl
theorem tw_742 : ex_tW (Jvm.Cond.code ({ cls := "Callerhall$Steps", name := "space", desc := "(IZZ)V" } : Jvm.MethodName) prog_11_method_2_code (4 : Nat) (Option.none : Option Jvm.ClassFile.FieldType)) := ex_tt ex_q4 22 rfl rfl
theorem tw_743 : ex_tW (Jvm.Cond.methodLink "Callerhall$Steps" (84 : Nat) ({ cls := "Callerhall$Steps", name := "begin", desc := "(LCallerhall$Floor;)V" } : Jvm.MethodName)) := ex_tt ex_q4 23 rfl rfl
theorem tw_745 : ex_tW (Jvm.Cond.instanceMethod ({ cls := "Callerhall$Steps", name := "begin", desc := "(LCallerhall$Floor;)V" } : Jvm.MethodName)) := ex_tt ex_q4 25 rfl rfl
theorem tw_746 : ex_tW (Jvm.Cond.code ({ cls := "Callerhall$Steps", name := "begin", desc := "(LCallerhall$Floor;)V" } : Jvm.MethodName) prog_11_method_6_code (6 : Nat) (Option.none : Option Jvm.ClassFile.FieldType)) := ex_tt ex_q4 26 rfl rfl
theorem tw_747 : ex_tW (Jvm.Cond.methodLink "Callerhall$Steps" (98 : Nat) ({ cls := "Callerhall$Steps", name := "isAheadInOrder", desc := "(LCallerhall$Floor;II)Z" } : Jvm.MethodName)) := ex_tt ex_q4 27 rfl rfl
theorem tw_749 : ex_tW (Jvm.Cond.instanceMethod ({ cls := "Callerhall$Steps", name := "isAheadInOrder", desc := "(LCallerhall$Floor;II)Z" } : Jvm.MethodName)) := ex_tt ex_q4 29 rfl rfl
theorem tw_750 : ex_tW (Jvm.Cond.code ({ cls := "Callerhall$Steps", name := "isAheadInOrder", desc := "(LCallerhall$Floor;II)Z" } : Jvm.MethodName) prog_11_method_7_code (4 : Nat) (Option.some Jvm.ClassFile.FieldType.boolean)) := ex_tt ex_q4 30 rfl rfl
theorem tw_751 : ex_tW (Jvm.Cond.methodLink "Callerhall$Steps" (126 : Nat) ({ cls := "Callerhall$Steps", name := "findColumns", desc := "(LCallerhall$Floor;)V" } : Jvm.MethodName)) := ex_tt ex_q4 31 rfl rfl
theorem tw_753 : ex_tW (Jvm.Cond.instanceMethod ({ cls := "Callerhall$Steps", name := "findColumns", desc := "(LCallerhall$Floor;)V" } : Jvm.MethodName)) := ex_tt ex_q4 33 rfl rfl
theorem tw_754 : ex_tW (Jvm.Cond.code ({ cls := "Callerhall$Steps", name := "findColumns", desc := "(LCallerhall$Floor;)V" } : Jvm.MethodName) prog_11_method_12_code (9 : Nat) (Option.none : Option Jvm.ClassFile.FieldType)) := ex_tt ex_q4 34 rfl rfl
theorem tw_755 : ex_tW (Jvm.Cond.methodLink "Callerhall$Steps" (94 : Nat) ({ cls := "Callerhall$Steps", name := "findRows", desc := "(LCallerhall$Floor;Z)V" } : Jvm.MethodName)) := ex_tt ex_q4 35 rfl rfl
theorem tw_757 : ex_tW (Jvm.Cond.instanceMethod ({ cls := "Callerhall$Steps", name := "findRows", desc := "(LCallerhall$Floor;Z)V" } : Jvm.MethodName)) := ex_tt ex_q4 37 rfl rfl
theorem tw_758 : ex_tW (Jvm.Cond.code ({ cls := "Callerhall$Steps", name := "findRows", desc := "(LCallerhall$Floor;Z)V" } : Jvm.MethodName) prog_11_method_9_code (6 : Nat) (Option.none : Option Jvm.ClassFile.FieldType)) := ex_tt ex_q4 38 rfl rfl
theorem tw_759 : ex_tW (Jvm.Cond.methodLink "Callerhall$Steps" (114 : Nat) ({ cls := "Callerhall$Steps", name := "findBeside", desc := "(LCallerhall$Floor;IZ)I" } : Jvm.MethodName)) := ex_tt ex_q4 39 rfl rfl
theorem tw_761 : ex_tW (Jvm.Cond.instanceMethod ({ cls := "Callerhall$Steps", name := "findBeside", desc := "(LCallerhall$Floor;IZ)I" } : Jvm.MethodName)) := ex_tt ex_q4 41 rfl rfl
theorem tw_762 : ex_tW (Jvm.Cond.code ({ cls := "Callerhall$Steps", name := "findBeside", desc := "(LCallerhall$Floor;IZ)I" } : Jvm.MethodName) prog_11_method_10_code (9 : Nat) (Option.some Jvm.ClassFile.FieldType.int)) := ex_tt ex_q4 42 rfl rfl
theorem tw_763 : ex_tW (Jvm.Cond.methodLink "Callerhall$Steps" (118 : Nat) ({ cls := "Callerhall$Floor", name := "isToward", desc := "(III)Z" } : Jvm.MethodName)) := ex_tt ex_q4 43 rfl rfl
theorem tw_764 : ex_tW (Jvm.Cond.instanceMethod ({ cls := "Callerhall$Floor", name := "isToward", desc := "(III)Z" } : Jvm.MethodName)) := ex_tt ex_q4 44 rfl rfl
theorem tw_765 : ex_tW (Jvm.Cond.selects "Callerhall$Floor" ({ cls := "Callerhall$Floor", name := "isToward", desc := "(III)Z" } : Jvm.MethodName) ({ cls := "Callerhall$Floor", name := "isToward", desc := "(III)Z" } : Jvm.MethodName)) := ex_tt ex_q4 45 rfl rfl
theorem tw_766 : ex_tW (Jvm.Cond.code ({ cls := "Callerhall$Floor", name := "isToward", desc := "(III)Z" } : Jvm.MethodName) prog_3_method_8_code (5 : Nat) (Option.some Jvm.ClassFile.FieldType.boolean)) := ex_tt ex_q4 46 rfl rfl
theorem tw_767 : (Jvm.Cond.fieldLinkNest "Callerhall$Floor" (86 : Nat) "Callerhall" "STEP_X" "[I" "Callerhall") ∈ ex_TN := ex_twn ex_q4 47 rfl rfl
theorem tw_769 : (Jvm.Cond.fieldLinkNest "Callerhall$Floor" (89 : Nat) "Callerhall" "STEP_Y" "[I" "Callerhall") ∈ ex_TN := ex_twn ex_q4 49 rfl rfl
theorem tw_771 : ex_tW (Jvm.Cond.methodLink "Callerhall$Stage" (162 : Nat) ({ cls := "Callerhall$Floor", name := "isToward", desc := "(III)Z" } : Jvm.MethodName)) := ex_tt ex_q4 51 rfl rfl
theorem tw_772 : ex_tW (Jvm.Cond.methodLink "Callerhall$Stage" (166 : Nat) ({ cls := "Callerhall$Floor", name := "addUnit", desc := "(LCallerhall$Floor;IIZ)Z" } : Jvm.MethodName)) := ex_tt ex_q4 52 rfl rfl
theorem tw_773 : ex_tW (Jvm.Cond.instanceMethod ({ cls := "Callerhall$Floor", name := "addUnit", desc := "(LCallerhall$Floor;IIZ)Z" } : Jvm.MethodName)) := ex_tt ex_q4 53 rfl rfl
theorem tw_774 : ex_tW (Jvm.Cond.selects "Callerhall$Floor" ({ cls := "Callerhall$Floor", name := "addUnit", desc := "(LCallerhall$Floor;IIZ)Z" } : Jvm.MethodName) ({ cls := "Callerhall$Floor", name := "addUnit", desc := "(LCallerhall$Floor;IIZ)Z" } : Jvm.MethodName)) := ex_tt ex_q4 54 rfl rfl
theorem tw_775 : ex_tW (Jvm.Cond.code ({ cls := "Callerhall$Floor", name := "addUnit", desc := "(LCallerhall$Floor;IIZ)Z" } : Jvm.MethodName) prog_3_method_6_code (9 : Nat) (Option.some Jvm.ClassFile.FieldType.boolean)) := ex_tt ex_q4 55 rfl rfl
theorem tw_776 : ex_tW (Jvm.Cond.methodLink "Callerhall$Floor" (83 : Nat) ({ cls := "java/lang/Math", name := "min", desc := "(II)I" } : Jvm.MethodName)) := ex_tt ex_q4 56 rfl rfl
theorem tw_777 : ex_tW (Jvm.Cond.methodLink "Callerhall$Stage" (66 : Nat) ({ cls := "Callerhall$Plan", name := "innerAt", desc := "(I)I" } : Jvm.MethodName)) := ex_tt ex_q4 57 rfl rfl
theorem tw_778 : ex_tW (Jvm.Cond.instanceMethod ({ cls := "Callerhall$Plan", name := "innerAt", desc := "(I)I" } : Jvm.MethodName)) := ex_tt ex_q4 58 rfl rfl
theorem tw_779 : ex_tW (Jvm.Cond.selects "Callerhall$Plan" ({ cls := "Callerhall$Plan", name := "innerAt", desc := "(I)I" } : Jvm.MethodName) ({ cls := "Callerhall$Plan", name := "innerAt", desc := "(I)I" } : Jvm.MethodName)) := ex_tt ex_q4 59 rfl rfl
theorem tw_780 : ex_tW (Jvm.Cond.code ({ cls := "Callerhall$Plan", name := "innerAt", desc := "(I)I" } : Jvm.MethodName) prog_8_method_8_code (2 : Nat) (Option.some Jvm.ClassFile.FieldType.int)) := ex_tt ex_q4 60 rfl rfl
theorem tw_781 : ex_tW (Jvm.Cond.methodLink "Callerhall$Stage" (74 : Nat) ({ cls := "Callerhall$Stage", name := "begin", desc := "(LCallerhall$Floor;LCallerhall$Plan;I)V" } : Jvm.MethodName)) := ex_tt ex_q4 61 rfl rfl
theorem tw_783 : ex_tW (Jvm.Cond.instanceMethod ({ cls := "Callerhall$Stage", name := "begin", desc := "(LCallerhall$Floor;LCallerhall$Plan;I)V" } : Jvm.MethodName)) := ex_tt ex_q4 63 rfl rfl
theorem tw_784 : ex_tW (Jvm.Cond.code ({ cls := "Callerhall$Stage", name := "begin", desc := "(LCallerhall$Floor;LCallerhall$Plan;I)V" } : Jvm.MethodName) prog_10_method_7_code (6 : Nat) (Option.none : Option Jvm.ClassFile.FieldType)) := ex_tt ex_q4 64 rfl rfl
theorem tw_785 : ex_tW (Jvm.Cond.methodLink "Callerhall$Stage" (121 : Nat) ({ cls := "Callerhall$Steps", name := "space", desc := "(IZZ)V" } : Jvm.MethodName)) := ex_tt ex_q4 65 rfl rfl
theorem tw_786 : ex_tW (Jvm.Cond.methodLink "Callerhall$Stage" (128 : Nat) ({ cls := "Callerhall$Steps", name := "tell", desc := "(LCallerhall$Floor;I)Z" } : Jvm.MethodName)) := ex_tt ex_q4 66 rfl rfl
theorem tw_787 : ex_tW (Jvm.Cond.instanceMethod ({ cls := "Callerhall$Steps", name := "tell", desc := "(LCallerhall$Floor;I)Z" } : Jvm.MethodName)) := ex_tt ex_q4 67 rfl rfl
theorem tw_788 : ex_tW (Jvm.Cond.selects "Callerhall$Steps" ({ cls := "Callerhall$Steps", name := "tell", desc := "(LCallerhall$Floor;I)Z" } : Jvm.MethodName) ({ cls := "Callerhall$Steps", name := "tell", desc := "(LCallerhall$Floor;I)Z" } : Jvm.MethodName)) := ex_tt ex_q4 68 rfl rfl
theorem tw_789 : ex_tW (Jvm.Cond.code ({ cls := "Callerhall$Steps", name := "tell", desc := "(LCallerhall$Floor;I)Z" } : Jvm.MethodName) prog_11_method_3_code (8 : Nat) (Option.some Jvm.ClassFile.FieldType.boolean)) := ex_tt ex_q4 69 rfl rfl
theorem tw_790 : ex_tW (Jvm.Cond.methodLink "Callerhall$Steps" (56 : Nat) ({ cls := "Callerhall$Steps", name := "nearnessOf", desc := "(LCallerhall$Floor;I)I" } : Jvm.MethodName)) := ex_tt ex_q4 70 rfl rfl
theorem tw_792 : ex_tW (Jvm.Cond.instanceMethod ({ cls := "Callerhall$Steps", name := "nearnessOf", desc := "(LCallerhall$Floor;I)I" } : Jvm.MethodName)) := ex_tt ex_q4 72 rfl rfl
theorem tw_793 : ex_tW (Jvm.Cond.code ({ cls := "Callerhall$Steps", name := "nearnessOf", desc := "(LCallerhall$Floor;I)I" } : Jvm.MethodName) prog_11_method_4_code (9 : Nat) (Option.some Jvm.ClassFile.FieldType.int)) := ex_tt ex_q4 73 rfl rfl
theorem tw_794 : ex_tW (Jvm.Cond.methodLink "Callerhall$Steps" (70 : Nat) ({ cls := "java/lang/Math", name := "abs", desc := "(I)I" } : Jvm.MethodName)) := ex_tt ex_q4 74 rfl rfl
theorem tw_795 : ex_tW (Jvm.Cond.static ({ cls := "java/lang/Math", name := "abs", desc := "(I)I" } : Jvm.MethodName)) := ex_tt ex_q4 75 rfl rfl
theorem tw_796 : ex_tW (Jvm.Cond.code ({ cls := "java/lang/Math", name := "abs", desc := "(I)I" } : Jvm.MethodName) prog_31_method_59_code (1 : Nat) (Option.some Jvm.ClassFile.FieldType.int)) := ex_tt ex_q4 76 rfl rfl
theorem tw_797 : ex_tW (Jvm.Cond.methodLink "Callerhall$Steps" (63 : Nat) ({ cls := "Callerhall$Floor", name := "bitOf", desc := "(I)I" } : Jvm.MethodName)) := ex_tt ex_q4 77 rfl rfl
theorem tw_798 : ex_tW (Jvm.Cond.methodLink "Callerhall$Stage" (132 : Nat) ({ cls := "Callerhall$Steps", name := "ready", desc := "(LCallerhall$Floor;I)V" } : Jvm.MethodName)) := ex_tt ex_q4 78 rfl rfl
theorem tw_799 : ex_tW (Jvm.Cond.instanceMethod ({ cls := "Callerhall$Steps", name := "ready", desc := "(LCallerhall$Floor;I)V" } : Jvm.MethodName)) := ex_tt ex_q4 79 rfl rfl
theorem tw_800 : ex_tW (Jvm.Cond.selects "Callerhall$Steps" ({ cls := "Callerhall$Steps", name := "ready", desc := "(LCallerhall$Floor;I)V" } : Jvm.MethodName) ({ cls := "Callerhall$Steps", name := "ready", desc := "(LCallerhall$Floor;I)V" } : Jvm.MethodName)) := ex_tt ex_q4 80 rfl rfl
theorem tw_801 : ex_tW (Jvm.Cond.code ({ cls := "Callerhall$Steps", name := "ready", desc := "(LCallerhall$Floor;I)V" } : Jvm.MethodName) prog_11_method_5_code (4 : Nat) (Option.none : Option Jvm.ClassFile.FieldType)) := ex_tt ex_q4 81 rfl rfl
theorem tw_802 : (Jvm.Cond.fieldLinkNest "Callerhall$Steps" (81 : Nat) "Callerhall" "ACT_LEVELS" "[I" "Callerhall") ∈ ex_TN := ex_twn ex_q4 82 rfl rfl
theorem tw_803 : ex_tW (Jvm.Cond.methodLink "Callerhall$Steps" (88 : Nat) ({ cls := "Callerhall$Steps", name := "findFaces", desc := "(LCallerhall$Floor;)V" } : Jvm.MethodName)) := ex_tt ex_q4 83 rfl rfl
theorem tw_805 : ex_tW (Jvm.Cond.instanceMethod ({ cls := "Callerhall$Steps", name := "findFaces", desc := "(LCallerhall$Floor;)V" } : Jvm.MethodName)) := ex_tt ex_q4 85 rfl rfl
theorem tw_806 : ex_tW (Jvm.Cond.code ({ cls := "Callerhall$Steps", name := "findFaces", desc := "(LCallerhall$Floor;)V" } : Jvm.MethodName) prog_11_method_8_code (8 : Nat) (Option.none : Option Jvm.ClassFile.FieldType)) := ex_tt ex_q4 86 rfl rfl
theorem tw_807 : (Jvm.Cond.fieldLinkNest "Callerhall$Steps" (108 : Nat) "Callerhall" "STEP_X" "[I" "Callerhall") ∈ ex_TN := ex_twn ex_q4 87 rfl rfl
theorem tw_808 : (Jvm.Cond.fieldLinkNest "Callerhall$Steps" (111 : Nat) "Callerhall" "STEP_Y" "[I" "Callerhall") ∈ ex_TN := ex_twn ex_q4 88 rfl rfl
theorem tw_809 : ex_tW (Jvm.Cond.methodLink "Callerhall$Steps" (91 : Nat) ({ cls := "Callerhall$Steps", name := "findBoxes", desc := "(LCallerhall$Floor;)V" } : Jvm.MethodName)) := ex_tt ex_q4 89 rfl rfl
theorem tw_811 : ex_tW (Jvm.Cond.instanceMethod ({ cls := "Callerhall$Steps", name := "findBoxes", desc := "(LCallerhall$Floor;)V" } : Jvm.MethodName)) := ex_tt ex_q4 91 rfl rfl
theorem tw_812 : ex_tW (Jvm.Cond.code ({ cls := "Callerhall$Steps", name := "findBoxes", desc := "(LCallerhall$Floor;)V" } : Jvm.MethodName) prog_11_method_13_code (7 : Nat) (Option.none : Option Jvm.ClassFile.FieldType)) := ex_tt ex_q4 92 rfl rfl
theorem tw_813 : ex_tW (Jvm.Cond.methodLink "Callerhall$Steps" (129 : Nat) ({ cls := "Callerhall$Steps", name := "findCorner", desc := "(LCallerhall$Floor;III)I" } : Jvm.MethodName)) := ex_tt ex_q4 93 rfl rfl
theorem tw_815 : ex_tW (Jvm.Cond.instanceMethod ({ cls := "Callerhall$Steps", name := "findCorner", desc := "(LCallerhall$Floor;III)I" } : Jvm.MethodName)) := ex_tt ex_q4 95 rfl rfl
theorem tw_816 : ex_tW (Jvm.Cond.code ({ cls := "Callerhall$Steps", name := "findCorner", desc := "(LCallerhall$Floor;III)I" } : Jvm.MethodName) prog_11_method_15_code (7 : Nat) (Option.some Jvm.ClassFile.FieldType.int)) := ex_tt ex_q4 96 rfl rfl
theorem tw_817 : ex_tW (Jvm.Cond.methodLink "Callerhall$Steps" (133 : Nat) ({ cls := "Callerhall$Steps", name := "isFree", desc := "(I)Z" } : Jvm.MethodName)) := ex_tt ex_q4 97 rfl rfl
theorem tw_819 : ex_tW (Jvm.Cond.instanceMethod ({ cls := "Callerhall$Steps", name := "isFree", desc := "(I)Z" } : Jvm.MethodName)) := ex_tt ex_q4 99 rfl rfl
theorem tw_820 : ex_tW (Jvm.Cond.code ({ cls := "Callerhall$Steps", name := "isFree", desc := "(I)Z" } : Jvm.MethodName) prog_11_method_14_code (2 : Nat) (Option.some Jvm.ClassFile.FieldType.boolean)) := ex_tt ex_q4 100 rfl rfl
theorem tw_821 : ex_tW (Jvm.Cond.methodLink "Callerhall$Steps" (137 : Nat) ({ cls := "Callerhall$Steps", name := "putInBox", desc := "(LCallerhall$Floor;II)V" } : Jvm.MethodName)) := ex_tt ex_q4 101 rfl rfl
theorem tw_823 : ex_tW (Jvm.Cond.instanceMethod ({ cls := "Callerhall$Steps", name := "putInBox", desc := "(LCallerhall$Floor;II)V" } : Jvm.MethodName)) := ex_tt ex_q4 103 rfl rfl
theorem tw_824 : ex_tW (Jvm.Cond.code ({ cls := "Callerhall$Steps", name := "putInBox", desc := "(LCallerhall$Floor;II)V" } : Jvm.MethodName) prog_11_method_16_code (4 : Nat) (Option.none : Option Jvm.ClassFile.FieldType)) := ex_tt ex_q4 104 rfl rfl
theorem tw_825 : ex_tW (Jvm.Cond.methodLink "Callerhall$Stage" (135 : Nat) ({ cls := "Callerhall$Steps", name := "findMisfit", desc := "(LCallerhall$Floor;I)I" } : Jvm.MethodName)) := ex_tt ex_q4 105 rfl rfl
theorem tw_826 : ex_tW (Jvm.Cond.instanceMethod ({ cls := "Callerhall$Steps", name := "findMisfit", desc := "(LCallerhall$Floor;I)I" } : Jvm.MethodName)) := ex_tt ex_q4 106 rfl rfl
theorem tw_827 : ex_tW (Jvm.Cond.selects "Callerhall$Steps" ({ cls := "Callerhall$Steps", name := "findMisfit", desc := "(LCallerhall$Floor;I)I" } : Jvm.MethodName) ({ cls := "Callerhall$Steps", name := "findMisfit", desc := "(LCallerhall$Floor;I)I" } : Jvm.MethodName)) := ex_tt ex_q4 107 rfl rfl
theorem tw_828 : ex_tW (Jvm.Cond.code ({ cls := "Callerhall$Steps", name := "findMisfit", desc := "(LCallerhall$Floor;I)I" } : Jvm.MethodName) prog_11_method_17_code (5 : Nat) (Option.some Jvm.ClassFile.FieldType.int)) := ex_tt ex_q4 108 rfl rfl
theorem tw_829 : ex_tW (Jvm.Cond.methodLink "Callerhall$Steps" (141 : Nat) ({ cls := "Callerhall$Steps", name := "hasItsOwn", desc := "(II)Z" } : Jvm.MethodName)) := ex_tt ex_q4 109 rfl rfl
theorem tw_831 : ex_tW (Jvm.Cond.instanceMethod ({ cls := "Callerhall$Steps", name := "hasItsOwn", desc := "(II)Z" } : Jvm.MethodName)) := ex_tt ex_q4 111 rfl rfl
theorem tw_832 : ex_tW (Jvm.Cond.code ({ cls := "Callerhall$Steps", name := "hasItsOwn", desc := "(II)Z" } : Jvm.MethodName) prog_11_method_18_code (4 : Nat) (Option.some Jvm.ClassFile.FieldType.boolean)) := ex_tt ex_q4 112 rfl rfl
theorem tw_833 : ex_tW (Jvm.Cond.methodLink "Callerhall$Stage" (106 : Nat) ({ cls := "Callerhall$Stage", name := "refuse", desc := "(CI)V" } : Jvm.MethodName)) := ex_tt ex_q4 113 rfl rfl
theorem tw_835 : ex_tW (Jvm.Cond.instanceMethod ({ cls := "Callerhall$Stage", name := "refuse", desc := "(CI)V" } : Jvm.MethodName)) := ex_tt ex_q4 115 rfl rfl
theorem tw_836 : ex_tW (Jvm.Cond.code ({ cls := "Callerhall$Stage", name := "refuse", desc := "(CI)V" } : Jvm.MethodName) prog_10_method_4_code (3 : Nat) (Option.none : Option Jvm.ClassFile.FieldType)) := ex_tt ex_q4 116 rfl rfl
theorem tw_837 : ex_tW (Jvm.Cond.methodLink "Callerhall$Stage" (78 : Nat) ({ cls := "Callerhall$Steps", name := "takeHands", desc := "(LCallerhall$Floor;I)V" } : Jvm.MethodName)) := ex_tt ex_q4 117 rfl rfl
theorem tw_838 : ex_tW (Jvm.Cond.instanceMethod ({ cls := "Callerhall$Steps", name := "takeHands", desc := "(LCallerhall$Floor;I)V" } : Jvm.MethodName)) := ex_tt ex_q4 118 rfl rfl
theorem tw_839 : ex_tW (Jvm.Cond.selects "Callerhall$Steps" ({ cls := "Callerhall$Steps", name := "takeHands", desc := "(LCallerhall$Floor;I)V" } : Jvm.MethodName) ({ cls := "Callerhall$Steps", name := "takeHands", desc := "(LCallerhall$Floor;I)V" } : Jvm.MethodName)) := ex_tt ex_q4 119 rfl rfl
theorem tw_840 : ex_tW (Jvm.Cond.code ({ cls := "Callerhall$Steps", name := "takeHands", desc := "(LCallerhall$Floor;I)V" } : Jvm.MethodName) prog_11_method_19_code (4 : Nat) (Option.none : Option Jvm.ClassFile.FieldType)) := ex_tt ex_q4 120 rfl rfl
theorem tw_841 : ex_tW (Jvm.Cond.methodLink "Callerhall$Steps" (145 : Nat) ({ cls := "Callerhall$Floor", name := "takeHand", desc := "(II)V" } : Jvm.MethodName)) := ex_tt ex_q4 121 rfl rfl
theorem tw_842 : ex_tW (Jvm.Cond.instanceMethod ({ cls := "Callerhall$Floor", name := "takeHand", desc := "(II)V" } : Jvm.MethodName)) := ex_tt ex_q4 122 rfl rfl
theorem tw_843 : ex_tW (Jvm.Cond.selects "Callerhall$Floor" ({ cls := "Callerhall$Floor", name := "takeHand", desc := "(II)V" } : Jvm.MethodName) ({ cls := "Callerhall$Floor", name := "takeHand", desc := "(II)V" } : Jvm.MethodName)) := ex_tt ex_q4 123 rfl rfl
theorem tw_844 : ex_tW (Jvm.Cond.code ({ cls := "Callerhall$Floor", name := "takeHand", desc := "(II)V" } : Jvm.MethodName) prog_3_method_14_code (3 : Nat) (Option.none : Option Jvm.ClassFile.FieldType)) := ex_tt ex_q4 124 rfl rfl
theorem tw_845 : (Jvm.Cond.fieldLinkNest "Callerhall$Stage" (82 : Nat) "Callerhall" "ACT_PARTS" "[I" "Callerhall") ∈ ex_TN := ex_twn ex_q4 125 rfl rfl
theorem tw_846 : ex_tW (Jvm.Cond.methodLink "Callerhall$Stage" (85 : Nat) ({ cls := "java/lang/Math", name := "min", desc := "(II)I" } : Jvm.MethodName)) := ex_tt ex_q4 126 rfl rfl
theorem tw_847 : ex_tW (Jvm.Cond.methodLink "Callerhall$Stage" (98 : Nat) ({ cls := "Callerhall$Steps", name := "step", desc := "(LCallerhall$Floor;II)V" } : Jvm.MethodName)) := ex_tt ex_q4 127 rfl rfl
theorem tw_848 : ex_tW (Jvm.Cond.instanceMethod ({ cls := "Callerhall$Steps", name := "step", desc := "(LCallerhall$Floor;II)V" } : Jvm.MethodName)) := ex_tt ex_q4 128 rfl rfl
theorem tw_849 : ex_tW (Jvm.Cond.selects "Callerhall$Steps" ({ cls := "Callerhall$Steps", name := "step", desc := "(LCallerhall$Floor;II)V" } : Jvm.MethodName) ({ cls := "Callerhall$Steps", name := "step", desc := "(LCallerhall$Floor;II)V" } : Jvm.MethodName)) := ex_tt ex_q4 129 rfl rfl
theorem tw_850 : ex_tW (Jvm.Cond.code ({ cls := "Callerhall$Steps", name := "step", desc := "(LCallerhall$Floor;II)V" } : Jvm.MethodName) prog_11_method_20_code (5 : Nat) (Option.none : Option Jvm.ClassFile.FieldType)) := ex_tt ex_q4 130 rfl rfl
theorem tw_851 : ex_tW (Jvm.Cond.methodLink "Callerhall$Steps" (149 : Nat) ({ cls := "Callerhall$Steps", name := "stepAlone", desc := "(LCallerhall$Floor;II)V" } : Jvm.MethodName)) := ex_tt ex_q4 131 rfl rfl
theorem tw_853 : ex_tW (Jvm.Cond.instanceMethod ({ cls := "Callerhall$Steps", name := "stepAlone", desc := "(LCallerhall$Floor;II)V" } : Jvm.MethodName)) := ex_tt ex_q4 133 rfl rfl
theorem tw_854 : ex_tW (Jvm.Cond.code ({ cls := "Callerhall$Steps", name := "stepAlone", desc := "(LCallerhall$Floor;II)V" } : Jvm.MethodName) prog_11_method_21_code (4 : Nat) (Option.none : Option Jvm.ClassFile.FieldType)) := ex_tt ex_q4 134 rfl rfl
theorem tw_855 : ex_tW (Jvm.Cond.methodLink "Callerhall$Steps" (162 : Nat) ({ cls := "Callerhall$Floor", name := "go", desc := "(III)V" } : Jvm.MethodName)) := ex_tt ex_q4 135 rfl rfl
theorem tw_856 : ex_tW (Jvm.Cond.instanceMethod ({ cls := "Callerhall$Floor", name := "go", desc := "(III)V" } : Jvm.MethodName)) := ex_tt ex_q4 136 rfl rfl
theorem tw_857 : ex_tW (Jvm.Cond.selects "Callerhall$Floor" ({ cls := "Callerhall$Floor", name := "go", desc := "(III)V" } : Jvm.MethodName) ({ cls := "Callerhall$Floor", name := "go", desc := "(III)V" } : Jvm.MethodName)) := ex_tt ex_q4 137 rfl rfl
theorem tw_858 : ex_tW (Jvm.Cond.code ({ cls := "Callerhall$Floor", name := "go", desc := "(III)V" } : Jvm.MethodName) prog_3_method_10_code (5 : Nat) (Option.none : Option Jvm.ClassFile.FieldType)) := ex_tt ex_q4 138 rfl rfl
theorem tw_859 : ex_tW (Jvm.Cond.methodLink "Callerhall$Steps" (166 : Nat) ({ cls := "Callerhall$Floor", name := "turnBy", desc := "(II)V" } : Jvm.MethodName)) := ex_tt ex_q4 139 rfl rfl
theorem tw_860 : ex_tW (Jvm.Cond.instanceMethod ({ cls := "Callerhall$Floor", name := "turnBy", desc := "(II)V" } : Jvm.MethodName)) := ex_tt ex_q4 140 rfl rfl
theorem tw_861 : ex_tW (Jvm.Cond.selects "Callerhall$Floor" ({ cls := "Callerhall$Floor", name := "turnBy", desc := "(II)V" } : Jvm.MethodName) ({ cls := "Callerhall$Floor", name := "turnBy", desc := "(II)V" } : Jvm.MethodName)) := ex_tt ex_q4 141 rfl rfl
theorem tw_862 : ex_tW (Jvm.Cond.code ({ cls := "Callerhall$Floor", name := "turnBy", desc := "(II)V" } : Jvm.MethodName) prog_3_method_11_code (3 : Nat) (Option.none : Option Jvm.ClassFile.FieldType)) := ex_tt ex_q4 142 rfl rfl
theorem tw_863 : ex_tW (Jvm.Cond.methodLink "Callerhall$Steps" (152 : Nat) ({ cls := "Callerhall$Steps", name := "stepFacing", desc := "(LCallerhall$Floor;II)V" } : Jvm.MethodName)) := ex_tt ex_q4 143 rfl rfl
theorem tw_865 : ex_tW (Jvm.Cond.instanceMethod ({ cls := "Callerhall$Steps", name := "stepFacing", desc := "(LCallerhall$Floor;II)V" } : Jvm.MethodName)) := ex_tt ex_q4 145 rfl rfl
theorem tw_866 : ex_tW (Jvm.Cond.code ({ cls := "Callerhall$Steps", name := "stepFacing", desc := "(LCallerhall$Floor;II)V" } : Jvm.MethodName) prog_11_method_22_code (4 : Nat) (Option.none : Option Jvm.ClassFile.FieldType)) := ex_tt ex_q4 146 rfl rfl
theorem tw_867 : ex_tW (Jvm.Cond.methodLink "Callerhall$Steps" (155 : Nat) ({ cls := "Callerhall$Steps", name := "stepInBox", desc := "(LCallerhall$Floor;I)V" } : Jvm.MethodName)) := ex_tt ex_q4 147 rfl rfl
theorem tw_869 : ex_tW (Jvm.Cond.instanceMethod ({ cls := "Callerhall$Steps", name := "stepInBox", desc := "(LCallerhall$Floor;I)V" } : Jvm.MethodName)) := ex_tt ex_q4 149 rfl rfl
theorem tw_870 : ex_tW (Jvm.Cond.code ({ cls := "Callerhall$Steps", name := "stepInBox", desc := "(LCallerhall$Floor;I)V" } : Jvm.MethodName) prog_11_method_23_code (3 : Nat) (Option.none : Option Jvm.ClassFile.FieldType)) := ex_tt ex_q4 150 rfl rfl
theorem tw_871 : ex_tW (Jvm.Cond.methodLink "Callerhall$Steps" (169 : Nat) ({ cls := "Callerhall$Steps", name := "isInBox", desc := "(LCallerhall$Floor;II)Z" } : Jvm.MethodName)) := ex_tt ex_q4 151 rfl rfl
theorem tw_873 : ex_tW (Jvm.Cond.instanceMethod ({ cls := "Callerhall$Steps", name := "isInBox", desc := "(LCallerhall$Floor;II)Z" } : Jvm.MethodName)) := ex_tt ex_q4 153 rfl rfl
theorem tw_874 : ex_tW (Jvm.Cond.code ({ cls := "Callerhall$Steps", name := "isInBox", desc := "(LCallerhall$Floor;II)Z" } : Jvm.MethodName) prog_11_method_24_code (7 : Nat) (Option.some Jvm.ClassFile.FieldType.boolean)) := ex_tt ex_q4 154 rfl rfl
theorem tw_875 : ex_tW (Jvm.Cond.methodLink "Callerhall$Steps" (159 : Nat) ({ cls := "Callerhall$Steps", name := "stepPair", desc := "(LCallerhall$Floor;II)V" } : Jvm.MethodName)) := ex_tt ex_q4 155 rfl rfl
theorem tw_877 : ex_tW (Jvm.Cond.instanceMethod ({ cls := "Callerhall$Steps", name := "stepPair", desc := "(LCallerhall$Floor;II)V" } : Jvm.MethodName)) := ex_tt ex_q4 157 rfl rfl
theorem tw_878 : ex_tW (Jvm.Cond.code ({ cls := "Callerhall$Steps", name := "stepPair", desc := "(LCallerhall$Floor;II)V" } : Jvm.MethodName) prog_11_method_25_code (8 : Nat) (Option.none : Option Jvm.ClassFile.FieldType)) := ex_tt ex_q4 158 rfl rfl
theorem tw_879 : ex_tW (Jvm.Cond.methodLink "Callerhall$Steps" (172 : Nat) ({ cls := "Callerhall$Floor", name := "trade", desc := "(II)V" } : Jvm.MethodName)) := ex_tt ex_q4 159 rfl rfl
theorem tw_880 : ex_tW (Jvm.Cond.instanceMethod ({ cls := "Callerhall$Floor", name := "trade", desc := "(II)V" } : Jvm.MethodName)) := ex_tt ex_q4 160 rfl rfl
theorem tw_881 : ex_tW (Jvm.Cond.selects "Callerhall$Floor" ({ cls := "Callerhall$Floor", name := "trade", desc := "(II)V" } : Jvm.MethodName) ({ cls := "Callerhall$Floor", name := "trade", desc := "(II)V" } : Jvm.MethodName)) := ex_tt ex_q4 161 rfl rfl
theorem tw_882 : ex_tW (Jvm.Cond.code ({ cls := "Callerhall$Floor", name := "trade", desc := "(II)V" } : Jvm.MethodName) prog_3_method_13_code (5 : Nat) (Option.none : Option Jvm.ClassFile.FieldType)) := ex_tt ex_q4 162 rfl rfl
theorem tw_883 : ex_tW (Jvm.Cond.methodLink "Callerhall$Steps" (175 : Nat) ({ cls := "Callerhall$Floor", name := "carry", desc := "(IIII)V" } : Jvm.MethodName)) := ex_tt ex_q4 163 rfl rfl
theorem tw_884 : ex_tW (Jvm.Cond.instanceMethod ({ cls := "Callerhall$Floor", name := "carry", desc := "(IIII)V" } : Jvm.MethodName)) := ex_tt ex_q4 164 rfl rfl
theorem tw_885 : ex_tW (Jvm.Cond.selects "Callerhall$Floor" ({ cls := "Callerhall$Floor", name := "carry", desc := "(IIII)V" } : Jvm.MethodName) ({ cls := "Callerhall$Floor", name := "carry", desc := "(IIII)V" } : Jvm.MethodName)) := ex_tt ex_q4 165 rfl rfl
theorem tw_886 : ex_tW (Jvm.Cond.code ({ cls := "Callerhall$Floor", name := "carry", desc := "(IIII)V" } : Jvm.MethodName) prog_3_method_12_code (7 : Nat) (Option.none : Option Jvm.ClassFile.FieldType)) := ex_tt ex_q4 166 rfl rfl
theorem tw_887 : ex_tW (Jvm.Cond.methodLink "Callerhall$Floor" (92 : Nat) ({ cls := "Callerhall$Floor", name := "turnBy", desc := "(II)V" } : Jvm.MethodName)) := ex_tt ex_q4 167 rfl rfl
theorem tw_888 : ex_tW (Jvm.Cond.methodLink "Callerhall$Stage" (102 : Nat) ({ cls := "Callerhall$Floor", name := "collide", desc := "()I" } : Jvm.MethodName)) := ex_tt ex_q4 168 rfl rfl
theorem tw_889 : ex_tW (Jvm.Cond.instanceMethod ({ cls := "Callerhall$Floor", name := "collide", desc := "()I" } : Jvm.MethodName)) := ex_tt ex_q4 169 rfl rfl
theorem tw_890 : ex_tW (Jvm.Cond.selects "Callerhall$Floor" ({ cls := "Callerhall$Floor", name := "collide", desc := "()I" } : Jvm.MethodName) ({ cls := "Callerhall$Floor", name := "collide", desc := "()I" } : Jvm.MethodName)) := ex_tt ex_q4 170 rfl rfl
theorem tw_891 : ex_tW (Jvm.Cond.code ({ cls := "Callerhall$Floor", name := "collide", desc := "()I" } : Jvm.MethodName) prog_3_method_15_code (3 : Nat) (Option.some Jvm.ClassFile.FieldType.int)) := ex_tt ex_q4 171 rfl rfl
theorem tw_892 : ex_tW (Jvm.Cond.methodLink "Callerhall$Floor" (96 : Nat) ({ cls := "Callerhall$Floor", name := "isPassing", desc := "(I)Z" } : Jvm.MethodName)) := ex_tt ex_q4 172 rfl rfl
theorem tw_894 : ex_tW (Jvm.Cond.instanceMethod ({ cls := "Callerhall$Floor", name := "isPassing", desc := "(I)Z" } : Jvm.MethodName)) := ex_tt ex_q4 174 rfl rfl
theorem tw_895 : ex_tW (Jvm.Cond.code ({ cls := "Callerhall$Floor", name := "isPassing", desc := "(I)Z" } : Jvm.MethodName) prog_3_method_16_code (5 : Nat) (Option.some Jvm.ClassFile.FieldType.boolean)) := ex_tt ex_q4 175 rfl rfl
theorem tw_896 : ex_tW (Jvm.Cond.methodLink "Callerhall$Floor" (107 : Nat) ({ cls := "Callerhall$Floor", name := "hasMoved", desc := "(I)Z" } : Jvm.MethodName)) := ex_tt ex_q4 176 rfl rfl
theorem tw_898 : ex_tW (Jvm.Cond.instanceMethod ({ cls := "Callerhall$Floor", name := "hasMoved", desc := "(I)Z" } : Jvm.MethodName)) := ex_tt ex_q4 178 rfl rfl
theorem tw_899 : ex_tW (Jvm.Cond.code ({ cls := "Callerhall$Floor", name := "hasMoved", desc := "(I)Z" } : Jvm.MethodName) prog_3_method_17_code (2 : Nat) (Option.some Jvm.ClassFile.FieldType.boolean)) := ex_tt ex_q4 179 rfl rfl
theorem tw_900 : ex_tW (Jvm.Cond.methodLink "Callerhall$Floor" (100 : Nat) ({ cls := "Callerhall$Floor", name := "go", desc := "(III)V" } : Jvm.MethodName)) := ex_tt ex_q4 180 rfl rfl
theorem tw_901 : ex_tW (Jvm.Cond.methodLink "Callerhall$Floor" (104 : Nat) ({ cls := "Callerhall$Floor", name := "countWith", desc := "(I)I" } : Jvm.MethodName)) := ex_tt ex_q4 181 rfl rfl
theorem tw_903 : ex_tW (Jvm.Cond.instanceMethod ({ cls := "Callerhall$Floor", name := "countWith", desc := "(I)I" } : Jvm.MethodName)) := ex_tt ex_q4 183 rfl rfl
theorem tw_904 : ex_tW (Jvm.Cond.code ({ cls := "Callerhall$Floor", name := "countWith", desc := "(I)I" } : Jvm.MethodName) prog_3_method_18_code (4 : Nat) (Option.some Jvm.ClassFile.FieldType.int)) := ex_tt ex_q4 184 rfl rfl
theorem tw_905 : ex_tW (Jvm.Cond.methodLink "Callerhall$Stage" (110 : Nat) ({ cls := "Callerhall$Stage", name := "leave", desc := "(I)V" } : Jvm.MethodName)) := ex_tt ex_q4 185 rfl rfl
theorem tw_907 : ex_tW (Jvm.Cond.instanceMethod ({ cls := "Callerhall$Stage", name := "leave", desc := "(I)V" } : Jvm.MethodName)) := ex_tt ex_q4 187 rfl rfl
theorem tw_908 : ex_tW (Jvm.Cond.code ({ cls := "Callerhall$Stage", name := "leave", desc := "(I)V" } : Jvm.MethodName) prog_10_method_8_code (3 : Nat) (Option.none : Option Jvm.ClassFile.FieldType)) := ex_tt ex_q4 188 rfl rfl
theorem tw_909 : ex_tW (Jvm.Cond.methodLink "Callerhall$Stage" (139 : Nat) ({ cls := "Callerhall$Floor", name := "dropPhantoms", desc := "(LCallerhall$Places;)V" } : Jvm.MethodName)) := ex_tt ex_q4 189 rfl rfl
theorem tw_910 : ex_tW (Jvm.Cond.instanceMethod ({ cls := "Callerhall$Floor", name := "dropPhantoms", desc := "(LCallerhall$Places;)V" } : Jvm.MethodName)) := ex_tt ex_q4 190 rfl rfl
theorem tw_911 : ex_tW (Jvm.Cond.selects "Callerhall$Floor" ({ cls := "Callerhall$Floor", name := "dropPhantoms", desc := "(LCallerhall$Places;)V" } : Jvm.MethodName) ({ cls := "Callerhall$Floor", name := "dropPhantoms", desc := "(LCallerhall$Places;)V" } : Jvm.MethodName)) := ex_tt ex_q4 191 rfl rfl
theorem tw_912 : ex_tW (Jvm.Cond.code ({ cls := "Callerhall$Floor", name := "dropPhantoms", desc := "(LCallerhall$Places;)V" } : Jvm.MethodName) prog_3_method_5_code (2 : Nat) (Option.none : Option Jvm.ClassFile.FieldType)) := ex_tt ex_q4 192 rfl rfl
theorem tw_913 : ex_tW (Jvm.Cond.methodLink "Callerhall$Floor" (77 : Nat) ({ cls := "java/lang/Math", name := "max", desc := "(II)I" } : Jvm.MethodName)) := ex_tt ex_q4 193 rfl rfl
theorem tw_914 : ex_tW (Jvm.Cond.methodLink "Callerhall$Stage" (142 : Nat) ({ cls := "Callerhall$Stage", name := "spreadUnits", desc := "(LCallerhall$Floor;LCallerhall$Floor;Z)V" } : Jvm.MethodName)) := ex_tt ex_q4 194 rfl rfl
theorem tw_916 : ex_tW (Jvm.Cond.instanceMethod ({ cls := "Callerhall$Stage", name := "spreadUnits", desc := "(LCallerhall$Floor;LCallerhall$Floor;Z)V" } : Jvm.MethodName)) := ex_tt ex_q4 196 rfl rfl
theorem tw_917 : ex_tW (Jvm.Cond.code ({ cls := "Callerhall$Stage", name := "spreadUnits", desc := "(LCallerhall$Floor;LCallerhall$Floor;Z)V" } : Jvm.MethodName) prog_10_method_10_code (6 : Nat) (Option.none : Option Jvm.ClassFile.FieldType)) := ex_tt ex_q4 197 rfl rfl
theorem tw_918 : ex_tW (Jvm.Cond.methodLink "Callerhall$Stage" (170 : Nat) ({ cls := "Callerhall$Floor", name := "spread", desc := "(LCallerhall$Floor;ZZ)V" } : Jvm.MethodName)) := ex_tt ex_q4 198 rfl rfl
theorem tw_919 : ex_tW (Jvm.Cond.instanceMethod ({ cls := "Callerhall$Floor", name := "spread", desc := "(LCallerhall$Floor;ZZ)V" } : Jvm.MethodName)) := ex_tt ex_q4 199 rfl rfl
theorem tw_920 : ex_tW (Jvm.Cond.selects "Callerhall$Floor" ({ cls := "Callerhall$Floor", name := "spread", desc := "(LCallerhall$Floor;ZZ)V" } : Jvm.MethodName) ({ cls := "Callerhall$Floor", name := "spread", desc := "(LCallerhall$Floor;ZZ)V" } : Jvm.MethodName)) := ex_tt ex_q4 200 rfl rfl
theorem tw_921 : ex_tW (Jvm.Cond.code ({ cls := "Callerhall$Floor", name := "spread", desc := "(LCallerhall$Floor;ZZ)V" } : Jvm.MethodName) prog_3_method_19_code (8 : Nat) (Option.none : Option Jvm.ClassFile.FieldType)) := ex_tt ex_q4 201 rfl rfl
theorem tw_922 : ex_tW (Jvm.Cond.methodLink "Callerhall$Floor" (110 : Nat) ({ cls := "Callerhall$Floor", name := "settle", desc := "(LCallerhall$Floor;IIIII)V" } : Jvm.MethodName)) := ex_tt ex_q4 202 rfl rfl
theorem tw_924 : ex_tW (Jvm.Cond.instanceMethod ({ cls := "Callerhall$Floor", name := "settle", desc := "(LCallerhall$Floor;IIIII)V" } : Jvm.MethodName)) := ex_tt ex_q4 204 rfl rfl
theorem tw_925 : ex_tW (Jvm.Cond.code ({ cls := "Callerhall$Floor", name := "settle", desc := "(LCallerhall$Floor;IIIII)V" } : Jvm.MethodName) prog_3_method_20_code (7 : Nat) (Option.none : Option Jvm.ClassFile.FieldType)) := ex_tt ex_q4 205 rfl rfl
theorem tw_926 : ex_tW (Jvm.Cond.methodLink "Callerhall$Floor" (114 : Nat) ({ cls := "Callerhall$Floor", name := "takeHand", desc := "(II)V" } : Jvm.MethodName)) := ex_tt ex_q4 206 rfl rfl
theorem tw_927 : ex_tW (Jvm.Cond.methodLink "Callerhall" (357 : Nat) ({ cls := "Callerhall$Places", name := "read", desc := "(LCallerhall$Floor;)V" } : Jvm.MethodName)) := ex_tt ex_q4 207 rfl rfl
theorem tw_928 : ex_tW (Jvm.Cond.instanceMethod ({ cls := "Callerhall$Places", name := "read", desc := "(LCallerhall$Floor;)V" } : Jvm.MethodName)) := ex_tt ex_q4 208 rfl rfl
theorem tw_929 : ex_tW (Jvm.Cond.selects "Callerhall$Places" ({ cls := "Callerhall$Places", name := "read", desc := "(LCallerhall$Floor;)V" } : Jvm.MethodName) ({ cls := "Callerhall$Places", name := "read", desc := "(LCallerhall$Floor;)V" } : Jvm.MethodName)) := ex_tt ex_q4 209 rfl rfl
theorem tw_930 : ex_tW (Jvm.Cond.code ({ cls := "Callerhall$Places", name := "read", desc := "(LCallerhall$Floor;)V" } : Jvm.MethodName) prog_7_method_4_code (3 : Nat) (Option.none : Option Jvm.ClassFile.FieldType)) := ex_tt ex_q4 210 rfl rfl
theorem tw_931 : ex_tW (Jvm.Cond.methodLink "Callerhall$Places" (30 : Nat) ({ cls := "Callerhall$Places", name := "tell", desc := "(IIII)V" } : Jvm.MethodName)) := ex_tt ex_q4 211 rfl rfl
theorem tw_932 : ex_tW (Jvm.Cond.methodLink "Callerhall" (455 : Nat) ({ cls := "Callerhall$Places", name := "isAt", desc := "(ILCallerhall$Floor;)Z" } : Jvm.MethodName)) := ex_tt ex_q4 212 rfl rfl
theorem tw_933 : ex_tW (Jvm.Cond.instanceMethod ({ cls := "Callerhall$Places", name := "isAt", desc := "(ILCallerhall$Floor;)Z" } : Jvm.MethodName)) := ex_tt ex_q4 213 rfl rfl
theorem tw_934 : ex_tW (Jvm.Cond.selects "Callerhall$Places" ({ cls := "Callerhall$Places", name := "isAt", desc := "(ILCallerhall$Floor;)Z" } : Jvm.MethodName) ({ cls := "Callerhall$Places", name := "isAt", desc := "(ILCallerhall$Floor;)Z" } : Jvm.MethodName)) := ex_tt ex_q4 214 rfl rfl
theorem tw_935 : ex_tW (Jvm.Cond.code ({ cls := "Callerhall$Places", name := "isAt", desc := "(ILCallerhall$Floor;)Z" } : Jvm.MethodName) prog_7_method_5_code (3 : Nat) (Option.some Jvm.ClassFile.FieldType.boolean)) := ex_tt ex_q4 215 rfl rfl
theorem tw_936 : ex_tW (Jvm.Cond.methodLink "Callerhall" (418 : Nat) ({ cls := "Callerhall$Party", name := "isCounted", desc := "()Z" } : Jvm.MethodName)) := ex_tt ex_q4 216 rfl rfl
theorem tw_937 : ex_tW (Jvm.Cond.instanceMethod ({ cls := "Callerhall$Party", name := "isCounted", desc := "()Z" } : Jvm.MethodName)) := ex_tt ex_q4 217 rfl rfl
theorem tw_938 : ex_tW (Jvm.Cond.selects "Callerhall$Party" ({ cls := "Callerhall$Party", name := "isCounted", desc := "()Z" } : Jvm.MethodName) ({ cls := "Callerhall$Party", name := "isCounted", desc := "()Z" } : Jvm.MethodName)) := ex_tt ex_q4 218 rfl rfl
theorem tw_939 : ex_tW (Jvm.Cond.code ({ cls := "Callerhall$Party", name := "isCounted", desc := "()Z" } : Jvm.MethodName) prog_5_method_7_code (5 : Nat) (Option.some Jvm.ClassFile.FieldType.boolean)) := ex_tt ex_q4 219 rfl rfl
theorem tw_940 : ex_tW (Jvm.Cond.methodLink "CallerhallLaw" (154 : Nat) ({ cls := "CallerhallLaw", name := "x", desc := "(LCallerhall;I[J)I" } : Jvm.MethodName)) := ex_tt ex_q4 220 rfl rfl
theorem tw_941 : ex_tW (Jvm.Cond.static ({ cls := "CallerhallLaw", name := "x", desc := "(LCallerhall;I[J)I" } : Jvm.MethodName)) := ex_tt ex_q4 221 rfl rfl
theorem tw_942 : ex_tW (Jvm.Cond.codeWith ({ cls := "CallerhallLaw", name := "x", desc := "(LCallerhall;I[J)I" } : Jvm.MethodName) method_3_code (4 : Nat) (Option.some Jvm.ClassFile.FieldType.int) [((0 : Nat), (9 : Nat), (12 : Nat), (13 : Nat))]) := ex_tt ex_q4 222 rfl rfl
theorem tw_943 : ex_tW (Jvm.Cond.classLink "CallerhallLaw" (13 : Nat) "java/lang/IndexOutOfBoundsException") := ex_tt ex_q4 223 rfl rfl
theorem tw_1022 : ex_tW (Jvm.Cond.methodLink "CallerhallLaw" (7 : Nat) ({ cls := "Callerhall", name := "x", desc := "(I)I" } : Jvm.MethodName)) := ex_tt ex_q5 62 rfl rfl
theorem tw_1023 : ex_tW (Jvm.Cond.instanceMethod ({ cls := "Callerhall", name := "x", desc := "(I)I" } : Jvm.MethodName)) := ex_tt ex_q5 63 rfl rfl
theorem tw_1024 : ex_tW (Jvm.Cond.selects "Callerhall" ({ cls := "Callerhall", name := "x", desc := "(I)I" } : Jvm.MethodName) ({ cls := "Callerhall", name := "x", desc := "(I)I" } : Jvm.MethodName)) := ex_tt ex_q5 64 rfl rfl
theorem tw_1025 : ex_tW (Jvm.Cond.code ({ cls := "Callerhall", name := "x", desc := "(I)I" } : Jvm.MethodName) prog_1_method_3_code (2 : Nat) (Option.some Jvm.ClassFile.FieldType.int)) := ex_tt ex_q5 65 rfl rfl
theorem tw_1026 : ex_tW (Jvm.Cond.methodLink "Callerhall" (129 : Nat) ({ cls := "Callerhall", name := "checkDancer", desc := "(I)V" } : Jvm.MethodName)) := ex_tt ex_q5 66 rfl rfl
theorem tw_1028 : ex_tW (Jvm.Cond.instanceMethod ({ cls := "Callerhall", name := "checkDancer", desc := "(I)V" } : Jvm.MethodName)) := ex_tt ex_q5 68 rfl rfl
theorem tw_1029 : ex_tW (Jvm.Cond.code ({ cls := "Callerhall", name := "checkDancer", desc := "(I)V" } : Jvm.MethodName) prog_1_method_54_code (2 : Nat) (Option.none : Option Jvm.ClassFile.FieldType)) := ex_tt ex_q5 69 rfl rfl
theorem tw_1030 : ex_tW (Jvm.Cond.classLink "Callerhall" (292 : Nat) "java/lang/IndexOutOfBoundsException") := ex_tt ex_q5 70 rfl rfl
theorem tw_1032 : (Jvm.Cond.castable "java/lang/IndexOutOfBoundsException" "java/lang/IndexOutOfBoundsException") ∈ ex_TN := ex_twn ex_q5 72 rfl rfl
theorem tw_1051 : ex_tW (Jvm.Cond.methodLink "CallerhallLaw" (163 : Nat) ({ cls := "CallerhallLaw", name := "y", desc := "(LCallerhall;I[J)I" } : Jvm.MethodName)) := ex_tt ex_q5 91 rfl rfl
theorem tw_1052 : ex_tW (Jvm.Cond.static ({ cls := "CallerhallLaw", name := "y", desc := "(LCallerhall;I[J)I" } : Jvm.MethodName)) := ex_tt ex_q5 92 rfl rfl
theorem tw_1053 : ex_tW (Jvm.Cond.codeWith ({ cls := "CallerhallLaw", name := "y", desc := "(LCallerhall;I[J)I" } : Jvm.MethodName) method_4_code (4 : Nat) (Option.some Jvm.ClassFile.FieldType.int) [((0 : Nat), (9 : Nat), (12 : Nat), (13 : Nat))]) := ex_tt ex_q5 93 rfl rfl
theorem tw_1054 : ex_tW (Jvm.Cond.methodLink "CallerhallLaw" (15 : Nat) ({ cls := "Callerhall", name := "y", desc := "(I)I" } : Jvm.MethodName)) := ex_tt ex_q5 94 rfl rfl
theorem tw_1055 : ex_tW (Jvm.Cond.instanceMethod ({ cls := "Callerhall", name := "y", desc := "(I)I" } : Jvm.MethodName)) := ex_tt ex_q5 95 rfl rfl
theorem tw_1056 : ex_tW (Jvm.Cond.selects "Callerhall" ({ cls := "Callerhall", name := "y", desc := "(I)I" } : Jvm.MethodName) ({ cls := "Callerhall", name := "y", desc := "(I)I" } : Jvm.MethodName)) := ex_tt ex_q5 96 rfl rfl
theorem tw_1057 : ex_tW (Jvm.Cond.code ({ cls := "Callerhall", name := "y", desc := "(I)I" } : Jvm.MethodName) prog_1_method_4_code (2 : Nat) (Option.some Jvm.ClassFile.FieldType.int)) := ex_tt ex_q5 97 rfl rfl
theorem tw_1058 : ex_tW (Jvm.Cond.methodLink "CallerhallLaw" (166 : Nat) ({ cls := "CallerhallLaw", name := "facing", desc := "(LCallerhall;I[J)I" } : Jvm.MethodName)) := ex_tt ex_q5 98 rfl rfl
theorem tw_1059 : ex_tW (Jvm.Cond.static ({ cls := "CallerhallLaw", name := "facing", desc := "(LCallerhall;I[J)I" } : Jvm.MethodName)) := ex_tt ex_q5 99 rfl rfl
theorem tw_1060 : ex_tW (Jvm.Cond.codeWith ({ cls := "CallerhallLaw", name := "facing", desc := "(LCallerhall;I[J)I" } : Jvm.MethodName) method_5_code (4 : Nat) (Option.some Jvm.ClassFile.FieldType.int) [((0 : Nat), (9 : Nat), (12 : Nat), (13 : Nat))]) := ex_tt ex_q5 100 rfl rfl
theorem tw_1061 : ex_tW (Jvm.Cond.methodLink "CallerhallLaw" (18 : Nat) ({ cls := "Callerhall", name := "facing", desc := "(I)I" } : Jvm.MethodName)) := ex_tt ex_q5 101 rfl rfl
theorem tw_1062 : ex_tW (Jvm.Cond.instanceMethod ({ cls := "Callerhall", name := "facing", desc := "(I)I" } : Jvm.MethodName)) := ex_tt ex_q5 102 rfl rfl
theorem tw_1063 : ex_tW (Jvm.Cond.selects "Callerhall" ({ cls := "Callerhall", name := "facing", desc := "(I)I" } : Jvm.MethodName) ({ cls := "Callerhall", name := "facing", desc := "(I)I" } : Jvm.MethodName)) := ex_tt ex_q5 103 rfl rfl
theorem tw_1064 : ex_tW (Jvm.Cond.code ({ cls := "Callerhall", name := "facing", desc := "(I)I" } : Jvm.MethodName) prog_1_method_5_code (2 : Nat) (Option.some Jvm.ClassFile.FieldType.int)) := ex_tt ex_q5 104 rfl rfl
theorem tw_1065 : ex_tW (Jvm.Cond.methodLink "CallerhallLaw" (169 : Nat) ({ cls := "CallerhallLaw", name := "put", desc := "(LCallerhall;IIII[J)I" } : Jvm.MethodName)) := ex_tt ex_q5 105 rfl rfl
theorem tw_1066 : ex_tW (Jvm.Cond.static ({ cls := "CallerhallLaw", name := "put", desc := "(LCallerhall;IIII[J)I" } : Jvm.MethodName)) := ex_tt ex_q5 106 rfl rfl
theorem tw_1067 : ex_tW (Jvm.Cond.codeWith ({ cls := "CallerhallLaw", name := "put", desc := "(LCallerhall;IIII[J)I" } : Jvm.MethodName) method_6_code (7 : Nat) (Option.some Jvm.ClassFile.FieldType.int) [((0 : Nat), (14 : Nat), (17 : Nat), (13 : Nat)), ((0 : Nat), (14 : Nat), (21 : Nat), (25 : Nat)), ((0 : Nat), (14 : Nat), (25 : Nat), (27 : Nat))]) := ex_tt ex_q5 107 rfl rfl
theorem tw_1068 : ex_tW (Jvm.Cond.classLink "CallerhallLaw" (25 : Nat) "java/lang/IllegalArgumentException") := ex_tt ex_q5 108 rfl rfl
theorem tw_1069 : ex_tW (Jvm.Cond.classLink "CallerhallLaw" (27 : Nat) "java/lang/UnsupportedOperationException") := ex_tt ex_q5 109 rfl rfl
theorem tw_1070 : ex_tW (Jvm.Cond.methodLink "CallerhallLaw" (21 : Nat) ({ cls := "Callerhall", name := "put", desc := "(IIII)I" } : Jvm.MethodName)) := ex_tt ex_q5 110 rfl rfl
theorem tw_1071 : ex_tW (Jvm.Cond.instanceMethod ({ cls := "Callerhall", name := "put", desc := "(IIII)I" } : Jvm.MethodName)) := ex_tt ex_q5 111 rfl rfl
theorem tw_1072 : ex_tW (Jvm.Cond.selects "Callerhall" ({ cls := "Callerhall", name := "put", desc := "(IIII)I" } : Jvm.MethodName) ({ cls := "Callerhall", name := "put", desc := "(IIII)I" } : Jvm.MethodName)) := ex_tt ex_q5 112 rfl rfl
theorem tw_1073 : ex_tW (Jvm.Cond.code ({ cls := "Callerhall", name := "put", desc := "(IIII)I" } : Jvm.MethodName) prog_1_method_6_code (7 : Nat) (Option.some Jvm.ClassFile.FieldType.int)) := ex_tt ex_q5 113 rfl rfl
theorem tw_1074 : ex_tW (Jvm.Cond.methodLink "Callerhall" (142 : Nat) ({ cls := "Callerhall", name := "checkPlace", desc := "(III)V" } : Jvm.MethodName)) := ex_tt ex_q5 114 rfl rfl
theorem tw_1076 : ex_tW (Jvm.Cond.instanceMethod ({ cls := "Callerhall", name := "checkPlace", desc := "(III)V" } : Jvm.MethodName)) := ex_tt ex_q5 116 rfl rfl
theorem tw_1077 : ex_tW (Jvm.Cond.code ({ cls := "Callerhall", name := "checkPlace", desc := "(III)V" } : Jvm.MethodName) prog_1_method_55_code (4 : Nat) (Option.none : Option Jvm.ClassFile.FieldType)) := ex_tt ex_q5 117 rfl rfl
theorem tw_1078 : ex_tW (Jvm.Cond.classLink "Callerhall" (156 : Nat) "java/lang/IllegalArgumentException") := ex_tt ex_q5 118 rfl rfl
theorem tw_1080 : (Jvm.Cond.castable "java/lang/IllegalArgumentException" "java/lang/IllegalArgumentException") ∈ ex_TN := ex_twn ex_q5 120 rfl rfl
theorem tw_1093 : ex_tW (Jvm.Cond.classLink "Callerhall" (150 : Nat) "java/lang/UnsupportedOperationException") := ex_tt ex_q5 133 rfl rfl
theorem tw_1095 : (Jvm.Cond.castable "java/lang/UnsupportedOperationException" "java/lang/UnsupportedOperationException") ∈ ex_TN := ex_twn ex_q5 135 rfl rfl
theorem tw_1108 : ex_tW (Jvm.Cond.methodLink "CallerhallLaw" (173 : Nat) ({ cls := "CallerhallLaw", name := "change", desc := "(LCallerhall;II[J)I" } : Jvm.MethodName)) := ex_tt ex_q5 148 rfl rfl
theorem tw_1109 : ex_tW (Jvm.Cond.static ({ cls := "CallerhallLaw", name := "change", desc := "(LCallerhall;II[J)I" } : Jvm.MethodName)) := ex_tt ex_q5 149 rfl rfl
theorem tw_1110 : ex_tW (Jvm.Cond.codeWith ({ cls := "CallerhallLaw", name := "change", desc := "(LCallerhall;II[J)I" } : Jvm.MethodName) method_7_code (5 : Nat) (Option.some Jvm.ClassFile.FieldType.int) [((0 : Nat), (10 : Nat), (13 : Nat), (13 : Nat)), ((0 : Nat), (10 : Nat), (17 : Nat), (25 : Nat))]) := ex_tt ex_q5 150 rfl rfl
theorem tw_1111 : ex_tW (Jvm.Cond.methodLink "CallerhallLaw" (29 : Nat) ({ cls := "Callerhall", name := "change", desc := "(II)I" } : Jvm.MethodName)) := ex_tt ex_q5 151 rfl rfl
theorem tw_1112 : ex_tW (Jvm.Cond.instanceMethod ({ cls := "Callerhall", name := "change", desc := "(II)I" } : Jvm.MethodName)) := ex_tt ex_q5 152 rfl rfl
theorem tw_1113 : ex_tW (Jvm.Cond.selects "Callerhall" ({ cls := "Callerhall", name := "change", desc := "(II)I" } : Jvm.MethodName) ({ cls := "Callerhall", name := "change", desc := "(II)I" } : Jvm.MethodName)) := ex_tt ex_q5 153 rfl rfl
theorem tw_1114 : ex_tW (Jvm.Cond.code ({ cls := "Callerhall", name := "change", desc := "(II)I" } : Jvm.MethodName) prog_1_method_7_code (7 : Nat) (Option.some Jvm.ClassFile.FieldType.int)) := ex_tt ex_q5 154 rfl rfl
theorem tw_1115 : ex_tW (Jvm.Cond.methodLink "Callerhall" (159 : Nat) ({ cls := "java/lang/Math", name := "abs", desc := "(I)I" } : Jvm.MethodName)) := ex_tt ex_q5 155 rfl rfl
theorem tw_1116 : ex_tW (Jvm.Cond.methodLink "CallerhallLaw" (177 : Nat) ({ cls := "CallerhallLaw", name := "turnAll", desc := "(LCallerhall;I[J)I" } : Jvm.MethodName)) := ex_tt ex_q5 156 rfl rfl
theorem tw_1117 : ex_tW (Jvm.Cond.static ({ cls := "CallerhallLaw", name := "turnAll", desc := "(LCallerhall;I[J)I" } : Jvm.MethodName)) := ex_tt ex_q5 157 rfl rfl
theorem tw_1118 : ex_tW (Jvm.Cond.codeWith ({ cls := "CallerhallLaw", name := "turnAll", desc := "(LCallerhall;I[J)I" } : Jvm.MethodName) method_8_code (4 : Nat) (Option.some Jvm.ClassFile.FieldType.int) [((0 : Nat), (9 : Nat), (12 : Nat), (25 : Nat))]) := ex_tt ex_q5 158 rfl rfl
theorem tw_1119 : ex_tW (Jvm.Cond.methodLink "CallerhallLaw" (33 : Nat) ({ cls := "Callerhall", name := "turnAll", desc := "(I)I" } : Jvm.MethodName)) := ex_tt ex_q5 159 rfl rfl
theorem tw_1120 : ex_tW (Jvm.Cond.instanceMethod ({ cls := "Callerhall", name := "turnAll", desc := "(I)I" } : Jvm.MethodName)) := ex_tt ex_q5 160 rfl rfl
theorem tw_1121 : ex_tW (Jvm.Cond.selects "Callerhall" ({ cls := "Callerhall", name := "turnAll", desc := "(I)I" } : Jvm.MethodName) ({ cls := "Callerhall", name := "turnAll", desc := "(I)I" } : Jvm.MethodName)) := ex_tt ex_q5 161 rfl rfl
theorem tw_1122 : ex_tW (Jvm.Cond.code ({ cls := "Callerhall", name := "turnAll", desc := "(I)I" } : Jvm.MethodName) prog_1_method_8_code (5 : Nat) (Option.some Jvm.ClassFile.FieldType.int)) := ex_tt ex_q5 162 rfl rfl
theorem tw_1123 : ex_tW (Jvm.Cond.methodLink "CallerhallLaw" (180 : Nat) ({ cls := "CallerhallLaw", name := "find", desc := "(LCallerhall;II[J)I" } : Jvm.MethodName)) := ex_tt ex_q5 163 rfl rfl
theorem tw_1124 : ex_tW (Jvm.Cond.static ({ cls := "CallerhallLaw", name := "find", desc := "(LCallerhall;II[J)I" } : Jvm.MethodName)) := ex_tt ex_q5 164 rfl rfl
theorem tw_1125 : ex_tW (Jvm.Cond.codeWith ({ cls := "CallerhallLaw", name := "find", desc := "(LCallerhall;II[J)I" } : Jvm.MethodName) method_9_code (5 : Nat) (Option.some Jvm.ClassFile.FieldType.int) [((0 : Nat), (10 : Nat), (13 : Nat), (39 : Nat))]) := ex_tt ex_q5 165 rfl rfl
theorem tw_1126 : ex_tW (Jvm.Cond.classLink "CallerhallLaw" (39 : Nat) "java/util/NoSuchElementException") := ex_tt ex_q5 166 rfl rfl
theorem tw_1127 : ex_tW (Jvm.Cond.methodLink "CallerhallLaw" (36 : Nat) ({ cls := "Callerhall", name := "find", desc := "(II)I" } : Jvm.MethodName)) := ex_tt ex_q5 167 rfl rfl
theorem tw_1128 : ex_tW (Jvm.Cond.instanceMethod ({ cls := "Callerhall", name := "find", desc := "(II)I" } : Jvm.MethodName)) := ex_tt ex_q5 168 rfl rfl
theorem tw_1129 : ex_tW (Jvm.Cond.selects "Callerhall" ({ cls := "Callerhall", name := "find", desc := "(II)I" } : Jvm.MethodName) ({ cls := "Callerhall", name := "find", desc := "(II)I" } : Jvm.MethodName)) := ex_tt ex_q5 169 rfl rfl
theorem tw_1130 : ex_tW (Jvm.Cond.code ({ cls := "Callerhall", name := "find", desc := "(II)I" } : Jvm.MethodName) prog_1_method_9_code (4 : Nat) (Option.some Jvm.ClassFile.FieldType.int)) := ex_tt ex_q5 170 rfl rfl
theorem tw_1131 : ex_tW (Jvm.Cond.classLink "Callerhall" (172 : Nat) "java/util/NoSuchElementException") := ex_tt ex_q5 171 rfl rfl
theorem tw_1133 : (Jvm.Cond.castable "java/util/NoSuchElementException" "java/util/NoSuchElementException") ∈ ex_TN := ex_twn ex_q5 173 rfl rfl
theorem tw_1146 : ex_tW (Jvm.Cond.methodLink "CallerhallLaw" (183 : Nat) ({ cls := "CallerhallLaw", name := "skill", desc := "(LCallerhall;II[J)I" } : Jvm.MethodName)) := ex_tt ex_q5 186 rfl rfl
theorem tw_1147 : ex_tW (Jvm.Cond.static ({ cls := "CallerhallLaw", name := "skill", desc := "(LCallerhall;II[J)I" } : Jvm.MethodName)) := ex_tt ex_q5 187 rfl rfl
theorem tw_1148 : ex_tW (Jvm.Cond.codeWith ({ cls := "CallerhallLaw", name := "skill", desc := "(LCallerhall;II[J)I" } : Jvm.MethodName) method_10_code (5 : Nat) (Option.some Jvm.ClassFile.FieldType.int) [((0 : Nat), (10 : Nat), (13 : Nat), (13 : Nat)), ((0 : Nat), (10 : Nat), (17 : Nat), (25 : Nat))]) := ex_tt ex_q5 188 rfl rfl
theorem tw_1149 : ex_tW (Jvm.Cond.methodLink "CallerhallLaw" (41 : Nat) ({ cls := "Callerhall", name := "skill", desc := "(II)I" } : Jvm.MethodName)) := ex_tt ex_q5 189 rfl rfl
theorem tw_1150 : ex_tW (Jvm.Cond.instanceMethod ({ cls := "Callerhall", name := "skill", desc := "(II)I" } : Jvm.MethodName)) := ex_tt ex_q5 190 rfl rfl
theorem tw_1151 : ex_tW (Jvm.Cond.selects "Callerhall" ({ cls := "Callerhall", name := "skill", desc := "(II)I" } : Jvm.MethodName) ({ cls := "Callerhall", name := "skill", desc := "(II)I" } : Jvm.MethodName)) := ex_tt ex_q5 191 rfl rfl
theorem tw_1152 : ex_tW (Jvm.Cond.code ({ cls := "Callerhall", name := "skill", desc := "(II)I" } : Jvm.MethodName) prog_1_method_10_code (4 : Nat) (Option.some Jvm.ClassFile.FieldType.int)) := ex_tt ex_q5 192 rfl rfl
theorem tw_1153 : ex_tW (Jvm.Cond.methodLink "CallerhallLaw" (186 : Nat) ({ cls := "CallerhallLaw", name := "phantom", desc := "(LCallerhall;III[J)I" } : Jvm.MethodName)) := ex_tt ex_q5 193 rfl rfl
theorem tw_1154 : ex_tW (Jvm.Cond.static ({ cls := "CallerhallLaw", name := "phantom", desc := "(LCallerhall;III[J)I" } : Jvm.MethodName)) := ex_tt ex_q5 194 rfl rfl
theorem tw_1155 : ex_tW (Jvm.Cond.codeWith ({ cls := "CallerhallLaw", name := "phantom", desc := "(LCallerhall;III[J)I" } : Jvm.MethodName) method_11_code (6 : Nat) (Option.some Jvm.ClassFile.FieldType.int) [((0 : Nat), (12 : Nat), (15 : Nat), (25 : Nat)), ((0 : Nat), (12 : Nat), (19 : Nat), (27 : Nat)), ((0 : Nat), (12 : Nat), (23 : Nat), (48 : Nat))]) := ex_tt ex_q5 195 rfl rfl
theorem tw_1156 : ex_tW (Jvm.Cond.classLink "CallerhallLaw" (48 : Nat) "java/lang/IllegalStateException") := ex_tt ex_q5 196 rfl rfl
theorem tw_1157 : ex_tW (Jvm.Cond.methodLink "CallerhallLaw" (44 : Nat) ({ cls := "Callerhall", name := "phantom", desc := "(III)I" } : Jvm.MethodName)) := ex_tt ex_q5 197 rfl rfl
theorem tw_1158 : ex_tW (Jvm.Cond.instanceMethod ({ cls := "Callerhall", name := "phantom", desc := "(III)I" } : Jvm.MethodName)) := ex_tt ex_q5 198 rfl rfl
theorem tw_1159 : ex_tW (Jvm.Cond.selects "Callerhall" ({ cls := "Callerhall", name := "phantom", desc := "(III)I" } : Jvm.MethodName) ({ cls := "Callerhall", name := "phantom", desc := "(III)I" } : Jvm.MethodName)) := ex_tt ex_q5 199 rfl rfl
theorem tw_1160 : ex_tW (Jvm.Cond.code ({ cls := "Callerhall", name := "phantom", desc := "(III)I" } : Jvm.MethodName) prog_1_method_11_code (4 : Nat) (Option.some Jvm.ClassFile.FieldType.int)) := ex_tt ex_q5 200 rfl rfl
theorem tw_1161 : ex_tW (Jvm.Cond.classLink "Callerhall" (178 : Nat) "java/lang/IllegalStateException") := ex_tt ex_q5 201 rfl rfl
theorem tw_1163 : (Jvm.Cond.castable "java/lang/IllegalStateException" "java/lang/IllegalStateException") ∈ ex_TN := ex_twn ex_q5 203 rfl rfl
theorem tw_1176 : ex_tW (Jvm.Cond.methodLink "CallerhallLaw" (194 : Nat) ({ cls := "CallerhallLaw", name := "level", desc := "(LCallerhall;I[J)I" } : Jvm.MethodName)) := ex_tt ex_q5 216 rfl rfl
theorem tw_1177 : ex_tW (Jvm.Cond.static ({ cls := "CallerhallLaw", name := "level", desc := "(LCallerhall;I[J)I" } : Jvm.MethodName)) := ex_tt ex_q5 217 rfl rfl
theorem tw_1178 : ex_tW (Jvm.Cond.codeWith ({ cls := "CallerhallLaw", name := "level", desc := "(LCallerhall;I[J)I" } : Jvm.MethodName) method_12_code (4 : Nat) (Option.some Jvm.ClassFile.FieldType.int) [((0 : Nat), (9 : Nat), (12 : Nat), (25 : Nat))]) := ex_tt ex_q5 218 rfl rfl
theorem tw_1179 : ex_tW (Jvm.Cond.methodLink "CallerhallLaw" (50 : Nat) ({ cls := "Callerhall", name := "level", desc := "(I)I" } : Jvm.MethodName)) := ex_tt ex_q5 219 rfl rfl
theorem tw_1180 : ex_tW (Jvm.Cond.instanceMethod ({ cls := "Callerhall", name := "level", desc := "(I)I" } : Jvm.MethodName)) := ex_tt ex_q5 220 rfl rfl
theorem tw_1181 : ex_tW (Jvm.Cond.selects "Callerhall" ({ cls := "Callerhall", name := "level", desc := "(I)I" } : Jvm.MethodName) ({ cls := "Callerhall", name := "level", desc := "(I)I" } : Jvm.MethodName)) := ex_tt ex_q5 221 rfl rfl
theorem tw_1182 : ex_tW (Jvm.Cond.code ({ cls := "Callerhall", name := "level", desc := "(I)I" } : Jvm.MethodName) prog_1_method_13_code (3 : Nat) (Option.some Jvm.ClassFile.FieldType.int)) := ex_tt ex_q5 222 rfl rfl
theorem tw_1183 : ex_tW (Jvm.Cond.methodLink "CallerhallLaw" (197 : Nat) ({ cls := "CallerhallLaw", name := "year", desc := "(LCallerhall;I[J)I" } : Jvm.MethodName)) := ex_tt ex_q5 223 rfl rfl
theorem tw_1184 : ex_tW (Jvm.Cond.static ({ cls := "CallerhallLaw", name := "year", desc := "(LCallerhall;I[J)I" } : Jvm.MethodName)) := ex_tt ex_q5 224 rfl rfl
theorem tw_1185 : ex_tW (Jvm.Cond.codeWith ({ cls := "CallerhallLaw", name := "year", desc := "(LCallerhall;I[J)I" } : Jvm.MethodName) method_13_code (4 : Nat) (Option.some Jvm.ClassFile.FieldType.int) [((0 : Nat), (9 : Nat), (12 : Nat), (25 : Nat))]) := ex_tt ex_q5 225 rfl rfl
theorem tw_1186 : ex_tW (Jvm.Cond.methodLink "CallerhallLaw" (53 : Nat) ({ cls := "Callerhall", name := "year", desc := "(I)I" } : Jvm.MethodName)) := ex_tt ex_q5 226 rfl rfl
theorem tw_1187 : ex_tW (Jvm.Cond.instanceMethod ({ cls := "Callerhall", name := "year", desc := "(I)I" } : Jvm.MethodName)) := ex_tt ex_q5 227 rfl rfl
theorem tw_1188 : ex_tW (Jvm.Cond.selects "Callerhall" ({ cls := "Callerhall", name := "year", desc := "(I)I" } : Jvm.MethodName) ({ cls := "Callerhall", name := "year", desc := "(I)I" } : Jvm.MethodName)) := ex_tt ex_q5 228 rfl rfl
theorem tw_1189 : ex_tW (Jvm.Cond.code ({ cls := "Callerhall", name := "year", desc := "(I)I" } : Jvm.MethodName) prog_1_method_14_code (3 : Nat) (Option.some Jvm.ClassFile.FieldType.int)) := ex_tt ex_q5 229 rfl rfl
theorem tw_1190 : ex_tW (Jvm.Cond.methodLink "Callerhall" (181 : Nat) ({ cls := "Callerhall", name := "checkYear", desc := "(I)V" } : Jvm.MethodName)) := ex_tt ex_q5 230 rfl rfl
theorem tw_1192 : ex_tW (Jvm.Cond.instanceMethod ({ cls := "Callerhall", name := "checkYear", desc := "(I)V" } : Jvm.MethodName)) := ex_tt ex_q5 232 rfl rfl
theorem tw_1193 : ex_tW (Jvm.Cond.code ({ cls := "Callerhall", name := "checkYear", desc := "(I)V" } : Jvm.MethodName) prog_1_method_56_code (2 : Nat) (Option.none : Option Jvm.ClassFile.FieldType)) := ex_tt ex_q5 233 rfl rfl
theorem tw_1194 : ex_tW (Jvm.Cond.methodLink "CallerhallLaw" (200 : Nat) ({ cls := "CallerhallLaw", name := "define", desc := "(LCallerhall;CICCC[J)I" } : Jvm.MethodName)) := ex_tt ex_q5 234 rfl rfl
theorem tw_1195 : ex_tW (Jvm.Cond.static ({ cls := "CallerhallLaw", name := "define", desc := "(LCallerhall;CICCC[J)I" } : Jvm.MethodName)) := ex_tt ex_q5 235 rfl rfl
theorem tw_1196 : ex_tW (Jvm.Cond.codeWith ({ cls := "CallerhallLaw", name := "define", desc := "(LCallerhall;CICCC[J)I" } : Jvm.MethodName) method_14_code (8 : Nat) (Option.some Jvm.ClassFile.FieldType.int) [((0 : Nat), (16 : Nat), (19 : Nat), (25 : Nat)), ((0 : Nat), (16 : Nat), (23 : Nat), (48 : Nat))]) := ex_tt ex_q5 236 rfl rfl
theorem tw_1197 : ex_tW (Jvm.Cond.methodLink "CallerhallLaw" (56 : Nat) ({ cls := "Callerhall", name := "define", desc := "(CICCC)I" } : Jvm.MethodName)) := ex_tt ex_q5 237 rfl rfl
theorem tw_1198 : ex_tW (Jvm.Cond.instanceMethod ({ cls := "Callerhall", name := "define", desc := "(CICCC)I" } : Jvm.MethodName)) := ex_tt ex_q5 238 rfl rfl
theorem tw_1199 : ex_tW (Jvm.Cond.selects "Callerhall" ({ cls := "Callerhall", name := "define", desc := "(CICCC)I" } : Jvm.MethodName) ({ cls := "Callerhall", name := "define", desc := "(CICCC)I" } : Jvm.MethodName)) := ex_tt ex_q5 239 rfl rfl
theorem tw_1200 : ex_tW (Jvm.Cond.code ({ cls := "Callerhall", name := "define", desc := "(CICCC)I" } : Jvm.MethodName) prog_1_method_15_code (10 : Nat) (Option.some Jvm.ClassFile.FieldType.int)) := ex_tt ex_q6 0 rfl rfl
theorem tw_1201 : ex_tW (Jvm.Cond.methodLink "Callerhall" (184 : Nat) ({ cls := "Callerhall", name := "letterOf", desc := "(C)I" } : Jvm.MethodName)) := ex_tt ex_q6 1 rfl rfl
theorem tw_1203 : ex_tW (Jvm.Cond.instanceMethod ({ cls := "Callerhall", name := "letterOf", desc := "(C)I" } : Jvm.MethodName)) := ex_tt ex_q6 3 rfl rfl
theorem tw_1204 : ex_tW (Jvm.Cond.code ({ cls := "Callerhall", name := "letterOf", desc := "(C)I" } : Jvm.MethodName) prog_1_method_58_code (2 : Nat) (Option.some Jvm.ClassFile.FieldType.int)) := ex_tt ex_q6 4 rfl rfl
theorem tw_1206 : ex_tW (Jvm.Cond.methodLink "Callerhall" (423 : Nat) ({ cls := "Callerhall", name := "indexIn", desc := "(Ljava/lang/String;C)I" } : Jvm.MethodName)) := ex_tt ex_q6 6 rfl rfl
theorem tw_1208 : ex_tW (Jvm.Cond.instanceMethod ({ cls := "Callerhall", name := "indexIn", desc := "(Ljava/lang/String;C)I" } : Jvm.MethodName)) := ex_tt ex_q6 8 rfl rfl
theorem tw_1209 : ex_tW (Jvm.Cond.code ({ cls := "Callerhall", name := "indexIn", desc := "(Ljava/lang/String;C)I" } : Jvm.MethodName) prog_1_method_62_code (4 : Nat) (Option.some Jvm.ClassFile.FieldType.int)) := ex_tt ex_q6 9 rfl rfl
theorem tw_1210 : ex_tW (Jvm.Cond.methodLink "Callerhall" (233 : Nat) ({ cls := "java/lang/String", name := "indexOf", desc := "(I)I" } : Jvm.MethodName)) := ex_tt ex_q6 10 rfl rfl
theorem tw_1211 : ex_tW (Jvm.Cond.instanceMethod ({ cls := "java/lang/String", name := "indexOf", desc := "(I)I" } : Jvm.MethodName)) := ex_tt ex_q6 11 rfl rfl
theorem tw_1212 : ex_tW (Jvm.Cond.selects "java/lang/String" ({ cls := "java/lang/String", name := "indexOf", desc := "(I)I" } : Jvm.MethodName) ({ cls := "java/lang/String", name := "indexOf", desc := "(I)I" } : Jvm.MethodName)) := ex_tt ex_q6 12 rfl rfl
theorem tw_1213 : ex_tW (Jvm.Cond.code ({ cls := "java/lang/String", name := "indexOf", desc := "(I)I" } : Jvm.MethodName) prog_33_method_79_code (2 : Nat) (Option.some Jvm.ClassFile.FieldType.int)) := ex_tt ex_q6 13 rfl rfl
theorem tw_1214 : ex_tW (Jvm.Cond.methodLink "java/lang/String" (633 : Nat) ({ cls := "java/lang/String", name := "indexOf", desc := "(II)I" } : Jvm.MethodName)) := ex_tt ex_q6 14 rfl rfl
theorem tw_1215 : ex_tW (Jvm.Cond.instanceMethod ({ cls := "java/lang/String", name := "indexOf", desc := "(II)I" } : Jvm.MethodName)) := ex_tt ex_q6 15 rfl rfl
theorem tw_1216 : ex_tW (Jvm.Cond.selects "java/lang/String" ({ cls := "java/lang/String", name := "indexOf", desc := "(II)I" } : Jvm.MethodName) ({ cls := "java/lang/String", name := "indexOf", desc := "(II)I" } : Jvm.MethodName)) := ex_tt ex_q6 16 rfl rfl
theorem tw_1217 : ex_tW (Jvm.Cond.code ({ cls := "java/lang/String", name := "indexOf", desc := "(II)I" } : Jvm.MethodName) prog_33_method_80_code (3 : Nat) (Option.some Jvm.ClassFile.FieldType.int)) := ex_tt ex_q6 17 rfl rfl
theorem tw_1218 : ex_tW (Jvm.Cond.methodLink "java/lang/String" (505 : Nat) ({ cls := "java/lang/String", name := "length", desc := "()I" } : Jvm.MethodName)) := ex_tt ex_q6 18 rfl rfl
theorem tw_1219 : ex_tW (Jvm.Cond.methodLink "java/lang/String" (637 : Nat) ({ cls := "java/lang/StringLatin1", name := "indexOf", desc := "([BIII)I" } : Jvm.MethodName)) := ex_tt ex_q6 19 rfl rfl
theorem tw_1220 : ex_tW (Jvm.Cond.static ({ cls := "java/lang/StringLatin1", name := "indexOf", desc := "([BIII)I" } : Jvm.MethodName)) := ex_tt ex_q6 20 rfl rfl
theorem tw_1221 : ex_tW (Jvm.Cond.code ({ cls := "java/lang/StringLatin1", name := "indexOf", desc := "([BIII)I" } : Jvm.MethodName) prog_34_method_22_code (4 : Nat) (Option.some Jvm.ClassFile.FieldType.int)) := ex_tt ex_q6 21 rfl rfl
theorem tw_1222 : ex_tW (Jvm.Cond.methodLink "java/lang/StringLatin1" (88 : Nat) ({ cls := "java/lang/StringLatin1", name := "canEncode", desc := "(I)Z" } : Jvm.MethodName)) := ex_tt ex_q6 22 rfl rfl
theorem tw_1223 : ex_tW (Jvm.Cond.static ({ cls := "java/lang/StringLatin1", name := "canEncode", desc := "(I)Z" } : Jvm.MethodName)) := ex_tt ex_q6 23 rfl rfl
theorem tw_1224 : ex_tW (Jvm.Cond.code ({ cls := "java/lang/StringLatin1", name := "canEncode", desc := "(I)Z" } : Jvm.MethodName) prog_34_method_4_code (1 : Nat) (Option.some Jvm.ClassFile.FieldType.boolean)) := ex_tt ex_q6 24 rfl rfl
theorem tw_1225 : ex_tW (Jvm.Cond.methodLink "java/lang/StringLatin1" (92 : Nat) ({ cls := "java/lang/Math", name := "max", desc := "(II)I" } : Jvm.MethodName)) := ex_tt ex_q6 25 rfl rfl
theorem tw_1226 : ex_tW (Jvm.Cond.methodLink "java/lang/StringLatin1" (38 : Nat) ({ cls := "java/lang/Math", name := "min", desc := "(II)I" } : Jvm.MethodName)) := ex_tt ex_q6 26 rfl rfl
theorem tw_1227 : ex_tW (Jvm.Cond.methodLink "java/lang/StringLatin1" (95 : Nat) ({ cls := "java/lang/StringLatin1", name := "indexOfChar", desc := "([BIII)I" } : Jvm.MethodName)) := ex_tt ex_q6 27 rfl rfl
theorem tw_1228 : ex_tW (Jvm.Cond.static ({ cls := "java/lang/StringLatin1", name := "indexOfChar", desc := "([BIII)I" } : Jvm.MethodName)) := ex_tt ex_q6 28 rfl rfl
theorem tw_1229 : ex_tW (Jvm.Cond.code ({ cls := "java/lang/StringLatin1", name := "indexOfChar", desc := "([BIII)I" } : Jvm.MethodName) prog_34_method_23_code (6 : Nat) (Option.some Jvm.ClassFile.FieldType.int)) := ex_tt ex_q6 29 rfl rfl
theorem tw_1230 : ex_tW (Jvm.Cond.methodLink "java/lang/String" (640 : Nat) ({ cls := "java/lang/StringUTF16", name := "indexOf", desc := "([BIII)I" } : Jvm.MethodName)) := ex_tt ex_q6 30 rfl rfl
theorem tw_1231 : ex_tW (Jvm.Cond.static ({ cls := "java/lang/StringUTF16", name := "indexOf", desc := "([BIII)I" } : Jvm.MethodName)) := ex_tt ex_q6 31 rfl rfl
theorem tw_1232 : ex_tW (Jvm.Cond.code ({ cls := "java/lang/StringUTF16", name := "indexOf", desc := "([BIII)I" } : Jvm.MethodName) prog_35_method_40_code (4 : Nat) (Option.some Jvm.ClassFile.FieldType.int)) := ex_tt ex_q6 32 rfl rfl
theorem tw_1233 : ex_tW (Jvm.Cond.methodLink "java/lang/StringUTF16" (224 : Nat) ({ cls := "java/lang/Math", name := "max", desc := "(II)I" } : Jvm.MethodName)) := ex_tt ex_q6 33 rfl rfl
theorem tw_1234 : ex_tW (Jvm.Cond.methodLink "java/lang/StringUTF16" (183 : Nat) ({ cls := "java/lang/Math", name := "min", desc := "(II)I" } : Jvm.MethodName)) := ex_tt ex_q6 34 rfl rfl
theorem tw_1235 : ex_tW (Jvm.Cond.constant "java/lang/StringUTF16" (227 : Nat) (65536 : Int32)) := ex_tt ex_q6 35 rfl rfl
theorem tw_1236 : ex_tW (Jvm.Cond.methodLink "java/lang/StringUTF16" (228 : Nat) ({ cls := "java/lang/StringUTF16", name := "indexOfChar", desc := "([BIII)I" } : Jvm.MethodName)) := ex_tt ex_q6 36 rfl rfl
theorem tw_1237 : ex_tW (Jvm.Cond.static ({ cls := "java/lang/StringUTF16", name := "indexOfChar", desc := "([BIII)I" } : Jvm.MethodName)) := ex_tt ex_q6 37 rfl rfl
theorem tw_1238 : ex_tW (Jvm.Cond.code ({ cls := "java/lang/StringUTF16", name := "indexOfChar", desc := "([BIII)I" } : Jvm.MethodName) prog_35_method_47_code (4 : Nat) (Option.some Jvm.ClassFile.FieldType.int)) := ex_tt ex_q6 38 rfl rfl
theorem tw_1239 : ex_tW (Jvm.Cond.methodLink "java/lang/StringUTF16" (96 : Nat) ({ cls := "java/lang/StringUTF16", name := "checkBoundsBeginEnd", desc := "(II[B)V" } : Jvm.MethodName)) := ex_tt ex_q6 39 rfl rfl
theorem tw_1240 : ex_tW (Jvm.Cond.static ({ cls := "java/lang/StringUTF16", name := "checkBoundsBeginEnd", desc := "(II[B)V" } : Jvm.MethodName)) := ex_tt ex_q6 40 rfl rfl
theorem tw_1241 : ex_tW (Jvm.Cond.code ({ cls := "java/lang/StringUTF16", name := "checkBoundsBeginEnd", desc := "(II[B)V" } : Jvm.MethodName) prog_35_method_93_code (3 : Nat) (Option.none : Option Jvm.ClassFile.FieldType)) := ex_tt ex_q6 41 rfl rfl
theorem tw_1242 : ex_tW (Jvm.Cond.methodLink "java/lang/StringUTF16" (241 : Nat) ({ cls := "java/lang/String", name := "checkBoundsBeginEnd", desc := "(III)V" } : Jvm.MethodName)) := ex_tt ex_q6 42 rfl rfl
theorem tw_1243 : ex_tW (Jvm.Cond.static ({ cls := "java/lang/String", name := "checkBoundsBeginEnd", desc := "(III)V" } : Jvm.MethodName)) := ex_tt ex_q6 43 rfl rfl
theorem tw_1244 : ex_tW (Jvm.Cond.code ({ cls := "java/lang/String", name := "checkBoundsBeginEnd", desc := "(III)V" } : Jvm.MethodName) prog_33_method_158_code (3 : Nat) (Option.none : Option Jvm.ClassFile.FieldType)) := ex_tt ex_q6 44 rfl rfl
theorem tw_1245 : ex_tW (Jvm.Cond.methodLink "java/lang/String" (1062 : Nat) ({ cls := "jdk/internal/util/Preconditions", name := "checkFromToIndex", desc := "(IIILjava/util/function/BiFunction;)I" } : Jvm.MethodName)) := ex_tt ex_q6 45 rfl rfl
theorem tw_1246 : ex_tW (Jvm.Cond.static ({ cls := "jdk/internal/util/Preconditions", name := "checkFromToIndex", desc := "(IIILjava/util/function/BiFunction;)I" } : Jvm.MethodName)) := ex_tt ex_q6 46 rfl rfl
theorem tw_1247 : ex_tW (Jvm.Cond.code ({ cls := "jdk/internal/util/Preconditions", name := "checkFromToIndex", desc := "(IIILjava/util/function/BiFunction;)I" } : Jvm.MethodName) prog_54_method_12_code (4 : Nat) (Option.some Jvm.ClassFile.FieldType.int)) := ex_tt ex_q6 47 rfl rfl
theorem tw_1248 : ex_tW (Jvm.Cond.methodLink "java/lang/StringUTF16" (244 : Nat) ({ cls := "java/lang/StringUTF16", name := "indexOfCharUnsafe", desc := "([BIII)I" } : Jvm.MethodName)) := ex_tt ex_q6 48 rfl rfl
theorem tw_1249 : ex_tW (Jvm.Cond.static ({ cls := "java/lang/StringUTF16", name := "indexOfCharUnsafe", desc := "([BIII)I" } : Jvm.MethodName)) := ex_tt ex_q6 49 rfl rfl
theorem tw_1250 : ex_tW (Jvm.Cond.code ({ cls := "java/lang/StringUTF16", name := "indexOfCharUnsafe", desc := "([BIII)I" } : Jvm.MethodName) prog_35_method_48_code (5 : Nat) (Option.some Jvm.ClassFile.FieldType.int)) := ex_tt ex_q6 50 rfl rfl
theorem tw_1251 : ex_tW (Jvm.Cond.methodLink "java/lang/StringUTF16" (232 : Nat) ({ cls := "java/lang/StringUTF16", name := "indexOfSupplementary", desc := "([BIII)I" } : Jvm.MethodName)) := ex_tt ex_q6 51 rfl rfl
theorem tw_1252 : ex_tW (Jvm.Cond.static ({ cls := "java/lang/StringUTF16", name := "indexOfSupplementary", desc := "([BIII)I" } : Jvm.MethodName)) := ex_tt ex_q6 52 rfl rfl
theorem tw_1253 : ex_tW (Jvm.Cond.code ({ cls := "java/lang/StringUTF16", name := "indexOfSupplementary", desc := "([BIII)I" } : Jvm.MethodName) prog_35_method_49_code (7 : Nat) (Option.some Jvm.ClassFile.FieldType.int)) := ex_tt ex_q6 53 rfl rfl
theorem tw_1254 : ex_tW (Jvm.Cond.methodLink "java/lang/StringUTF16" (164 : Nat) ({ cls := "java/lang/Character", name := "isValidCodePoint", desc := "(I)Z" } : Jvm.MethodName)) := ex_tt ex_q6 54 rfl rfl
theorem tw_1255 : ex_tW (Jvm.Cond.static ({ cls := "java/lang/Character", name := "isValidCodePoint", desc := "(I)Z" } : Jvm.MethodName)) := ex_tt ex_q6 55 rfl rfl
theorem tw_1256 : ex_tW (Jvm.Cond.code ({ cls := "java/lang/Character", name := "isValidCodePoint", desc := "(I)Z" } : Jvm.MethodName) prog_22_method_11_code (2 : Nat) (Option.some Jvm.ClassFile.FieldType.boolean)) := ex_tt ex_q6 56 rfl rfl
theorem tw_1257 : ex_tW (Jvm.Cond.methodLink "java/lang/StringUTF16" (157 : Nat) ({ cls := "java/lang/Character", name := "highSurrogate", desc := "(I)C" } : Jvm.MethodName)) := ex_tt ex_q6 57 rfl rfl
theorem tw_1258 : ex_tW (Jvm.Cond.static ({ cls := "java/lang/Character", name := "highSurrogate", desc := "(I)C" } : Jvm.MethodName)) := ex_tt ex_q6 58 rfl rfl
theorem tw_1259 : ex_tW (Jvm.Cond.code ({ cls := "java/lang/Character", name := "highSurrogate", desc := "(I)C" } : Jvm.MethodName) prog_22_method_28_code (1 : Nat) (Option.some Jvm.ClassFile.FieldType.char)) := ex_tt ex_q6 59 rfl rfl
theorem tw_1261 : ex_tW (Jvm.Cond.methodLink "java/lang/StringUTF16" (161 : Nat) ({ cls := "java/lang/Character", name := "lowSurrogate", desc := "(I)C" } : Jvm.MethodName)) := ex_tt ex_q6 61 rfl rfl
theorem tw_1262 : ex_tW (Jvm.Cond.static ({ cls := "java/lang/Character", name := "lowSurrogate", desc := "(I)C" } : Jvm.MethodName)) := ex_tt ex_q6 62 rfl rfl
theorem tw_1263 : ex_tW (Jvm.Cond.code ({ cls := "java/lang/Character", name := "lowSurrogate", desc := "(I)C" } : Jvm.MethodName) prog_22_method_29_code (1 : Nat) (Option.some Jvm.ClassFile.FieldType.char)) := ex_tt ex_q6 63 rfl rfl
theorem tw_1264 : ex_tW (Jvm.Cond.constant "java/lang/Character" (76 : Nat) (56320 : Int32)) := ex_tt ex_q6 64 rfl rfl
theorem tw_1265 : ex_tW (Jvm.Cond.methodLink "Callerhall" (188 : Nat) ({ cls := "Callerhall", name := "actOf", desc := "(C)I" } : Jvm.MethodName)) := ex_tt ex_q6 65 rfl rfl
theorem tw_1267 : ex_tW (Jvm.Cond.instanceMethod ({ cls := "Callerhall", name := "actOf", desc := "(C)I" } : Jvm.MethodName)) := ex_tt ex_q6 67 rfl rfl
theorem tw_1268 : ex_tW (Jvm.Cond.code ({ cls := "Callerhall", name := "actOf", desc := "(C)I" } : Jvm.MethodName) prog_1_method_59_code (2 : Nat) (Option.some Jvm.ClassFile.FieldType.int)) := ex_tt ex_q6 68 rfl rfl
theorem tw_1269 : ex_tW (Jvm.Cond.methodLink "Callerhall" (191 : Nat) ({ cls := "Callerhall", name := "whoOf", desc := "(C)I" } : Jvm.MethodName)) := ex_tt ex_q6 69 rfl rfl
theorem tw_1271 : ex_tW (Jvm.Cond.instanceMethod ({ cls := "Callerhall", name := "whoOf", desc := "(C)I" } : Jvm.MethodName)) := ex_tt ex_q6 71 rfl rfl
theorem tw_1272 : ex_tW (Jvm.Cond.code ({ cls := "Callerhall", name := "whoOf", desc := "(C)I" } : Jvm.MethodName) prog_1_method_60_code (2 : Nat) (Option.some Jvm.ClassFile.FieldType.int)) := ex_tt ex_q6 72 rfl rfl
theorem tw_1274 : ex_tW (Jvm.Cond.methodLink "Callerhall" (194 : Nat) ({ cls := "Callerhall", name := "conceptOf", desc := "(C)I" } : Jvm.MethodName)) := ex_tt ex_q6 74 rfl rfl
theorem tw_1276 : ex_tW (Jvm.Cond.instanceMethod ({ cls := "Callerhall", name := "conceptOf", desc := "(C)I" } : Jvm.MethodName)) := ex_tt ex_q6 76 rfl rfl
theorem tw_1277 : ex_tW (Jvm.Cond.code ({ cls := "Callerhall", name := "conceptOf", desc := "(C)I" } : Jvm.MethodName) prog_1_method_61_code (2 : Nat) (Option.some Jvm.ClassFile.FieldType.int)) := ex_tt ex_q6 77 rfl rfl
theorem tw_1279 : ex_tW (Jvm.Cond.methodLink "Callerhall" (197 : Nat) ({ cls := "Callerhall$Book", name := "canAdd", desc := "(II)Z" } : Jvm.MethodName)) := ex_tt ex_q6 79 rfl rfl
theorem tw_1280 : ex_tW (Jvm.Cond.instanceMethod ({ cls := "Callerhall$Book", name := "canAdd", desc := "(II)Z" } : Jvm.MethodName)) := ex_tt ex_q6 80 rfl rfl
theorem tw_1281 : ex_tW (Jvm.Cond.selects "Callerhall$Book" ({ cls := "Callerhall$Book", name := "canAdd", desc := "(II)Z" } : Jvm.MethodName) ({ cls := "Callerhall$Book", name := "canAdd", desc := "(II)Z" } : Jvm.MethodName)) := ex_tt ex_q6 81 rfl rfl
theorem tw_1282 : ex_tW (Jvm.Cond.code ({ cls := "Callerhall$Book", name := "canAdd", desc := "(II)Z" } : Jvm.MethodName) prog_2_method_4_code (4 : Nat) (Option.some Jvm.ClassFile.FieldType.boolean)) := ex_tt ex_q6 82 rfl rfl
theorem tw_1283 : ex_tW (Jvm.Cond.methodLink "Callerhall$Book" (33 : Nat) ({ cls := "Callerhall$Book", name := "versionOf", desc := "(II)I" } : Jvm.MethodName)) := ex_tt ex_q6 83 rfl rfl
theorem tw_1284 : ex_tW (Jvm.Cond.instanceMethod ({ cls := "Callerhall$Book", name := "versionOf", desc := "(II)I" } : Jvm.MethodName)) := ex_tt ex_q6 84 rfl rfl
theorem tw_1285 : ex_tW (Jvm.Cond.selects "Callerhall$Book" ({ cls := "Callerhall$Book", name := "versionOf", desc := "(II)I" } : Jvm.MethodName) ({ cls := "Callerhall$Book", name := "versionOf", desc := "(II)I" } : Jvm.MethodName)) := ex_tt ex_q6 85 rfl rfl
theorem tw_1286 : ex_tW (Jvm.Cond.code ({ cls := "Callerhall$Book", name := "versionOf", desc := "(II)I" } : Jvm.MethodName) prog_2_method_2_code (5 : Nat) (Option.some Jvm.ClassFile.FieldType.int)) := ex_tt ex_q6 86 rfl rfl
theorem tw_1287 : ex_tW (Jvm.Cond.methodLink "Callerhall" (201 : Nat) ({ cls := "Callerhall$Book", name := "add", desc := "(IIIII)I" } : Jvm.MethodName)) := ex_tt ex_q6 87 rfl rfl
theorem tw_1288 : ex_tW (Jvm.Cond.instanceMethod ({ cls := "Callerhall$Book", name := "add", desc := "(IIIII)I" } : Jvm.MethodName)) := ex_tt ex_q6 88 rfl rfl
theorem tw_1289 : ex_tW (Jvm.Cond.selects "Callerhall$Book" ({ cls := "Callerhall$Book", name := "add", desc := "(IIIII)I" } : Jvm.MethodName) ({ cls := "Callerhall$Book", name := "add", desc := "(IIIII)I" } : Jvm.MethodName)) := ex_tt ex_q6 89 rfl rfl
theorem tw_1290 : ex_tW (Jvm.Cond.code ({ cls := "Callerhall$Book", name := "add", desc := "(IIIII)I" } : Jvm.MethodName) prog_2_method_5_code (8 : Nat) (Option.some Jvm.ClassFile.FieldType.int)) := ex_tt ex_q6 90 rfl rfl
theorem tw_1291 : ex_tW (Jvm.Cond.methodLink "CallerhallLaw" (204 : Nat) ({ cls := "CallerhallLaw", name := "forget", desc := "(LCallerhall;C[J)I" } : Jvm.MethodName)) := ex_tt ex_q6 91 rfl rfl
theorem tw_1292 : ex_tW (Jvm.Cond.static ({ cls := "CallerhallLaw", name := "forget", desc := "(LCallerhall;C[J)I" } : Jvm.MethodName)) := ex_tt ex_q6 92 rfl rfl
theorem tw_1293 : ex_tW (Jvm.Cond.codeWith ({ cls := "CallerhallLaw", name := "forget", desc := "(LCallerhall;C[J)I" } : Jvm.MethodName) method_15_code (4 : Nat) (Option.some Jvm.ClassFile.FieldType.int) [((0 : Nat), (9 : Nat), (12 : Nat), (25 : Nat))]) := ex_tt ex_q6 93 rfl rfl
theorem tw_1294 : ex_tW (Jvm.Cond.methodLink "CallerhallLaw" (60 : Nat) ({ cls := "Callerhall", name := "forget", desc := "(C)I" } : Jvm.MethodName)) := ex_tt ex_q6 94 rfl rfl
theorem tw_1295 : ex_tW (Jvm.Cond.instanceMethod ({ cls := "Callerhall", name := "forget", desc := "(C)I" } : Jvm.MethodName)) := ex_tt ex_q6 95 rfl rfl
theorem tw_1296 : ex_tW (Jvm.Cond.selects "Callerhall" ({ cls := "Callerhall", name := "forget", desc := "(C)I" } : Jvm.MethodName) ({ cls := "Callerhall", name := "forget", desc := "(C)I" } : Jvm.MethodName)) := ex_tt ex_q6 96 rfl rfl
theorem tw_1297 : ex_tW (Jvm.Cond.code ({ cls := "Callerhall", name := "forget", desc := "(C)I" } : Jvm.MethodName) prog_1_method_16_code (3 : Nat) (Option.some Jvm.ClassFile.FieldType.int)) := ex_tt ex_q6 97 rfl rfl
theorem tw_1298 : ex_tW (Jvm.Cond.methodLink "Callerhall" (205 : Nat) ({ cls := "Callerhall$Book", name := "drop", desc := "(I)I" } : Jvm.MethodName)) := ex_tt ex_q6 98 rfl rfl
theorem tw_1299 : ex_tW (Jvm.Cond.instanceMethod ({ cls := "Callerhall$Book", name := "drop", desc := "(I)I" } : Jvm.MethodName)) := ex_tt ex_q6 99 rfl rfl
theorem tw_1300 : ex_tW (Jvm.Cond.selects "Callerhall$Book" ({ cls := "Callerhall$Book", name := "drop", desc := "(I)I" } : Jvm.MethodName) ({ cls := "Callerhall$Book", name := "drop", desc := "(I)I" } : Jvm.MethodName)) := ex_tt ex_q6 100 rfl rfl
theorem tw_1301 : ex_tW (Jvm.Cond.code ({ cls := "Callerhall$Book", name := "drop", desc := "(I)I" } : Jvm.MethodName) prog_2_method_6_code (3 : Nat) (Option.some Jvm.ClassFile.FieldType.int)) := ex_tt ex_q6 101 rfl rfl
theorem tw_1302 : ex_tW (Jvm.Cond.methodLink "CallerhallLaw" (208 : Nat) ({ cls := "CallerhallLaw", name := "timing", desc := "(LCallerhall;CII[J)I" } : Jvm.MethodName)) := ex_tt ex_q6 102 rfl rfl
theorem tw_1303 : ex_tW (Jvm.Cond.static ({ cls := "CallerhallLaw", name := "timing", desc := "(LCallerhall;CII[J)I" } : Jvm.MethodName)) := ex_tt ex_q6 103 rfl rfl
theorem tw_1304 : ex_tW (Jvm.Cond.codeWith ({ cls := "CallerhallLaw", name := "timing", desc := "(LCallerhall;CII[J)I" } : Jvm.MethodName) method_16_code (6 : Nat) (Option.some Jvm.ClassFile.FieldType.int) [((0 : Nat), (12 : Nat), (15 : Nat), (25 : Nat)), ((0 : Nat), (12 : Nat), (19 : Nat), (39 : Nat))]) := ex_tt ex_q6 104 rfl rfl
theorem tw_1305 : ex_tW (Jvm.Cond.methodLink "CallerhallLaw" (64 : Nat) ({ cls := "Callerhall", name := "timing", desc := "(CII)I" } : Jvm.MethodName)) := ex_tt ex_q6 105 rfl rfl
theorem tw_1306 : ex_tW (Jvm.Cond.instanceMethod ({ cls := "Callerhall", name := "timing", desc := "(CII)I" } : Jvm.MethodName)) := ex_tt ex_q6 106 rfl rfl
theorem tw_1307 : ex_tW (Jvm.Cond.selects "Callerhall" ({ cls := "Callerhall", name := "timing", desc := "(CII)I" } : Jvm.MethodName) ({ cls := "Callerhall", name := "timing", desc := "(CII)I" } : Jvm.MethodName)) := ex_tt ex_q6 107 rfl rfl
theorem tw_1308 : ex_tW (Jvm.Cond.code ({ cls := "Callerhall", name := "timing", desc := "(CII)I" } : Jvm.MethodName) prog_1_method_17_code (6 : Nat) (Option.some Jvm.ClassFile.FieldType.int)) := ex_tt ex_q6 108 rfl rfl
theorem tw_1309 : ex_tW (Jvm.Cond.methodLink "Callerhall" (208 : Nat) ({ cls := "Callerhall$Book", name := "versionOf", desc := "(II)I" } : Jvm.MethodName)) := ex_tt ex_q6 109 rfl rfl
theorem tw_1310 : ex_tW (Jvm.Cond.methodLink "Callerhall" (211 : Nat) ({ cls := "Callerhall$Plan", name := "readVersion", desc := "(LCallerhall$Book;I)V" } : Jvm.MethodName)) := ex_tt ex_q6 110 rfl rfl
theorem tw_1311 : ex_tW (Jvm.Cond.instanceMethod ({ cls := "Callerhall$Plan", name := "readVersion", desc := "(LCallerhall$Book;I)V" } : Jvm.MethodName)) := ex_tt ex_q6 111 rfl rfl
theorem tw_1312 : ex_tW (Jvm.Cond.selects "Callerhall$Plan" ({ cls := "Callerhall$Plan", name := "readVersion", desc := "(LCallerhall$Book;I)V" } : Jvm.MethodName) ({ cls := "Callerhall$Plan", name := "readVersion", desc := "(LCallerhall$Book;I)V" } : Jvm.MethodName)) := ex_tt ex_q6 112 rfl rfl
theorem tw_1313 : ex_tW (Jvm.Cond.code ({ cls := "Callerhall$Plan", name := "readVersion", desc := "(LCallerhall$Book;I)V" } : Jvm.MethodName) prog_8_method_6_code (4 : Nat) (Option.none : Option Jvm.ClassFile.FieldType)) := ex_tt ex_q6 113 rfl rfl
theorem tw_1314 : ex_tW (Jvm.Cond.methodLink "CallerhallLaw" (212 : Nat) ({ cls := "CallerhallLaw", name := "parts", desc := "(LCallerhall;C[J)I" } : Jvm.MethodName)) := ex_tt ex_q6 114 rfl rfl
theorem tw_1315 : ex_tW (Jvm.Cond.static ({ cls := "CallerhallLaw", name := "parts", desc := "(LCallerhall;C[J)I" } : Jvm.MethodName)) := ex_tt ex_q6 115 rfl rfl
theorem tw_1316 : ex_tW (Jvm.Cond.codeWith ({ cls := "CallerhallLaw", name := "parts", desc := "(LCallerhall;C[J)I" } : Jvm.MethodName) method_17_code (4 : Nat) (Option.some Jvm.ClassFile.FieldType.int) [((0 : Nat), (9 : Nat), (12 : Nat), (25 : Nat)), ((0 : Nat), (9 : Nat), (15 : Nat), (39 : Nat))]) := ex_tt ex_q6 116 rfl rfl
theorem tw_1317 : ex_tW (Jvm.Cond.methodLink "CallerhallLaw" (68 : Nat) ({ cls := "Callerhall", name := "parts", desc := "(C)I" } : Jvm.MethodName)) := ex_tt ex_q6 117 rfl rfl
theorem tw_1318 : ex_tW (Jvm.Cond.instanceMethod ({ cls := "Callerhall", name := "parts", desc := "(C)I" } : Jvm.MethodName)) := ex_tt ex_q6 118 rfl rfl
theorem tw_1319 : ex_tW (Jvm.Cond.selects "Callerhall" ({ cls := "Callerhall", name := "parts", desc := "(C)I" } : Jvm.MethodName) ({ cls := "Callerhall", name := "parts", desc := "(C)I" } : Jvm.MethodName)) := ex_tt ex_q6 119 rfl rfl
theorem tw_1320 : ex_tW (Jvm.Cond.code ({ cls := "Callerhall", name := "parts", desc := "(C)I" } : Jvm.MethodName) prog_1_method_18_code (2 : Nat) (Option.some Jvm.ClassFile.FieldType.int)) := ex_tt ex_q6 120 rfl rfl
theorem tw_1321 : ex_tW (Jvm.Cond.methodLink "Callerhall" (221 : Nat) ({ cls := "Callerhall", name := "readCall", desc := "(C)V" } : Jvm.MethodName)) := ex_tt ex_q6 121 rfl rfl
theorem tw_1323 : ex_tW (Jvm.Cond.instanceMethod ({ cls := "Callerhall", name := "readCall", desc := "(C)V" } : Jvm.MethodName)) := ex_tt ex_q6 123 rfl rfl
theorem tw_1324 : ex_tW (Jvm.Cond.code ({ cls := "Callerhall", name := "readCall", desc := "(C)V" } : Jvm.MethodName) prog_1_method_63_code (4 : Nat) (Option.none : Option Jvm.ClassFile.FieldType)) := ex_tt ex_q6 124 rfl rfl
theorem tw_1325 : ex_tW (Jvm.Cond.methodLink "Callerhall" (431 : Nat) ({ cls := "Callerhall$Book", name := "holding", desc := "(II)I" } : Jvm.MethodName)) := ex_tt ex_q6 125 rfl rfl
theorem tw_1326 : ex_tW (Jvm.Cond.instanceMethod ({ cls := "Callerhall$Book", name := "holding", desc := "(II)I" } : Jvm.MethodName)) := ex_tt ex_q6 126 rfl rfl
theorem tw_1327 : ex_tW (Jvm.Cond.selects "Callerhall$Book" ({ cls := "Callerhall$Book", name := "holding", desc := "(II)I" } : Jvm.MethodName) ({ cls := "Callerhall$Book", name := "holding", desc := "(II)I" } : Jvm.MethodName)) := ex_tt ex_q6 127 rfl rfl
theorem tw_1328 : ex_tW (Jvm.Cond.code ({ cls := "Callerhall$Book", name := "holding", desc := "(II)I" } : Jvm.MethodName) prog_2_method_3_code (6 : Nat) (Option.some Jvm.ClassFile.FieldType.int)) := ex_tt ex_q6 128 rfl rfl
theorem tw_1329 : ex_tW (Jvm.Cond.methodLink "CallerhallLaw" (215 : Nat) ({ cls := "CallerhallLaw", name := "beatsOf", desc := "(LCallerhall;C[J)I" } : Jvm.MethodName)) := ex_tt ex_q6 129 rfl rfl
theorem tw_1330 : ex_tW (Jvm.Cond.static ({ cls := "CallerhallLaw", name := "beatsOf", desc := "(LCallerhall;C[J)I" } : Jvm.MethodName)) := ex_tt ex_q6 130 rfl rfl
theorem tw_1331 : ex_tW (Jvm.Cond.codeWith ({ cls := "CallerhallLaw", name := "beatsOf", desc := "(LCallerhall;C[J)I" } : Jvm.MethodName) method_18_code (4 : Nat) (Option.some Jvm.ClassFile.FieldType.int) [((0 : Nat), (9 : Nat), (12 : Nat), (25 : Nat)), ((0 : Nat), (9 : Nat), (15 : Nat), (39 : Nat))]) := ex_tt ex_q6 131 rfl rfl
theorem tw_1332 : ex_tW (Jvm.Cond.methodLink "CallerhallLaw" (71 : Nat) ({ cls := "Callerhall", name := "beatsOf", desc := "(C)I" } : Jvm.MethodName)) := ex_tt ex_q6 132 rfl rfl
theorem tw_1333 : ex_tW (Jvm.Cond.instanceMethod ({ cls := "Callerhall", name := "beatsOf", desc := "(C)I" } : Jvm.MethodName)) := ex_tt ex_q6 133 rfl rfl
theorem tw_1334 : ex_tW (Jvm.Cond.selects "Callerhall" ({ cls := "Callerhall", name := "beatsOf", desc := "(C)I" } : Jvm.MethodName) ({ cls := "Callerhall", name := "beatsOf", desc := "(C)I" } : Jvm.MethodName)) := ex_tt ex_q6 134 rfl rfl
theorem tw_1335 : ex_tW (Jvm.Cond.code ({ cls := "Callerhall", name := "beatsOf", desc := "(C)I" } : Jvm.MethodName) prog_1_method_19_code (2 : Nat) (Option.some Jvm.ClassFile.FieldType.int)) := ex_tt ex_q6 135 rfl rfl
theorem tw_1336 : ex_tW (Jvm.Cond.methodLink "CallerhallLaw" (218 : Nat) ({ cls := "CallerhallLaw", name := "levelOf", desc := "(LCallerhall;C[J)I" } : Jvm.MethodName)) := ex_tt ex_q6 136 rfl rfl
theorem tw_1337 : ex_tW (Jvm.Cond.static ({ cls := "CallerhallLaw", name := "levelOf", desc := "(LCallerhall;C[J)I" } : Jvm.MethodName)) := ex_tt ex_q6 137 rfl rfl
theorem tw_1338 : ex_tW (Jvm.Cond.codeWith ({ cls := "CallerhallLaw", name := "levelOf", desc := "(LCallerhall;C[J)I" } : Jvm.MethodName) method_19_code (4 : Nat) (Option.some Jvm.ClassFile.FieldType.int) [((0 : Nat), (9 : Nat), (12 : Nat), (25 : Nat)), ((0 : Nat), (9 : Nat), (15 : Nat), (39 : Nat))]) := ex_tt ex_q6 138 rfl rfl
theorem tw_1339 : ex_tW (Jvm.Cond.methodLink "CallerhallLaw" (74 : Nat) ({ cls := "Callerhall", name := "levelOf", desc := "(C)I" } : Jvm.MethodName)) := ex_tt ex_q6 139 rfl rfl
theorem tw_1340 : ex_tW (Jvm.Cond.instanceMethod ({ cls := "Callerhall", name := "levelOf", desc := "(C)I" } : Jvm.MethodName)) := ex_tt ex_q6 140 rfl rfl
theorem tw_1341 : ex_tW (Jvm.Cond.selects "Callerhall" ({ cls := "Callerhall", name := "levelOf", desc := "(C)I" } : Jvm.MethodName) ({ cls := "Callerhall", name := "levelOf", desc := "(C)I" } : Jvm.MethodName)) := ex_tt ex_q6 141 rfl rfl
theorem tw_1342 : ex_tW (Jvm.Cond.code ({ cls := "Callerhall", name := "levelOf", desc := "(C)I" } : Jvm.MethodName) prog_1_method_20_code (2 : Nat) (Option.some Jvm.ClassFile.FieldType.int)) := ex_tt ex_q6 142 rfl rfl
theorem tw_1343 : ex_tW (Jvm.Cond.methodLink "CallerhallLaw" (221 : Nat) ({ cls := "CallerhallLaw", name := "dance", desc := "(LCallerhall;CCCII[J)I" } : Jvm.MethodName)) := ex_tt ex_q6 143 rfl rfl
theorem tw_1344 : ex_tW (Jvm.Cond.static ({ cls := "CallerhallLaw", name := "dance", desc := "(LCallerhall;CCCII[J)I" } : Jvm.MethodName)) := ex_tt ex_q6 144 rfl rfl
theorem tw_1345 : ex_tW (Jvm.Cond.codeWith ({ cls := "CallerhallLaw", name := "dance", desc := "(LCallerhall;CCCII[J)I" } : Jvm.MethodName) method_20_code (8 : Nat) (Option.some Jvm.ClassFile.FieldType.int) [((0 : Nat), (16 : Nat), (19 : Nat), (25 : Nat)), ((0 : Nat), (16 : Nat), (23 : Nat), (39 : Nat)), ((0 : Nat), (16 : Nat), (27 : Nat), (27 : Nat))]) := ex_tt ex_q6 145 rfl rfl
theorem tw_1346 : ex_tW (Jvm.Cond.methodLink "CallerhallLaw" (77 : Nat) ({ cls := "Callerhall", name := "dance", desc := "(CCCII)I" } : Jvm.MethodName)) := ex_tt ex_q6 146 rfl rfl
theorem tw_1347 : ex_tW (Jvm.Cond.instanceMethod ({ cls := "Callerhall", name := "dance", desc := "(CCCII)I" } : Jvm.MethodName)) := ex_tt ex_q6 147 rfl rfl
theorem tw_1348 : ex_tW (Jvm.Cond.selects "Callerhall" ({ cls := "Callerhall", name := "dance", desc := "(CCCII)I" } : Jvm.MethodName) ({ cls := "Callerhall", name := "dance", desc := "(CCCII)I" } : Jvm.MethodName)) := ex_tt ex_q6 148 rfl rfl
theorem tw_1349 : ex_tW (Jvm.Cond.code ({ cls := "Callerhall", name := "dance", desc := "(CCCII)I" } : Jvm.MethodName) prog_1_method_21_code (10 : Nat) (Option.some Jvm.ClassFile.FieldType.int)) := ex_tt ex_q6 149 rfl rfl
theorem tw_1350 : ex_tW (Jvm.Cond.methodLink "Callerhall" (238 : Nat) ({ cls := "Callerhall$Plan", name := "putOn", desc := "(II)V" } : Jvm.MethodName)) := ex_tt ex_q6 150 rfl rfl
theorem tw_1351 : ex_tW (Jvm.Cond.instanceMethod ({ cls := "Callerhall$Plan", name := "putOn", desc := "(II)V" } : Jvm.MethodName)) := ex_tt ex_q6 151 rfl rfl
theorem tw_1352 : ex_tW (Jvm.Cond.selects "Callerhall$Plan" ({ cls := "Callerhall$Plan", name := "putOn", desc := "(II)V" } : Jvm.MethodName) ({ cls := "Callerhall$Plan", name := "putOn", desc := "(II)V" } : Jvm.MethodName)) := ex_tt ex_q6 152 rfl rfl
theorem tw_1353 : ex_tW (Jvm.Cond.code ({ cls := "Callerhall$Plan", name := "putOn", desc := "(II)V" } : Jvm.MethodName) prog_8_method_5_code (3 : Nat) (Option.none : Option Jvm.ClassFile.FieldType)) := ex_tt ex_q6 153 rfl rfl
theorem tw_1354 : ex_tW (Jvm.Cond.methodLink "Callerhall" (246 : Nat) ({ cls := "Callerhall", name := "judge", desc := "(LCallerhall$Plan;ZII)V" } : Jvm.MethodName)) := ex_tt ex_q6 154 rfl rfl
theorem tw_1356 : ex_tW (Jvm.Cond.instanceMethod ({ cls := "Callerhall", name := "judge", desc := "(LCallerhall$Plan;ZII)V" } : Jvm.MethodName)) := ex_tt ex_q6 156 rfl rfl
theorem tw_1357 : ex_tW (Jvm.Cond.code ({ cls := "Callerhall", name := "judge", desc := "(LCallerhall$Plan;ZII)V" } : Jvm.MethodName) prog_1_method_64_code (5 : Nat) (Option.none : Option Jvm.ClassFile.FieldType)) := ex_tt ex_q6 157 rfl rfl
theorem tw_1358 : ex_tW (Jvm.Cond.methodLink "Callerhall" (250 : Nat) ({ cls := "Callerhall$Past", name := "keep", desc := "(LCallerhall$Places;C)V" } : Jvm.MethodName)) := ex_tt ex_q6 158 rfl rfl
theorem tw_1359 : ex_tW (Jvm.Cond.instanceMethod ({ cls := "Callerhall$Past", name := "keep", desc := "(LCallerhall$Places;C)V" } : Jvm.MethodName)) := ex_tt ex_q6 159 rfl rfl
theorem tw_1360 : ex_tW (Jvm.Cond.selects "Callerhall$Past" ({ cls := "Callerhall$Past", name := "keep", desc := "(LCallerhall$Places;C)V" } : Jvm.MethodName) ({ cls := "Callerhall$Past", name := "keep", desc := "(LCallerhall$Places;C)V" } : Jvm.MethodName)) := ex_tt ex_q6 160 rfl rfl
theorem tw_1361 : ex_tW (Jvm.Cond.code ({ cls := "Callerhall$Past", name := "keep", desc := "(LCallerhall$Places;C)V" } : Jvm.MethodName) prog_6_method_2_code (5 : Nat) (Option.none : Option Jvm.ClassFile.FieldType)) := ex_tt ex_q6 161 rfl rfl
theorem tw_1362 : ex_tW (Jvm.Cond.methodLink "Callerhall$Past" (27 : Nat) ({ cls := "java/lang/Math", name := "floorMod", desc := "(II)I" } : Jvm.MethodName)) := ex_tt ex_q6 162 rfl rfl
theorem tw_1363 : ex_tW (Jvm.Cond.static ({ cls := "java/lang/Math", name := "floorMod", desc := "(II)I" } : Jvm.MethodName)) := ex_tt ex_q6 163 rfl rfl
theorem tw_1364 : ex_tW (Jvm.Cond.code ({ cls := "java/lang/Math", name := "floorMod", desc := "(II)I" } : Jvm.MethodName) prog_31_method_50_code (3 : Nat) (Option.some Jvm.ClassFile.FieldType.int)) := ex_tt ex_q6 164 rfl rfl
theorem tw_1365 : ex_tW (Jvm.Cond.methodLink "Callerhall$Past" (33 : Nat) ({ cls := "java/lang/Math", name := "min", desc := "(II)I" } : Jvm.MethodName)) := ex_tt ex_q6 165 rfl rfl
theorem tw_1366 : ex_tW (Jvm.Cond.methodLink "Callerhall" (254 : Nat) ({ cls := "Callerhall$Plan", name := "beatsUpTo", desc := "(I)I" } : Jvm.MethodName)) := ex_tt ex_q6 166 rfl rfl
theorem tw_1367 : ex_tW (Jvm.Cond.instanceMethod ({ cls := "Callerhall$Plan", name := "beatsUpTo", desc := "(I)I" } : Jvm.MethodName)) := ex_tt ex_q6 167 rfl rfl
theorem tw_1368 : ex_tW (Jvm.Cond.selects "Callerhall$Plan" ({ cls := "Callerhall$Plan", name := "beatsUpTo", desc := "(I)I" } : Jvm.MethodName) ({ cls := "Callerhall$Plan", name := "beatsUpTo", desc := "(I)I" } : Jvm.MethodName)) := ex_tt ex_q6 168 rfl rfl
theorem tw_1369 : ex_tW (Jvm.Cond.code ({ cls := "Callerhall$Plan", name := "beatsUpTo", desc := "(I)I" } : Jvm.MethodName) prog_8_method_9_code (2 : Nat) (Option.some Jvm.ClassFile.FieldType.int)) := ex_tt ex_q6 169 rfl rfl
theorem tw_1370 : ex_tW (Jvm.Cond.methodLink "Callerhall" (257 : Nat) ({ cls := "Callerhall", name := "settle", desc := "(I)V" } : Jvm.MethodName)) := ex_tt ex_q6 170 rfl rfl
theorem tw_1372 : ex_tW (Jvm.Cond.instanceMethod ({ cls := "Callerhall", name := "settle", desc := "(I)V" } : Jvm.MethodName)) := ex_tt ex_q6 172 rfl rfl
theorem tw_1373 : ex_tW (Jvm.Cond.code ({ cls := "Callerhall", name := "settle", desc := "(I)V" } : Jvm.MethodName) prog_1_method_65_code (2 : Nat) (Option.none : Option Jvm.ClassFile.FieldType)) := ex_tt ex_q6 173 rfl rfl
theorem tw_1374 : ex_tW (Jvm.Cond.methodLink "Callerhall" (435 : Nat) ({ cls := "Callerhall$Flow", name := "count", desc := "(LCallerhall$Floor;)V" } : Jvm.MethodName)) := ex_tt ex_q6 174 rfl rfl
theorem tw_1375 : ex_tW (Jvm.Cond.instanceMethod ({ cls := "Callerhall$Flow", name := "count", desc := "(LCallerhall$Floor;)V" } : Jvm.MethodName)) := ex_tt ex_q6 175 rfl rfl
theorem tw_1376 : ex_tW (Jvm.Cond.selects "Callerhall$Flow" ({ cls := "Callerhall$Flow", name := "count", desc := "(LCallerhall$Floor;)V" } : Jvm.MethodName) ({ cls := "Callerhall$Flow", name := "count", desc := "(LCallerhall$Floor;)V" } : Jvm.MethodName)) := ex_tt ex_q6 176 rfl rfl
theorem tw_1377 : ex_tW (Jvm.Cond.code ({ cls := "Callerhall$Flow", name := "count", desc := "(LCallerhall$Floor;)V" } : Jvm.MethodName) prog_4_method_3_code (4 : Nat) (Option.none : Option Jvm.ClassFile.FieldType)) := ex_tt ex_q6 177 rfl rfl
theorem tw_1378 : ex_tW (Jvm.Cond.methodLink "Callerhall" (437 : Nat) ({ cls := "Callerhall$Song", name := "count", desc := "(I)V" } : Jvm.MethodName)) := ex_tt ex_q6 178 rfl rfl
theorem tw_1379 : ex_tW (Jvm.Cond.instanceMethod ({ cls := "Callerhall$Song", name := "count", desc := "(I)V" } : Jvm.MethodName)) := ex_tt ex_q6 179 rfl rfl
theorem tw_1380 : ex_tW (Jvm.Cond.selects "Callerhall$Song" ({ cls := "Callerhall$Song", name := "count", desc := "(I)V" } : Jvm.MethodName) ({ cls := "Callerhall$Song", name := "count", desc := "(I)V" } : Jvm.MethodName)) := ex_tt ex_q6 180 rfl rfl
theorem tw_1381 : ex_tW (Jvm.Cond.code ({ cls := "Callerhall$Song", name := "count", desc := "(I)V" } : Jvm.MethodName) prog_9_method_3_code (2 : Nat) (Option.none : Option Jvm.ClassFile.FieldType)) := ex_tt ex_q6 181 rfl rfl
theorem tw_1382 : ex_tW (Jvm.Cond.methodLink "Callerhall" (260 : Nat) ({ cls := "Callerhall$Plan", name := "copy", desc := "(LCallerhall$Plan;I)V" } : Jvm.MethodName)) := ex_tt ex_q6 182 rfl rfl
theorem tw_1383 : ex_tW (Jvm.Cond.instanceMethod ({ cls := "Callerhall$Plan", name := "copy", desc := "(LCallerhall$Plan;I)V" } : Jvm.MethodName)) := ex_tt ex_q6 183 rfl rfl
theorem tw_1384 : ex_tW (Jvm.Cond.selects "Callerhall$Plan" ({ cls := "Callerhall$Plan", name := "copy", desc := "(LCallerhall$Plan;I)V" } : Jvm.MethodName) ({ cls := "Callerhall$Plan", name := "copy", desc := "(LCallerhall$Plan;I)V" } : Jvm.MethodName)) := ex_tt ex_q6 184 rfl rfl
theorem tw_1385 : ex_tW (Jvm.Cond.code ({ cls := "Callerhall$Plan", name := "copy", desc := "(LCallerhall$Plan;I)V" } : Jvm.MethodName) prog_8_method_7_code (4 : Nat) (Option.none : Option Jvm.ClassFile.FieldType)) := ex_tt ex_q6 185 rfl rfl
theorem tw_1386 : ex_tW (Jvm.Cond.methodLink "CallerhallLaw" (225 : Nat) ({ cls := "CallerhallLaw", name := "finish", desc := "(LCallerhall;[J)I" } : Jvm.MethodName)) := ex_tt ex_q6 186 rfl rfl
theorem tw_1387 : ex_tW (Jvm.Cond.static ({ cls := "CallerhallLaw", name := "finish", desc := "(LCallerhall;[J)I" } : Jvm.MethodName)) := ex_tt ex_q6 187 rfl rfl
theorem tw_1388 : ex_tW (Jvm.Cond.codeWith ({ cls := "CallerhallLaw", name := "finish", desc := "(LCallerhall;[J)I" } : Jvm.MethodName) method_21_code (3 : Nat) (Option.some Jvm.ClassFile.FieldType.int) [((0 : Nat), (8 : Nat), (11 : Nat), (48 : Nat)), ((0 : Nat), (8 : Nat), (14 : Nat), (27 : Nat))]) := ex_tt ex_q6 188 rfl rfl
theorem tw_1389 : ex_tW (Jvm.Cond.methodLink "CallerhallLaw" (81 : Nat) ({ cls := "Callerhall", name := "finish", desc := "()I" } : Jvm.MethodName)) := ex_tt ex_q6 189 rfl rfl
theorem tw_1390 : ex_tW (Jvm.Cond.instanceMethod ({ cls := "Callerhall", name := "finish", desc := "()I" } : Jvm.MethodName)) := ex_tt ex_q6 190 rfl rfl
theorem tw_1391 : ex_tW (Jvm.Cond.selects "Callerhall" ({ cls := "Callerhall", name := "finish", desc := "()I" } : Jvm.MethodName) ({ cls := "Callerhall", name := "finish", desc := "()I" } : Jvm.MethodName)) := ex_tt ex_q6 191 rfl rfl
theorem tw_1392 : ex_tW (Jvm.Cond.code ({ cls := "Callerhall", name := "finish", desc := "()I" } : Jvm.MethodName) prog_1_method_22_code (2 : Nat) (Option.some Jvm.ClassFile.FieldType.int)) := ex_tt ex_q6 192 rfl rfl
theorem tw_1393 : ex_tW (Jvm.Cond.methodLink "Callerhall" (264 : Nat) ({ cls := "Callerhall", name := "left", desc := "()I" } : Jvm.MethodName)) := ex_tt ex_q6 193 rfl rfl
theorem tw_1394 : ex_tW (Jvm.Cond.methodLink "Callerhall" (267 : Nat) ({ cls := "Callerhall$Past", name := "readLast", desc := "(LCallerhall$Places;)V" } : Jvm.MethodName)) := ex_tt ex_q6 194 rfl rfl
theorem tw_1395 : ex_tW (Jvm.Cond.instanceMethod ({ cls := "Callerhall$Past", name := "readLast", desc := "(LCallerhall$Places;)V" } : Jvm.MethodName)) := ex_tt ex_q6 195 rfl rfl
theorem tw_1396 : ex_tW (Jvm.Cond.selects "Callerhall$Past" ({ cls := "Callerhall$Past", name := "readLast", desc := "(LCallerhall$Places;)V" } : Jvm.MethodName) ({ cls := "Callerhall$Past", name := "readLast", desc := "(LCallerhall$Places;)V" } : Jvm.MethodName)) := ex_tt ex_q6 196 rfl rfl
theorem tw_1397 : ex_tW (Jvm.Cond.code ({ cls := "Callerhall$Past", name := "readLast", desc := "(LCallerhall$Places;)V" } : Jvm.MethodName) prog_6_method_3_code (4 : Nat) (Option.none : Option Jvm.ClassFile.FieldType)) := ex_tt ex_q6 197 rfl rfl
theorem tw_1398 : ex_tW (Jvm.Cond.methodLink "Callerhall$Past" (48 : Nat) ({ cls := "Callerhall$Places", name := "tell", desc := "(IIII)V" } : Jvm.MethodName)) := ex_tt ex_q6 198 rfl rfl
theorem tw_1399 : ex_tW (Jvm.Cond.methodLink "CallerhallLaw" (238 : Nat) ({ cls := "CallerhallLaw", name := "whom", desc := "(LCallerhall;[J)I" } : Jvm.MethodName)) := ex_tt ex_q6 199 rfl rfl
theorem tw_1400 : ex_tW (Jvm.Cond.static ({ cls := "CallerhallLaw", name := "whom", desc := "(LCallerhall;[J)I" } : Jvm.MethodName)) := ex_tt ex_q6 200 rfl rfl
theorem tw_1401 : ex_tW (Jvm.Cond.codeWith ({ cls := "CallerhallLaw", name := "whom", desc := "(LCallerhall;[J)I" } : Jvm.MethodName) method_22_code (3 : Nat) (Option.some Jvm.ClassFile.FieldType.int) [((0 : Nat), (8 : Nat), (11 : Nat), (39 : Nat))]) := ex_tt ex_q6 201 rfl rfl
theorem tw_1402 : ex_tW (Jvm.Cond.methodLink "CallerhallLaw" (85 : Nat) ({ cls := "Callerhall", name := "whom", desc := "()I" } : Jvm.MethodName)) := ex_tt ex_q6 202 rfl rfl
theorem tw_1403 : ex_tW (Jvm.Cond.instanceMethod ({ cls := "Callerhall", name := "whom", desc := "()I" } : Jvm.MethodName)) := ex_tt ex_q6 203 rfl rfl
theorem tw_1404 : ex_tW (Jvm.Cond.selects "Callerhall" ({ cls := "Callerhall", name := "whom", desc := "()I" } : Jvm.MethodName) ({ cls := "Callerhall", name := "whom", desc := "()I" } : Jvm.MethodName)) := ex_tt ex_q6 204 rfl rfl
theorem tw_1405 : ex_tW (Jvm.Cond.code ({ cls := "Callerhall", name := "whom", desc := "()I" } : Jvm.MethodName) prog_1_method_25_code (1 : Nat) (Option.some Jvm.ClassFile.FieldType.int)) := ex_tt ex_q6 205 rfl rfl
theorem tw_1406 : ex_tW (Jvm.Cond.methodLink "CallerhallLaw" (241 : Nat) ({ cls := "CallerhallLaw", name := "fits", desc := "(LCallerhall;CCC[J)I" } : Jvm.MethodName)) := ex_tt ex_q6 206 rfl rfl
theorem tw_1407 : ex_tW (Jvm.Cond.static ({ cls := "CallerhallLaw", name := "fits", desc := "(LCallerhall;CCC[J)I" } : Jvm.MethodName)) := ex_tt ex_q6 207 rfl rfl
theorem tw_1408 : ex_tW (Jvm.Cond.codeWith ({ cls := "CallerhallLaw", name := "fits", desc := "(LCallerhall;CCC[J)I" } : Jvm.MethodName) method_23_code (6 : Nat) (Option.some Jvm.ClassFile.FieldType.int) [((0 : Nat), (19 : Nat), (22 : Nat), (25 : Nat))]) := ex_tt ex_q6 208 rfl rfl
theorem tw_1409 : ex_tW (Jvm.Cond.methodLink "CallerhallLaw" (88 : Nat) ({ cls := "Callerhall", name := "fits", desc := "(CCC)Z" } : Jvm.MethodName)) := ex_tt ex_q6 209 rfl rfl
theorem tw_1410 : ex_tW (Jvm.Cond.instanceMethod ({ cls := "Callerhall", name := "fits", desc := "(CCC)Z" } : Jvm.MethodName)) := ex_tt ex_q6 210 rfl rfl
theorem tw_1411 : ex_tW (Jvm.Cond.selects "Callerhall" ({ cls := "Callerhall", name := "fits", desc := "(CCC)Z" } : Jvm.MethodName) ({ cls := "Callerhall", name := "fits", desc := "(CCC)Z" } : Jvm.MethodName)) := ex_tt ex_q6 211 rfl rfl
theorem tw_1412 : ex_tW (Jvm.Cond.code ({ cls := "Callerhall", name := "fits", desc := "(CCC)Z" } : Jvm.MethodName) prog_1_method_26_code (7 : Nat) (Option.some Jvm.ClassFile.FieldType.boolean)) := ex_tt ex_q6 212 rfl rfl
theorem tw_1413 : ex_tW (Jvm.Cond.methodLink "CallerhallLaw" (245 : Nat) ({ cls := "CallerhallLaw", name := "back", desc := "(LCallerhall;[J)I" } : Jvm.MethodName)) := ex_tt ex_q6 213 rfl rfl
theorem tw_1414 : ex_tW (Jvm.Cond.static ({ cls := "CallerhallLaw", name := "back", desc := "(LCallerhall;[J)I" } : Jvm.MethodName)) := ex_tt ex_q6 214 rfl rfl
theorem tw_1415 : ex_tW (Jvm.Cond.codeWith ({ cls := "CallerhallLaw", name := "back", desc := "(LCallerhall;[J)I" } : Jvm.MethodName) method_24_code (3 : Nat) (Option.some Jvm.ClassFile.FieldType.int) [((0 : Nat), (8 : Nat), (11 : Nat), (39 : Nat))]) := ex_tt ex_q6 215 rfl rfl
theorem tw_1416 : ex_tW (Jvm.Cond.methodLink "CallerhallLaw" (92 : Nat) ({ cls := "Callerhall", name := "back", desc := "()I" } : Jvm.MethodName)) := ex_tt ex_q6 216 rfl rfl
theorem tw_1417 : ex_tW (Jvm.Cond.instanceMethod ({ cls := "Callerhall", name := "back", desc := "()I" } : Jvm.MethodName)) := ex_tt ex_q6 217 rfl rfl
theorem tw_1418 : ex_tW (Jvm.Cond.selects "Callerhall" ({ cls := "Callerhall", name := "back", desc := "()I" } : Jvm.MethodName) ({ cls := "Callerhall", name := "back", desc := "()I" } : Jvm.MethodName)) := ex_tt ex_q6 218 rfl rfl
theorem tw_1419 : ex_tW (Jvm.Cond.code ({ cls := "Callerhall", name := "back", desc := "()I" } : Jvm.MethodName) prog_1_method_27_code (1 : Nat) (Option.some Jvm.ClassFile.FieldType.int)) := ex_tt ex_q6 219 rfl rfl
theorem tw_1420 : ex_tW (Jvm.Cond.methodLink "Callerhall" (290 : Nat) ({ cls := "Callerhall$Past", name := "drop", desc := "()V" } : Jvm.MethodName)) := ex_tt ex_q6 220 rfl rfl
theorem tw_1421 : ex_tW (Jvm.Cond.instanceMethod ({ cls := "Callerhall$Past", name := "drop", desc := "()V" } : Jvm.MethodName)) := ex_tt ex_q6 221 rfl rfl
theorem tw_1422 : ex_tW (Jvm.Cond.selects "Callerhall$Past" ({ cls := "Callerhall$Past", name := "drop", desc := "()V" } : Jvm.MethodName) ({ cls := "Callerhall$Past", name := "drop", desc := "()V" } : Jvm.MethodName)) := ex_tt ex_q6 222 rfl rfl
theorem tw_1423 : ex_tW (Jvm.Cond.code ({ cls := "Callerhall$Past", name := "drop", desc := "()V" } : Jvm.MethodName) prog_6_method_4_code (1 : Nat) (Option.none : Option Jvm.ClassFile.FieldType)) := ex_tt ex_q6 223 rfl rfl
theorem tw_1424 : ex_tW (Jvm.Cond.methodLink "Callerhall$Past" (52 : Nat) ({ cls := "java/lang/Math", name := "max", desc := "(II)I" } : Jvm.MethodName)) := ex_tt ex_q6 224 rfl rfl
theorem tw_1425 : ex_tW (Jvm.Cond.methodLink "CallerhallLaw" (252 : Nat) ({ cls := "CallerhallLaw", name := "callAt", desc := "(LCallerhall;I[J)I" } : Jvm.MethodName)) := ex_tt ex_q6 225 rfl rfl
theorem tw_1426 : ex_tW (Jvm.Cond.static ({ cls := "CallerhallLaw", name := "callAt", desc := "(LCallerhall;I[J)I" } : Jvm.MethodName)) := ex_tt ex_q6 226 rfl rfl
theorem tw_1427 : ex_tW (Jvm.Cond.codeWith ({ cls := "CallerhallLaw", name := "callAt", desc := "(LCallerhall;I[J)I" } : Jvm.MethodName) method_25_code (4 : Nat) (Option.some Jvm.ClassFile.FieldType.int) [((0 : Nat), (9 : Nat), (12 : Nat), (13 : Nat))]) := ex_tt ex_q6 227 rfl rfl
theorem tw_1428 : ex_tW (Jvm.Cond.methodLink "CallerhallLaw" (95 : Nat) ({ cls := "Callerhall", name := "callAt", desc := "(I)C" } : Jvm.MethodName)) := ex_tt ex_q6 228 rfl rfl
theorem tw_1429 : ex_tW (Jvm.Cond.instanceMethod ({ cls := "Callerhall", name := "callAt", desc := "(I)C" } : Jvm.MethodName)) := ex_tt ex_q6 229 rfl rfl
theorem tw_1430 : ex_tW (Jvm.Cond.selects "Callerhall" ({ cls := "Callerhall", name := "callAt", desc := "(I)C" } : Jvm.MethodName) ({ cls := "Callerhall", name := "callAt", desc := "(I)C" } : Jvm.MethodName)) := ex_tt ex_q6 230 rfl rfl
theorem tw_1431 : ex_tW (Jvm.Cond.code ({ cls := "Callerhall", name := "callAt", desc := "(I)C" } : Jvm.MethodName) prog_1_method_29_code (2 : Nat) (Option.some Jvm.ClassFile.FieldType.char)) := ex_tt ex_q6 231 rfl rfl
theorem tw_1432 : ex_tW (Jvm.Cond.methodLink "Callerhall" (295 : Nat) ({ cls := "Callerhall$Past", name := "letterAt", desc := "(I)C" } : Jvm.MethodName)) := ex_tt ex_q6 232 rfl rfl
theorem tw_1433 : ex_tW (Jvm.Cond.instanceMethod ({ cls := "Callerhall$Past", name := "letterAt", desc := "(I)C" } : Jvm.MethodName)) := ex_tt ex_q6 233 rfl rfl
theorem tw_1434 : ex_tW (Jvm.Cond.selects "Callerhall$Past" ({ cls := "Callerhall$Past", name := "letterAt", desc := "(I)C" } : Jvm.MethodName) ({ cls := "Callerhall$Past", name := "letterAt", desc := "(I)C" } : Jvm.MethodName)) := ex_tt ex_q6 234 rfl rfl
theorem tw_1435 : ex_tW (Jvm.Cond.code ({ cls := "Callerhall$Past", name := "letterAt", desc := "(I)C" } : Jvm.MethodName) prog_6_method_5_code (2 : Nat) (Option.some Jvm.ClassFile.FieldType.char)) := ex_tt ex_q6 235 rfl rfl
theorem tw_1436 : ex_tW (Jvm.Cond.methodLink "CallerhallLaw" (255 : Nat) ({ cls := "CallerhallLaw", name := "isAmong", desc := "(LCallerhall;IC[J)I" } : Jvm.MethodName)) := ex_tt ex_q6 236 rfl rfl
theorem tw_1437 : ex_tW (Jvm.Cond.static ({ cls := "CallerhallLaw", name := "isAmong", desc := "(LCallerhall;IC[J)I" } : Jvm.MethodName)) := ex_tt ex_q6 237 rfl rfl
theorem tw_1438 : ex_tW (Jvm.Cond.codeWith ({ cls := "CallerhallLaw", name := "isAmong", desc := "(LCallerhall;IC[J)I" } : Jvm.MethodName) method_26_code (5 : Nat) (Option.some Jvm.ClassFile.FieldType.int) [((0 : Nat), (17 : Nat), (20 : Nat), (13 : Nat)), ((0 : Nat), (17 : Nat), (24 : Nat), (25 : Nat)), ((0 : Nat), (17 : Nat), (28 : Nat), (39 : Nat))]) := ex_tt ex_q6 238 rfl rfl
theorem tw_1439 : ex_tW (Jvm.Cond.methodLink "CallerhallLaw" (99 : Nat) ({ cls := "Callerhall", name := "isAmong", desc := "(IC)Z" } : Jvm.MethodName)) := ex_tt ex_q6 239 rfl rfl
theorem tw_1440 : ex_tW (Jvm.Cond.instanceMethod ({ cls := "Callerhall", name := "isAmong", desc := "(IC)Z" } : Jvm.MethodName)) := ex_tt ex_q7 0 rfl rfl
theorem tw_1441 : ex_tW (Jvm.Cond.selects "Callerhall" ({ cls := "Callerhall", name := "isAmong", desc := "(IC)Z" } : Jvm.MethodName) ({ cls := "Callerhall", name := "isAmong", desc := "(IC)Z" } : Jvm.MethodName)) := ex_tt ex_q7 1 rfl rfl
theorem tw_1442 : ex_tW (Jvm.Cond.code ({ cls := "Callerhall", name := "isAmong", desc := "(IC)Z" } : Jvm.MethodName) prog_1_method_30_code (4 : Nat) (Option.some Jvm.ClassFile.FieldType.boolean)) := ex_tt ex_q7 2 rfl rfl
theorem tw_1443 : ex_tW (Jvm.Cond.methodLink "Callerhall" (307 : Nat) ({ cls := "Callerhall$Steps", name := "tell", desc := "(LCallerhall$Floor;I)Z" } : Jvm.MethodName)) := ex_tt ex_q7 3 rfl rfl
theorem tw_1444 : ex_tW (Jvm.Cond.methodLink "CallerhallLaw" (259 : Nat) ({ cls := "CallerhallLaw", name := "partner", desc := "(LCallerhall;IZI[J)I" } : Jvm.MethodName)) := ex_tt ex_q7 4 rfl rfl
theorem tw_1445 : ex_tW (Jvm.Cond.static ({ cls := "CallerhallLaw", name := "partner", desc := "(LCallerhall;IZI[J)I" } : Jvm.MethodName)) := ex_tt ex_q7 5 rfl rfl
theorem tw_1446 : ex_tW (Jvm.Cond.codeWith ({ cls := "CallerhallLaw", name := "partner", desc := "(LCallerhall;IZI[J)I" } : Jvm.MethodName) method_27_code (6 : Nat) (Option.some Jvm.ClassFile.FieldType.int) [((0 : Nat), (12 : Nat), (15 : Nat), (13 : Nat)), ((0 : Nat), (12 : Nat), (19 : Nat), (25 : Nat)), ((0 : Nat), (12 : Nat), (23 : Nat), (39 : Nat))]) := ex_tt ex_q7 6 rfl rfl
theorem tw_1447 : ex_tW (Jvm.Cond.methodLink "CallerhallLaw" (103 : Nat) ({ cls := "Callerhall", name := "partner", desc := "(IZI)I" } : Jvm.MethodName)) := ex_tt ex_q7 7 rfl rfl
theorem tw_1448 : ex_tW (Jvm.Cond.instanceMethod ({ cls := "Callerhall", name := "partner", desc := "(IZI)I" } : Jvm.MethodName)) := ex_tt ex_q7 8 rfl rfl
theorem tw_1449 : ex_tW (Jvm.Cond.selects "Callerhall" ({ cls := "Callerhall", name := "partner", desc := "(IZI)I" } : Jvm.MethodName) ({ cls := "Callerhall", name := "partner", desc := "(IZI)I" } : Jvm.MethodName)) := ex_tt ex_q7 9 rfl rfl
theorem tw_1450 : ex_tW (Jvm.Cond.code ({ cls := "Callerhall", name := "partner", desc := "(IZI)I" } : Jvm.MethodName) prog_1_method_31_code (5 : Nat) (Option.some Jvm.ClassFile.FieldType.int)) := ex_tt ex_q7 10 rfl rfl
theorem tw_1451 : ex_tW (Jvm.Cond.methodLink "Callerhall" (316 : Nat) ({ cls := "Callerhall", name := "pairAll", desc := "(II)V" } : Jvm.MethodName)) := ex_tt ex_q7 11 rfl rfl
theorem tw_1453 : ex_tW (Jvm.Cond.instanceMethod ({ cls := "Callerhall", name := "pairAll", desc := "(II)V" } : Jvm.MethodName)) := ex_tt ex_q7 13 rfl rfl
theorem tw_1454 : ex_tW (Jvm.Cond.code ({ cls := "Callerhall", name := "pairAll", desc := "(II)V" } : Jvm.MethodName) prog_1_method_66_code (3 : Nat) (Option.none : Option Jvm.ClassFile.FieldType)) := ex_tt ex_q7 14 rfl rfl
theorem tw_1455 : ex_tW (Jvm.Cond.methodLink "Callerhall" (439 : Nat) ({ cls := "Callerhall$Steps", name := "space", desc := "(IZZ)V" } : Jvm.MethodName)) := ex_tt ex_q7 15 rfl rfl
theorem tw_1456 : ex_tW (Jvm.Cond.methodLink "Callerhall" (443 : Nat) ({ cls := "Callerhall$Steps", name := "ready", desc := "(LCallerhall$Floor;I)V" } : Jvm.MethodName)) := ex_tt ex_q7 16 rfl rfl
theorem tw_1457 : ex_tW (Jvm.Cond.methodLink "CallerhallLaw" (263 : Nat) ({ cls := "CallerhallLaw", name := "pair", desc := "(LCallerhall;I[J)I" } : Jvm.MethodName)) := ex_tt ex_q7 17 rfl rfl
theorem tw_1458 : ex_tW (Jvm.Cond.static ({ cls := "CallerhallLaw", name := "pair", desc := "(LCallerhall;I[J)I" } : Jvm.MethodName)) := ex_tt ex_q7 18 rfl rfl
theorem tw_1459 : ex_tW (Jvm.Cond.codeWith ({ cls := "CallerhallLaw", name := "pair", desc := "(LCallerhall;I[J)I" } : Jvm.MethodName) method_28_code (4 : Nat) (Option.some Jvm.ClassFile.FieldType.int) [((0 : Nat), (9 : Nat), (12 : Nat), (13 : Nat)), ((0 : Nat), (9 : Nat), (15 : Nat), (39 : Nat))]) := ex_tt ex_q7 19 rfl rfl
theorem tw_1460 : ex_tW (Jvm.Cond.methodLink "CallerhallLaw" (107 : Nat) ({ cls := "Callerhall", name := "pair", desc := "(I)C" } : Jvm.MethodName)) := ex_tt ex_q7 20 rfl rfl
theorem tw_1461 : ex_tW (Jvm.Cond.instanceMethod ({ cls := "Callerhall", name := "pair", desc := "(I)C" } : Jvm.MethodName)) := ex_tt ex_q7 21 rfl rfl
theorem tw_1462 : ex_tW (Jvm.Cond.selects "Callerhall" ({ cls := "Callerhall", name := "pair", desc := "(I)C" } : Jvm.MethodName) ({ cls := "Callerhall", name := "pair", desc := "(I)C" } : Jvm.MethodName)) := ex_tt ex_q7 22 rfl rfl
theorem tw_1463 : ex_tW (Jvm.Cond.code ({ cls := "Callerhall", name := "pair", desc := "(I)C" } : Jvm.MethodName) prog_1_method_32_code (3 : Nat) (Option.some Jvm.ClassFile.FieldType.char)) := ex_tt ex_q7 23 rfl rfl
theorem tw_1464 : ex_tW (Jvm.Cond.methodLink "CallerhallLaw" (270 : Nat) ({ cls := "CallerhallLaw", name := "repairs", desc := "(LCallerhall;C[J)I" } : Jvm.MethodName)) := ex_tt ex_q7 24 rfl rfl
theorem tw_1465 : ex_tW (Jvm.Cond.static ({ cls := "CallerhallLaw", name := "repairs", desc := "(LCallerhall;C[J)I" } : Jvm.MethodName)) := ex_tt ex_q7 25 rfl rfl
theorem tw_1466 : ex_tW (Jvm.Cond.codeWith ({ cls := "CallerhallLaw", name := "repairs", desc := "(LCallerhall;C[J)I" } : Jvm.MethodName) method_29_code (4 : Nat) (Option.some Jvm.ClassFile.FieldType.int) [((0 : Nat), (9 : Nat), (12 : Nat), (25 : Nat))]) := ex_tt ex_q7 26 rfl rfl
theorem tw_1467 : ex_tW (Jvm.Cond.methodLink "CallerhallLaw" (110 : Nat) ({ cls := "Callerhall", name := "repairs", desc := "(C)I" } : Jvm.MethodName)) := ex_tt ex_q7 27 rfl rfl
theorem tw_1468 : ex_tW (Jvm.Cond.instanceMethod ({ cls := "Callerhall", name := "repairs", desc := "(C)I" } : Jvm.MethodName)) := ex_tt ex_q7 28 rfl rfl
theorem tw_1469 : ex_tW (Jvm.Cond.selects "Callerhall" ({ cls := "Callerhall", name := "repairs", desc := "(C)I" } : Jvm.MethodName) ({ cls := "Callerhall", name := "repairs", desc := "(C)I" } : Jvm.MethodName)) := ex_tt ex_q7 29 rfl rfl
theorem tw_1470 : ex_tW (Jvm.Cond.code ({ cls := "Callerhall", name := "repairs", desc := "(C)I" } : Jvm.MethodName) prog_1_method_34_code (3 : Nat) (Option.some Jvm.ClassFile.FieldType.int)) := ex_tt ex_q7 30 rfl rfl
theorem tw_1471 : ex_tW (Jvm.Cond.methodLink "CallerhallLaw" (282 : Nat) ({ cls := "CallerhallLaw", name := "turned", desc := "(LCallerhall;I[J)I" } : Jvm.MethodName)) := ex_tt ex_q7 31 rfl rfl
theorem tw_1472 : ex_tW (Jvm.Cond.static ({ cls := "CallerhallLaw", name := "turned", desc := "(LCallerhall;I[J)I" } : Jvm.MethodName)) := ex_tt ex_q7 32 rfl rfl
theorem tw_1473 : ex_tW (Jvm.Cond.codeWith ({ cls := "CallerhallLaw", name := "turned", desc := "(LCallerhall;I[J)I" } : Jvm.MethodName) method_30_code (4 : Nat) (Option.some Jvm.ClassFile.FieldType.int) [((0 : Nat), (9 : Nat), (12 : Nat), (13 : Nat))]) := ex_tt ex_q7 33 rfl rfl
theorem tw_1474 : ex_tW (Jvm.Cond.methodLink "CallerhallLaw" (113 : Nat) ({ cls := "Callerhall", name := "turned", desc := "(I)I" } : Jvm.MethodName)) := ex_tt ex_q7 34 rfl rfl
theorem tw_1475 : ex_tW (Jvm.Cond.instanceMethod ({ cls := "Callerhall", name := "turned", desc := "(I)I" } : Jvm.MethodName)) := ex_tt ex_q7 35 rfl rfl
theorem tw_1476 : ex_tW (Jvm.Cond.selects "Callerhall" ({ cls := "Callerhall", name := "turned", desc := "(I)I" } : Jvm.MethodName) ({ cls := "Callerhall", name := "turned", desc := "(I)I" } : Jvm.MethodName)) := ex_tt ex_q7 36 rfl rfl
theorem tw_1477 : ex_tW (Jvm.Cond.code ({ cls := "Callerhall", name := "turned", desc := "(I)I" } : Jvm.MethodName) prog_1_method_37_code (2 : Nat) (Option.some Jvm.ClassFile.FieldType.int)) := ex_tt ex_q7 37 rfl rfl
theorem tw_1478 : ex_tW (Jvm.Cond.methodLink "CallerhallLaw" (293 : Nat) ({ cls := "CallerhallLaw", name := "wayHome", desc := "(LCallerhall;I[J)I" } : Jvm.MethodName)) := ex_tt ex_q7 38 rfl rfl
theorem tw_1479 : ex_tW (Jvm.Cond.static ({ cls := "CallerhallLaw", name := "wayHome", desc := "(LCallerhall;I[J)I" } : Jvm.MethodName)) := ex_tt ex_q7 39 rfl rfl
theorem tw_1480 : ex_tW (Jvm.Cond.codeWith ({ cls := "CallerhallLaw", name := "wayHome", desc := "(LCallerhall;I[J)I" } : Jvm.MethodName) method_31_code (4 : Nat) (Option.some Jvm.ClassFile.FieldType.int) [((0 : Nat), (9 : Nat), (12 : Nat), (25 : Nat)), ((0 : Nat), (9 : Nat), (15 : Nat), (39 : Nat))]) := ex_tt ex_q7 40 rfl rfl
theorem tw_1481 : ex_tW (Jvm.Cond.methodLink "CallerhallLaw" (116 : Nat) ({ cls := "Callerhall", name := "wayHome", desc := "(I)I" } : Jvm.MethodName)) := ex_tt ex_q7 41 rfl rfl
theorem tw_1482 : ex_tW (Jvm.Cond.instanceMethod ({ cls := "Callerhall", name := "wayHome", desc := "(I)I" } : Jvm.MethodName)) := ex_tt ex_q7 42 rfl rfl
theorem tw_1483 : ex_tW (Jvm.Cond.selects "Callerhall" ({ cls := "Callerhall", name := "wayHome", desc := "(I)I" } : Jvm.MethodName) ({ cls := "Callerhall", name := "wayHome", desc := "(I)I" } : Jvm.MethodName)) := ex_tt ex_q7 43 rfl rfl
theorem tw_1484 : ex_tW (Jvm.Cond.code ({ cls := "Callerhall", name := "wayHome", desc := "(I)I" } : Jvm.MethodName) prog_1_method_40_code (3 : Nat) (Option.some Jvm.ClassFile.FieldType.int)) := ex_tt ex_q7 44 rfl rfl
theorem tw_1485 : ex_tW (Jvm.Cond.methodLink "Callerhall" (349 : Nat) ({ cls := "Callerhall", name := "isHome", desc := "()Z" } : Jvm.MethodName)) := ex_tt ex_q7 45 rfl rfl
theorem tw_1486 : ex_tW (Jvm.Cond.methodLink "Callerhall" (353 : Nat) ({ cls := "Callerhall", name := "findLastAct", desc := "(LCallerhall$Places;I)Z" } : Jvm.MethodName)) := ex_tt ex_q7 46 rfl rfl
theorem tw_1488 : ex_tW (Jvm.Cond.instanceMethod ({ cls := "Callerhall", name := "findLastAct", desc := "(LCallerhall$Places;I)Z" } : Jvm.MethodName)) := ex_tt ex_q7 48 rfl rfl
theorem tw_1489 : ex_tW (Jvm.Cond.code ({ cls := "Callerhall", name := "findLastAct", desc := "(LCallerhall$Places;I)Z" } : Jvm.MethodName) prog_1_method_67_code (4 : Nat) (Option.some Jvm.ClassFile.FieldType.boolean)) := ex_tt ex_q7 49 rfl rfl
theorem tw_1490 : ex_tW (Jvm.Cond.methodLink "CallerhallLaw" (296 : Nat) ({ cls := "CallerhallLaw", name := "wayAt", desc := "(LCallerhall;I[J)I" } : Jvm.MethodName)) := ex_tt ex_q7 50 rfl rfl
theorem tw_1491 : ex_tW (Jvm.Cond.static ({ cls := "CallerhallLaw", name := "wayAt", desc := "(LCallerhall;I[J)I" } : Jvm.MethodName)) := ex_tt ex_q7 51 rfl rfl
theorem tw_1492 : ex_tW (Jvm.Cond.codeWith ({ cls := "CallerhallLaw", name := "wayAt", desc := "(LCallerhall;I[J)I" } : Jvm.MethodName) method_32_code (4 : Nat) (Option.some Jvm.ClassFile.FieldType.int) [((0 : Nat), (9 : Nat), (12 : Nat), (13 : Nat))]) := ex_tt ex_q7 52 rfl rfl
theorem tw_1493 : ex_tW (Jvm.Cond.methodLink "CallerhallLaw" (119 : Nat) ({ cls := "Callerhall", name := "wayAt", desc := "(I)C" } : Jvm.MethodName)) := ex_tt ex_q7 53 rfl rfl
theorem tw_1494 : ex_tW (Jvm.Cond.instanceMethod ({ cls := "Callerhall", name := "wayAt", desc := "(I)C" } : Jvm.MethodName)) := ex_tt ex_q7 54 rfl rfl
theorem tw_1495 : ex_tW (Jvm.Cond.selects "Callerhall" ({ cls := "Callerhall", name := "wayAt", desc := "(I)C" } : Jvm.MethodName) ({ cls := "Callerhall", name := "wayAt", desc := "(I)C" } : Jvm.MethodName)) := ex_tt ex_q7 55 rfl rfl
theorem tw_1496 : ex_tW (Jvm.Cond.code ({ cls := "Callerhall", name := "wayAt", desc := "(I)C" } : Jvm.MethodName) prog_1_method_41_code (3 : Nat) (Option.some Jvm.ClassFile.FieldType.char)) := ex_tt ex_q7 56 rfl rfl
theorem tw_1497 : ex_tW (Jvm.Cond.methodLink "CallerhallLaw" (299 : Nat) ({ cls := "CallerhallLaw", name := "sing", desc := "(LCallerhall;I[J)I" } : Jvm.MethodName)) := ex_tt ex_q7 57 rfl rfl
theorem tw_1498 : ex_tW (Jvm.Cond.static ({ cls := "CallerhallLaw", name := "sing", desc := "(LCallerhall;I[J)I" } : Jvm.MethodName)) := ex_tt ex_q7 58 rfl rfl
theorem tw_1499 : ex_tW (Jvm.Cond.codeWith ({ cls := "CallerhallLaw", name := "sing", desc := "(LCallerhall;I[J)I" } : Jvm.MethodName) method_33_code (4 : Nat) (Option.some Jvm.ClassFile.FieldType.int) [((0 : Nat), (9 : Nat), (12 : Nat), (25 : Nat))]) := ex_tt ex_q7 59 rfl rfl
theorem tw_1500 : ex_tW (Jvm.Cond.methodLink "CallerhallLaw" (122 : Nat) ({ cls := "Callerhall", name := "sing", desc := "(I)I" } : Jvm.MethodName)) := ex_tt ex_q7 60 rfl rfl
theorem tw_1501 : ex_tW (Jvm.Cond.instanceMethod ({ cls := "Callerhall", name := "sing", desc := "(I)I" } : Jvm.MethodName)) := ex_tt ex_q7 61 rfl rfl
theorem tw_1502 : ex_tW (Jvm.Cond.selects "Callerhall" ({ cls := "Callerhall", name := "sing", desc := "(I)I" } : Jvm.MethodName) ({ cls := "Callerhall", name := "sing", desc := "(I)I" } : Jvm.MethodName)) := ex_tt ex_q7 62 rfl rfl
theorem tw_1503 : ex_tW (Jvm.Cond.code ({ cls := "Callerhall", name := "sing", desc := "(I)I" } : Jvm.MethodName) prog_1_method_42_code (3 : Nat) (Option.some Jvm.ClassFile.FieldType.int)) := ex_tt ex_q7 63 rfl rfl
theorem tw_1504 : ex_tW (Jvm.Cond.methodLink "Callerhall" (362 : Nat) ({ cls := "Callerhall$Song", name := "begin", desc := "(I)V" } : Jvm.MethodName)) := ex_tt ex_q7 64 rfl rfl
theorem tw_1505 : ex_tW (Jvm.Cond.instanceMethod ({ cls := "Callerhall$Song", name := "begin", desc := "(I)V" } : Jvm.MethodName)) := ex_tt ex_q7 65 rfl rfl
theorem tw_1506 : ex_tW (Jvm.Cond.selects "Callerhall$Song" ({ cls := "Callerhall$Song", name := "begin", desc := "(I)V" } : Jvm.MethodName) ({ cls := "Callerhall$Song", name := "begin", desc := "(I)V" } : Jvm.MethodName)) := ex_tt ex_q7 66 rfl rfl
theorem tw_1507 : ex_tW (Jvm.Cond.code ({ cls := "Callerhall$Song", name := "begin", desc := "(I)V" } : Jvm.MethodName) prog_9_method_2_code (2 : Nat) (Option.none : Option Jvm.ClassFile.FieldType)) := ex_tt ex_q7 67 rfl rfl
theorem tw_1508 : ex_tW (Jvm.Cond.methodLink "CallerhallLaw" (306 : Nat) ({ cls := "CallerhallLaw", name := "progress", desc := "(LCallerhall;[J)I" } : Jvm.MethodName)) := ex_tt ex_q7 68 rfl rfl
theorem tw_1509 : ex_tW (Jvm.Cond.static ({ cls := "CallerhallLaw", name := "progress", desc := "(LCallerhall;[J)I" } : Jvm.MethodName)) := ex_tt ex_q7 69 rfl rfl
theorem tw_1510 : ex_tW (Jvm.Cond.codeWith ({ cls := "CallerhallLaw", name := "progress", desc := "(LCallerhall;[J)I" } : Jvm.MethodName) method_34_code (3 : Nat) (Option.some Jvm.ClassFile.FieldType.int) [((0 : Nat), (8 : Nat), (11 : Nat), (27 : Nat)), ((0 : Nat), (8 : Nat), (14 : Nat), (48 : Nat))]) := ex_tt ex_q7 70 rfl rfl
theorem tw_1511 : ex_tW (Jvm.Cond.methodLink "CallerhallLaw" (125 : Nat) ({ cls := "Callerhall", name := "progress", desc := "()I" } : Jvm.MethodName)) := ex_tt ex_q7 71 rfl rfl
theorem tw_1512 : ex_tW (Jvm.Cond.instanceMethod ({ cls := "Callerhall", name := "progress", desc := "()I" } : Jvm.MethodName)) := ex_tt ex_q7 72 rfl rfl
theorem tw_1513 : ex_tW (Jvm.Cond.selects "Callerhall" ({ cls := "Callerhall", name := "progress", desc := "()I" } : Jvm.MethodName) ({ cls := "Callerhall", name := "progress", desc := "()I" } : Jvm.MethodName)) := ex_tt ex_q7 73 rfl rfl
theorem tw_1514 : ex_tW (Jvm.Cond.code ({ cls := "Callerhall", name := "progress", desc := "()I" } : Jvm.MethodName) prog_1_method_44_code (2 : Nat) (Option.some Jvm.ClassFile.FieldType.int)) := ex_tt ex_q7 74 rfl rfl
theorem tw_1515 : ex_tW (Jvm.Cond.methodLink "CallerhallLaw" (313 : Nat) ({ cls := "CallerhallLaw", name := "hall", desc := "(LCallerhall;I[J)I" } : Jvm.MethodName)) := ex_tt ex_q7 75 rfl rfl
theorem tw_1516 : ex_tW (Jvm.Cond.static ({ cls := "CallerhallLaw", name := "hall", desc := "(LCallerhall;I[J)I" } : Jvm.MethodName)) := ex_tt ex_q7 76 rfl rfl
theorem tw_1517 : ex_tW (Jvm.Cond.codeWith ({ cls := "CallerhallLaw", name := "hall", desc := "(LCallerhall;I[J)I" } : Jvm.MethodName) method_35_code (4 : Nat) (Option.some Jvm.ClassFile.FieldType.int) [((0 : Nat), (9 : Nat), (12 : Nat), (25 : Nat))]) := ex_tt ex_q7 77 rfl rfl
theorem tw_1518 : ex_tW (Jvm.Cond.methodLink "CallerhallLaw" (128 : Nat) ({ cls := "Callerhall", name := "hall", desc := "(I)I" } : Jvm.MethodName)) := ex_tt ex_q7 78 rfl rfl
theorem tw_1519 : ex_tW (Jvm.Cond.instanceMethod ({ cls := "Callerhall", name := "hall", desc := "(I)I" } : Jvm.MethodName)) := ex_tt ex_q7 79 rfl rfl
theorem tw_1520 : ex_tW (Jvm.Cond.selects "Callerhall" ({ cls := "Callerhall", name := "hall", desc := "(I)I" } : Jvm.MethodName) ({ cls := "Callerhall", name := "hall", desc := "(I)I" } : Jvm.MethodName)) := ex_tt ex_q7 80 rfl rfl
theorem tw_1521 : ex_tW (Jvm.Cond.code ({ cls := "Callerhall", name := "hall", desc := "(I)I" } : Jvm.MethodName) prog_1_method_46_code (3 : Nat) (Option.some Jvm.ClassFile.FieldType.int)) := ex_tt ex_q7 81 rfl rfl
theorem tw_1522 : ex_tW (Jvm.Cond.methodLink "Callerhall" (374 : Nat) ({ cls := "Callerhall$Party", name := "open", desc := "(I)V" } : Jvm.MethodName)) := ex_tt ex_q7 82 rfl rfl
theorem tw_1523 : ex_tW (Jvm.Cond.instanceMethod ({ cls := "Callerhall$Party", name := "open", desc := "(I)V" } : Jvm.MethodName)) := ex_tt ex_q7 83 rfl rfl
theorem tw_1524 : ex_tW (Jvm.Cond.selects "Callerhall$Party" ({ cls := "Callerhall$Party", name := "open", desc := "(I)V" } : Jvm.MethodName) ({ cls := "Callerhall$Party", name := "open", desc := "(I)V" } : Jvm.MethodName)) := ex_tt ex_q7 84 rfl rfl
theorem tw_1525 : ex_tW (Jvm.Cond.code ({ cls := "Callerhall$Party", name := "open", desc := "(I)V" } : Jvm.MethodName) prog_5_method_2_code (4 : Nat) (Option.none : Option Jvm.ClassFile.FieldType)) := ex_tt ex_q7 85 rfl rfl
theorem tw_1526 : ex_tW (Jvm.Cond.methodLink "CallerhallLaw" (316 : Nat) ({ cls := "CallerhallLaw", name := "tip", desc := "(LCallerhall;[J)I" } : Jvm.MethodName)) := ex_tt ex_q7 86 rfl rfl
theorem tw_1527 : ex_tW (Jvm.Cond.static ({ cls := "CallerhallLaw", name := "tip", desc := "(LCallerhall;[J)I" } : Jvm.MethodName)) := ex_tt ex_q7 87 rfl rfl
theorem tw_1528 : ex_tW (Jvm.Cond.codeWith ({ cls := "CallerhallLaw", name := "tip", desc := "(LCallerhall;[J)I" } : Jvm.MethodName) method_36_code (3 : Nat) (Option.some Jvm.ClassFile.FieldType.int) [((0 : Nat), (8 : Nat), (11 : Nat), (48 : Nat))]) := ex_tt ex_q7 88 rfl rfl
theorem tw_1529 : ex_tW (Jvm.Cond.methodLink "CallerhallLaw" (131 : Nat) ({ cls := "Callerhall", name := "tip", desc := "()I" } : Jvm.MethodName)) := ex_tt ex_q7 89 rfl rfl
theorem tw_1530 : ex_tW (Jvm.Cond.instanceMethod ({ cls := "Callerhall", name := "tip", desc := "()I" } : Jvm.MethodName)) := ex_tt ex_q7 90 rfl rfl
theorem tw_1531 : ex_tW (Jvm.Cond.selects "Callerhall" ({ cls := "Callerhall", name := "tip", desc := "()I" } : Jvm.MethodName) ({ cls := "Callerhall", name := "tip", desc := "()I" } : Jvm.MethodName)) := ex_tt ex_q7 91 rfl rfl
theorem tw_1532 : ex_tW (Jvm.Cond.code ({ cls := "Callerhall", name := "tip", desc := "()I" } : Jvm.MethodName) prog_1_method_47_code (1 : Nat) (Option.some Jvm.ClassFile.FieldType.int)) := ex_tt ex_q7 92 rfl rfl
theorem tw_1533 : ex_tW (Jvm.Cond.methodLink "Callerhall" (380 : Nat) ({ cls := "Callerhall$Party", name := "fillTip", desc := "()I" } : Jvm.MethodName)) := ex_tt ex_q7 93 rfl rfl
theorem tw_1534 : ex_tW (Jvm.Cond.instanceMethod ({ cls := "Callerhall$Party", name := "fillTip", desc := "()I" } : Jvm.MethodName)) := ex_tt ex_q7 94 rfl rfl
theorem tw_1535 : ex_tW (Jvm.Cond.selects "Callerhall$Party" ({ cls := "Callerhall$Party", name := "fillTip", desc := "()I" } : Jvm.MethodName) ({ cls := "Callerhall$Party", name := "fillTip", desc := "()I" } : Jvm.MethodName)) := ex_tt ex_q7 95 rfl rfl
theorem tw_1536 : ex_tW (Jvm.Cond.code ({ cls := "Callerhall$Party", name := "fillTip", desc := "()I" } : Jvm.MethodName) prog_5_method_3_code (6 : Nat) (Option.some Jvm.ClassFile.FieldType.int)) := ex_tt ex_q7 96 rfl rfl
theorem tw_1537 : ex_tW (Jvm.Cond.methodLink "Callerhall$Party" (28 : Nat) ({ cls := "Callerhall$Party", name := "choose", desc := "([II)I" } : Jvm.MethodName)) := ex_tt ex_q7 97 rfl rfl
theorem tw_1539 : ex_tW (Jvm.Cond.instanceMethod ({ cls := "Callerhall$Party", name := "choose", desc := "([II)I" } : Jvm.MethodName)) := ex_tt ex_q7 99 rfl rfl
theorem tw_1540 : ex_tW (Jvm.Cond.code ({ cls := "Callerhall$Party", name := "choose", desc := "([II)I" } : Jvm.MethodName) prog_5_method_4_code (7 : Nat) (Option.some Jvm.ClassFile.FieldType.int)) := ex_tt ex_q7 100 rfl rfl
theorem tw_1541 : ex_tW (Jvm.Cond.methodLink "Callerhall$Party" (36 : Nat) ({ cls := "Callerhall$Party", name := "countMet", desc := "([III)I" } : Jvm.MethodName)) := ex_tt ex_q7 101 rfl rfl
theorem tw_1543 : ex_tW (Jvm.Cond.instanceMethod ({ cls := "Callerhall$Party", name := "countMet", desc := "([III)I" } : Jvm.MethodName)) := ex_tt ex_q7 103 rfl rfl
theorem tw_1544 : ex_tW (Jvm.Cond.code ({ cls := "Callerhall$Party", name := "countMet", desc := "([III)I" } : Jvm.MethodName) prog_5_method_5_code (6 : Nat) (Option.some Jvm.ClassFile.FieldType.int)) := ex_tt ex_q7 104 rfl rfl
theorem tw_1545 : ex_tW (Jvm.Cond.methodLink "Callerhall$Party" (32 : Nat) ({ cls := "Callerhall$Party", name := "meet", desc := "([III)V" } : Jvm.MethodName)) := ex_tt ex_q7 105 rfl rfl
theorem tw_1547 : ex_tW (Jvm.Cond.instanceMethod ({ cls := "Callerhall$Party", name := "meet", desc := "([III)V" } : Jvm.MethodName)) := ex_tt ex_q7 107 rfl rfl
theorem tw_1548 : ex_tW (Jvm.Cond.code ({ cls := "Callerhall$Party", name := "meet", desc := "([III)V" } : Jvm.MethodName) prog_5_method_6_code (5 : Nat) (Option.none : Option Jvm.ClassFile.FieldType)) := ex_tt ex_q7 108 rfl rfl
theorem tw_1549 : ex_tW (Jvm.Cond.methodLink "CallerhallLaw" (319 : Nat) ({ cls := "CallerhallLaw", name := "setOf", desc := "(LCallerhall;II[J)I" } : Jvm.MethodName)) := ex_tt ex_q7 109 rfl rfl
theorem tw_1550 : ex_tW (Jvm.Cond.static ({ cls := "CallerhallLaw", name := "setOf", desc := "(LCallerhall;II[J)I" } : Jvm.MethodName)) := ex_tt ex_q7 110 rfl rfl
theorem tw_1551 : ex_tW (Jvm.Cond.codeWith ({ cls := "CallerhallLaw", name := "setOf", desc := "(LCallerhall;II[J)I" } : Jvm.MethodName) method_37_code (5 : Nat) (Option.some Jvm.ClassFile.FieldType.int) [((0 : Nat), (10 : Nat), (13 : Nat), (13 : Nat))]) := ex_tt ex_q7 111 rfl rfl
theorem tw_1552 : ex_tW (Jvm.Cond.methodLink "CallerhallLaw" (134 : Nat) ({ cls := "Callerhall", name := "setOf", desc := "(II)I" } : Jvm.MethodName)) := ex_tt ex_q7 112 rfl rfl
theorem tw_1553 : ex_tW (Jvm.Cond.instanceMethod ({ cls := "Callerhall", name := "setOf", desc := "(II)I" } : Jvm.MethodName)) := ex_tt ex_q7 113 rfl rfl
theorem tw_1554 : ex_tW (Jvm.Cond.selects "Callerhall" ({ cls := "Callerhall", name := "setOf", desc := "(II)I" } : Jvm.MethodName) ({ cls := "Callerhall", name := "setOf", desc := "(II)I" } : Jvm.MethodName)) := ex_tt ex_q7 114 rfl rfl
theorem tw_1555 : ex_tW (Jvm.Cond.code ({ cls := "Callerhall", name := "setOf", desc := "(II)I" } : Jvm.MethodName) prog_1_method_48_code (3 : Nat) (Option.some Jvm.ClassFile.FieldType.int)) := ex_tt ex_q7 115 rfl rfl
theorem tw_1556 : ex_tW (Jvm.Cond.methodLink "Callerhall" (383 : Nat) ({ cls := "Callerhall", name := "checkCouple", desc := "(I)V" } : Jvm.MethodName)) := ex_tt ex_q7 116 rfl rfl
theorem tw_1558 : ex_tW (Jvm.Cond.instanceMethod ({ cls := "Callerhall", name := "checkCouple", desc := "(I)V" } : Jvm.MethodName)) := ex_tt ex_q7 118 rfl rfl
theorem tw_1559 : ex_tW (Jvm.Cond.code ({ cls := "Callerhall", name := "checkCouple", desc := "(I)V" } : Jvm.MethodName) prog_1_method_57_code (2 : Nat) (Option.none : Option Jvm.ClassFile.FieldType)) := ex_tt ex_q7 119 rfl rfl
theorem tw_1560 : ex_tW (Jvm.Cond.methodLink "CallerhallLaw" (322 : Nat) ({ cls := "CallerhallLaw", name := "met", desc := "(LCallerhall;II[J)I" } : Jvm.MethodName)) := ex_tt ex_q7 120 rfl rfl
theorem tw_1561 : ex_tW (Jvm.Cond.static ({ cls := "CallerhallLaw", name := "met", desc := "(LCallerhall;II[J)I" } : Jvm.MethodName)) := ex_tt ex_q7 121 rfl rfl
theorem tw_1562 : ex_tW (Jvm.Cond.codeWith ({ cls := "CallerhallLaw", name := "met", desc := "(LCallerhall;II[J)I" } : Jvm.MethodName) method_38_code (5 : Nat) (Option.some Jvm.ClassFile.FieldType.int) [((0 : Nat), (10 : Nat), (13 : Nat), (13 : Nat)), ((0 : Nat), (10 : Nat), (17 : Nat), (25 : Nat))]) := ex_tt ex_q7 122 rfl rfl
theorem tw_1563 : ex_tW (Jvm.Cond.methodLink "CallerhallLaw" (137 : Nat) ({ cls := "Callerhall", name := "met", desc := "(II)I" } : Jvm.MethodName)) := ex_tt ex_q7 123 rfl rfl
theorem tw_1564 : ex_tW (Jvm.Cond.instanceMethod ({ cls := "Callerhall", name := "met", desc := "(II)I" } : Jvm.MethodName)) := ex_tt ex_q7 124 rfl rfl
theorem tw_1565 : ex_tW (Jvm.Cond.selects "Callerhall" ({ cls := "Callerhall", name := "met", desc := "(II)I" } : Jvm.MethodName) ({ cls := "Callerhall", name := "met", desc := "(II)I" } : Jvm.MethodName)) := ex_tt ex_q7 125 rfl rfl
theorem tw_1566 : ex_tW (Jvm.Cond.code ({ cls := "Callerhall", name := "met", desc := "(II)I" } : Jvm.MethodName) prog_1_method_49_code (3 : Nat) (Option.some Jvm.ClassFile.FieldType.int)) := ex_tt ex_q7 126 rfl rfl
theorem tw_1567 : ex_tW (Jvm.Cond.methodLink "CallerhallLaw" (330 : Nat) ({ cls := "CallerhallLaw", name := "doneShare", desc := "(LCallerhall;[D)I" } : Jvm.MethodName)) := ex_tt ex_q7 127 rfl rfl
theorem tw_1568 : ex_tW (Jvm.Cond.static ({ cls := "CallerhallLaw", name := "doneShare", desc := "(LCallerhall;[D)I" } : Jvm.MethodName)) := ex_tt ex_q7 128 rfl rfl
theorem tw_1569 : ex_tW (Jvm.Cond.codeWith ({ cls := "CallerhallLaw", name := "doneShare", desc := "(LCallerhall;[D)I" } : Jvm.MethodName) method_39_code (3 : Nat) (Option.some Jvm.ClassFile.FieldType.int) [((0 : Nat), (8 : Nat), (11 : Nat), (144 : Nat))]) := ex_tt ex_q7 129 rfl rfl
theorem tw_1570 : ex_tW (Jvm.Cond.classLink "CallerhallLaw" (144 : Nat) "java/lang/ArithmeticException") := ex_tt ex_q7 130 rfl rfl
theorem tw_1582 : (Jvm.Cond.castable "java/lang/ArithmeticException" "java/lang/ArithmeticException") ∈ ex_TN := ex_twn ex_q7 142 rfl rfl
theorem tw_1584 : ex_tW (Jvm.Cond.methodLink "CallerhallLaw" (140 : Nat) ({ cls := "Callerhall", name := "doneShare", desc := "()F" } : Jvm.MethodName)) := ex_tt ex_q7 144 rfl rfl
theorem tw_1585 : ex_tW (Jvm.Cond.instanceMethod ({ cls := "Callerhall", name := "doneShare", desc := "()F" } : Jvm.MethodName)) := ex_tt ex_q7 145 rfl rfl
theorem tw_1586 : ex_tW (Jvm.Cond.selects "Callerhall" ({ cls := "Callerhall", name := "doneShare", desc := "()F" } : Jvm.MethodName) ({ cls := "Callerhall", name := "doneShare", desc := "()F" } : Jvm.MethodName)) := ex_tt ex_q7 146 rfl rfl
theorem tw_1587 : ex_tW (Jvm.Cond.code ({ cls := "Callerhall", name := "doneShare", desc := "()F" } : Jvm.MethodName) prog_1_method_51_code (1 : Nat) (Option.some Jvm.ClassFile.FieldType.float)) := ex_tt ex_q7 147 rfl rfl
theorem tw_1588 : ex_tW (Jvm.Cond.classLink "Callerhall" (400 : Nat) "java/lang/ArithmeticException") := ex_tt ex_q7 148 rfl rfl
theorem tw_1593 : ex_tW (Jvm.Cond.classLink "CallerhallLaw" (147 : Nat) "CallerhallModel") := ex_tt ex_q7 153 rfl rfl
theorem tw_1594 : ex_tW (Jvm.Cond.instantiable "CallerhallModel" (40 : Nat)) := ex_tt ex_q7 154 rfl rfl
theorem tw_1595 : ex_tW (Jvm.Cond.methodLink "CallerhallLaw" (149 : Nat) ({ cls := "CallerhallModel", name := "<init>", desc := "()V" } : Jvm.MethodName)) := ex_tt ex_q7 155 rfl rfl
theorem tw_1596 : ex_tW (Jvm.Cond.instanceMethod ({ cls := "CallerhallModel", name := "<init>", desc := "()V" } : Jvm.MethodName)) := ex_tt ex_q7 156 rfl rfl
theorem tw_1597 : ex_tW (Jvm.Cond.code ({ cls := "CallerhallModel", name := "<init>", desc := "()V" } : Jvm.MethodName) prog_14_method_1_code (2 : Nat) (Option.none : Option Jvm.ClassFile.FieldType)) := ex_tt ex_q7 157 rfl rfl
theorem tw_1598 : ex_tW (Jvm.Cond.methodLink "CallerhallModel" (1 : Nat) ({ cls := "java/lang/Object", name := "<init>", desc := "()V" } : Jvm.MethodName)) := ex_tt ex_q7 158 rfl rfl
theorem tw_1599 : ex_tW (Jvm.Cond.classLink "CallerhallModel" (22 : Nat) "java/util/ArrayList") := ex_tt ex_q7 159 rfl rfl
theorem tw_1600 : ex_tW (Jvm.Cond.instantiable "java/util/ArrayList" (3 : Nat)) := ex_tt ex_q7 160 rfl rfl
theorem tw_1601 : ex_tW (Jvm.Cond.methodLink "CallerhallModel" (24 : Nat) ({ cls := "java/util/ArrayList", name := "<init>", desc := "()V" } : Jvm.MethodName)) := ex_tt ex_q7 161 rfl rfl
theorem tw_1602 : ex_tW (Jvm.Cond.instanceMethod ({ cls := "java/util/ArrayList", name := "<init>", desc := "()V" } : Jvm.MethodName)) := ex_tt ex_q7 162 rfl rfl
theorem tw_1603 : ex_tW (Jvm.Cond.code ({ cls := "java/util/ArrayList", name := "<init>", desc := "()V" } : Jvm.MethodName) prog_43_method_2_code (1 : Nat) (Option.none : Option Jvm.ClassFile.FieldType)) := ex_tt ex_q7 163 rfl rfl
theorem tw_1604 : ex_tW (Jvm.Cond.methodLink "java/util/ArrayList" (1 : Nat) ({ cls := "java/util/AbstractList", name := "<init>", desc := "()V" } : Jvm.MethodName)) := ex_tt ex_q7 164 rfl rfl
theorem tw_1605 : ex_tW (Jvm.Cond.instanceMethod ({ cls := "java/util/AbstractList", name := "<init>", desc := "()V" } : Jvm.MethodName)) := ex_tt ex_q7 165 rfl rfl
theorem tw_1606 : ex_tW (Jvm.Cond.code ({ cls := "java/util/AbstractList", name := "<init>", desc := "()V" } : Jvm.MethodName) prog_42_method_1_code (1 : Nat) (Option.none : Option Jvm.ClassFile.FieldType)) := ex_tt ex_q7 166 rfl rfl
theorem tw_1607 : ex_tW (Jvm.Cond.methodLink "java/util/AbstractList" (1 : Nat) ({ cls := "java/util/AbstractCollection", name := "<init>", desc := "()V" } : Jvm.MethodName)) := ex_tt ex_q7 167 rfl rfl
theorem tw_1608 : ex_tW (Jvm.Cond.instanceMethod ({ cls := "java/util/AbstractCollection", name := "<init>", desc := "()V" } : Jvm.MethodName)) := ex_tt ex_q7 168 rfl rfl
theorem tw_1609 : ex_tW (Jvm.Cond.code ({ cls := "java/util/AbstractCollection", name := "<init>", desc := "()V" } : Jvm.MethodName) prog_41_method_1_code (1 : Nat) (Option.none : Option Jvm.ClassFile.FieldType)) := ex_tt ex_q7 169 rfl rfl
theorem tw_1610 : ex_tW (Jvm.Cond.methodLink "java/util/AbstractCollection" (1 : Nat) ({ cls := "java/lang/Object", name := "<init>", desc := "()V" } : Jvm.MethodName)) := ex_tt ex_q7 170 rfl rfl
theorem tw_1611 : ex_tW (Jvm.Cond.fieldLink "java/util/ArrayList" (39 : Nat) "java/util/ArrayList" "DEFAULTCAPACITY_EMPTY_ELEMENTDATA" "[Ljava/lang/Object;") := ex_tt ex_q7 171 rfl rfl
theorem tw_1613 : ex_tW (Jvm.Cond.fieldLink "java/util/ArrayList" (9 : Nat) "java/util/ArrayList" "elementData" "[Ljava/lang/Object;") := ex_tt ex_q7 173 rfl rfl
theorem tw_1614 : ex_tW (Jvm.Cond.fieldLink "java/util/ArrayList$Itr" (37 : Nat) "java/util/ArrayList" "elementData" "[Ljava/lang/Object;") := ex_tt ex_q7 174 rfl rfl
theorem tw_1615 : (Jvm.Cond.fieldLinkNest "java/util/ArrayList$Itr" (28 : Nat) "java/util/ArrayList" "size" "I" "java/util/ArrayList") ∈ ex_TN := ex_twn ex_q7 175 rfl rfl
theorem tw_1616 : ex_tW (Jvm.Cond.fieldLink "java/util/ArrayList" (48 : Nat) "java/util/ArrayList" "size" "I") := ex_tt ex_q7 176 rfl rfl
theorem tw_1617 : ex_tW (Jvm.Cond.fieldLink "java/util/AbstractList" (7 : Nat) "java/util/AbstractList" "modCount" "I") := ex_tt ex_q7 177 rfl rfl
theorem tw_1618 : ex_tW (Jvm.Cond.fieldLink "java/util/ArrayList$Itr" (17 : Nat) "java/util/ArrayList" "modCount" "I") := ex_tt ex_q7 178 rfl rfl
theorem tw_1619 : ex_tW (Jvm.Cond.sameField "java/util/ArrayList" "java/util/AbstractList" "modCount" "I") := ex_tt ex_q7 179 rfl rfl
theorem tw_1620 : ex_tW (Jvm.Cond.fieldLink "java/util/ArrayList" (63 : Nat) "java/util/ArrayList" "modCount" "I") := ex_tt ex_q7 180 rfl rfl
theorem tw_1629 : ex_tW (Jvm.Cond.methodLink "CallerhallModel" (83 : Nat) ({ cls := "java/util/List", name := "add", desc := "(Ljava/lang/Object;)Z" } : Jvm.MethodName)) := ex_tt ex_q7 189 rfl rfl
theorem tw_1632 : (Jvm.Cond.castable "java/util/ArrayList" "java/util/List") ∈ ex_TN := ex_twn ex_q7 192 rfl rfl
theorem tw_1633 : ex_tW (Jvm.Cond.selects "java/util/ArrayList" ({ cls := "java/util/List", name := "add", desc := "(Ljava/lang/Object;)Z" } : Jvm.MethodName) ({ cls := "java/util/ArrayList", name := "add", desc := "(Ljava/lang/Object;)Z" } : Jvm.MethodName)) := ex_tt ex_q7 193 rfl rfl
theorem tw_1635 : ex_tW (Jvm.Cond.instanceMethod ({ cls := "java/util/ArrayList", name := "add", desc := "(Ljava/lang/Object;)Z" } : Jvm.MethodName)) := ex_tt ex_q7 195 rfl rfl
theorem tw_1637 : ex_tW (Jvm.Cond.code ({ cls := "java/util/ArrayList", name := "add", desc := "(Ljava/lang/Object;)Z" } : Jvm.MethodName) prog_43_method_25_code (2 : Nat) (Option.some Jvm.ClassFile.FieldType.boolean)) := ex_tt ex_q7 197 rfl rfl
theorem tw_1638 : ex_tW (Jvm.Cond.methodLink "java/util/ArrayList" (131 : Nat) ({ cls := "java/util/ArrayList", name := "add", desc := "(Ljava/lang/Object;[Ljava/lang/Object;I)V" } : Jvm.MethodName)) := ex_tt ex_q7 198 rfl rfl
theorem tw_1640 : ex_tW (Jvm.Cond.instanceMethod ({ cls := "java/util/ArrayList", name := "add", desc := "(Ljava/lang/Object;[Ljava/lang/Object;I)V" } : Jvm.MethodName)) := ex_tt ex_q7 200 rfl rfl
theorem tw_1641 : ex_tW (Jvm.Cond.code ({ cls := "java/util/ArrayList", name := "add", desc := "(Ljava/lang/Object;[Ljava/lang/Object;I)V" } : Jvm.MethodName) prog_43_method_24_code (4 : Nat) (Option.none : Option Jvm.ClassFile.FieldType)) := ex_tt ex_q7 201 rfl rfl
theorem tw_1642 : ex_tW (Jvm.Cond.methodLink "java/util/ArrayList" (129 : Nat) ({ cls := "java/util/ArrayList", name := "grow", desc := "()[Ljava/lang/Object;" } : Jvm.MethodName)) := ex_tt ex_q7 202 rfl rfl
theorem tw_1644 : ex_tW (Jvm.Cond.instanceMethod ({ cls := "java/util/ArrayList", name := "grow", desc := "()[Ljava/lang/Object;" } : Jvm.MethodName)) := ex_tt ex_q7 204 rfl rfl
theorem tw_1645 : ex_tW (Jvm.Cond.code ({ cls := "java/util/ArrayList", name := "grow", desc := "()[Ljava/lang/Object;" } : Jvm.MethodName) prog_43_method_7_code (1 : Nat) (Option.some (Jvm.ClassFile.FieldType.array (Jvm.ClassFile.FieldType.object "java/lang/Object")))) := ex_tt ex_q7 205 rfl rfl
theorem tw_1646 : ex_tW (Jvm.Cond.methodLink "java/util/ArrayList" (69 : Nat) ({ cls := "java/util/ArrayList", name := "grow", desc := "(I)[Ljava/lang/Object;" } : Jvm.MethodName)) := ex_tt ex_q7 206 rfl rfl
theorem tw_1648 : ex_tW (Jvm.Cond.instanceMethod ({ cls := "java/util/ArrayList", name := "grow", desc := "(I)[Ljava/lang/Object;" } : Jvm.MethodName)) := ex_tt ex_q7 208 rfl rfl
theorem tw_1649 : ex_tW (Jvm.Cond.code ({ cls := "java/util/ArrayList", name := "grow", desc := "(I)[Ljava/lang/Object;" } : Jvm.MethodName) prog_43_method_6_code (4 : Nat) (Option.some (Jvm.ClassFile.FieldType.array (Jvm.ClassFile.FieldType.object "java/lang/Object")))) := ex_tt ex_q7 209 rfl rfl
theorem tw_1650 : ex_tW (Jvm.Cond.methodLink "java/util/ArrayList" (73 : Nat) ({ cls := "jdk/internal/util/ArraysSupport", name := "newLength", desc := "(III)I" } : Jvm.MethodName)) := ex_tt ex_q7 210 rfl rfl
theorem tw_1651 : ex_tW (Jvm.Cond.static ({ cls := "jdk/internal/util/ArraysSupport", name := "newLength", desc := "(III)I" } : Jvm.MethodName)) := ex_tt ex_q7 211 rfl rfl
theorem tw_1652 : ex_tW (Jvm.Cond.code ({ cls := "jdk/internal/util/ArraysSupport", name := "newLength", desc := "(III)I" } : Jvm.MethodName) prog_53_method_27_code (4 : Nat) (Option.some Jvm.ClassFile.FieldType.int)) := ex_tt ex_q7 212 rfl rfl
theorem tw_1653 : ex_tW (Jvm.Cond.methodLink "jdk/internal/util/ArraysSupport" (194 : Nat) ({ cls := "java/lang/Math", name := "max", desc := "(II)I" } : Jvm.MethodName)) := ex_tt ex_q7 213 rfl rfl
theorem tw_1654 : ex_tW (Jvm.Cond.constant "jdk/internal/util/ArraysSupport" (200 : Nat) (2147483639 : Int32)) := ex_tt ex_q7 214 rfl rfl
theorem tw_1655 : ex_tW (Jvm.Cond.methodLink "jdk/internal/util/ArraysSupport" (201 : Nat) ({ cls := "jdk/internal/util/ArraysSupport", name := "hugeLength", desc := "(II)I" } : Jvm.MethodName)) := ex_tt ex_q7 215 rfl rfl
theorem tw_1656 : ex_tW (Jvm.Cond.static ({ cls := "jdk/internal/util/ArraysSupport", name := "hugeLength", desc := "(II)I" } : Jvm.MethodName)) := ex_tt ex_q7 216 rfl rfl
theorem tw_1657 : ex_tW (Jvm.Cond.code ({ cls := "jdk/internal/util/ArraysSupport", name := "hugeLength", desc := "(II)I" } : Jvm.MethodName) prog_53_method_28_code (3 : Nat) (Option.some Jvm.ClassFile.FieldType.int)) := ex_tt ex_q7 217 rfl rfl
theorem tw_1658 : ex_tW (Jvm.Cond.methodLink "java/util/ArrayList" (66 : Nat) ({ cls := "java/util/Arrays", name := "copyOf", desc := "([Ljava/lang/Object;I)[Ljava/lang/Object;" } : Jvm.MethodName)) := ex_tt ex_q7 218 rfl rfl
theorem tw_1659 : ex_tW (Jvm.Cond.static ({ cls := "java/util/Arrays", name := "copyOf", desc := "([Ljava/lang/Object;I)[Ljava/lang/Object;" } : Jvm.MethodName)) := ex_tt ex_q7 219 rfl rfl
theorem tw_1660 : ex_tW (Jvm.Cond.code ({ cls := "java/util/Arrays", name := "copyOf", desc := "([Ljava/lang/Object;I)[Ljava/lang/Object;" } : Jvm.MethodName) prog_45_method_119_code (2 : Nat) (Option.some (Jvm.ClassFile.FieldType.array (Jvm.ClassFile.FieldType.object "java/lang/Object")))) := ex_tt ex_q7 220 rfl rfl
theorem tw_1697 : ex_tW (Jvm.Cond.methodLink "java/util/Arrays" (304 : Nat) ({ cls := "java/lang/Math", name := "min", desc := "(II)I" } : Jvm.MethodName)) := ex_tt ex_q8 17 rfl rfl
theorem tw_1701 : ex_tW (Jvm.Cond.methodLink "java/util/ArrayList" (79 : Nat) ({ cls := "java/lang/Math", name := "max", desc := "(II)I" } : Jvm.MethodName)) := ex_tt ex_q8 21 rfl rfl
theorem tw_1702 : ex_tW (Jvm.Cond.classLink "java/util/ArrayList" (7 : Nat) "java/lang/Object") := ex_tt ex_q8 22 rfl rfl
theorem tw_1703 : ex_tW (Jvm.Cond.methodLink "CallerhallModel" (89 : Nat) ({ cls := "CallerhallModel", name := "homes", desc := "()[I" } : Jvm.MethodName)) := ex_tt ex_q8 23 rfl rfl
theorem tw_1705 : ex_tW (Jvm.Cond.instanceMethod ({ cls := "CallerhallModel", name := "homes", desc := "()[I" } : Jvm.MethodName)) := ex_tt ex_q8 25 rfl rfl
theorem tw_1706 : ex_tW (Jvm.Cond.code ({ cls := "CallerhallModel", name := "homes", desc := "()[I" } : Jvm.MethodName) prog_14_method_7_code (8 : Nat) (Option.some (Jvm.ClassFile.FieldType.array Jvm.ClassFile.FieldType.int))) := ex_tt ex_q8 26 rfl rfl
theorem tw_1707 : ex_tW (Jvm.Cond.methodLink "CallerhallModel" (93 : Nat) ({ cls := "CallerhallModel", name := "puts", desc := "([I)V" } : Jvm.MethodName)) := ex_tt ex_q8 27 rfl rfl
theorem tw_1709 : ex_tW (Jvm.Cond.instanceMethod ({ cls := "CallerhallModel", name := "puts", desc := "([I)V" } : Jvm.MethodName)) := ex_tt ex_q8 29 rfl rfl
theorem tw_1710 : ex_tW (Jvm.Cond.code ({ cls := "CallerhallModel", name := "puts", desc := "([I)V" } : Jvm.MethodName) prog_14_method_8_code (3 : Nat) (Option.none : Option Jvm.ClassFile.FieldType)) := ex_tt ex_q8 30 rfl rfl
theorem tw_1711 : ex_tW (Jvm.Cond.fieldLink "CallerhallModel" (7 : Nat) "CallerhallModel" "px" "[I") := ex_tt ex_q8 31 rfl rfl
theorem tw_1712 : ex_tW (Jvm.Cond.fieldLink "CallerhallModel" (13 : Nat) "CallerhallModel" "py" "[I") := ex_tt ex_q8 32 rfl rfl
theorem tw_1713 : ex_tW (Jvm.Cond.fieldLink "CallerhallModel" (16 : Nat) "CallerhallModel" "pf" "[I") := ex_tt ex_q8 33 rfl rfl
theorem tw_1714 : ex_tW (Jvm.Cond.fieldLink "CallerhallModel" (19 : Nat) "CallerhallModel" "skill" "[I") := ex_tt ex_q8 34 rfl rfl
theorem tw_1715 : ex_tW (Jvm.Cond.fieldLink "CallerhallModel" (25 : Nat) "CallerhallModel" "phantoms" "Ljava/util/List;") := ex_tt ex_q8 35 rfl rfl
theorem tw_1716 : ex_tW (Jvm.Cond.fieldLink "CallerhallModel" (29 : Nat) "CallerhallModel" "past" "Ljava/util/List;") := ex_tt ex_q8 36 rfl rfl
theorem tw_1717 : ex_tW (Jvm.Cond.fieldLink "CallerhallModel" (32 : Nat) "CallerhallModel" "tips" "Ljava/util/List;") := ex_tt ex_q8 37 rfl rfl
theorem tw_1718 : ex_tW (Jvm.Cond.fieldLink "CallerhallModel" (35 : Nat) "CallerhallModel" "letters" "Ljava/util/List;") := ex_tt ex_q8 38 rfl rfl
theorem tw_1719 : ex_tW (Jvm.Cond.fieldLink "CallerhallModel" (38 : Nat) "CallerhallModel" "way" "Ljava/util/List;") := ex_tt ex_q8 39 rfl rfl
theorem tw_1720 : ex_tW (Jvm.Cond.fieldLink "CallerhallModel" (41 : Nat) "CallerhallModel" "defined" "Ljava/util/List;") := ex_tt ex_q8 40 rfl rfl
theorem tw_1721 : ex_tW (Jvm.Cond.fieldLink "CallerhallModel" (44 : Nat) "CallerhallModel" "turned" "[I") := ex_tt ex_q8 41 rfl rfl
theorem tw_1722 : ex_tW (Jvm.Cond.fieldLink "CallerhallModel" (47 : Nat) "CallerhallModel" "lastTurn" "[I") := ex_tt ex_q8 42 rfl rfl
theorem tw_1723 : ex_tW (Jvm.Cond.fieldLink "CallerhallModel" (50 : Nat) "CallerhallModel" "lastHand" "[I") := ex_tt ex_q8 43 rfl rfl
theorem tw_1724 : ex_tW (Jvm.Cond.fieldLink "CallerhallModel" (97 : Nat) "CallerhallModel" "thrown" "I") := ex_tt ex_q8 44 rfl rfl
theorem tw_1725 : ex_tW (Jvm.Cond.fieldLink "CallerhallModel" (53 : Nat) "CallerhallModel" "level" "I") := ex_tt ex_q8 45 rfl rfl
theorem tw_1726 : ex_tW (Jvm.Cond.fieldLink "CallerhallModel" (57 : Nat) "CallerhallModel" "year" "I") := ex_tt ex_q8 46 rfl rfl
theorem tw_1727 : ex_tW (Jvm.Cond.fieldLink "CallerhallModel" (110 : Nat) "CallerhallModel" "gone" "I") := ex_tt ex_q8 47 rfl rfl
theorem tw_1728 : ex_tW (Jvm.Cond.fieldLink "CallerhallModel" (446 : Nat) "CallerhallModel" "who" "I") := ex_tt ex_q8 48 rfl rfl
theorem tw_1729 : ex_tW (Jvm.Cond.fieldLink "CallerhallModel" (460 : Nat) "CallerhallModel" "tried" "I") := ex_tt ex_q8 49 rfl rfl
theorem tw_1730 : ex_tW (Jvm.Cond.fieldLink "CallerhallModel" (471 : Nat) "CallerhallModel" "done" "I") := ex_tt ex_q8 50 rfl rfl
theorem tw_1731 : ex_tW (Jvm.Cond.fieldLink "CallerhallModel" (559 : Nat) "CallerhallModel" "couples" "I") := ex_tt ex_q8 51 rfl rfl
theorem tw_1732 : ex_tW (Jvm.Cond.fieldLink "CallerhallModel" (60 : Nat) "CallerhallModel" "target" "I") := ex_tt ex_q8 52 rfl rfl
theorem tw_1733 : ex_tW (Jvm.Cond.fieldLink "CallerhallModel" (455 : Nat) "CallerhallModel" "figure" "I") := ex_tt ex_q8 53 rfl rfl
theorem tw_1734 : ex_tW (Jvm.Cond.fieldLink "CallerhallModel" (135 : Nat) "CallerhallModel" "broken" "I") := ex_tt ex_q8 54 rfl rfl
theorem tw_1735 : ex_tW (Jvm.Cond.fieldLink "CallerhallModel" (138 : Nat) "CallerhallModel" "clashes" "I") := ex_tt ex_q8 55 rfl rfl
theorem tw_1736 : ex_tW (Jvm.Cond.fieldLink "CallerhallModel" (452 : Nat) "CallerhallModel" "beats" "J") := ex_tt ex_q8 56 rfl rfl
theorem tw_1737 : ex_tW (Jvm.Cond.fieldLink "CallerhallModel" (63 : Nat) "CallerhallModel" "why" "C") := ex_tt ex_q8 57 rfl rfl
theorem tw_1738 : ex_tW (Jvm.Cond.fieldLink "CallerhallModel" (67 : Nat) "CallerhallModel" "pending" "LCallerhallModel$Call;") := ex_tt ex_q8 58 rfl rfl
theorem tw_1739 : ex_tW (Jvm.Cond.fieldLink "CallerhallModel" (490 : Nat) "CallerhallModel" "pendingDone" "I") := ex_tt ex_q8 59 rfl rfl
theorem tw_1740 : ex_tW (Jvm.Cond.fieldLink "CallerhallModel" (493 : Nat) "CallerhallModel" "pendingBeats" "I") := ex_tt ex_q8 60 rfl rfl
theorem tw_1741 : ex_tW (Jvm.Cond.fieldLink "CallerhallModel" (496 : Nat) "CallerhallModel" "pendingFrom" "[I") := ex_tt ex_q8 61 rfl rfl
theorem tw_1742 : ex_tW (Jvm.Cond.fieldLink "CallerhallModel" (499 : Nat) "CallerhallModel" "pendingTurned" "[I") := ex_tt ex_q8 62 rfl rfl
theorem tw_1743 : ex_tW (Jvm.Cond.fieldLink "CallerhallModel" (502 : Nat) "CallerhallModel" "pendingHands" "[I") := ex_tt ex_q8 63 rfl rfl
theorem tw_1744 : ex_tW (Jvm.Cond.fieldLink "CallerhallModel" (71 : Nat) "CallerhallModel" "runTurned" "[I") := ex_tt ex_q8 64 rfl rfl
theorem tw_1745 : ex_tW (Jvm.Cond.fieldLink "CallerhallModel" (74 : Nat) "CallerhallModel" "firstHand" "[I") := ex_tt ex_q8 65 rfl rfl
theorem tw_1746 : ex_tW (Jvm.Cond.fieldLink "CallerhallModel" (77 : Nat) "CallerhallModel" "handNow" "[I") := ex_tt ex_q8 66 rfl rfl
theorem tw_1747 : ex_tW (Jvm.Cond.fieldLink "CallerhallModel" (80 : Nat) "CallerhallModel" "handCount" "[I") := ex_tt ex_q8 67 rfl rfl
theorem tw_1748 : ex_tW (Jvm.Cond.fieldLink "CallerhallModel" (353 : Nat) "CallerhallModel" "runWhy" "C") := ex_tt ex_q8 68 rfl rfl
theorem tw_1749 : ex_tW (Jvm.Cond.fieldLink "CallerhallModel" (356 : Nat) "CallerhallModel" "runWho" "I") := ex_tt ex_q8 69 rfl rfl
theorem tw_1750 : ex_tW (Jvm.Cond.fieldLink "CallerhallModel" (286 : Nat) "CallerhallModel" "allSkilled" "Z") := ex_tt ex_q8 70 rfl rfl
theorem tw_1832 : ex_tW (Jvm.Cond.methodLink "CallerhallLaw" (160 : Nat) ({ cls := "CallerhallModel", name := "thrown", desc := "()I" } : Jvm.MethodName)) := ex_tt ex_q8 152 rfl rfl
theorem tw_1833 : ex_tW (Jvm.Cond.instanceMethod ({ cls := "CallerhallModel", name := "thrown", desc := "()I" } : Jvm.MethodName)) := ex_tt ex_q8 153 rfl rfl
theorem tw_1834 : ex_tW (Jvm.Cond.selects "CallerhallModel" ({ cls := "CallerhallModel", name := "thrown", desc := "()I" } : Jvm.MethodName) ({ cls := "CallerhallModel", name := "thrown", desc := "()I" } : Jvm.MethodName)) := ex_tt ex_q8 154 rfl rfl
theorem tw_1835 : ex_tW (Jvm.Cond.code ({ cls := "CallerhallModel", name := "thrown", desc := "()I" } : Jvm.MethodName) prog_14_method_2_code (1 : Nat) (Option.some Jvm.ClassFile.FieldType.int)) := ex_tt ex_q8 155 rfl rfl
theorem tw_1836 : ex_tW (Jvm.Cond.methodLink "CallerhallLaw" (153 : Nat) ({ cls := "CallerhallModel", name := "home", desc := "()I" } : Jvm.MethodName)) := ex_tt ex_q8 156 rfl rfl
theorem tw_1837 : ex_tW (Jvm.Cond.instanceMethod ({ cls := "CallerhallModel", name := "home", desc := "()I" } : Jvm.MethodName)) := ex_tt ex_q8 157 rfl rfl
theorem tw_1838 : ex_tW (Jvm.Cond.selects "CallerhallModel" ({ cls := "CallerhallModel", name := "home", desc := "()I" } : Jvm.MethodName) ({ cls := "CallerhallModel", name := "home", desc := "()I" } : Jvm.MethodName)) := ex_tt ex_q8 158 rfl rfl
theorem tw_1839 : ex_tW (Jvm.Cond.code ({ cls := "CallerhallModel", name := "home", desc := "()I" } : Jvm.MethodName) prog_14_method_14_code (5 : Nat) (Option.some Jvm.ClassFile.FieldType.int)) := ex_tt ex_q8 159 rfl rfl
theorem tw_1840 : ex_tW (Jvm.Cond.methodLink "CallerhallModel" (129 : Nat) ({ cls := "CallerhallModel", name := "row", desc := "()[I" } : Jvm.MethodName)) := ex_tt ex_q8 160 rfl rfl
theorem tw_1842 : ex_tW (Jvm.Cond.instanceMethod ({ cls := "CallerhallModel", name := "row", desc := "()[I" } : Jvm.MethodName)) := ex_tt ex_q8 162 rfl rfl
theorem tw_1843 : ex_tW (Jvm.Cond.code ({ cls := "CallerhallModel", name := "row", desc := "()[I" } : Jvm.MethodName) prog_14_method_9_code (3 : Nat) (Option.some (Jvm.ClassFile.FieldType.array Jvm.ClassFile.FieldType.int))) := ex_tt ex_q8 163 rfl rfl
theorem tw_1844 : ex_tW (Jvm.Cond.methodLink "CallerhallModel" (132 : Nat) ({ cls := "CallerhallModel", name := "tells", desc := "()V" } : Jvm.MethodName)) := ex_tt ex_q8 164 rfl rfl
theorem tw_1846 : ex_tW (Jvm.Cond.instanceMethod ({ cls := "CallerhallModel", name := "tells", desc := "()V" } : Jvm.MethodName)) := ex_tt ex_q8 166 rfl rfl
theorem tw_1847 : ex_tW (Jvm.Cond.code ({ cls := "CallerhallModel", name := "tells", desc := "()V" } : Jvm.MethodName) prog_14_method_13_code (1 : Nat) (Option.none : Option Jvm.ClassFile.FieldType)) := ex_tt ex_q8 167 rfl rfl
theorem tw_1849 : ex_tW (Jvm.Cond.methodLink "CallerhallModel" (126 : Nat) ({ cls := "java/util/List", name := "clear", desc := "()V" } : Jvm.MethodName)) := ex_tt ex_q8 169 rfl rfl
theorem tw_1852 : ex_tW (Jvm.Cond.selects "java/util/ArrayList" ({ cls := "java/util/List", name := "clear", desc := "()V" } : Jvm.MethodName) ({ cls := "java/util/ArrayList", name := "clear", desc := "()V" } : Jvm.MethodName)) := ex_tt ex_q8 172 rfl rfl
theorem tw_1854 : ex_tW (Jvm.Cond.instanceMethod ({ cls := "java/util/ArrayList", name := "clear", desc := "()V" } : Jvm.MethodName)) := ex_tt ex_q8 174 rfl rfl
theorem tw_1856 : ex_tW (Jvm.Cond.code ({ cls := "java/util/ArrayList", name := "clear", desc := "()V" } : Jvm.MethodName) prog_43_method_40_code (4 : Nat) (Option.none : Option Jvm.ClassFile.FieldType)) := ex_tt ex_q8 176 rfl rfl
theorem tw_1857 : ex_tW (Jvm.Cond.methodLink "CallerhallLaw" (159 : Nat) ({ cls := "CallerhallModel", name := "x", desc := "(I)I" } : Jvm.MethodName)) := ex_tt ex_q8 177 rfl rfl
theorem tw_1858 : ex_tW (Jvm.Cond.instanceMethod ({ cls := "CallerhallModel", name := "x", desc := "(I)I" } : Jvm.MethodName)) := ex_tt ex_q8 178 rfl rfl
theorem tw_1859 : ex_tW (Jvm.Cond.selects "CallerhallModel" ({ cls := "CallerhallModel", name := "x", desc := "(I)I" } : Jvm.MethodName) ({ cls := "CallerhallModel", name := "x", desc := "(I)I" } : Jvm.MethodName)) := ex_tt ex_q8 179 rfl rfl
theorem tw_1860 : ex_tW (Jvm.Cond.code ({ cls := "CallerhallModel", name := "x", desc := "(I)I" } : Jvm.MethodName) prog_14_method_15_code (2 : Nat) (Option.some Jvm.ClassFile.FieldType.int)) := ex_tt ex_q8 180 rfl rfl
theorem tw_1861 : ex_tW (Jvm.Cond.methodLink "CallerhallModel" (141 : Nat) ({ cls := "CallerhallModel", name := "noDancer", desc := "(I)Z" } : Jvm.MethodName)) := ex_tt ex_q8 181 rfl rfl
theorem tw_1863 : ex_tW (Jvm.Cond.instanceMethod ({ cls := "CallerhallModel", name := "noDancer", desc := "(I)Z" } : Jvm.MethodName)) := ex_tt ex_q8 183 rfl rfl
theorem tw_1864 : ex_tW (Jvm.Cond.code ({ cls := "CallerhallModel", name := "noDancer", desc := "(I)Z" } : Jvm.MethodName) prog_14_method_6_code (2 : Nat) (Option.some Jvm.ClassFile.FieldType.boolean)) := ex_tt ex_q8 184 rfl rfl
theorem tw_1865 : ex_tW (Jvm.Cond.constantLong "CallerhallModel" (100 : Nat) (7 : Int64)) := ex_tt ex_q8 185 rfl rfl
theorem tw_1866 : ex_tW (Jvm.Cond.methodLink "CallerhallModel" (102 : Nat) ({ cls := "CallerhallModel", name := "isIn", desc := "(JJJ)Z" } : Jvm.MethodName)) := ex_tt ex_q8 186 rfl rfl
theorem tw_1867 : ex_tW (Jvm.Cond.static ({ cls := "CallerhallModel", name := "isIn", desc := "(JJJ)Z" } : Jvm.MethodName)) := ex_tt ex_q8 187 rfl rfl
theorem tw_1868 : ex_tW (Jvm.Cond.code ({ cls := "CallerhallModel", name := "isIn", desc := "(JJJ)Z" } : Jvm.MethodName) prog_14_method_4_code (6 : Nat) (Option.some Jvm.ClassFile.FieldType.boolean)) := ex_tt ex_q8 188 rfl rfl
theorem tw_1869 : ex_tW (Jvm.Cond.methodLink "CallerhallModel" (106 : Nat) ({ cls := "CallerhallModel", name := "no", desc := "(ZI)Z" } : Jvm.MethodName)) := ex_tt ex_q8 189 rfl rfl
theorem tw_1871 : ex_tW (Jvm.Cond.instanceMethod ({ cls := "CallerhallModel", name := "no", desc := "(ZI)Z" } : Jvm.MethodName)) := ex_tt ex_q8 191 rfl rfl
theorem tw_1872 : ex_tW (Jvm.Cond.code ({ cls := "CallerhallModel", name := "no", desc := "(ZI)Z" } : Jvm.MethodName) prog_14_method_5_code (3 : Nat) (Option.some Jvm.ClassFile.FieldType.boolean)) := ex_tt ex_q8 192 rfl rfl
theorem tw_1873 : ex_tW (Jvm.Cond.methodLink "CallerhallLaw" (165 : Nat) ({ cls := "CallerhallModel", name := "y", desc := "(I)I" } : Jvm.MethodName)) := ex_tt ex_q8 193 rfl rfl
theorem tw_1874 : ex_tW (Jvm.Cond.instanceMethod ({ cls := "CallerhallModel", name := "y", desc := "(I)I" } : Jvm.MethodName)) := ex_tt ex_q8 194 rfl rfl
theorem tw_1875 : ex_tW (Jvm.Cond.selects "CallerhallModel" ({ cls := "CallerhallModel", name := "y", desc := "(I)I" } : Jvm.MethodName) ({ cls := "CallerhallModel", name := "y", desc := "(I)I" } : Jvm.MethodName)) := ex_tt ex_q8 195 rfl rfl
theorem tw_1876 : ex_tW (Jvm.Cond.code ({ cls := "CallerhallModel", name := "y", desc := "(I)I" } : Jvm.MethodName) prog_14_method_16_code (2 : Nat) (Option.some Jvm.ClassFile.FieldType.int)) := ex_tt ex_q8 196 rfl rfl
theorem tw_1877 : ex_tW (Jvm.Cond.methodLink "CallerhallLaw" (168 : Nat) ({ cls := "CallerhallModel", name := "facing", desc := "(I)I" } : Jvm.MethodName)) := ex_tt ex_q8 197 rfl rfl
theorem tw_1878 : ex_tW (Jvm.Cond.instanceMethod ({ cls := "CallerhallModel", name := "facing", desc := "(I)I" } : Jvm.MethodName)) := ex_tt ex_q8 198 rfl rfl
theorem tw_1879 : ex_tW (Jvm.Cond.selects "CallerhallModel" ({ cls := "CallerhallModel", name := "facing", desc := "(I)I" } : Jvm.MethodName) ({ cls := "CallerhallModel", name := "facing", desc := "(I)I" } : Jvm.MethodName)) := ex_tt ex_q8 199 rfl rfl
theorem tw_1880 : ex_tW (Jvm.Cond.code ({ cls := "CallerhallModel", name := "facing", desc := "(I)I" } : Jvm.MethodName) prog_14_method_17_code (2 : Nat) (Option.some Jvm.ClassFile.FieldType.int)) := ex_tt ex_q8 200 rfl rfl
theorem tw_1881 : ex_tW (Jvm.Cond.methodLink "CallerhallLaw" (172 : Nat) ({ cls := "CallerhallModel", name := "put", desc := "(IIII)I" } : Jvm.MethodName)) := ex_tt ex_q8 201 rfl rfl
theorem tw_1882 : ex_tW (Jvm.Cond.instanceMethod ({ cls := "CallerhallModel", name := "put", desc := "(IIII)I" } : Jvm.MethodName)) := ex_tt ex_q8 202 rfl rfl
theorem tw_1883 : ex_tW (Jvm.Cond.selects "CallerhallModel" ({ cls := "CallerhallModel", name := "put", desc := "(IIII)I" } : Jvm.MethodName) ({ cls := "CallerhallModel", name := "put", desc := "(IIII)I" } : Jvm.MethodName)) := ex_tt ex_q8 203 rfl rfl
theorem tw_1884 : ex_tW (Jvm.Cond.code ({ cls := "CallerhallModel", name := "put", desc := "(IIII)I" } : Jvm.MethodName) prog_14_method_20_code (7 : Nat) (Option.some Jvm.ClassFile.FieldType.int)) := ex_tt ex_q8 204 rfl rfl
theorem tw_1885 : ex_tW (Jvm.Cond.methodLink "CallerhallModel" (151 : Nat) ({ cls := "CallerhallModel", name := "isPlace", desc := "(III)Z" } : Jvm.MethodName)) := ex_tt ex_q8 205 rfl rfl
theorem tw_1886 : ex_tW (Jvm.Cond.static ({ cls := "CallerhallModel", name := "isPlace", desc := "(III)Z" } : Jvm.MethodName)) := ex_tt ex_q8 206 rfl rfl
theorem tw_1887 : ex_tW (Jvm.Cond.code ({ cls := "CallerhallModel", name := "isPlace", desc := "(III)Z" } : Jvm.MethodName) prog_14_method_19_code (3 : Nat) (Option.some Jvm.ClassFile.FieldType.boolean)) := ex_tt ex_q8 207 rfl rfl
theorem tw_1888 : ex_tW (Jvm.Cond.constantLong "CallerhallModel" (145 : Nat) (-9 : Int64)) := ex_tt ex_q8 208 rfl rfl
theorem tw_1889 : ex_tW (Jvm.Cond.constantLong "CallerhallModel" (147 : Nat) (9 : Int64)) := ex_tt ex_q8 209 rfl rfl
theorem tw_1890 : ex_tW (Jvm.Cond.constantLong "CallerhallModel" (149 : Nat) (3 : Int64)) := ex_tt ex_q8 210 rfl rfl
theorem tw_1891 : ex_tW (Jvm.Cond.methodLink "CallerhallModel" (155 : Nat) ({ cls := "CallerhallModel", name := "dancerAt", desc := "(II)I" } : Jvm.MethodName)) := ex_tt ex_q8 211 rfl rfl
theorem tw_1893 : ex_tW (Jvm.Cond.instanceMethod ({ cls := "CallerhallModel", name := "dancerAt", desc := "(II)I" } : Jvm.MethodName)) := ex_tt ex_q8 213 rfl rfl
theorem tw_1894 : ex_tW (Jvm.Cond.code ({ cls := "CallerhallModel", name := "dancerAt", desc := "(II)I" } : Jvm.MethodName) prog_14_method_18_code (4 : Nat) (Option.some Jvm.ClassFile.FieldType.int)) := ex_tt ex_q8 214 rfl rfl
theorem tw_1895 : ex_tW (Jvm.Cond.methodLink "CallerhallLaw" (176 : Nat) ({ cls := "CallerhallModel", name := "change", desc := "(II)I" } : Jvm.MethodName)) := ex_tt ex_q8 215 rfl rfl
theorem tw_1896 : ex_tW (Jvm.Cond.instanceMethod ({ cls := "CallerhallModel", name := "change", desc := "(II)I" } : Jvm.MethodName)) := ex_tt ex_q8 216 rfl rfl
theorem tw_1897 : ex_tW (Jvm.Cond.selects "CallerhallModel" ({ cls := "CallerhallModel", name := "change", desc := "(II)I" } : Jvm.MethodName) ({ cls := "CallerhallModel", name := "change", desc := "(II)I" } : Jvm.MethodName)) := ex_tt ex_q8 217 rfl rfl
theorem tw_1898 : ex_tW (Jvm.Cond.code ({ cls := "CallerhallModel", name := "change", desc := "(II)I" } : Jvm.MethodName) prog_14_method_21_code (6 : Nat) (Option.some Jvm.ClassFile.FieldType.int)) := ex_tt ex_q8 218 rfl rfl
theorem tw_1899 : ex_tW (Jvm.Cond.methodLink "CallerhallModel" (159 : Nat) ({ cls := "java/lang/Math", name := "abs", desc := "(I)I" } : Jvm.MethodName)) := ex_tt ex_q8 219 rfl rfl
theorem tw_1900 : ex_tW (Jvm.Cond.methodLink "CallerhallLaw" (179 : Nat) ({ cls := "CallerhallModel", name := "turnAll", desc := "(I)I" } : Jvm.MethodName)) := ex_tt ex_q8 220 rfl rfl
theorem tw_1901 : ex_tW (Jvm.Cond.instanceMethod ({ cls := "CallerhallModel", name := "turnAll", desc := "(I)I" } : Jvm.MethodName)) := ex_tt ex_q8 221 rfl rfl
theorem tw_1902 : ex_tW (Jvm.Cond.selects "CallerhallModel" ({ cls := "CallerhallModel", name := "turnAll", desc := "(I)I" } : Jvm.MethodName) ({ cls := "CallerhallModel", name := "turnAll", desc := "(I)I" } : Jvm.MethodName)) := ex_tt ex_q8 222 rfl rfl
theorem tw_1903 : ex_tW (Jvm.Cond.code ({ cls := "CallerhallModel", name := "turnAll", desc := "(I)I" } : Jvm.MethodName) prog_14_method_22_code (2 : Nat) (Option.some Jvm.ClassFile.FieldType.int)) := ex_tt ex_q8 223 rfl rfl
theorem tw_1904 : ex_tW (Jvm.Cond.methodLink "CallerhallModel" (118 : Nat) ({ cls := "CallerhallModel", name := "turn", desc := "([II)[I" } : Jvm.MethodName)) := ex_tt ex_q8 224 rfl rfl
theorem tw_1905 : ex_tW (Jvm.Cond.static ({ cls := "CallerhallModel", name := "turn", desc := "([II)[I" } : Jvm.MethodName)) := ex_tt ex_q8 225 rfl rfl
theorem tw_1906 : ex_tW (Jvm.Cond.code ({ cls := "CallerhallModel", name := "turn", desc := "([II)[I" } : Jvm.MethodName) prog_14_method_10_code (6 : Nat) (Option.some (Jvm.ClassFile.FieldType.array Jvm.ClassFile.FieldType.int))) := ex_tt ex_q8 226 rfl rfl
theorem tw_1907 : ex_tW (Jvm.Cond.methodLink "CallerhallModel" (113 : Nat) ({ cls := "[I", name := "clone", desc := "()Ljava/lang/Object;" } : Jvm.MethodName)) := ex_tt ex_q8 227 rfl rfl
theorem tw_1908 : ex_tW (Jvm.Cond.sameMethod "[I" "java/lang/Object" "clone" "()Ljava/lang/Object;") := ex_tt ex_q8 228 rfl rfl
theorem tw_1909 : ex_tW (Jvm.Cond.native ({ cls := "java/lang/Object", name := "clone", desc := "()Ljava/lang/Object;" } : Jvm.MethodName)) := ex_tt ex_q8 229 rfl rfl
theorem tw_1910 : ex_tW (Jvm.Cond.instanceMethod ({ cls := "java/lang/Object", name := "clone", desc := "()Ljava/lang/Object;" } : Jvm.MethodName)) := ex_tt ex_q8 230 rfl rfl
theorem tw_1911 : ex_tW (Jvm.Cond.selects "[I" ({ cls := "[I", name := "clone", desc := "()Ljava/lang/Object;" } : Jvm.MethodName) ({ cls := "java/lang/Object", name := "clone", desc := "()Ljava/lang/Object;" } : Jvm.MethodName)) := ex_tt ex_q8 231 rfl rfl
theorem tw_1912 : (Jvm.Cond.castable "[I" "java/lang/Cloneable") ∈ ex_TN := ex_twn ex_q8 232 rfl rfl
theorem tw_1913 : ex_tW (Jvm.Cond.classLink "CallerhallModel" (114 : Nat) "[I") := ex_tt ex_q8 233 rfl rfl
theorem tw_1914 : ex_tW (Jvm.Cond.methodLink "CallerhallLaw" (182 : Nat) ({ cls := "CallerhallModel", name := "find", desc := "(II)I" } : Jvm.MethodName)) := ex_tt ex_q8 234 rfl rfl
theorem tw_1915 : ex_tW (Jvm.Cond.instanceMethod ({ cls := "CallerhallModel", name := "find", desc := "(II)I" } : Jvm.MethodName)) := ex_tt ex_q8 235 rfl rfl
theorem tw_1916 : ex_tW (Jvm.Cond.selects "CallerhallModel" ({ cls := "CallerhallModel", name := "find", desc := "(II)I" } : Jvm.MethodName) ({ cls := "CallerhallModel", name := "find", desc := "(II)I" } : Jvm.MethodName)) := ex_tt ex_q8 236 rfl rfl
theorem tw_1917 : ex_tW (Jvm.Cond.code ({ cls := "CallerhallModel", name := "find", desc := "(II)I" } : Jvm.MethodName) prog_14_method_23_code (4 : Nat) (Option.some Jvm.ClassFile.FieldType.int)) := ex_tt ex_q8 237 rfl rfl
theorem tw_1918 : ex_tW (Jvm.Cond.methodLink "CallerhallLaw" (185 : Nat) ({ cls := "CallerhallModel", name := "skill", desc := "(II)I" } : Jvm.MethodName)) := ex_tt ex_q8 238 rfl rfl
theorem tw_1919 : ex_tW (Jvm.Cond.instanceMethod ({ cls := "CallerhallModel", name := "skill", desc := "(II)I" } : Jvm.MethodName)) := ex_tt ex_q8 239 rfl rfl
theorem tw_1920 : ex_tW (Jvm.Cond.selects "CallerhallModel" ({ cls := "CallerhallModel", name := "skill", desc := "(II)I" } : Jvm.MethodName) ({ cls := "CallerhallModel", name := "skill", desc := "(II)I" } : Jvm.MethodName)) := ex_tt ex_q9 0 rfl rfl
theorem tw_1921 : ex_tW (Jvm.Cond.code ({ cls := "CallerhallModel", name := "skill", desc := "(II)I" } : Jvm.MethodName) prog_14_method_24_code (4 : Nat) (Option.some Jvm.ClassFile.FieldType.int)) := ex_tt ex_q9 1 rfl rfl
theorem tw_1922 : ex_tW (Jvm.Cond.methodLink "CallerhallLaw" (189 : Nat) ({ cls := "CallerhallModel", name := "phantom", desc := "(III)I" } : Jvm.MethodName)) := ex_tt ex_q9 2 rfl rfl
theorem tw_1923 : ex_tW (Jvm.Cond.instanceMethod ({ cls := "CallerhallModel", name := "phantom", desc := "(III)I" } : Jvm.MethodName)) := ex_tt ex_q9 3 rfl rfl
theorem tw_1924 : ex_tW (Jvm.Cond.selects "CallerhallModel" ({ cls := "CallerhallModel", name := "phantom", desc := "(III)I" } : Jvm.MethodName) ({ cls := "CallerhallModel", name := "phantom", desc := "(III)I" } : Jvm.MethodName)) := ex_tt ex_q9 4 rfl rfl
theorem tw_1925 : ex_tW (Jvm.Cond.code ({ cls := "CallerhallModel", name := "phantom", desc := "(III)I" } : Jvm.MethodName) prog_14_method_25_code (7 : Nat) (Option.some Jvm.ClassFile.FieldType.int)) := ex_tt ex_q9 5 rfl rfl
theorem tw_1927 : ex_tW (Jvm.Cond.methodLink "CallerhallModel" (165 : Nat) ({ cls := "java/util/List", name := "iterator", desc := "()Ljava/util/Iterator;" } : Jvm.MethodName)) := ex_tt ex_q9 7 rfl rfl
theorem tw_1930 : ex_tW (Jvm.Cond.selects "java/util/ArrayList" ({ cls := "java/util/List", name := "iterator", desc := "()Ljava/util/Iterator;" } : Jvm.MethodName) ({ cls := "java/util/ArrayList", name := "iterator", desc := "()Ljava/util/Iterator;" } : Jvm.MethodName)) := ex_tt ex_q9 10 rfl rfl
theorem tw_1932 : ex_tW (Jvm.Cond.instanceMethod ({ cls := "java/util/ArrayList", name := "iterator", desc := "()Ljava/util/Iterator;" } : Jvm.MethodName)) := ex_tt ex_q9 12 rfl rfl
theorem tw_1934 : ex_tW (Jvm.Cond.code ({ cls := "java/util/ArrayList", name := "iterator", desc := "()Ljava/util/Iterator;" } : Jvm.MethodName) prog_43_method_55_code (1 : Nat) (Option.some (Jvm.ClassFile.FieldType.object "java/util/Iterator"))) := ex_tt ex_q9 14 rfl rfl
theorem tw_1935 : ex_tW (Jvm.Cond.classLink "java/util/ArrayList" (267 : Nat) "java/util/ArrayList$Itr") := ex_tt ex_q9 15 rfl rfl
theorem tw_1936 : ex_tW (Jvm.Cond.instantiable "java/util/ArrayList$Itr" (4 : Nat)) := ex_tt ex_q9 16 rfl rfl
theorem tw_1937 : ex_tW (Jvm.Cond.methodLink "java/util/ArrayList" (269 : Nat) ({ cls := "java/util/ArrayList$Itr", name := "<init>", desc := "(Ljava/util/ArrayList;)V" } : Jvm.MethodName)) := ex_tt ex_q9 17 rfl rfl
theorem tw_1938 : ex_tW (Jvm.Cond.instanceMethod ({ cls := "java/util/ArrayList$Itr", name := "<init>", desc := "(Ljava/util/ArrayList;)V" } : Jvm.MethodName)) := ex_tt ex_q9 18 rfl rfl
theorem tw_1939 : ex_tW (Jvm.Cond.code ({ cls := "java/util/ArrayList$Itr", name := "<init>", desc := "(Ljava/util/ArrayList;)V" } : Jvm.MethodName) prog_44_method_1_code (2 : Nat) (Option.none : Option Jvm.ClassFile.FieldType)) := ex_tt ex_q9 19 rfl rfl
theorem tw_1940 : ex_tW (Jvm.Cond.methodLink "java/util/ArrayList$Itr" (7 : Nat) ({ cls := "java/lang/Object", name := "<init>", desc := "()V" } : Jvm.MethodName)) := ex_tt ex_q9 20 rfl rfl
theorem tw_1941 : ex_tW (Jvm.Cond.fieldLink "java/util/ArrayList$Itr" (25 : Nat) "java/util/ArrayList$Itr" "cursor" "I") := ex_tt ex_q9 21 rfl rfl
theorem tw_1942 : ex_tW (Jvm.Cond.fieldLink "java/util/ArrayList$Itr" (13 : Nat) "java/util/ArrayList$Itr" "lastRet" "I") := ex_tt ex_q9 22 rfl rfl
theorem tw_1943 : ex_tW (Jvm.Cond.fieldLink "java/util/ArrayList$Itr" (22 : Nat) "java/util/ArrayList$Itr" "expectedModCount" "I") := ex_tt ex_q9 23 rfl rfl
theorem tw_1944 : ex_tW (Jvm.Cond.fieldLink "java/util/ArrayList$Itr" (1 : Nat) "java/util/ArrayList$Itr" "this$0" "Ljava/util/ArrayList;") := ex_tt ex_q9 24 rfl rfl
theorem tw_1955 : ex_tW (Jvm.Cond.methodLink "CallerhallModel" (169 : Nat) ({ cls := "java/util/Iterator", name := "hasNext", desc := "()Z" } : Jvm.MethodName)) := ex_tt ex_q9 35 rfl rfl
theorem tw_1959 : ex_tW (Jvm.Cond.selects "java/util/ArrayList$Itr" ({ cls := "java/util/Iterator", name := "hasNext", desc := "()Z" } : Jvm.MethodName) ({ cls := "java/util/ArrayList$Itr", name := "hasNext", desc := "()Z" } : Jvm.MethodName)) := ex_tt ex_q9 39 rfl rfl
theorem tw_1961 : ex_tW (Jvm.Cond.instanceMethod ({ cls := "java/util/ArrayList$Itr", name := "hasNext", desc := "()Z" } : Jvm.MethodName)) := ex_tt ex_q9 41 rfl rfl
theorem tw_1963 : ex_tW (Jvm.Cond.code ({ cls := "java/util/ArrayList$Itr", name := "hasNext", desc := "()Z" } : Jvm.MethodName) prog_44_method_2_code (1 : Nat) (Option.some Jvm.ClassFile.FieldType.boolean)) := ex_tt ex_q9 43 rfl rfl
theorem tw_1965 : ex_tW (Jvm.Cond.methodLink "CallerhallModel" (175 : Nat) ({ cls := "java/util/Iterator", name := "next", desc := "()Ljava/lang/Object;" } : Jvm.MethodName)) := ex_tt ex_q9 45 rfl rfl
theorem tw_1968 : ex_tW (Jvm.Cond.selects "java/util/ArrayList$Itr" ({ cls := "java/util/Iterator", name := "next", desc := "()Ljava/lang/Object;" } : Jvm.MethodName) ({ cls := "java/util/ArrayList$Itr", name := "next", desc := "()Ljava/lang/Object;" } : Jvm.MethodName)) := ex_tt ex_q9 48 rfl rfl
theorem tw_1970 : ex_tW (Jvm.Cond.instanceMethod ({ cls := "java/util/ArrayList$Itr", name := "next", desc := "()Ljava/lang/Object;" } : Jvm.MethodName)) := ex_tt ex_q9 50 rfl rfl
theorem tw_1972 : ex_tW (Jvm.Cond.code ({ cls := "java/util/ArrayList$Itr", name := "next", desc := "()Ljava/lang/Object;" } : Jvm.MethodName) prog_44_method_3_code (3 : Nat) (Option.some (Jvm.ClassFile.FieldType.object "java/lang/Object"))) := ex_tt ex_q9 52 rfl rfl
theorem tw_1973 : ex_tW (Jvm.Cond.methodLink "java/util/ArrayList$Itr" (31 : Nat) ({ cls := "java/util/ArrayList$Itr", name := "checkForComodification", desc := "()V" } : Jvm.MethodName)) := ex_tt ex_q9 53 rfl rfl
theorem tw_1974 : ex_tW (Jvm.Cond.instanceMethod ({ cls := "java/util/ArrayList$Itr", name := "checkForComodification", desc := "()V" } : Jvm.MethodName)) := ex_tt ex_q9 54 rfl rfl
theorem tw_1975 : ex_tW (Jvm.Cond.selects "java/util/ArrayList$Itr" ({ cls := "java/util/ArrayList$Itr", name := "checkForComodification", desc := "()V" } : Jvm.MethodName) ({ cls := "java/util/ArrayList$Itr", name := "checkForComodification", desc := "()V" } : Jvm.MethodName)) := ex_tt ex_q9 55 rfl rfl
theorem tw_1976 : ex_tW (Jvm.Cond.code ({ cls := "java/util/ArrayList$Itr", name := "checkForComodification", desc := "()V" } : Jvm.MethodName) prog_44_method_6_code (1 : Nat) (Option.none : Option Jvm.ClassFile.FieldType)) := ex_tt ex_q9 56 rfl rfl
theorem tw_1977 : ex_tW (Jvm.Cond.classLink "java/util/ArrayList$Itr" (34 : Nat) "java/util/NoSuchElementException") := ex_tt ex_q9 57 rfl rfl
theorem tw_1980 : ex_tW (Jvm.Cond.methodLink "CallerhallModel" (178 : Nat) ({ cls := "java/util/List", name := "size", desc := "()I" } : Jvm.MethodName)) := ex_tt ex_q9 60 rfl rfl
theorem tw_1983 : ex_tW (Jvm.Cond.selects "java/util/ArrayList" ({ cls := "java/util/List", name := "size", desc := "()I" } : Jvm.MethodName) ({ cls := "java/util/ArrayList", name := "size", desc := "()I" } : Jvm.MethodName)) := ex_tt ex_q9 63 rfl rfl
theorem tw_1985 : ex_tW (Jvm.Cond.instanceMethod ({ cls := "java/util/ArrayList", name := "size", desc := "()I" } : Jvm.MethodName)) := ex_tt ex_q9 65 rfl rfl
theorem tw_1987 : ex_tW (Jvm.Cond.code ({ cls := "java/util/ArrayList", name := "size", desc := "()I" } : Jvm.MethodName) prog_43_method_8_code (1 : Nat) (Option.some Jvm.ClassFile.FieldType.int)) := ex_tt ex_q9 67 rfl rfl
theorem tw_1988 : ex_tW (Jvm.Cond.methodLink "CallerhallLaw" (193 : Nat) ({ cls := "CallerhallModel", name := "clearPhantoms", desc := "()I" } : Jvm.MethodName)) := ex_tt ex_q9 68 rfl rfl
theorem tw_1989 : ex_tW (Jvm.Cond.instanceMethod ({ cls := "CallerhallModel", name := "clearPhantoms", desc := "()I" } : Jvm.MethodName)) := ex_tt ex_q9 69 rfl rfl
theorem tw_1990 : ex_tW (Jvm.Cond.selects "CallerhallModel" ({ cls := "CallerhallModel", name := "clearPhantoms", desc := "()I" } : Jvm.MethodName) ({ cls := "CallerhallModel", name := "clearPhantoms", desc := "()I" } : Jvm.MethodName)) := ex_tt ex_q9 70 rfl rfl
theorem tw_1991 : ex_tW (Jvm.Cond.code ({ cls := "CallerhallModel", name := "clearPhantoms", desc := "()I" } : Jvm.MethodName) prog_14_method_26_code (2 : Nat) (Option.some Jvm.ClassFile.FieldType.int)) := ex_tt ex_q9 71 rfl rfl
theorem tw_1992 : ex_tW (Jvm.Cond.methodLink "CallerhallLaw" (196 : Nat) ({ cls := "CallerhallModel", name := "level", desc := "(I)I" } : Jvm.MethodName)) := ex_tt ex_q9 72 rfl rfl
theorem tw_1993 : ex_tW (Jvm.Cond.instanceMethod ({ cls := "CallerhallModel", name := "level", desc := "(I)I" } : Jvm.MethodName)) := ex_tt ex_q9 73 rfl rfl
theorem tw_1994 : ex_tW (Jvm.Cond.selects "CallerhallModel" ({ cls := "CallerhallModel", name := "level", desc := "(I)I" } : Jvm.MethodName) ({ cls := "CallerhallModel", name := "level", desc := "(I)I" } : Jvm.MethodName)) := ex_tt ex_q9 74 rfl rfl
theorem tw_1995 : ex_tW (Jvm.Cond.code ({ cls := "CallerhallModel", name := "level", desc := "(I)I" } : Jvm.MethodName) prog_14_method_27_code (3 : Nat) (Option.some Jvm.ClassFile.FieldType.int)) := ex_tt ex_q9 75 rfl rfl
theorem tw_1996 : ex_tW (Jvm.Cond.methodLink "CallerhallLaw" (199 : Nat) ({ cls := "CallerhallModel", name := "year", desc := "(I)I" } : Jvm.MethodName)) := ex_tt ex_q9 76 rfl rfl
theorem tw_1997 : ex_tW (Jvm.Cond.instanceMethod ({ cls := "CallerhallModel", name := "year", desc := "(I)I" } : Jvm.MethodName)) := ex_tt ex_q9 77 rfl rfl
theorem tw_1998 : ex_tW (Jvm.Cond.selects "CallerhallModel" ({ cls := "CallerhallModel", name := "year", desc := "(I)I" } : Jvm.MethodName) ({ cls := "CallerhallModel", name := "year", desc := "(I)I" } : Jvm.MethodName)) := ex_tt ex_q9 78 rfl rfl
theorem tw_1999 : ex_tW (Jvm.Cond.code ({ cls := "CallerhallModel", name := "year", desc := "(I)I" } : Jvm.MethodName) prog_14_method_28_code (3 : Nat) (Option.some Jvm.ClassFile.FieldType.int)) := ex_tt ex_q9 79 rfl rfl
theorem tw_2000 : ex_tW (Jvm.Cond.constantLong "CallerhallModel" (182 : Nat) (1900 : Int64)) := ex_tt ex_q9 80 rfl rfl
theorem tw_2001 : ex_tW (Jvm.Cond.constantLong "CallerhallModel" (184 : Nat) (2100 : Int64)) := ex_tt ex_q9 81 rfl rfl
theorem tw_2002 : ex_tW (Jvm.Cond.methodLink "CallerhallLaw" (203 : Nat) ({ cls := "CallerhallModel", name := "define", desc := "(CICCC)I" } : Jvm.MethodName)) := ex_tt ex_q9 82 rfl rfl
theorem tw_2003 : ex_tW (Jvm.Cond.instanceMethod ({ cls := "CallerhallModel", name := "define", desc := "(CICCC)I" } : Jvm.MethodName)) := ex_tt ex_q9 83 rfl rfl
theorem tw_2004 : ex_tW (Jvm.Cond.selects "CallerhallModel" ({ cls := "CallerhallModel", name := "define", desc := "(CICCC)I" } : Jvm.MethodName) ({ cls := "CallerhallModel", name := "define", desc := "(CICCC)I" } : Jvm.MethodName)) := ex_tt ex_q9 84 rfl rfl
theorem tw_2005 : ex_tW (Jvm.Cond.code ({ cls := "CallerhallModel", name := "define", desc := "(CICCC)I" } : Jvm.MethodName) prog_14_method_32_code (7 : Nat) (Option.some Jvm.ClassFile.FieldType.int)) := ex_tt ex_q9 85 rfl rfl
theorem tw_2006 : ex_tW (Jvm.Cond.methodLink "CallerhallModel" (204 : Nat) ({ cls := "CallerhallModel", name := "isLetter", desc := "(C)Z" } : Jvm.MethodName)) := ex_tt ex_q9 86 rfl rfl
theorem tw_2007 : ex_tW (Jvm.Cond.static ({ cls := "CallerhallModel", name := "isLetter", desc := "(C)Z" } : Jvm.MethodName)) := ex_tt ex_q9 87 rfl rfl
theorem tw_2008 : ex_tW (Jvm.Cond.code ({ cls := "CallerhallModel", name := "isLetter", desc := "(C)Z" } : Jvm.MethodName) prog_14_method_29_code (1 : Nat) (Option.some Jvm.ClassFile.FieldType.boolean)) := ex_tt ex_q9 88 rfl rfl
theorem tw_2009 : ex_tW (Jvm.Cond.methodLink "CallerhallModel" (208 : Nat) ({ cls := "CallerhallModel", name := "isAct", desc := "(CCC)Z" } : Jvm.MethodName)) := ex_tt ex_q9 89 rfl rfl
theorem tw_2010 : ex_tW (Jvm.Cond.static ({ cls := "CallerhallModel", name := "isAct", desc := "(CCC)Z" } : Jvm.MethodName)) := ex_tt ex_q9 90 rfl rfl
theorem tw_2011 : ex_tW (Jvm.Cond.code ({ cls := "CallerhallModel", name := "isAct", desc := "(CCC)Z" } : Jvm.MethodName) prog_14_method_31_code (3 : Nat) (Option.some Jvm.ClassFile.FieldType.boolean)) := ex_tt ex_q9 91 rfl rfl
theorem tw_2013 : ex_tW (Jvm.Cond.methodLink "CallerhallModel" (195 : Nat) ({ cls := "java/lang/String", name := "indexOf", desc := "(I)I" } : Jvm.MethodName)) := ex_tt ex_q9 93 rfl rfl
theorem tw_2016 : ex_tW (Jvm.Cond.methodLink "CallerhallModel" (212 : Nat) ({ cls := "CallerhallModel", name := "of", desc := "(CI)LCallerhallModel$Version;" } : Jvm.MethodName)) := ex_tt ex_q9 96 rfl rfl
theorem tw_2018 : ex_tW (Jvm.Cond.instanceMethod ({ cls := "CallerhallModel", name := "of", desc := "(CI)LCallerhallModel$Version;" } : Jvm.MethodName)) := ex_tt ex_q9 98 rfl rfl
theorem tw_2019 : ex_tW (Jvm.Cond.code ({ cls := "CallerhallModel", name := "of", desc := "(CI)LCallerhallModel$Version;" } : Jvm.MethodName) prog_14_method_30_code (5 : Nat) (Option.some (Jvm.ClassFile.FieldType.object "CallerhallModel$Version"))) := ex_tt ex_q9 99 rfl rfl
theorem tw_2021 : ex_tW (Jvm.Cond.methodLink "CallerhallModel" (186 : Nat) ({ cls := "java/util/List", name := "get", desc := "(I)Ljava/lang/Object;" } : Jvm.MethodName)) := ex_tt ex_q9 101 rfl rfl
theorem tw_2024 : ex_tW (Jvm.Cond.selects "java/util/ArrayList" ({ cls := "java/util/List", name := "get", desc := "(I)Ljava/lang/Object;" } : Jvm.MethodName) ({ cls := "java/util/ArrayList", name := "get", desc := "(I)Ljava/lang/Object;" } : Jvm.MethodName)) := ex_tt ex_q9 104 rfl rfl
theorem tw_2026 : ex_tW (Jvm.Cond.instanceMethod ({ cls := "java/util/ArrayList", name := "get", desc := "(I)Ljava/lang/Object;" } : Jvm.MethodName)) := ex_tt ex_q9 106 rfl rfl
theorem tw_2028 : ex_tW (Jvm.Cond.code ({ cls := "java/util/ArrayList", name := "get", desc := "(I)Ljava/lang/Object;" } : Jvm.MethodName) prog_43_method_20_code (2 : Nat) (Option.some (Jvm.ClassFile.FieldType.object "java/lang/Object"))) := ex_tt ex_q9 108 rfl rfl
theorem tw_2029 : ex_tW (Jvm.Cond.methodLink "java/util/ArrayList" (118 : Nat) ({ cls := "java/util/Objects", name := "checkIndex", desc := "(II)I" } : Jvm.MethodName)) := ex_tt ex_q9 109 rfl rfl
theorem tw_2030 : ex_tW (Jvm.Cond.static ({ cls := "java/util/Objects", name := "checkIndex", desc := "(II)I" } : Jvm.MethodName)) := ex_tt ex_q9 110 rfl rfl
theorem tw_2031 : ex_tW (Jvm.Cond.code ({ cls := "java/util/Objects", name := "checkIndex", desc := "(II)I" } : Jvm.MethodName) prog_50_method_17_code (2 : Nat) (Option.some Jvm.ClassFile.FieldType.int)) := ex_tt ex_q9 111 rfl rfl
theorem tw_2032 : ex_tW (Jvm.Cond.methodLink "java/util/Objects" (105 : Nat) ({ cls := "jdk/internal/util/Preconditions", name := "checkIndex", desc := "(IILjava/util/function/BiFunction;)I" } : Jvm.MethodName)) := ex_tt ex_q9 112 rfl rfl
theorem tw_2033 : ex_tW (Jvm.Cond.methodLink "java/util/ArrayList" (123 : Nat) ({ cls := "java/util/ArrayList", name := "elementData", desc := "(I)Ljava/lang/Object;" } : Jvm.MethodName)) := ex_tt ex_q9 113 rfl rfl
theorem tw_2034 : ex_tW (Jvm.Cond.instanceMethod ({ cls := "java/util/ArrayList", name := "elementData", desc := "(I)Ljava/lang/Object;" } : Jvm.MethodName)) := ex_tt ex_q9 114 rfl rfl
theorem tw_2035 : ex_tW (Jvm.Cond.selects "java/util/ArrayList" ({ cls := "java/util/ArrayList", name := "elementData", desc := "(I)Ljava/lang/Object;" } : Jvm.MethodName) ({ cls := "java/util/ArrayList", name := "elementData", desc := "(I)Ljava/lang/Object;" } : Jvm.MethodName)) := ex_tt ex_q9 115 rfl rfl
theorem tw_2036 : ex_tW (Jvm.Cond.code ({ cls := "java/util/ArrayList", name := "elementData", desc := "(I)Ljava/lang/Object;" } : Jvm.MethodName) prog_43_method_18_code (2 : Nat) (Option.some (Jvm.ClassFile.FieldType.object "java/lang/Object"))) := ex_tt ex_q9 116 rfl rfl
theorem tw_2037 : ex_tW (Jvm.Cond.classLink "CallerhallModel" (84 : Nat) "java/util/List") := ex_tt ex_q9 117 rfl rfl
theorem tw_2038 : ex_tW (Jvm.Cond.classLink "CallerhallModel" (190 : Nat) "CallerhallModel$Version") := ex_tt ex_q9 118 rfl rfl
theorem tw_2039 : ex_tW (Jvm.Cond.instantiable "CallerhallModel$Version" (3 : Nat)) := ex_tt ex_q9 119 rfl rfl
theorem tw_2040 : ex_tW (Jvm.Cond.methodLink "CallerhallModel" (219 : Nat) ({ cls := "CallerhallModel$Version", name := "<init>", desc := "(I)V" } : Jvm.MethodName)) := ex_tt ex_q9 120 rfl rfl
theorem tw_2041 : ex_tW (Jvm.Cond.instanceMethod ({ cls := "CallerhallModel$Version", name := "<init>", desc := "(I)V" } : Jvm.MethodName)) := ex_tt ex_q9 121 rfl rfl
theorem tw_2042 : ex_tW (Jvm.Cond.code ({ cls := "CallerhallModel$Version", name := "<init>", desc := "(I)V" } : Jvm.MethodName) prog_17_method_1_code (2 : Nat) (Option.none : Option Jvm.ClassFile.FieldType)) := ex_tt ex_q9 122 rfl rfl
theorem tw_2043 : ex_tW (Jvm.Cond.methodLink "CallerhallModel$Version" (1 : Nat) ({ cls := "java/lang/Object", name := "<init>", desc := "()V" } : Jvm.MethodName)) := ex_tt ex_q9 123 rfl rfl
theorem tw_2044 : ex_tW (Jvm.Cond.classLink "CallerhallModel$Version" (7 : Nat) "java/util/ArrayList") := ex_tt ex_q9 124 rfl rfl
theorem tw_2045 : ex_tW (Jvm.Cond.methodLink "CallerhallModel$Version" (9 : Nat) ({ cls := "java/util/ArrayList", name := "<init>", desc := "()V" } : Jvm.MethodName)) := ex_tt ex_q9 125 rfl rfl
theorem tw_2046 : ex_tW (Jvm.Cond.fieldLink "CallerhallModel$Version" (20 : Nat) "CallerhallModel$Version" "year" "I") := ex_tt ex_q9 126 rfl rfl
theorem tw_2047 : ex_tW (Jvm.Cond.fieldLink "CallerhallModel" (192 : Nat) "CallerhallModel$Version" "year" "I") := ex_tt ex_q9 127 rfl rfl
theorem tw_2048 : ex_tW (Jvm.Cond.fieldLink "CallerhallModel$Version" (10 : Nat) "CallerhallModel$Version" "acts" "Ljava/util/List;") := ex_tt ex_q9 128 rfl rfl
theorem tw_2049 : ex_tW (Jvm.Cond.fieldLink "CallerhallModel" (216 : Nat) "CallerhallModel$Version" "acts" "Ljava/util/List;") := ex_tt ex_q9 129 rfl rfl
theorem tw_2050 : ex_tW (Jvm.Cond.fieldLink "CallerhallModel$Version" (16 : Nat) "CallerhallModel$Version" "beats" "I") := ex_tt ex_q9 130 rfl rfl
theorem tw_2051 : ex_tW (Jvm.Cond.fieldLink "CallerhallModel" (227 : Nat) "CallerhallModel$Version" "beats" "I") := ex_tt ex_q9 131 rfl rfl
theorem tw_2059 : ex_tW (Jvm.Cond.methodLink "CallerhallLaw" (207 : Nat) ({ cls := "CallerhallModel", name := "forget", desc := "(C)I" } : Jvm.MethodName)) := ex_tt ex_q9 139 rfl rfl
theorem tw_2060 : ex_tW (Jvm.Cond.instanceMethod ({ cls := "CallerhallModel", name := "forget", desc := "(C)I" } : Jvm.MethodName)) := ex_tt ex_q9 140 rfl rfl
theorem tw_2061 : ex_tW (Jvm.Cond.selects "CallerhallModel" ({ cls := "CallerhallModel", name := "forget", desc := "(C)I" } : Jvm.MethodName) ({ cls := "CallerhallModel", name := "forget", desc := "(C)I" } : Jvm.MethodName)) := ex_tt ex_q9 141 rfl rfl
theorem tw_2062 : ex_tW (Jvm.Cond.code ({ cls := "CallerhallModel", name := "forget", desc := "(C)I" } : Jvm.MethodName) prog_14_method_33_code (3 : Nat) (Option.some Jvm.ClassFile.FieldType.int)) := ex_tt ex_q9 142 rfl rfl
theorem tw_2063 : ex_tW (Jvm.Cond.methodLink "CallerhallLaw" (211 : Nat) ({ cls := "CallerhallModel", name := "timing", desc := "(CII)I" } : Jvm.MethodName)) := ex_tt ex_q9 143 rfl rfl
theorem tw_2064 : ex_tW (Jvm.Cond.instanceMethod ({ cls := "CallerhallModel", name := "timing", desc := "(CII)I" } : Jvm.MethodName)) := ex_tt ex_q9 144 rfl rfl
theorem tw_2065 : ex_tW (Jvm.Cond.selects "CallerhallModel" ({ cls := "CallerhallModel", name := "timing", desc := "(CII)I" } : Jvm.MethodName) ({ cls := "CallerhallModel", name := "timing", desc := "(CII)I" } : Jvm.MethodName)) := ex_tt ex_q9 145 rfl rfl
theorem tw_2066 : ex_tW (Jvm.Cond.code ({ cls := "CallerhallModel", name := "timing", desc := "(CII)I" } : Jvm.MethodName) prog_14_method_36_code (6 : Nat) (Option.some Jvm.ClassFile.FieldType.int)) := ex_tt ex_q9 146 rfl rfl
theorem tw_2067 : ex_tW (Jvm.Cond.constantLong "CallerhallModel" (234 : Nat) (99 : Int64)) := ex_tt ex_q9 147 rfl rfl
theorem tw_2068 : ex_tW (Jvm.Cond.methodLink "CallerhallModel" (236 : Nat) ({ cls := "CallerhallModel", name := "beatsIn", desc := "(LCallerhallModel$Version;)I" } : Jvm.MethodName)) := ex_tt ex_q9 148 rfl rfl
theorem tw_2069 : ex_tW (Jvm.Cond.static ({ cls := "CallerhallModel", name := "beatsIn", desc := "(LCallerhallModel$Version;)I" } : Jvm.MethodName)) := ex_tt ex_q9 149 rfl rfl
theorem tw_2070 : ex_tW (Jvm.Cond.code ({ cls := "CallerhallModel", name := "beatsIn", desc := "(LCallerhallModel$Version;)I" } : Jvm.MethodName) prog_14_method_35_code (1 : Nat) (Option.some Jvm.ClassFile.FieldType.int)) := ex_tt ex_q9 150 rfl rfl
theorem tw_2071 : ex_tW (Jvm.Cond.methodLink "CallerhallModel" (230 : Nat) ({ cls := "CallerhallModel", name := "partsOf", desc := "(Ljava/util/List;)I" } : Jvm.MethodName)) := ex_tt ex_q9 151 rfl rfl
theorem tw_2072 : ex_tW (Jvm.Cond.static ({ cls := "CallerhallModel", name := "partsOf", desc := "(Ljava/util/List;)I" } : Jvm.MethodName)) := ex_tt ex_q9 152 rfl rfl
theorem tw_2073 : ex_tW (Jvm.Cond.code ({ cls := "CallerhallModel", name := "partsOf", desc := "(Ljava/util/List;)I" } : Jvm.MethodName) prog_14_method_34_code (4 : Nat) (Option.some Jvm.ClassFile.FieldType.int)) := ex_tt ex_q9 153 rfl rfl
theorem tw_2074 : ex_tW (Jvm.Cond.classLink "CallerhallModel" (222 : Nat) "[C") := ex_tt ex_q9 154 rfl rfl
theorem tw_2075 : ex_tW (Jvm.Cond.fieldLink "CallerhallModel" (224 : Nat) "CallerhallModel" "PARTS" "[I") := ex_tt ex_q9 155 rfl rfl
theorem tw_2077 : ex_tW (Jvm.Cond.methodLink "CallerhallLaw" (214 : Nat) ({ cls := "CallerhallModel", name := "parts", desc := "(C)I" } : Jvm.MethodName)) := ex_tt ex_q9 157 rfl rfl
theorem tw_2078 : ex_tW (Jvm.Cond.instanceMethod ({ cls := "CallerhallModel", name := "parts", desc := "(C)I" } : Jvm.MethodName)) := ex_tt ex_q9 158 rfl rfl
theorem tw_2079 : ex_tW (Jvm.Cond.selects "CallerhallModel" ({ cls := "CallerhallModel", name := "parts", desc := "(C)I" } : Jvm.MethodName) ({ cls := "CallerhallModel", name := "parts", desc := "(C)I" } : Jvm.MethodName)) := ex_tt ex_q9 159 rfl rfl
theorem tw_2080 : ex_tW (Jvm.Cond.code ({ cls := "CallerhallModel", name := "parts", desc := "(C)I" } : Jvm.MethodName) prog_14_method_40_code (2 : Nat) (Option.some Jvm.ClassFile.FieldType.int)) := ex_tt ex_q9 160 rfl rfl
theorem tw_2081 : ex_tW (Jvm.Cond.methodLink "CallerhallModel" (258 : Nat) ({ cls := "CallerhallModel", name := "noCall", desc := "(C)Z" } : Jvm.MethodName)) := ex_tt ex_q9 161 rfl rfl
theorem tw_2083 : ex_tW (Jvm.Cond.instanceMethod ({ cls := "CallerhallModel", name := "noCall", desc := "(C)Z" } : Jvm.MethodName)) := ex_tt ex_q9 163 rfl rfl
theorem tw_2084 : ex_tW (Jvm.Cond.code ({ cls := "CallerhallModel", name := "noCall", desc := "(C)Z" } : Jvm.MethodName) prog_14_method_39_code (2 : Nat) (Option.some Jvm.ClassFile.FieldType.boolean)) := ex_tt ex_q9 164 rfl rfl
theorem tw_2085 : ex_tW (Jvm.Cond.methodLink "CallerhallModel" (250 : Nat) ({ cls := "CallerhallModel", name := "holding", desc := "(C)LCallerhallModel$Version;" } : Jvm.MethodName)) := ex_tt ex_q9 165 rfl rfl
theorem tw_2087 : ex_tW (Jvm.Cond.instanceMethod ({ cls := "CallerhallModel", name := "holding", desc := "(C)LCallerhallModel$Version;" } : Jvm.MethodName)) := ex_tt ex_q9 167 rfl rfl
theorem tw_2088 : ex_tW (Jvm.Cond.code ({ cls := "CallerhallModel", name := "holding", desc := "(C)LCallerhallModel$Version;" } : Jvm.MethodName) prog_14_method_37_code (5 : Nat) (Option.some (Jvm.ClassFile.FieldType.object "CallerhallModel$Version"))) := ex_tt ex_q9 168 rfl rfl
theorem tw_2089 : ex_tW (Jvm.Cond.methodLink "CallerhallModel" (261 : Nat) ({ cls := "CallerhallModel", name := "callOf", desc := "(CCC)LCallerhallModel$Call;" } : Jvm.MethodName)) := ex_tt ex_q9 169 rfl rfl
theorem tw_2091 : ex_tW (Jvm.Cond.instanceMethod ({ cls := "CallerhallModel", name := "callOf", desc := "(CCC)LCallerhallModel$Call;" } : Jvm.MethodName)) := ex_tt ex_q9 171 rfl rfl
theorem tw_2092 : ex_tW (Jvm.Cond.code ({ cls := "CallerhallModel", name := "callOf", desc := "(CCC)LCallerhallModel$Call;" } : Jvm.MethodName) prog_14_method_38_code (6 : Nat) (Option.some (Jvm.ClassFile.FieldType.object "CallerhallModel$Call"))) := ex_tt ex_q9 172 rfl rfl
theorem tw_2093 : ex_tW (Jvm.Cond.classLink "CallerhallModel" (240 : Nat) "CallerhallModel$Call") := ex_tt ex_q9 173 rfl rfl
theorem tw_2094 : ex_tW (Jvm.Cond.instantiable "CallerhallModel$Call" (4 : Nat)) := ex_tt ex_q9 174 rfl rfl
theorem tw_2095 : ex_tW (Jvm.Cond.methodLink "CallerhallModel" (242 : Nat) ({ cls := "CallerhallModel$Call", name := "<init>", desc := "(CC)V" } : Jvm.MethodName)) := ex_tt ex_q9 175 rfl rfl
theorem tw_2096 : ex_tW (Jvm.Cond.instanceMethod ({ cls := "CallerhallModel$Call", name := "<init>", desc := "(CC)V" } : Jvm.MethodName)) := ex_tt ex_q9 176 rfl rfl
theorem tw_2097 : ex_tW (Jvm.Cond.code ({ cls := "CallerhallModel$Call", name := "<init>", desc := "(CC)V" } : Jvm.MethodName) prog_15_method_1_code (3 : Nat) (Option.none : Option Jvm.ClassFile.FieldType)) := ex_tt ex_q9 177 rfl rfl
theorem tw_2098 : ex_tW (Jvm.Cond.methodLink "CallerhallModel$Call" (3 : Nat) ({ cls := "java/lang/Object", name := "<init>", desc := "()V" } : Jvm.MethodName)) := ex_tt ex_q9 178 rfl rfl
theorem tw_2099 : ex_tW (Jvm.Cond.classLink "CallerhallModel$Call" (9 : Nat) "java/util/ArrayList") := ex_tt ex_q9 179 rfl rfl
theorem tw_2100 : ex_tW (Jvm.Cond.methodLink "CallerhallModel$Call" (11 : Nat) ({ cls := "java/util/ArrayList", name := "<init>", desc := "()V" } : Jvm.MethodName)) := ex_tt ex_q9 180 rfl rfl
theorem tw_2101 : ex_tW (Jvm.Cond.fieldLink "CallerhallModel$Call" (18 : Nat) "CallerhallModel$Call" "letter" "C") := ex_tt ex_q9 181 rfl rfl
theorem tw_2102 : ex_tW (Jvm.Cond.fieldLink "CallerhallModel$Call" (22 : Nat) "CallerhallModel$Call" "concept" "C") := ex_tt ex_q9 182 rfl rfl
theorem tw_2103 : ex_tW (Jvm.Cond.fieldLink "CallerhallModel" (434 : Nat) "CallerhallModel$Call" "concept" "C") := ex_tt ex_q9 183 rfl rfl
theorem tw_2104 : ex_tW (Jvm.Cond.fieldLink "CallerhallModel$Call" (12 : Nat) "CallerhallModel$Call" "acts" "Ljava/util/List;") := ex_tt ex_q9 184 rfl rfl
theorem tw_2105 : ex_tW (Jvm.Cond.fieldLink "CallerhallModel" (245 : Nat) "CallerhallModel$Call" "acts" "Ljava/util/List;") := ex_tt ex_q9 185 rfl rfl
theorem tw_2106 : ex_tW (Jvm.Cond.fieldLink "CallerhallModel" (249 : Nat) "CallerhallModel$Call" "beats" "I") := ex_tt ex_q9 186 rfl rfl
theorem tw_2116 : ex_tW (Jvm.Cond.methodLink "CallerhallModel" (246 : Nat) ({ cls := "CallerhallModel$Call", name := "parts", desc := "()I" } : Jvm.MethodName)) := ex_tt ex_q9 196 rfl rfl
theorem tw_2117 : ex_tW (Jvm.Cond.instanceMethod ({ cls := "CallerhallModel$Call", name := "parts", desc := "()I" } : Jvm.MethodName)) := ex_tt ex_q9 197 rfl rfl
theorem tw_2118 : ex_tW (Jvm.Cond.selects "CallerhallModel$Call" ({ cls := "CallerhallModel$Call", name := "parts", desc := "()I" } : Jvm.MethodName) ({ cls := "CallerhallModel$Call", name := "parts", desc := "()I" } : Jvm.MethodName)) := ex_tt ex_q9 198 rfl rfl
theorem tw_2119 : ex_tW (Jvm.Cond.code ({ cls := "CallerhallModel$Call", name := "parts", desc := "()I" } : Jvm.MethodName) prog_15_method_2_code (4 : Nat) (Option.some Jvm.ClassFile.FieldType.int)) := ex_tt ex_q9 199 rfl rfl
theorem tw_2121 : ex_tW (Jvm.Cond.methodLink "CallerhallModel$Call" (25 : Nat) ({ cls := "java/util/List", name := "iterator", desc := "()Ljava/util/Iterator;" } : Jvm.MethodName)) := ex_tt ex_q9 201 rfl rfl
theorem tw_2123 : ex_tW (Jvm.Cond.methodLink "CallerhallModel$Call" (31 : Nat) ({ cls := "java/util/Iterator", name := "hasNext", desc := "()Z" } : Jvm.MethodName)) := ex_tt ex_q9 203 rfl rfl
theorem tw_2125 : ex_tW (Jvm.Cond.methodLink "CallerhallModel$Call" (37 : Nat) ({ cls := "java/util/Iterator", name := "next", desc := "()Ljava/lang/Object;" } : Jvm.MethodName)) := ex_tt ex_q9 205 rfl rfl
theorem tw_2126 : ex_tW (Jvm.Cond.classLink "CallerhallModel$Call" (41 : Nat) "[C") := ex_tt ex_q9 206 rfl rfl
theorem tw_2127 : (Jvm.Cond.fieldLinkNest "CallerhallModel$Call" (43 : Nat) "CallerhallModel" "PARTS" "[I" "CallerhallModel") ∈ ex_TN := ex_twn ex_q9 207 rfl rfl
theorem tw_2129 : ex_tW (Jvm.Cond.methodLink "CallerhallModel$Call" (49 : Nat) ({ cls := "java/lang/String", name := "indexOf", desc := "(I)I" } : Jvm.MethodName)) := ex_tt ex_q9 209 rfl rfl
theorem tw_2131 : ex_tW (Jvm.Cond.methodLink "CallerhallModel" (254 : Nat) ({ cls := "java/util/List", name := "addAll", desc := "(Ljava/util/Collection;)Z" } : Jvm.MethodName)) := ex_tt ex_q9 211 rfl rfl
theorem tw_2134 : ex_tW (Jvm.Cond.selects "java/util/ArrayList" ({ cls := "java/util/List", name := "addAll", desc := "(Ljava/util/Collection;)Z" } : Jvm.MethodName) ({ cls := "java/util/ArrayList", name := "addAll", desc := "(Ljava/util/Collection;)Z" } : Jvm.MethodName)) := ex_tt ex_q9 214 rfl rfl
theorem tw_2136 : ex_tW (Jvm.Cond.instanceMethod ({ cls := "java/util/ArrayList", name := "addAll", desc := "(Ljava/util/Collection;)Z" } : Jvm.MethodName)) := ex_tt ex_q9 216 rfl rfl
theorem tw_2138 : ex_tW (Jvm.Cond.code ({ cls := "java/util/ArrayList", name := "addAll", desc := "(Ljava/util/Collection;)Z" } : Jvm.MethodName) prog_43_method_41_code (6 : Nat) (Option.some Jvm.ClassFile.FieldType.boolean)) := ex_tt ex_q9 218 rfl rfl
theorem tw_2150 : ex_tW (Jvm.Cond.methodLink "CallerhallLaw" (217 : Nat) ({ cls := "CallerhallModel", name := "beatsOf", desc := "(C)I" } : Jvm.MethodName)) := ex_tt ex_q9 230 rfl rfl
theorem tw_2151 : ex_tW (Jvm.Cond.instanceMethod ({ cls := "CallerhallModel", name := "beatsOf", desc := "(C)I" } : Jvm.MethodName)) := ex_tt ex_q9 231 rfl rfl
theorem tw_2152 : ex_tW (Jvm.Cond.selects "CallerhallModel" ({ cls := "CallerhallModel", name := "beatsOf", desc := "(C)I" } : Jvm.MethodName) ({ cls := "CallerhallModel", name := "beatsOf", desc := "(C)I" } : Jvm.MethodName)) := ex_tt ex_q9 232 rfl rfl
theorem tw_2153 : ex_tW (Jvm.Cond.code ({ cls := "CallerhallModel", name := "beatsOf", desc := "(C)I" } : Jvm.MethodName) prog_14_method_41_code (2 : Nat) (Option.some Jvm.ClassFile.FieldType.int)) := ex_tt ex_q9 233 rfl rfl
theorem tw_2154 : ex_tW (Jvm.Cond.methodLink "CallerhallLaw" (220 : Nat) ({ cls := "CallerhallModel", name := "levelOf", desc := "(C)I" } : Jvm.MethodName)) := ex_tt ex_q9 234 rfl rfl
theorem tw_2155 : ex_tW (Jvm.Cond.instanceMethod ({ cls := "CallerhallModel", name := "levelOf", desc := "(C)I" } : Jvm.MethodName)) := ex_tt ex_q9 235 rfl rfl
theorem tw_2156 : ex_tW (Jvm.Cond.selects "CallerhallModel" ({ cls := "CallerhallModel", name := "levelOf", desc := "(C)I" } : Jvm.MethodName) ({ cls := "CallerhallModel", name := "levelOf", desc := "(C)I" } : Jvm.MethodName)) := ex_tt ex_q9 236 rfl rfl
theorem tw_2157 : ex_tW (Jvm.Cond.code ({ cls := "CallerhallModel", name := "levelOf", desc := "(C)I" } : Jvm.MethodName) prog_14_method_42_code (2 : Nat) (Option.some Jvm.ClassFile.FieldType.int)) := ex_tt ex_q9 237 rfl rfl
theorem tw_2158 : ex_tW (Jvm.Cond.methodLink "CallerhallModel" (265 : Nat) ({ cls := "CallerhallModel$Call", name := "level", desc := "()I" } : Jvm.MethodName)) := ex_tt ex_q9 238 rfl rfl
theorem tw_2159 : ex_tW (Jvm.Cond.instanceMethod ({ cls := "CallerhallModel$Call", name := "level", desc := "()I" } : Jvm.MethodName)) := ex_tt ex_q9 239 rfl rfl
theorem tw_2160 : ex_tW (Jvm.Cond.selects "CallerhallModel$Call" ({ cls := "CallerhallModel$Call", name := "level", desc := "()I" } : Jvm.MethodName) ({ cls := "CallerhallModel$Call", name := "level", desc := "()I" } : Jvm.MethodName)) := ex_tt ex_q10 0 rfl rfl
theorem tw_2161 : ex_tW (Jvm.Cond.code ({ cls := "CallerhallModel$Call", name := "level", desc := "()I" } : Jvm.MethodName) prog_15_method_3_code (4 : Nat) (Option.some Jvm.ClassFile.FieldType.int)) := ex_tt ex_q10 1 rfl rfl
theorem tw_2162 : (Jvm.Cond.fieldLinkNest "CallerhallModel$Call" (55 : Nat) "CallerhallModel" "LEVELS" "[I" "CallerhallModel") ∈ ex_TN := ex_twn ex_q10 2 rfl rfl
theorem tw_2164 : ex_tW (Jvm.Cond.methodLink "CallerhallModel$Call" (58 : Nat) ({ cls := "java/lang/Math", name := "max", desc := "(II)I" } : Jvm.MethodName)) := ex_tt ex_q10 4 rfl rfl
theorem tw_2165 : ex_tW (Jvm.Cond.methodLink "CallerhallLaw" (224 : Nat) ({ cls := "CallerhallModel", name := "dance", desc := "(CCCII)I" } : Jvm.MethodName)) := ex_tt ex_q10 5 rfl rfl
theorem tw_2166 : ex_tW (Jvm.Cond.instanceMethod ({ cls := "CallerhallModel", name := "dance", desc := "(CCCII)I" } : Jvm.MethodName)) := ex_tt ex_q10 6 rfl rfl
theorem tw_2167 : ex_tW (Jvm.Cond.selects "CallerhallModel" ({ cls := "CallerhallModel", name := "dance", desc := "(CCCII)I" } : Jvm.MethodName) ({ cls := "CallerhallModel", name := "dance", desc := "(CCCII)I" } : Jvm.MethodName)) := ex_tt ex_q10 7 rfl rfl
theorem tw_2168 : ex_tW (Jvm.Cond.code ({ cls := "CallerhallModel", name := "dance", desc := "(CCCII)I" } : Jvm.MethodName) prog_14_method_75_code (13 : Nat) (Option.some Jvm.ClassFile.FieldType.int)) := ex_tt ex_q10 8 rfl rfl
theorem tw_2169 : ex_tW (Jvm.Cond.constantLong "CallerhallModel" (458 : Nat) (12 : Int64)) := ex_tt ex_q10 9 rfl rfl
theorem tw_2170 : ex_tW (Jvm.Cond.methodLink "CallerhallModel" (463 : Nat) ({ cls := "CallerhallModel", name := "cannot", desc := "(CII)I" } : Jvm.MethodName)) := ex_tt ex_q10 10 rfl rfl
theorem tw_2172 : ex_tW (Jvm.Cond.instanceMethod ({ cls := "CallerhallModel", name := "cannot", desc := "(CII)I" } : Jvm.MethodName)) := ex_tt ex_q10 12 rfl rfl
theorem tw_2173 : ex_tW (Jvm.Cond.code ({ cls := "CallerhallModel", name := "cannot", desc := "(CII)I" } : Jvm.MethodName) prog_14_method_72_code (4 : Nat) (Option.some Jvm.ClassFile.FieldType.int)) := ex_tt ex_q10 13 rfl rfl
theorem tw_2174 : ex_tW (Jvm.Cond.methodLink "CallerhallModel" (449 : Nat) ({ cls := "CallerhallModel", name := "refuse", desc := "(I)I" } : Jvm.MethodName)) := ex_tt ex_q10 14 rfl rfl
theorem tw_2176 : ex_tW (Jvm.Cond.instanceMethod ({ cls := "CallerhallModel", name := "refuse", desc := "(I)I" } : Jvm.MethodName)) := ex_tt ex_q10 16 rfl rfl
theorem tw_2177 : ex_tW (Jvm.Cond.code ({ cls := "CallerhallModel", name := "refuse", desc := "(I)I" } : Jvm.MethodName) prog_14_method_3_code (2 : Nat) (Option.some Jvm.ClassFile.FieldType.int)) := ex_tt ex_q10 17 rfl rfl
theorem tw_2178 : ex_tW (Jvm.Cond.methodLink "CallerhallModel" (467 : Nat) ({ cls := "CallerhallModel", name := "runs", desc := "([ILCallerhallModel$Call;I)[I" } : Jvm.MethodName)) := ex_tt ex_q10 18 rfl rfl
theorem tw_2180 : ex_tW (Jvm.Cond.instanceMethod ({ cls := "CallerhallModel", name := "runs", desc := "([ILCallerhallModel$Call;I)[I" } : Jvm.MethodName)) := ex_tt ex_q10 20 rfl rfl
theorem tw_2181 : ex_tW (Jvm.Cond.code ({ cls := "CallerhallModel", name := "runs", desc := "([ILCallerhallModel$Call;I)[I" } : Jvm.MethodName) prog_14_method_71_code (12 : Nat) (Option.some (Jvm.ClassFile.FieldType.array Jvm.ClassFile.FieldType.int))) := ex_tt ex_q10 21 rfl rfl
theorem tw_2182 : ex_tW (Jvm.Cond.methodLink "CallerhallModel" (430 : Nat) ({ cls := "CallerhallModel", name := "ground", desc := "([I)LCallerhallModel$Floor;" } : Jvm.MethodName)) := ex_tt ex_q10 22 rfl rfl
theorem tw_2184 : ex_tW (Jvm.Cond.instanceMethod ({ cls := "CallerhallModel", name := "ground", desc := "([I)LCallerhallModel$Floor;" } : Jvm.MethodName)) := ex_tt ex_q10 24 rfl rfl
theorem tw_2185 : ex_tW (Jvm.Cond.code ({ cls := "CallerhallModel", name := "ground", desc := "([I)LCallerhallModel$Floor;" } : Jvm.MethodName) prog_14_method_46_code (4 : Nat) (Option.some (Jvm.ClassFile.FieldType.object "CallerhallModel$Floor"))) := ex_tt ex_q10 25 rfl rfl
theorem tw_2186 : ex_tW (Jvm.Cond.classLink "CallerhallModel" (268 : Nat) "CallerhallModel$Floor") := ex_tt ex_q10 26 rfl rfl
theorem tw_2187 : ex_tW (Jvm.Cond.instantiable "CallerhallModel$Floor" (13 : Nat)) := ex_tt ex_q10 27 rfl rfl
theorem tw_2188 : ex_tW (Jvm.Cond.methodLink "CallerhallModel" (306 : Nat) ({ cls := "CallerhallModel$Floor", name := "<init>", desc := "(LCallerhallModel$Floor;I)V" } : Jvm.MethodName)) := ex_tt ex_q10 28 rfl rfl
theorem tw_2189 : ex_tW (Jvm.Cond.instanceMethod ({ cls := "CallerhallModel$Floor", name := "<init>", desc := "(LCallerhallModel$Floor;I)V" } : Jvm.MethodName)) := ex_tt ex_q10 29 rfl rfl
theorem tw_2190 : ex_tW (Jvm.Cond.code ({ cls := "CallerhallModel$Floor", name := "<init>", desc := "(LCallerhallModel$Floor;I)V" } : Jvm.MethodName) prog_16_method_1_code (3 : Nat) (Option.none : Option Jvm.ClassFile.FieldType)) := ex_tt ex_q10 30 rfl rfl
theorem tw_2191 : ex_tW (Jvm.Cond.methodLink "CallerhallModel$Floor" (3 : Nat) ({ cls := "java/lang/Object", name := "<init>", desc := "()V" } : Jvm.MethodName)) := ex_tt ex_q10 31 rfl rfl
theorem tw_2192 : ex_tW (Jvm.Cond.fieldLink "CallerhallModel$Floor" (19 : Nat) "CallerhallModel$Floor" "below" "LCallerhallModel$Floor;") := ex_tt ex_q10 32 rfl rfl
theorem tw_2193 : ex_tW (Jvm.Cond.fieldLink "CallerhallModel" (272 : Nat) "CallerhallModel$Floor" "below" "LCallerhallModel$Floor;") := ex_tt ex_q10 33 rfl rfl
theorem tw_2194 : ex_tW (Jvm.Cond.fieldLink "CallerhallModel$Floor" (23 : Nat) "CallerhallModel$Floor" "many" "I") := ex_tt ex_q10 34 rfl rfl
theorem tw_2195 : ex_tW (Jvm.Cond.fieldLink "CallerhallModel" (297 : Nat) "CallerhallModel$Floor" "many" "I") := ex_tt ex_q10 35 rfl rfl
theorem tw_2196 : ex_tW (Jvm.Cond.fieldLink "CallerhallModel$Floor" (26 : Nat) "CallerhallModel$Floor" "x" "[I") := ex_tt ex_q10 36 rfl rfl
theorem tw_2197 : ex_tW (Jvm.Cond.fieldLink "CallerhallModel" (300 : Nat) "CallerhallModel$Floor" "x" "[I") := ex_tt ex_q10 37 rfl rfl
theorem tw_2198 : ex_tW (Jvm.Cond.fieldLink "CallerhallModel$Floor" (30 : Nat) "CallerhallModel$Floor" "y" "[I") := ex_tt ex_q10 38 rfl rfl
theorem tw_2199 : ex_tW (Jvm.Cond.fieldLink "CallerhallModel" (303 : Nat) "CallerhallModel$Floor" "y" "[I") := ex_tt ex_q10 39 rfl rfl
theorem tw_2200 : ex_tW (Jvm.Cond.fieldLink "CallerhallModel$Floor" (33 : Nat) "CallerhallModel$Floor" "f" "[I") := ex_tt ex_q10 40 rfl rfl
theorem tw_2201 : ex_tW (Jvm.Cond.fieldLink "CallerhallModel" (309 : Nat) "CallerhallModel$Floor" "f" "[I") := ex_tt ex_q10 41 rfl rfl
theorem tw_2202 : ex_tW (Jvm.Cond.fieldLink "CallerhallModel$Floor" (36 : Nat) "CallerhallModel$Floor" "number" "[I") := ex_tt ex_q10 42 rfl rfl
theorem tw_2203 : ex_tW (Jvm.Cond.fieldLink "CallerhallModel" (290 : Nat) "CallerhallModel$Floor" "number" "[I") := ex_tt ex_q10 43 rfl rfl
theorem tw_2204 : ex_tW (Jvm.Cond.fieldLink "CallerhallModel$Floor" (39 : Nat) "CallerhallModel$Floor" "first" "[I") := ex_tt ex_q10 44 rfl rfl
theorem tw_2205 : ex_tW (Jvm.Cond.fieldLink "CallerhallModel" (276 : Nat) "CallerhallModel$Floor" "first" "[I") := ex_tt ex_q10 45 rfl rfl
theorem tw_2206 : ex_tW (Jvm.Cond.fieldLink "CallerhallModel$Floor" (42 : Nat) "CallerhallModel$Floor" "second" "[I") := ex_tt ex_q10 46 rfl rfl
theorem tw_2207 : ex_tW (Jvm.Cond.fieldLink "CallerhallModel" (267 : Nat) "CallerhallModel$Floor" "second" "[I") := ex_tt ex_q10 47 rfl rfl
theorem tw_2208 : ex_tW (Jvm.Cond.fieldLink "CallerhallModel$Floor" (45 : Nat) "CallerhallModel$Floor" "moved" "[Z") := ex_tt ex_q10 48 rfl rfl
theorem tw_2209 : ex_tW (Jvm.Cond.fieldLink "CallerhallModel" (362 : Nat) "CallerhallModel$Floor" "moved" "[Z") := ex_tt ex_q10 49 rfl rfl
theorem tw_2210 : ex_tW (Jvm.Cond.fieldLink "CallerhallModel$Floor" (49 : Nat) "CallerhallModel$Floor" "sideX" "Z") := ex_tt ex_q10 50 rfl rfl
theorem tw_2211 : ex_tW (Jvm.Cond.fieldLink "CallerhallModel" (322 : Nat) "CallerhallModel$Floor" "sideX" "Z") := ex_tt ex_q10 51 rfl rfl
theorem tw_2212 : ex_tW (Jvm.Cond.fieldLink "CallerhallModel$Floor" (53 : Nat) "CallerhallModel$Floor" "sideY" "Z") := ex_tt ex_q10 52 rfl rfl
theorem tw_2213 : ex_tW (Jvm.Cond.fieldLink "CallerhallModel" (325 : Nat) "CallerhallModel$Floor" "sideY" "Z") := ex_tt ex_q10 53 rfl rfl
theorem tw_2214 : ex_tW (Jvm.Cond.fieldLink "CallerhallModel$Floor" (9 : Nat) "CallerhallModel$Floor" "spacing" "I") := ex_tt ex_q10 54 rfl rfl
theorem tw_2215 : ex_tW (Jvm.Cond.fieldLink "CallerhallModel" (328 : Nat) "CallerhallModel$Floor" "spacing" "I") := ex_tt ex_q10 55 rfl rfl
theorem tw_2216 : ex_tW (Jvm.Cond.fieldLink "CallerhallModel$Floor" (15 : Nat) "CallerhallModel$Floor" "kind" "C") := ex_tt ex_q10 56 rfl rfl
theorem tw_2217 : ex_tW (Jvm.Cond.fieldLink "CallerhallModel" (319 : Nat) "CallerhallModel$Floor" "kind" "C") := ex_tt ex_q10 57 rfl rfl
theorem tw_2245 : ex_tW (Jvm.Cond.methodLink "CallerhallModel" (437 : Nat) ({ cls := "CallerhallModel", name := "raise", desc := "(LCallerhallModel$Floor;C)LCallerhallModel$Floor;" } : Jvm.MethodName)) := ex_tt ex_q10 85 rfl rfl
theorem tw_2247 : ex_tW (Jvm.Cond.instanceMethod ({ cls := "CallerhallModel", name := "raise", desc := "(LCallerhallModel$Floor;C)LCallerhallModel$Floor;" } : Jvm.MethodName)) := ex_tt ex_q10 87 rfl rfl
theorem tw_2248 : ex_tW (Jvm.Cond.code ({ cls := "CallerhallModel", name := "raise", desc := "(LCallerhallModel$Floor;C)LCallerhallModel$Floor;" } : Jvm.MethodName) prog_14_method_48_code (7 : Nat) (Option.some (Jvm.ClassFile.FieldType.object "CallerhallModel$Floor"))) := ex_tt ex_q10 88 rfl rfl
theorem tw_2249 : ex_tW (Jvm.Cond.methodLink "CallerhallModel" (312 : Nat) ({ cls := "CallerhallModel", name := "isUnits", desc := "(C)Z" } : Jvm.MethodName)) := ex_tt ex_q10 89 rfl rfl
theorem tw_2250 : ex_tW (Jvm.Cond.static ({ cls := "CallerhallModel", name := "isUnits", desc := "(C)Z" } : Jvm.MethodName)) := ex_tt ex_q10 90 rfl rfl
theorem tw_2251 : ex_tW (Jvm.Cond.code ({ cls := "CallerhallModel", name := "isUnits", desc := "(C)Z" } : Jvm.MethodName) prog_14_method_47_code (1 : Nat) (Option.some Jvm.ClassFile.FieldType.boolean)) := ex_tt ex_q10 91 rfl rfl
theorem tw_2252 : ex_tW (Jvm.Cond.methodLink "CallerhallModel" (315 : Nat) ({ cls := "CallerhallModel", name := "units", desc := "(LCallerhallModel$Floor;C)LCallerhallModel$Floor;" } : Jvm.MethodName)) := ex_tt ex_q10 92 rfl rfl
theorem tw_2254 : ex_tW (Jvm.Cond.instanceMethod ({ cls := "CallerhallModel", name := "units", desc := "(LCallerhallModel$Floor;C)LCallerhallModel$Floor;" } : Jvm.MethodName)) := ex_tt ex_q10 94 rfl rfl
theorem tw_2255 : ex_tW (Jvm.Cond.code ({ cls := "CallerhallModel", name := "units", desc := "(LCallerhallModel$Floor;C)LCallerhallModel$Floor;" } : Jvm.MethodName) prog_14_method_49_code (14 : Nat) (Option.some (Jvm.ClassFile.FieldType.object "CallerhallModel$Floor"))) := ex_tt ex_q10 95 rfl rfl
theorem tw_2256 : ex_tW (Jvm.Cond.methodLink "CallerhallModel" (331 : Nat) ({ cls := "CallerhallModel", name := "columns", desc := "(LCallerhallModel$Floor;)[I" } : Jvm.MethodName)) := ex_tt ex_q10 96 rfl rfl
theorem tw_2257 : ex_tW (Jvm.Cond.static ({ cls := "CallerhallModel", name := "columns", desc := "(LCallerhallModel$Floor;)[I" } : Jvm.MethodName)) := ex_tt ex_q10 97 rfl rfl
theorem tw_2258 : ex_tW (Jvm.Cond.code ({ cls := "CallerhallModel", name := "columns", desc := "(LCallerhallModel$Floor;)[I" } : Jvm.MethodName) prog_14_method_59_code (1 : Nat) (Option.some (Jvm.ClassFile.FieldType.array Jvm.ClassFile.FieldType.int))) := ex_tt ex_q10 98 rfl rfl
theorem tw_2259 : ex_tW (Jvm.Cond.methodLink "CallerhallModel" (335 : Nat) ({ cls := "CallerhallModel", name := "everybody", desc := "(LCallerhallModel$Floor;)[Z" } : Jvm.MethodName)) := ex_tt ex_q10 99 rfl rfl
theorem tw_2260 : ex_tW (Jvm.Cond.static ({ cls := "CallerhallModel", name := "everybody", desc := "(LCallerhallModel$Floor;)[Z" } : Jvm.MethodName)) := ex_tt ex_q10 100 rfl rfl
theorem tw_2261 : ex_tW (Jvm.Cond.code ({ cls := "CallerhallModel", name := "everybody", desc := "(LCallerhallModel$Floor;)[Z" } : Jvm.MethodName) prog_14_method_50_code (3 : Nat) (Option.some (Jvm.ClassFile.FieldType.array Jvm.ClassFile.FieldType.boolean))) := ex_tt ex_q10 101 rfl rfl
theorem tw_2262 : ex_tW (Jvm.Cond.methodLink "CallerhallModel" (373 : Nat) ({ cls := "CallerhallModel", name := "chains", desc := "(LCallerhallModel$Floor;[ZIZZ)[I" } : Jvm.MethodName)) := ex_tt ex_q10 102 rfl rfl
theorem tw_2263 : ex_tW (Jvm.Cond.static ({ cls := "CallerhallModel", name := "chains", desc := "(LCallerhallModel$Floor;[ZIZZ)[I" } : Jvm.MethodName)) := ex_tt ex_q10 103 rfl rfl
theorem tw_2264 : ex_tW (Jvm.Cond.code ({ cls := "CallerhallModel", name := "chains", desc := "(LCallerhallModel$Floor;[ZIZZ)[I" } : Jvm.MethodName) prog_14_method_57_code (12 : Nat) (Option.some (Jvm.ClassFile.FieldType.array Jvm.ClassFile.FieldType.int))) := ex_tt ex_q10 104 rfl rfl
theorem tw_2265 : ex_tW (Jvm.Cond.methodLink "CallerhallModel" (370 : Nat) ({ cls := "CallerhallModel", name := "next", desc := "(LCallerhallModel$Floor;[ZIIIZZ)I" } : Jvm.MethodName)) := ex_tt ex_q10 105 rfl rfl
theorem tw_2266 : ex_tW (Jvm.Cond.static ({ cls := "CallerhallModel", name := "next", desc := "(LCallerhallModel$Floor;[ZIIIZZ)I" } : Jvm.MethodName)) := ex_tt ex_q10 106 rfl rfl
theorem tw_2267 : ex_tW (Jvm.Cond.code ({ cls := "CallerhallModel", name := "next", desc := "(LCallerhallModel$Floor;[ZIIIZZ)I" } : Jvm.MethodName) prog_14_method_56_code (10 : Nat) (Option.some Jvm.ClassFile.FieldType.int)) := ex_tt ex_q10 107 rfl rfl
theorem tw_2268 : ex_tW (Jvm.Cond.methodLink "CallerhallModel" (366 : Nat) ({ cls := "CallerhallModel", name := "together", desc := "(LCallerhallModel$Floor;II)Z" } : Jvm.MethodName)) := ex_tt ex_q10 108 rfl rfl
theorem tw_2269 : ex_tW (Jvm.Cond.static ({ cls := "CallerhallModel", name := "together", desc := "(LCallerhallModel$Floor;II)Z" } : Jvm.MethodName)) := ex_tt ex_q10 109 rfl rfl
theorem tw_2270 : ex_tW (Jvm.Cond.code ({ cls := "CallerhallModel", name := "together", desc := "(LCallerhallModel$Floor;II)Z" } : Jvm.MethodName) prog_14_method_54_code (4 : Nat) (Option.some Jvm.ClassFile.FieldType.boolean)) := ex_tt ex_q10 110 rfl rfl
theorem tw_2271 : ex_tW (Jvm.Cond.methodLink "CallerhallModel" (339 : Nat) ({ cls := "CallerhallModel", name := "rows", desc := "(LCallerhallModel$Floor;[ZIZ)[I" } : Jvm.MethodName)) := ex_tt ex_q10 111 rfl rfl
theorem tw_2272 : ex_tW (Jvm.Cond.static ({ cls := "CallerhallModel", name := "rows", desc := "(LCallerhallModel$Floor;[ZIZ)[I" } : Jvm.MethodName)) := ex_tt ex_q10 112 rfl rfl
theorem tw_2273 : ex_tW (Jvm.Cond.code ({ cls := "CallerhallModel", name := "rows", desc := "(LCallerhallModel$Floor;[ZIZ)[I" } : Jvm.MethodName) prog_14_method_58_code (4 : Nat) (Option.some (Jvm.ClassFile.FieldType.array Jvm.ClassFile.FieldType.int))) := ex_tt ex_q10 113 rfl rfl
theorem tw_2274 : ex_tW (Jvm.Cond.fieldLink "CallerhallModel" (343 : Nat) "CallerhallModel" "DX" "[I") := ex_tt ex_q10 114 rfl rfl
theorem tw_2276 : ex_tW (Jvm.Cond.fieldLink "CallerhallModel" (346 : Nat) "CallerhallModel" "DY" "[I") := ex_tt ex_q10 116 rfl rfl
theorem tw_2278 : ex_tW (Jvm.Cond.methodLink "CallerhallModel" (283 : Nat) ({ cls := "java/lang/Math", name := "min", desc := "(II)I" } : Jvm.MethodName)) := ex_tt ex_q10 118 rfl rfl
theorem tw_2279 : ex_tW (Jvm.Cond.methodLink "CallerhallModel" (440 : Nat) ({ cls := "CallerhallModel", name := "dances", desc := "(LCallerhallModel$Floor;CCI)Z" } : Jvm.MethodName)) := ex_tt ex_q10 119 rfl rfl
theorem tw_2281 : ex_tW (Jvm.Cond.instanceMethod ({ cls := "CallerhallModel", name := "dances", desc := "(LCallerhallModel$Floor;CCI)Z" } : Jvm.MethodName)) := ex_tt ex_q10 121 rfl rfl
theorem tw_2282 : ex_tW (Jvm.Cond.code ({ cls := "CallerhallModel", name := "dances", desc := "(LCallerhallModel$Floor;CCI)Z" } : Jvm.MethodName) prog_14_method_68_code (17 : Nat) (Option.some Jvm.ClassFile.FieldType.boolean)) := ex_tt ex_q10 122 rfl rfl
theorem tw_2283 : ex_tW (Jvm.Cond.methodLink "CallerhallModel" (396 : Nat) ({ cls := "CallerhallModel", name := "among", desc := "(LCallerhallModel$Floor;C)[Z" } : Jvm.MethodName)) := ex_tt ex_q10 123 rfl rfl
theorem tw_2285 : ex_tW (Jvm.Cond.instanceMethod ({ cls := "CallerhallModel", name := "among", desc := "(LCallerhallModel$Floor;C)[Z" } : Jvm.MethodName)) := ex_tt ex_q10 125 rfl rfl
theorem tw_2286 : ex_tW (Jvm.Cond.code ({ cls := "CallerhallModel", name := "among", desc := "(LCallerhallModel$Floor;C)[Z" } : Jvm.MethodName) prog_14_method_45_code (11 : Nat) (Option.some (Jvm.ClassFile.FieldType.array Jvm.ClassFile.FieldType.boolean))) := ex_tt ex_q10 126 rfl rfl
theorem tw_2287 : ex_tW (Jvm.Cond.methodLink "CallerhallModel" (293 : Nat) ({ cls := "CallerhallModel", name := "isOf", desc := "(LCallerhallModel$Floor;IC)Z" } : Jvm.MethodName)) := ex_tt ex_q10 127 rfl rfl
theorem tw_2289 : ex_tW (Jvm.Cond.instanceMethod ({ cls := "CallerhallModel", name := "isOf", desc := "(LCallerhallModel$Floor;IC)Z" } : Jvm.MethodName)) := ex_tt ex_q10 129 rfl rfl
theorem tw_2290 : ex_tW (Jvm.Cond.code ({ cls := "CallerhallModel", name := "isOf", desc := "(LCallerhallModel$Floor;IC)Z" } : Jvm.MethodName) prog_14_method_44_code (5 : Nat) (Option.some Jvm.ClassFile.FieldType.boolean)) := ex_tt ex_q10 130 rfl rfl
theorem tw_2291 : ex_tW (Jvm.Cond.methodLink "CallerhallModel" (279 : Nat) ({ cls := "CallerhallModel", name := "skillOf", desc := "(LCallerhallModel$Floor;I)I" } : Jvm.MethodName)) := ex_tt ex_q10 131 rfl rfl
theorem tw_2293 : ex_tW (Jvm.Cond.instanceMethod ({ cls := "CallerhallModel", name := "skillOf", desc := "(LCallerhallModel$Floor;I)I" } : Jvm.MethodName)) := ex_tt ex_q10 133 rfl rfl
theorem tw_2294 : ex_tW (Jvm.Cond.code ({ cls := "CallerhallModel", name := "skillOf", desc := "(LCallerhallModel$Floor;I)I" } : Jvm.MethodName) prog_14_method_43_code (3 : Nat) (Option.some Jvm.ClassFile.FieldType.int)) := ex_tt ex_q10 134 rfl rfl
theorem tw_2295 : ex_tW (Jvm.Cond.fieldLink "CallerhallModel" (400 : Nat) "CallerhallModel" "LEVELS" "[I") := ex_tt ex_q10 135 rfl rfl
theorem tw_2296 : ex_tW (Jvm.Cond.methodLink "CallerhallModel" (403 : Nat) ({ cls := "CallerhallModel", name := "facing", desc := "(LCallerhallModel$Floor;[ZI)[I" } : Jvm.MethodName)) := ex_tt ex_q10 136 rfl rfl
theorem tw_2297 : ex_tW (Jvm.Cond.static ({ cls := "CallerhallModel", name := "facing", desc := "(LCallerhallModel$Floor;[ZI)[I" } : Jvm.MethodName)) := ex_tt ex_q10 137 rfl rfl
theorem tw_2298 : ex_tW (Jvm.Cond.code ({ cls := "CallerhallModel", name := "facing", desc := "(LCallerhallModel$Floor;[ZI)[I" } : Jvm.MethodName) prog_14_method_55_code (7 : Nat) (Option.some (Jvm.ClassFile.FieldType.array Jvm.ClassFile.FieldType.int))) := ex_tt ex_q10 138 rfl rfl
theorem tw_2299 : ex_tW (Jvm.Cond.methodLink "CallerhallModel" (407 : Nat) ({ cls := "CallerhallModel", name := "boxes", desc := "(LCallerhallModel$Floor;[Z)[[I" } : Jvm.MethodName)) := ex_tt ex_q10 139 rfl rfl
theorem tw_2300 : ex_tW (Jvm.Cond.static ({ cls := "CallerhallModel", name := "boxes", desc := "(LCallerhallModel$Floor;[Z)[[I" } : Jvm.MethodName)) := ex_tt ex_q10 140 rfl rfl
theorem tw_2301 : ex_tW (Jvm.Cond.code ({ cls := "CallerhallModel", name := "boxes", desc := "(LCallerhallModel$Floor;[Z)[[I" } : Jvm.MethodName) prog_14_method_61_code (10 : Nat) (Option.some (Jvm.ClassFile.FieldType.array (Jvm.ClassFile.FieldType.array Jvm.ClassFile.FieldType.int)))) := ex_tt ex_q10 141 rfl rfl
theorem tw_2302 : ex_tW (Jvm.Cond.methodLink "CallerhallModel" (377 : Nat) ({ cls := "CallerhallModel$Floor", name := "at", desc := "(II)I" } : Jvm.MethodName)) := ex_tt ex_q10 142 rfl rfl
theorem tw_2303 : ex_tW (Jvm.Cond.instanceMethod ({ cls := "CallerhallModel$Floor", name := "at", desc := "(II)I" } : Jvm.MethodName)) := ex_tt ex_q10 143 rfl rfl
theorem tw_2304 : ex_tW (Jvm.Cond.selects "CallerhallModel$Floor" ({ cls := "CallerhallModel$Floor", name := "at", desc := "(II)I" } : Jvm.MethodName) ({ cls := "CallerhallModel$Floor", name := "at", desc := "(II)I" } : Jvm.MethodName)) := ex_tt ex_q10 144 rfl rfl
theorem tw_2305 : ex_tW (Jvm.Cond.code ({ cls := "CallerhallModel$Floor", name := "at", desc := "(II)I" } : Jvm.MethodName) prog_16_method_2_code (4 : Nat) (Option.some Jvm.ClassFile.FieldType.int)) := ex_tt ex_q10 145 rfl rfl
theorem tw_2306 : ex_tW (Jvm.Cond.methodLink "CallerhallModel" (411 : Nat) ({ cls := "CallerhallModel", name := "misfit", desc := "(LCallerhallModel$Floor;[Z[I[[IC)I" } : Jvm.MethodName)) := ex_tt ex_q10 146 rfl rfl
theorem tw_2307 : ex_tW (Jvm.Cond.static ({ cls := "CallerhallModel", name := "misfit", desc := "(LCallerhallModel$Floor;[Z[I[[IC)I" } : Jvm.MethodName)) := ex_tt ex_q10 147 rfl rfl
theorem tw_2308 : ex_tW (Jvm.Cond.code ({ cls := "CallerhallModel", name := "misfit", desc := "(LCallerhallModel$Floor;[Z[I[[IC)I" } : Jvm.MethodName) prog_14_method_67_code (8 : Nat) (Option.some Jvm.ClassFile.FieldType.int)) := ex_tt ex_q10 148 rfl rfl
theorem tw_2310 : ex_tW (Jvm.Cond.methodLink "CallerhallModel" (392 : Nat) ({ cls := "CallerhallModel", name := "kindOf", desc := "(LCallerhallModel$Floor;II)C" } : Jvm.MethodName)) := ex_tt ex_q10 150 rfl rfl
theorem tw_2311 : ex_tW (Jvm.Cond.static ({ cls := "CallerhallModel", name := "kindOf", desc := "(LCallerhallModel$Floor;II)C" } : Jvm.MethodName)) := ex_tt ex_q10 151 rfl rfl
theorem tw_2312 : ex_tW (Jvm.Cond.code ({ cls := "CallerhallModel", name := "kindOf", desc := "(LCallerhallModel$Floor;II)C" } : Jvm.MethodName) prog_14_method_60_code (4 : Nat) (Option.some Jvm.ClassFile.FieldType.char)) := ex_tt ex_q10 152 rfl rfl
theorem tw_2313 : ex_tW (Jvm.Cond.methodLink "CallerhallModel" (415 : Nat) ({ cls := "CallerhallModel", name := "dances", desc := "(LCallerhallModel$Floor;CIIIC[[I[I[I)V" } : Jvm.MethodName)) := ex_tt ex_q10 153 rfl rfl
theorem tw_2315 : ex_tW (Jvm.Cond.instanceMethod ({ cls := "CallerhallModel", name := "dances", desc := "(LCallerhallModel$Floor;CIIIC[[I[I[I)V" } : Jvm.MethodName)) := ex_tt ex_q10 155 rfl rfl
theorem tw_2316 : ex_tW (Jvm.Cond.code ({ cls := "CallerhallModel", name := "dances", desc := "(LCallerhallModel$Floor;CIIIC[[I[I[I)V" } : Jvm.MethodName) prog_14_method_69_code (11 : Nat) (Option.none : Option Jvm.ClassFile.FieldType)) := ex_tt ex_q10 156 rfl rfl
theorem tw_2317 : ex_tW (Jvm.Cond.methodLink "CallerhallModel" (419 : Nat) ({ cls := "CallerhallModel", name := "goes", desc := "(LCallerhallModel$Floor;III)V" } : Jvm.MethodName)) := ex_tt ex_q10 157 rfl rfl
theorem tw_2318 : ex_tW (Jvm.Cond.static ({ cls := "CallerhallModel", name := "goes", desc := "(LCallerhallModel$Floor;III)V" } : Jvm.MethodName)) := ex_tt ex_q10 158 rfl rfl
theorem tw_2319 : ex_tW (Jvm.Cond.code ({ cls := "CallerhallModel", name := "goes", desc := "(LCallerhallModel$Floor;III)V" } : Jvm.MethodName) prog_14_method_65_code (4 : Nat) (Option.none : Option Jvm.ClassFile.FieldType)) := ex_tt ex_q10 159 rfl rfl
theorem tw_2320 : ex_tW (Jvm.Cond.methodLink "CallerhallModel" (387 : Nat) ({ cls := "CallerhallModel", name := "turns", desc := "(LCallerhallModel$Floor;II)V" } : Jvm.MethodName)) := ex_tt ex_q10 160 rfl rfl
theorem tw_2322 : ex_tW (Jvm.Cond.instanceMethod ({ cls := "CallerhallModel", name := "turns", desc := "(LCallerhallModel$Floor;II)V" } : Jvm.MethodName)) := ex_tt ex_q10 162 rfl rfl
theorem tw_2323 : ex_tW (Jvm.Cond.code ({ cls := "CallerhallModel", name := "turns", desc := "(LCallerhallModel$Floor;II)V" } : Jvm.MethodName) prog_14_method_62_code (4 : Nat) (Option.none : Option Jvm.ClassFile.FieldType)) := ex_tt ex_q10 163 rfl rfl
theorem tw_2324 : ex_tW (Jvm.Cond.methodLink "CallerhallModel" (380 : Nat) ({ cls := "CallerhallModel", name := "counts", desc := "(LCallerhallModel$Floor;II)V" } : Jvm.MethodName)) := ex_tt ex_q10 164 rfl rfl
theorem tw_2326 : ex_tW (Jvm.Cond.instanceMethod ({ cls := "CallerhallModel", name := "counts", desc := "(LCallerhallModel$Floor;II)V" } : Jvm.MethodName)) := ex_tt ex_q10 166 rfl rfl
theorem tw_2327 : ex_tW (Jvm.Cond.code ({ cls := "CallerhallModel", name := "counts", desc := "(LCallerhallModel$Floor;II)V" } : Jvm.MethodName) prog_14_method_63_code (4 : Nat) (Option.none : Option Jvm.ClassFile.FieldType)) := ex_tt ex_q10 167 rfl rfl
theorem tw_2328 : ex_tW (Jvm.Cond.methodLink "CallerhallModel" (423 : Nat) ({ cls := "CallerhallModel", name := "crosses", desc := "(LCallerhallModel$Floor;I[II)V" } : Jvm.MethodName)) := ex_tt ex_q10 168 rfl rfl
theorem tw_2330 : ex_tW (Jvm.Cond.instanceMethod ({ cls := "CallerhallModel", name := "crosses", desc := "(LCallerhallModel$Floor;I[II)V" } : Jvm.MethodName)) := ex_tt ex_q10 170 rfl rfl
theorem tw_2331 : ex_tW (Jvm.Cond.code ({ cls := "CallerhallModel", name := "crosses", desc := "(LCallerhallModel$Floor;I[II)V" } : Jvm.MethodName) prog_14_method_70_code (10 : Nat) (Option.none : Option Jvm.ClassFile.FieldType)) := ex_tt ex_q10 171 rfl rfl
theorem tw_2332 : ex_tW (Jvm.Cond.methodLink "CallerhallModel" (384 : Nat) ({ cls := "CallerhallModel", name := "takes", desc := "(LCallerhallModel$Floor;II)V" } : Jvm.MethodName)) := ex_tt ex_q10 172 rfl rfl
theorem tw_2334 : ex_tW (Jvm.Cond.instanceMethod ({ cls := "CallerhallModel", name := "takes", desc := "(LCallerhallModel$Floor;II)V" } : Jvm.MethodName)) := ex_tt ex_q10 174 rfl rfl
theorem tw_2335 : ex_tW (Jvm.Cond.code ({ cls := "CallerhallModel", name := "takes", desc := "(LCallerhallModel$Floor;II)V" } : Jvm.MethodName) prog_14_method_64_code (5 : Nat) (Option.none : Option Jvm.ClassFile.FieldType)) := ex_tt ex_q10 175 rfl rfl
theorem tw_2336 : ex_tW (Jvm.Cond.methodLink "CallerhallModel" (427 : Nat) ({ cls := "CallerhallModel", name := "rounds", desc := "(LCallerhallModel$Floor;III)V" } : Jvm.MethodName)) := ex_tt ex_q10 176 rfl rfl
theorem tw_2338 : ex_tW (Jvm.Cond.instanceMethod ({ cls := "CallerhallModel", name := "rounds", desc := "(LCallerhallModel$Floor;III)V" } : Jvm.MethodName)) := ex_tt ex_q10 178 rfl rfl
theorem tw_2339 : ex_tW (Jvm.Cond.code ({ cls := "CallerhallModel", name := "rounds", desc := "(LCallerhallModel$Floor;III)V" } : Jvm.MethodName) prog_14_method_66_code (11 : Nat) (Option.none : Option Jvm.ClassFile.FieldType)) := ex_tt ex_q10 179 rfl rfl
theorem tw_2340 : ex_tW (Jvm.Cond.methodLink "CallerhallModel" (359 : Nat) ({ cls := "CallerhallModel", name := "parts", desc := "(LCallerhallModel$Floor;)Z" } : Jvm.MethodName)) := ex_tt ex_q10 180 rfl rfl
theorem tw_2342 : ex_tW (Jvm.Cond.instanceMethod ({ cls := "CallerhallModel", name := "parts", desc := "(LCallerhallModel$Floor;)Z" } : Jvm.MethodName)) := ex_tt ex_q10 182 rfl rfl
theorem tw_2343 : ex_tW (Jvm.Cond.code ({ cls := "CallerhallModel", name := "parts", desc := "(LCallerhallModel$Floor;)Z" } : Jvm.MethodName) prog_14_method_53_code (8 : Nat) (Option.some Jvm.ClassFile.FieldType.boolean)) := ex_tt ex_q10 183 rfl rfl
theorem tw_2344 : ex_tW (Jvm.Cond.methodLink "CallerhallModel" (443 : Nat) ({ cls := "CallerhallModel", name := "lower", desc := "(LCallerhallModel$Floor;)Z" } : Jvm.MethodName)) := ex_tt ex_q10 184 rfl rfl
theorem tw_2346 : ex_tW (Jvm.Cond.instanceMethod ({ cls := "CallerhallModel", name := "lower", desc := "(LCallerhallModel$Floor;)Z" } : Jvm.MethodName)) := ex_tt ex_q10 186 rfl rfl
theorem tw_2347 : ex_tW (Jvm.Cond.code ({ cls := "CallerhallModel", name := "lower", desc := "(LCallerhallModel$Floor;)Z" } : Jvm.MethodName) prog_14_method_51_code (9 : Nat) (Option.some Jvm.ClassFile.FieldType.boolean)) := ex_tt ex_q10 187 rfl rfl
theorem tw_2348 : ex_tW (Jvm.Cond.methodLink "CallerhallModel" (349 : Nat) ({ cls := "CallerhallModel", name := "lay", desc := "(LCallerhallModel$Floor;IIII)V" } : Jvm.MethodName)) := ex_tt ex_q10 188 rfl rfl
theorem tw_2349 : ex_tW (Jvm.Cond.static ({ cls := "CallerhallModel", name := "lay", desc := "(LCallerhallModel$Floor;IIII)V" } : Jvm.MethodName)) := ex_tt ex_q10 189 rfl rfl
theorem tw_2350 : ex_tW (Jvm.Cond.code ({ cls := "CallerhallModel", name := "lay", desc := "(LCallerhallModel$Floor;IIII)V" } : Jvm.MethodName) prog_14_method_52_code (5 : Nat) (Option.none : Option Jvm.ClassFile.FieldType)) := ex_tt ex_q10 190 rfl rfl
theorem tw_2351 : ex_tW (Jvm.Cond.methodLink "CallerhallModel" (474 : Nat) ({ cls := "java/lang/Character", name := "valueOf", desc := "(C)Ljava/lang/Character;" } : Jvm.MethodName)) := ex_tt ex_q10 191 rfl rfl
theorem tw_2352 : ex_tW (Jvm.Cond.static ({ cls := "java/lang/Character", name := "valueOf", desc := "(C)Ljava/lang/Character;" } : Jvm.MethodName)) := ex_tt ex_q10 192 rfl rfl
theorem tw_2353 : ex_tW (Jvm.Cond.code ({ cls := "java/lang/Character", name := "valueOf", desc := "(C)Ljava/lang/Character;" } : Jvm.MethodName) prog_22_method_3_code (1 : Nat) (Option.some (Jvm.ClassFile.FieldType.object "java/lang/Character"))) := ex_tt ex_q10 193 rfl rfl
theorem tw_2354 : ex_tW (Jvm.Cond.fieldLink "java/lang/Character" (47 : Nat) "java/lang/Character$CharacterCache" "cache" "[Ljava/lang/Character;") := ex_tt ex_q10 194 rfl rfl
theorem tw_2356 : ex_tW (Jvm.Cond.classLink "java/lang/Character" (1 : Nat) "java/lang/Character") := ex_tt ex_q10 196 rfl rfl
theorem tw_2357 : ex_tW (Jvm.Cond.instantiable "java/lang/Character" (1 : Nat)) := ex_tt ex_q10 197 rfl rfl
theorem tw_2358 : ex_tW (Jvm.Cond.methodLink "java/lang/Character" (53 : Nat) ({ cls := "java/lang/Character", name := "<init>", desc := "(C)V" } : Jvm.MethodName)) := ex_tt ex_q10 198 rfl rfl
theorem tw_2359 : ex_tW (Jvm.Cond.instanceMethod ({ cls := "java/lang/Character", name := "<init>", desc := "(C)V" } : Jvm.MethodName)) := ex_tt ex_q10 199 rfl rfl
theorem tw_2360 : ex_tW (Jvm.Cond.code ({ cls := "java/lang/Character", name := "<init>", desc := "(C)V" } : Jvm.MethodName) prog_22_method_2_code (2 : Nat) (Option.none : Option Jvm.ClassFile.FieldType)) := ex_tt ex_q10 200 rfl rfl
theorem tw_2361 : ex_tW (Jvm.Cond.methodLink "java/lang/Character" (41 : Nat) ({ cls := "java/lang/Object", name := "<init>", desc := "()V" } : Jvm.MethodName)) := ex_tt ex_q10 201 rfl rfl
theorem tw_2362 : ex_tW (Jvm.Cond.fieldLink "java/lang/Character" (19 : Nat) "java/lang/Character" "value" "C") := ex_tt ex_q10 202 rfl rfl
theorem tw_2367 : ex_tW (Jvm.Cond.methodLink "CallerhallModel" (480 : Nat) ({ cls := "java/util/List", name := "remove", desc := "(I)Ljava/lang/Object;" } : Jvm.MethodName)) := ex_tt ex_q10 207 rfl rfl
theorem tw_2370 : ex_tW (Jvm.Cond.selects "java/util/ArrayList" ({ cls := "java/util/List", name := "remove", desc := "(I)Ljava/lang/Object;" } : Jvm.MethodName) ({ cls := "java/util/ArrayList", name := "remove", desc := "(I)Ljava/lang/Object;" } : Jvm.MethodName)) := ex_tt ex_q10 210 rfl rfl
theorem tw_2372 : ex_tW (Jvm.Cond.instanceMethod ({ cls := "java/util/ArrayList", name := "remove", desc := "(I)Ljava/lang/Object;" } : Jvm.MethodName)) := ex_tt ex_q10 212 rfl rfl
theorem tw_2374 : ex_tW (Jvm.Cond.code ({ cls := "java/util/ArrayList", name := "remove", desc := "(I)Ljava/lang/Object;" } : Jvm.MethodName) prog_43_method_29_code (4 : Nat) (Option.some (Jvm.ClassFile.FieldType.object "java/lang/Object"))) := ex_tt ex_q10 214 rfl rfl
theorem tw_2375 : ex_tW (Jvm.Cond.methodLink "java/util/ArrayList" (144 : Nat) ({ cls := "java/util/ArrayList", name := "fastRemove", desc := "([Ljava/lang/Object;I)V" } : Jvm.MethodName)) := ex_tt ex_q10 215 rfl rfl
theorem tw_2377 : ex_tW (Jvm.Cond.instanceMethod ({ cls := "java/util/ArrayList", name := "fastRemove", desc := "([Ljava/lang/Object;I)V" } : Jvm.MethodName)) := ex_tt ex_q10 217 rfl rfl
theorem tw_2378 : ex_tW (Jvm.Cond.code ({ cls := "java/util/ArrayList", name := "fastRemove", desc := "([Ljava/lang/Object;I)V" } : Jvm.MethodName) prog_43_method_39_code (4 : Nat) (Option.none : Option Jvm.ClassFile.FieldType)) := ex_tt ex_q10 218 rfl rfl
theorem tw_2379 : ex_tW (Jvm.Cond.methodLink "CallerhallModel" (483 : Nat) ({ cls := "CallerhallModel", name := "flows", desc := "([I[I[I[I)V" } : Jvm.MethodName)) := ex_tt ex_q10 219 rfl rfl
theorem tw_2381 : ex_tW (Jvm.Cond.instanceMethod ({ cls := "CallerhallModel", name := "flows", desc := "([I[I[I[I)V" } : Jvm.MethodName)) := ex_tt ex_q10 221 rfl rfl
theorem tw_2382 : ex_tW (Jvm.Cond.code ({ cls := "CallerhallModel", name := "flows", desc := "([I[I[I[I)V" } : Jvm.MethodName) prog_14_method_73_code (6 : Nat) (Option.none : Option Jvm.ClassFile.FieldType)) := ex_tt ex_q10 222 rfl rfl
theorem tw_2383 : ex_tW (Jvm.Cond.methodLink "CallerhallModel" (487 : Nat) ({ cls := "CallerhallModel", name := "beat", desc := "(I)V" } : Jvm.MethodName)) := ex_tt ex_q10 223 rfl rfl
theorem tw_2385 : ex_tW (Jvm.Cond.instanceMethod ({ cls := "CallerhallModel", name := "beat", desc := "(I)V" } : Jvm.MethodName)) := ex_tt ex_q10 225 rfl rfl
theorem tw_2386 : ex_tW (Jvm.Cond.code ({ cls := "CallerhallModel", name := "beat", desc := "(I)V" } : Jvm.MethodName) prog_14_method_74_code (2 : Nat) (Option.none : Option Jvm.ClassFile.FieldType)) := ex_tt ex_q10 226 rfl rfl
theorem tw_2387 : ex_tW (Jvm.Cond.methodLink "CallerhallLaw" (228 : Nat) ({ cls := "CallerhallModel", name := "finish", desc := "()I" } : Jvm.MethodName)) := ex_tt ex_q10 227 rfl rfl
theorem tw_2388 : ex_tW (Jvm.Cond.instanceMethod ({ cls := "CallerhallModel", name := "finish", desc := "()I" } : Jvm.MethodName)) := ex_tt ex_q10 228 rfl rfl
theorem tw_2389 : ex_tW (Jvm.Cond.selects "CallerhallModel" ({ cls := "CallerhallModel", name := "finish", desc := "()I" } : Jvm.MethodName) ({ cls := "CallerhallModel", name := "finish", desc := "()I" } : Jvm.MethodName)) := ex_tt ex_q10 229 rfl rfl
theorem tw_2390 : ex_tW (Jvm.Cond.code ({ cls := "CallerhallModel", name := "finish", desc := "()I" } : Jvm.MethodName) prog_14_method_76_code (9 : Nat) (Option.some Jvm.ClassFile.FieldType.int)) := ex_tt ex_q10 230 rfl rfl
theorem tw_2391 : ex_tW (Jvm.Cond.methodLink "CallerhallModel" (505 : Nat) ({ cls := "CallerhallModel", name := "firstHands", desc := "(LCallerhallModel$Call;I[I)V" } : Jvm.MethodName)) := ex_tt ex_q10 231 rfl rfl
theorem tw_2393 : ex_tW (Jvm.Cond.instanceMethod ({ cls := "CallerhallModel", name := "firstHands", desc := "(LCallerhallModel$Call;I[I)V" } : Jvm.MethodName)) := ex_tt ex_q10 233 rfl rfl
theorem tw_2394 : ex_tW (Jvm.Cond.code ({ cls := "CallerhallModel", name := "firstHands", desc := "(LCallerhallModel$Call;I[I)V" } : Jvm.MethodName) prog_14_method_77_code (6 : Nat) (Option.none : Option Jvm.ClassFile.FieldType)) := ex_tt ex_q10 234 rfl rfl
theorem tw_2395 : ex_tW (Jvm.Cond.methodLink "CallerhallLaw" (232 : Nat) ({ cls := "CallerhallModel", name := "left", desc := "()I" } : Jvm.MethodName)) := ex_tt ex_q10 235 rfl rfl
theorem tw_2396 : ex_tW (Jvm.Cond.instanceMethod ({ cls := "CallerhallModel", name := "left", desc := "()I" } : Jvm.MethodName)) := ex_tt ex_q10 236 rfl rfl
theorem tw_2397 : ex_tW (Jvm.Cond.selects "CallerhallModel" ({ cls := "CallerhallModel", name := "left", desc := "()I" } : Jvm.MethodName) ({ cls := "CallerhallModel", name := "left", desc := "()I" } : Jvm.MethodName)) := ex_tt ex_q10 237 rfl rfl
theorem tw_2398 : ex_tW (Jvm.Cond.code ({ cls := "CallerhallModel", name := "left", desc := "()I" } : Jvm.MethodName) prog_14_method_78_code (1 : Nat) (Option.some Jvm.ClassFile.FieldType.int)) := ex_tt ex_q10 238 rfl rfl
theorem tw_2399 : ex_tW (Jvm.Cond.methodLink "CallerhallLaw" (237 : Nat) ({ cls := "CallerhallModel", name := "why", desc := "()C" } : Jvm.MethodName)) := ex_tt ex_q10 239 rfl rfl
theorem tw_2400 : ex_tW (Jvm.Cond.instanceMethod ({ cls := "CallerhallModel", name := "why", desc := "()C" } : Jvm.MethodName)) := ex_tt ex_q11 0 rfl rfl
theorem tw_2401 : ex_tW (Jvm.Cond.selects "CallerhallModel" ({ cls := "CallerhallModel", name := "why", desc := "()C" } : Jvm.MethodName) ({ cls := "CallerhallModel", name := "why", desc := "()C" } : Jvm.MethodName)) := ex_tt ex_q11 1 rfl rfl
theorem tw_2402 : ex_tW (Jvm.Cond.code ({ cls := "CallerhallModel", name := "why", desc := "()C" } : Jvm.MethodName) prog_14_method_79_code (1 : Nat) (Option.some Jvm.ClassFile.FieldType.char)) := ex_tt ex_q11 2 rfl rfl
theorem tw_2403 : ex_tW (Jvm.Cond.methodLink "CallerhallLaw" (240 : Nat) ({ cls := "CallerhallModel", name := "whom", desc := "()I" } : Jvm.MethodName)) := ex_tt ex_q11 3 rfl rfl
theorem tw_2404 : ex_tW (Jvm.Cond.instanceMethod ({ cls := "CallerhallModel", name := "whom", desc := "()I" } : Jvm.MethodName)) := ex_tt ex_q11 4 rfl rfl
theorem tw_2405 : ex_tW (Jvm.Cond.selects "CallerhallModel" ({ cls := "CallerhallModel", name := "whom", desc := "()I" } : Jvm.MethodName) ({ cls := "CallerhallModel", name := "whom", desc := "()I" } : Jvm.MethodName)) := ex_tt ex_q11 5 rfl rfl
theorem tw_2406 : ex_tW (Jvm.Cond.code ({ cls := "CallerhallModel", name := "whom", desc := "()I" } : Jvm.MethodName) prog_14_method_80_code (1 : Nat) (Option.some Jvm.ClassFile.FieldType.int)) := ex_tt ex_q11 6 rfl rfl
theorem tw_2407 : ex_tW (Jvm.Cond.methodLink "CallerhallLaw" (244 : Nat) ({ cls := "CallerhallModel", name := "fits", desc := "(CCC)Z" } : Jvm.MethodName)) := ex_tt ex_q11 7 rfl rfl
theorem tw_2408 : ex_tW (Jvm.Cond.instanceMethod ({ cls := "CallerhallModel", name := "fits", desc := "(CCC)Z" } : Jvm.MethodName)) := ex_tt ex_q11 8 rfl rfl
theorem tw_2409 : ex_tW (Jvm.Cond.selects "CallerhallModel" ({ cls := "CallerhallModel", name := "fits", desc := "(CCC)Z" } : Jvm.MethodName) ({ cls := "CallerhallModel", name := "fits", desc := "(CCC)Z" } : Jvm.MethodName)) := ex_tt ex_q11 9 rfl rfl
theorem tw_2410 : ex_tW (Jvm.Cond.code ({ cls := "CallerhallModel", name := "fits", desc := "(CCC)Z" } : Jvm.MethodName) prog_14_method_81_code (5 : Nat) (Option.some Jvm.ClassFile.FieldType.boolean)) := ex_tt ex_q11 10 rfl rfl
theorem tw_2411 : ex_tW (Jvm.Cond.methodLink "CallerhallLaw" (247 : Nat) ({ cls := "CallerhallModel", name := "back", desc := "()I" } : Jvm.MethodName)) := ex_tt ex_q11 11 rfl rfl
theorem tw_2412 : ex_tW (Jvm.Cond.instanceMethod ({ cls := "CallerhallModel", name := "back", desc := "()I" } : Jvm.MethodName)) := ex_tt ex_q11 12 rfl rfl
theorem tw_2413 : ex_tW (Jvm.Cond.selects "CallerhallModel" ({ cls := "CallerhallModel", name := "back", desc := "()I" } : Jvm.MethodName) ({ cls := "CallerhallModel", name := "back", desc := "()I" } : Jvm.MethodName)) := ex_tt ex_q11 13 rfl rfl
theorem tw_2414 : ex_tW (Jvm.Cond.code ({ cls := "CallerhallModel", name := "back", desc := "()I" } : Jvm.MethodName) prog_14_method_82_code (1 : Nat) (Option.some Jvm.ClassFile.FieldType.int)) := ex_tt ex_q11 14 rfl rfl
theorem tw_2416 : ex_tW (Jvm.Cond.methodLink "CallerhallModel" (509 : Nat) ({ cls := "java/util/List", name := "isEmpty", desc := "()Z" } : Jvm.MethodName)) := ex_tt ex_q11 16 rfl rfl
theorem tw_2419 : ex_tW (Jvm.Cond.selects "java/util/ArrayList" ({ cls := "java/util/List", name := "isEmpty", desc := "()Z" } : Jvm.MethodName) ({ cls := "java/util/ArrayList", name := "isEmpty", desc := "()Z" } : Jvm.MethodName)) := ex_tt ex_q11 19 rfl rfl
theorem tw_2421 : ex_tW (Jvm.Cond.instanceMethod ({ cls := "java/util/ArrayList", name := "isEmpty", desc := "()Z" } : Jvm.MethodName)) := ex_tt ex_q11 21 rfl rfl
theorem tw_2423 : ex_tW (Jvm.Cond.code ({ cls := "java/util/ArrayList", name := "isEmpty", desc := "()Z" } : Jvm.MethodName) prog_43_method_9_code (1 : Nat) (Option.some Jvm.ClassFile.FieldType.boolean)) := ex_tt ex_q11 23 rfl rfl
theorem tw_2424 : ex_tW (Jvm.Cond.methodLink "CallerhallLaw" (251 : Nat) ({ cls := "CallerhallModel", name := "calls", desc := "()I" } : Jvm.MethodName)) := ex_tt ex_q11 24 rfl rfl
theorem tw_2425 : ex_tW (Jvm.Cond.instanceMethod ({ cls := "CallerhallModel", name := "calls", desc := "()I" } : Jvm.MethodName)) := ex_tt ex_q11 25 rfl rfl
theorem tw_2426 : ex_tW (Jvm.Cond.selects "CallerhallModel" ({ cls := "CallerhallModel", name := "calls", desc := "()I" } : Jvm.MethodName) ({ cls := "CallerhallModel", name := "calls", desc := "()I" } : Jvm.MethodName)) := ex_tt ex_q11 26 rfl rfl
theorem tw_2427 : ex_tW (Jvm.Cond.code ({ cls := "CallerhallModel", name := "calls", desc := "()I" } : Jvm.MethodName) prog_14_method_83_code (1 : Nat) (Option.some Jvm.ClassFile.FieldType.int)) := ex_tt ex_q11 27 rfl rfl
theorem tw_2428 : ex_tW (Jvm.Cond.methodLink "CallerhallLaw" (254 : Nat) ({ cls := "CallerhallModel", name := "callAt", desc := "(I)C" } : Jvm.MethodName)) := ex_tt ex_q11 28 rfl rfl
theorem tw_2429 : ex_tW (Jvm.Cond.instanceMethod ({ cls := "CallerhallModel", name := "callAt", desc := "(I)C" } : Jvm.MethodName)) := ex_tt ex_q11 29 rfl rfl
theorem tw_2430 : ex_tW (Jvm.Cond.selects "CallerhallModel" ({ cls := "CallerhallModel", name := "callAt", desc := "(I)C" } : Jvm.MethodName) ({ cls := "CallerhallModel", name := "callAt", desc := "(I)C" } : Jvm.MethodName)) := ex_tt ex_q11 30 rfl rfl
theorem tw_2431 : ex_tW (Jvm.Cond.code ({ cls := "CallerhallModel", name := "callAt", desc := "(I)C" } : Jvm.MethodName) prog_14_method_84_code (2 : Nat) (Option.some Jvm.ClassFile.FieldType.char)) := ex_tt ex_q11 31 rfl rfl
theorem tw_2432 : ex_tW (Jvm.Cond.classLink "CallerhallModel" (475 : Nat) "java/lang/Character") := ex_tt ex_q11 32 rfl rfl
theorem tw_2433 : ex_tW (Jvm.Cond.methodLink "CallerhallModel" (512 : Nat) ({ cls := "java/lang/Character", name := "charValue", desc := "()C" } : Jvm.MethodName)) := ex_tt ex_q11 33 rfl rfl
theorem tw_2434 : ex_tW (Jvm.Cond.instanceMethod ({ cls := "java/lang/Character", name := "charValue", desc := "()C" } : Jvm.MethodName)) := ex_tt ex_q11 34 rfl rfl
theorem tw_2435 : ex_tW (Jvm.Cond.selects "java/lang/Character" ({ cls := "java/lang/Character", name := "charValue", desc := "()C" } : Jvm.MethodName) ({ cls := "java/lang/Character", name := "charValue", desc := "()C" } : Jvm.MethodName)) := ex_tt ex_q11 35 rfl rfl
theorem tw_2436 : ex_tW (Jvm.Cond.code ({ cls := "java/lang/Character", name := "charValue", desc := "()C" } : Jvm.MethodName) prog_22_method_4_code (1 : Nat) (Option.some Jvm.ClassFile.FieldType.char)) := ex_tt ex_q11 36 rfl rfl
theorem tw_2437 : ex_tW (Jvm.Cond.methodLink "CallerhallLaw" (258 : Nat) ({ cls := "CallerhallModel", name := "isAmong", desc := "(IC)Z" } : Jvm.MethodName)) := ex_tt ex_q11 37 rfl rfl
theorem tw_2438 : ex_tW (Jvm.Cond.instanceMethod ({ cls := "CallerhallModel", name := "isAmong", desc := "(IC)Z" } : Jvm.MethodName)) := ex_tt ex_q11 38 rfl rfl
theorem tw_2439 : ex_tW (Jvm.Cond.selects "CallerhallModel" ({ cls := "CallerhallModel", name := "isAmong", desc := "(IC)Z" } : Jvm.MethodName) ({ cls := "CallerhallModel", name := "isAmong", desc := "(IC)Z" } : Jvm.MethodName)) := ex_tt ex_q11 39 rfl rfl
theorem tw_2440 : ex_tW (Jvm.Cond.code ({ cls := "CallerhallModel", name := "isAmong", desc := "(IC)Z" } : Jvm.MethodName) prog_14_method_85_code (4 : Nat) (Option.some Jvm.ClassFile.FieldType.boolean)) := ex_tt ex_q11 40 rfl rfl
theorem tw_2441 : ex_tW (Jvm.Cond.methodLink "CallerhallLaw" (262 : Nat) ({ cls := "CallerhallModel", name := "partner", desc := "(IZI)I" } : Jvm.MethodName)) := ex_tt ex_q11 41 rfl rfl
theorem tw_2442 : ex_tW (Jvm.Cond.instanceMethod ({ cls := "CallerhallModel", name := "partner", desc := "(IZI)I" } : Jvm.MethodName)) := ex_tt ex_q11 42 rfl rfl
theorem tw_2443 : ex_tW (Jvm.Cond.selects "CallerhallModel" ({ cls := "CallerhallModel", name := "partner", desc := "(IZI)I" } : Jvm.MethodName) ({ cls := "CallerhallModel", name := "partner", desc := "(IZI)I" } : Jvm.MethodName)) := ex_tt ex_q11 43 rfl rfl
theorem tw_2444 : ex_tW (Jvm.Cond.code ({ cls := "CallerhallModel", name := "partner", desc := "(IZI)I" } : Jvm.MethodName) prog_14_method_86_code (6 : Nat) (Option.some Jvm.ClassFile.FieldType.int)) := ex_tt ex_q11 44 rfl rfl
theorem tw_2445 : ex_tW (Jvm.Cond.methodLink "CallerhallLaw" (265 : Nat) ({ cls := "CallerhallModel", name := "pair", desc := "(I)C" } : Jvm.MethodName)) := ex_tt ex_q11 45 rfl rfl
theorem tw_2446 : ex_tW (Jvm.Cond.instanceMethod ({ cls := "CallerhallModel", name := "pair", desc := "(I)C" } : Jvm.MethodName)) := ex_tt ex_q11 46 rfl rfl
theorem tw_2447 : ex_tW (Jvm.Cond.selects "CallerhallModel" ({ cls := "CallerhallModel", name := "pair", desc := "(I)C" } : Jvm.MethodName) ({ cls := "CallerhallModel", name := "pair", desc := "(I)C" } : Jvm.MethodName)) := ex_tt ex_q11 47 rfl rfl
theorem tw_2448 : ex_tW (Jvm.Cond.code ({ cls := "CallerhallModel", name := "pair", desc := "(I)C" } : Jvm.MethodName) prog_14_method_87_code (4 : Nat) (Option.some Jvm.ClassFile.FieldType.char)) := ex_tt ex_q11 48 rfl rfl
theorem tw_2449 : ex_tW (Jvm.Cond.methodLink "CallerhallLaw" (269 : Nat) ({ cls := "CallerhallModel", name := "formation", desc := "()C" } : Jvm.MethodName)) := ex_tt ex_q11 49 rfl rfl
theorem tw_2450 : ex_tW (Jvm.Cond.instanceMethod ({ cls := "CallerhallModel", name := "formation", desc := "()C" } : Jvm.MethodName)) := ex_tt ex_q11 50 rfl rfl
theorem tw_2451 : ex_tW (Jvm.Cond.selects "CallerhallModel" ({ cls := "CallerhallModel", name := "formation", desc := "()C" } : Jvm.MethodName) ({ cls := "CallerhallModel", name := "formation", desc := "()C" } : Jvm.MethodName)) := ex_tt ex_q11 51 rfl rfl
theorem tw_2452 : ex_tW (Jvm.Cond.code ({ cls := "CallerhallModel", name := "formation", desc := "()C" } : Jvm.MethodName) prog_14_method_91_code (2 : Nat) (Option.some Jvm.ClassFile.FieldType.char)) := ex_tt ex_q11 52 rfl rfl
theorem tw_2454 : ex_tW (Jvm.Cond.methodLink "CallerhallModel" (525 : Nat) ({ cls := "java/lang/String", name := "length", desc := "()I" } : Jvm.MethodName)) := ex_tt ex_q11 54 rfl rfl
theorem tw_2455 : ex_tW (Jvm.Cond.methodLink "CallerhallModel" (528 : Nat) ({ cls := "java/lang/String", name := "charAt", desc := "(I)C" } : Jvm.MethodName)) := ex_tt ex_q11 55 rfl rfl
theorem tw_2456 : ex_tW (Jvm.Cond.methodLink "CallerhallModel" (532 : Nat) ({ cls := "CallerhallModel", name := "missing", desc := "(C)I" } : Jvm.MethodName)) := ex_tt ex_q11 56 rfl rfl
theorem tw_2458 : ex_tW (Jvm.Cond.instanceMethod ({ cls := "CallerhallModel", name := "missing", desc := "(C)I" } : Jvm.MethodName)) := ex_tt ex_q11 58 rfl rfl
theorem tw_2459 : ex_tW (Jvm.Cond.code ({ cls := "CallerhallModel", name := "missing", desc := "(C)I" } : Jvm.MethodName) prog_14_method_90_code (8 : Nat) (Option.some Jvm.ClassFile.FieldType.int)) := ex_tt ex_q11 59 rfl rfl
theorem tw_2460 : ex_tW (Jvm.Cond.methodLink "CallerhallModel" (520 : Nat) ({ cls := "CallerhallModel", name := "placesOf", desc := "(C)[I" } : Jvm.MethodName)) := ex_tt ex_q11 60 rfl rfl
theorem tw_2462 : ex_tW (Jvm.Cond.instanceMethod ({ cls := "CallerhallModel", name := "placesOf", desc := "(C)[I" } : Jvm.MethodName)) := ex_tt ex_q11 62 rfl rfl
theorem tw_2463 : ex_tW (Jvm.Cond.code ({ cls := "CallerhallModel", name := "placesOf", desc := "(C)[I" } : Jvm.MethodName) prog_14_method_89_code (4 : Nat) (Option.some (Jvm.ClassFile.FieldType.array Jvm.ClassFile.FieldType.int))) := ex_tt ex_q11 63 rfl rfl
theorem tw_2464 : ex_tW (Jvm.Cond.methodLink "CallerhallModel" (516 : Nat) ({ cls := "CallerhallModel", name := "places", desc := "(C)[I" } : Jvm.MethodName)) := ex_tt ex_q11 64 rfl rfl
theorem tw_2465 : ex_tW (Jvm.Cond.static ({ cls := "CallerhallModel", name := "places", desc := "(C)[I" } : Jvm.MethodName)) := ex_tt ex_q11 65 rfl rfl
theorem tw_2466 : ex_tW (Jvm.Cond.code ({ cls := "CallerhallModel", name := "places", desc := "(C)[I" } : Jvm.MethodName) prog_14_method_88_code (8 : Nat) (Option.some (Jvm.ClassFile.FieldType.array Jvm.ClassFile.FieldType.int))) := ex_tt ex_q11 66 rfl rfl
theorem tw_2467 : ex_tW (Jvm.Cond.methodLink "CallerhallLaw" (272 : Nat) ({ cls := "CallerhallModel", name := "repairs", desc := "(C)I" } : Jvm.MethodName)) := ex_tt ex_q11 67 rfl rfl
theorem tw_2468 : ex_tW (Jvm.Cond.instanceMethod ({ cls := "CallerhallModel", name := "repairs", desc := "(C)I" } : Jvm.MethodName)) := ex_tt ex_q11 68 rfl rfl
theorem tw_2469 : ex_tW (Jvm.Cond.selects "CallerhallModel" ({ cls := "CallerhallModel", name := "repairs", desc := "(C)I" } : Jvm.MethodName) ({ cls := "CallerhallModel", name := "repairs", desc := "(C)I" } : Jvm.MethodName)) := ex_tt ex_q11 69 rfl rfl
theorem tw_2470 : ex_tW (Jvm.Cond.code ({ cls := "CallerhallModel", name := "repairs", desc := "(C)I" } : Jvm.MethodName) prog_14_method_92_code (2 : Nat) (Option.some Jvm.ClassFile.FieldType.int)) := ex_tt ex_q11 70 rfl rfl
theorem tw_2471 : ex_tW (Jvm.Cond.methodLink "CallerhallLaw" (277 : Nat) ({ cls := "CallerhallModel", name := "isHome", desc := "()Z" } : Jvm.MethodName)) := ex_tt ex_q11 71 rfl rfl
theorem tw_2472 : ex_tW (Jvm.Cond.instanceMethod ({ cls := "CallerhallModel", name := "isHome", desc := "()Z" } : Jvm.MethodName)) := ex_tt ex_q11 72 rfl rfl
theorem tw_2473 : ex_tW (Jvm.Cond.selects "CallerhallModel" ({ cls := "CallerhallModel", name := "isHome", desc := "()Z" } : Jvm.MethodName) ({ cls := "CallerhallModel", name := "isHome", desc := "()Z" } : Jvm.MethodName)) := ex_tt ex_q11 73 rfl rfl
theorem tw_2474 : ex_tW (Jvm.Cond.code ({ cls := "CallerhallModel", name := "isHome", desc := "()Z" } : Jvm.MethodName) prog_14_method_93_code (1 : Nat) (Option.some Jvm.ClassFile.FieldType.boolean)) := ex_tt ex_q11 74 rfl rfl
theorem tw_2475 : ex_tW (Jvm.Cond.methodLink "CallerhallModel" (536 : Nat) ({ cls := "CallerhallModel", name := "allHome", desc := "([I)Z" } : Jvm.MethodName)) := ex_tt ex_q11 75 rfl rfl
theorem tw_2477 : ex_tW (Jvm.Cond.instanceMethod ({ cls := "CallerhallModel", name := "allHome", desc := "([I)Z" } : Jvm.MethodName)) := ex_tt ex_q11 77 rfl rfl
theorem tw_2478 : ex_tW (Jvm.Cond.code ({ cls := "CallerhallModel", name := "allHome", desc := "([I)Z" } : Jvm.MethodName) prog_14_method_12_code (4 : Nat) (Option.some Jvm.ClassFile.FieldType.boolean)) := ex_tt ex_q11 78 rfl rfl
theorem tw_2479 : ex_tW (Jvm.Cond.methodLink "CallerhallModel" (122 : Nat) ({ cls := "CallerhallModel", name := "same", desc := "([I[I)Z" } : Jvm.MethodName)) := ex_tt ex_q11 79 rfl rfl
theorem tw_2480 : ex_tW (Jvm.Cond.static ({ cls := "CallerhallModel", name := "same", desc := "([I[I)Z" } : Jvm.MethodName)) := ex_tt ex_q11 80 rfl rfl
theorem tw_2481 : ex_tW (Jvm.Cond.code ({ cls := "CallerhallModel", name := "same", desc := "([I[I)Z" } : Jvm.MethodName) prog_14_method_11_code (4 : Nat) (Option.some Jvm.ClassFile.FieldType.boolean)) := ex_tt ex_q11 81 rfl rfl
theorem tw_2482 : ex_tW (Jvm.Cond.methodLink "CallerhallLaw" (281 : Nat) ({ cls := "CallerhallModel", name := "isSymmetric", desc := "()Z" } : Jvm.MethodName)) := ex_tt ex_q11 82 rfl rfl
theorem tw_2483 : ex_tW (Jvm.Cond.instanceMethod ({ cls := "CallerhallModel", name := "isSymmetric", desc := "()Z" } : Jvm.MethodName)) := ex_tt ex_q11 83 rfl rfl
theorem tw_2484 : ex_tW (Jvm.Cond.selects "CallerhallModel" ({ cls := "CallerhallModel", name := "isSymmetric", desc := "()Z" } : Jvm.MethodName) ({ cls := "CallerhallModel", name := "isSymmetric", desc := "()Z" } : Jvm.MethodName)) := ex_tt ex_q11 84 rfl rfl
theorem tw_2485 : ex_tW (Jvm.Cond.code ({ cls := "CallerhallModel", name := "isSymmetric", desc := "()Z" } : Jvm.MethodName) prog_14_method_94_code (4 : Nat) (Option.some Jvm.ClassFile.FieldType.boolean)) := ex_tt ex_q11 85 rfl rfl
theorem tw_2486 : ex_tW (Jvm.Cond.methodLink "CallerhallLaw" (284 : Nat) ({ cls := "CallerhallModel", name := "turned", desc := "(I)I" } : Jvm.MethodName)) := ex_tt ex_q11 86 rfl rfl
theorem tw_2487 : ex_tW (Jvm.Cond.instanceMethod ({ cls := "CallerhallModel", name := "turned", desc := "(I)I" } : Jvm.MethodName)) := ex_tt ex_q11 87 rfl rfl
theorem tw_2488 : ex_tW (Jvm.Cond.selects "CallerhallModel" ({ cls := "CallerhallModel", name := "turned", desc := "(I)I" } : Jvm.MethodName) ({ cls := "CallerhallModel", name := "turned", desc := "(I)I" } : Jvm.MethodName)) := ex_tt ex_q11 88 rfl rfl
theorem tw_2489 : ex_tW (Jvm.Cond.code ({ cls := "CallerhallModel", name := "turned", desc := "(I)I" } : Jvm.MethodName) prog_14_method_95_code (2 : Nat) (Option.some Jvm.ClassFile.FieldType.int)) := ex_tt ex_q11 89 rfl rfl
theorem tw_2490 : ex_tW (Jvm.Cond.methodLink "CallerhallLaw" (288 : Nat) ({ cls := "CallerhallModel", name := "broken", desc := "()I" } : Jvm.MethodName)) := ex_tt ex_q11 90 rfl rfl
theorem tw_2491 : ex_tW (Jvm.Cond.instanceMethod ({ cls := "CallerhallModel", name := "broken", desc := "()I" } : Jvm.MethodName)) := ex_tt ex_q11 91 rfl rfl
theorem tw_2492 : ex_tW (Jvm.Cond.selects "CallerhallModel" ({ cls := "CallerhallModel", name := "broken", desc := "()I" } : Jvm.MethodName) ({ cls := "CallerhallModel", name := "broken", desc := "()I" } : Jvm.MethodName)) := ex_tt ex_q11 92 rfl rfl
theorem tw_2493 : ex_tW (Jvm.Cond.code ({ cls := "CallerhallModel", name := "broken", desc := "()I" } : Jvm.MethodName) prog_14_method_96_code (1 : Nat) (Option.some Jvm.ClassFile.FieldType.int)) := ex_tt ex_q11 93 rfl rfl
theorem tw_2494 : ex_tW (Jvm.Cond.methodLink "CallerhallLaw" (292 : Nat) ({ cls := "CallerhallModel", name := "clashes", desc := "()I" } : Jvm.MethodName)) := ex_tt ex_q11 94 rfl rfl
theorem tw_2495 : ex_tW (Jvm.Cond.instanceMethod ({ cls := "CallerhallModel", name := "clashes", desc := "()I" } : Jvm.MethodName)) := ex_tt ex_q11 95 rfl rfl
theorem tw_2496 : ex_tW (Jvm.Cond.selects "CallerhallModel" ({ cls := "CallerhallModel", name := "clashes", desc := "()I" } : Jvm.MethodName) ({ cls := "CallerhallModel", name := "clashes", desc := "()I" } : Jvm.MethodName)) := ex_tt ex_q11 96 rfl rfl
theorem tw_2497 : ex_tW (Jvm.Cond.code ({ cls := "CallerhallModel", name := "clashes", desc := "()I" } : Jvm.MethodName) prog_14_method_97_code (1 : Nat) (Option.some Jvm.ClassFile.FieldType.int)) := ex_tt ex_q11 97 rfl rfl
theorem tw_2498 : ex_tW (Jvm.Cond.methodLink "CallerhallLaw" (295 : Nat) ({ cls := "CallerhallModel", name := "wayHome", desc := "(I)I" } : Jvm.MethodName)) := ex_tt ex_q11 98 rfl rfl
theorem tw_2499 : ex_tW (Jvm.Cond.instanceMethod ({ cls := "CallerhallModel", name := "wayHome", desc := "(I)I" } : Jvm.MethodName)) := ex_tt ex_q11 99 rfl rfl
theorem tw_2500 : ex_tW (Jvm.Cond.selects "CallerhallModel" ({ cls := "CallerhallModel", name := "wayHome", desc := "(I)I" } : Jvm.MethodName) ({ cls := "CallerhallModel", name := "wayHome", desc := "(I)I" } : Jvm.MethodName)) := ex_tt ex_q11 100 rfl rfl
theorem tw_2501 : ex_tW (Jvm.Cond.code ({ cls := "CallerhallModel", name := "wayHome", desc := "(I)I" } : Jvm.MethodName) prog_14_method_99_code (7 : Nat) (Option.some Jvm.ClassFile.FieldType.int)) := ex_tt ex_q11 101 rfl rfl
theorem tw_2502 : ex_tW (Jvm.Cond.constantLong "CallerhallModel" (540 : Nat) (2 : Int64)) := ex_tt ex_q11 102 rfl rfl
theorem tw_2504 : ex_tW (Jvm.Cond.methodLink "CallerhallModel" (544 : Nat) ({ cls := "CallerhallModel", name := "led", desc := "([IC)[I" } : Jvm.MethodName)) := ex_tt ex_q11 104 rfl rfl
theorem tw_2506 : ex_tW (Jvm.Cond.instanceMethod ({ cls := "CallerhallModel", name := "led", desc := "([IC)[I" } : Jvm.MethodName)) := ex_tt ex_q11 106 rfl rfl
theorem tw_2507 : ex_tW (Jvm.Cond.code ({ cls := "CallerhallModel", name := "led", desc := "([IC)[I" } : Jvm.MethodName) prog_14_method_98_code (5 : Nat) (Option.some (Jvm.ClassFile.FieldType.array Jvm.ClassFile.FieldType.int))) := ex_tt ex_q11 107 rfl rfl
theorem tw_2508 : ex_tW (Jvm.Cond.methodLink "CallerhallLaw" (298 : Nat) ({ cls := "CallerhallModel", name := "wayAt", desc := "(I)C" } : Jvm.MethodName)) := ex_tt ex_q11 108 rfl rfl
theorem tw_2509 : ex_tW (Jvm.Cond.instanceMethod ({ cls := "CallerhallModel", name := "wayAt", desc := "(I)C" } : Jvm.MethodName)) := ex_tt ex_q11 109 rfl rfl
theorem tw_2510 : ex_tW (Jvm.Cond.selects "CallerhallModel" ({ cls := "CallerhallModel", name := "wayAt", desc := "(I)C" } : Jvm.MethodName) ({ cls := "CallerhallModel", name := "wayAt", desc := "(I)C" } : Jvm.MethodName)) := ex_tt ex_q11 110 rfl rfl
theorem tw_2511 : ex_tW (Jvm.Cond.code ({ cls := "CallerhallModel", name := "wayAt", desc := "(I)C" } : Jvm.MethodName) prog_14_method_100_code (2 : Nat) (Option.some Jvm.ClassFile.FieldType.char)) := ex_tt ex_q11 111 rfl rfl
theorem tw_2512 : ex_tW (Jvm.Cond.methodLink "CallerhallLaw" (301 : Nat) ({ cls := "CallerhallModel", name := "sing", desc := "(I)I" } : Jvm.MethodName)) := ex_tt ex_q11 112 rfl rfl
theorem tw_2513 : ex_tW (Jvm.Cond.instanceMethod ({ cls := "CallerhallModel", name := "sing", desc := "(I)I" } : Jvm.MethodName)) := ex_tt ex_q11 113 rfl rfl
theorem tw_2514 : ex_tW (Jvm.Cond.selects "CallerhallModel" ({ cls := "CallerhallModel", name := "sing", desc := "(I)I" } : Jvm.MethodName) ({ cls := "CallerhallModel", name := "sing", desc := "(I)I" } : Jvm.MethodName)) := ex_tt ex_q11 114 rfl rfl
theorem tw_2515 : ex_tW (Jvm.Cond.code ({ cls := "CallerhallModel", name := "sing", desc := "(I)I" } : Jvm.MethodName) prog_14_method_101_code (3 : Nat) (Option.some Jvm.ClassFile.FieldType.int)) := ex_tt ex_q11 115 rfl rfl
theorem tw_2516 : ex_tW (Jvm.Cond.constantLong "CallerhallModel" (548 : Nat) (8 : Int64)) := ex_tt ex_q11 116 rfl rfl
theorem tw_2517 : ex_tW (Jvm.Cond.constantLong "CallerhallModel" (550 : Nat) (128 : Int64)) := ex_tt ex_q11 117 rfl rfl
theorem tw_2518 : ex_tW (Jvm.Cond.methodLink "CallerhallLaw" (305 : Nat) ({ cls := "CallerhallModel", name := "sung", desc := "()I" } : Jvm.MethodName)) := ex_tt ex_q11 118 rfl rfl
theorem tw_2519 : ex_tW (Jvm.Cond.instanceMethod ({ cls := "CallerhallModel", name := "sung", desc := "()I" } : Jvm.MethodName)) := ex_tt ex_q11 119 rfl rfl
theorem tw_2520 : ex_tW (Jvm.Cond.selects "CallerhallModel" ({ cls := "CallerhallModel", name := "sung", desc := "()I" } : Jvm.MethodName) ({ cls := "CallerhallModel", name := "sung", desc := "()I" } : Jvm.MethodName)) := ex_tt ex_q11 120 rfl rfl
theorem tw_2521 : ex_tW (Jvm.Cond.code ({ cls := "CallerhallModel", name := "sung", desc := "()I" } : Jvm.MethodName) prog_14_method_102_code (1 : Nat) (Option.some Jvm.ClassFile.FieldType.int)) := ex_tt ex_q11 121 rfl rfl
theorem tw_2522 : ex_tW (Jvm.Cond.methodLink "CallerhallLaw" (308 : Nat) ({ cls := "CallerhallModel", name := "progress", desc := "()I" } : Jvm.MethodName)) := ex_tt ex_q11 122 rfl rfl
theorem tw_2523 : ex_tW (Jvm.Cond.instanceMethod ({ cls := "CallerhallModel", name := "progress", desc := "()I" } : Jvm.MethodName)) := ex_tt ex_q11 123 rfl rfl
theorem tw_2524 : ex_tW (Jvm.Cond.selects "CallerhallModel" ({ cls := "CallerhallModel", name := "progress", desc := "()I" } : Jvm.MethodName) ({ cls := "CallerhallModel", name := "progress", desc := "()I" } : Jvm.MethodName)) := ex_tt ex_q11 124 rfl rfl
theorem tw_2525 : ex_tW (Jvm.Cond.code ({ cls := "CallerhallModel", name := "progress", desc := "()I" } : Jvm.MethodName) prog_14_method_103_code (2 : Nat) (Option.some Jvm.ClassFile.FieldType.int)) := ex_tt ex_q11 125 rfl rfl
theorem tw_2526 : ex_tW (Jvm.Cond.methodLink "CallerhallModel" (552 : Nat) ({ cls := "CallerhallModel", name := "home", desc := "()I" } : Jvm.MethodName)) := ex_tt ex_q11 126 rfl rfl
theorem tw_2527 : ex_tW (Jvm.Cond.methodLink "CallerhallLaw" (312 : Nat) ({ cls := "CallerhallModel", name := "gone", desc := "()I" } : Jvm.MethodName)) := ex_tt ex_q11 127 rfl rfl
theorem tw_2528 : ex_tW (Jvm.Cond.instanceMethod ({ cls := "CallerhallModel", name := "gone", desc := "()I" } : Jvm.MethodName)) := ex_tt ex_q11 128 rfl rfl
theorem tw_2529 : ex_tW (Jvm.Cond.selects "CallerhallModel" ({ cls := "CallerhallModel", name := "gone", desc := "()I" } : Jvm.MethodName) ({ cls := "CallerhallModel", name := "gone", desc := "()I" } : Jvm.MethodName)) := ex_tt ex_q11 129 rfl rfl
theorem tw_2530 : ex_tW (Jvm.Cond.code ({ cls := "CallerhallModel", name := "gone", desc := "()I" } : Jvm.MethodName) prog_14_method_104_code (1 : Nat) (Option.some Jvm.ClassFile.FieldType.int)) := ex_tt ex_q11 130 rfl rfl
theorem tw_2531 : ex_tW (Jvm.Cond.methodLink "CallerhallLaw" (315 : Nat) ({ cls := "CallerhallModel", name := "hall", desc := "(I)I" } : Jvm.MethodName)) := ex_tt ex_q11 131 rfl rfl
theorem tw_2532 : ex_tW (Jvm.Cond.instanceMethod ({ cls := "CallerhallModel", name := "hall", desc := "(I)I" } : Jvm.MethodName)) := ex_tt ex_q11 132 rfl rfl
theorem tw_2533 : ex_tW (Jvm.Cond.selects "CallerhallModel" ({ cls := "CallerhallModel", name := "hall", desc := "(I)I" } : Jvm.MethodName) ({ cls := "CallerhallModel", name := "hall", desc := "(I)I" } : Jvm.MethodName)) := ex_tt ex_q11 133 rfl rfl
theorem tw_2534 : ex_tW (Jvm.Cond.code ({ cls := "CallerhallModel", name := "hall", desc := "(I)I" } : Jvm.MethodName) prog_14_method_105_code (3 : Nat) (Option.some Jvm.ClassFile.FieldType.int)) := ex_tt ex_q11 134 rfl rfl
theorem tw_2535 : ex_tW (Jvm.Cond.constantLong "CallerhallModel" (555 : Nat) (4 : Int64)) := ex_tt ex_q11 135 rfl rfl
theorem tw_2536 : ex_tW (Jvm.Cond.constantLong "CallerhallModel" (557 : Nat) (16 : Int64)) := ex_tt ex_q11 136 rfl rfl
theorem tw_2537 : ex_tW (Jvm.Cond.methodLink "CallerhallLaw" (318 : Nat) ({ cls := "CallerhallModel", name := "tip", desc := "()I" } : Jvm.MethodName)) := ex_tt ex_q11 137 rfl rfl
theorem tw_2538 : ex_tW (Jvm.Cond.instanceMethod ({ cls := "CallerhallModel", name := "tip", desc := "()I" } : Jvm.MethodName)) := ex_tt ex_q11 138 rfl rfl
theorem tw_2539 : ex_tW (Jvm.Cond.selects "CallerhallModel" ({ cls := "CallerhallModel", name := "tip", desc := "()I" } : Jvm.MethodName) ({ cls := "CallerhallModel", name := "tip", desc := "()I" } : Jvm.MethodName)) := ex_tt ex_q11 139 rfl rfl
theorem tw_2540 : ex_tW (Jvm.Cond.code ({ cls := "CallerhallModel", name := "tip", desc := "()I" } : Jvm.MethodName) prog_14_method_108_code (11 : Nat) (Option.some Jvm.ClassFile.FieldType.int)) := ex_tt ex_q11 140 rfl rfl
theorem tw_2541 : ex_tW (Jvm.Cond.methodLink "CallerhallModel" (562 : Nat) ({ cls := "CallerhallModel", name := "danced", desc := "(I)I" } : Jvm.MethodName)) := ex_tt ex_q11 141 rfl rfl
theorem tw_2543 : ex_tW (Jvm.Cond.instanceMethod ({ cls := "CallerhallModel", name := "danced", desc := "(I)I" } : Jvm.MethodName)) := ex_tt ex_q11 143 rfl rfl
theorem tw_2544 : ex_tW (Jvm.Cond.code ({ cls := "CallerhallModel", name := "danced", desc := "(I)I" } : Jvm.MethodName) prog_14_method_107_code (5 : Nat) (Option.some Jvm.ClassFile.FieldType.int)) := ex_tt ex_q11 144 rfl rfl
theorem tw_2545 : ex_tW (Jvm.Cond.methodLink "CallerhallModel" (565 : Nat) ({ cls := "CallerhallModel", name := "metOf", desc := "(II)I" } : Jvm.MethodName)) := ex_tt ex_q11 145 rfl rfl
theorem tw_2547 : ex_tW (Jvm.Cond.instanceMethod ({ cls := "CallerhallModel", name := "metOf", desc := "(II)I" } : Jvm.MethodName)) := ex_tt ex_q11 147 rfl rfl
theorem tw_2548 : ex_tW (Jvm.Cond.code ({ cls := "CallerhallModel", name := "metOf", desc := "(II)I" } : Jvm.MethodName) prog_14_method_106_code (6 : Nat) (Option.some Jvm.ClassFile.FieldType.int)) := ex_tt ex_q11 148 rfl rfl
theorem tw_2549 : ex_tW (Jvm.Cond.methodLink "CallerhallLaw" (321 : Nat) ({ cls := "CallerhallModel", name := "setOf", desc := "(II)I" } : Jvm.MethodName)) := ex_tt ex_q11 149 rfl rfl
theorem tw_2550 : ex_tW (Jvm.Cond.instanceMethod ({ cls := "CallerhallModel", name := "setOf", desc := "(II)I" } : Jvm.MethodName)) := ex_tt ex_q11 150 rfl rfl
theorem tw_2551 : ex_tW (Jvm.Cond.selects "CallerhallModel" ({ cls := "CallerhallModel", name := "setOf", desc := "(II)I" } : Jvm.MethodName) ({ cls := "CallerhallModel", name := "setOf", desc := "(II)I" } : Jvm.MethodName)) := ex_tt ex_q11 151 rfl rfl
theorem tw_2552 : ex_tW (Jvm.Cond.code ({ cls := "CallerhallModel", name := "setOf", desc := "(II)I" } : Jvm.MethodName) prog_14_method_109_code (3 : Nat) (Option.some Jvm.ClassFile.FieldType.int)) := ex_tt ex_q11 152 rfl rfl
theorem tw_2553 : ex_tW (Jvm.Cond.methodLink "CallerhallLaw" (324 : Nat) ({ cls := "CallerhallModel", name := "met", desc := "(II)I" } : Jvm.MethodName)) := ex_tt ex_q11 153 rfl rfl
theorem tw_2554 : ex_tW (Jvm.Cond.instanceMethod ({ cls := "CallerhallModel", name := "met", desc := "(II)I" } : Jvm.MethodName)) := ex_tt ex_q11 154 rfl rfl
theorem tw_2555 : ex_tW (Jvm.Cond.selects "CallerhallModel" ({ cls := "CallerhallModel", name := "met", desc := "(II)I" } : Jvm.MethodName) ({ cls := "CallerhallModel", name := "met", desc := "(II)I" } : Jvm.MethodName)) := ex_tt ex_q11 155 rfl rfl
theorem tw_2556 : ex_tW (Jvm.Cond.code ({ cls := "CallerhallModel", name := "met", desc := "(II)I" } : Jvm.MethodName) prog_14_method_110_code (3 : Nat) (Option.some Jvm.ClassFile.FieldType.int)) := ex_tt ex_q11 156 rfl rfl
theorem tw_2557 : ex_tW (Jvm.Cond.methodLink "CallerhallLaw" (329 : Nat) ({ cls := "CallerhallModel", name := "beats", desc := "()J" } : Jvm.MethodName)) := ex_tt ex_q11 157 rfl rfl
theorem tw_2558 : ex_tW (Jvm.Cond.instanceMethod ({ cls := "CallerhallModel", name := "beats", desc := "()J" } : Jvm.MethodName)) := ex_tt ex_q11 158 rfl rfl
theorem tw_2559 : ex_tW (Jvm.Cond.selects "CallerhallModel" ({ cls := "CallerhallModel", name := "beats", desc := "()J" } : Jvm.MethodName) ({ cls := "CallerhallModel", name := "beats", desc := "()J" } : Jvm.MethodName)) := ex_tt ex_q11 159 rfl rfl
theorem tw_2560 : ex_tW (Jvm.Cond.code ({ cls := "CallerhallModel", name := "beats", desc := "()J" } : Jvm.MethodName) prog_14_method_111_code (1 : Nat) (Option.some Jvm.ClassFile.FieldType.long)) := ex_tt ex_q11 160 rfl rfl
theorem tw_2561 : ex_tW (Jvm.Cond.methodLink "CallerhallLaw" (333 : Nat) ({ cls := "CallerhallModel", name := "doneShare", desc := "()F" } : Jvm.MethodName)) := ex_tt ex_q11 161 rfl rfl
theorem tw_2562 : ex_tW (Jvm.Cond.instanceMethod ({ cls := "CallerhallModel", name := "doneShare", desc := "()F" } : Jvm.MethodName)) := ex_tt ex_q11 162 rfl rfl
theorem tw_2563 : ex_tW (Jvm.Cond.selects "CallerhallModel" ({ cls := "CallerhallModel", name := "doneShare", desc := "()F" } : Jvm.MethodName) ({ cls := "CallerhallModel", name := "doneShare", desc := "()F" } : Jvm.MethodName)) := ex_tt ex_q11 163 rfl rfl
theorem tw_2564 : ex_tW (Jvm.Cond.code ({ cls := "CallerhallModel", name := "doneShare", desc := "()F" } : Jvm.MethodName) prog_14_method_112_code (1 : Nat) (Option.some Jvm.ClassFile.FieldType.float)) := ex_tt ex_q11 164 rfl rfl
theorem tw_2565 : ex_tW (Jvm.Cond.methodLink "CallerhallLaw" (338 : Nat) ({ cls := "CallerhallModel", name := "meanAway", desc := "()D" } : Jvm.MethodName)) := ex_tt ex_q11 165 rfl rfl
theorem tw_2566 : ex_tW (Jvm.Cond.instanceMethod ({ cls := "CallerhallModel", name := "meanAway", desc := "()D" } : Jvm.MethodName)) := ex_tt ex_q11 166 rfl rfl
theorem tw_2567 : ex_tW (Jvm.Cond.selects "CallerhallModel" ({ cls := "CallerhallModel", name := "meanAway", desc := "()D" } : Jvm.MethodName) ({ cls := "CallerhallModel", name := "meanAway", desc := "()D" } : Jvm.MethodName)) := ex_tt ex_q11 167 rfl rfl
theorem tw_2568 : ex_tW (Jvm.Cond.code ({ cls := "CallerhallModel", name := "meanAway", desc := "()D" } : Jvm.MethodName) prog_14_method_113_code (4 : Nat) (Option.some Jvm.ClassFile.FieldType.double)) := ex_tt ex_q11 168 rfl rfl
theorem tw_2569 : ex_tW (Jvm.Cond.constantDouble "CallerhallModel" (568 : Nat) (4620693217682128896 : UInt64)) := ex_tt ex_q11 169 rfl rfl
theorem tw_2570 : ex_tW (Jvm.Cond.methodLink "CallerhallLaw" (342 : Nat) ({ cls := "CallerhallModel", name := "isConsistent", desc := "()Z" } : Jvm.MethodName)) := ex_tt ex_q11 170 rfl rfl
theorem tw_2571 : ex_tW (Jvm.Cond.instanceMethod ({ cls := "CallerhallModel", name := "isConsistent", desc := "()Z" } : Jvm.MethodName)) := ex_tt ex_q11 171 rfl rfl
theorem tw_2572 : ex_tW (Jvm.Cond.selects "CallerhallModel" ({ cls := "CallerhallModel", name := "isConsistent", desc := "()Z" } : Jvm.MethodName) ({ cls := "CallerhallModel", name := "isConsistent", desc := "()Z" } : Jvm.MethodName)) := ex_tt ex_q11 172 rfl rfl
theorem tw_2573 : ex_tW (Jvm.Cond.code ({ cls := "CallerhallModel", name := "isConsistent", desc := "()Z" } : Jvm.MethodName) prog_14_method_114_code (1 : Nat) (Option.some Jvm.ClassFile.FieldType.boolean)) := ex_tt ex_q11 173 rfl rfl
theorem tw_2574 : ex_tW (Jvm.Cond.arrayClass Jvm.ClassFile.FieldType.long) := ex_tt ex_q11 174 rfl rfl
theorem tw_2575 : ex_tW (Jvm.Cond.arrayClass Jvm.ClassFile.FieldType.double) := ex_tt ex_q11 175 rfl rfl
theorem tw_2617 : ex_tW (Jvm.Cond.fieldLink "java/lang/String" (15 : Nat) "java/lang/String" "coder" "B") := ex_tt ex_q11 217 rfl rfl
theorem tw_2618 : ex_tW (Jvm.Cond.fieldLink "java/lang/String" (9 : Nat) "java/lang/String" "value" "[B") := ex_tt ex_q11 218 rfl rfl
theorem tm_44 : ex_tW (Cond.methodLink "CallerhallLaw" 146 (ex_inf 94).1) := tw_44
theorem tm_45 : ex_tW (Cond.instanceMethod (ex_inf 94).1) := tw_45
theorem tm_52 : (Cond.methodLinkNest "Callerhall" 9 (ex_inf 41).1 "Callerhall") ∈ ex_TN := tw_52
theorem tm_53 : ex_tW (Cond.instanceMethod (ex_inf 41).1) := tw_53
theorem tm_83 : ex_tW (Cond.methodLink "Callerhall" 31 (ex_inf 58).1) := tw_83
theorem tm_84 : ex_tW (Cond.instanceMethod (ex_inf 58).1) := tw_84
theorem tm_89 : (Cond.methodLinkNest "Callerhall$Stage" 11 (ex_inf 6).1 "Callerhall") ∈ ex_TN := tw_89
theorem tm_90 : ex_tW (Cond.instanceMethod (ex_inf 6).1) := tw_90
theorem tm_165 : (Cond.methodLinkNest "Callerhall$Stage" 26 (ex_inf 68).1 "Callerhall") ∈ ex_TN := tw_165
theorem tm_166 : ex_tW (Cond.instanceMethod (ex_inf 68).1) := tw_166
theorem tm_241 : (Cond.methodLinkNest "Callerhall" 40 (ex_inf 0).1 "Callerhall") ∈ ex_TN := tw_241
theorem tm_242 : ex_tW (Cond.instanceMethod (ex_inf 0).1) := tw_242
theorem tm_277 : (Cond.methodLinkNest "Callerhall" 47 (ex_inf 46).1 "Callerhall") ∈ ex_TN := tw_277
theorem tm_278 : ex_tW (Cond.instanceMethod (ex_inf 46).1) := tw_278
theorem tm_319 : (Cond.methodLinkNest "Callerhall" 57 (ex_inf 36).1 "Callerhall") ∈ ex_TN := tw_319
theorem tm_320 : ex_tW (Cond.instanceMethod (ex_inf 36).1) := tw_320
theorem tm_341 : (Cond.methodLinkNest "Callerhall" 64 (ex_inf 26).1 "Callerhall") ∈ ex_TN := tw_341
theorem tm_342 : ex_tW (Cond.instanceMethod (ex_inf 26).1) := tw_342
theorem tm_366 : (Cond.methodLinkNest "Callerhall" 71 (ex_inf 55).1 "Callerhall") ∈ ex_TN := tw_366
theorem tm_367 : ex_tW (Cond.instanceMethod (ex_inf 55).1) := tw_367
theorem tm_389 : (Cond.methodLinkNest "Callerhall" 78 (ex_inf 29).1 "Callerhall") ∈ ex_TN := tw_389
theorem tm_390 : ex_tW (Cond.instanceMethod (ex_inf 29).1) := tw_390
theorem tm_416 : (Cond.methodLinkNest "Callerhall" 85 (ex_inf 93).1 "Callerhall") ∈ ex_TN := tw_416
theorem tm_417 : ex_tW (Cond.instanceMethod (ex_inf 93).1) := tw_417
theorem tm_443 : ex_tW (Cond.methodLink "Callerhall" 118 (ex_inf 42).1) := tw_443
theorem tm_444 : ex_tW (Cond.instanceMethod (ex_inf 42).1) := tw_444
theorem tm_445 : ex_tW (Cond.selects "Callerhall$Places" (ex_inf 42).1 (ex_inf 42).1) := tw_445
theorem tm_505 : ex_tW (Cond.methodLink "CallerhallLaw" 150 (ex_inf 95).1) := tw_505
theorem tm_506 : ex_tW (Cond.instanceMethod (ex_inf 95).1) := tw_506
theorem tm_507 : ex_tW (Cond.selects "Callerhall" (ex_inf 95).1 (ex_inf 95).1) := tw_507
theorem tm_509 : ex_tW (Cond.methodLink "Callerhall" 122 (ex_inf 165).1) := tw_509
theorem tm_511 : ex_tW (Cond.instanceMethod (ex_inf 165).1) := tw_511
theorem tm_513 : ex_tW (Cond.methodLink "Callerhall" 406 (ex_inf 164).1) := tw_513
theorem tm_515 : ex_tW (Cond.instanceMethod (ex_inf 164).1) := tw_515
theorem tm_517 : ex_tW (Cond.methodLink "Callerhall" 126 (ex_inf 162).1) := tw_517
theorem tm_519 : ex_tW (Cond.instanceMethod (ex_inf 162).1) := tw_519
theorem tm_521 : ex_tW (Cond.methodLink "Callerhall" 459 (ex_inf 27).1) := tw_521
theorem tm_522 : ex_tW (Cond.instanceMethod (ex_inf 27).1) := tw_522
theorem tm_523 : ex_tW (Cond.selects "Callerhall$Flow" (ex_inf 27).1 (ex_inf 27).1) := tw_523
theorem tm_525 : ex_tW (Cond.methodLink "Callerhall" 153 (ex_inf 163).1) := tw_525
theorem tm_527 : ex_tW (Cond.instanceMethod (ex_inf 163).1) := tw_527
theorem tm_529 : ex_tW (Cond.methodLink "Callerhall" 175 (ex_inf 47).1) := tw_529
theorem tm_530 : ex_tW (Cond.instanceMethod (ex_inf 47).1) := tw_530
theorem tm_531 : ex_tW (Cond.selects "Callerhall$Plan" (ex_inf 47).1 (ex_inf 47).1) := tw_531
theorem tm_533 : ex_tW (Cond.methodLink "CallerhallLaw" 190 (ex_inf 105).1) := tw_533
theorem tm_534 : ex_tW (Cond.instanceMethod (ex_inf 105).1) := tw_534
theorem tm_535 : ex_tW (Cond.selects "Callerhall" (ex_inf 105).1 (ex_inf 105).1) := tw_535
theorem tm_537 : ex_tW (Cond.methodLink "CallerhallLaw" 229 (ex_inf 116).1) := tw_537
theorem tm_538 : ex_tW (Cond.instanceMethod (ex_inf 116).1) := tw_538
theorem tm_539 : ex_tW (Cond.selects "Callerhall" (ex_inf 116).1 (ex_inf 116).1) := tw_539
theorem tm_541 : ex_tW (Cond.methodLink "CallerhallLaw" 233 (ex_inf 117).1) := tw_541
theorem tm_542 : ex_tW (Cond.instanceMethod (ex_inf 117).1) := tw_542
theorem tm_543 : ex_tW (Cond.selects "Callerhall" (ex_inf 117).1 (ex_inf 117).1) := tw_543
theorem tm_545 : ex_tW (Cond.methodLink "CallerhallLaw" 248 (ex_inf 121).1) := tw_545
theorem tm_546 : ex_tW (Cond.instanceMethod (ex_inf 121).1) := tw_546
theorem tm_547 : ex_tW (Cond.selects "Callerhall" (ex_inf 121).1 (ex_inf 121).1) := tw_547
theorem tm_549 : ex_tW (Cond.methodLink "CallerhallLaw" 266 (ex_inf 126).1) := tw_549
theorem tm_550 : ex_tW (Cond.instanceMethod (ex_inf 126).1) := tw_550
theorem tm_551 : ex_tW (Cond.selects "Callerhall" (ex_inf 126).1 (ex_inf 126).1) := tw_551
theorem tm_554 : ex_tW (Cond.methodLink "Callerhall" 327 (ex_inf 303).1) := tw_554
theorem tm_555 : ex_tW (Cond.instanceMethod (ex_inf 303).1) := tw_555
theorem tm_556 : ex_tW (Cond.selects "java/lang/String" (ex_inf 303).1 (ex_inf 303).1) := tw_556
theorem tm_558 : ex_tW (Cond.methodLink "java/lang/String" 335 (ex_inf 307).1) := tw_558
theorem tm_559 : ex_tW (Cond.instanceMethod (ex_inf 307).1) := tw_559
theorem tm_560 : ex_tW (Cond.selects "java/lang/String" (ex_inf 307).1 (ex_inf 307).1) := tw_560
theorem tm_564 : ex_tW (Cond.methodLink "Callerhall" 330 (ex_inf 167).1) := tw_564
theorem tm_566 : ex_tW (Cond.instanceMethod (ex_inf 167).1) := tw_566
theorem tm_568 : ex_tW (Cond.methodLink "Callerhall" 460 (ex_inf 168).1) := tw_568
theorem tm_570 : ex_tW (Cond.instanceMethod (ex_inf 168).1) := tw_570
theorem tm_572 : ex_tW (Cond.methodLink "Callerhall" 165 (ex_inf 169).1) := tw_572
theorem tm_573 : ex_tW (Cond.static (ex_inf 169).1) := tw_573
theorem tm_575 : ex_tW (Cond.methodLink "Callerhall" 169 (ex_inf 170).1) := tw_575
theorem tm_576 : ex_tW (Cond.static (ex_inf 170).1) := tw_576
theorem tm_578 : ex_tW (Cond.methodLink "Callerhall" 467 (ex_inf 301).1) := tw_578
theorem tm_579 : ex_tW (Cond.static (ex_inf 301).1) := tw_579
theorem tm_587 : ex_tW (Cond.methodLink "Callerhall" 464 (ex_inf 302).1) := tw_587
theorem tm_588 : ex_tW (Cond.static (ex_inf 302).1) := tw_588
theorem tm_590 : ex_tW (Cond.methodLink "Callerhall" 333 (ex_inf 304).1) := tw_590
theorem tm_591 : ex_tW (Cond.instanceMethod (ex_inf 304).1) := tw_591
theorem tm_592 : ex_tW (Cond.selects "java/lang/String" (ex_inf 304).1 (ex_inf 304).1) := tw_592
theorem tm_594 : ex_tW (Cond.methodLink "java/lang/String" 492 (ex_inf 308).1) := tw_594
theorem tm_595 : ex_tW (Cond.instanceMethod (ex_inf 308).1) := tw_595
theorem tm_596 : ex_tW (Cond.selects "java/lang/String" (ex_inf 308).1 (ex_inf 308).1) := tw_596
theorem tm_598 : ex_tW (Cond.methodLink "java/lang/String" 495 (ex_inf 311).1) := tw_598
theorem tm_599 : ex_tW (Cond.static (ex_inf 311).1) := tw_599
theorem tm_601 : ex_tW (Cond.methodLink "java/lang/StringLatin1" 9 (ex_inf 309).1) := tw_601
theorem tm_602 : ex_tW (Cond.static (ex_inf 309).1) := tw_602
theorem tm_606 : ex_tW (Cond.methodLink "java/lang/String" 1059 (ex_inf 350).1) := tw_606
theorem tm_607 : ex_tW (Cond.static (ex_inf 350).1) := tw_607
theorem tm_609 : ex_tW (Cond.methodLink "java/lang/String" 498 (ex_inf 321).1) := tw_609
theorem tm_610 : ex_tW (Cond.static (ex_inf 321).1) := tw_610
theorem tm_612 : ex_tW (Cond.methodLink "java/lang/StringUTF16" 67 (ex_inf 322).1) := tw_612
theorem tm_613 : ex_tW (Cond.static (ex_inf 322).1) := tw_613
theorem tm_615 : ex_tW (Cond.methodLink "java/lang/StringUTF16" 48 (ex_inf 316).1) := tw_615
theorem tm_616 : ex_tW (Cond.static (ex_inf 316).1) := tw_616
theorem tm_618 : ex_tW (Cond.methodLink "java/lang/StringUTF16" 414 (ex_inf 309).1) := tw_618
theorem tm_619 : ex_tW (Cond.methodLink "java/lang/StringUTF16" 71 (ex_inf 315).1) := tw_619
theorem tm_620 : ex_tW (Cond.static (ex_inf 315).1) := tw_620
theorem tm_629 : ex_tW (Cond.methodLink "CallerhallLaw" 273 (ex_inf 128).1) := tw_629
theorem tm_630 : ex_tW (Cond.instanceMethod (ex_inf 128).1) := tw_630
theorem tm_631 : ex_tW (Cond.selects "Callerhall" (ex_inf 128).1 (ex_inf 128).1) := tw_631
theorem tm_633 : ex_tW (Cond.methodLink "Callerhall" 336 (ex_inf 166).1) := tw_633
theorem tm_635 : ex_tW (Cond.instanceMethod (ex_inf 166).1) := tw_635
theorem tm_637 : ex_tW (Cond.methodLink "CallerhallLaw" 278 (ex_inf 129).1) := tw_637
theorem tm_638 : ex_tW (Cond.instanceMethod (ex_inf 129).1) := tw_638
theorem tm_639 : ex_tW (Cond.selects "Callerhall" (ex_inf 129).1 (ex_inf 129).1) := tw_639
theorem tm_641 : ex_tW (Cond.methodLink "CallerhallLaw" 285 (ex_inf 131).1) := tw_641
theorem tm_642 : ex_tW (Cond.instanceMethod (ex_inf 131).1) := tw_642
theorem tm_643 : ex_tW (Cond.selects "Callerhall" (ex_inf 131).1 (ex_inf 131).1) := tw_643
theorem tm_645 : ex_tW (Cond.methodLink "CallerhallLaw" 289 (ex_inf 132).1) := tw_645
theorem tm_646 : ex_tW (Cond.instanceMethod (ex_inf 132).1) := tw_646
theorem tm_647 : ex_tW (Cond.selects "Callerhall" (ex_inf 132).1 (ex_inf 132).1) := tw_647
theorem tm_649 : ex_tW (Cond.methodLink "CallerhallLaw" 302 (ex_inf 136).1) := tw_649
theorem tm_650 : ex_tW (Cond.instanceMethod (ex_inf 136).1) := tw_650
theorem tm_651 : ex_tW (Cond.selects "Callerhall" (ex_inf 136).1 (ex_inf 136).1) := tw_651
theorem tm_653 : ex_tW (Cond.methodLink "CallerhallLaw" 309 (ex_inf 138).1) := tw_653
theorem tm_654 : ex_tW (Cond.instanceMethod (ex_inf 138).1) := tw_654
theorem tm_655 : ex_tW (Cond.selects "Callerhall" (ex_inf 138).1 (ex_inf 138).1) := tw_655
theorem tm_657 : ex_tW (Cond.methodLink "CallerhallLaw" 325 (ex_inf 143).1) := tw_657
theorem tm_658 : ex_tW (Cond.instanceMethod (ex_inf 143).1) := tw_658
theorem tm_659 : ex_tW (Cond.selects "Callerhall" (ex_inf 143).1 (ex_inf 143).1) := tw_659
theorem tm_661 : ex_tW (Cond.methodLink "CallerhallLaw" 334 (ex_inf 145).1) := tw_661
theorem tm_662 : ex_tW (Cond.instanceMethod (ex_inf 145).1) := tw_662
theorem tm_663 : ex_tW (Cond.selects "Callerhall" (ex_inf 145).1 (ex_inf 145).1) := tw_663
theorem tm_665 : ex_tW (Cond.methodLink "Callerhall" 409 (ex_inf 300).1) := tw_665
theorem tm_666 : ex_tW (Cond.static (ex_inf 300).1) := tw_666
theorem tm_669 : ex_tW (Cond.methodLink "CallerhallLaw" 339 (ex_inf 146).1) := tw_669
theorem tm_670 : ex_tW (Cond.instanceMethod (ex_inf 146).1) := tw_670
theorem tm_671 : ex_tW (Cond.selects "Callerhall" (ex_inf 146).1 (ex_inf 146).1) := tw_671
theorem tm_673 : ex_tW (Cond.methodLink "Callerhall" 146 (ex_inf 43).1) := tw_673
theorem tm_674 : ex_tW (Cond.instanceMethod (ex_inf 43).1) := tw_674
theorem tm_675 : ex_tW (Cond.selects "Callerhall$Places" (ex_inf 43).1 (ex_inf 43).1) := tw_675
theorem tm_678 : ex_tW (Cond.methodLink "Callerhall" 414 (ex_inf 161).1) := tw_678
theorem tm_680 : ex_tW (Cond.instanceMethod (ex_inf 161).1) := tw_680
theorem tm_682 : ex_tW (Cond.methodLink "Callerhall" 280 (ex_inf 49).1) := tw_682
theorem tm_683 : ex_tW (Cond.instanceMethod (ex_inf 49).1) := tw_683
theorem tm_684 : ex_tW (Cond.selects "Callerhall$Plan" (ex_inf 49).1 (ex_inf 49).1) := tw_684
theorem tm_686 : ex_tW (Cond.methodLink "Callerhall$Plan" 54 (ex_inf 47).1) := tw_686
theorem tm_687 : ex_tW (Cond.methodLink "Callerhall$Plan" 57 (ex_inf 48).1) := tw_687
theorem tm_689 : ex_tW (Cond.instanceMethod (ex_inf 48).1) := tw_689
theorem tm_695 : ex_tW (Cond.methodLink "Callerhall$Plan" 48 (ex_inf 301).1) := tw_695
theorem tm_696 : ex_tW (Cond.methodLink "Callerhall" 242 (ex_inf 59).1) := tw_696
theorem tm_697 : ex_tW (Cond.instanceMethod (ex_inf 59).1) := tw_697
theorem tm_698 : ex_tW (Cond.selects "Callerhall$Stage" (ex_inf 59).1 (ex_inf 59).1) := tw_698
theorem tm_700 : ex_tW (Cond.methodLink "Callerhall$Stage" 46 (ex_inf 8).1) := tw_700
theorem tm_701 : ex_tW (Cond.instanceMethod (ex_inf 8).1) := tw_701
theorem tm_702 : ex_tW (Cond.selects "Callerhall$Floor" (ex_inf 8).1 (ex_inf 8).1) := tw_702
theorem tm_704 : ex_tW (Cond.methodLink "Callerhall$Floor" 63 (ex_inf 12).1) := tw_704
theorem tm_705 : ex_tW (Cond.static (ex_inf 12).1) := tw_705
theorem tm_707 : ex_tW (Cond.methodLink "Callerhall$Floor" 72 (ex_inf 7).1) := tw_707
theorem tm_709 : ex_tW (Cond.instanceMethod (ex_inf 7).1) := tw_709
theorem tm_711 : ex_tW (Cond.methodLink "Callerhall" 283 (ex_inf 60).1) := tw_711
theorem tm_712 : ex_tW (Cond.instanceMethod (ex_inf 60).1) := tw_712
theorem tm_713 : ex_tW (Cond.selects "Callerhall$Stage" (ex_inf 60).1 (ex_inf 60).1) := tw_713
theorem tm_715 : ex_tW (Cond.methodLink "Callerhall$Stage" 55 (ex_inf 63).1) := tw_715
theorem tm_717 : ex_tW (Cond.instanceMethod (ex_inf 63).1) := tw_717
theorem tm_719 : ex_tW (Cond.methodLink "Callerhall$Stage" 70 (ex_inf 62).1) := tw_719
theorem tm_721 : ex_tW (Cond.instanceMethod (ex_inf 62).1) := tw_721
theorem tm_723 : ex_tW (Cond.methodLink "Callerhall$Stage" 113 (ex_inf 9).1) := tw_723
theorem tm_724 : ex_tW (Cond.instanceMethod (ex_inf 9).1) := tw_724
theorem tm_725 : ex_tW (Cond.selects "Callerhall$Floor" (ex_inf 9).1 (ex_inf 9).1) := tw_725
theorem tm_727 : ex_tW (Cond.methodLink "Callerhall$Stage" 117 (ex_inf 66).1) := tw_727
theorem tm_729 : ex_tW (Cond.instanceMethod (ex_inf 66).1) := tw_729
theorem tm_731 : ex_tW (Cond.methodLink "Callerhall$Stage" 91 (ex_inf 14).1) := tw_731
theorem tm_732 : ex_tW (Cond.instanceMethod (ex_inf 14).1) := tw_732
theorem tm_733 : ex_tW (Cond.selects "Callerhall$Floor" (ex_inf 14).1 (ex_inf 14).1) := tw_733
theorem tm_735 : ex_tW (Cond.methodLink "Callerhall$Stage" 149 (ex_inf 78).1) := tw_735
theorem tm_736 : ex_tW (Cond.instanceMethod (ex_inf 78).1) := tw_736
theorem tm_737 : ex_tW (Cond.selects "Callerhall$Steps" (ex_inf 78).1 (ex_inf 78).1) := tw_737
theorem tm_739 : ex_tW (Cond.methodLink "Callerhall$Steps" 122 (ex_inf 69).1) := tw_739
theorem tm_740 : ex_tW (Cond.instanceMethod (ex_inf 69).1) := tw_740
theorem tm_741 : ex_tW (Cond.selects "Callerhall$Steps" (ex_inf 69).1 (ex_inf 69).1) := tw_741
theorem tm_743 : ex_tW (Cond.methodLink "Callerhall$Steps" 84 (ex_inf 73).1) := tw_743
theorem tm_745 : ex_tW (Cond.instanceMethod (ex_inf 73).1) := tw_745
theorem tm_747 : ex_tW (Cond.methodLink "Callerhall$Steps" 98 (ex_inf 74).1) := tw_747
theorem tm_749 : ex_tW (Cond.instanceMethod (ex_inf 74).1) := tw_749
theorem tm_751 : ex_tW (Cond.methodLink "Callerhall$Steps" 126 (ex_inf 79).1) := tw_751
theorem tm_753 : ex_tW (Cond.instanceMethod (ex_inf 79).1) := tw_753
theorem tm_755 : ex_tW (Cond.methodLink "Callerhall$Steps" 94 (ex_inf 76).1) := tw_755
theorem tm_757 : ex_tW (Cond.instanceMethod (ex_inf 76).1) := tw_757
theorem tm_759 : ex_tW (Cond.methodLink "Callerhall$Steps" 114 (ex_inf 77).1) := tw_759
theorem tm_761 : ex_tW (Cond.instanceMethod (ex_inf 77).1) := tw_761
theorem tm_763 : ex_tW (Cond.methodLink "Callerhall$Steps" 118 (ex_inf 13).1) := tw_763
theorem tm_764 : ex_tW (Cond.instanceMethod (ex_inf 13).1) := tw_764
theorem tm_765 : ex_tW (Cond.selects "Callerhall$Floor" (ex_inf 13).1 (ex_inf 13).1) := tw_765
theorem tm_771 : ex_tW (Cond.methodLink "Callerhall$Stage" 162 (ex_inf 13).1) := tw_771
theorem tm_772 : ex_tW (Cond.methodLink "Callerhall$Stage" 166 (ex_inf 11).1) := tw_772
theorem tm_773 : ex_tW (Cond.instanceMethod (ex_inf 11).1) := tw_773
theorem tm_774 : ex_tW (Cond.selects "Callerhall$Floor" (ex_inf 11).1 (ex_inf 11).1) := tw_774
theorem tm_776 : ex_tW (Cond.methodLink "Callerhall$Floor" 83 (ex_inf 302).1) := tw_776
theorem tm_777 : ex_tW (Cond.methodLink "Callerhall$Stage" 66 (ex_inf 53).1) := tw_777
theorem tm_778 : ex_tW (Cond.instanceMethod (ex_inf 53).1) := tw_778
theorem tm_779 : ex_tW (Cond.selects "Callerhall$Plan" (ex_inf 53).1 (ex_inf 53).1) := tw_779
theorem tm_781 : ex_tW (Cond.methodLink "Callerhall$Stage" 74 (ex_inf 64).1) := tw_781
theorem tm_783 : ex_tW (Cond.instanceMethod (ex_inf 64).1) := tw_783
theorem tm_785 : ex_tW (Cond.methodLink "Callerhall$Stage" 121 (ex_inf 69).1) := tw_785
theorem tm_786 : ex_tW (Cond.methodLink "Callerhall$Stage" 128 (ex_inf 70).1) := tw_786
theorem tm_787 : ex_tW (Cond.instanceMethod (ex_inf 70).1) := tw_787
theorem tm_788 : ex_tW (Cond.selects "Callerhall$Steps" (ex_inf 70).1 (ex_inf 70).1) := tw_788
theorem tm_790 : ex_tW (Cond.methodLink "Callerhall$Steps" 56 (ex_inf 71).1) := tw_790
theorem tm_792 : ex_tW (Cond.instanceMethod (ex_inf 71).1) := tw_792
theorem tm_794 : ex_tW (Cond.methodLink "Callerhall$Steps" 70 (ex_inf 299).1) := tw_794
theorem tm_795 : ex_tW (Cond.static (ex_inf 299).1) := tw_795
theorem tm_797 : ex_tW (Cond.methodLink "Callerhall$Steps" 63 (ex_inf 12).1) := tw_797
theorem tm_798 : ex_tW (Cond.methodLink "Callerhall$Stage" 132 (ex_inf 72).1) := tw_798
theorem tm_799 : ex_tW (Cond.instanceMethod (ex_inf 72).1) := tw_799
theorem tm_800 : ex_tW (Cond.selects "Callerhall$Steps" (ex_inf 72).1 (ex_inf 72).1) := tw_800
theorem tm_803 : ex_tW (Cond.methodLink "Callerhall$Steps" 88 (ex_inf 75).1) := tw_803
theorem tm_805 : ex_tW (Cond.instanceMethod (ex_inf 75).1) := tw_805
theorem tm_809 : ex_tW (Cond.methodLink "Callerhall$Steps" 91 (ex_inf 80).1) := tw_809
theorem tm_811 : ex_tW (Cond.instanceMethod (ex_inf 80).1) := tw_811
theorem tm_813 : ex_tW (Cond.methodLink "Callerhall$Steps" 129 (ex_inf 82).1) := tw_813
theorem tm_815 : ex_tW (Cond.instanceMethod (ex_inf 82).1) := tw_815
theorem tm_817 : ex_tW (Cond.methodLink "Callerhall$Steps" 133 (ex_inf 81).1) := tw_817
theorem tm_819 : ex_tW (Cond.instanceMethod (ex_inf 81).1) := tw_819
theorem tm_821 : ex_tW (Cond.methodLink "Callerhall$Steps" 137 (ex_inf 83).1) := tw_821
theorem tm_823 : ex_tW (Cond.instanceMethod (ex_inf 83).1) := tw_823
theorem tm_825 : ex_tW (Cond.methodLink "Callerhall$Stage" 135 (ex_inf 84).1) := tw_825
theorem tm_826 : ex_tW (Cond.instanceMethod (ex_inf 84).1) := tw_826
theorem tm_827 : ex_tW (Cond.selects "Callerhall$Steps" (ex_inf 84).1 (ex_inf 84).1) := tw_827
theorem tm_829 : ex_tW (Cond.methodLink "Callerhall$Steps" 141 (ex_inf 85).1) := tw_829
theorem tm_831 : ex_tW (Cond.instanceMethod (ex_inf 85).1) := tw_831
theorem tm_833 : ex_tW (Cond.methodLink "Callerhall$Stage" 106 (ex_inf 61).1) := tw_833
theorem tm_835 : ex_tW (Cond.instanceMethod (ex_inf 61).1) := tw_835
theorem tm_837 : ex_tW (Cond.methodLink "Callerhall$Stage" 78 (ex_inf 86).1) := tw_837
theorem tm_838 : ex_tW (Cond.instanceMethod (ex_inf 86).1) := tw_838
theorem tm_839 : ex_tW (Cond.selects "Callerhall$Steps" (ex_inf 86).1 (ex_inf 86).1) := tw_839
theorem tm_841 : ex_tW (Cond.methodLink "Callerhall$Steps" 145 (ex_inf 19).1) := tw_841
theorem tm_842 : ex_tW (Cond.instanceMethod (ex_inf 19).1) := tw_842
theorem tm_843 : ex_tW (Cond.selects "Callerhall$Floor" (ex_inf 19).1 (ex_inf 19).1) := tw_843
theorem tm_846 : ex_tW (Cond.methodLink "Callerhall$Stage" 85 (ex_inf 302).1) := tw_846
theorem tm_847 : ex_tW (Cond.methodLink "Callerhall$Stage" 98 (ex_inf 87).1) := tw_847
theorem tm_848 : ex_tW (Cond.instanceMethod (ex_inf 87).1) := tw_848
theorem tm_849 : ex_tW (Cond.selects "Callerhall$Steps" (ex_inf 87).1 (ex_inf 87).1) := tw_849
theorem tm_851 : ex_tW (Cond.methodLink "Callerhall$Steps" 149 (ex_inf 88).1) := tw_851
theorem tm_853 : ex_tW (Cond.instanceMethod (ex_inf 88).1) := tw_853
theorem tm_855 : ex_tW (Cond.methodLink "Callerhall$Steps" 162 (ex_inf 15).1) := tw_855
theorem tm_856 : ex_tW (Cond.instanceMethod (ex_inf 15).1) := tw_856
theorem tm_857 : ex_tW (Cond.selects "Callerhall$Floor" (ex_inf 15).1 (ex_inf 15).1) := tw_857
theorem tm_859 : ex_tW (Cond.methodLink "Callerhall$Steps" 166 (ex_inf 16).1) := tw_859
theorem tm_860 : ex_tW (Cond.instanceMethod (ex_inf 16).1) := tw_860
theorem tm_861 : ex_tW (Cond.selects "Callerhall$Floor" (ex_inf 16).1 (ex_inf 16).1) := tw_861
theorem tm_863 : ex_tW (Cond.methodLink "Callerhall$Steps" 152 (ex_inf 89).1) := tw_863
theorem tm_865 : ex_tW (Cond.instanceMethod (ex_inf 89).1) := tw_865
theorem tm_867 : ex_tW (Cond.methodLink "Callerhall$Steps" 155 (ex_inf 90).1) := tw_867
theorem tm_869 : ex_tW (Cond.instanceMethod (ex_inf 90).1) := tw_869
theorem tm_871 : ex_tW (Cond.methodLink "Callerhall$Steps" 169 (ex_inf 91).1) := tw_871
theorem tm_873 : ex_tW (Cond.instanceMethod (ex_inf 91).1) := tw_873
theorem tm_875 : ex_tW (Cond.methodLink "Callerhall$Steps" 159 (ex_inf 92).1) := tw_875
theorem tm_877 : ex_tW (Cond.instanceMethod (ex_inf 92).1) := tw_877
theorem tm_879 : ex_tW (Cond.methodLink "Callerhall$Steps" 172 (ex_inf 18).1) := tw_879
theorem tm_880 : ex_tW (Cond.instanceMethod (ex_inf 18).1) := tw_880
theorem tm_881 : ex_tW (Cond.selects "Callerhall$Floor" (ex_inf 18).1 (ex_inf 18).1) := tw_881
theorem tm_883 : ex_tW (Cond.methodLink "Callerhall$Steps" 175 (ex_inf 17).1) := tw_883
theorem tm_884 : ex_tW (Cond.instanceMethod (ex_inf 17).1) := tw_884
theorem tm_885 : ex_tW (Cond.selects "Callerhall$Floor" (ex_inf 17).1 (ex_inf 17).1) := tw_885
theorem tm_887 : ex_tW (Cond.methodLink "Callerhall$Floor" 92 (ex_inf 16).1) := tw_887
theorem tm_888 : ex_tW (Cond.methodLink "Callerhall$Stage" 102 (ex_inf 20).1) := tw_888
theorem tm_889 : ex_tW (Cond.instanceMethod (ex_inf 20).1) := tw_889
theorem tm_890 : ex_tW (Cond.selects "Callerhall$Floor" (ex_inf 20).1 (ex_inf 20).1) := tw_890
theorem tm_892 : ex_tW (Cond.methodLink "Callerhall$Floor" 96 (ex_inf 21).1) := tw_892
theorem tm_894 : ex_tW (Cond.instanceMethod (ex_inf 21).1) := tw_894
theorem tm_896 : ex_tW (Cond.methodLink "Callerhall$Floor" 107 (ex_inf 22).1) := tw_896
theorem tm_898 : ex_tW (Cond.instanceMethod (ex_inf 22).1) := tw_898
theorem tm_900 : ex_tW (Cond.methodLink "Callerhall$Floor" 100 (ex_inf 15).1) := tw_900
theorem tm_901 : ex_tW (Cond.methodLink "Callerhall$Floor" 104 (ex_inf 23).1) := tw_901
theorem tm_903 : ex_tW (Cond.instanceMethod (ex_inf 23).1) := tw_903
theorem tm_905 : ex_tW (Cond.methodLink "Callerhall$Stage" 110 (ex_inf 65).1) := tw_905
theorem tm_907 : ex_tW (Cond.instanceMethod (ex_inf 65).1) := tw_907
theorem tm_909 : ex_tW (Cond.methodLink "Callerhall$Stage" 139 (ex_inf 10).1) := tw_909
theorem tm_910 : ex_tW (Cond.instanceMethod (ex_inf 10).1) := tw_910
theorem tm_911 : ex_tW (Cond.selects "Callerhall$Floor" (ex_inf 10).1 (ex_inf 10).1) := tw_911
theorem tm_913 : ex_tW (Cond.methodLink "Callerhall$Floor" 77 (ex_inf 301).1) := tw_913
theorem tm_914 : ex_tW (Cond.methodLink "Callerhall$Stage" 142 (ex_inf 67).1) := tw_914
theorem tm_916 : ex_tW (Cond.instanceMethod (ex_inf 67).1) := tw_916
theorem tm_918 : ex_tW (Cond.methodLink "Callerhall$Stage" 170 (ex_inf 24).1) := tw_918
theorem tm_919 : ex_tW (Cond.instanceMethod (ex_inf 24).1) := tw_919
theorem tm_920 : ex_tW (Cond.selects "Callerhall$Floor" (ex_inf 24).1 (ex_inf 24).1) := tw_920
theorem tm_922 : ex_tW (Cond.methodLink "Callerhall$Floor" 110 (ex_inf 25).1) := tw_922
theorem tm_924 : ex_tW (Cond.instanceMethod (ex_inf 25).1) := tw_924
theorem tm_926 : ex_tW (Cond.methodLink "Callerhall$Floor" 114 (ex_inf 19).1) := tw_926
theorem tm_927 : ex_tW (Cond.methodLink "Callerhall" 357 (ex_inf 44).1) := tw_927
theorem tm_928 : ex_tW (Cond.instanceMethod (ex_inf 44).1) := tw_928
theorem tm_929 : ex_tW (Cond.selects "Callerhall$Places" (ex_inf 44).1 (ex_inf 44).1) := tw_929
theorem tm_931 : ex_tW (Cond.methodLink "Callerhall$Places" 30 (ex_inf 42).1) := tw_931
theorem tm_932 : ex_tW (Cond.methodLink "Callerhall" 455 (ex_inf 45).1) := tw_932
theorem tm_933 : ex_tW (Cond.instanceMethod (ex_inf 45).1) := tw_933
theorem tm_934 : ex_tW (Cond.selects "Callerhall$Places" (ex_inf 45).1 (ex_inf 45).1) := tw_934
theorem tm_936 : ex_tW (Cond.methodLink "Callerhall" 418 (ex_inf 35).1) := tw_936
theorem tm_937 : ex_tW (Cond.instanceMethod (ex_inf 35).1) := tw_937
theorem tm_938 : ex_tW (Cond.selects "Callerhall$Party" (ex_inf 35).1 (ex_inf 35).1) := tw_938
theorem tm_940 : ex_tW (Cond.methodLink "CallerhallLaw" 154 (ex_inf 352).1) := tw_940
theorem tm_941 : ex_tW (Cond.static (ex_inf 352).1) := tw_941
theorem tm_1022 : ex_tW (Cond.methodLink "CallerhallLaw" 7 (ex_inf 96).1) := tw_1022
theorem tm_1023 : ex_tW (Cond.instanceMethod (ex_inf 96).1) := tw_1023
theorem tm_1024 : ex_tW (Cond.selects "Callerhall" (ex_inf 96).1 (ex_inf 96).1) := tw_1024
theorem tm_1026 : ex_tW (Cond.methodLink "Callerhall" 129 (ex_inf 147).1) := tw_1026
theorem tm_1028 : ex_tW (Cond.instanceMethod (ex_inf 147).1) := tw_1028
theorem tm_1051 : ex_tW (Cond.methodLink "CallerhallLaw" 163 (ex_inf 353).1) := tw_1051
theorem tm_1052 : ex_tW (Cond.static (ex_inf 353).1) := tw_1052
theorem tm_1054 : ex_tW (Cond.methodLink "CallerhallLaw" 15 (ex_inf 97).1) := tw_1054
theorem tm_1055 : ex_tW (Cond.instanceMethod (ex_inf 97).1) := tw_1055
theorem tm_1056 : ex_tW (Cond.selects "Callerhall" (ex_inf 97).1 (ex_inf 97).1) := tw_1056
theorem tm_1058 : ex_tW (Cond.methodLink "CallerhallLaw" 166 (ex_inf 354).1) := tw_1058
theorem tm_1059 : ex_tW (Cond.static (ex_inf 354).1) := tw_1059
theorem tm_1061 : ex_tW (Cond.methodLink "CallerhallLaw" 18 (ex_inf 98).1) := tw_1061
theorem tm_1062 : ex_tW (Cond.instanceMethod (ex_inf 98).1) := tw_1062
theorem tm_1063 : ex_tW (Cond.selects "Callerhall" (ex_inf 98).1 (ex_inf 98).1) := tw_1063
theorem tm_1065 : ex_tW (Cond.methodLink "CallerhallLaw" 169 (ex_inf 355).1) := tw_1065
theorem tm_1066 : ex_tW (Cond.static (ex_inf 355).1) := tw_1066
theorem tm_1070 : ex_tW (Cond.methodLink "CallerhallLaw" 21 (ex_inf 99).1) := tw_1070
theorem tm_1071 : ex_tW (Cond.instanceMethod (ex_inf 99).1) := tw_1071
theorem tm_1072 : ex_tW (Cond.selects "Callerhall" (ex_inf 99).1 (ex_inf 99).1) := tw_1072
theorem tm_1074 : ex_tW (Cond.methodLink "Callerhall" 142 (ex_inf 148).1) := tw_1074
theorem tm_1076 : ex_tW (Cond.instanceMethod (ex_inf 148).1) := tw_1076
theorem tm_1108 : ex_tW (Cond.methodLink "CallerhallLaw" 173 (ex_inf 356).1) := tw_1108
theorem tm_1109 : ex_tW (Cond.static (ex_inf 356).1) := tw_1109
theorem tm_1111 : ex_tW (Cond.methodLink "CallerhallLaw" 29 (ex_inf 100).1) := tw_1111
theorem tm_1112 : ex_tW (Cond.instanceMethod (ex_inf 100).1) := tw_1112
theorem tm_1113 : ex_tW (Cond.selects "Callerhall" (ex_inf 100).1 (ex_inf 100).1) := tw_1113
theorem tm_1115 : ex_tW (Cond.methodLink "Callerhall" 159 (ex_inf 299).1) := tw_1115
theorem tm_1116 : ex_tW (Cond.methodLink "CallerhallLaw" 177 (ex_inf 357).1) := tw_1116
theorem tm_1117 : ex_tW (Cond.static (ex_inf 357).1) := tw_1117
theorem tm_1119 : ex_tW (Cond.methodLink "CallerhallLaw" 33 (ex_inf 101).1) := tw_1119
theorem tm_1120 : ex_tW (Cond.instanceMethod (ex_inf 101).1) := tw_1120
theorem tm_1121 : ex_tW (Cond.selects "Callerhall" (ex_inf 101).1 (ex_inf 101).1) := tw_1121
theorem tm_1123 : ex_tW (Cond.methodLink "CallerhallLaw" 180 (ex_inf 358).1) := tw_1123
theorem tm_1124 : ex_tW (Cond.static (ex_inf 358).1) := tw_1124
theorem tm_1127 : ex_tW (Cond.methodLink "CallerhallLaw" 36 (ex_inf 102).1) := tw_1127
theorem tm_1128 : ex_tW (Cond.instanceMethod (ex_inf 102).1) := tw_1128
theorem tm_1129 : ex_tW (Cond.selects "Callerhall" (ex_inf 102).1 (ex_inf 102).1) := tw_1129
theorem tm_1146 : ex_tW (Cond.methodLink "CallerhallLaw" 183 (ex_inf 359).1) := tw_1146
theorem tm_1147 : ex_tW (Cond.static (ex_inf 359).1) := tw_1147
theorem tm_1149 : ex_tW (Cond.methodLink "CallerhallLaw" 41 (ex_inf 103).1) := tw_1149
theorem tm_1150 : ex_tW (Cond.instanceMethod (ex_inf 103).1) := tw_1150
theorem tm_1151 : ex_tW (Cond.selects "Callerhall" (ex_inf 103).1 (ex_inf 103).1) := tw_1151
theorem tm_1153 : ex_tW (Cond.methodLink "CallerhallLaw" 186 (ex_inf 360).1) := tw_1153
theorem tm_1154 : ex_tW (Cond.static (ex_inf 360).1) := tw_1154
theorem tm_1157 : ex_tW (Cond.methodLink "CallerhallLaw" 44 (ex_inf 104).1) := tw_1157
theorem tm_1158 : ex_tW (Cond.instanceMethod (ex_inf 104).1) := tw_1158
theorem tm_1159 : ex_tW (Cond.selects "Callerhall" (ex_inf 104).1 (ex_inf 104).1) := tw_1159
theorem tm_1176 : ex_tW (Cond.methodLink "CallerhallLaw" 194 (ex_inf 361).1) := tw_1176
theorem tm_1177 : ex_tW (Cond.static (ex_inf 361).1) := tw_1177
theorem tm_1179 : ex_tW (Cond.methodLink "CallerhallLaw" 50 (ex_inf 106).1) := tw_1179
theorem tm_1180 : ex_tW (Cond.instanceMethod (ex_inf 106).1) := tw_1180
theorem tm_1181 : ex_tW (Cond.selects "Callerhall" (ex_inf 106).1 (ex_inf 106).1) := tw_1181
theorem tm_1183 : ex_tW (Cond.methodLink "CallerhallLaw" 197 (ex_inf 362).1) := tw_1183
theorem tm_1184 : ex_tW (Cond.static (ex_inf 362).1) := tw_1184
theorem tm_1186 : ex_tW (Cond.methodLink "CallerhallLaw" 53 (ex_inf 107).1) := tw_1186
theorem tm_1187 : ex_tW (Cond.instanceMethod (ex_inf 107).1) := tw_1187
theorem tm_1188 : ex_tW (Cond.selects "Callerhall" (ex_inf 107).1 (ex_inf 107).1) := tw_1188
theorem tm_1190 : ex_tW (Cond.methodLink "Callerhall" 181 (ex_inf 149).1) := tw_1190
theorem tm_1192 : ex_tW (Cond.instanceMethod (ex_inf 149).1) := tw_1192
theorem tm_1194 : ex_tW (Cond.methodLink "CallerhallLaw" 200 (ex_inf 363).1) := tw_1194
theorem tm_1195 : ex_tW (Cond.static (ex_inf 363).1) := tw_1195
theorem tm_1197 : ex_tW (Cond.methodLink "CallerhallLaw" 56 (ex_inf 108).1) := tw_1197
theorem tm_1198 : ex_tW (Cond.instanceMethod (ex_inf 108).1) := tw_1198
theorem tm_1199 : ex_tW (Cond.selects "Callerhall" (ex_inf 108).1 (ex_inf 108).1) := tw_1199
theorem tm_1201 : ex_tW (Cond.methodLink "Callerhall" 184 (ex_inf 151).1) := tw_1201
theorem tm_1203 : ex_tW (Cond.instanceMethod (ex_inf 151).1) := tw_1203
theorem tm_1206 : ex_tW (Cond.methodLink "Callerhall" 423 (ex_inf 155).1) := tw_1206
theorem tm_1208 : ex_tW (Cond.instanceMethod (ex_inf 155).1) := tw_1208
theorem tm_1210 : ex_tW (Cond.methodLink "Callerhall" 233 (ex_inf 305).1) := tw_1210
theorem tm_1211 : ex_tW (Cond.instanceMethod (ex_inf 305).1) := tw_1211
theorem tm_1212 : ex_tW (Cond.selects "java/lang/String" (ex_inf 305).1 (ex_inf 305).1) := tw_1212
theorem tm_1214 : ex_tW (Cond.methodLink "java/lang/String" 633 (ex_inf 306).1) := tw_1214
theorem tm_1215 : ex_tW (Cond.instanceMethod (ex_inf 306).1) := tw_1215
theorem tm_1216 : ex_tW (Cond.selects "java/lang/String" (ex_inf 306).1 (ex_inf 306).1) := tw_1216
theorem tm_1218 : ex_tW (Cond.methodLink "java/lang/String" 505 (ex_inf 303).1) := tw_1218
theorem tm_1219 : ex_tW (Cond.methodLink "java/lang/String" 637 (ex_inf 313).1) := tw_1219
theorem tm_1220 : ex_tW (Cond.static (ex_inf 313).1) := tw_1220
theorem tm_1222 : ex_tW (Cond.methodLink "java/lang/StringLatin1" 88 (ex_inf 312).1) := tw_1222
theorem tm_1223 : ex_tW (Cond.static (ex_inf 312).1) := tw_1223
theorem tm_1225 : ex_tW (Cond.methodLink "java/lang/StringLatin1" 92 (ex_inf 301).1) := tw_1225
theorem tm_1226 : ex_tW (Cond.methodLink "java/lang/StringLatin1" 38 (ex_inf 302).1) := tw_1226
theorem tm_1227 : ex_tW (Cond.methodLink "java/lang/StringLatin1" 95 (ex_inf 314).1) := tw_1227
theorem tm_1228 : ex_tW (Cond.static (ex_inf 314).1) := tw_1228
theorem tm_1230 : ex_tW (Cond.methodLink "java/lang/String" 640 (ex_inf 317).1) := tw_1230
theorem tm_1231 : ex_tW (Cond.static (ex_inf 317).1) := tw_1231
theorem tm_1233 : ex_tW (Cond.methodLink "java/lang/StringUTF16" 224 (ex_inf 301).1) := tw_1233
theorem tm_1234 : ex_tW (Cond.methodLink "java/lang/StringUTF16" 183 (ex_inf 302).1) := tw_1234
theorem tm_1236 : ex_tW (Cond.methodLink "java/lang/StringUTF16" 228 (ex_inf 318).1) := tw_1236
theorem tm_1237 : ex_tW (Cond.static (ex_inf 318).1) := tw_1237
theorem tm_1239 : ex_tW (Cond.methodLink "java/lang/StringUTF16" 96 (ex_inf 323).1) := tw_1239
theorem tm_1240 : ex_tW (Cond.static (ex_inf 323).1) := tw_1240
theorem tm_1242 : ex_tW (Cond.methodLink "java/lang/StringUTF16" 241 (ex_inf 310).1) := tw_1242
theorem tm_1243 : ex_tW (Cond.static (ex_inf 310).1) := tw_1243
theorem tm_1245 : ex_tW (Cond.methodLink "java/lang/String" 1062 (ex_inf 351).1) := tw_1245
theorem tm_1246 : ex_tW (Cond.static (ex_inf 351).1) := tw_1246
theorem tm_1248 : ex_tW (Cond.methodLink "java/lang/StringUTF16" 244 (ex_inf 319).1) := tw_1248
theorem tm_1249 : ex_tW (Cond.static (ex_inf 319).1) := tw_1249
theorem tm_1251 : ex_tW (Cond.methodLink "java/lang/StringUTF16" 232 (ex_inf 320).1) := tw_1251
theorem tm_1252 : ex_tW (Cond.static (ex_inf 320).1) := tw_1252
theorem tm_1254 : ex_tW (Cond.methodLink "java/lang/StringUTF16" 164 (ex_inf 295).1) := tw_1254
theorem tm_1255 : ex_tW (Cond.static (ex_inf 295).1) := tw_1255
theorem tm_1257 : ex_tW (Cond.methodLink "java/lang/StringUTF16" 157 (ex_inf 296).1) := tw_1257
theorem tm_1258 : ex_tW (Cond.static (ex_inf 296).1) := tw_1258
theorem tm_1261 : ex_tW (Cond.methodLink "java/lang/StringUTF16" 161 (ex_inf 297).1) := tw_1261
theorem tm_1262 : ex_tW (Cond.static (ex_inf 297).1) := tw_1262
theorem tm_1265 : ex_tW (Cond.methodLink "Callerhall" 188 (ex_inf 152).1) := tw_1265
theorem tm_1267 : ex_tW (Cond.instanceMethod (ex_inf 152).1) := tw_1267
theorem tm_1269 : ex_tW (Cond.methodLink "Callerhall" 191 (ex_inf 153).1) := tw_1269
theorem tm_1271 : ex_tW (Cond.instanceMethod (ex_inf 153).1) := tw_1271
theorem tm_1274 : ex_tW (Cond.methodLink "Callerhall" 194 (ex_inf 154).1) := tw_1274
theorem tm_1276 : ex_tW (Cond.instanceMethod (ex_inf 154).1) := tw_1276
theorem tm_1279 : ex_tW (Cond.methodLink "Callerhall" 197 (ex_inf 3).1) := tw_1279
theorem tm_1280 : ex_tW (Cond.instanceMethod (ex_inf 3).1) := tw_1280
theorem tm_1281 : ex_tW (Cond.selects "Callerhall$Book" (ex_inf 3).1 (ex_inf 3).1) := tw_1281
theorem tm_1283 : ex_tW (Cond.methodLink "Callerhall$Book" 33 (ex_inf 1).1) := tw_1283
theorem tm_1284 : ex_tW (Cond.instanceMethod (ex_inf 1).1) := tw_1284
theorem tm_1285 : ex_tW (Cond.selects "Callerhall$Book" (ex_inf 1).1 (ex_inf 1).1) := tw_1285
theorem tm_1287 : ex_tW (Cond.methodLink "Callerhall" 201 (ex_inf 4).1) := tw_1287
theorem tm_1288 : ex_tW (Cond.instanceMethod (ex_inf 4).1) := tw_1288
theorem tm_1289 : ex_tW (Cond.selects "Callerhall$Book" (ex_inf 4).1 (ex_inf 4).1) := tw_1289
theorem tm_1291 : ex_tW (Cond.methodLink "CallerhallLaw" 204 (ex_inf 364).1) := tw_1291
theorem tm_1292 : ex_tW (Cond.static (ex_inf 364).1) := tw_1292
theorem tm_1294 : ex_tW (Cond.methodLink "CallerhallLaw" 60 (ex_inf 109).1) := tw_1294
theorem tm_1295 : ex_tW (Cond.instanceMethod (ex_inf 109).1) := tw_1295
theorem tm_1296 : ex_tW (Cond.selects "Callerhall" (ex_inf 109).1 (ex_inf 109).1) := tw_1296
theorem tm_1298 : ex_tW (Cond.methodLink "Callerhall" 205 (ex_inf 5).1) := tw_1298
theorem tm_1299 : ex_tW (Cond.instanceMethod (ex_inf 5).1) := tw_1299
theorem tm_1300 : ex_tW (Cond.selects "Callerhall$Book" (ex_inf 5).1 (ex_inf 5).1) := tw_1300
theorem tm_1302 : ex_tW (Cond.methodLink "CallerhallLaw" 208 (ex_inf 365).1) := tw_1302
theorem tm_1303 : ex_tW (Cond.static (ex_inf 365).1) := tw_1303
theorem tm_1305 : ex_tW (Cond.methodLink "CallerhallLaw" 64 (ex_inf 110).1) := tw_1305
theorem tm_1306 : ex_tW (Cond.instanceMethod (ex_inf 110).1) := tw_1306
theorem tm_1307 : ex_tW (Cond.selects "Callerhall" (ex_inf 110).1 (ex_inf 110).1) := tw_1307
theorem tm_1309 : ex_tW (Cond.methodLink "Callerhall" 208 (ex_inf 1).1) := tw_1309
theorem tm_1310 : ex_tW (Cond.methodLink "Callerhall" 211 (ex_inf 51).1) := tw_1310
theorem tm_1311 : ex_tW (Cond.instanceMethod (ex_inf 51).1) := tw_1311
theorem tm_1312 : ex_tW (Cond.selects "Callerhall$Plan" (ex_inf 51).1 (ex_inf 51).1) := tw_1312
theorem tm_1314 : ex_tW (Cond.methodLink "CallerhallLaw" 212 (ex_inf 366).1) := tw_1314
theorem tm_1315 : ex_tW (Cond.static (ex_inf 366).1) := tw_1315
theorem tm_1317 : ex_tW (Cond.methodLink "CallerhallLaw" 68 (ex_inf 111).1) := tw_1317
theorem tm_1318 : ex_tW (Cond.instanceMethod (ex_inf 111).1) := tw_1318
theorem tm_1319 : ex_tW (Cond.selects "Callerhall" (ex_inf 111).1 (ex_inf 111).1) := tw_1319
theorem tm_1321 : ex_tW (Cond.methodLink "Callerhall" 221 (ex_inf 156).1) := tw_1321
theorem tm_1323 : ex_tW (Cond.instanceMethod (ex_inf 156).1) := tw_1323
theorem tm_1325 : ex_tW (Cond.methodLink "Callerhall" 431 (ex_inf 2).1) := tw_1325
theorem tm_1326 : ex_tW (Cond.instanceMethod (ex_inf 2).1) := tw_1326
theorem tm_1327 : ex_tW (Cond.selects "Callerhall$Book" (ex_inf 2).1 (ex_inf 2).1) := tw_1327
theorem tm_1329 : ex_tW (Cond.methodLink "CallerhallLaw" 215 (ex_inf 367).1) := tw_1329
theorem tm_1330 : ex_tW (Cond.static (ex_inf 367).1) := tw_1330
theorem tm_1332 : ex_tW (Cond.methodLink "CallerhallLaw" 71 (ex_inf 112).1) := tw_1332
theorem tm_1333 : ex_tW (Cond.instanceMethod (ex_inf 112).1) := tw_1333
theorem tm_1334 : ex_tW (Cond.selects "Callerhall" (ex_inf 112).1 (ex_inf 112).1) := tw_1334
theorem tm_1336 : ex_tW (Cond.methodLink "CallerhallLaw" 218 (ex_inf 368).1) := tw_1336
theorem tm_1337 : ex_tW (Cond.static (ex_inf 368).1) := tw_1337
theorem tm_1339 : ex_tW (Cond.methodLink "CallerhallLaw" 74 (ex_inf 113).1) := tw_1339
theorem tm_1340 : ex_tW (Cond.instanceMethod (ex_inf 113).1) := tw_1340
theorem tm_1341 : ex_tW (Cond.selects "Callerhall" (ex_inf 113).1 (ex_inf 113).1) := tw_1341
theorem tm_1343 : ex_tW (Cond.methodLink "CallerhallLaw" 221 (ex_inf 369).1) := tw_1343
theorem tm_1344 : ex_tW (Cond.static (ex_inf 369).1) := tw_1344
theorem tm_1346 : ex_tW (Cond.methodLink "CallerhallLaw" 77 (ex_inf 114).1) := tw_1346
theorem tm_1347 : ex_tW (Cond.instanceMethod (ex_inf 114).1) := tw_1347
theorem tm_1348 : ex_tW (Cond.selects "Callerhall" (ex_inf 114).1 (ex_inf 114).1) := tw_1348
theorem tm_1350 : ex_tW (Cond.methodLink "Callerhall" 238 (ex_inf 50).1) := tw_1350
theorem tm_1351 : ex_tW (Cond.instanceMethod (ex_inf 50).1) := tw_1351
theorem tm_1352 : ex_tW (Cond.selects "Callerhall$Plan" (ex_inf 50).1 (ex_inf 50).1) := tw_1352
theorem tm_1354 : ex_tW (Cond.methodLink "Callerhall" 246 (ex_inf 157).1) := tw_1354
theorem tm_1356 : ex_tW (Cond.instanceMethod (ex_inf 157).1) := tw_1356
theorem tm_1358 : ex_tW (Cond.methodLink "Callerhall" 250 (ex_inf 37).1) := tw_1358
theorem tm_1359 : ex_tW (Cond.instanceMethod (ex_inf 37).1) := tw_1359
theorem tm_1360 : ex_tW (Cond.selects "Callerhall$Past" (ex_inf 37).1 (ex_inf 37).1) := tw_1360
theorem tm_1362 : ex_tW (Cond.methodLink "Callerhall$Past" 27 (ex_inf 298).1) := tw_1362
theorem tm_1363 : ex_tW (Cond.static (ex_inf 298).1) := tw_1363
theorem tm_1365 : ex_tW (Cond.methodLink "Callerhall$Past" 33 (ex_inf 302).1) := tw_1365
theorem tm_1366 : ex_tW (Cond.methodLink "Callerhall" 254 (ex_inf 54).1) := tw_1366
theorem tm_1367 : ex_tW (Cond.instanceMethod (ex_inf 54).1) := tw_1367
theorem tm_1368 : ex_tW (Cond.selects "Callerhall$Plan" (ex_inf 54).1 (ex_inf 54).1) := tw_1368
theorem tm_1370 : ex_tW (Cond.methodLink "Callerhall" 257 (ex_inf 158).1) := tw_1370
theorem tm_1372 : ex_tW (Cond.instanceMethod (ex_inf 158).1) := tw_1372
theorem tm_1374 : ex_tW (Cond.methodLink "Callerhall" 435 (ex_inf 28).1) := tw_1374
theorem tm_1375 : ex_tW (Cond.instanceMethod (ex_inf 28).1) := tw_1375
theorem tm_1376 : ex_tW (Cond.selects "Callerhall$Flow" (ex_inf 28).1 (ex_inf 28).1) := tw_1376
theorem tm_1378 : ex_tW (Cond.methodLink "Callerhall" 437 (ex_inf 57).1) := tw_1378
theorem tm_1379 : ex_tW (Cond.instanceMethod (ex_inf 57).1) := tw_1379
theorem tm_1380 : ex_tW (Cond.selects "Callerhall$Song" (ex_inf 57).1 (ex_inf 57).1) := tw_1380
theorem tm_1382 : ex_tW (Cond.methodLink "Callerhall" 260 (ex_inf 52).1) := tw_1382
theorem tm_1383 : ex_tW (Cond.instanceMethod (ex_inf 52).1) := tw_1383
theorem tm_1384 : ex_tW (Cond.selects "Callerhall$Plan" (ex_inf 52).1 (ex_inf 52).1) := tw_1384
theorem tm_1386 : ex_tW (Cond.methodLink "CallerhallLaw" 225 (ex_inf 370).1) := tw_1386
theorem tm_1387 : ex_tW (Cond.static (ex_inf 370).1) := tw_1387
theorem tm_1389 : ex_tW (Cond.methodLink "CallerhallLaw" 81 (ex_inf 115).1) := tw_1389
theorem tm_1390 : ex_tW (Cond.instanceMethod (ex_inf 115).1) := tw_1390
theorem tm_1391 : ex_tW (Cond.selects "Callerhall" (ex_inf 115).1 (ex_inf 115).1) := tw_1391
theorem tm_1393 : ex_tW (Cond.methodLink "Callerhall" 264 (ex_inf 116).1) := tw_1393
theorem tm_1394 : ex_tW (Cond.methodLink "Callerhall" 267 (ex_inf 38).1) := tw_1394
theorem tm_1395 : ex_tW (Cond.instanceMethod (ex_inf 38).1) := tw_1395
theorem tm_1396 : ex_tW (Cond.selects "Callerhall$Past" (ex_inf 38).1 (ex_inf 38).1) := tw_1396
theorem tm_1398 : ex_tW (Cond.methodLink "Callerhall$Past" 48 (ex_inf 42).1) := tw_1398
theorem tm_1399 : ex_tW (Cond.methodLink "CallerhallLaw" 238 (ex_inf 371).1) := tw_1399
theorem tm_1400 : ex_tW (Cond.static (ex_inf 371).1) := tw_1400
theorem tm_1402 : ex_tW (Cond.methodLink "CallerhallLaw" 85 (ex_inf 118).1) := tw_1402
theorem tm_1403 : ex_tW (Cond.instanceMethod (ex_inf 118).1) := tw_1403
theorem tm_1404 : ex_tW (Cond.selects "Callerhall" (ex_inf 118).1 (ex_inf 118).1) := tw_1404
theorem tm_1406 : ex_tW (Cond.methodLink "CallerhallLaw" 241 (ex_inf 372).1) := tw_1406
theorem tm_1407 : ex_tW (Cond.static (ex_inf 372).1) := tw_1407
theorem tm_1409 : ex_tW (Cond.methodLink "CallerhallLaw" 88 (ex_inf 119).1) := tw_1409
theorem tm_1410 : ex_tW (Cond.instanceMethod (ex_inf 119).1) := tw_1410
theorem tm_1411 : ex_tW (Cond.selects "Callerhall" (ex_inf 119).1 (ex_inf 119).1) := tw_1411
theorem tm_1413 : ex_tW (Cond.methodLink "CallerhallLaw" 245 (ex_inf 373).1) := tw_1413
theorem tm_1414 : ex_tW (Cond.static (ex_inf 373).1) := tw_1414
theorem tm_1416 : ex_tW (Cond.methodLink "CallerhallLaw" 92 (ex_inf 120).1) := tw_1416
theorem tm_1417 : ex_tW (Cond.instanceMethod (ex_inf 120).1) := tw_1417
theorem tm_1418 : ex_tW (Cond.selects "Callerhall" (ex_inf 120).1 (ex_inf 120).1) := tw_1418
theorem tm_1420 : ex_tW (Cond.methodLink "Callerhall" 290 (ex_inf 39).1) := tw_1420
theorem tm_1421 : ex_tW (Cond.instanceMethod (ex_inf 39).1) := tw_1421
theorem tm_1422 : ex_tW (Cond.selects "Callerhall$Past" (ex_inf 39).1 (ex_inf 39).1) := tw_1422
theorem tm_1424 : ex_tW (Cond.methodLink "Callerhall$Past" 52 (ex_inf 301).1) := tw_1424
theorem tm_1425 : ex_tW (Cond.methodLink "CallerhallLaw" 252 (ex_inf 374).1) := tw_1425
theorem tm_1426 : ex_tW (Cond.static (ex_inf 374).1) := tw_1426
theorem tm_1428 : ex_tW (Cond.methodLink "CallerhallLaw" 95 (ex_inf 122).1) := tw_1428
theorem tm_1429 : ex_tW (Cond.instanceMethod (ex_inf 122).1) := tw_1429
theorem tm_1430 : ex_tW (Cond.selects "Callerhall" (ex_inf 122).1 (ex_inf 122).1) := tw_1430
theorem tm_1432 : ex_tW (Cond.methodLink "Callerhall" 295 (ex_inf 40).1) := tw_1432
theorem tm_1433 : ex_tW (Cond.instanceMethod (ex_inf 40).1) := tw_1433
theorem tm_1434 : ex_tW (Cond.selects "Callerhall$Past" (ex_inf 40).1 (ex_inf 40).1) := tw_1434
theorem tm_1436 : ex_tW (Cond.methodLink "CallerhallLaw" 255 (ex_inf 375).1) := tw_1436
theorem tm_1437 : ex_tW (Cond.static (ex_inf 375).1) := tw_1437
theorem tm_1439 : ex_tW (Cond.methodLink "CallerhallLaw" 99 (ex_inf 123).1) := tw_1439
theorem tm_1440 : ex_tW (Cond.instanceMethod (ex_inf 123).1) := tw_1440
theorem tm_1441 : ex_tW (Cond.selects "Callerhall" (ex_inf 123).1 (ex_inf 123).1) := tw_1441
theorem tm_1443 : ex_tW (Cond.methodLink "Callerhall" 307 (ex_inf 70).1) := tw_1443
theorem tm_1444 : ex_tW (Cond.methodLink "CallerhallLaw" 259 (ex_inf 376).1) := tw_1444
theorem tm_1445 : ex_tW (Cond.static (ex_inf 376).1) := tw_1445
theorem tm_1447 : ex_tW (Cond.methodLink "CallerhallLaw" 103 (ex_inf 124).1) := tw_1447
theorem tm_1448 : ex_tW (Cond.instanceMethod (ex_inf 124).1) := tw_1448
theorem tm_1449 : ex_tW (Cond.selects "Callerhall" (ex_inf 124).1 (ex_inf 124).1) := tw_1449
theorem tm_1451 : ex_tW (Cond.methodLink "Callerhall" 316 (ex_inf 159).1) := tw_1451
theorem tm_1453 : ex_tW (Cond.instanceMethod (ex_inf 159).1) := tw_1453
theorem tm_1455 : ex_tW (Cond.methodLink "Callerhall" 439 (ex_inf 69).1) := tw_1455
theorem tm_1456 : ex_tW (Cond.methodLink "Callerhall" 443 (ex_inf 72).1) := tw_1456
theorem tm_1457 : ex_tW (Cond.methodLink "CallerhallLaw" 263 (ex_inf 377).1) := tw_1457
theorem tm_1458 : ex_tW (Cond.static (ex_inf 377).1) := tw_1458
theorem tm_1460 : ex_tW (Cond.methodLink "CallerhallLaw" 107 (ex_inf 125).1) := tw_1460
theorem tm_1461 : ex_tW (Cond.instanceMethod (ex_inf 125).1) := tw_1461
theorem tm_1462 : ex_tW (Cond.selects "Callerhall" (ex_inf 125).1 (ex_inf 125).1) := tw_1462
theorem tm_1464 : ex_tW (Cond.methodLink "CallerhallLaw" 270 (ex_inf 378).1) := tw_1464
theorem tm_1465 : ex_tW (Cond.static (ex_inf 378).1) := tw_1465
theorem tm_1467 : ex_tW (Cond.methodLink "CallerhallLaw" 110 (ex_inf 127).1) := tw_1467
theorem tm_1468 : ex_tW (Cond.instanceMethod (ex_inf 127).1) := tw_1468
theorem tm_1469 : ex_tW (Cond.selects "Callerhall" (ex_inf 127).1 (ex_inf 127).1) := tw_1469
theorem tm_1471 : ex_tW (Cond.methodLink "CallerhallLaw" 282 (ex_inf 379).1) := tw_1471
theorem tm_1472 : ex_tW (Cond.static (ex_inf 379).1) := tw_1472
theorem tm_1474 : ex_tW (Cond.methodLink "CallerhallLaw" 113 (ex_inf 130).1) := tw_1474
theorem tm_1475 : ex_tW (Cond.instanceMethod (ex_inf 130).1) := tw_1475
theorem tm_1476 : ex_tW (Cond.selects "Callerhall" (ex_inf 130).1 (ex_inf 130).1) := tw_1476
theorem tm_1478 : ex_tW (Cond.methodLink "CallerhallLaw" 293 (ex_inf 380).1) := tw_1478
theorem tm_1479 : ex_tW (Cond.static (ex_inf 380).1) := tw_1479
theorem tm_1481 : ex_tW (Cond.methodLink "CallerhallLaw" 116 (ex_inf 133).1) := tw_1481
theorem tm_1482 : ex_tW (Cond.instanceMethod (ex_inf 133).1) := tw_1482
theorem tm_1483 : ex_tW (Cond.selects "Callerhall" (ex_inf 133).1 (ex_inf 133).1) := tw_1483
theorem tm_1485 : ex_tW (Cond.methodLink "Callerhall" 349 (ex_inf 128).1) := tw_1485
theorem tm_1486 : ex_tW (Cond.methodLink "Callerhall" 353 (ex_inf 160).1) := tw_1486
theorem tm_1488 : ex_tW (Cond.instanceMethod (ex_inf 160).1) := tw_1488
theorem tm_1490 : ex_tW (Cond.methodLink "CallerhallLaw" 296 (ex_inf 381).1) := tw_1490
theorem tm_1491 : ex_tW (Cond.static (ex_inf 381).1) := tw_1491
theorem tm_1493 : ex_tW (Cond.methodLink "CallerhallLaw" 119 (ex_inf 134).1) := tw_1493
theorem tm_1494 : ex_tW (Cond.instanceMethod (ex_inf 134).1) := tw_1494
theorem tm_1495 : ex_tW (Cond.selects "Callerhall" (ex_inf 134).1 (ex_inf 134).1) := tw_1495
theorem tm_1497 : ex_tW (Cond.methodLink "CallerhallLaw" 299 (ex_inf 382).1) := tw_1497
theorem tm_1498 : ex_tW (Cond.static (ex_inf 382).1) := tw_1498
theorem tm_1500 : ex_tW (Cond.methodLink "CallerhallLaw" 122 (ex_inf 135).1) := tw_1500
theorem tm_1501 : ex_tW (Cond.instanceMethod (ex_inf 135).1) := tw_1501
theorem tm_1502 : ex_tW (Cond.selects "Callerhall" (ex_inf 135).1 (ex_inf 135).1) := tw_1502
theorem tm_1504 : ex_tW (Cond.methodLink "Callerhall" 362 (ex_inf 56).1) := tw_1504
theorem tm_1505 : ex_tW (Cond.instanceMethod (ex_inf 56).1) := tw_1505
theorem tm_1506 : ex_tW (Cond.selects "Callerhall$Song" (ex_inf 56).1 (ex_inf 56).1) := tw_1506
theorem tm_1508 : ex_tW (Cond.methodLink "CallerhallLaw" 306 (ex_inf 383).1) := tw_1508
theorem tm_1509 : ex_tW (Cond.static (ex_inf 383).1) := tw_1509
theorem tm_1511 : ex_tW (Cond.methodLink "CallerhallLaw" 125 (ex_inf 137).1) := tw_1511
theorem tm_1512 : ex_tW (Cond.instanceMethod (ex_inf 137).1) := tw_1512
theorem tm_1513 : ex_tW (Cond.selects "Callerhall" (ex_inf 137).1 (ex_inf 137).1) := tw_1513
theorem tm_1515 : ex_tW (Cond.methodLink "CallerhallLaw" 313 (ex_inf 384).1) := tw_1515
theorem tm_1516 : ex_tW (Cond.static (ex_inf 384).1) := tw_1516
theorem tm_1518 : ex_tW (Cond.methodLink "CallerhallLaw" 128 (ex_inf 139).1) := tw_1518
theorem tm_1519 : ex_tW (Cond.instanceMethod (ex_inf 139).1) := tw_1519
theorem tm_1520 : ex_tW (Cond.selects "Callerhall" (ex_inf 139).1 (ex_inf 139).1) := tw_1520
theorem tm_1522 : ex_tW (Cond.methodLink "Callerhall" 374 (ex_inf 30).1) := tw_1522
theorem tm_1523 : ex_tW (Cond.instanceMethod (ex_inf 30).1) := tw_1523
theorem tm_1524 : ex_tW (Cond.selects "Callerhall$Party" (ex_inf 30).1 (ex_inf 30).1) := tw_1524
theorem tm_1526 : ex_tW (Cond.methodLink "CallerhallLaw" 316 (ex_inf 385).1) := tw_1526
theorem tm_1527 : ex_tW (Cond.static (ex_inf 385).1) := tw_1527
theorem tm_1529 : ex_tW (Cond.methodLink "CallerhallLaw" 131 (ex_inf 140).1) := tw_1529
theorem tm_1530 : ex_tW (Cond.instanceMethod (ex_inf 140).1) := tw_1530
theorem tm_1531 : ex_tW (Cond.selects "Callerhall" (ex_inf 140).1 (ex_inf 140).1) := tw_1531
theorem tm_1533 : ex_tW (Cond.methodLink "Callerhall" 380 (ex_inf 31).1) := tw_1533
theorem tm_1534 : ex_tW (Cond.instanceMethod (ex_inf 31).1) := tw_1534
theorem tm_1535 : ex_tW (Cond.selects "Callerhall$Party" (ex_inf 31).1 (ex_inf 31).1) := tw_1535
theorem tm_1537 : ex_tW (Cond.methodLink "Callerhall$Party" 28 (ex_inf 32).1) := tw_1537
theorem tm_1539 : ex_tW (Cond.instanceMethod (ex_inf 32).1) := tw_1539
theorem tm_1541 : ex_tW (Cond.methodLink "Callerhall$Party" 36 (ex_inf 33).1) := tw_1541
theorem tm_1543 : ex_tW (Cond.instanceMethod (ex_inf 33).1) := tw_1543
theorem tm_1545 : ex_tW (Cond.methodLink "Callerhall$Party" 32 (ex_inf 34).1) := tw_1545
theorem tm_1547 : ex_tW (Cond.instanceMethod (ex_inf 34).1) := tw_1547
theorem tm_1549 : ex_tW (Cond.methodLink "CallerhallLaw" 319 (ex_inf 386).1) := tw_1549
theorem tm_1550 : ex_tW (Cond.static (ex_inf 386).1) := tw_1550
theorem tm_1552 : ex_tW (Cond.methodLink "CallerhallLaw" 134 (ex_inf 141).1) := tw_1552
theorem tm_1553 : ex_tW (Cond.instanceMethod (ex_inf 141).1) := tw_1553
theorem tm_1554 : ex_tW (Cond.selects "Callerhall" (ex_inf 141).1 (ex_inf 141).1) := tw_1554
theorem tm_1556 : ex_tW (Cond.methodLink "Callerhall" 383 (ex_inf 150).1) := tw_1556
theorem tm_1558 : ex_tW (Cond.instanceMethod (ex_inf 150).1) := tw_1558
theorem tm_1560 : ex_tW (Cond.methodLink "CallerhallLaw" 322 (ex_inf 387).1) := tw_1560
theorem tm_1561 : ex_tW (Cond.static (ex_inf 387).1) := tw_1561
theorem tm_1563 : ex_tW (Cond.methodLink "CallerhallLaw" 137 (ex_inf 142).1) := tw_1563
theorem tm_1564 : ex_tW (Cond.instanceMethod (ex_inf 142).1) := tw_1564
theorem tm_1565 : ex_tW (Cond.selects "Callerhall" (ex_inf 142).1 (ex_inf 142).1) := tw_1565
theorem tm_1567 : ex_tW (Cond.methodLink "CallerhallLaw" 330 (ex_inf 388).1) := tw_1567
theorem tm_1568 : ex_tW (Cond.static (ex_inf 388).1) := tw_1568
theorem tm_1584 : ex_tW (Cond.methodLink "CallerhallLaw" 140 (ex_inf 144).1) := tw_1584
theorem tm_1585 : ex_tW (Cond.instanceMethod (ex_inf 144).1) := tw_1585
theorem tm_1586 : ex_tW (Cond.selects "Callerhall" (ex_inf 144).1 (ex_inf 144).1) := tw_1586
theorem tm_1595 : ex_tW (Cond.methodLink "CallerhallLaw" 149 (ex_inf 177).1) := tw_1595
theorem tm_1596 : ex_tW (Cond.instanceMethod (ex_inf 177).1) := tw_1596
theorem tm_1601 : ex_tW (Cond.methodLink "CallerhallModel" 24 (ex_inf 330).1) := tw_1601
theorem tm_1602 : ex_tW (Cond.instanceMethod (ex_inf 330).1) := tw_1602
theorem tm_1604 : ex_tW (Cond.methodLink "java/util/ArrayList" 1 (ex_inf 325).1) := tw_1604
theorem tm_1605 : ex_tW (Cond.instanceMethod (ex_inf 325).1) := tw_1605
theorem tm_1607 : ex_tW (Cond.methodLink "java/util/AbstractList" 1 (ex_inf 324).1) := tw_1607
theorem tm_1608 : ex_tW (Cond.instanceMethod (ex_inf 324).1) := tw_1608
theorem tm_1633 : ex_tW (Cond.selects "java/util/ArrayList" ({ cls := "java/util/List", name := "add", desc := "(Ljava/lang/Object;)Z" } : Jvm.MethodName) (ex_inf 339).1) := tw_1633
theorem tm_1635 : ex_tW (Cond.instanceMethod (ex_inf 339).1) := tw_1635
theorem tm_1638 : ex_tW (Cond.methodLink "java/util/ArrayList" 131 (ex_inf 338).1) := tw_1638
theorem tm_1640 : ex_tW (Cond.instanceMethod (ex_inf 338).1) := tw_1640
theorem tm_1642 : ex_tW (Cond.methodLink "java/util/ArrayList" 129 (ex_inf 332).1) := tw_1642
theorem tm_1644 : ex_tW (Cond.instanceMethod (ex_inf 332).1) := tw_1644
theorem tm_1646 : ex_tW (Cond.methodLink "java/util/ArrayList" 69 (ex_inf 331).1) := tw_1646
theorem tm_1648 : ex_tW (Cond.instanceMethod (ex_inf 331).1) := tw_1648
theorem tm_1650 : ex_tW (Cond.methodLink "java/util/ArrayList" 73 (ex_inf 348).1) := tw_1650
theorem tm_1651 : ex_tW (Cond.static (ex_inf 348).1) := tw_1651
theorem tm_1653 : ex_tW (Cond.methodLink "jdk/internal/util/ArraysSupport" 194 (ex_inf 301).1) := tw_1653
theorem tm_1655 : ex_tW (Cond.methodLink "jdk/internal/util/ArraysSupport" 201 (ex_inf 349).1) := tw_1655
theorem tm_1656 : ex_tW (Cond.static (ex_inf 349).1) := tw_1656
theorem tm_1658 : ex_tW (Cond.methodLink "java/util/ArrayList" 66 (ex_inf 345).1) := tw_1658
theorem tm_1659 : ex_tW (Cond.static (ex_inf 345).1) := tw_1659
theorem tm_1697 : ex_tW (Cond.methodLink "java/util/Arrays" 304 (ex_inf 302).1) := tw_1697
theorem tm_1701 : ex_tW (Cond.methodLink "java/util/ArrayList" 79 (ex_inf 301).1) := tw_1701
theorem tm_1703 : ex_tW (Cond.methodLink "CallerhallModel" 89 (ex_inf 183).1) := tw_1703
theorem tm_1705 : ex_tW (Cond.instanceMethod (ex_inf 183).1) := tw_1705
theorem tm_1707 : ex_tW (Cond.methodLink "CallerhallModel" 93 (ex_inf 184).1) := tw_1707
theorem tm_1709 : ex_tW (Cond.instanceMethod (ex_inf 184).1) := tw_1709
theorem tm_1832 : ex_tW (Cond.methodLink "CallerhallLaw" 160 (ex_inf 178).1) := tw_1832
theorem tm_1833 : ex_tW (Cond.instanceMethod (ex_inf 178).1) := tw_1833
theorem tm_1834 : ex_tW (Cond.selects "CallerhallModel" (ex_inf 178).1 (ex_inf 178).1) := tw_1834
theorem tm_1836 : ex_tW (Cond.methodLink "CallerhallLaw" 153 (ex_inf 190).1) := tw_1836
theorem tm_1837 : ex_tW (Cond.instanceMethod (ex_inf 190).1) := tw_1837
theorem tm_1838 : ex_tW (Cond.selects "CallerhallModel" (ex_inf 190).1 (ex_inf 190).1) := tw_1838
theorem tm_1840 : ex_tW (Cond.methodLink "CallerhallModel" 129 (ex_inf 185).1) := tw_1840
theorem tm_1842 : ex_tW (Cond.instanceMethod (ex_inf 185).1) := tw_1842
theorem tm_1844 : ex_tW (Cond.methodLink "CallerhallModel" 132 (ex_inf 189).1) := tw_1844
theorem tm_1846 : ex_tW (Cond.instanceMethod (ex_inf 189).1) := tw_1846
theorem tm_1852 : ex_tW (Cond.selects "java/util/ArrayList" ({ cls := "java/util/List", name := "clear", desc := "()V" } : Jvm.MethodName) (ex_inf 342).1) := tw_1852
theorem tm_1854 : ex_tW (Cond.instanceMethod (ex_inf 342).1) := tw_1854
theorem tm_1857 : ex_tW (Cond.methodLink "CallerhallLaw" 159 (ex_inf 191).1) := tw_1857
theorem tm_1858 : ex_tW (Cond.instanceMethod (ex_inf 191).1) := tw_1858
theorem tm_1859 : ex_tW (Cond.selects "CallerhallModel" (ex_inf 191).1 (ex_inf 191).1) := tw_1859
theorem tm_1861 : ex_tW (Cond.methodLink "CallerhallModel" 141 (ex_inf 182).1) := tw_1861
theorem tm_1863 : ex_tW (Cond.instanceMethod (ex_inf 182).1) := tw_1863
theorem tm_1866 : ex_tW (Cond.methodLink "CallerhallModel" 102 (ex_inf 180).1) := tw_1866
theorem tm_1867 : ex_tW (Cond.static (ex_inf 180).1) := tw_1867
theorem tm_1869 : ex_tW (Cond.methodLink "CallerhallModel" 106 (ex_inf 181).1) := tw_1869
theorem tm_1871 : ex_tW (Cond.instanceMethod (ex_inf 181).1) := tw_1871
theorem tm_1873 : ex_tW (Cond.methodLink "CallerhallLaw" 165 (ex_inf 192).1) := tw_1873
theorem tm_1874 : ex_tW (Cond.instanceMethod (ex_inf 192).1) := tw_1874
theorem tm_1875 : ex_tW (Cond.selects "CallerhallModel" (ex_inf 192).1 (ex_inf 192).1) := tw_1875
theorem tm_1877 : ex_tW (Cond.methodLink "CallerhallLaw" 168 (ex_inf 193).1) := tw_1877
theorem tm_1878 : ex_tW (Cond.instanceMethod (ex_inf 193).1) := tw_1878
theorem tm_1879 : ex_tW (Cond.selects "CallerhallModel" (ex_inf 193).1 (ex_inf 193).1) := tw_1879
theorem tm_1881 : ex_tW (Cond.methodLink "CallerhallLaw" 172 (ex_inf 196).1) := tw_1881
theorem tm_1882 : ex_tW (Cond.instanceMethod (ex_inf 196).1) := tw_1882
theorem tm_1883 : ex_tW (Cond.selects "CallerhallModel" (ex_inf 196).1 (ex_inf 196).1) := tw_1883
theorem tm_1885 : ex_tW (Cond.methodLink "CallerhallModel" 151 (ex_inf 195).1) := tw_1885
theorem tm_1886 : ex_tW (Cond.static (ex_inf 195).1) := tw_1886
theorem tm_1891 : ex_tW (Cond.methodLink "CallerhallModel" 155 (ex_inf 194).1) := tw_1891
theorem tm_1893 : ex_tW (Cond.instanceMethod (ex_inf 194).1) := tw_1893
theorem tm_1895 : ex_tW (Cond.methodLink "CallerhallLaw" 176 (ex_inf 197).1) := tw_1895
theorem tm_1896 : ex_tW (Cond.instanceMethod (ex_inf 197).1) := tw_1896
theorem tm_1897 : ex_tW (Cond.selects "CallerhallModel" (ex_inf 197).1 (ex_inf 197).1) := tw_1897
theorem tm_1899 : ex_tW (Cond.methodLink "CallerhallModel" 159 (ex_inf 299).1) := tw_1899
theorem tm_1900 : ex_tW (Cond.methodLink "CallerhallLaw" 179 (ex_inf 198).1) := tw_1900
theorem tm_1901 : ex_tW (Cond.instanceMethod (ex_inf 198).1) := tw_1901
theorem tm_1902 : ex_tW (Cond.selects "CallerhallModel" (ex_inf 198).1 (ex_inf 198).1) := tw_1902
theorem tm_1904 : ex_tW (Cond.methodLink "CallerhallModel" 118 (ex_inf 186).1) := tw_1904
theorem tm_1905 : ex_tW (Cond.static (ex_inf 186).1) := tw_1905
theorem tm_1914 : ex_tW (Cond.methodLink "CallerhallLaw" 182 (ex_inf 199).1) := tw_1914
theorem tm_1915 : ex_tW (Cond.instanceMethod (ex_inf 199).1) := tw_1915
theorem tm_1916 : ex_tW (Cond.selects "CallerhallModel" (ex_inf 199).1 (ex_inf 199).1) := tw_1916
theorem tm_1918 : ex_tW (Cond.methodLink "CallerhallLaw" 185 (ex_inf 200).1) := tw_1918
theorem tm_1919 : ex_tW (Cond.instanceMethod (ex_inf 200).1) := tw_1919
theorem tm_1920 : ex_tW (Cond.selects "CallerhallModel" (ex_inf 200).1 (ex_inf 200).1) := tw_1920
theorem tm_1922 : ex_tW (Cond.methodLink "CallerhallLaw" 189 (ex_inf 201).1) := tw_1922
theorem tm_1923 : ex_tW (Cond.instanceMethod (ex_inf 201).1) := tw_1923
theorem tm_1924 : ex_tW (Cond.selects "CallerhallModel" (ex_inf 201).1 (ex_inf 201).1) := tw_1924
theorem tm_1930 : ex_tW (Cond.selects "java/util/ArrayList" ({ cls := "java/util/List", name := "iterator", desc := "()Ljava/util/Iterator;" } : Jvm.MethodName) (ex_inf 344).1) := tw_1930
theorem tm_1932 : ex_tW (Cond.instanceMethod (ex_inf 344).1) := tw_1932
theorem tm_1937 : ex_tW (Cond.methodLink "java/util/ArrayList" 269 (ex_inf 326).1) := tw_1937
theorem tm_1938 : ex_tW (Cond.instanceMethod (ex_inf 326).1) := tw_1938
theorem tm_1959 : ex_tW (Cond.selects "java/util/ArrayList$Itr" ({ cls := "java/util/Iterator", name := "hasNext", desc := "()Z" } : Jvm.MethodName) (ex_inf 327).1) := tw_1959
theorem tm_1961 : ex_tW (Cond.instanceMethod (ex_inf 327).1) := tw_1961
theorem tm_1968 : ex_tW (Cond.selects "java/util/ArrayList$Itr" ({ cls := "java/util/Iterator", name := "next", desc := "()Ljava/lang/Object;" } : Jvm.MethodName) (ex_inf 328).1) := tw_1968
theorem tm_1970 : ex_tW (Cond.instanceMethod (ex_inf 328).1) := tw_1970
theorem tm_1973 : ex_tW (Cond.methodLink "java/util/ArrayList$Itr" 31 (ex_inf 329).1) := tw_1973
theorem tm_1974 : ex_tW (Cond.instanceMethod (ex_inf 329).1) := tw_1974
theorem tm_1975 : ex_tW (Cond.selects "java/util/ArrayList$Itr" (ex_inf 329).1 (ex_inf 329).1) := tw_1975
theorem tm_1983 : ex_tW (Cond.selects "java/util/ArrayList" ({ cls := "java/util/List", name := "size", desc := "()I" } : Jvm.MethodName) (ex_inf 333).1) := tw_1983
theorem tm_1985 : ex_tW (Cond.instanceMethod (ex_inf 333).1) := tw_1985
theorem tm_1988 : ex_tW (Cond.methodLink "CallerhallLaw" 193 (ex_inf 202).1) := tw_1988
theorem tm_1989 : ex_tW (Cond.instanceMethod (ex_inf 202).1) := tw_1989
theorem tm_1990 : ex_tW (Cond.selects "CallerhallModel" (ex_inf 202).1 (ex_inf 202).1) := tw_1990
theorem tm_1992 : ex_tW (Cond.methodLink "CallerhallLaw" 196 (ex_inf 203).1) := tw_1992
theorem tm_1993 : ex_tW (Cond.instanceMethod (ex_inf 203).1) := tw_1993
theorem tm_1994 : ex_tW (Cond.selects "CallerhallModel" (ex_inf 203).1 (ex_inf 203).1) := tw_1994
theorem tm_1996 : ex_tW (Cond.methodLink "CallerhallLaw" 199 (ex_inf 204).1) := tw_1996
theorem tm_1997 : ex_tW (Cond.instanceMethod (ex_inf 204).1) := tw_1997
theorem tm_1998 : ex_tW (Cond.selects "CallerhallModel" (ex_inf 204).1 (ex_inf 204).1) := tw_1998
theorem tm_2002 : ex_tW (Cond.methodLink "CallerhallLaw" 203 (ex_inf 208).1) := tw_2002
theorem tm_2003 : ex_tW (Cond.instanceMethod (ex_inf 208).1) := tw_2003
theorem tm_2004 : ex_tW (Cond.selects "CallerhallModel" (ex_inf 208).1 (ex_inf 208).1) := tw_2004
theorem tm_2006 : ex_tW (Cond.methodLink "CallerhallModel" 204 (ex_inf 205).1) := tw_2006
theorem tm_2007 : ex_tW (Cond.static (ex_inf 205).1) := tw_2007
theorem tm_2009 : ex_tW (Cond.methodLink "CallerhallModel" 208 (ex_inf 207).1) := tw_2009
theorem tm_2010 : ex_tW (Cond.static (ex_inf 207).1) := tw_2010
theorem tm_2013 : ex_tW (Cond.methodLink "CallerhallModel" 195 (ex_inf 305).1) := tw_2013
theorem tm_2016 : ex_tW (Cond.methodLink "CallerhallModel" 212 (ex_inf 206).1) := tw_2016
theorem tm_2018 : ex_tW (Cond.instanceMethod (ex_inf 206).1) := tw_2018
theorem tm_2024 : ex_tW (Cond.selects "java/util/ArrayList" ({ cls := "java/util/List", name := "get", desc := "(I)Ljava/lang/Object;" } : Jvm.MethodName) (ex_inf 337).1) := tw_2024
theorem tm_2026 : ex_tW (Cond.instanceMethod (ex_inf 337).1) := tw_2026
theorem tm_2029 : ex_tW (Cond.methodLink "java/util/ArrayList" 118 (ex_inf 347).1) := tw_2029
theorem tm_2030 : ex_tW (Cond.static (ex_inf 347).1) := tw_2030
theorem tm_2032 : ex_tW (Cond.methodLink "java/util/Objects" 105 (ex_inf 350).1) := tw_2032
theorem tm_2033 : ex_tW (Cond.methodLink "java/util/ArrayList" 123 (ex_inf 336).1) := tw_2033
theorem tm_2034 : ex_tW (Cond.instanceMethod (ex_inf 336).1) := tw_2034
theorem tm_2035 : ex_tW (Cond.selects "java/util/ArrayList" (ex_inf 336).1 (ex_inf 336).1) := tw_2035
theorem tm_2040 : ex_tW (Cond.methodLink "CallerhallModel" 219 (ex_inf 176).1) := tw_2040
theorem tm_2041 : ex_tW (Cond.instanceMethod (ex_inf 176).1) := tw_2041
theorem tm_2045 : ex_tW (Cond.methodLink "CallerhallModel$Version" 9 (ex_inf 330).1) := tw_2045
theorem tm_2059 : ex_tW (Cond.methodLink "CallerhallLaw" 207 (ex_inf 209).1) := tw_2059
theorem tm_2060 : ex_tW (Cond.instanceMethod (ex_inf 209).1) := tw_2060
theorem tm_2061 : ex_tW (Cond.selects "CallerhallModel" (ex_inf 209).1 (ex_inf 209).1) := tw_2061
theorem tm_2063 : ex_tW (Cond.methodLink "CallerhallLaw" 211 (ex_inf 212).1) := tw_2063
theorem tm_2064 : ex_tW (Cond.instanceMethod (ex_inf 212).1) := tw_2064
theorem tm_2065 : ex_tW (Cond.selects "CallerhallModel" (ex_inf 212).1 (ex_inf 212).1) := tw_2065
theorem tm_2068 : ex_tW (Cond.methodLink "CallerhallModel" 236 (ex_inf 211).1) := tw_2068
theorem tm_2069 : ex_tW (Cond.static (ex_inf 211).1) := tw_2069
theorem tm_2071 : ex_tW (Cond.methodLink "CallerhallModel" 230 (ex_inf 210).1) := tw_2071
theorem tm_2072 : ex_tW (Cond.static (ex_inf 210).1) := tw_2072
theorem tm_2077 : ex_tW (Cond.methodLink "CallerhallLaw" 214 (ex_inf 216).1) := tw_2077
theorem tm_2078 : ex_tW (Cond.instanceMethod (ex_inf 216).1) := tw_2078
theorem tm_2079 : ex_tW (Cond.selects "CallerhallModel" (ex_inf 216).1 (ex_inf 216).1) := tw_2079
theorem tm_2081 : ex_tW (Cond.methodLink "CallerhallModel" 258 (ex_inf 215).1) := tw_2081
theorem tm_2083 : ex_tW (Cond.instanceMethod (ex_inf 215).1) := tw_2083
theorem tm_2085 : ex_tW (Cond.methodLink "CallerhallModel" 250 (ex_inf 213).1) := tw_2085
theorem tm_2087 : ex_tW (Cond.instanceMethod (ex_inf 213).1) := tw_2087
theorem tm_2089 : ex_tW (Cond.methodLink "CallerhallModel" 261 (ex_inf 214).1) := tw_2089
theorem tm_2091 : ex_tW (Cond.instanceMethod (ex_inf 214).1) := tw_2091
theorem tm_2095 : ex_tW (Cond.methodLink "CallerhallModel" 242 (ex_inf 171).1) := tw_2095
theorem tm_2096 : ex_tW (Cond.instanceMethod (ex_inf 171).1) := tw_2096
theorem tm_2100 : ex_tW (Cond.methodLink "CallerhallModel$Call" 11 (ex_inf 330).1) := tw_2100
theorem tm_2116 : ex_tW (Cond.methodLink "CallerhallModel" 246 (ex_inf 172).1) := tw_2116
theorem tm_2117 : ex_tW (Cond.instanceMethod (ex_inf 172).1) := tw_2117
theorem tm_2118 : ex_tW (Cond.selects "CallerhallModel$Call" (ex_inf 172).1 (ex_inf 172).1) := tw_2118
theorem tm_2129 : ex_tW (Cond.methodLink "CallerhallModel$Call" 49 (ex_inf 305).1) := tw_2129
theorem tm_2134 : ex_tW (Cond.selects "java/util/ArrayList" ({ cls := "java/util/List", name := "addAll", desc := "(Ljava/util/Collection;)Z" } : Jvm.MethodName) (ex_inf 343).1) := tw_2134
theorem tm_2136 : ex_tW (Cond.instanceMethod (ex_inf 343).1) := tw_2136
theorem tm_2150 : ex_tW (Cond.methodLink "CallerhallLaw" 217 (ex_inf 217).1) := tw_2150
theorem tm_2151 : ex_tW (Cond.instanceMethod (ex_inf 217).1) := tw_2151
theorem tm_2152 : ex_tW (Cond.selects "CallerhallModel" (ex_inf 217).1 (ex_inf 217).1) := tw_2152
theorem tm_2154 : ex_tW (Cond.methodLink "CallerhallLaw" 220 (ex_inf 218).1) := tw_2154
theorem tm_2155 : ex_tW (Cond.instanceMethod (ex_inf 218).1) := tw_2155
theorem tm_2156 : ex_tW (Cond.selects "CallerhallModel" (ex_inf 218).1 (ex_inf 218).1) := tw_2156
theorem tm_2158 : ex_tW (Cond.methodLink "CallerhallModel" 265 (ex_inf 173).1) := tw_2158
theorem tm_2159 : ex_tW (Cond.instanceMethod (ex_inf 173).1) := tw_2159
theorem tm_2160 : ex_tW (Cond.selects "CallerhallModel$Call" (ex_inf 173).1 (ex_inf 173).1) := tw_2160
theorem tm_2164 : ex_tW (Cond.methodLink "CallerhallModel$Call" 58 (ex_inf 301).1) := tw_2164
theorem tm_2165 : ex_tW (Cond.methodLink "CallerhallLaw" 224 (ex_inf 251).1) := tw_2165
theorem tm_2166 : ex_tW (Cond.instanceMethod (ex_inf 251).1) := tw_2166
theorem tm_2167 : ex_tW (Cond.selects "CallerhallModel" (ex_inf 251).1 (ex_inf 251).1) := tw_2167
theorem tm_2170 : ex_tW (Cond.methodLink "CallerhallModel" 463 (ex_inf 248).1) := tw_2170
theorem tm_2172 : ex_tW (Cond.instanceMethod (ex_inf 248).1) := tw_2172
theorem tm_2174 : ex_tW (Cond.methodLink "CallerhallModel" 449 (ex_inf 179).1) := tw_2174
theorem tm_2176 : ex_tW (Cond.instanceMethod (ex_inf 179).1) := tw_2176
theorem tm_2178 : ex_tW (Cond.methodLink "CallerhallModel" 467 (ex_inf 247).1) := tw_2178
theorem tm_2180 : ex_tW (Cond.instanceMethod (ex_inf 247).1) := tw_2180
theorem tm_2182 : ex_tW (Cond.methodLink "CallerhallModel" 430 (ex_inf 222).1) := tw_2182
theorem tm_2184 : ex_tW (Cond.instanceMethod (ex_inf 222).1) := tw_2184
theorem tm_2188 : ex_tW (Cond.methodLink "CallerhallModel" 306 (ex_inf 174).1) := tw_2188
theorem tm_2189 : ex_tW (Cond.instanceMethod (ex_inf 174).1) := tw_2189
theorem tm_2245 : ex_tW (Cond.methodLink "CallerhallModel" 437 (ex_inf 224).1) := tw_2245
theorem tm_2247 : ex_tW (Cond.instanceMethod (ex_inf 224).1) := tw_2247
theorem tm_2249 : ex_tW (Cond.methodLink "CallerhallModel" 312 (ex_inf 223).1) := tw_2249
theorem tm_2250 : ex_tW (Cond.static (ex_inf 223).1) := tw_2250
theorem tm_2252 : ex_tW (Cond.methodLink "CallerhallModel" 315 (ex_inf 225).1) := tw_2252
theorem tm_2254 : ex_tW (Cond.instanceMethod (ex_inf 225).1) := tw_2254
theorem tm_2256 : ex_tW (Cond.methodLink "CallerhallModel" 331 (ex_inf 235).1) := tw_2256
theorem tm_2257 : ex_tW (Cond.static (ex_inf 235).1) := tw_2257
theorem tm_2259 : ex_tW (Cond.methodLink "CallerhallModel" 335 (ex_inf 226).1) := tw_2259
theorem tm_2260 : ex_tW (Cond.static (ex_inf 226).1) := tw_2260
theorem tm_2262 : ex_tW (Cond.methodLink "CallerhallModel" 373 (ex_inf 233).1) := tw_2262
theorem tm_2263 : ex_tW (Cond.static (ex_inf 233).1) := tw_2263
theorem tm_2265 : ex_tW (Cond.methodLink "CallerhallModel" 370 (ex_inf 232).1) := tw_2265
theorem tm_2266 : ex_tW (Cond.static (ex_inf 232).1) := tw_2266
theorem tm_2268 : ex_tW (Cond.methodLink "CallerhallModel" 366 (ex_inf 230).1) := tw_2268
theorem tm_2269 : ex_tW (Cond.static (ex_inf 230).1) := tw_2269
theorem tm_2271 : ex_tW (Cond.methodLink "CallerhallModel" 339 (ex_inf 234).1) := tw_2271
theorem tm_2272 : ex_tW (Cond.static (ex_inf 234).1) := tw_2272
theorem tm_2278 : ex_tW (Cond.methodLink "CallerhallModel" 283 (ex_inf 302).1) := tw_2278
theorem tm_2279 : ex_tW (Cond.methodLink "CallerhallModel" 440 (ex_inf 244).1) := tw_2279
theorem tm_2281 : ex_tW (Cond.instanceMethod (ex_inf 244).1) := tw_2281
theorem tm_2283 : ex_tW (Cond.methodLink "CallerhallModel" 396 (ex_inf 221).1) := tw_2283
theorem tm_2285 : ex_tW (Cond.instanceMethod (ex_inf 221).1) := tw_2285
theorem tm_2287 : ex_tW (Cond.methodLink "CallerhallModel" 293 (ex_inf 220).1) := tw_2287
theorem tm_2289 : ex_tW (Cond.instanceMethod (ex_inf 220).1) := tw_2289
theorem tm_2291 : ex_tW (Cond.methodLink "CallerhallModel" 279 (ex_inf 219).1) := tw_2291
theorem tm_2293 : ex_tW (Cond.instanceMethod (ex_inf 219).1) := tw_2293
theorem tm_2296 : ex_tW (Cond.methodLink "CallerhallModel" 403 (ex_inf 231).1) := tw_2296
theorem tm_2297 : ex_tW (Cond.static (ex_inf 231).1) := tw_2297
theorem tm_2299 : ex_tW (Cond.methodLink "CallerhallModel" 407 (ex_inf 237).1) := tw_2299
theorem tm_2300 : ex_tW (Cond.static (ex_inf 237).1) := tw_2300
theorem tm_2302 : ex_tW (Cond.methodLink "CallerhallModel" 377 (ex_inf 175).1) := tw_2302
theorem tm_2303 : ex_tW (Cond.instanceMethod (ex_inf 175).1) := tw_2303
theorem tm_2304 : ex_tW (Cond.selects "CallerhallModel$Floor" (ex_inf 175).1 (ex_inf 175).1) := tw_2304
theorem tm_2306 : ex_tW (Cond.methodLink "CallerhallModel" 411 (ex_inf 243).1) := tw_2306
theorem tm_2307 : ex_tW (Cond.static (ex_inf 243).1) := tw_2307
theorem tm_2310 : ex_tW (Cond.methodLink "CallerhallModel" 392 (ex_inf 236).1) := tw_2310
theorem tm_2311 : ex_tW (Cond.static (ex_inf 236).1) := tw_2311
theorem tm_2313 : ex_tW (Cond.methodLink "CallerhallModel" 415 (ex_inf 245).1) := tw_2313
theorem tm_2315 : ex_tW (Cond.instanceMethod (ex_inf 245).1) := tw_2315
theorem tm_2317 : ex_tW (Cond.methodLink "CallerhallModel" 419 (ex_inf 241).1) := tw_2317
theorem tm_2318 : ex_tW (Cond.static (ex_inf 241).1) := tw_2318
theorem tm_2320 : ex_tW (Cond.methodLink "CallerhallModel" 387 (ex_inf 238).1) := tw_2320
theorem tm_2322 : ex_tW (Cond.instanceMethod (ex_inf 238).1) := tw_2322
theorem tm_2324 : ex_tW (Cond.methodLink "CallerhallModel" 380 (ex_inf 239).1) := tw_2324
theorem tm_2326 : ex_tW (Cond.instanceMethod (ex_inf 239).1) := tw_2326
theorem tm_2328 : ex_tW (Cond.methodLink "CallerhallModel" 423 (ex_inf 246).1) := tw_2328
theorem tm_2330 : ex_tW (Cond.instanceMethod (ex_inf 246).1) := tw_2330
theorem tm_2332 : ex_tW (Cond.methodLink "CallerhallModel" 384 (ex_inf 240).1) := tw_2332
theorem tm_2334 : ex_tW (Cond.instanceMethod (ex_inf 240).1) := tw_2334
theorem tm_2336 : ex_tW (Cond.methodLink "CallerhallModel" 427 (ex_inf 242).1) := tw_2336
theorem tm_2338 : ex_tW (Cond.instanceMethod (ex_inf 242).1) := tw_2338
theorem tm_2340 : ex_tW (Cond.methodLink "CallerhallModel" 359 (ex_inf 229).1) := tw_2340
theorem tm_2342 : ex_tW (Cond.instanceMethod (ex_inf 229).1) := tw_2342
theorem tm_2344 : ex_tW (Cond.methodLink "CallerhallModel" 443 (ex_inf 227).1) := tw_2344
theorem tm_2346 : ex_tW (Cond.instanceMethod (ex_inf 227).1) := tw_2346
theorem tm_2348 : ex_tW (Cond.methodLink "CallerhallModel" 349 (ex_inf 228).1) := tw_2348
theorem tm_2349 : ex_tW (Cond.static (ex_inf 228).1) := tw_2349
theorem tm_2351 : ex_tW (Cond.methodLink "CallerhallModel" 474 (ex_inf 293).1) := tw_2351
theorem tm_2352 : ex_tW (Cond.static (ex_inf 293).1) := tw_2352
theorem tm_2358 : ex_tW (Cond.methodLink "java/lang/Character" 53 (ex_inf 292).1) := tw_2358
theorem tm_2359 : ex_tW (Cond.instanceMethod (ex_inf 292).1) := tw_2359
theorem tm_2370 : ex_tW (Cond.selects "java/util/ArrayList" ({ cls := "java/util/List", name := "remove", desc := "(I)Ljava/lang/Object;" } : Jvm.MethodName) (ex_inf 340).1) := tw_2370
theorem tm_2372 : ex_tW (Cond.instanceMethod (ex_inf 340).1) := tw_2372
theorem tm_2375 : ex_tW (Cond.methodLink "java/util/ArrayList" 144 (ex_inf 341).1) := tw_2375
theorem tm_2377 : ex_tW (Cond.instanceMethod (ex_inf 341).1) := tw_2377
theorem tm_2379 : ex_tW (Cond.methodLink "CallerhallModel" 483 (ex_inf 249).1) := tw_2379
theorem tm_2381 : ex_tW (Cond.instanceMethod (ex_inf 249).1) := tw_2381
theorem tm_2383 : ex_tW (Cond.methodLink "CallerhallModel" 487 (ex_inf 250).1) := tw_2383
theorem tm_2385 : ex_tW (Cond.instanceMethod (ex_inf 250).1) := tw_2385
theorem tm_2387 : ex_tW (Cond.methodLink "CallerhallLaw" 228 (ex_inf 252).1) := tw_2387
theorem tm_2388 : ex_tW (Cond.instanceMethod (ex_inf 252).1) := tw_2388
theorem tm_2389 : ex_tW (Cond.selects "CallerhallModel" (ex_inf 252).1 (ex_inf 252).1) := tw_2389
theorem tm_2391 : ex_tW (Cond.methodLink "CallerhallModel" 505 (ex_inf 253).1) := tw_2391
theorem tm_2393 : ex_tW (Cond.instanceMethod (ex_inf 253).1) := tw_2393
theorem tm_2395 : ex_tW (Cond.methodLink "CallerhallLaw" 232 (ex_inf 254).1) := tw_2395
theorem tm_2396 : ex_tW (Cond.instanceMethod (ex_inf 254).1) := tw_2396
theorem tm_2397 : ex_tW (Cond.selects "CallerhallModel" (ex_inf 254).1 (ex_inf 254).1) := tw_2397
theorem tm_2399 : ex_tW (Cond.methodLink "CallerhallLaw" 237 (ex_inf 255).1) := tw_2399
theorem tm_2400 : ex_tW (Cond.instanceMethod (ex_inf 255).1) := tw_2400
theorem tm_2401 : ex_tW (Cond.selects "CallerhallModel" (ex_inf 255).1 (ex_inf 255).1) := tw_2401
theorem tm_2403 : ex_tW (Cond.methodLink "CallerhallLaw" 240 (ex_inf 256).1) := tw_2403
theorem tm_2404 : ex_tW (Cond.instanceMethod (ex_inf 256).1) := tw_2404
theorem tm_2405 : ex_tW (Cond.selects "CallerhallModel" (ex_inf 256).1 (ex_inf 256).1) := tw_2405
theorem tm_2407 : ex_tW (Cond.methodLink "CallerhallLaw" 244 (ex_inf 257).1) := tw_2407
theorem tm_2408 : ex_tW (Cond.instanceMethod (ex_inf 257).1) := tw_2408
theorem tm_2409 : ex_tW (Cond.selects "CallerhallModel" (ex_inf 257).1 (ex_inf 257).1) := tw_2409
theorem tm_2411 : ex_tW (Cond.methodLink "CallerhallLaw" 247 (ex_inf 258).1) := tw_2411
theorem tm_2412 : ex_tW (Cond.instanceMethod (ex_inf 258).1) := tw_2412
theorem tm_2413 : ex_tW (Cond.selects "CallerhallModel" (ex_inf 258).1 (ex_inf 258).1) := tw_2413
theorem tm_2419 : ex_tW (Cond.selects "java/util/ArrayList" ({ cls := "java/util/List", name := "isEmpty", desc := "()Z" } : Jvm.MethodName) (ex_inf 334).1) := tw_2419
theorem tm_2421 : ex_tW (Cond.instanceMethod (ex_inf 334).1) := tw_2421
theorem tm_2424 : ex_tW (Cond.methodLink "CallerhallLaw" 251 (ex_inf 259).1) := tw_2424
theorem tm_2425 : ex_tW (Cond.instanceMethod (ex_inf 259).1) := tw_2425
theorem tm_2426 : ex_tW (Cond.selects "CallerhallModel" (ex_inf 259).1 (ex_inf 259).1) := tw_2426
theorem tm_2428 : ex_tW (Cond.methodLink "CallerhallLaw" 254 (ex_inf 260).1) := tw_2428
theorem tm_2429 : ex_tW (Cond.instanceMethod (ex_inf 260).1) := tw_2429
theorem tm_2430 : ex_tW (Cond.selects "CallerhallModel" (ex_inf 260).1 (ex_inf 260).1) := tw_2430
theorem tm_2433 : ex_tW (Cond.methodLink "CallerhallModel" 512 (ex_inf 294).1) := tw_2433
theorem tm_2434 : ex_tW (Cond.instanceMethod (ex_inf 294).1) := tw_2434
theorem tm_2435 : ex_tW (Cond.selects "java/lang/Character" (ex_inf 294).1 (ex_inf 294).1) := tw_2435
theorem tm_2437 : ex_tW (Cond.methodLink "CallerhallLaw" 258 (ex_inf 261).1) := tw_2437
theorem tm_2438 : ex_tW (Cond.instanceMethod (ex_inf 261).1) := tw_2438
theorem tm_2439 : ex_tW (Cond.selects "CallerhallModel" (ex_inf 261).1 (ex_inf 261).1) := tw_2439
theorem tm_2441 : ex_tW (Cond.methodLink "CallerhallLaw" 262 (ex_inf 262).1) := tw_2441
theorem tm_2442 : ex_tW (Cond.instanceMethod (ex_inf 262).1) := tw_2442
theorem tm_2443 : ex_tW (Cond.selects "CallerhallModel" (ex_inf 262).1 (ex_inf 262).1) := tw_2443
theorem tm_2445 : ex_tW (Cond.methodLink "CallerhallLaw" 265 (ex_inf 263).1) := tw_2445
theorem tm_2446 : ex_tW (Cond.instanceMethod (ex_inf 263).1) := tw_2446
theorem tm_2447 : ex_tW (Cond.selects "CallerhallModel" (ex_inf 263).1 (ex_inf 263).1) := tw_2447
theorem tm_2449 : ex_tW (Cond.methodLink "CallerhallLaw" 269 (ex_inf 267).1) := tw_2449
theorem tm_2450 : ex_tW (Cond.instanceMethod (ex_inf 267).1) := tw_2450
theorem tm_2451 : ex_tW (Cond.selects "CallerhallModel" (ex_inf 267).1 (ex_inf 267).1) := tw_2451
theorem tm_2454 : ex_tW (Cond.methodLink "CallerhallModel" 525 (ex_inf 303).1) := tw_2454
theorem tm_2455 : ex_tW (Cond.methodLink "CallerhallModel" 528 (ex_inf 304).1) := tw_2455
theorem tm_2456 : ex_tW (Cond.methodLink "CallerhallModel" 532 (ex_inf 266).1) := tw_2456
theorem tm_2458 : ex_tW (Cond.instanceMethod (ex_inf 266).1) := tw_2458
theorem tm_2460 : ex_tW (Cond.methodLink "CallerhallModel" 520 (ex_inf 265).1) := tw_2460
theorem tm_2462 : ex_tW (Cond.instanceMethod (ex_inf 265).1) := tw_2462
theorem tm_2464 : ex_tW (Cond.methodLink "CallerhallModel" 516 (ex_inf 264).1) := tw_2464
theorem tm_2465 : ex_tW (Cond.static (ex_inf 264).1) := tw_2465
theorem tm_2467 : ex_tW (Cond.methodLink "CallerhallLaw" 272 (ex_inf 268).1) := tw_2467
theorem tm_2468 : ex_tW (Cond.instanceMethod (ex_inf 268).1) := tw_2468
theorem tm_2469 : ex_tW (Cond.selects "CallerhallModel" (ex_inf 268).1 (ex_inf 268).1) := tw_2469
theorem tm_2471 : ex_tW (Cond.methodLink "CallerhallLaw" 277 (ex_inf 269).1) := tw_2471
theorem tm_2472 : ex_tW (Cond.instanceMethod (ex_inf 269).1) := tw_2472
theorem tm_2473 : ex_tW (Cond.selects "CallerhallModel" (ex_inf 269).1 (ex_inf 269).1) := tw_2473
theorem tm_2475 : ex_tW (Cond.methodLink "CallerhallModel" 536 (ex_inf 188).1) := tw_2475
theorem tm_2477 : ex_tW (Cond.instanceMethod (ex_inf 188).1) := tw_2477
theorem tm_2479 : ex_tW (Cond.methodLink "CallerhallModel" 122 (ex_inf 187).1) := tw_2479
theorem tm_2480 : ex_tW (Cond.static (ex_inf 187).1) := tw_2480
theorem tm_2482 : ex_tW (Cond.methodLink "CallerhallLaw" 281 (ex_inf 270).1) := tw_2482
theorem tm_2483 : ex_tW (Cond.instanceMethod (ex_inf 270).1) := tw_2483
theorem tm_2484 : ex_tW (Cond.selects "CallerhallModel" (ex_inf 270).1 (ex_inf 270).1) := tw_2484
theorem tm_2486 : ex_tW (Cond.methodLink "CallerhallLaw" 284 (ex_inf 271).1) := tw_2486
theorem tm_2487 : ex_tW (Cond.instanceMethod (ex_inf 271).1) := tw_2487
theorem tm_2488 : ex_tW (Cond.selects "CallerhallModel" (ex_inf 271).1 (ex_inf 271).1) := tw_2488
theorem tm_2490 : ex_tW (Cond.methodLink "CallerhallLaw" 288 (ex_inf 272).1) := tw_2490
theorem tm_2491 : ex_tW (Cond.instanceMethod (ex_inf 272).1) := tw_2491
theorem tm_2492 : ex_tW (Cond.selects "CallerhallModel" (ex_inf 272).1 (ex_inf 272).1) := tw_2492
theorem tm_2494 : ex_tW (Cond.methodLink "CallerhallLaw" 292 (ex_inf 273).1) := tw_2494
theorem tm_2495 : ex_tW (Cond.instanceMethod (ex_inf 273).1) := tw_2495
theorem tm_2496 : ex_tW (Cond.selects "CallerhallModel" (ex_inf 273).1 (ex_inf 273).1) := tw_2496
theorem tm_2498 : ex_tW (Cond.methodLink "CallerhallLaw" 295 (ex_inf 275).1) := tw_2498
theorem tm_2499 : ex_tW (Cond.instanceMethod (ex_inf 275).1) := tw_2499
theorem tm_2500 : ex_tW (Cond.selects "CallerhallModel" (ex_inf 275).1 (ex_inf 275).1) := tw_2500
theorem tm_2504 : ex_tW (Cond.methodLink "CallerhallModel" 544 (ex_inf 274).1) := tw_2504
theorem tm_2506 : ex_tW (Cond.instanceMethod (ex_inf 274).1) := tw_2506
theorem tm_2508 : ex_tW (Cond.methodLink "CallerhallLaw" 298 (ex_inf 276).1) := tw_2508
theorem tm_2509 : ex_tW (Cond.instanceMethod (ex_inf 276).1) := tw_2509
theorem tm_2510 : ex_tW (Cond.selects "CallerhallModel" (ex_inf 276).1 (ex_inf 276).1) := tw_2510
theorem tm_2512 : ex_tW (Cond.methodLink "CallerhallLaw" 301 (ex_inf 277).1) := tw_2512
theorem tm_2513 : ex_tW (Cond.instanceMethod (ex_inf 277).1) := tw_2513
theorem tm_2514 : ex_tW (Cond.selects "CallerhallModel" (ex_inf 277).1 (ex_inf 277).1) := tw_2514
theorem tm_2518 : ex_tW (Cond.methodLink "CallerhallLaw" 305 (ex_inf 278).1) := tw_2518
theorem tm_2519 : ex_tW (Cond.instanceMethod (ex_inf 278).1) := tw_2519
theorem tm_2520 : ex_tW (Cond.selects "CallerhallModel" (ex_inf 278).1 (ex_inf 278).1) := tw_2520
theorem tm_2522 : ex_tW (Cond.methodLink "CallerhallLaw" 308 (ex_inf 279).1) := tw_2522
theorem tm_2523 : ex_tW (Cond.instanceMethod (ex_inf 279).1) := tw_2523
theorem tm_2524 : ex_tW (Cond.selects "CallerhallModel" (ex_inf 279).1 (ex_inf 279).1) := tw_2524
theorem tm_2526 : ex_tW (Cond.methodLink "CallerhallModel" 552 (ex_inf 190).1) := tw_2526
theorem tm_2527 : ex_tW (Cond.methodLink "CallerhallLaw" 312 (ex_inf 280).1) := tw_2527
theorem tm_2528 : ex_tW (Cond.instanceMethod (ex_inf 280).1) := tw_2528
theorem tm_2529 : ex_tW (Cond.selects "CallerhallModel" (ex_inf 280).1 (ex_inf 280).1) := tw_2529
theorem tm_2531 : ex_tW (Cond.methodLink "CallerhallLaw" 315 (ex_inf 281).1) := tw_2531
theorem tm_2532 : ex_tW (Cond.instanceMethod (ex_inf 281).1) := tw_2532
theorem tm_2533 : ex_tW (Cond.selects "CallerhallModel" (ex_inf 281).1 (ex_inf 281).1) := tw_2533
theorem tm_2537 : ex_tW (Cond.methodLink "CallerhallLaw" 318 (ex_inf 284).1) := tw_2537
theorem tm_2538 : ex_tW (Cond.instanceMethod (ex_inf 284).1) := tw_2538
theorem tm_2539 : ex_tW (Cond.selects "CallerhallModel" (ex_inf 284).1 (ex_inf 284).1) := tw_2539
theorem tm_2541 : ex_tW (Cond.methodLink "CallerhallModel" 562 (ex_inf 283).1) := tw_2541
theorem tm_2543 : ex_tW (Cond.instanceMethod (ex_inf 283).1) := tw_2543
theorem tm_2545 : ex_tW (Cond.methodLink "CallerhallModel" 565 (ex_inf 282).1) := tw_2545
theorem tm_2547 : ex_tW (Cond.instanceMethod (ex_inf 282).1) := tw_2547
theorem tm_2549 : ex_tW (Cond.methodLink "CallerhallLaw" 321 (ex_inf 285).1) := tw_2549
theorem tm_2550 : ex_tW (Cond.instanceMethod (ex_inf 285).1) := tw_2550
theorem tm_2551 : ex_tW (Cond.selects "CallerhallModel" (ex_inf 285).1 (ex_inf 285).1) := tw_2551
theorem tm_2553 : ex_tW (Cond.methodLink "CallerhallLaw" 324 (ex_inf 286).1) := tw_2553
theorem tm_2554 : ex_tW (Cond.instanceMethod (ex_inf 286).1) := tw_2554
theorem tm_2555 : ex_tW (Cond.selects "CallerhallModel" (ex_inf 286).1 (ex_inf 286).1) := tw_2555
theorem tm_2557 : ex_tW (Cond.methodLink "CallerhallLaw" 329 (ex_inf 287).1) := tw_2557
theorem tm_2558 : ex_tW (Cond.instanceMethod (ex_inf 287).1) := tw_2558
theorem tm_2559 : ex_tW (Cond.selects "CallerhallModel" (ex_inf 287).1 (ex_inf 287).1) := tw_2559
theorem tm_2561 : ex_tW (Cond.methodLink "CallerhallLaw" 333 (ex_inf 288).1) := tw_2561
theorem tm_2562 : ex_tW (Cond.instanceMethod (ex_inf 288).1) := tw_2562
theorem tm_2563 : ex_tW (Cond.selects "CallerhallModel" (ex_inf 288).1 (ex_inf 288).1) := tw_2563
theorem tm_2565 : ex_tW (Cond.methodLink "CallerhallLaw" 338 (ex_inf 289).1) := tw_2565
theorem tm_2566 : ex_tW (Cond.instanceMethod (ex_inf 289).1) := tw_2566
theorem tm_2567 : ex_tW (Cond.selects "CallerhallModel" (ex_inf 289).1 (ex_inf 289).1) := tw_2567
theorem tm_2570 : ex_tW (Cond.methodLink "CallerhallLaw" 342 (ex_inf 290).1) := tw_2570
theorem tm_2571 : ex_tW (Cond.instanceMethod (ex_inf 290).1) := tw_2571
theorem tm_2572 : ex_tW (Cond.selects "CallerhallModel" (ex_inf 290).1 (ex_inf 290).1) := tw_2572
theorem mf_0 : ex_MF ex_Xc (ex_inf 0) 0 := ⟨tw_243, by decide, ⟨by decide, by decide, by decide +kernel⟩, tw_6⟩
theorem mf_1 : ex_MF ex_Xc (ex_inf 1) 2 := ⟨tw_1286, by decide, ⟨by decide, by decide, by decide +kernel⟩, tw_6⟩
theorem mf_2 : ex_MF ex_Xc (ex_inf 2) 2 := ⟨tw_1328, by decide, ⟨by decide, by decide, by decide +kernel⟩, tw_6⟩
theorem mf_3 : ex_MF ex_Xc (ex_inf 3) 2 := ⟨tw_1282, by decide, ⟨by decide, by decide, by decide +kernel⟩, tw_6⟩
theorem mf_4 : ex_MF ex_Xc (ex_inf 4) 5 := ⟨tw_1290, by decide, ⟨by decide, by decide, by decide +kernel⟩, tw_6⟩
theorem mf_5 : ex_MF ex_Xc (ex_inf 5) 1 := ⟨tw_1301, by decide, ⟨by decide, by decide, by decide +kernel⟩, tw_6⟩
theorem mf_6 : ex_MF ex_Xc (ex_inf 6) 0 := ⟨tw_91, by decide, ⟨by decide, by decide, by decide +kernel⟩, tw_4⟩
theorem mf_7 : ex_MF ex_Xc (ex_inf 7) 6 := ⟨tw_710, by decide, ⟨by decide, by decide, by decide +kernel⟩, tw_4⟩
theorem mf_8 : ex_MF ex_Xc (ex_inf 8) 2 := ⟨tw_703, by decide, ⟨by decide, by decide, by decide +kernel⟩, tw_4⟩
theorem mf_9 : ex_MF ex_Xc (ex_inf 9) 1 := ⟨tw_726, by decide, ⟨by decide, by decide, by decide +kernel⟩, tw_4⟩
theorem mf_10 : ex_MF ex_Xc (ex_inf 10) 1 := ⟨tw_912, by decide, ⟨by decide, by decide, by decide +kernel⟩, tw_4⟩
theorem mf_11 : ex_MF ex_Xc (ex_inf 11) 4 := ⟨tw_775, by decide, ⟨by decide, by decide, by decide +kernel⟩, tw_4⟩
theorem mf_12 : ex_MF ex_Xc (ex_inf 12) 1 := ⟨tw_706, by decide, ⟨by decide, by decide, by decide +kernel⟩, tw_4⟩
theorem mf_13 : ex_MF ex_Xc (ex_inf 13) 3 := ⟨tw_766, by decide, ⟨by decide, by decide, by decide +kernel⟩, tw_4⟩
theorem mf_14 : ex_MF ex_Xc (ex_inf 14) 0 := ⟨tw_734, by decide, ⟨by decide, by decide, by decide +kernel⟩, tw_4⟩
theorem mf_15 : ex_MF ex_Xc (ex_inf 15) 3 := ⟨tw_858, by decide, ⟨by decide, by decide, by decide +kernel⟩, tw_4⟩
theorem mf_16 : ex_MF ex_Xc (ex_inf 16) 2 := ⟨tw_862, by decide, ⟨by decide, by decide, by decide +kernel⟩, tw_4⟩
theorem mf_17 : ex_MF ex_Xc (ex_inf 17) 4 := ⟨tw_886, by decide, ⟨by decide, by decide, by decide +kernel⟩, tw_4⟩
theorem mf_18 : ex_MF ex_Xc (ex_inf 18) 2 := ⟨tw_882, by decide, ⟨by decide, by decide, by decide +kernel⟩, tw_4⟩
theorem mf_19 : ex_MF ex_Xc (ex_inf 19) 2 := ⟨tw_844, by decide, ⟨by decide, by decide, by decide +kernel⟩, tw_4⟩
theorem mf_20 : ex_MF ex_Xc (ex_inf 20) 0 := ⟨tw_891, by decide, ⟨by decide, by decide, by decide +kernel⟩, tw_4⟩
theorem mf_21 : ex_MF ex_Xc (ex_inf 21) 1 := ⟨tw_895, by decide, ⟨by decide, by decide, by decide +kernel⟩, tw_4⟩
theorem mf_22 : ex_MF ex_Xc (ex_inf 22) 1 := ⟨tw_899, by decide, ⟨by decide, by decide, by decide +kernel⟩, tw_4⟩
theorem mf_23 : ex_MF ex_Xc (ex_inf 23) 1 := ⟨tw_904, by decide, ⟨by decide, by decide, by decide +kernel⟩, tw_4⟩
theorem mf_24 : ex_MF ex_Xc (ex_inf 24) 3 := ⟨tw_921, by decide, ⟨by decide, by decide, by decide +kernel⟩, tw_4⟩
theorem mf_25 : ex_MF ex_Xc (ex_inf 25) 6 := ⟨tw_925, by decide, ⟨by decide, by decide, by decide +kernel⟩, tw_4⟩
theorem mf_26 : ex_MF ex_Xc (ex_inf 26) 0 := ⟨tw_343, by decide, ⟨by decide, by decide, by decide +kernel⟩, tw_9⟩
theorem mf_27 : ex_MF ex_Xc (ex_inf 27) 0 := ⟨tw_524, by decide, ⟨by decide, by decide, by decide +kernel⟩, tw_9⟩
theorem mf_28 : ex_MF ex_Xc (ex_inf 28) 1 := ⟨tw_1377, by decide, ⟨by decide, by decide, by decide +kernel⟩, tw_9⟩
theorem mf_29 : ex_MF ex_Xc (ex_inf 29) 0 := ⟨tw_391, by decide, ⟨by decide, by decide, by decide +kernel⟩, tw_11⟩
theorem mf_30 : ex_MF ex_Xc (ex_inf 30) 1 := ⟨tw_1525, by decide, ⟨by decide, by decide, by decide +kernel⟩, tw_11⟩
theorem mf_31 : ex_MF ex_Xc (ex_inf 31) 0 := ⟨tw_1536, by decide, ⟨by decide, by decide, by decide +kernel⟩, tw_11⟩
theorem mf_32 : ex_MF ex_Xc (ex_inf 32) 2 := ⟨tw_1540, by decide, ⟨by decide, by decide, by decide +kernel⟩, tw_11⟩
theorem mf_33 : ex_MF ex_Xc (ex_inf 33) 3 := ⟨tw_1544, by decide, ⟨by decide, by decide, by decide +kernel⟩, tw_11⟩
theorem mf_34 : ex_MF ex_Xc (ex_inf 34) 3 := ⟨tw_1548, by decide, ⟨by decide, by decide, by decide +kernel⟩, tw_11⟩
theorem mf_35 : ex_MF ex_Xc (ex_inf 35) 0 := ⟨tw_939, by decide, ⟨by decide, by decide, by decide +kernel⟩, tw_11⟩
theorem mf_36 : ex_MF ex_Xc (ex_inf 36) 0 := ⟨tw_321, by decide, ⟨by decide, by decide, by decide +kernel⟩, tw_8⟩
theorem mf_37 : ex_MF ex_Xc (ex_inf 37) 2 := ⟨tw_1361, by decide, ⟨by decide, by decide, by decide +kernel⟩, tw_8⟩
theorem mf_38 : ex_MF ex_Xc (ex_inf 38) 1 := ⟨tw_1397, by decide, ⟨by decide, by decide, by decide +kernel⟩, tw_8⟩
theorem mf_39 : ex_MF ex_Xc (ex_inf 39) 0 := ⟨tw_1423, by decide, ⟨by decide, by decide, by decide +kernel⟩, tw_8⟩
theorem mf_40 : ex_MF ex_Xc (ex_inf 40) 1 := ⟨tw_1435, by decide, ⟨by decide, by decide, by decide +kernel⟩, tw_8⟩
theorem mf_41 : ex_MF ex_Xc (ex_inf 41) 0 := ⟨tw_54, by decide, ⟨by decide, by decide, by decide +kernel⟩, tw_2⟩
theorem mf_42 : ex_MF ex_Xc (ex_inf 42) 4 := ⟨tw_446, by decide, ⟨by decide, by decide, by decide +kernel⟩, tw_2⟩
theorem mf_43 : ex_MF ex_Xc (ex_inf 43) 2 := ⟨tw_676, by decide, ⟨by decide, by decide, by decide +kernel⟩, tw_2⟩
theorem mf_44 : ex_MF ex_Xc (ex_inf 44) 1 := ⟨tw_930, by decide, ⟨by decide, by decide, by decide +kernel⟩, tw_2⟩
theorem mf_45 : ex_MF ex_Xc (ex_inf 45) 2 := ⟨tw_935, by decide, ⟨by decide, by decide, by decide +kernel⟩, tw_2⟩
theorem mf_46 : ex_MF ex_Xc (ex_inf 46) 0 := ⟨tw_279, by decide, ⟨by decide, by decide, by decide +kernel⟩, tw_7⟩
theorem mf_47 : ex_MF ex_Xc (ex_inf 47) 0 := ⟨tw_532, by decide, ⟨by decide, by decide, by decide +kernel⟩, tw_7⟩
theorem mf_48 : ex_MF ex_Xc (ex_inf 48) 3 := ⟨tw_690, by decide, ⟨by decide, by decide, by decide +kernel⟩, tw_7⟩
theorem mf_49 : ex_MF ex_Xc (ex_inf 49) 1 := ⟨tw_685, by decide, ⟨by decide, by decide, by decide +kernel⟩, tw_7⟩
theorem mf_50 : ex_MF ex_Xc (ex_inf 50) 2 := ⟨tw_1353, by decide, ⟨by decide, by decide, by decide +kernel⟩, tw_7⟩
theorem mf_51 : ex_MF ex_Xc (ex_inf 51) 2 := ⟨tw_1313, by decide, ⟨by decide, by decide, by decide +kernel⟩, tw_7⟩
theorem mf_52 : ex_MF ex_Xc (ex_inf 52) 2 := ⟨tw_1385, by decide, ⟨by decide, by decide, by decide +kernel⟩, tw_7⟩
theorem mf_53 : ex_MF ex_Xc (ex_inf 53) 1 := ⟨tw_780, by decide, ⟨by decide, by decide, by decide +kernel⟩, tw_7⟩
theorem mf_54 : ex_MF ex_Xc (ex_inf 54) 1 := ⟨tw_1369, by decide, ⟨by decide, by decide, by decide +kernel⟩, tw_7⟩
theorem mf_55 : ex_MF ex_Xc (ex_inf 55) 0 := ⟨tw_368, by decide, ⟨by decide, by decide, by decide +kernel⟩, tw_10⟩
theorem mf_56 : ex_MF ex_Xc (ex_inf 56) 1 := ⟨tw_1507, by decide, ⟨by decide, by decide, by decide +kernel⟩, tw_10⟩
theorem mf_57 : ex_MF ex_Xc (ex_inf 57) 1 := ⟨tw_1381, by decide, ⟨by decide, by decide, by decide +kernel⟩, tw_10⟩
theorem mf_58 : ex_MF ex_Xc (ex_inf 58) 1 := ⟨tw_85, by decide, ⟨by decide, by decide, by decide +kernel⟩, tw_3⟩
theorem mf_59 : ex_MF ex_Xc (ex_inf 59) 2 := ⟨tw_699, by decide, ⟨by decide, by decide, by decide +kernel⟩, tw_3⟩
theorem mf_60 : ex_MF ex_Xc (ex_inf 60) 3 := ⟨tw_714, by decide, ⟨by decide, by decide, by decide +kernel⟩, tw_3⟩
theorem mf_61 : ex_MF ex_Xc (ex_inf 61) 2 := ⟨tw_836, by decide, ⟨by decide, by decide, by decide +kernel⟩, tw_3⟩
theorem mf_62 : ex_MF ex_Xc (ex_inf 62) 1 := ⟨tw_722, by decide, ⟨by decide, by decide, by decide +kernel⟩, tw_3⟩
theorem mf_63 : ex_MF ex_Xc (ex_inf 63) 1 := ⟨tw_718, by decide, ⟨by decide, by decide, by decide +kernel⟩, tw_3⟩
theorem mf_64 : ex_MF ex_Xc (ex_inf 64) 3 := ⟨tw_784, by decide, ⟨by decide, by decide, by decide +kernel⟩, tw_3⟩
theorem mf_65 : ex_MF ex_Xc (ex_inf 65) 1 := ⟨tw_908, by decide, ⟨by decide, by decide, by decide +kernel⟩, tw_3⟩
theorem mf_66 : ex_MF ex_Xc (ex_inf 66) 3 := ⟨tw_730, by decide, ⟨by decide, by decide, by decide +kernel⟩, tw_3⟩
theorem mf_67 : ex_MF ex_Xc (ex_inf 67) 3 := ⟨tw_917, by decide, ⟨by decide, by decide, by decide +kernel⟩, tw_3⟩
theorem mf_68 : ex_MF ex_Xc (ex_inf 68) 0 := ⟨tw_167, by decide, ⟨by decide, by decide, by decide +kernel⟩, tw_5⟩
theorem mf_69 : ex_MF ex_Xc (ex_inf 69) 3 := ⟨tw_742, by decide, ⟨by decide, by decide, by decide +kernel⟩, tw_5⟩
theorem mf_70 : ex_MF ex_Xc (ex_inf 70) 2 := ⟨tw_789, by decide, ⟨by decide, by decide, by decide +kernel⟩, tw_5⟩
theorem mf_71 : ex_MF ex_Xc (ex_inf 71) 2 := ⟨tw_793, by decide, ⟨by decide, by decide, by decide +kernel⟩, tw_5⟩
theorem mf_72 : ex_MF ex_Xc (ex_inf 72) 2 := ⟨tw_801, by decide, ⟨by decide, by decide, by decide +kernel⟩, tw_5⟩
theorem mf_73 : ex_MF ex_Xc (ex_inf 73) 1 := ⟨tw_746, by decide, ⟨by decide, by decide, by decide +kernel⟩, tw_5⟩
theorem mf_74 : ex_MF ex_Xc (ex_inf 74) 3 := ⟨tw_750, by decide, ⟨by decide, by decide, by decide +kernel⟩, tw_5⟩
theorem mf_75 : ex_MF ex_Xc (ex_inf 75) 1 := ⟨tw_806, by decide, ⟨by decide, by decide, by decide +kernel⟩, tw_5⟩
theorem mf_76 : ex_MF ex_Xc (ex_inf 76) 2 := ⟨tw_758, by decide, ⟨by decide, by decide, by decide +kernel⟩, tw_5⟩
theorem mf_77 : ex_MF ex_Xc (ex_inf 77) 3 := ⟨tw_762, by decide, ⟨by decide, by decide, by decide +kernel⟩, tw_5⟩
theorem mf_78 : ex_MF ex_Xc (ex_inf 78) 2 := ⟨tw_738, by decide, ⟨by decide, by decide, by decide +kernel⟩, tw_5⟩
theorem mf_79 : ex_MF ex_Xc (ex_inf 79) 1 := ⟨tw_754, by decide, ⟨by decide, by decide, by decide +kernel⟩, tw_5⟩
theorem mf_80 : ex_MF ex_Xc (ex_inf 80) 1 := ⟨tw_812, by decide, ⟨by decide, by decide, by decide +kernel⟩, tw_5⟩
theorem mf_81 : ex_MF ex_Xc (ex_inf 81) 1 := ⟨tw_820, by decide, ⟨by decide, by decide, by decide +kernel⟩, tw_5⟩
theorem mf_82 : ex_MF ex_Xc (ex_inf 82) 4 := ⟨tw_816, by decide, ⟨by decide, by decide, by decide +kernel⟩, tw_5⟩
theorem mf_83 : ex_MF ex_Xc (ex_inf 83) 3 := ⟨tw_824, by decide, ⟨by decide, by decide, by decide +kernel⟩, tw_5⟩
theorem mf_84 : ex_MF ex_Xc (ex_inf 84) 2 := ⟨tw_828, by decide, ⟨by decide, by decide, by decide +kernel⟩, tw_5⟩
theorem mf_85 : ex_MF ex_Xc (ex_inf 85) 2 := ⟨tw_832, by decide, ⟨by decide, by decide, by decide +kernel⟩, tw_5⟩
theorem mf_86 : ex_MF ex_Xc (ex_inf 86) 2 := ⟨tw_840, by decide, ⟨by decide, by decide, by decide +kernel⟩, tw_5⟩
theorem mf_87 : ex_MF ex_Xc (ex_inf 87) 3 := ⟨tw_850, by decide, ⟨by decide, by decide, by decide +kernel⟩, tw_5⟩
theorem mf_88 : ex_MF ex_Xc (ex_inf 88) 3 := ⟨tw_854, by decide, ⟨by decide, by decide, by decide +kernel⟩, tw_5⟩
theorem mf_89 : ex_MF ex_Xc (ex_inf 89) 3 := ⟨tw_866, by decide, ⟨by decide, by decide, by decide +kernel⟩, tw_5⟩
theorem mf_90 : ex_MF ex_Xc (ex_inf 90) 2 := ⟨tw_870, by decide, ⟨by decide, by decide, by decide +kernel⟩, tw_5⟩
theorem mf_91 : ex_MF ex_Xc (ex_inf 91) 3 := ⟨tw_874, by decide, ⟨by decide, by decide, by decide +kernel⟩, tw_5⟩
theorem mf_92 : ex_MF ex_Xc (ex_inf 92) 3 := ⟨tw_878, by decide, ⟨by decide, by decide, by decide +kernel⟩, tw_5⟩
theorem mf_93 : ex_MF ex_Xc (ex_inf 93) 0 := ⟨tw_418, by decide, ⟨by decide, by decide, by decide +kernel⟩, tw_12⟩
theorem mf_94 : ex_MF ex_Xc (ex_inf 94) 0 := ⟨tw_46, by decide, ⟨by decide, by decide, by decide +kernel⟩, tw_1⟩
theorem mf_95 : ex_MF ex_Xc (ex_inf 95) 0 := ⟨tw_508, by decide, ⟨by decide, by decide, by decide +kernel⟩, tw_1⟩
theorem mf_96 : ex_MF ex_Xc (ex_inf 96) 1 := ⟨tw_1025, by decide, ⟨by decide, by decide, by decide +kernel⟩, tw_1⟩
theorem mf_97 : ex_MF ex_Xc (ex_inf 97) 1 := ⟨tw_1057, by decide, ⟨by decide, by decide, by decide +kernel⟩, tw_1⟩
theorem mf_98 : ex_MF ex_Xc (ex_inf 98) 1 := ⟨tw_1064, by decide, ⟨by decide, by decide, by decide +kernel⟩, tw_1⟩
theorem mf_99 : ex_MF ex_Xc (ex_inf 99) 4 := ⟨tw_1073, by decide, ⟨by decide, by decide, by decide +kernel⟩, tw_1⟩
theorem mf_100 : ex_MF ex_Xc (ex_inf 100) 2 := ⟨tw_1114, by decide, ⟨by decide, by decide, by decide +kernel⟩, tw_1⟩
theorem mf_101 : ex_MF ex_Xc (ex_inf 101) 1 := ⟨tw_1122, by decide, ⟨by decide, by decide, by decide +kernel⟩, tw_1⟩
theorem mf_102 : ex_MF ex_Xc (ex_inf 102) 2 := ⟨tw_1130, by decide, ⟨by decide, by decide, by decide +kernel⟩, tw_1⟩
theorem mf_103 : ex_MF ex_Xc (ex_inf 103) 2 := ⟨tw_1152, by decide, ⟨by decide, by decide, by decide +kernel⟩, tw_1⟩
theorem mf_104 : ex_MF ex_Xc (ex_inf 104) 3 := ⟨tw_1160, by decide, ⟨by decide, by decide, by decide +kernel⟩, tw_1⟩
theorem mf_105 : ex_MF ex_Xc (ex_inf 105) 0 := ⟨tw_536, by decide, ⟨by decide, by decide, by decide +kernel⟩, tw_1⟩
theorem mf_106 : ex_MF ex_Xc (ex_inf 106) 1 := ⟨tw_1182, by decide, ⟨by decide, by decide, by decide +kernel⟩, tw_1⟩
theorem mf_107 : ex_MF ex_Xc (ex_inf 107) 1 := ⟨tw_1189, by decide, ⟨by decide, by decide, by decide +kernel⟩, tw_1⟩
theorem mf_108 : ex_MF ex_Xc (ex_inf 108) 5 := ⟨tw_1200, by decide, ⟨by decide, by decide, by decide +kernel⟩, tw_1⟩
theorem mf_109 : ex_MF ex_Xc (ex_inf 109) 1 := ⟨tw_1297, by decide, ⟨by decide, by decide, by decide +kernel⟩, tw_1⟩
theorem mf_110 : ex_MF ex_Xc (ex_inf 110) 3 := ⟨tw_1308, by decide, ⟨by decide, by decide, by decide +kernel⟩, tw_1⟩
theorem mf_111 : ex_MF ex_Xc (ex_inf 111) 1 := ⟨tw_1320, by decide, ⟨by decide, by decide, by decide +kernel⟩, tw_1⟩
theorem mf_112 : ex_MF ex_Xc (ex_inf 112) 1 := ⟨tw_1335, by decide, ⟨by decide, by decide, by decide +kernel⟩, tw_1⟩
theorem mf_113 : ex_MF ex_Xc (ex_inf 113) 1 := ⟨tw_1342, by decide, ⟨by decide, by decide, by decide +kernel⟩, tw_1⟩
theorem mf_114 : ex_MF ex_Xc (ex_inf 114) 5 := ⟨tw_1349, by decide, ⟨by decide, by decide, by decide +kernel⟩, tw_1⟩
theorem mf_115 : ex_MF ex_Xc (ex_inf 115) 0 := ⟨tw_1392, by decide, ⟨by decide, by decide, by decide +kernel⟩, tw_1⟩
theorem mf_116 : ex_MF ex_Xc (ex_inf 116) 0 := ⟨tw_540, by decide, ⟨by decide, by decide, by decide +kernel⟩, tw_1⟩
theorem mf_117 : ex_MF ex_Xc (ex_inf 117) 0 := ⟨tw_544, by decide, ⟨by decide, by decide, by decide +kernel⟩, tw_1⟩
theorem mf_118 : ex_MF ex_Xc (ex_inf 118) 0 := ⟨tw_1405, by decide, ⟨by decide, by decide, by decide +kernel⟩, tw_1⟩
theorem mf_119 : ex_MF ex_Xc (ex_inf 119) 3 := ⟨tw_1412, by decide, ⟨by decide, by decide, by decide +kernel⟩, tw_1⟩
theorem mf_120 : ex_MF ex_Xc (ex_inf 120) 0 := ⟨tw_1419, by decide, ⟨by decide, by decide, by decide +kernel⟩, tw_1⟩
theorem mf_121 : ex_MF ex_Xc (ex_inf 121) 0 := ⟨tw_548, by decide, ⟨by decide, by decide, by decide +kernel⟩, tw_1⟩
theorem mf_122 : ex_MF ex_Xc (ex_inf 122) 1 := ⟨tw_1431, by decide, ⟨by decide, by decide, by decide +kernel⟩, tw_1⟩
theorem mf_123 : ex_MF ex_Xc (ex_inf 123) 2 := ⟨tw_1442, by decide, ⟨by decide, by decide, by decide +kernel⟩, tw_1⟩
theorem mf_124 : ex_MF ex_Xc (ex_inf 124) 3 := ⟨tw_1450, by decide, ⟨by decide, by decide, by decide +kernel⟩, tw_1⟩
theorem mf_125 : ex_MF ex_Xc (ex_inf 125) 1 := ⟨tw_1463, by decide, ⟨by decide, by decide, by decide +kernel⟩, tw_1⟩
theorem mf_126 : ex_MF ex_Xc (ex_inf 126) 0 := ⟨tw_552, by decide, ⟨by decide, by decide, by decide +kernel⟩, tw_1⟩
theorem mf_127 : ex_MF ex_Xc (ex_inf 127) 1 := ⟨tw_1470, by decide, ⟨by decide, by decide, by decide +kernel⟩, tw_1⟩
theorem mf_128 : ex_MF ex_Xc (ex_inf 128) 0 := ⟨tw_632, by decide, ⟨by decide, by decide, by decide +kernel⟩, tw_1⟩
theorem mf_129 : ex_MF ex_Xc (ex_inf 129) 0 := ⟨tw_640, by decide, ⟨by decide, by decide, by decide +kernel⟩, tw_1⟩
theorem mf_130 : ex_MF ex_Xc (ex_inf 130) 1 := ⟨tw_1477, by decide, ⟨by decide, by decide, by decide +kernel⟩, tw_1⟩
theorem mf_131 : ex_MF ex_Xc (ex_inf 131) 0 := ⟨tw_644, by decide, ⟨by decide, by decide, by decide +kernel⟩, tw_1⟩
theorem mf_132 : ex_MF ex_Xc (ex_inf 132) 0 := ⟨tw_648, by decide, ⟨by decide, by decide, by decide +kernel⟩, tw_1⟩
theorem mf_133 : ex_MF ex_Xc (ex_inf 133) 1 := ⟨tw_1484, by decide, ⟨by decide, by decide, by decide +kernel⟩, tw_1⟩
theorem mf_134 : ex_MF ex_Xc (ex_inf 134) 1 := ⟨tw_1496, by decide, ⟨by decide, by decide, by decide +kernel⟩, tw_1⟩
theorem mf_135 : ex_MF ex_Xc (ex_inf 135) 1 := ⟨tw_1503, by decide, ⟨by decide, by decide, by decide +kernel⟩, tw_1⟩
theorem mf_136 : ex_MF ex_Xc (ex_inf 136) 0 := ⟨tw_652, by decide, ⟨by decide, by decide, by decide +kernel⟩, tw_1⟩
theorem mf_137 : ex_MF ex_Xc (ex_inf 137) 0 := ⟨tw_1514, by decide, ⟨by decide, by decide, by decide +kernel⟩, tw_1⟩
theorem mf_138 : ex_MF ex_Xc (ex_inf 138) 0 := ⟨tw_656, by decide, ⟨by decide, by decide, by decide +kernel⟩, tw_1⟩
theorem mf_139 : ex_MF ex_Xc (ex_inf 139) 1 := ⟨tw_1521, by decide, ⟨by decide, by decide, by decide +kernel⟩, tw_1⟩
theorem mf_140 : ex_MF ex_Xc (ex_inf 140) 0 := ⟨tw_1532, by decide, ⟨by decide, by decide, by decide +kernel⟩, tw_1⟩
theorem mf_141 : ex_MF ex_Xc (ex_inf 141) 2 := ⟨tw_1555, by decide, ⟨by decide, by decide, by decide +kernel⟩, tw_1⟩
theorem mf_142 : ex_MF ex_Xc (ex_inf 142) 2 := ⟨tw_1566, by decide, ⟨by decide, by decide, by decide +kernel⟩, tw_1⟩
theorem mf_143 : ex_MF ex_Xc (ex_inf 143) 0 := ⟨tw_660, by decide, ⟨by decide, by decide, by decide +kernel⟩, tw_1⟩
theorem mf_144 : ex_MF ex_Xc (ex_inf 144) 0 := ⟨tw_1587, by decide, ⟨by decide, by decide, by decide +kernel⟩, tw_1⟩
theorem mf_145 : ex_MF ex_Xc (ex_inf 145) 0 := ⟨tw_664, by decide, ⟨by decide, by decide, by decide +kernel⟩, tw_1⟩
theorem mf_146 : ex_MF ex_Xc (ex_inf 146) 0 := ⟨tw_672, by decide, ⟨by decide, by decide, by decide +kernel⟩, tw_1⟩
theorem mf_147 : ex_MF ex_Xc (ex_inf 147) 1 := ⟨tw_1029, by decide, ⟨by decide, by decide, by decide +kernel⟩, tw_1⟩
theorem mf_148 : ex_MF ex_Xc (ex_inf 148) 3 := ⟨tw_1077, by decide, ⟨by decide, by decide, by decide +kernel⟩, tw_1⟩
theorem mf_149 : ex_MF ex_Xc (ex_inf 149) 1 := ⟨tw_1193, by decide, ⟨by decide, by decide, by decide +kernel⟩, tw_1⟩
theorem mf_150 : ex_MF ex_Xc (ex_inf 150) 1 := ⟨tw_1559, by decide, ⟨by decide, by decide, by decide +kernel⟩, tw_1⟩
theorem mf_151 : ex_MF ex_Xc (ex_inf 151) 1 := ⟨tw_1204, by decide, ⟨by decide, by decide, by decide +kernel⟩, tw_1⟩
theorem mf_152 : ex_MF ex_Xc (ex_inf 152) 1 := ⟨tw_1268, by decide, ⟨by decide, by decide, by decide +kernel⟩, tw_1⟩
theorem mf_153 : ex_MF ex_Xc (ex_inf 153) 1 := ⟨tw_1272, by decide, ⟨by decide, by decide, by decide +kernel⟩, tw_1⟩
theorem mf_154 : ex_MF ex_Xc (ex_inf 154) 1 := ⟨tw_1277, by decide, ⟨by decide, by decide, by decide +kernel⟩, tw_1⟩
theorem mf_155 : ex_MF ex_Xc (ex_inf 155) 2 := ⟨tw_1209, by decide, ⟨by decide, by decide, by decide +kernel⟩, tw_1⟩
theorem mf_156 : ex_MF ex_Xc (ex_inf 156) 1 := ⟨tw_1324, by decide, ⟨by decide, by decide, by decide +kernel⟩, tw_1⟩
theorem mf_157 : ex_MF ex_Xc (ex_inf 157) 4 := ⟨tw_1357, by decide, ⟨by decide, by decide, by decide +kernel⟩, tw_1⟩
theorem mf_158 : ex_MF ex_Xc (ex_inf 158) 1 := ⟨tw_1373, by decide, ⟨by decide, by decide, by decide +kernel⟩, tw_1⟩
theorem mf_159 : ex_MF ex_Xc (ex_inf 159) 2 := ⟨tw_1454, by decide, ⟨by decide, by decide, by decide +kernel⟩, tw_1⟩
theorem mf_160 : ex_MF ex_Xc (ex_inf 160) 2 := ⟨tw_1489, by decide, ⟨by decide, by decide, by decide +kernel⟩, tw_1⟩
theorem mf_161 : ex_MF ex_Xc (ex_inf 161) 1 := ⟨tw_681, by decide, ⟨by decide, by decide, by decide +kernel⟩, tw_1⟩
theorem mf_162 : ex_MF ex_Xc (ex_inf 162) 0 := ⟨tw_520, by decide, ⟨by decide, by decide, by decide +kernel⟩, tw_1⟩
theorem mf_163 : ex_MF ex_Xc (ex_inf 163) 0 := ⟨tw_528, by decide, ⟨by decide, by decide, by decide +kernel⟩, tw_1⟩
theorem mf_164 : ex_MF ex_Xc (ex_inf 164) 1 := ⟨tw_516, by decide, ⟨by decide, by decide, by decide +kernel⟩, tw_1⟩
theorem mf_165 : ex_MF ex_Xc (ex_inf 165) 0 := ⟨tw_512, by decide, ⟨by decide, by decide, by decide +kernel⟩, tw_1⟩
theorem mf_166 : ex_MF ex_Xc (ex_inf 166) 3 := ⟨tw_636, by decide, ⟨by decide, by decide, by decide +kernel⟩, tw_1⟩
theorem mf_167 : ex_MF ex_Xc (ex_inf 167) 1 := ⟨tw_567, by decide, ⟨by decide, by decide, by decide +kernel⟩, tw_1⟩
theorem mf_168 : ex_MF ex_Xc (ex_inf 168) 3 := ⟨tw_571, by decide, ⟨by decide, by decide, by decide +kernel⟩, tw_1⟩
theorem mf_169 : ex_MF ex_Xc (ex_inf 169) 3 := ⟨tw_574, by decide, ⟨by decide, by decide, by decide +kernel⟩, tw_1⟩
theorem mf_170 : ex_MF ex_Xc (ex_inf 170) 3 := ⟨tw_577, by decide, ⟨by decide, by decide, by decide +kernel⟩, tw_1⟩
theorem mf_171 : ex_MF ex_Xc (ex_inf 171) 2 := ⟨tw_2097, by decide, ⟨by decide, by decide, by decide +kernel⟩, tw_38⟩
theorem mf_172 : ex_MF ex_Xc (ex_inf 172) 0 := ⟨tw_2119, by decide, ⟨by decide, by decide, by decide +kernel⟩, tw_38⟩
theorem mf_173 : ex_MF ex_Xc (ex_inf 173) 0 := ⟨tw_2161, by decide, ⟨by decide, by decide, by decide +kernel⟩, tw_38⟩
theorem mf_174 : ex_MF ex_Xc (ex_inf 174) 2 := ⟨tw_2190, by decide, ⟨by decide, by decide, by decide +kernel⟩, tw_39⟩
theorem mf_175 : ex_MF ex_Xc (ex_inf 175) 2 := ⟨tw_2305, by decide, ⟨by decide, by decide, by decide +kernel⟩, tw_39⟩
theorem mf_176 : ex_MF ex_Xc (ex_inf 176) 1 := ⟨tw_2042, by decide, ⟨by decide, by decide, by decide +kernel⟩, tw_37⟩
theorem mf_177 : ex_MF ex_Xc (ex_inf 177) 0 := ⟨tw_1597, by decide, ⟨by decide, by decide, by decide +kernel⟩, tw_13⟩
theorem mf_178 : ex_MF ex_Xc (ex_inf 178) 0 := ⟨tw_1835, by decide, ⟨by decide, by decide, by decide +kernel⟩, tw_13⟩
theorem mf_179 : ex_MF ex_Xc (ex_inf 179) 1 := ⟨tw_2177, by decide, ⟨by decide, by decide, by decide +kernel⟩, tw_13⟩
theorem mf_180 : ex_MF ex_Xc (ex_inf 180) 3 := ⟨tw_1868, by decide, ⟨by decide, by decide, by decide +kernel⟩, tw_13⟩
theorem mf_181 : ex_MF ex_Xc (ex_inf 181) 2 := ⟨tw_1872, by decide, ⟨by decide, by decide, by decide +kernel⟩, tw_13⟩
theorem mf_182 : ex_MF ex_Xc (ex_inf 182) 1 := ⟨tw_1864, by decide, ⟨by decide, by decide, by decide +kernel⟩, tw_13⟩
theorem mf_183 : ex_MF ex_Xc (ex_inf 183) 0 := ⟨tw_1706, by decide, ⟨by decide, by decide, by decide +kernel⟩, tw_13⟩
theorem mf_184 : ex_MF ex_Xc (ex_inf 184) 1 := ⟨tw_1710, by decide, ⟨by decide, by decide, by decide +kernel⟩, tw_13⟩
theorem mf_185 : ex_MF ex_Xc (ex_inf 185) 0 := ⟨tw_1843, by decide, ⟨by decide, by decide, by decide +kernel⟩, tw_13⟩
theorem mf_186 : ex_MF ex_Xc (ex_inf 186) 2 := ⟨tw_1906, by decide, ⟨by decide, by decide, by decide +kernel⟩, tw_13⟩
theorem mf_187 : ex_MF ex_Xc (ex_inf 187) 2 := ⟨tw_2481, by decide, ⟨by decide, by decide, by decide +kernel⟩, tw_13⟩
theorem mf_188 : ex_MF ex_Xc (ex_inf 188) 1 := ⟨tw_2478, by decide, ⟨by decide, by decide, by decide +kernel⟩, tw_13⟩
theorem mf_189 : ex_MF ex_Xc (ex_inf 189) 0 := ⟨tw_1847, by decide, ⟨by decide, by decide, by decide +kernel⟩, tw_13⟩
theorem mf_190 : ex_MF ex_Xc (ex_inf 190) 0 := ⟨tw_1839, by decide, ⟨by decide, by decide, by decide +kernel⟩, tw_13⟩
theorem mf_191 : ex_MF ex_Xc (ex_inf 191) 1 := ⟨tw_1860, by decide, ⟨by decide, by decide, by decide +kernel⟩, tw_13⟩
theorem mf_192 : ex_MF ex_Xc (ex_inf 192) 1 := ⟨tw_1876, by decide, ⟨by decide, by decide, by decide +kernel⟩, tw_13⟩
theorem mf_193 : ex_MF ex_Xc (ex_inf 193) 1 := ⟨tw_1880, by decide, ⟨by decide, by decide, by decide +kernel⟩, tw_13⟩
theorem mf_194 : ex_MF ex_Xc (ex_inf 194) 2 := ⟨tw_1894, by decide, ⟨by decide, by decide, by decide +kernel⟩, tw_13⟩
theorem mf_195 : ex_MF ex_Xc (ex_inf 195) 3 := ⟨tw_1887, by decide, ⟨by decide, by decide, by decide +kernel⟩, tw_13⟩
theorem mf_196 : ex_MF ex_Xc (ex_inf 196) 4 := ⟨tw_1884, by decide, ⟨by decide, by decide, by decide +kernel⟩, tw_13⟩
theorem mf_197 : ex_MF ex_Xc (ex_inf 197) 2 := ⟨tw_1898, by decide, ⟨by decide, by decide, by decide +kernel⟩, tw_13⟩
theorem mf_198 : ex_MF ex_Xc (ex_inf 198) 1 := ⟨tw_1903, by decide, ⟨by decide, by decide, by decide +kernel⟩, tw_13⟩
theorem mf_199 : ex_MF ex_Xc (ex_inf 199) 2 := ⟨tw_1917, by decide, ⟨by decide, by decide, by decide +kernel⟩, tw_13⟩
theorem mf_200 : ex_MF ex_Xc (ex_inf 200) 2 := ⟨tw_1921, by decide, ⟨by decide, by decide, by decide +kernel⟩, tw_13⟩
theorem mf_201 : ex_MF ex_Xc (ex_inf 201) 3 := ⟨tw_1925, by decide, ⟨by decide, by decide, by decide +kernel⟩, tw_13⟩
theorem mf_202 : ex_MF ex_Xc (ex_inf 202) 0 := ⟨tw_1991, by decide, ⟨by decide, by decide, by decide +kernel⟩, tw_13⟩
theorem mf_203 : ex_MF ex_Xc (ex_inf 203) 1 := ⟨tw_1995, by decide, ⟨by decide, by decide, by decide +kernel⟩, tw_13⟩
theorem mf_204 : ex_MF ex_Xc (ex_inf 204) 1 := ⟨tw_1999, by decide, ⟨by decide, by decide, by decide +kernel⟩, tw_13⟩
theorem mf_205 : ex_MF ex_Xc (ex_inf 205) 1 := ⟨tw_2008, by decide, ⟨by decide, by decide, by decide +kernel⟩, tw_13⟩
theorem mf_206 : ex_MF ex_Xc (ex_inf 206) 2 := ⟨tw_2019, by decide, ⟨by decide, by decide, by decide +kernel⟩, tw_13⟩
theorem mf_207 : ex_MF ex_Xc (ex_inf 207) 3 := ⟨tw_2011, by decide, ⟨by decide, by decide, by decide +kernel⟩, tw_13⟩
theorem mf_208 : ex_MF ex_Xc (ex_inf 208) 5 := ⟨tw_2005, by decide, ⟨by decide, by decide, by decide +kernel⟩, tw_13⟩
theorem mf_209 : ex_MF ex_Xc (ex_inf 209) 1 := ⟨tw_2062, by decide, ⟨by decide, by decide, by decide +kernel⟩, tw_13⟩
theorem mf_210 : ex_MF ex_Xc (ex_inf 210) 1 := ⟨tw_2073, by decide, ⟨by decide, by decide, by decide +kernel⟩, tw_13⟩
theorem mf_211 : ex_MF ex_Xc (ex_inf 211) 1 := ⟨tw_2070, by decide, ⟨by decide, by decide, by decide +kernel⟩, tw_13⟩
theorem mf_212 : ex_MF ex_Xc (ex_inf 212) 3 := ⟨tw_2066, by decide, ⟨by decide, by decide, by decide +kernel⟩, tw_13⟩
theorem mf_213 : ex_MF ex_Xc (ex_inf 213) 1 := ⟨tw_2088, by decide, ⟨by decide, by decide, by decide +kernel⟩, tw_13⟩
theorem mf_214 : ex_MF ex_Xc (ex_inf 214) 3 := ⟨tw_2092, by decide, ⟨by decide, by decide, by decide +kernel⟩, tw_13⟩
theorem mf_215 : ex_MF ex_Xc (ex_inf 215) 1 := ⟨tw_2084, by decide, ⟨by decide, by decide, by decide +kernel⟩, tw_13⟩
theorem mf_216 : ex_MF ex_Xc (ex_inf 216) 1 := ⟨tw_2080, by decide, ⟨by decide, by decide, by decide +kernel⟩, tw_13⟩
theorem mf_217 : ex_MF ex_Xc (ex_inf 217) 1 := ⟨tw_2153, by decide, ⟨by decide, by decide, by decide +kernel⟩, tw_13⟩
theorem mf_218 : ex_MF ex_Xc (ex_inf 218) 1 := ⟨tw_2157, by decide, ⟨by decide, by decide, by decide +kernel⟩, tw_13⟩
theorem mf_219 : ex_MF ex_Xc (ex_inf 219) 2 := ⟨tw_2294, by decide, ⟨by decide, by decide, by decide +kernel⟩, tw_13⟩
theorem mf_220 : ex_MF ex_Xc (ex_inf 220) 3 := ⟨tw_2290, by decide, ⟨by decide, by decide, by decide +kernel⟩, tw_13⟩
theorem mf_221 : ex_MF ex_Xc (ex_inf 221) 2 := ⟨tw_2286, by decide, ⟨by decide, by decide, by decide +kernel⟩, tw_13⟩
theorem mf_222 : ex_MF ex_Xc (ex_inf 222) 1 := ⟨tw_2185, by decide, ⟨by decide, by decide, by decide +kernel⟩, tw_13⟩
theorem mf_223 : ex_MF ex_Xc (ex_inf 223) 1 := ⟨tw_2251, by decide, ⟨by decide, by decide, by decide +kernel⟩, tw_13⟩
theorem mf_224 : ex_MF ex_Xc (ex_inf 224) 2 := ⟨tw_2248, by decide, ⟨by decide, by decide, by decide +kernel⟩, tw_13⟩
theorem mf_225 : ex_MF ex_Xc (ex_inf 225) 2 := ⟨tw_2255, by decide, ⟨by decide, by decide, by decide +kernel⟩, tw_13⟩
theorem mf_226 : ex_MF ex_Xc (ex_inf 226) 1 := ⟨tw_2261, by decide, ⟨by decide, by decide, by decide +kernel⟩, tw_13⟩
theorem mf_227 : ex_MF ex_Xc (ex_inf 227) 1 := ⟨tw_2347, by decide, ⟨by decide, by decide, by decide +kernel⟩, tw_13⟩
theorem mf_228 : ex_MF ex_Xc (ex_inf 228) 5 := ⟨tw_2350, by decide, ⟨by decide, by decide, by decide +kernel⟩, tw_13⟩
theorem mf_229 : ex_MF ex_Xc (ex_inf 229) 1 := ⟨tw_2343, by decide, ⟨by decide, by decide, by decide +kernel⟩, tw_13⟩
theorem mf_230 : ex_MF ex_Xc (ex_inf 230) 3 := ⟨tw_2270, by decide, ⟨by decide, by decide, by decide +kernel⟩, tw_13⟩
theorem mf_231 : ex_MF ex_Xc (ex_inf 231) 3 := ⟨tw_2298, by decide, ⟨by decide, by decide, by decide +kernel⟩, tw_13⟩
theorem mf_232 : ex_MF ex_Xc (ex_inf 232) 7 := ⟨tw_2267, by decide, ⟨by decide, by decide, by decide +kernel⟩, tw_13⟩
theorem mf_233 : ex_MF ex_Xc (ex_inf 233) 5 := ⟨tw_2264, by decide, ⟨by decide, by decide, by decide +kernel⟩, tw_13⟩
theorem mf_234 : ex_MF ex_Xc (ex_inf 234) 4 := ⟨tw_2273, by decide, ⟨by decide, by decide, by decide +kernel⟩, tw_13⟩
theorem mf_235 : ex_MF ex_Xc (ex_inf 235) 1 := ⟨tw_2258, by decide, ⟨by decide, by decide, by decide +kernel⟩, tw_13⟩
theorem mf_236 : ex_MF ex_Xc (ex_inf 236) 3 := ⟨tw_2312, by decide, ⟨by decide, by decide, by decide +kernel⟩, tw_13⟩
theorem mf_237 : ex_MF ex_Xc (ex_inf 237) 2 := ⟨tw_2301, by decide, ⟨by decide, by decide, by decide +kernel⟩, tw_13⟩
theorem mf_238 : ex_MF ex_Xc (ex_inf 238) 3 := ⟨tw_2323, by decide, ⟨by decide, by decide, by decide +kernel⟩, tw_13⟩
theorem mf_239 : ex_MF ex_Xc (ex_inf 239) 3 := ⟨tw_2327, by decide, ⟨by decide, by decide, by decide +kernel⟩, tw_13⟩
theorem mf_240 : ex_MF ex_Xc (ex_inf 240) 3 := ⟨tw_2335, by decide, ⟨by decide, by decide, by decide +kernel⟩, tw_13⟩
theorem mf_241 : ex_MF ex_Xc (ex_inf 241) 4 := ⟨tw_2319, by decide, ⟨by decide, by decide, by decide +kernel⟩, tw_13⟩
theorem mf_242 : ex_MF ex_Xc (ex_inf 242) 4 := ⟨tw_2339, by decide, ⟨by decide, by decide, by decide +kernel⟩, tw_13⟩
theorem mf_243 : ex_MF ex_Xc (ex_inf 243) 5 := ⟨tw_2308, by decide, ⟨by decide, by decide, by decide +kernel⟩, tw_13⟩
theorem mf_244 : ex_MF ex_Xc (ex_inf 244) 4 := ⟨tw_2282, by decide, ⟨by decide, by decide, by decide +kernel⟩, tw_13⟩
theorem mf_245 : ex_MF ex_Xc (ex_inf 245) 9 := ⟨tw_2316, by decide, ⟨by decide, by decide, by decide +kernel⟩, tw_13⟩
theorem mf_246 : ex_MF ex_Xc (ex_inf 246) 4 := ⟨tw_2331, by decide, ⟨by decide, by decide, by decide +kernel⟩, tw_13⟩
theorem mf_247 : ex_MF ex_Xc (ex_inf 247) 3 := ⟨tw_2181, by decide, ⟨by decide, by decide, by decide +kernel⟩, tw_13⟩
theorem mf_248 : ex_MF ex_Xc (ex_inf 248) 3 := ⟨tw_2173, by decide, ⟨by decide, by decide, by decide +kernel⟩, tw_13⟩
theorem mf_249 : ex_MF ex_Xc (ex_inf 249) 4 := ⟨tw_2382, by decide, ⟨by decide, by decide, by decide +kernel⟩, tw_13⟩
theorem mf_250 : ex_MF ex_Xc (ex_inf 250) 1 := ⟨tw_2386, by decide, ⟨by decide, by decide, by decide +kernel⟩, tw_13⟩
theorem mf_251 : ex_MF ex_Xc (ex_inf 251) 5 := ⟨tw_2168, by decide, ⟨by decide, by decide, by decide +kernel⟩, tw_13⟩
theorem mf_252 : ex_MF ex_Xc (ex_inf 252) 0 := ⟨tw_2390, by decide, ⟨by decide, by decide, by decide +kernel⟩, tw_13⟩
theorem mf_253 : ex_MF ex_Xc (ex_inf 253) 3 := ⟨tw_2394, by decide, ⟨by decide, by decide, by decide +kernel⟩, tw_13⟩
theorem mf_254 : ex_MF ex_Xc (ex_inf 254) 0 := ⟨tw_2398, by decide, ⟨by decide, by decide, by decide +kernel⟩, tw_13⟩
theorem mf_255 : ex_MF ex_Xc (ex_inf 255) 0 := ⟨tw_2402, by decide, ⟨by decide, by decide, by decide +kernel⟩, tw_13⟩
theorem mf_256 : ex_MF ex_Xc (ex_inf 256) 0 := ⟨tw_2406, by decide, ⟨by decide, by decide, by decide +kernel⟩, tw_13⟩
theorem mf_257 : ex_MF ex_Xc (ex_inf 257) 3 := ⟨tw_2410, by decide, ⟨by decide, by decide, by decide +kernel⟩, tw_13⟩
theorem mf_258 : ex_MF ex_Xc (ex_inf 258) 0 := ⟨tw_2414, by decide, ⟨by decide, by decide, by decide +kernel⟩, tw_13⟩
theorem mf_259 : ex_MF ex_Xc (ex_inf 259) 0 := ⟨tw_2427, by decide, ⟨by decide, by decide, by decide +kernel⟩, tw_13⟩
theorem mf_260 : ex_MF ex_Xc (ex_inf 260) 1 := ⟨tw_2431, by decide, ⟨by decide, by decide, by decide +kernel⟩, tw_13⟩
theorem mf_261 : ex_MF ex_Xc (ex_inf 261) 2 := ⟨tw_2440, by decide, ⟨by decide, by decide, by decide +kernel⟩, tw_13⟩
theorem mf_262 : ex_MF ex_Xc (ex_inf 262) 3 := ⟨tw_2444, by decide, ⟨by decide, by decide, by decide +kernel⟩, tw_13⟩
theorem mf_263 : ex_MF ex_Xc (ex_inf 263) 1 := ⟨tw_2448, by decide, ⟨by decide, by decide, by decide +kernel⟩, tw_13⟩
theorem mf_264 : ex_MF ex_Xc (ex_inf 264) 1 := ⟨tw_2466, by decide, ⟨by decide, by decide, by decide +kernel⟩, tw_13⟩
theorem mf_265 : ex_MF ex_Xc (ex_inf 265) 1 := ⟨tw_2463, by decide, ⟨by decide, by decide, by decide +kernel⟩, tw_13⟩
theorem mf_266 : ex_MF ex_Xc (ex_inf 266) 1 := ⟨tw_2459, by decide, ⟨by decide, by decide, by decide +kernel⟩, tw_13⟩
theorem mf_267 : ex_MF ex_Xc (ex_inf 267) 0 := ⟨tw_2452, by decide, ⟨by decide, by decide, by decide +kernel⟩, tw_13⟩
theorem mf_268 : ex_MF ex_Xc (ex_inf 268) 1 := ⟨tw_2470, by decide, ⟨by decide, by decide, by decide +kernel⟩, tw_13⟩
theorem mf_269 : ex_MF ex_Xc (ex_inf 269) 0 := ⟨tw_2474, by decide, ⟨by decide, by decide, by decide +kernel⟩, tw_13⟩
theorem mf_270 : ex_MF ex_Xc (ex_inf 270) 0 := ⟨tw_2485, by decide, ⟨by decide, by decide, by decide +kernel⟩, tw_13⟩
theorem mf_271 : ex_MF ex_Xc (ex_inf 271) 1 := ⟨tw_2489, by decide, ⟨by decide, by decide, by decide +kernel⟩, tw_13⟩
theorem mf_272 : ex_MF ex_Xc (ex_inf 272) 0 := ⟨tw_2493, by decide, ⟨by decide, by decide, by decide +kernel⟩, tw_13⟩
theorem mf_273 : ex_MF ex_Xc (ex_inf 273) 0 := ⟨tw_2497, by decide, ⟨by decide, by decide, by decide +kernel⟩, tw_13⟩
theorem mf_274 : ex_MF ex_Xc (ex_inf 274) 2 := ⟨tw_2507, by decide, ⟨by decide, by decide, by decide +kernel⟩, tw_13⟩
theorem mf_275 : ex_MF ex_Xc (ex_inf 275) 1 := ⟨tw_2501, by decide, ⟨by decide, by decide, by decide +kernel⟩, tw_13⟩
theorem mf_276 : ex_MF ex_Xc (ex_inf 276) 1 := ⟨tw_2511, by decide, ⟨by decide, by decide, by decide +kernel⟩, tw_13⟩
theorem mf_277 : ex_MF ex_Xc (ex_inf 277) 1 := ⟨tw_2515, by decide, ⟨by decide, by decide, by decide +kernel⟩, tw_13⟩
theorem mf_278 : ex_MF ex_Xc (ex_inf 278) 0 := ⟨tw_2521, by decide, ⟨by decide, by decide, by decide +kernel⟩, tw_13⟩
theorem mf_279 : ex_MF ex_Xc (ex_inf 279) 0 := ⟨tw_2525, by decide, ⟨by decide, by decide, by decide +kernel⟩, tw_13⟩
theorem mf_280 : ex_MF ex_Xc (ex_inf 280) 0 := ⟨tw_2530, by decide, ⟨by decide, by decide, by decide +kernel⟩, tw_13⟩
theorem mf_281 : ex_MF ex_Xc (ex_inf 281) 1 := ⟨tw_2534, by decide, ⟨by decide, by decide, by decide +kernel⟩, tw_13⟩
theorem mf_282 : ex_MF ex_Xc (ex_inf 282) 2 := ⟨tw_2548, by decide, ⟨by decide, by decide, by decide +kernel⟩, tw_13⟩
theorem mf_283 : ex_MF ex_Xc (ex_inf 283) 1 := ⟨tw_2544, by decide, ⟨by decide, by decide, by decide +kernel⟩, tw_13⟩
theorem mf_284 : ex_MF ex_Xc (ex_inf 284) 0 := ⟨tw_2540, by decide, ⟨by decide, by decide, by decide +kernel⟩, tw_13⟩
theorem mf_285 : ex_MF ex_Xc (ex_inf 285) 2 := ⟨tw_2552, by decide, ⟨by decide, by decide, by decide +kernel⟩, tw_13⟩
theorem mf_286 : ex_MF ex_Xc (ex_inf 286) 2 := ⟨tw_2556, by decide, ⟨by decide, by decide, by decide +kernel⟩, tw_13⟩
theorem mf_287 : ex_MF ex_Xc (ex_inf 287) 0 := ⟨tw_2560, by decide, ⟨by decide, by decide, by decide +kernel⟩, tw_13⟩
theorem mf_288 : ex_MF ex_Xc (ex_inf 288) 0 := ⟨tw_2564, by decide, ⟨by decide, by decide, by decide +kernel⟩, tw_13⟩
theorem mf_289 : ex_MF ex_Xc (ex_inf 289) 0 := ⟨tw_2568, by decide, ⟨by decide, by decide, by decide +kernel⟩, tw_13⟩
theorem mf_290 : ex_MF ex_Xc (ex_inf 290) 0 := ⟨tw_2573, by decide, ⟨by decide, by decide, by decide +kernel⟩, tw_13⟩
theorem mf_292 : ex_MF ex_Xc (ex_inf 292) 1 := ⟨tw_2360, by decide, ⟨by decide, by decide, by decide +kernel⟩, tw_35⟩
theorem mf_293 : ex_MF ex_Xc (ex_inf 293) 1 := ⟨tw_2353, by decide, ⟨by decide, by decide, by decide +kernel⟩, tw_35⟩
theorem mf_294 : ex_MF ex_Xc (ex_inf 294) 0 := ⟨tw_2436, by decide, ⟨by decide, by decide, by decide +kernel⟩, tw_35⟩
theorem mf_295 : ex_MF ex_Xc (ex_inf 295) 1 := ⟨tw_1256, by decide, ⟨by decide, by decide, by decide +kernel⟩, tw_35⟩
theorem mf_296 : ex_MF ex_Xc (ex_inf 296) 1 := ⟨tw_1259, by decide, ⟨by decide, by decide, by decide +kernel⟩, tw_35⟩
theorem mf_297 : ex_MF ex_Xc (ex_inf 297) 1 := ⟨tw_1263, by decide, ⟨by decide, by decide, by decide +kernel⟩, tw_35⟩
theorem mf_298 : ex_MF ex_Xc (ex_inf 298) 2 := ⟨tw_1364, by decide, ⟨by decide, by decide, by decide +kernel⟩, tw_18⟩
theorem mf_299 : ex_MF ex_Xc (ex_inf 299) 1 := ⟨tw_796, by decide, ⟨by decide, by decide, by decide +kernel⟩, tw_18⟩
theorem mf_300 : ex_MF ex_Xc (ex_inf 300) 1 := ⟨tw_667, by decide, ⟨by decide, by decide, by decide +kernel⟩, tw_18⟩
theorem mf_301 : ex_MF ex_Xc (ex_inf 301) 2 := ⟨tw_580, by decide, ⟨by decide, by decide, by decide +kernel⟩, tw_18⟩
theorem mf_302 : ex_MF ex_Xc (ex_inf 302) 2 := ⟨tw_589, by decide, ⟨by decide, by decide, by decide +kernel⟩, tw_18⟩
theorem mf_303 : ex_MF ex_Xc (ex_inf 303) 0 := ⟨tw_557, by decide, ⟨by decide, by decide, by decide +kernel⟩, tw_26⟩
theorem mf_304 : ex_MF ex_Xc (ex_inf 304) 1 := ⟨tw_593, by decide, ⟨by decide, by decide, by decide +kernel⟩, tw_26⟩
theorem mf_305 : ex_MF ex_Xc (ex_inf 305) 1 := ⟨tw_1213, by decide, ⟨by decide, by decide, by decide +kernel⟩, tw_26⟩
theorem mf_306 : ex_MF ex_Xc (ex_inf 306) 2 := ⟨tw_1217, by decide, ⟨by decide, by decide, by decide +kernel⟩, tw_26⟩
theorem mf_307 : ex_MF ex_Xc (ex_inf 307) 0 := ⟨tw_561, by decide, ⟨by decide, by decide, by decide +kernel⟩, tw_26⟩
theorem mf_308 : ex_MF ex_Xc (ex_inf 308) 0 := ⟨tw_597, by decide, ⟨by decide, by decide, by decide +kernel⟩, tw_26⟩
theorem mf_309 : ex_MF ex_Xc (ex_inf 309) 2 := ⟨tw_603, by decide, ⟨by decide, by decide, by decide +kernel⟩, tw_26⟩
theorem mf_310 : ex_MF ex_Xc (ex_inf 310) 3 := ⟨tw_1244, by decide, ⟨by decide, by decide, by decide +kernel⟩, tw_26⟩
theorem mf_311 : ex_MF ex_Xc (ex_inf 311) 2 := ⟨tw_600, by decide, ⟨by decide, by decide, by decide +kernel⟩, tw_32⟩
theorem mf_312 : ex_MF ex_Xc (ex_inf 312) 1 := ⟨tw_1224, by decide, ⟨by decide, by decide, by decide +kernel⟩, tw_32⟩
theorem mf_313 : ex_MF ex_Xc (ex_inf 313) 4 := ⟨tw_1221, by decide, ⟨by decide, by decide, by decide +kernel⟩, tw_32⟩
theorem mf_314 : ex_MF ex_Xc (ex_inf 314) 4 := ⟨tw_1229, by decide, ⟨by decide, by decide, by decide +kernel⟩, tw_32⟩
theorem mf_315 : ex_MF ex_Xc (ex_inf 315) 2 := ⟨tw_621, by decide, ⟨by decide, by decide, by decide +kernel⟩, tw_33⟩
theorem mf_316 : ex_MF ex_Xc (ex_inf 316) 1 := ⟨tw_617, by decide, ⟨by decide, by decide, by decide +kernel⟩, tw_33⟩
theorem mf_317 : ex_MF ex_Xc (ex_inf 317) 4 := ⟨tw_1232, by decide, ⟨by decide, by decide, by decide +kernel⟩, tw_33⟩
theorem mf_318 : ex_MF ex_Xc (ex_inf 318) 4 := ⟨tw_1238, by decide, ⟨by decide, by decide, by decide +kernel⟩, tw_33⟩
theorem mf_319 : ex_MF ex_Xc (ex_inf 319) 4 := ⟨tw_1250, by decide, ⟨by decide, by decide, by decide +kernel⟩, tw_33⟩
theorem mf_320 : ex_MF ex_Xc (ex_inf 320) 4 := ⟨tw_1253, by decide, ⟨by decide, by decide, by decide +kernel⟩, tw_33⟩
theorem mf_321 : ex_MF ex_Xc (ex_inf 321) 2 := ⟨tw_611, by decide, ⟨by decide, by decide, by decide +kernel⟩, tw_33⟩
theorem mf_322 : ex_MF ex_Xc (ex_inf 322) 2 := ⟨tw_614, by decide, ⟨by decide, by decide, by decide +kernel⟩, tw_33⟩
theorem mf_323 : ex_MF ex_Xc (ex_inf 323) 3 := ⟨tw_1241, by decide, ⟨by decide, by decide, by decide +kernel⟩, tw_33⟩
theorem mf_324 : ex_MF ex_Xc (ex_inf 324) 0 := ⟨tw_1609, by decide, ⟨by decide, by decide, by decide +kernel⟩, tw_14⟩
theorem mf_325 : ex_MF ex_Xc (ex_inf 325) 0 := ⟨tw_1606, by decide, ⟨by decide, by decide, by decide +kernel⟩, tw_15⟩
theorem mf_326 : ex_MF ex_Xc (ex_inf 326) 1 := ⟨tw_1939, by decide, ⟨by decide, by decide, by decide +kernel⟩, tw_31⟩
theorem mf_327 : ex_MF ex_Xc (ex_inf 327) 0 := ⟨tw_1963, by decide, ⟨by decide, by decide, by decide +kernel⟩, tw_31⟩
theorem mf_328 : ex_MF ex_Xc (ex_inf 328) 0 := ⟨tw_1972, by decide, ⟨by decide, by decide, by decide +kernel⟩, tw_31⟩
theorem mf_329 : ex_MF ex_Xc (ex_inf 329) 0 := ⟨tw_1976, by decide, ⟨by decide, by decide, by decide +kernel⟩, tw_31⟩
theorem mf_330 : ex_MF ex_Xc (ex_inf 330) 0 := ⟨tw_1603, by decide, ⟨by decide, by decide, by decide +kernel⟩, tw_16⟩
theorem mf_331 : ex_MF ex_Xc (ex_inf 331) 1 := ⟨tw_1649, by decide, ⟨by decide, by decide, by decide +kernel⟩, tw_16⟩
theorem mf_332 : ex_MF ex_Xc (ex_inf 332) 0 := ⟨tw_1645, by decide, ⟨by decide, by decide, by decide +kernel⟩, tw_16⟩
theorem mf_333 : ex_MF ex_Xc (ex_inf 333) 0 := ⟨tw_1987, by decide, ⟨by decide, by decide, by decide +kernel⟩, tw_16⟩
theorem mf_334 : ex_MF ex_Xc (ex_inf 334) 0 := ⟨tw_2423, by decide, ⟨by decide, by decide, by decide +kernel⟩, tw_16⟩
theorem mf_336 : ex_MF ex_Xc (ex_inf 336) 1 := ⟨tw_2036, by decide, ⟨by decide, by decide, by decide +kernel⟩, tw_16⟩
theorem mf_337 : ex_MF ex_Xc (ex_inf 337) 1 := ⟨tw_2028, by decide, ⟨by decide, by decide, by decide +kernel⟩, tw_16⟩
theorem mf_338 : ex_MF ex_Xc (ex_inf 338) 3 := ⟨tw_1641, by decide, ⟨by decide, by decide, by decide +kernel⟩, tw_16⟩
theorem mf_339 : ex_MF ex_Xc (ex_inf 339) 1 := ⟨tw_1637, by decide, ⟨by decide, by decide, by decide +kernel⟩, tw_16⟩
theorem mf_340 : ex_MF ex_Xc (ex_inf 340) 1 := ⟨tw_2374, by decide, ⟨by decide, by decide, by decide +kernel⟩, tw_16⟩
theorem mf_341 : ex_MF ex_Xc (ex_inf 341) 2 := ⟨tw_2378, by decide, ⟨by decide, by decide, by decide +kernel⟩, tw_16⟩
theorem mf_342 : ex_MF ex_Xc (ex_inf 342) 0 := ⟨tw_1856, by decide, ⟨by decide, by decide, by decide +kernel⟩, tw_16⟩
theorem mf_343 : ex_MF ex_Xc (ex_inf 343) 1 := ⟨tw_2138, by decide, ⟨by decide, by decide, by decide +kernel⟩, tw_16⟩
theorem mf_344 : ex_MF ex_Xc (ex_inf 344) 0 := ⟨tw_1934, by decide, ⟨by decide, by decide, by decide +kernel⟩, tw_16⟩
theorem mf_345 : ex_MF ex_Xc (ex_inf 345) 2 := ⟨tw_1660, by decide, ⟨by decide, by decide, by decide +kernel⟩, tw_19⟩
theorem mf_347 : ex_MF ex_Xc (ex_inf 347) 2 := ⟨tw_2031, by decide, ⟨by decide, by decide, by decide +kernel⟩, tw_36⟩
theorem mf_348 : ex_MF ex_Xc (ex_inf 348) 3 := ⟨tw_1652, by decide, ⟨by decide, by decide, by decide +kernel⟩, tw_17⟩
theorem mf_349 : ex_MF ex_Xc (ex_inf 349) 2 := ⟨tw_1657, by decide, ⟨by decide, by decide, by decide +kernel⟩, tw_17⟩
theorem mf_350 : ex_MF ex_Xc (ex_inf 350) 3 := ⟨tw_608, by decide, ⟨by decide, by decide, by decide +kernel⟩, tw_34⟩
theorem mf_351 : ex_MF ex_Xc (ex_inf 351) 4 := ⟨tw_1247, by decide, ⟨by decide, by decide, by decide +kernel⟩, tw_34⟩
theorem mf_352 : ex_MF ex_Xc (ex_inf 352) 3 := ⟨tw_942, by decide, ⟨by decide, by decide, by decide +kernel⟩, tw_0⟩
theorem mf_353 : ex_MF ex_Xc (ex_inf 353) 3 := ⟨tw_1053, by decide, ⟨by decide, by decide, by decide +kernel⟩, tw_0⟩
theorem mf_354 : ex_MF ex_Xc (ex_inf 354) 3 := ⟨tw_1060, by decide, ⟨by decide, by decide, by decide +kernel⟩, tw_0⟩
theorem mf_355 : ex_MF ex_Xc (ex_inf 355) 6 := ⟨tw_1067, by decide, ⟨by decide, by decide, by decide +kernel⟩, tw_0⟩
theorem mf_356 : ex_MF ex_Xc (ex_inf 356) 4 := ⟨tw_1110, by decide, ⟨by decide, by decide, by decide +kernel⟩, tw_0⟩
theorem mf_357 : ex_MF ex_Xc (ex_inf 357) 3 := ⟨tw_1118, by decide, ⟨by decide, by decide, by decide +kernel⟩, tw_0⟩
theorem mf_358 : ex_MF ex_Xc (ex_inf 358) 4 := ⟨tw_1125, by decide, ⟨by decide, by decide, by decide +kernel⟩, tw_0⟩
theorem mf_359 : ex_MF ex_Xc (ex_inf 359) 4 := ⟨tw_1148, by decide, ⟨by decide, by decide, by decide +kernel⟩, tw_0⟩
theorem mf_360 : ex_MF ex_Xc (ex_inf 360) 5 := ⟨tw_1155, by decide, ⟨by decide, by decide, by decide +kernel⟩, tw_0⟩
theorem mf_361 : ex_MF ex_Xc (ex_inf 361) 3 := ⟨tw_1178, by decide, ⟨by decide, by decide, by decide +kernel⟩, tw_0⟩
theorem mf_362 : ex_MF ex_Xc (ex_inf 362) 3 := ⟨tw_1185, by decide, ⟨by decide, by decide, by decide +kernel⟩, tw_0⟩
theorem mf_363 : ex_MF ex_Xc (ex_inf 363) 7 := ⟨tw_1196, by decide, ⟨by decide, by decide, by decide +kernel⟩, tw_0⟩
theorem mf_364 : ex_MF ex_Xc (ex_inf 364) 3 := ⟨tw_1293, by decide, ⟨by decide, by decide, by decide +kernel⟩, tw_0⟩
theorem mf_365 : ex_MF ex_Xc (ex_inf 365) 5 := ⟨tw_1304, by decide, ⟨by decide, by decide, by decide +kernel⟩, tw_0⟩
theorem mf_366 : ex_MF ex_Xc (ex_inf 366) 3 := ⟨tw_1316, by decide, ⟨by decide, by decide, by decide +kernel⟩, tw_0⟩
theorem mf_367 : ex_MF ex_Xc (ex_inf 367) 3 := ⟨tw_1331, by decide, ⟨by decide, by decide, by decide +kernel⟩, tw_0⟩
theorem mf_368 : ex_MF ex_Xc (ex_inf 368) 3 := ⟨tw_1338, by decide, ⟨by decide, by decide, by decide +kernel⟩, tw_0⟩
theorem mf_369 : ex_MF ex_Xc (ex_inf 369) 7 := ⟨tw_1345, by decide, ⟨by decide, by decide, by decide +kernel⟩, tw_0⟩
theorem mf_370 : ex_MF ex_Xc (ex_inf 370) 2 := ⟨tw_1388, by decide, ⟨by decide, by decide, by decide +kernel⟩, tw_0⟩
theorem mf_371 : ex_MF ex_Xc (ex_inf 371) 2 := ⟨tw_1401, by decide, ⟨by decide, by decide, by decide +kernel⟩, tw_0⟩
theorem mf_372 : ex_MF ex_Xc (ex_inf 372) 5 := ⟨tw_1408, by decide, ⟨by decide, by decide, by decide +kernel⟩, tw_0⟩
theorem mf_373 : ex_MF ex_Xc (ex_inf 373) 2 := ⟨tw_1415, by decide, ⟨by decide, by decide, by decide +kernel⟩, tw_0⟩
theorem mf_374 : ex_MF ex_Xc (ex_inf 374) 3 := ⟨tw_1427, by decide, ⟨by decide, by decide, by decide +kernel⟩, tw_0⟩
theorem mf_375 : ex_MF ex_Xc (ex_inf 375) 4 := ⟨tw_1438, by decide, ⟨by decide, by decide, by decide +kernel⟩, tw_0⟩
theorem mf_376 : ex_MF ex_Xc (ex_inf 376) 5 := ⟨tw_1446, by decide, ⟨by decide, by decide, by decide +kernel⟩, tw_0⟩
theorem mf_377 : ex_MF ex_Xc (ex_inf 377) 3 := ⟨tw_1459, by decide, ⟨by decide, by decide, by decide +kernel⟩, tw_0⟩
theorem mf_378 : ex_MF ex_Xc (ex_inf 378) 3 := ⟨tw_1466, by decide, ⟨by decide, by decide, by decide +kernel⟩, tw_0⟩
theorem mf_379 : ex_MF ex_Xc (ex_inf 379) 3 := ⟨tw_1473, by decide, ⟨by decide, by decide, by decide +kernel⟩, tw_0⟩
theorem mf_380 : ex_MF ex_Xc (ex_inf 380) 3 := ⟨tw_1480, by decide, ⟨by decide, by decide, by decide +kernel⟩, tw_0⟩
theorem mf_381 : ex_MF ex_Xc (ex_inf 381) 3 := ⟨tw_1492, by decide, ⟨by decide, by decide, by decide +kernel⟩, tw_0⟩
theorem mf_382 : ex_MF ex_Xc (ex_inf 382) 3 := ⟨tw_1499, by decide, ⟨by decide, by decide, by decide +kernel⟩, tw_0⟩
theorem mf_383 : ex_MF ex_Xc (ex_inf 383) 2 := ⟨tw_1510, by decide, ⟨by decide, by decide, by decide +kernel⟩, tw_0⟩
theorem mf_384 : ex_MF ex_Xc (ex_inf 384) 3 := ⟨tw_1517, by decide, ⟨by decide, by decide, by decide +kernel⟩, tw_0⟩
theorem mf_385 : ex_MF ex_Xc (ex_inf 385) 2 := ⟨tw_1528, by decide, ⟨by decide, by decide, by decide +kernel⟩, tw_0⟩
theorem mf_386 : ex_MF ex_Xc (ex_inf 386) 4 := ⟨tw_1551, by decide, ⟨by decide, by decide, by decide +kernel⟩, tw_0⟩
theorem mf_387 : ex_MF ex_Xc (ex_inf 387) 4 := ⟨tw_1562, by decide, ⟨by decide, by decide, by decide +kernel⟩, tw_0⟩
theorem mf_388 : ex_MF ex_Xc (ex_inf 388) 2 := ⟨tw_1569, by decide, ⟨by decide, by decide, by decide +kernel⟩, tw_0⟩
end
