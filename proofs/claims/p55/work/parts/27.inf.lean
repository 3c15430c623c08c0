noncomputable section
/-! words by their places, rows by their words -/
set_option maxRecDepth 20000 in
/-- the methods: name, code, size, type, handlers -/
def ex_inf : Nat → ex_I := fun k => @Bool.rec (fun _ => Nat → ex_I) (fun k => @Bool.rec (fun _ => Nat → ex_I) (fun k => @Bool.rec (fun _ => Nat → ex_I) (fun k => @Bool.rec (fun _ => Nat → ex_I) (fun k => @Bool.rec (fun _ => Nat → ex_I) (fun k => @Bool.rec (fun _ => Nat → ex_I) (fun k => @Bool.rec (fun _ => Nat → ex_I) (fun k => @Bool.rec (fun _ => Nat → ex_I) (fun _ => (⟨"CallerhallLaw", "law", "([I)Z"⟩, code, 10, (Option.some Jvm.ClassFile.FieldType.boolean), none)) (fun _ => (⟨"CallerhallLaw", "whole", "(LCallerhallLaw$Draw;)Z"⟩, method_46_code, 12, (Option.some Jvm.ClassFile.FieldType.boolean), none)) (Nat.ble k 208) k) (fun k => @Bool.rec (fun _ => Nat → ex_I) (fun _ => (⟨"CallerhallLaw", "ordered", "(LCallerhall;)Z"⟩, method_45_code, 6, (Option.some Jvm.ClassFile.FieldType.boolean), none)) (fun _ => (⟨"CallerhallLaw", "told", "(LCallerhall;)Ljava/lang/String;"⟩, method_44_code, 1, (Option.some (Jvm.ClassFile.FieldType.object "java/lang/String")), none)) (Nat.ble k 206) k) (Nat.ble k 207) k) (fun k => @Bool.rec (fun _ => Nat → ex_I) (fun k => @Bool.rec (fun _ => Nat → ex_I) (fun _ => (⟨"CallerhallLaw", "places", "(LCallerhall;)Ljava/lang/String;"⟩, method_43_code, 3, (Option.some (Jvm.ClassFile.FieldType.object "java/lang/String")), none)) (fun _ => (⟨"CallerhallLaw", "danced", "(LCallerhall;CCCII)Z"⟩, method_42_code, 13, (Option.some Jvm.ClassFile.FieldType.boolean), none)) (Nat.ble k 204) k) (fun _ => (⟨"CallerhallLaw", "backs", "(LCallerhall;)Z"⟩, method_41_code, 4, (Option.some Jvm.ClassFile.FieldType.boolean), none)) (Nat.ble k 203) k) (Nat.ble k 205) k) (fun k => @Bool.rec (fun _ => Nat → ex_I) (fun k => @Bool.rec (fun _ => Nat → ex_I) (fun k => @Bool.rec (fun _ => Nat → ex_I) (fun _ => (⟨"CallerhallLaw", "acts", "(LCallerhall;ILCallerhallLaw$Draw;)I"⟩, method_40_code, 6, (Option.some Jvm.ClassFile.FieldType.int), none)) (fun _ => (⟨"CallerhallLaw", "doneShare", "(LCallerhall;)F"⟩, method_39_code, 2, (Option.some Jvm.ClassFile.FieldType.float), some [(0, 4, 5, 145)])) (Nat.ble k 201) k) (fun k => @Bool.rec (fun _ => Nat → ex_I) (fun _ => (⟨"CallerhallLaw", "met", "(LCallerhall;II)I"⟩, method_38_code, 4, (Option.some Jvm.ClassFile.FieldType.int), some [(0, 6, 7, 14), (0, 6, 10, 26)])) (fun _ => (⟨"CallerhallLaw", "tip", "(LCallerhall;)I"⟩, method_36_code, 2, (Option.some Jvm.ClassFile.FieldType.int), some [(0, 4, 5, 49)])) (Nat.ble k 199) k) (Nat.ble k 200) k) (fun k => @Bool.rec (fun _ => Nat → ex_I) (fun k => @Bool.rec (fun _ => Nat → ex_I) (fun _ => (⟨"CallerhallLaw", "hall", "(LCallerhall;I)I"⟩, method_35_code, 3, (Option.some Jvm.ClassFile.FieldType.int), some [(0, 5, 6, 26)])) (fun _ => (⟨"CallerhallLaw", "progress", "(LCallerhall;)I"⟩, method_34_code, 2, (Option.some Jvm.ClassFile.FieldType.int), some [(0, 4, 5, 28), (0, 4, 8, 49)])) (Nat.ble k 197) k) (fun _ => (⟨"CallerhallLaw", "wayHome", "(LCallerhall;I)I"⟩, method_31_code, 3, (Option.some Jvm.ClassFile.FieldType.int), some [(0, 5, 6, 26), (0, 5, 9, 40)])) (Nat.ble k 196) k) (Nat.ble k 198) k) (Nat.ble k 202) k) (fun k => @Bool.rec (fun _ => Nat → ex_I) (fun k => @Bool.rec (fun _ => Nat → ex_I) (fun k => @Bool.rec (fun _ => Nat → ex_I) (fun k => @Bool.rec (fun _ => Nat → ex_I) (fun _ => (⟨"CallerhallLaw", "repairs", "(LCallerhall;C)I"⟩, method_29_code, 3, (Option.some Jvm.ClassFile.FieldType.int), some [(0, 5, 6, 26)])) (fun _ => (⟨"CallerhallLaw", "pair", "(LCallerhall;I)I"⟩, method_28_code, 3, (Option.some Jvm.ClassFile.FieldType.int), some [(0, 5, 6, 14), (0, 5, 9, 40)])) (Nat.ble k 194) k) (fun k => @Bool.rec (fun _ => Nat → ex_I) (fun _ => (⟨"CallerhallLaw", "partner", "(LCallerhall;IZI)I"⟩, method_27_code, 5, (Option.some Jvm.ClassFile.FieldType.int), some [(0, 7, 8, 14), (0, 7, 12, 26), (0, 7, 17, 40)])) (fun _ => (⟨"CallerhallLaw", "callAt", "(LCallerhall;I)I"⟩, method_25_code, 3, (Option.some Jvm.ClassFile.FieldType.int), some [(0, 5, 6, 14)])) (Nat.ble k 192) k) (Nat.ble k 193) k) (fun k => @Bool.rec (fun _ => Nat → ex_I) (fun k => @Bool.rec (fun _ => Nat → ex_I) (fun _ => (⟨"CallerhallLaw", "back", "(LCallerhall;)I"⟩, method_24_code, 2, (Option.some Jvm.ClassFile.FieldType.int), some [(0, 4, 5, 40)])) (fun _ => (⟨"CallerhallLaw", "fits", "(LCallerhall;CCC)I"⟩, method_23_code, 5, (Option.some Jvm.ClassFile.FieldType.int), some [(0, 15, 16, 26)])) (Nat.ble k 190) k) (fun _ => (⟨"CallerhallLaw", "whom", "(LCallerhall;)I"⟩, method_22_code, 2, (Option.some Jvm.ClassFile.FieldType.int), some [(0, 4, 5, 40)])) (Nat.ble k 189) k) (Nat.ble k 191) k) (fun k => @Bool.rec (fun _ => Nat → ex_I) (fun k => @Bool.rec (fun _ => Nat → ex_I) (fun k => @Bool.rec (fun _ => Nat → ex_I) (fun _ => (⟨"CallerhallLaw", "finish", "(LCallerhall;)I"⟩, method_21_code, 2, (Option.some Jvm.ClassFile.FieldType.int), some [(0, 4, 5, 49), (0, 4, 8, 28)])) (fun _ => (⟨"CallerhallLaw", "dance", "(LCallerhall;CCCII)I"⟩, method_20_code, 7, (Option.some Jvm.ClassFile.FieldType.int), some [(0, 11, 12, 26), (0, 11, 16, 40), (0, 11, 21, 28)])) (Nat.ble k 187) k) (fun _ => (⟨"CallerhallLaw", "parts", "(LCallerhall;C)I"⟩, method_17_code, 3, (Option.some Jvm.ClassFile.FieldType.int), some [(0, 5, 6, 26), (0, 5, 9, 40)])) (Nat.ble k 186) k) (fun k => @Bool.rec (fun _ => Nat → ex_I) (fun k => @Bool.rec (fun _ => Nat → ex_I) (fun _ => (⟨"CallerhallLaw", "define", "(LCallerhall;CICCC)I"⟩, method_14_code, 7, (Option.some Jvm.ClassFile.FieldType.int), some [(0, 11, 12, 26), (0, 11, 16, 49)])) (fun _ => (⟨"CallerhallLaw", "skill", "(LCallerhall;II)I"⟩, method_10_code, 4, (Option.some Jvm.ClassFile.FieldType.int), some [(0, 6, 7, 14), (0, 6, 10, 26)])) (Nat.ble k 184) k) (fun _ => (⟨"CallerhallLaw", "find", "(LCallerhall;II)I"⟩, method_9_code, 4, (Option.some Jvm.ClassFile.FieldType.int), some [(0, 6, 7, 40)])) (Nat.ble k 183) k) (Nat.ble k 185) k) (Nat.ble k 188) k) (Nat.ble k 195) k) (fun k => @Bool.rec (fun _ => Nat → ex_I) (fun k => @Bool.rec (fun _ => Nat → ex_I) (fun k => @Bool.rec (fun _ => Nat → ex_I) (fun k => @Bool.rec (fun _ => Nat → ex_I) (fun k => @Bool.rec (fun _ => Nat → ex_I) (fun _ => (⟨"CallerhallLaw", "turnAll", "(LCallerhall;I)I"⟩, method_8_code, 3, (Option.some Jvm.ClassFile.FieldType.int), some [(0, 5, 6, 26)])) (fun _ => (⟨"CallerhallLaw", "change", "(LCallerhall;II)I"⟩, method_7_code, 4, (Option.some Jvm.ClassFile.FieldType.int), some [(0, 6, 7, 14), (0, 6, 10, 26)])) (Nat.ble k 181) k) (fun k => @Bool.rec (fun _ => Nat → ex_I) (fun _ => (⟨"CallerhallLaw", "put", "(LCallerhall;IIII)I"⟩, method_6_code, 6, (Option.some Jvm.ClassFile.FieldType.int), some [(0, 9, 10, 14), (0, 9, 14, 26), (0, 9, 19, 28)])) (fun _ => (⟨"CallerhallLaw", "facing", "(LCallerhall;I)I"⟩, method_5_code, 3, (Option.some Jvm.ClassFile.FieldType.int), some [(0, 5, 6, 14)])) (Nat.ble k 179) k) (Nat.ble k 180) k) (fun k => @Bool.rec (fun _ => Nat → ex_I) (fun k => @Bool.rec (fun _ => Nat → ex_I) (fun _ => (⟨"CallerhallLaw", "y", "(LCallerhall;I)I"⟩, method_4_code, 3, (Option.some Jvm.ClassFile.FieldType.int), some [(0, 5, 6, 14)])) (fun _ => (⟨"CallerhallLaw", "x", "(LCallerhall;I)I"⟩, method_3_code, 3, (Option.some Jvm.ClassFile.FieldType.int), some [(0, 5, 6, 14)])) (Nat.ble k 177) k) (fun _ => (⟨"CallerhallLaw", "cell", "([II)I"⟩, method_2_code, 2, (Option.some Jvm.ClassFile.FieldType.int), none)) (Nat.ble k 176) k) (Nat.ble k 178) k) (fun k => @Bool.rec (fun _ => Nat → ex_I) (fun k => @Bool.rec (fun _ => Nat → ex_I) (fun k => @Bool.rec (fun _ => Nat → ex_I) (fun _ => (⟨"jdk/internal/util/Preconditions", "checkIndex", "(IILjava/util/function/BiFunction;)I"⟩, prog_66_method_11_code, 3, (Option.some Jvm.ClassFile.FieldType.int), none)) (fun _ => (⟨"java/lang/StringLatin1", "indexOfChar", "([BIII)I"⟩, prog_40_method_23_code, 6, (Option.some Jvm.ClassFile.FieldType.int), none)) (Nat.ble k 174) k) (fun _ => (⟨"java/lang/StringLatin1", "indexOf", "([BIII)I"⟩, prog_40_method_22_code, 4, (Option.some Jvm.ClassFile.FieldType.int), none)) (Nat.ble k 173) k) (fun k => @Bool.rec (fun _ => Nat → ex_I) (fun k => @Bool.rec (fun _ => Nat → ex_I) (fun _ => (⟨"java/lang/StringLatin1", "canEncode", "(I)Z"⟩, prog_40_method_4_code, 1, (Option.some Jvm.ClassFile.FieldType.boolean), none)) (fun _ => (⟨"java/lang/StringLatin1", "charAt", "([BI)C"⟩, prog_40_method_2_code, 2, (Option.some Jvm.ClassFile.FieldType.char), none)) (Nat.ble k 171) k) (fun _ => (⟨"java/lang/String", "checkIndex", "(II)V"⟩, prog_38_method_155_code, 2, (Option.none : Option Jvm.ClassFile.FieldType), none)) (Nat.ble k 170) k) (Nat.ble k 172) k) (Nat.ble k 175) k) (fun k => @Bool.rec (fun _ => Nat → ex_I) (fun k => @Bool.rec (fun _ => Nat → ex_I) (fun k => @Bool.rec (fun _ => Nat → ex_I) (fun k => @Bool.rec (fun _ => Nat → ex_I) (fun _ => (⟨"java/lang/String", "isLatin1", "()Z"⟩, prog_38_method_154_code, 1, (Option.some Jvm.ClassFile.FieldType.boolean), none)) (fun _ => (⟨"java/lang/String", "coder", "()B"⟩, prog_38_method_152_code, 1, (Option.some Jvm.ClassFile.FieldType.byte), none)) (Nat.ble k 168) k) (fun k => @Bool.rec (fun _ => Nat → ex_I) (fun _ => (⟨"java/lang/String", "indexOf", "(II)I"⟩, prog_38_method_80_code, 3, (Option.some Jvm.ClassFile.FieldType.int), none)) (fun _ => (⟨"java/lang/String", "indexOf", "(I)I"⟩, prog_38_method_79_code, 2, (Option.some Jvm.ClassFile.FieldType.int), none)) (Nat.ble k 166) k) (Nat.ble k 167) k) (fun k => @Bool.rec (fun _ => Nat → ex_I) (fun k => @Bool.rec (fun _ => Nat → ex_I) (fun _ => (⟨"java/lang/String", "charAt", "(I)C"⟩, prog_38_method_56_code, 2, (Option.some Jvm.ClassFile.FieldType.char), none)) (fun _ => (⟨"java/lang/String", "length", "()I"⟩, prog_38_method_54_code, 1, (Option.some Jvm.ClassFile.FieldType.int), none)) (Nat.ble k 164) k) (fun _ => (⟨"java/lang/Math", "min", "(II)I"⟩, prog_35_method_69_code, 2, (Option.some Jvm.ClassFile.FieldType.int), none)) (Nat.ble k 163) k) (Nat.ble k 165) k) (fun k => @Bool.rec (fun _ => Nat → ex_I) (fun k => @Bool.rec (fun _ => Nat → ex_I) (fun k => @Bool.rec (fun _ => Nat → ex_I) (fun _ => (⟨"java/lang/Math", "max", "(II)I"⟩, prog_35_method_65_code, 2, (Option.some Jvm.ClassFile.FieldType.int), none)) (fun _ => (⟨"java/lang/Math", "abs", "(J)J"⟩, prog_35_method_61_code, 2, (Option.some Jvm.ClassFile.FieldType.long), none)) (Nat.ble k 161) k) (fun _ => (⟨"java/lang/Math", "abs", "(I)I"⟩, prog_35_method_59_code, 1, (Option.some Jvm.ClassFile.FieldType.int), none)) (Nat.ble k 160) k) (fun k => @Bool.rec (fun _ => Nat → ex_I) (fun k => @Bool.rec (fun _ => Nat → ex_I) (fun _ => (⟨"java/lang/Math", "floorMod", "(II)I"⟩, prog_35_method_50_code, 3, (Option.some Jvm.ClassFile.FieldType.int), none)) (fun _ => (⟨"CallerhallLaw$Draw", "next", "(I)I"⟩, prog_14_method_2_code, 2, (Option.some Jvm.ClassFile.FieldType.int), none)) (Nat.ble k 158) k) (fun _ => (⟨"CallerhallLaw$Draw", "<init>", "(I)V"⟩, prog_14_method_1_code, 2, (Option.none : Option Jvm.ClassFile.FieldType), none)) (Nat.ble k 157) k) (Nat.ble k 159) k) (Nat.ble k 162) k) (Nat.ble k 169) k) (Nat.ble k 182) k) (fun k => @Bool.rec (fun _ => Nat → ex_I) (fun k => @Bool.rec (fun _ => Nat → ex_I) (fun k => @Bool.rec (fun _ => Nat → ex_I) (fun k => @Bool.rec (fun _ => Nat → ex_I) (fun k => @Bool.rec (fun _ => Nat → ex_I) (fun k => @Bool.rec (fun _ => Nat → ex_I) (fun _ => (⟨"Callerhall", "turnedY", "(III)I"⟩, prog_1_method_77_code, 3, (Option.some Jvm.ClassFile.FieldType.int), none)) (fun _ => (⟨"Callerhall", "turnedX", "(III)I"⟩, prog_1_method_76_code, 3, (Option.some Jvm.ClassFile.FieldType.int), none)) (Nat.ble k 155) k) (fun k => @Bool.rec (fun _ => Nat → ex_I) (fun _ => (⟨"Callerhall", "isInShape", "(III)Z"⟩, prog_1_method_75_code, 9, (Option.some Jvm.ClassFile.FieldType.boolean), none)) (fun _ => (⟨"Callerhall", "countOutside", "(I)I"⟩, prog_1_method_74_code, 6, (Option.some Jvm.ClassFile.FieldType.int), none)) (Nat.ble k 153) k) (Nat.ble k 154) k) (fun k => @Bool.rec (fun _ => Nat → ex_I) (fun k => @Bool.rec (fun _ => Nat → ex_I) (fun _ => (⟨"Callerhall", "areHome", "([I[I[I)Z"⟩, prog_1_method_73_code, 8, (Option.some Jvm.ClassFile.FieldType.boolean), none)) (fun _ => (⟨"Callerhall", "countAway", "()I"⟩, prog_1_method_72_code, 4, (Option.some Jvm.ClassFile.FieldType.int), none)) (Nat.ble k 151) k) (fun _ => (⟨"Callerhall", "spotOf", "(I)I"⟩, prog_1_method_71_code, 3, (Option.some Jvm.ClassFile.FieldType.int), none)) (Nat.ble k 150) k) (Nat.ble k 152) k) (fun k => @Bool.rec (fun _ => Nat → ex_I) (fun k => @Bool.rec (fun _ => Nat → ex_I) (fun k => @Bool.rec (fun _ => Nat → ex_I) (fun _ => (⟨"Callerhall", "forgetPast", "()V"⟩, prog_1_method_70_code, 1, (Option.none : Option Jvm.ClassFile.FieldType), none)) (fun _ => (⟨"Callerhall", "putAllHome", "()V"⟩, prog_1_method_69_code, 3, (Option.none : Option Jvm.ClassFile.FieldType), none)) (Nat.ble k 148) k) (fun _ => (⟨"Callerhall", "isDoneInParts", "(I)Z"⟩, prog_1_method_68_code, 5, (Option.some Jvm.ClassFile.FieldType.boolean), none)) (Nat.ble k 147) k) (fun k => @Bool.rec (fun _ => Nat → ex_I) (fun k => @Bool.rec (fun _ => Nat → ex_I) (fun _ => (⟨"Callerhall", "findLastAct", "(LCallerhall$Places;I)Z"⟩, prog_1_method_67_code, 4, (Option.some Jvm.ClassFile.FieldType.boolean), none)) (fun _ => (⟨"Callerhall", "pairAll", "(II)V"⟩, prog_1_method_66_code, 3, (Option.none : Option Jvm.ClassFile.FieldType), none)) (Nat.ble k 145) k) (fun _ => (⟨"Callerhall", "settle", "(I)V"⟩, prog_1_method_65_code, 2, (Option.none : Option Jvm.ClassFile.FieldType), none)) (Nat.ble k 144) k) (Nat.ble k 146) k) (Nat.ble k 149) k) (fun k => @Bool.rec (fun _ => Nat → ex_I) (fun k => @Bool.rec (fun _ => Nat → ex_I) (fun k => @Bool.rec (fun _ => Nat → ex_I) (fun k => @Bool.rec (fun _ => Nat → ex_I) (fun _ => (⟨"Callerhall", "judge", "(LCallerhall$Plan;ZII)V"⟩, prog_1_method_64_code, 5, (Option.none : Option Jvm.ClassFile.FieldType), none)) (fun _ => (⟨"Callerhall", "readCall", "(C)V"⟩, prog_1_method_63_code, 4, (Option.none : Option Jvm.ClassFile.FieldType), none)) (Nat.ble k 142) k) (fun k => @Bool.rec (fun _ => Nat → ex_I) (fun _ => (⟨"Callerhall", "indexIn", "(Ljava/lang/String;C)I"⟩, prog_1_method_62_code, 4, (Option.some Jvm.ClassFile.FieldType.int), none)) (fun _ => (⟨"Callerhall", "conceptOf", "(C)I"⟩, prog_1_method_61_code, 2, (Option.some Jvm.ClassFile.FieldType.int), none)) (Nat.ble k 140) k) (Nat.ble k 141) k) (fun k => @Bool.rec (fun _ => Nat → ex_I) (fun k => @Bool.rec (fun _ => Nat → ex_I) (fun _ => (⟨"Callerhall", "whoOf", "(C)I"⟩, prog_1_method_60_code, 2, (Option.some Jvm.ClassFile.FieldType.int), none)) (fun _ => (⟨"Callerhall", "actOf", "(C)I"⟩, prog_1_method_59_code, 2, (Option.some Jvm.ClassFile.FieldType.int), none)) (Nat.ble k 138) k) (fun _ => (⟨"Callerhall", "letterOf", "(C)I"⟩, prog_1_method_58_code, 2, (Option.some Jvm.ClassFile.FieldType.int), none)) (Nat.ble k 137) k) (Nat.ble k 139) k) (fun k => @Bool.rec (fun _ => Nat → ex_I) (fun k => @Bool.rec (fun _ => Nat → ex_I) (fun k => @Bool.rec (fun _ => Nat → ex_I) (fun _ => (⟨"Callerhall", "checkCouple", "(I)V"⟩, prog_1_method_57_code, 2, (Option.none : Option Jvm.ClassFile.FieldType), none)) (fun _ => (⟨"Callerhall", "checkYear", "(I)V"⟩, prog_1_method_56_code, 2, (Option.none : Option Jvm.ClassFile.FieldType), none)) (Nat.ble k 135) k) (fun _ => (⟨"Callerhall", "checkPlace", "(III)V"⟩, prog_1_method_55_code, 4, (Option.none : Option Jvm.ClassFile.FieldType), none)) (Nat.ble k 134) k) (fun k => @Bool.rec (fun _ => Nat → ex_I) (fun k => @Bool.rec (fun _ => Nat → ex_I) (fun _ => (⟨"Callerhall", "checkDancer", "(I)V"⟩, prog_1_method_54_code, 2, (Option.none : Option Jvm.ClassFile.FieldType), none)) (fun _ => (⟨"Callerhall", "isConsistent", "()Z"⟩, prog_1_method_53_code, 2, (Option.some Jvm.ClassFile.FieldType.boolean), none)) (Nat.ble k 132) k) (fun _ => (⟨"Callerhall", "meanAway", "()D"⟩, prog_1_method_52_code, 5, (Option.some Jvm.ClassFile.FieldType.double), none)) (Nat.ble k 131) k) (Nat.ble k 133) k) (Nat.ble k 136) k) (Nat.ble k 143) k) (fun k => @Bool.rec (fun _ => Nat → ex_I) (fun k => @Bool.rec (fun _ => Nat → ex_I) (fun k => @Bool.rec (fun _ => Nat → ex_I) (fun k => @Bool.rec (fun _ => Nat → ex_I) (fun k => @Bool.rec (fun _ => Nat → ex_I) (fun _ => (⟨"Callerhall", "doneShare", "()F"⟩, prog_1_method_51_code, 1, (Option.some Jvm.ClassFile.FieldType.float), none)) (fun _ => (⟨"Callerhall", "beats", "()J"⟩, prog_1_method_50_code, 1, (Option.some Jvm.ClassFile.FieldType.long), none)) (Nat.ble k 129) k) (fun k => @Bool.rec (fun _ => Nat → ex_I) (fun _ => (⟨"Callerhall", "met", "(II)I"⟩, prog_1_method_49_code, 3, (Option.some Jvm.ClassFile.FieldType.int), none)) (fun _ => (⟨"Callerhall", "tip", "()I"⟩, prog_1_method_47_code, 1, (Option.some Jvm.ClassFile.FieldType.int), none)) (Nat.ble k 127) k) (Nat.ble k 128) k) (fun k => @Bool.rec (fun _ => Nat → ex_I) (fun k => @Bool.rec (fun _ => Nat → ex_I) (fun _ => (⟨"Callerhall", "hall", "(I)I"⟩, prog_1_method_46_code, 3, (Option.some Jvm.ClassFile.FieldType.int), none)) (fun _ => (⟨"Callerhall", "gone", "()I"⟩, prog_1_method_45_code, 1, (Option.some Jvm.ClassFile.FieldType.int), none)) (Nat.ble k 125) k) (fun _ => (⟨"Callerhall", "progress", "()I"⟩, prog_1_method_44_code, 2, (Option.some Jvm.ClassFile.FieldType.int), none)) (Nat.ble k 124) k) (Nat.ble k 126) k) (fun k => @Bool.rec (fun _ => Nat → ex_I) (fun k => @Bool.rec (fun _ => Nat → ex_I) (fun k => @Bool.rec (fun _ => Nat → ex_I) (fun _ => (⟨"Callerhall", "sung", "()I"⟩, prog_1_method_43_code, 1, (Option.some Jvm.ClassFile.FieldType.int), none)) (fun _ => (⟨"Callerhall", "wayHome", "(I)I"⟩, prog_1_method_40_code, 3, (Option.some Jvm.ClassFile.FieldType.int), none)) (Nat.ble k 122) k) (fun _ => (⟨"Callerhall", "clashes", "()I"⟩, prog_1_method_39_code, 1, (Option.some Jvm.ClassFile.FieldType.int), none)) (Nat.ble k 121) k) (fun k => @Bool.rec (fun _ => Nat → ex_I) (fun k => @Bool.rec (fun _ => Nat → ex_I) (fun _ => (⟨"Callerhall", "broken", "()I"⟩, prog_1_method_38_code, 1, (Option.some Jvm.ClassFile.FieldType.int), none)) (fun _ => (⟨"Callerhall", "isSymmetric", "()Z"⟩, prog_1_method_36_code, 3, (Option.some Jvm.ClassFile.FieldType.boolean), none)) (Nat.ble k 119) k) (fun _ => (⟨"Callerhall", "isHome", "()Z"⟩, prog_1_method_35_code, 1, (Option.some Jvm.ClassFile.FieldType.boolean), none)) (Nat.ble k 118) k) (Nat.ble k 120) k) (Nat.ble k 123) k) (fun k => @Bool.rec (fun _ => Nat → ex_I) (fun k => @Bool.rec (fun _ => Nat → ex_I) (fun k => @Bool.rec (fun _ => Nat → ex_I) (fun k => @Bool.rec (fun _ => Nat → ex_I) (fun _ => (⟨"Callerhall", "repairs", "(C)I"⟩, prog_1_method_34_code, 3, (Option.some Jvm.ClassFile.FieldType.int), none)) (fun _ => (⟨"Callerhall", "formation", "()C"⟩, prog_1_method_33_code, 2, (Option.some Jvm.ClassFile.FieldType.char), none)) (Nat.ble k 116) k) (fun k => @Bool.rec (fun _ => Nat → ex_I) (fun _ => (⟨"Callerhall", "pair", "(I)C"⟩, prog_1_method_32_code, 3, (Option.some Jvm.ClassFile.FieldType.char), none)) (fun _ => (⟨"Callerhall", "partner", "(IZI)I"⟩, prog_1_method_31_code, 5, (Option.some Jvm.ClassFile.FieldType.int), none)) (Nat.ble k 114) k) (Nat.ble k 115) k) (fun k => @Bool.rec (fun _ => Nat → ex_I) (fun k => @Bool.rec (fun _ => Nat → ex_I) (fun _ => (⟨"Callerhall", "callAt", "(I)C"⟩, prog_1_method_29_code, 2, (Option.some Jvm.ClassFile.FieldType.char), none)) (fun _ => (⟨"Callerhall", "calls", "()I"⟩, prog_1_method_28_code, 1, (Option.some Jvm.ClassFile.FieldType.int), none)) (Nat.ble k 112) k) (fun _ => (⟨"Callerhall", "back", "()I"⟩, prog_1_method_27_code, 1, (Option.some Jvm.ClassFile.FieldType.int), none)) (Nat.ble k 111) k) (Nat.ble k 113) k) (fun k => @Bool.rec (fun _ => Nat → ex_I) (fun k => @Bool.rec (fun _ => Nat → ex_I) (fun k => @Bool.rec (fun _ => Nat → ex_I) (fun _ => (⟨"Callerhall", "fits", "(CCC)Z"⟩, prog_1_method_26_code, 7, (Option.some Jvm.ClassFile.FieldType.boolean), none)) (fun _ => (⟨"Callerhall", "whom", "()I"⟩, prog_1_method_25_code, 1, (Option.some Jvm.ClassFile.FieldType.int), none)) (Nat.ble k 109) k) (fun _ => (⟨"Callerhall", "why", "()C"⟩, prog_1_method_24_code, 1, (Option.some Jvm.ClassFile.FieldType.char), none)) (Nat.ble k 108) k) (fun k => @Bool.rec (fun _ => Nat → ex_I) (fun k => @Bool.rec (fun _ => Nat → ex_I) (fun _ => (⟨"Callerhall", "left", "()I"⟩, prog_1_method_23_code, 1, (Option.some Jvm.ClassFile.FieldType.int), none)) (fun _ => (⟨"Callerhall", "finish", "()I"⟩, prog_1_method_22_code, 2, (Option.some Jvm.ClassFile.FieldType.int), none)) (Nat.ble k 106) k) (fun _ => (⟨"Callerhall", "dance", "(CCCII)I"⟩, prog_1_method_21_code, 10, (Option.some Jvm.ClassFile.FieldType.int), none)) (Nat.ble k 105) k) (Nat.ble k 107) k) (Nat.ble k 110) k) (Nat.ble k 117) k) (Nat.ble k 130) k) (Nat.ble k 156) k) (fun k => @Bool.rec (fun _ => Nat → ex_I) (fun k => @Bool.rec (fun _ => Nat → ex_I) (fun k => @Bool.rec (fun _ => Nat → ex_I) (fun k => @Bool.rec (fun _ => Nat → ex_I) (fun k => @Bool.rec (fun _ => Nat → ex_I) (fun k => @Bool.rec (fun _ => Nat → ex_I) (fun k => @Bool.rec (fun _ => Nat → ex_I) (fun _ => (⟨"Callerhall", "parts", "(C)I"⟩, prog_1_method_18_code, 2, (Option.some Jvm.ClassFile.FieldType.int), none)) (fun _ => (⟨"Callerhall", "define", "(CICCC)I"⟩, prog_1_method_15_code, 10, (Option.some Jvm.ClassFile.FieldType.int), none)) (Nat.ble k 103) k) (fun k => @Bool.rec (fun _ => Nat → ex_I) (fun _ => (⟨"Callerhall", "skill", "(II)I"⟩, prog_1_method_10_code, 4, (Option.some Jvm.ClassFile.FieldType.int), none)) (fun _ => (⟨"Callerhall", "find", "(II)I"⟩, prog_1_method_9_code, 4, (Option.some Jvm.ClassFile.FieldType.int), none)) (Nat.ble k 101) k) (Nat.ble k 102) k) (fun k => @Bool.rec (fun _ => Nat → ex_I) (fun k => @Bool.rec (fun _ => Nat → ex_I) (fun _ => (⟨"Callerhall", "turnAll", "(I)I"⟩, prog_1_method_8_code, 5, (Option.some Jvm.ClassFile.FieldType.int), none)) (fun _ => (⟨"Callerhall", "change", "(II)I"⟩, prog_1_method_7_code, 7, (Option.some Jvm.ClassFile.FieldType.int), none)) (Nat.ble k 99) k) (fun _ => (⟨"Callerhall", "put", "(IIII)I"⟩, prog_1_method_6_code, 7, (Option.some Jvm.ClassFile.FieldType.int), none)) (Nat.ble k 98) k) (Nat.ble k 100) k) (fun k => @Bool.rec (fun _ => Nat → ex_I) (fun k => @Bool.rec (fun _ => Nat → ex_I) (fun k => @Bool.rec (fun _ => Nat → ex_I) (fun _ => (⟨"Callerhall", "facing", "(I)I"⟩, prog_1_method_5_code, 2, (Option.some Jvm.ClassFile.FieldType.int), none)) (fun _ => (⟨"Callerhall", "y", "(I)I"⟩, prog_1_method_4_code, 2, (Option.some Jvm.ClassFile.FieldType.int), none)) (Nat.ble k 96) k) (fun k => @Bool.rec (fun _ => Nat → ex_I) (fun _ => (⟨"Callerhall", "x", "(I)I"⟩, prog_1_method_3_code, 2, (Option.some Jvm.ClassFile.FieldType.int), none)) (fun _ => (⟨"Callerhall", "home", "()I"⟩, prog_1_method_2_code, 2, (Option.some Jvm.ClassFile.FieldType.int), none)) (Nat.ble k 94) k) (Nat.ble k 95) k) (fun k => @Bool.rec (fun _ => Nat → ex_I) (fun k => @Bool.rec (fun _ => Nat → ex_I) (fun _ => (⟨"Callerhall", "<init>", "()V"⟩, prog_1_method_1_code, 2, (Option.none : Option Jvm.ClassFile.FieldType), none)) (fun _ => (⟨"Callerhall$Tally", "<init>", "()V"⟩, prog_12_method_1_code, 1, (Option.none : Option Jvm.ClassFile.FieldType), none)) (Nat.ble k 92) k) (fun _ => (⟨"Callerhall$Steps", "stepPair", "(LCallerhall$Floor;II)V"⟩, prog_11_method_25_code, 8, (Option.none : Option Jvm.ClassFile.FieldType), none)) (Nat.ble k 91) k) (Nat.ble k 93) k) (Nat.ble k 97) k) (fun k => @Bool.rec (fun _ => Nat → ex_I) (fun k => @Bool.rec (fun _ => Nat → ex_I) (fun k => @Bool.rec (fun _ => Nat → ex_I) (fun k => @Bool.rec (fun _ => Nat → ex_I) (fun _ => (⟨"Callerhall$Steps", "isInBox", "(LCallerhall$Floor;II)Z"⟩, prog_11_method_24_code, 7, (Option.some Jvm.ClassFile.FieldType.boolean), none)) (fun _ => (⟨"Callerhall$Steps", "stepInBox", "(LCallerhall$Floor;I)V"⟩, prog_11_method_23_code, 3, (Option.none : Option Jvm.ClassFile.FieldType), none)) (Nat.ble k 89) k) (fun k => @Bool.rec (fun _ => Nat → ex_I) (fun _ => (⟨"Callerhall$Steps", "stepFacing", "(LCallerhall$Floor;II)V"⟩, prog_11_method_22_code, 4, (Option.none : Option Jvm.ClassFile.FieldType), none)) (fun _ => (⟨"Callerhall$Steps", "stepAlone", "(LCallerhall$Floor;II)V"⟩, prog_11_method_21_code, 4, (Option.none : Option Jvm.ClassFile.FieldType), none)) (Nat.ble k 87) k) (Nat.ble k 88) k) (fun k => @Bool.rec (fun _ => Nat → ex_I) (fun k => @Bool.rec (fun _ => Nat → ex_I) (fun _ => (⟨"Callerhall$Steps", "step", "(LCallerhall$Floor;II)V"⟩, prog_11_method_20_code, 5, (Option.none : Option Jvm.ClassFile.FieldType), none)) (fun _ => (⟨"Callerhall$Steps", "takeHands", "(LCallerhall$Floor;I)V"⟩, prog_11_method_19_code, 4, (Option.none : Option Jvm.ClassFile.FieldType), none)) (Nat.ble k 85) k) (fun _ => (⟨"Callerhall$Steps", "hasItsOwn", "(II)Z"⟩, prog_11_method_18_code, 4, (Option.some Jvm.ClassFile.FieldType.boolean), none)) (Nat.ble k 84) k) (Nat.ble k 86) k) (fun k => @Bool.rec (fun _ => Nat → ex_I) (fun k => @Bool.rec (fun _ => Nat → ex_I) (fun k => @Bool.rec (fun _ => Nat → ex_I) (fun _ => (⟨"Callerhall$Steps", "findMisfit", "(LCallerhall$Floor;I)I"⟩, prog_11_method_17_code, 5, (Option.some Jvm.ClassFile.FieldType.int), none)) (fun _ => (⟨"Callerhall$Steps", "putInBox", "(LCallerhall$Floor;II)V"⟩, prog_11_method_16_code, 4, (Option.none : Option Jvm.ClassFile.FieldType), none)) (Nat.ble k 82) k) (fun _ => (⟨"Callerhall$Steps", "findCorner", "(LCallerhall$Floor;III)I"⟩, prog_11_method_15_code, 7, (Option.some Jvm.ClassFile.FieldType.int), none)) (Nat.ble k 81) k) (fun k => @Bool.rec (fun _ => Nat → ex_I) (fun k => @Bool.rec (fun _ => Nat → ex_I) (fun _ => (⟨"Callerhall$Steps", "isFree", "(I)Z"⟩, prog_11_method_14_code, 2, (Option.some Jvm.ClassFile.FieldType.boolean), none)) (fun _ => (⟨"Callerhall$Steps", "findBoxes", "(LCallerhall$Floor;)V"⟩, prog_11_method_13_code, 7, (Option.none : Option Jvm.ClassFile.FieldType), none)) (Nat.ble k 79) k) (fun _ => (⟨"Callerhall$Steps", "findColumns", "(LCallerhall$Floor;)V"⟩, prog_11_method_12_code, 9, (Option.none : Option Jvm.ClassFile.FieldType), none)) (Nat.ble k 78) k) (Nat.ble k 80) k) (Nat.ble k 83) k) (Nat.ble k 90) k) (fun k => @Bool.rec (fun _ => Nat → ex_I) (fun k => @Bool.rec (fun _ => Nat → ex_I) (fun k => @Bool.rec (fun _ => Nat → ex_I) (fun k => @Bool.rec (fun _ => Nat → ex_I) (fun k => @Bool.rec (fun _ => Nat → ex_I) (fun _ => (⟨"Callerhall$Steps", "pairForUnits", "(LCallerhall$Floor;Z)V"⟩, prog_11_method_11_code, 3, (Option.none : Option Jvm.ClassFile.FieldType), none)) (fun _ => (⟨"Callerhall$Steps", "findBeside", "(LCallerhall$Floor;IZ)I"⟩, prog_11_method_10_code, 9, (Option.some Jvm.ClassFile.FieldType.int), none)) (Nat.ble k 76) k) (fun k => @Bool.rec (fun _ => Nat → ex_I) (fun _ => (⟨"Callerhall$Steps", "findRows", "(LCallerhall$Floor;Z)V"⟩, prog_11_method_9_code, 6, (Option.none : Option Jvm.ClassFile.FieldType), none)) (fun _ => (⟨"Callerhall$Steps", "findFaces", "(LCallerhall$Floor;)V"⟩, prog_11_method_8_code, 8, (Option.none : Option Jvm.ClassFile.FieldType), none)) (Nat.ble k 74) k) (Nat.ble k 75) k) (fun k => @Bool.rec (fun _ => Nat → ex_I) (fun k => @Bool.rec (fun _ => Nat → ex_I) (fun _ => (⟨"Callerhall$Steps", "isAheadInOrder", "(LCallerhall$Floor;II)Z"⟩, prog_11_method_7_code, 4, (Option.some Jvm.ClassFile.FieldType.boolean), none)) (fun _ => (⟨"Callerhall$Steps", "begin", "(LCallerhall$Floor;)V"⟩, prog_11_method_6_code, 6, (Option.none : Option Jvm.ClassFile.FieldType), none)) (Nat.ble k 72) k) (fun _ => (⟨"Callerhall$Steps", "ready", "(LCallerhall$Floor;I)V"⟩, prog_11_method_5_code, 4, (Option.none : Option Jvm.ClassFile.FieldType), none)) (Nat.ble k 71) k) (Nat.ble k 73) k) (fun k => @Bool.rec (fun _ => Nat → ex_I) (fun k => @Bool.rec (fun _ => Nat → ex_I) (fun k => @Bool.rec (fun _ => Nat → ex_I) (fun _ => (⟨"Callerhall$Steps", "nearnessOf", "(LCallerhall$Floor;I)I"⟩, prog_11_method_4_code, 9, (Option.some Jvm.ClassFile.FieldType.int), none)) (fun _ => (⟨"Callerhall$Steps", "tell", "(LCallerhall$Floor;I)Z"⟩, prog_11_method_3_code, 8, (Option.some Jvm.ClassFile.FieldType.boolean), none)) (Nat.ble k 69) k) (fun _ => (⟨"Callerhall$Steps", "space", "(IZZ)V"⟩, prog_11_method_2_code, 4, (Option.none : Option Jvm.ClassFile.FieldType), none)) (Nat.ble k 68) k) (fun k => @Bool.rec (fun _ => Nat → ex_I) (fun k => @Bool.rec (fun _ => Nat → ex_I) (fun _ => (⟨"Callerhall$Steps", "<init>", "()V"⟩, prog_11_method_1_code, 1, (Option.none : Option Jvm.ClassFile.FieldType), none)) (fun _ => (⟨"Callerhall$Stage", "spreadUnits", "(LCallerhall$Floor;LCallerhall$Floor;Z)V"⟩, prog_10_method_10_code, 6, (Option.none : Option Jvm.ClassFile.FieldType), none)) (Nat.ble k 66) k) (fun _ => (⟨"Callerhall$Stage", "makeUnits", "(LCallerhall$Floor;LCallerhall$Floor;Z)Z"⟩, prog_10_method_9_code, 9, (Option.some Jvm.ClassFile.FieldType.boolean), none)) (Nat.ble k 65) k) (Nat.ble k 67) k) (Nat.ble k 70) k) (fun k => @Bool.rec (fun _ => Nat → ex_I) (fun k => @Bool.rec (fun _ => Nat → ex_I) (fun k => @Bool.rec (fun _ => Nat → ex_I) (fun k => @Bool.rec (fun _ => Nat → ex_I) (fun _ => (⟨"Callerhall$Stage", "leave", "(I)V"⟩, prog_10_method_8_code, 3, (Option.none : Option Jvm.ClassFile.FieldType), none)) (fun _ => (⟨"Callerhall$Stage", "begin", "(LCallerhall$Floor;LCallerhall$Plan;I)V"⟩, prog_10_method_7_code, 6, (Option.none : Option Jvm.ClassFile.FieldType), none)) (Nat.ble k 63) k) (fun k => @Bool.rec (fun _ => Nat → ex_I) (fun _ => (⟨"Callerhall$Stage", "enter", "(I)V"⟩, prog_10_method_6_code, 2, (Option.none : Option Jvm.ClassFile.FieldType), none)) (fun _ => (⟨"Callerhall$Stage", "floorAt", "(I)LCallerhall$Floor;"⟩, prog_10_method_5_code, 2, (Option.some (Jvm.ClassFile.FieldType.object "Callerhall$Floor")), none)) (Nat.ble k 61) k) (Nat.ble k 62) k) (fun k => @Bool.rec (fun _ => Nat → ex_I) (fun k => @Bool.rec (fun _ => Nat → ex_I) (fun _ => (⟨"Callerhall$Stage", "refuse", "(CI)V"⟩, prog_10_method_4_code, 3, (Option.none : Option Jvm.ClassFile.FieldType), none)) (fun _ => (⟨"Callerhall$Stage", "run", "(LCallerhall$Plan;II)C"⟩, prog_10_method_3_code, 11, (Option.some Jvm.ClassFile.FieldType.char), none)) (Nat.ble k 59) k) (fun _ => (⟨"Callerhall$Stage", "load", "(LCallerhall$Places;[I)V"⟩, prog_10_method_2_code, 3, (Option.none : Option Jvm.ClassFile.FieldType), none)) (Nat.ble k 58) k) (Nat.ble k 60) k) (fun k => @Bool.rec (fun _ => Nat → ex_I) (fun k => @Bool.rec (fun _ => Nat → ex_I) (fun k => @Bool.rec (fun _ => Nat → ex_I) (fun _ => (⟨"Callerhall$Stage", "<init>", "(LCallerhall$Places;)V"⟩, prog_10_method_1_code, 2, (Option.none : Option Jvm.ClassFile.FieldType), none)) (fun _ => (⟨"Callerhall$Song", "count", "(I)V"⟩, prog_9_method_3_code, 2, (Option.none : Option Jvm.ClassFile.FieldType), none)) (Nat.ble k 56) k) (fun _ => (⟨"Callerhall$Song", "begin", "(I)V"⟩, prog_9_method_2_code, 2, (Option.none : Option Jvm.ClassFile.FieldType), none)) (Nat.ble k 55) k) (fun k => @Bool.rec (fun _ => Nat → ex_I) (fun k => @Bool.rec (fun _ => Nat → ex_I) (fun _ => (⟨"Callerhall$Song", "<init>", "()V"⟩, prog_9_method_1_code, 1, (Option.none : Option Jvm.ClassFile.FieldType), none)) (fun _ => (⟨"Callerhall$Plan", "beatsUpTo", "(I)I"⟩, prog_8_method_9_code, 2, (Option.some Jvm.ClassFile.FieldType.int), none)) (Nat.ble k 53) k) (fun _ => (⟨"Callerhall$Plan", "innerAt", "(I)I"⟩, prog_8_method_8_code, 2, (Option.some Jvm.ClassFile.FieldType.int), none)) (Nat.ble k 52) k) (Nat.ble k 54) k) (Nat.ble k 57) k) (Nat.ble k 64) k) (Nat.ble k 77) k) (fun k => @Bool.rec (fun _ => Nat → ex_I) (fun k => @Bool.rec (fun _ => Nat → ex_I) (fun k => @Bool.rec (fun _ => Nat → ex_I) (fun k => @Bool.rec (fun _ => Nat → ex_I) (fun k => @Bool.rec (fun _ => Nat → ex_I) (fun k => @Bool.rec (fun _ => Nat → ex_I) (fun _ => (⟨"Callerhall$Plan", "copy", "(LCallerhall$Plan;I)V"⟩, prog_8_method_7_code, 4, (Option.none : Option Jvm.ClassFile.FieldType), none)) (fun _ => (⟨"Callerhall$Plan", "readVersion", "(LCallerhall$Book;I)V"⟩, prog_8_method_6_code, 4, (Option.none : Option Jvm.ClassFile.FieldType), none)) (Nat.ble k 50) k) (fun k => @Bool.rec (fun _ => Nat → ex_I) (fun _ => (⟨"Callerhall$Plan", "putOn", "(II)V"⟩, prog_8_method_5_code, 3, (Option.none : Option Jvm.ClassFile.FieldType), none)) (fun _ => (⟨"Callerhall$Plan", "readAct", "(I)V"⟩, prog_8_method_4_code, 2, (Option.none : Option Jvm.ClassFile.FieldType), none)) (Nat.ble k 48) k) (Nat.ble k 49) k) (fun k => @Bool.rec (fun _ => Nat → ex_I) (fun k => @Bool.rec (fun _ => Nat → ex_I) (fun _ => (⟨"Callerhall$Plan", "append", "(III)V"⟩, prog_8_method_3_code, 4, (Option.none : Option Jvm.ClassFile.FieldType), none)) (fun _ => (⟨"Callerhall$Plan", "clear", "()V"⟩, prog_8_method_2_code, 1, (Option.none : Option Jvm.ClassFile.FieldType), none)) (Nat.ble k 46) k) (fun _ => (⟨"Callerhall$Plan", "<init>", "()V"⟩, prog_8_method_1_code, 1, (Option.none : Option Jvm.ClassFile.FieldType), none)) (Nat.ble k 45) k) (Nat.ble k 47) k) (fun k => @Bool.rec (fun _ => Nat → ex_I) (fun k => @Bool.rec (fun _ => Nat → ex_I) (fun k => @Bool.rec (fun _ => Nat → ex_I) (fun _ => (⟨"Callerhall$Places", "isAt", "(ILCallerhall$Floor;)Z"⟩, prog_7_method_5_code, 3, (Option.some Jvm.ClassFile.FieldType.boolean), none)) (fun _ => (⟨"Callerhall$Places", "read", "(LCallerhall$Floor;)V"⟩, prog_7_method_4_code, 3, (Option.none : Option Jvm.ClassFile.FieldType), none)) (Nat.ble k 43) k) (fun _ => (⟨"Callerhall$Places", "indexAt", "(II)I"⟩, prog_7_method_3_code, 4, (Option.some Jvm.ClassFile.FieldType.int), none)) (Nat.ble k 42) k) (fun k => @Bool.rec (fun _ => Nat → ex_I) (fun k => @Bool.rec (fun _ => Nat → ex_I) (fun _ => (⟨"Callerhall$Places", "tell", "(IIII)V"⟩, prog_7_method_2_code, 5, (Option.none : Option Jvm.ClassFile.FieldType), none)) (fun _ => (⟨"Callerhall$Places", "<init>", "()V"⟩, prog_7_method_1_code, 1, (Option.none : Option Jvm.ClassFile.FieldType), none)) (Nat.ble k 40) k) (fun _ => (⟨"Callerhall$Past", "letterAt", "(I)C"⟩, prog_6_method_5_code, 2, (Option.some Jvm.ClassFile.FieldType.char), none)) (Nat.ble k 39) k) (Nat.ble k 41) k) (Nat.ble k 44) k) (fun k => @Bool.rec (fun _ => Nat → ex_I) (fun k => @Bool.rec (fun _ => Nat → ex_I) (fun k => @Bool.rec (fun _ => Nat → ex_I) (fun k => @Bool.rec (fun _ => Nat → ex_I) (fun _ => (⟨"Callerhall$Past", "drop", "()V"⟩, prog_6_method_4_code, 1, (Option.none : Option Jvm.ClassFile.FieldType), none)) (fun _ => (⟨"Callerhall$Past", "readLast", "(LCallerhall$Places;)V"⟩, prog_6_method_3_code, 4, (Option.none : Option Jvm.ClassFile.FieldType), none)) (Nat.ble k 37) k) (fun k => @Bool.rec (fun _ => Nat → ex_I) (fun _ => (⟨"Callerhall$Past", "keep", "(LCallerhall$Places;C)V"⟩, prog_6_method_2_code, 5, (Option.none : Option Jvm.ClassFile.FieldType), none)) (fun _ => (⟨"Callerhall$Past", "<init>", "()V"⟩, prog_6_method_1_code, 1, (Option.none : Option Jvm.ClassFile.FieldType), none)) (Nat.ble k 35) k) (Nat.ble k 36) k) (fun k => @Bool.rec (fun _ => Nat → ex_I) (fun k => @Bool.rec (fun _ => Nat → ex_I) (fun _ => (⟨"Callerhall$Party", "isCounted", "()Z"⟩, prog_5_method_7_code, 5, (Option.some Jvm.ClassFile.FieldType.boolean), none)) (fun _ => (⟨"Callerhall$Party", "meet", "([III)V"⟩, prog_5_method_6_code, 5, (Option.none : Option Jvm.ClassFile.FieldType), none)) (Nat.ble k 33) k) (fun _ => (⟨"Callerhall$Party", "countMet", "([III)I"⟩, prog_5_method_5_code, 6, (Option.some Jvm.ClassFile.FieldType.int), none)) (Nat.ble k 32) k) (Nat.ble k 34) k) (fun k => @Bool.rec (fun _ => Nat → ex_I) (fun k => @Bool.rec (fun _ => Nat → ex_I) (fun k => @Bool.rec (fun _ => Nat → ex_I) (fun _ => (⟨"Callerhall$Party", "choose", "([II)I"⟩, prog_5_method_4_code, 7, (Option.some Jvm.ClassFile.FieldType.int), none)) (fun _ => (⟨"Callerhall$Party", "fillTip", "()I"⟩, prog_5_method_3_code, 6, (Option.some Jvm.ClassFile.FieldType.int), none)) (Nat.ble k 30) k) (fun _ => (⟨"Callerhall$Party", "open", "(I)V"⟩, prog_5_method_2_code, 4, (Option.none : Option Jvm.ClassFile.FieldType), none)) (Nat.ble k 29) k) (fun k => @Bool.rec (fun _ => Nat → ex_I) (fun k => @Bool.rec (fun _ => Nat → ex_I) (fun _ => (⟨"Callerhall$Party", "<init>", "()V"⟩, prog_5_method_1_code, 1, (Option.none : Option Jvm.ClassFile.FieldType), none)) (fun _ => (⟨"Callerhall$Flow", "count", "(LCallerhall$Floor;)V"⟩, prog_4_method_3_code, 4, (Option.none : Option Jvm.ClassFile.FieldType), none)) (Nat.ble k 27) k) (fun _ => (⟨"Callerhall$Flow", "clear", "()V"⟩, prog_4_method_2_code, 2, (Option.none : Option Jvm.ClassFile.FieldType), none)) (Nat.ble k 26) k) (Nat.ble k 28) k) (Nat.ble k 31) k) (Nat.ble k 38) k) (fun k => @Bool.rec (fun _ => Nat → ex_I) (fun k => @Bool.rec (fun _ => Nat → ex_I) (fun k => @Bool.rec (fun _ => Nat → ex_I) (fun k => @Bool.rec (fun _ => Nat → ex_I) (fun k => @Bool.rec (fun _ => Nat → ex_I) (fun _ => (⟨"Callerhall$Flow", "<init>", "()V"⟩, prog_4_method_1_code, 1, (Option.none : Option Jvm.ClassFile.FieldType), none)) (fun _ => (⟨"Callerhall$Floor", "settle", "(LCallerhall$Floor;IIIII)V"⟩, prog_3_method_20_code, 7, (Option.none : Option Jvm.ClassFile.FieldType), none)) (Nat.ble k 24) k) (fun k => @Bool.rec (fun _ => Nat → ex_I) (fun _ => (⟨"Callerhall$Floor", "spread", "(LCallerhall$Floor;ZZ)V"⟩, prog_3_method_19_code, 8, (Option.none : Option Jvm.ClassFile.FieldType), none)) (fun _ => (⟨"Callerhall$Floor", "countWith", "(I)I"⟩, prog_3_method_18_code, 4, (Option.some Jvm.ClassFile.FieldType.int), none)) (Nat.ble k 22) k) (Nat.ble k 23) k) (fun k => @Bool.rec (fun _ => Nat → ex_I) (fun k => @Bool.rec (fun _ => Nat → ex_I) (fun _ => (⟨"Callerhall$Floor", "hasMoved", "(I)Z"⟩, prog_3_method_17_code, 2, (Option.some Jvm.ClassFile.FieldType.boolean), none)) (fun _ => (⟨"Callerhall$Floor", "isPassing", "(I)Z"⟩, prog_3_method_16_code, 5, (Option.some Jvm.ClassFile.FieldType.boolean), none)) (Nat.ble k 20) k) (fun _ => (⟨"Callerhall$Floor", "collide", "()I"⟩, prog_3_method_15_code, 3, (Option.some Jvm.ClassFile.FieldType.int), none)) (Nat.ble k 19) k) (Nat.ble k 21) k) (fun k => @Bool.rec (fun _ => Nat → ex_I) (fun k => @Bool.rec (fun _ => Nat → ex_I) (fun k => @Bool.rec (fun _ => Nat → ex_I) (fun _ => (⟨"Callerhall$Floor", "takeHand", "(II)V"⟩, prog_3_method_14_code, 3, (Option.none : Option Jvm.ClassFile.FieldType), none)) (fun _ => (⟨"Callerhall$Floor", "trade", "(II)V"⟩, prog_3_method_13_code, 5, (Option.none : Option Jvm.ClassFile.FieldType), none)) (Nat.ble k 17) k) (fun _ => (⟨"Callerhall$Floor", "carry", "(IIII)V"⟩, prog_3_method_12_code, 7, (Option.none : Option Jvm.ClassFile.FieldType), none)) (Nat.ble k 16) k) (fun k => @Bool.rec (fun _ => Nat → ex_I) (fun k => @Bool.rec (fun _ => Nat → ex_I) (fun _ => (⟨"Callerhall$Floor", "turnBy", "(II)V"⟩, prog_3_method_11_code, 3, (Option.none : Option Jvm.ClassFile.FieldType), none)) (fun _ => (⟨"Callerhall$Floor", "go", "(III)V"⟩, prog_3_method_10_code, 5, (Option.none : Option Jvm.ClassFile.FieldType), none)) (Nat.ble k 14) k) (fun _ => (⟨"Callerhall$Floor", "mark", "()V"⟩, prog_3_method_9_code, 2, (Option.none : Option Jvm.ClassFile.FieldType), none)) (Nat.ble k 13) k) (Nat.ble k 15) k) (Nat.ble k 18) k) (fun k => @Bool.rec (fun _ => Nat → ex_I) (fun k => @Bool.rec (fun _ => Nat → ex_I) (fun k => @Bool.rec (fun _ => Nat → ex_I) (fun k => @Bool.rec (fun _ => Nat → ex_I) (fun _ => (⟨"Callerhall$Floor", "isToward", "(III)Z"⟩, prog_3_method_8_code, 5, (Option.some Jvm.ClassFile.FieldType.boolean), none)) (fun _ => (⟨"Callerhall$Floor", "bitOf", "(I)I"⟩, prog_3_method_7_code, 1, (Option.some Jvm.ClassFile.FieldType.int), none)) (Nat.ble k 11) k) (fun k => @Bool.rec (fun _ => Nat → ex_I) (fun _ => (⟨"Callerhall$Floor", "addUnit", "(LCallerhall$Floor;IIZ)Z"⟩, prog_3_method_6_code, 9, (Option.some Jvm.ClassFile.FieldType.boolean), none)) (fun _ => (⟨"Callerhall$Floor", "dropPhantoms", "(LCallerhall$Places;)V"⟩, prog_3_method_5_code, 2, (Option.none : Option Jvm.ClassFile.FieldType), none)) (Nat.ble k 9) k) (Nat.ble k 10) k) (fun k => @Bool.rec (fun _ => Nat → ex_I) (fun k => @Bool.rec (fun _ => Nat → ex_I) (fun _ => (⟨"Callerhall$Floor", "addPhantoms", "(LCallerhall$Places;)V"⟩, prog_3_method_4_code, 4, (Option.none : Option Jvm.ClassFile.FieldType), none)) (fun _ => (⟨"Callerhall$Floor", "addDancers", "(LCallerhall$Places;[I)V"⟩, prog_3_method_3_code, 5, (Option.none : Option Jvm.ClassFile.FieldType), none)) (Nat.ble k 7) k) (fun _ => (⟨"Callerhall$Floor", "add", "(IIIIII)V"⟩, prog_3_method_2_code, 7, (Option.none : Option Jvm.ClassFile.FieldType), none)) (Nat.ble k 6) k) (Nat.ble k 8) k) (fun k => @Bool.rec (fun _ => Nat → ex_I) (fun k => @Bool.rec (fun _ => Nat → ex_I) (fun k => @Bool.rec (fun _ => Nat → ex_I) (fun _ => (⟨"Callerhall$Floor", "<init>", "()V"⟩, prog_3_method_1_code, 1, (Option.none : Option Jvm.ClassFile.FieldType), none)) (fun _ => (⟨"Callerhall$Book", "add", "(IIIII)I"⟩, prog_2_method_5_code, 8, (Option.some Jvm.ClassFile.FieldType.int), none)) (Nat.ble k 4) k) (fun _ => (⟨"Callerhall$Book", "canAdd", "(II)Z"⟩, prog_2_method_4_code, 4, (Option.some Jvm.ClassFile.FieldType.boolean), none)) (Nat.ble k 3) k) (fun k => @Bool.rec (fun _ => Nat → ex_I) (fun k => @Bool.rec (fun _ => Nat → ex_I) (fun _ => (⟨"Callerhall$Book", "holding", "(II)I"⟩, prog_2_method_3_code, 6, (Option.some Jvm.ClassFile.FieldType.int), none)) (fun _ => (⟨"Callerhall$Book", "versionOf", "(II)I"⟩, prog_2_method_2_code, 5, (Option.some Jvm.ClassFile.FieldType.int), none)) (Nat.ble k 1) k) (fun _ => (⟨"Callerhall$Book", "<init>", "()V"⟩, prog_2_method_1_code, 1, (Option.none : Option Jvm.ClassFile.FieldType), none)) (Nat.ble k 0) k) (Nat.ble k 2) k) (Nat.ble k 5) k) (Nat.ble k 12) k) (Nat.ble k 25) k) (Nat.ble k 51) k) (Nat.ble k 104) k
def ex_Xc : ex_X := ([("java/lang/IndexOutOfBoundsException", "java/lang/IllegalArgumentException"), ("java/lang/IndexOutOfBoundsException", "java/lang/UnsupportedOperationException"), ("java/lang/IndexOutOfBoundsException", "java/util/NoSuchElementException"), ("java/lang/IndexOutOfBoundsException", "java/lang/IllegalStateException"), ("java/lang/IndexOutOfBoundsException", "java/lang/ArithmeticException"), ("java/lang/IllegalArgumentException", "java/lang/IndexOutOfBoundsException"), ("java/lang/IllegalArgumentException", "java/lang/UnsupportedOperationException"), ("java/lang/IllegalArgumentException", "java/util/NoSuchElementException"), ("java/lang/IllegalArgumentException", "java/lang/IllegalStateException"), ("java/lang/IllegalArgumentException", "java/lang/ArithmeticException"), ("java/lang/UnsupportedOperationException", "java/lang/IndexOutOfBoundsException"), ("java/lang/UnsupportedOperationException", "java/lang/IllegalArgumentException"), ("java/lang/UnsupportedOperationException", "java/util/NoSuchElementException"), ("java/lang/UnsupportedOperationException", "java/lang/IllegalStateException"), ("java/lang/UnsupportedOperationException", "java/lang/ArithmeticException"), ("java/util/NoSuchElementException", "java/lang/IndexOutOfBoundsException"), ("java/util/NoSuchElementException", "java/lang/IllegalArgumentException"), ("java/util/NoSuchElementException", "java/lang/UnsupportedOperationException"), ("java/util/NoSuchElementException", "java/lang/IllegalStateException"), ("java/util/NoSuchElementException", "java/lang/ArithmeticException"), ("java/lang/IllegalStateException", "java/lang/IndexOutOfBoundsException"), ("java/lang/IllegalStateException", "java/lang/IllegalArgumentException"), ("java/lang/IllegalStateException", "java/lang/UnsupportedOperationException"), ("java/lang/IllegalStateException", "java/util/NoSuchElementException"), ("java/lang/IllegalStateException", "java/lang/ArithmeticException"), ("java/lang/ArithmeticException", "java/lang/IndexOutOfBoundsException"), ("java/lang/ArithmeticException", "java/lang/IllegalArgumentException"), ("java/lang/ArithmeticException", "java/lang/UnsupportedOperationException"), ("java/lang/ArithmeticException", "java/util/NoSuchElementException"), ("java/lang/ArithmeticException", "java/lang/IllegalStateException")], [], [(⟨"Callerhall$Floor", "add", "(IIIIII)V"⟩ : MethodName), (⟨"Callerhall$Floor", "countWith", "(I)I"⟩ : MethodName), (⟨"Callerhall$Floor", "isPassing", "(I)Z"⟩ : MethodName), (⟨"Callerhall$Floor", "hasMoved", "(I)Z"⟩ : MethodName), (⟨"Callerhall$Floor", "settle", "(LCallerhall$Floor;IIIII)V"⟩ : MethodName), (⟨"Callerhall$Party", "meet", "([III)V"⟩ : MethodName), (⟨"Callerhall$Party", "choose", "([II)I"⟩ : MethodName), (⟨"Callerhall$Party", "countMet", "([III)I"⟩ : MethodName), (⟨"Callerhall$Plan", "append", "(III)V"⟩ : MethodName), (⟨"Callerhall$Stage", "leave", "(I)V"⟩ : MethodName), (⟨"Callerhall$Stage", "refuse", "(CI)V"⟩ : MethodName), (⟨"Callerhall$Stage", "begin", "(LCallerhall$Floor;LCallerhall$Plan;I)V"⟩ : MethodName), (⟨"Callerhall$Stage", "floorAt", "(I)LCallerhall$Floor;"⟩ : MethodName), (⟨"Callerhall$Stage", "enter", "(I)V"⟩ : MethodName), (⟨"Callerhall$Stage", "makeUnits", "(LCallerhall$Floor;LCallerhall$Floor;Z)Z"⟩ : MethodName), (⟨"Callerhall$Stage", "spreadUnits", "(LCallerhall$Floor;LCallerhall$Floor;Z)V"⟩ : MethodName), (⟨"Callerhall$Steps", "nearnessOf", "(LCallerhall$Floor;I)I"⟩ : MethodName), (⟨"Callerhall$Steps", "findRows", "(LCallerhall$Floor;Z)V"⟩ : MethodName), (⟨"Callerhall$Steps", "findBoxes", "(LCallerhall$Floor;)V"⟩ : MethodName), (⟨"Callerhall$Steps", "findFaces", "(LCallerhall$Floor;)V"⟩ : MethodName), (⟨"Callerhall$Steps", "begin", "(LCallerhall$Floor;)V"⟩ : MethodName), (⟨"Callerhall$Steps", "isAheadInOrder", "(LCallerhall$Floor;II)Z"⟩ : MethodName), (⟨"Callerhall$Steps", "findBeside", "(LCallerhall$Floor;IZ)I"⟩ : MethodName), (⟨"Callerhall$Steps", "findColumns", "(LCallerhall$Floor;)V"⟩ : MethodName), (⟨"Callerhall$Steps", "putInBox", "(LCallerhall$Floor;II)V"⟩ : MethodName), (⟨"Callerhall$Steps", "isFree", "(I)Z"⟩ : MethodName), (⟨"Callerhall$Steps", "findCorner", "(LCallerhall$Floor;III)I"⟩ : MethodName), (⟨"Callerhall$Steps", "hasItsOwn", "(II)Z"⟩ : MethodName), (⟨"Callerhall$Steps", "stepPair", "(LCallerhall$Floor;II)V"⟩ : MethodName), (⟨"Callerhall$Steps", "stepInBox", "(LCallerhall$Floor;I)V"⟩ : MethodName), (⟨"Callerhall$Steps", "stepFacing", "(LCallerhall$Floor;II)V"⟩ : MethodName), (⟨"Callerhall$Steps", "stepAlone", "(LCallerhall$Floor;II)V"⟩ : MethodName), (⟨"Callerhall$Steps", "isInBox", "(LCallerhall$Floor;II)Z"⟩ : MethodName), (⟨"Callerhall", "putAllHome", "()V"⟩ : MethodName), (⟨"Callerhall", "countAway", "()I"⟩ : MethodName), (⟨"Callerhall", "checkDancer", "(I)V"⟩ : MethodName), (⟨"Callerhall", "forgetPast", "()V"⟩ : MethodName), (⟨"Callerhall", "checkPlace", "(III)V"⟩ : MethodName), (⟨"Callerhall", "checkYear", "(I)V"⟩ : MethodName), (⟨"Callerhall", "conceptOf", "(C)I"⟩ : MethodName), (⟨"Callerhall", "whoOf", "(C)I"⟩ : MethodName), (⟨"Callerhall", "actOf", "(C)I"⟩ : MethodName), (⟨"Callerhall", "letterOf", "(C)I"⟩ : MethodName), (⟨"Callerhall", "readCall", "(C)V"⟩ : MethodName), (⟨"Callerhall", "settle", "(I)V"⟩ : MethodName), (⟨"Callerhall", "judge", "(LCallerhall$Plan;ZII)V"⟩ : MethodName), (⟨"Callerhall", "pairAll", "(II)V"⟩ : MethodName), (⟨"Callerhall", "countOutside", "(I)I"⟩ : MethodName), (⟨"Callerhall", "areHome", "([I[I[I)Z"⟩ : MethodName), (⟨"Callerhall", "findLastAct", "(LCallerhall$Places;I)Z"⟩ : MethodName), (⟨"Callerhall", "checkCouple", "(I)V"⟩ : MethodName), (⟨"Callerhall", "spotOf", "(I)I"⟩ : MethodName), (⟨"Callerhall", "isDoneInParts", "(I)Z"⟩ : MethodName), (⟨"Callerhall", "indexIn", "(Ljava/lang/String;C)I"⟩ : MethodName), (⟨"Callerhall", "isInShape", "(III)Z"⟩ : MethodName)])
abbrev ex_tW (w : Cond) : Prop := w ∈ ex_TT ex_Xc.2.2
theorem ts_0 : ex_tW (Cond.selects "Callerhall$Floor" (ex_inf 6).1 (ex_inf 6).1) := ex_ts (y := (⟨"Callerhall$Floor", "add", "(IIIIII)V"⟩ : MethodName)) 0 rfl
theorem ts_1 : ex_tW (Cond.selects "Callerhall$Floor" (ex_inf 22).1 (ex_inf 22).1) := ex_ts (y := (⟨"Callerhall$Floor", "countWith", "(I)I"⟩ : MethodName)) 1 rfl
theorem ts_2 : ex_tW (Cond.selects "Callerhall$Floor" (ex_inf 20).1 (ex_inf 20).1) := ex_ts (y := (⟨"Callerhall$Floor", "isPassing", "(I)Z"⟩ : MethodName)) 2 rfl
theorem ts_3 : ex_tW (Cond.selects "Callerhall$Floor" (ex_inf 21).1 (ex_inf 21).1) := ex_ts (y := (⟨"Callerhall$Floor", "hasMoved", "(I)Z"⟩ : MethodName)) 3 rfl
theorem ts_4 : ex_tW (Cond.selects "Callerhall$Floor" (ex_inf 24).1 (ex_inf 24).1) := ex_ts (y := (⟨"Callerhall$Floor", "settle", "(LCallerhall$Floor;IIIII)V"⟩ : MethodName)) 4 rfl
theorem ts_5 : ex_tW (Cond.selects "Callerhall$Party" (ex_inf 33).1 (ex_inf 33).1) := ex_ts (y := (⟨"Callerhall$Party", "meet", "([III)V"⟩ : MethodName)) 5 rfl
theorem ts_6 : ex_tW (Cond.selects "Callerhall$Party" (ex_inf 31).1 (ex_inf 31).1) := ex_ts (y := (⟨"Callerhall$Party", "choose", "([II)I"⟩ : MethodName)) 6 rfl
theorem ts_7 : ex_tW (Cond.selects "Callerhall$Party" (ex_inf 32).1 (ex_inf 32).1) := ex_ts (y := (⟨"Callerhall$Party", "countMet", "([III)I"⟩ : MethodName)) 7 rfl
theorem ts_8 : ex_tW (Cond.selects "Callerhall$Plan" (ex_inf 47).1 (ex_inf 47).1) := ex_ts (y := (⟨"Callerhall$Plan", "append", "(III)V"⟩ : MethodName)) 8 rfl
theorem ts_9 : ex_tW (Cond.selects "Callerhall$Stage" (ex_inf 64).1 (ex_inf 64).1) := ex_ts (y := (⟨"Callerhall$Stage", "leave", "(I)V"⟩ : MethodName)) 9 rfl
theorem ts_10 : ex_tW (Cond.selects "Callerhall$Stage" (ex_inf 60).1 (ex_inf 60).1) := ex_ts (y := (⟨"Callerhall$Stage", "refuse", "(CI)V"⟩ : MethodName)) 10 rfl
theorem ts_11 : ex_tW (Cond.selects "Callerhall$Stage" (ex_inf 63).1 (ex_inf 63).1) := ex_ts (y := (⟨"Callerhall$Stage", "begin", "(LCallerhall$Floor;LCallerhall$Plan;I)V"⟩ : MethodName)) 11 rfl
theorem ts_12 : ex_tW (Cond.selects "Callerhall$Stage" (ex_inf 61).1 (ex_inf 61).1) := ex_ts (y := (⟨"Callerhall$Stage", "floorAt", "(I)LCallerhall$Floor;"⟩ : MethodName)) 12 rfl
theorem ts_13 : ex_tW (Cond.selects "Callerhall$Stage" (ex_inf 62).1 (ex_inf 62).1) := ex_ts (y := (⟨"Callerhall$Stage", "enter", "(I)V"⟩ : MethodName)) 13 rfl
theorem ts_14 : ex_tW (Cond.selects "Callerhall$Stage" (ex_inf 65).1 (ex_inf 65).1) := ex_ts (y := (⟨"Callerhall$Stage", "makeUnits", "(LCallerhall$Floor;LCallerhall$Floor;Z)Z"⟩ : MethodName)) 14 rfl
theorem ts_15 : ex_tW (Cond.selects "Callerhall$Stage" (ex_inf 66).1 (ex_inf 66).1) := ex_ts (y := (⟨"Callerhall$Stage", "spreadUnits", "(LCallerhall$Floor;LCallerhall$Floor;Z)V"⟩ : MethodName)) 15 rfl
theorem ts_16 : ex_tW (Cond.selects "Callerhall$Steps" (ex_inf 70).1 (ex_inf 70).1) := ex_ts (y := (⟨"Callerhall$Steps", "nearnessOf", "(LCallerhall$Floor;I)I"⟩ : MethodName)) 16 rfl
theorem ts_17 : ex_tW (Cond.selects "Callerhall$Steps" (ex_inf 75).1 (ex_inf 75).1) := ex_ts (y := (⟨"Callerhall$Steps", "findRows", "(LCallerhall$Floor;Z)V"⟩ : MethodName)) 17 rfl
theorem ts_18 : ex_tW (Cond.selects "Callerhall$Steps" (ex_inf 79).1 (ex_inf 79).1) := ex_ts (y := (⟨"Callerhall$Steps", "findBoxes", "(LCallerhall$Floor;)V"⟩ : MethodName)) 18 rfl
theorem ts_19 : ex_tW (Cond.selects "Callerhall$Steps" (ex_inf 74).1 (ex_inf 74).1) := ex_ts (y := (⟨"Callerhall$Steps", "findFaces", "(LCallerhall$Floor;)V"⟩ : MethodName)) 19 rfl
theorem ts_20 : ex_tW (Cond.selects "Callerhall$Steps" (ex_inf 72).1 (ex_inf 72).1) := ex_ts (y := (⟨"Callerhall$Steps", "begin", "(LCallerhall$Floor;)V"⟩ : MethodName)) 20 rfl
theorem ts_21 : ex_tW (Cond.selects "Callerhall$Steps" (ex_inf 73).1 (ex_inf 73).1) := ex_ts (y := (⟨"Callerhall$Steps", "isAheadInOrder", "(LCallerhall$Floor;II)Z"⟩ : MethodName)) 21 rfl
theorem ts_22 : ex_tW (Cond.selects "Callerhall$Steps" (ex_inf 76).1 (ex_inf 76).1) := ex_ts (y := (⟨"Callerhall$Steps", "findBeside", "(LCallerhall$Floor;IZ)I"⟩ : MethodName)) 22 rfl
theorem ts_23 : ex_tW (Cond.selects "Callerhall$Steps" (ex_inf 78).1 (ex_inf 78).1) := ex_ts (y := (⟨"Callerhall$Steps", "findColumns", "(LCallerhall$Floor;)V"⟩ : MethodName)) 23 rfl
theorem ts_24 : ex_tW (Cond.selects "Callerhall$Steps" (ex_inf 82).1 (ex_inf 82).1) := ex_ts (y := (⟨"Callerhall$Steps", "putInBox", "(LCallerhall$Floor;II)V"⟩ : MethodName)) 24 rfl
theorem ts_25 : ex_tW (Cond.selects "Callerhall$Steps" (ex_inf 80).1 (ex_inf 80).1) := ex_ts (y := (⟨"Callerhall$Steps", "isFree", "(I)Z"⟩ : MethodName)) 25 rfl
theorem ts_26 : ex_tW (Cond.selects "Callerhall$Steps" (ex_inf 81).1 (ex_inf 81).1) := ex_ts (y := (⟨"Callerhall$Steps", "findCorner", "(LCallerhall$Floor;III)I"⟩ : MethodName)) 26 rfl
theorem ts_27 : ex_tW (Cond.selects "Callerhall$Steps" (ex_inf 84).1 (ex_inf 84).1) := ex_ts (y := (⟨"Callerhall$Steps", "hasItsOwn", "(II)Z"⟩ : MethodName)) 27 rfl
theorem ts_28 : ex_tW (Cond.selects "Callerhall$Steps" (ex_inf 91).1 (ex_inf 91).1) := ex_ts (y := (⟨"Callerhall$Steps", "stepPair", "(LCallerhall$Floor;II)V"⟩ : MethodName)) 28 rfl
theorem ts_29 : ex_tW (Cond.selects "Callerhall$Steps" (ex_inf 89).1 (ex_inf 89).1) := ex_ts (y := (⟨"Callerhall$Steps", "stepInBox", "(LCallerhall$Floor;I)V"⟩ : MethodName)) 29 rfl
theorem ts_30 : ex_tW (Cond.selects "Callerhall$Steps" (ex_inf 88).1 (ex_inf 88).1) := ex_ts (y := (⟨"Callerhall$Steps", "stepFacing", "(LCallerhall$Floor;II)V"⟩ : MethodName)) 30 rfl
theorem ts_31 : ex_tW (Cond.selects "Callerhall$Steps" (ex_inf 87).1 (ex_inf 87).1) := ex_ts (y := (⟨"Callerhall$Steps", "stepAlone", "(LCallerhall$Floor;II)V"⟩ : MethodName)) 31 rfl
theorem ts_32 : ex_tW (Cond.selects "Callerhall$Steps" (ex_inf 90).1 (ex_inf 90).1) := ex_ts (y := (⟨"Callerhall$Steps", "isInBox", "(LCallerhall$Floor;II)Z"⟩ : MethodName)) 32 rfl
theorem ts_33 : ex_tW (Cond.selects "Callerhall" (ex_inf 148).1 (ex_inf 148).1) := ex_ts (y := (⟨"Callerhall", "putAllHome", "()V"⟩ : MethodName)) 33 rfl
theorem ts_34 : ex_tW (Cond.selects "Callerhall" (ex_inf 151).1 (ex_inf 151).1) := ex_ts (y := (⟨"Callerhall", "countAway", "()I"⟩ : MethodName)) 34 rfl
theorem ts_35 : ex_tW (Cond.selects "Callerhall" (ex_inf 133).1 (ex_inf 133).1) := ex_ts (y := (⟨"Callerhall", "checkDancer", "(I)V"⟩ : MethodName)) 35 rfl
theorem ts_36 : ex_tW (Cond.selects "Callerhall" (ex_inf 149).1 (ex_inf 149).1) := ex_ts (y := (⟨"Callerhall", "forgetPast", "()V"⟩ : MethodName)) 36 rfl
theorem ts_37 : ex_tW (Cond.selects "Callerhall" (ex_inf 134).1 (ex_inf 134).1) := ex_ts (y := (⟨"Callerhall", "checkPlace", "(III)V"⟩ : MethodName)) 37 rfl
theorem ts_38 : ex_tW (Cond.selects "Callerhall" (ex_inf 135).1 (ex_inf 135).1) := ex_ts (y := (⟨"Callerhall", "checkYear", "(I)V"⟩ : MethodName)) 38 rfl
theorem ts_39 : ex_tW (Cond.selects "Callerhall" (ex_inf 140).1 (ex_inf 140).1) := ex_ts (y := (⟨"Callerhall", "conceptOf", "(C)I"⟩ : MethodName)) 39 rfl
theorem ts_40 : ex_tW (Cond.selects "Callerhall" (ex_inf 139).1 (ex_inf 139).1) := ex_ts (y := (⟨"Callerhall", "whoOf", "(C)I"⟩ : MethodName)) 40 rfl
theorem ts_41 : ex_tW (Cond.selects "Callerhall" (ex_inf 138).1 (ex_inf 138).1) := ex_ts (y := (⟨"Callerhall", "actOf", "(C)I"⟩ : MethodName)) 41 rfl
theorem ts_42 : ex_tW (Cond.selects "Callerhall" (ex_inf 137).1 (ex_inf 137).1) := ex_ts (y := (⟨"Callerhall", "letterOf", "(C)I"⟩ : MethodName)) 42 rfl
theorem ts_43 : ex_tW (Cond.selects "Callerhall" (ex_inf 142).1 (ex_inf 142).1) := ex_ts (y := (⟨"Callerhall", "readCall", "(C)V"⟩ : MethodName)) 43 rfl
theorem ts_44 : ex_tW (Cond.selects "Callerhall" (ex_inf 144).1 (ex_inf 144).1) := ex_ts (y := (⟨"Callerhall", "settle", "(I)V"⟩ : MethodName)) 44 rfl
theorem ts_45 : ex_tW (Cond.selects "Callerhall" (ex_inf 143).1 (ex_inf 143).1) := ex_ts (y := (⟨"Callerhall", "judge", "(LCallerhall$Plan;ZII)V"⟩ : MethodName)) 45 rfl
theorem ts_46 : ex_tW (Cond.selects "Callerhall" (ex_inf 145).1 (ex_inf 145).1) := ex_ts (y := (⟨"Callerhall", "pairAll", "(II)V"⟩ : MethodName)) 46 rfl
theorem ts_47 : ex_tW (Cond.selects "Callerhall" (ex_inf 153).1 (ex_inf 153).1) := ex_ts (y := (⟨"Callerhall", "countOutside", "(I)I"⟩ : MethodName)) 47 rfl
theorem ts_48 : ex_tW (Cond.selects "Callerhall" (ex_inf 152).1 (ex_inf 152).1) := ex_ts (y := (⟨"Callerhall", "areHome", "([I[I[I)Z"⟩ : MethodName)) 48 rfl
theorem ts_49 : ex_tW (Cond.selects "Callerhall" (ex_inf 146).1 (ex_inf 146).1) := ex_ts (y := (⟨"Callerhall", "findLastAct", "(LCallerhall$Places;I)Z"⟩ : MethodName)) 49 rfl
theorem ts_50 : ex_tW (Cond.selects "Callerhall" (ex_inf 136).1 (ex_inf 136).1) := ex_ts (y := (⟨"Callerhall", "checkCouple", "(I)V"⟩ : MethodName)) 50 rfl
theorem ts_51 : ex_tW (Cond.selects "Callerhall" (ex_inf 150).1 (ex_inf 150).1) := ex_ts (y := (⟨"Callerhall", "spotOf", "(I)I"⟩ : MethodName)) 51 rfl
theorem ts_52 : ex_tW (Cond.selects "Callerhall" (ex_inf 147).1 (ex_inf 147).1) := ex_ts (y := (⟨"Callerhall", "isDoneInParts", "(I)Z"⟩ : MethodName)) 52 rfl
theorem ts_53 : ex_tW (Cond.selects "Callerhall" (ex_inf 141).1 (ex_inf 141).1) := ex_ts (y := (⟨"Callerhall", "indexIn", "(Ljava/lang/String;C)I"⟩ : MethodName)) 53 rfl
theorem ts_54 : ex_tW (Cond.selects "Callerhall" (ex_inf 154).1 (ex_inf 154).1) := ex_ts (y := (⟨"Callerhall", "isInShape", "(III)Z"⟩ : MethodName)) 54 rfl
theorem tw_0 : ex_tW (Jvm.Cond.initialized "CallerhallLaw") := ex_tt ex_q1 0 rfl rfl
theorem tw_1 : ex_tW (Jvm.Cond.initialized "Callerhall") := ex_tt ex_q1 1 rfl rfl
theorem tw_2 : ex_tW (Jvm.Cond.initialized "Callerhall$Places") := ex_tt ex_q1 2 rfl rfl
theorem tw_3 : ex_tW (Jvm.Cond.initialized "Callerhall$Stage") := ex_tt ex_q1 3 rfl rfl
theorem tw_4 : ex_tW (Jvm.Cond.initialized "Callerhall$Floor") := ex_tt ex_q1 4 rfl rfl
theorem tw_5 : ex_tW (Jvm.Cond.initialized "Callerhall$Steps") := ex_tt ex_q1 5 rfl rfl
theorem tw_6 : ex_tW (Jvm.Cond.initialized "Callerhall$Book") := ex_tt ex_q1 6 rfl rfl
theorem tw_7 : ex_tW (Jvm.Cond.initialized "Callerhall$Plan") := ex_tt ex_q1 7 rfl rfl
theorem tw_8 : ex_tW (Jvm.Cond.initialized "Callerhall$Past") := ex_tt ex_q1 8 rfl rfl
theorem tw_9 : ex_tW (Jvm.Cond.initialized "Callerhall$Flow") := ex_tt ex_q1 9 rfl rfl
theorem tw_10 : ex_tW (Jvm.Cond.initialized "Callerhall$Song") := ex_tt ex_q1 10 rfl rfl
theorem tw_11 : ex_tW (Jvm.Cond.initialized "Callerhall$Party") := ex_tt ex_q1 11 rfl rfl
theorem tw_12 : ex_tW (Jvm.Cond.initialized "Callerhall$Tally") := ex_tt ex_q1 12 rfl rfl
theorem tw_16 : ex_tW (Jvm.Cond.initialized "java/lang/IndexOutOfBoundsException") := ex_tt ex_q1 16 rfl rfl
theorem tw_18 : ex_tW (Jvm.Cond.initialized "java/lang/String") := ex_tt ex_q1 18 rfl rfl
theorem tw_19 : ex_tW (Jvm.Cond.initialized "java/lang/StringLatin1") := ex_tt ex_q1 19 rfl rfl
theorem tw_20 : ex_tW (Jvm.Cond.initialized "java/lang/Math") := ex_tt ex_q1 20 rfl rfl
theorem tw_22 : ex_tW (Jvm.Cond.initialized "jdk/internal/util/Preconditions") := ex_tt ex_q1 22 rfl rfl
theorem tw_24 : ex_tW (Jvm.Cond.initialized "java/lang/IllegalArgumentException") := ex_tt ex_q1 24 rfl rfl
theorem tw_25 : ex_tW (Jvm.Cond.initialized "java/util/NoSuchElementException") := ex_tt ex_q1 25 rfl rfl
theorem tw_26 : ex_tW (Jvm.Cond.initialized "java/lang/UnsupportedOperationException") := ex_tt ex_q1 26 rfl rfl
theorem tw_27 : ex_tW (Jvm.Cond.initialized "java/lang/IllegalStateException") := ex_tt ex_q1 27 rfl rfl
theorem tw_28 : ex_tW (Jvm.Cond.initialized "java/lang/ArithmeticException") := ex_tt ex_q1 28 rfl rfl
theorem tw_29 : ex_tW (Jvm.Cond.initialized "CallerhallLaw$Draw") := ex_tt ex_q1 29 rfl rfl
theorem tw_31 : ex_tW (Jvm.Cond.initialized "java/lang/StringBuilder") := ex_tt ex_q1 31 rfl rfl
theorem tw_40 : ex_tW (Jvm.Cond.initialized "java/util/HashSet") := ex_tt ex_q1 40 rfl rfl
theorem tw_48 : ex_tW (Jvm.Cond.classLink "CallerhallLaw" (9 : Nat) "Callerhall") := ex_tt ex_q1 48 rfl rfl
theorem tw_49 : ex_tW (Jvm.Cond.instantiable "Callerhall" (19 : Nat)) := ex_tt ex_q1 49 rfl rfl
theorem tw_50 : ex_tW (Jvm.Cond.methodLink "CallerhallLaw" (318 : Nat) ({ cls := "Callerhall", name := "<init>", desc := "()V" } : Jvm.MethodName)) := ex_tt ex_q1 50 rfl rfl
theorem tw_51 : ex_tW (Jvm.Cond.instanceMethod ({ cls := "Callerhall", name := "<init>", desc := "()V" } : Jvm.MethodName)) := ex_tt ex_q1 51 rfl rfl
theorem tw_52 : ex_tW (Jvm.Cond.code ({ cls := "Callerhall", name := "<init>", desc := "()V" } : Jvm.MethodName) prog_1_method_1_code (2 : Nat) (Option.none : Option Jvm.ClassFile.FieldType)) := ex_tt ex_q1 52 rfl rfl
theorem tw_53 : ex_tW (Jvm.Cond.methodLink "Callerhall" (1 : Nat) ({ cls := "java/lang/Object", name := "<init>", desc := "()V" } : Jvm.MethodName)) := ex_tt ex_q1 53 rfl rfl
theorem tw_54 : ex_tW (Jvm.Cond.instanceMethod ({ cls := "java/lang/Object", name := "<init>", desc := "()V" } : Jvm.MethodName)) := ex_tt ex_q1 54 rfl rfl
theorem tw_55 : ex_tW (Jvm.Cond.code ({ cls := "java/lang/Object", name := "<init>", desc := "()V" } : Jvm.MethodName) object_method_1_code (1 : Nat) (Option.none : Option Jvm.ClassFile.FieldType)) := ex_tt ex_q1 55 rfl rfl
theorem tw_56 : ex_tW (Jvm.Cond.classLink "Callerhall" (7 : Nat) "Callerhall$Places") := ex_tt ex_q1 56 rfl rfl
theorem tw_57 : ex_tW (Jvm.Cond.instantiable "Callerhall$Places" (4 : Nat)) := ex_tt ex_q1 57 rfl rfl
theorem tw_58 : (Jvm.Cond.methodLinkNest "Callerhall" (9 : Nat) ({ cls := "Callerhall$Places", name := "<init>", desc := "()V" } : Jvm.MethodName) "Callerhall") ∈ ex_TN := ex_twn ex_q1 58 rfl rfl
theorem tw_59 : ex_tW (Jvm.Cond.instanceMethod ({ cls := "Callerhall$Places", name := "<init>", desc := "()V" } : Jvm.MethodName)) := ex_tt ex_q1 59 rfl rfl
theorem tw_60 : ex_tW (Jvm.Cond.code ({ cls := "Callerhall$Places", name := "<init>", desc := "()V" } : Jvm.MethodName) prog_7_method_1_code (1 : Nat) (Option.none : Option Jvm.ClassFile.FieldType)) := ex_tt ex_q1 60 rfl rfl
theorem tw_61 : ex_tW (Jvm.Cond.methodLink "Callerhall$Places" (3 : Nat) ({ cls := "java/lang/Object", name := "<init>", desc := "()V" } : Jvm.MethodName)) := ex_tt ex_q1 61 rfl rfl
theorem tw_62 : ex_tW (Jvm.Cond.fieldLink "Callerhall$Places" (9 : Nat) "Callerhall$Places" "x" "[I") := ex_tt ex_q1 62 rfl rfl
theorem tw_63 : ex_tW (Jvm.Cond.fieldLink "Callerhall$Past" (36 : Nat) "Callerhall$Places" "x" "[I") := ex_tt ex_q1 63 rfl rfl
theorem tw_64 : ex_tW (Jvm.Cond.fieldLink "Callerhall" (133 : Nat) "Callerhall$Places" "x" "[I") := ex_tt ex_q1 64 rfl rfl
theorem tw_65 : ex_tW (Jvm.Cond.fieldLink "Callerhall$Floor" (67 : Nat) "Callerhall$Places" "x" "[I") := ex_tt ex_q1 65 rfl rfl
theorem tw_66 : ex_tW (Jvm.Cond.fieldLink "Callerhall$Places" (15 : Nat) "Callerhall$Places" "y" "[I") := ex_tt ex_q1 66 rfl rfl
theorem tw_67 : ex_tW (Jvm.Cond.fieldLink "Callerhall$Past" (42 : Nat) "Callerhall$Places" "y" "[I") := ex_tt ex_q1 67 rfl rfl
theorem tw_68 : ex_tW (Jvm.Cond.fieldLink "Callerhall$Floor" (70 : Nat) "Callerhall$Places" "y" "[I") := ex_tt ex_q1 68 rfl rfl
theorem tw_69 : ex_tW (Jvm.Cond.fieldLink "Callerhall" (136 : Nat) "Callerhall$Places" "y" "[I") := ex_tt ex_q1 69 rfl rfl
theorem tw_70 : ex_tW (Jvm.Cond.fieldLink "Callerhall$Places" (18 : Nat) "Callerhall$Places" "f" "[I") := ex_tt ex_q1 70 rfl rfl
theorem tw_71 : ex_tW (Jvm.Cond.fieldLink "Callerhall$Past" (45 : Nat) "Callerhall$Places" "f" "[I") := ex_tt ex_q1 71 rfl rfl
theorem tw_72 : ex_tW (Jvm.Cond.fieldLink "Callerhall$Floor" (71 : Nat) "Callerhall$Places" "f" "[I") := ex_tt ex_q1 72 rfl rfl
theorem tw_73 : ex_tW (Jvm.Cond.fieldLink "Callerhall" (139 : Nat) "Callerhall$Places" "f" "[I") := ex_tt ex_q1 73 rfl rfl
theorem tw_74 : ex_tW (Jvm.Cond.fieldLink "Callerhall$Places" (21 : Nat) "Callerhall$Places" "count" "I") := ex_tt ex_q1 74 rfl rfl
theorem tw_75 : ex_tW (Jvm.Cond.fieldLink "Callerhall" (106 : Nat) "Callerhall$Places" "count" "I") := ex_tt ex_q1 75 rfl rfl
theorem tw_76 : ex_tW (Jvm.Cond.fieldLink "Callerhall$Floor" (76 : Nat) "Callerhall$Places" "count" "I") := ex_tt ex_q1 76 rfl rfl
theorem tw_86 : ex_tW (Jvm.Cond.arrayClass Jvm.ClassFile.FieldType.int) := ex_tt ex_q1 86 rfl rfl
theorem tw_87 : ex_tW (Jvm.Cond.classLink "Callerhall" (29 : Nat) "Callerhall$Stage") := ex_tt ex_q1 87 rfl rfl
theorem tw_88 : ex_tW (Jvm.Cond.instantiable "Callerhall$Stage" (8 : Nat)) := ex_tt ex_q1 88 rfl rfl
theorem tw_89 : ex_tW (Jvm.Cond.methodLink "Callerhall" (31 : Nat) ({ cls := "Callerhall$Stage", name := "<init>", desc := "(LCallerhall$Places;)V" } : Jvm.MethodName)) := ex_tt ex_q1 89 rfl rfl
theorem tw_90 : ex_tW (Jvm.Cond.instanceMethod ({ cls := "Callerhall$Stage", name := "<init>", desc := "(LCallerhall$Places;)V" } : Jvm.MethodName)) := ex_tt ex_q1 90 rfl rfl
theorem tw_91 : ex_tW (Jvm.Cond.code ({ cls := "Callerhall$Stage", name := "<init>", desc := "(LCallerhall$Places;)V" } : Jvm.MethodName) prog_10_method_1_code (2 : Nat) (Option.none : Option Jvm.ClassFile.FieldType)) := ex_tt ex_q1 91 rfl rfl
theorem tw_92 : ex_tW (Jvm.Cond.methodLink "Callerhall$Stage" (3 : Nat) ({ cls := "java/lang/Object", name := "<init>", desc := "()V" } : Jvm.MethodName)) := ex_tt ex_q1 92 rfl rfl
theorem tw_93 : ex_tW (Jvm.Cond.classLink "Callerhall$Stage" (9 : Nat) "Callerhall$Floor") := ex_tt ex_q1 93 rfl rfl
theorem tw_94 : ex_tW (Jvm.Cond.instantiable "Callerhall$Floor" (16 : Nat)) := ex_tt ex_q1 94 rfl rfl
theorem tw_95 : (Jvm.Cond.methodLinkNest "Callerhall$Stage" (11 : Nat) ({ cls := "Callerhall$Floor", name := "<init>", desc := "()V" } : Jvm.MethodName) "Callerhall") ∈ ex_TN := ex_twn ex_q1 95 rfl rfl
theorem tw_96 : ex_tW (Jvm.Cond.instanceMethod ({ cls := "Callerhall$Floor", name := "<init>", desc := "()V" } : Jvm.MethodName)) := ex_tt ex_q1 96 rfl rfl
theorem tw_97 : ex_tW (Jvm.Cond.code ({ cls := "Callerhall$Floor", name := "<init>", desc := "()V" } : Jvm.MethodName) prog_3_method_1_code (1 : Nat) (Option.none : Option Jvm.ClassFile.FieldType)) := ex_tt ex_q1 97 rfl rfl
theorem tw_98 : ex_tW (Jvm.Cond.methodLink "Callerhall$Floor" (3 : Nat) ({ cls := "java/lang/Object", name := "<init>", desc := "()V" } : Jvm.MethodName)) := ex_tt ex_q1 98 rfl rfl
theorem tw_99 : ex_tW (Jvm.Cond.fieldLink "Callerhall$Floor" (9 : Nat) "Callerhall$Floor" "x" "[I") := ex_tt ex_q1 99 rfl rfl
theorem tw_100 : ex_tW (Jvm.Cond.fieldLink "Callerhall$Steps" (67 : Nat) "Callerhall$Floor" "x" "[I") := ex_tt ex_q1 100 rfl rfl
theorem tw_101 : ex_tW (Jvm.Cond.fieldLink "Callerhall$Places" (25 : Nat) "Callerhall$Floor" "x" "[I") := ex_tt ex_q1 101 rfl rfl
theorem tw_102 : ex_tW (Jvm.Cond.fieldLink "Callerhall" (447 : Nat) "Callerhall$Floor" "x" "[I") := ex_tt ex_q1 102 rfl rfl
theorem tw_103 : ex_tW (Jvm.Cond.fieldLink "Callerhall$Floor" (15 : Nat) "Callerhall$Floor" "y" "[I") := ex_tt ex_q1 103 rfl rfl
theorem tw_104 : ex_tW (Jvm.Cond.fieldLink "Callerhall$Steps" (75 : Nat) "Callerhall$Floor" "y" "[I") := ex_tt ex_q1 104 rfl rfl
theorem tw_105 : ex_tW (Jvm.Cond.fieldLink "Callerhall$Places" (28 : Nat) "Callerhall$Floor" "y" "[I") := ex_tt ex_q1 105 rfl rfl
theorem tw_106 : ex_tW (Jvm.Cond.fieldLink "Callerhall" (450 : Nat) "Callerhall$Floor" "y" "[I") := ex_tt ex_q1 106 rfl rfl
theorem tw_107 : ex_tW (Jvm.Cond.fieldLink "Callerhall$Floor" (18 : Nat) "Callerhall$Floor" "f" "[I") := ex_tt ex_q1 107 rfl rfl
theorem tw_108 : ex_tW (Jvm.Cond.fieldLink "Callerhall$Places" (29 : Nat) "Callerhall$Floor" "f" "[I") := ex_tt ex_q1 108 rfl rfl
theorem tw_109 : ex_tW (Jvm.Cond.fieldLink "Callerhall$Steps" (105 : Nat) "Callerhall$Floor" "f" "[I") := ex_tt ex_q1 109 rfl rfl
theorem tw_110 : ex_tW (Jvm.Cond.fieldLink "Callerhall$Stage" (159 : Nat) "Callerhall$Floor" "f" "[I") := ex_tt ex_q1 110 rfl rfl
theorem tw_111 : ex_tW (Jvm.Cond.fieldLink "Callerhall" (451 : Nat) "Callerhall$Floor" "f" "[I") := ex_tt ex_q1 111 rfl rfl
theorem tw_112 : ex_tW (Jvm.Cond.fieldLink "Callerhall$Floor" (21 : Nat) "Callerhall$Floor" "number" "[I") := ex_tt ex_q1 112 rfl rfl
theorem tw_113 : ex_tW (Jvm.Cond.fieldLink "Callerhall$Steps" (102 : Nat) "Callerhall$Floor" "number" "[I") := ex_tt ex_q1 113 rfl rfl
theorem tw_114 : ex_tW (Jvm.Cond.fieldLink "Callerhall$Floor" (24 : Nat) "Callerhall$Floor" "ability" "[I") := ex_tt ex_q1 114 rfl rfl
theorem tw_115 : ex_tW (Jvm.Cond.fieldLink "Callerhall$Steps" (78 : Nat) "Callerhall$Floor" "ability" "[I") := ex_tt ex_q1 115 rfl rfl
theorem tw_116 : ex_tW (Jvm.Cond.fieldLink "Callerhall$Floor" (27 : Nat) "Callerhall$Floor" "groups" "[I") := ex_tt ex_q1 116 rfl rfl
theorem tw_117 : ex_tW (Jvm.Cond.fieldLink "Callerhall$Steps" (60 : Nat) "Callerhall$Floor" "groups" "[I") := ex_tt ex_q1 117 rfl rfl
theorem tw_118 : ex_tW (Jvm.Cond.fieldLink "Callerhall$Floor" (30 : Nat) "Callerhall$Floor" "wasX" "[I") := ex_tt ex_q1 118 rfl rfl
theorem tw_119 : ex_tW (Jvm.Cond.fieldLink "Callerhall$Floor" (33 : Nat) "Callerhall$Floor" "wasY" "[I") := ex_tt ex_q1 119 rfl rfl
theorem tw_120 : ex_tW (Jvm.Cond.fieldLink "Callerhall$Floor" (36 : Nat) "Callerhall$Floor" "turns" "[I") := ex_tt ex_q1 120 rfl rfl
theorem tw_121 : ex_tW (Jvm.Cond.fieldLink "Callerhall$Flow" (28 : Nat) "Callerhall$Floor" "turns" "[I") := ex_tt ex_q1 121 rfl rfl
theorem tw_122 : ex_tW (Jvm.Cond.fieldLink "Callerhall" (452 : Nat) "Callerhall$Floor" "turns" "[I") := ex_tt ex_q1 122 rfl rfl
theorem tw_123 : ex_tW (Jvm.Cond.fieldLink "Callerhall$Floor" (39 : Nat) "Callerhall$Floor" "firstHand" "[I") := ex_tt ex_q1 123 rfl rfl
theorem tw_124 : ex_tW (Jvm.Cond.fieldLink "Callerhall$Flow" (33 : Nat) "Callerhall$Floor" "firstHand" "[I") := ex_tt ex_q1 124 rfl rfl
theorem tw_125 : ex_tW (Jvm.Cond.fieldLink "Callerhall$Floor" (42 : Nat) "Callerhall$Floor" "lastHand" "[I") := ex_tt ex_q1 125 rfl rfl
theorem tw_126 : ex_tW (Jvm.Cond.fieldLink "Callerhall$Flow" (36 : Nat) "Callerhall$Floor" "lastHand" "[I") := ex_tt ex_q1 126 rfl rfl
theorem tw_127 : ex_tW (Jvm.Cond.fieldLink "Callerhall$Floor" (45 : Nat) "Callerhall$Floor" "lead" "[I") := ex_tt ex_q1 127 rfl rfl
theorem tw_128 : ex_tW (Jvm.Cond.fieldLink "Callerhall$Floor" (48 : Nat) "Callerhall$Floor" "trail" "[I") := ex_tt ex_q1 128 rfl rfl
theorem tw_129 : ex_tW (Jvm.Cond.fieldLink "Callerhall$Floor" (51 : Nat) "Callerhall$Floor" "passing" "[Z") := ex_tt ex_q1 129 rfl rfl
theorem tw_130 : ex_tW (Jvm.Cond.fieldLink "Callerhall$Floor" (55 : Nat) "Callerhall$Floor" "count" "I") := ex_tt ex_q1 130 rfl rfl
theorem tw_131 : ex_tW (Jvm.Cond.fieldLink "Callerhall$Steps" (51 : Nat) "Callerhall$Floor" "count" "I") := ex_tt ex_q1 131 rfl rfl
theorem tw_132 : ex_tW (Jvm.Cond.fieldLink "Callerhall$Stage" (146 : Nat) "Callerhall$Floor" "count" "I") := ex_tt ex_q1 132 rfl rfl
theorem tw_133 : ex_tW (Jvm.Cond.fieldLink "Callerhall$Floor" (59 : Nat) "Callerhall$Floor" "isCounting" "Z") := ex_tt ex_q1 133 rfl rfl
theorem tw_134 : ex_tW (Jvm.Cond.fieldLink "Callerhall$Stage" (94 : Nat) "Callerhall$Floor" "isCounting" "Z") := ex_tt ex_q1 134 rfl rfl
theorem tw_168 : ex_tW (Jvm.Cond.arrayClass Jvm.ClassFile.FieldType.boolean) := ex_tt ex_q1 168 rfl rfl
theorem tw_169 : ex_tW (Jvm.Cond.classLink "Callerhall$Stage" (24 : Nat) "Callerhall$Steps") := ex_tt ex_q1 169 rfl rfl
theorem tw_170 : ex_tW (Jvm.Cond.instantiable "Callerhall$Steps" (12 : Nat)) := ex_tt ex_q1 170 rfl rfl
theorem tw_171 : (Jvm.Cond.methodLinkNest "Callerhall$Stage" (26 : Nat) ({ cls := "Callerhall$Steps", name := "<init>", desc := "()V" } : Jvm.MethodName) "Callerhall") ∈ ex_TN := ex_twn ex_q1 171 rfl rfl
theorem tw_172 : ex_tW (Jvm.Cond.instanceMethod ({ cls := "Callerhall$Steps", name := "<init>", desc := "()V" } : Jvm.MethodName)) := ex_tt ex_q1 172 rfl rfl
theorem tw_173 : ex_tW (Jvm.Cond.code ({ cls := "Callerhall$Steps", name := "<init>", desc := "()V" } : Jvm.MethodName) prog_11_method_1_code (1 : Nat) (Option.none : Option Jvm.ClassFile.FieldType)) := ex_tt ex_q1 173 rfl rfl
theorem tw_174 : ex_tW (Jvm.Cond.methodLink "Callerhall$Steps" (3 : Nat) ({ cls := "java/lang/Object", name := "<init>", desc := "()V" } : Jvm.MethodName)) := ex_tt ex_q1 174 rfl rfl
theorem tw_175 : ex_tW (Jvm.Cond.fieldLink "Callerhall$Steps" (9 : Nat) "Callerhall$Steps" "told" "[Z") := ex_tt ex_q1 175 rfl rfl
theorem tw_176 : ex_tW (Jvm.Cond.fieldLink "Callerhall$Steps" (15 : Nat) "Callerhall$Steps" "isDancing" "[Z") := ex_tt ex_q1 176 rfl rfl
theorem tw_177 : ex_tW (Jvm.Cond.fieldLink "Callerhall$Steps" (18 : Nat) "Callerhall$Steps" "order" "[I") := ex_tt ex_q1 177 rfl rfl
theorem tw_178 : ex_tW (Jvm.Cond.fieldLink "Callerhall$Steps" (22 : Nat) "Callerhall$Steps" "zone" "[I") := ex_tt ex_q1 178 rfl rfl
theorem tw_179 : ex_tW (Jvm.Cond.fieldLink "Callerhall$Steps" (25 : Nat) "Callerhall$Steps" "mate" "[I") := ex_tt ex_q1 179 rfl rfl
theorem tw_180 : ex_tW (Jvm.Cond.fieldLink "Callerhall$Stage" (153 : Nat) "Callerhall$Steps" "mate" "[I") := ex_tt ex_q1 180 rfl rfl
theorem tw_181 : ex_tW (Jvm.Cond.fieldLink "Callerhall" (319 : Nat) "Callerhall$Steps" "mate" "[I") := ex_tt ex_q1 181 rfl rfl
theorem tw_182 : ex_tW (Jvm.Cond.fieldLink "Callerhall$Steps" (28 : Nat) "Callerhall$Steps" "kind" "[I") := ex_tt ex_q1 182 rfl rfl
theorem tw_183 : ex_tW (Jvm.Cond.fieldLink "Callerhall$Stage" (156 : Nat) "Callerhall$Steps" "kind" "[I") := ex_tt ex_q1 183 rfl rfl
theorem tw_184 : ex_tW (Jvm.Cond.fieldLink "Callerhall" (322 : Nat) "Callerhall$Steps" "kind" "[I") := ex_tt ex_q1 184 rfl rfl
theorem tw_185 : ex_tW (Jvm.Cond.fieldLink "Callerhall$Steps" (31 : Nat) "Callerhall$Steps" "isBoxed" "[Z") := ex_tt ex_q1 185 rfl rfl
theorem tw_186 : ex_tW (Jvm.Cond.fieldLink "Callerhall$Steps" (34 : Nat) "Callerhall$Steps" "boxX" "[I") := ex_tt ex_q1 186 rfl rfl
theorem tw_187 : ex_tW (Jvm.Cond.fieldLink "Callerhall$Steps" (37 : Nat) "Callerhall$Steps" "boxY" "[I") := ex_tt ex_q1 187 rfl rfl
theorem tw_188 : ex_tW (Jvm.Cond.fieldLink "Callerhall$Steps" (40 : Nat) "Callerhall$Steps" "spacing" "I") := ex_tt ex_q1 188 rfl rfl
theorem tw_189 : ex_tW (Jvm.Cond.fieldLink "Callerhall$Steps" (44 : Nat) "Callerhall$Steps" "isPartedByX" "Z") := ex_tt ex_q1 189 rfl rfl
theorem tw_190 : ex_tW (Jvm.Cond.fieldLink "Callerhall$Steps" (48 : Nat) "Callerhall$Steps" "isPartedByY" "Z") := ex_tt ex_q1 190 rfl rfl
theorem tw_216 : ex_tW (Jvm.Cond.fieldLink "Callerhall$Stage" (12 : Nat) "Callerhall$Stage" "ground" "LCallerhall$Floor;") := ex_tt ex_q1 216 rfl rfl
theorem tw_217 : ex_tW (Jvm.Cond.fieldLink "Callerhall" (303 : Nat) "Callerhall$Stage" "ground" "LCallerhall$Floor;") := ex_tt ex_q1 217 rfl rfl
theorem tw_218 : ex_tW (Jvm.Cond.fieldLink "Callerhall$Stage" (18 : Nat) "Callerhall$Stage" "middle" "LCallerhall$Floor;") := ex_tt ex_q1 218 rfl rfl
theorem tw_219 : ex_tW (Jvm.Cond.fieldLink "Callerhall$Stage" (21 : Nat) "Callerhall$Stage" "top" "LCallerhall$Floor;") := ex_tt ex_q1 219 rfl rfl
theorem tw_220 : ex_tW (Jvm.Cond.fieldLink "Callerhall$Stage" (27 : Nat) "Callerhall$Stage" "steps" "LCallerhall$Steps;") := ex_tt ex_q1 220 rfl rfl
theorem tw_221 : ex_tW (Jvm.Cond.fieldLink "Callerhall" (299 : Nat) "Callerhall$Stage" "steps" "LCallerhall$Steps;") := ex_tt ex_q1 221 rfl rfl
theorem tw_222 : ex_tW (Jvm.Cond.fieldLink "Callerhall$Stage" (42 : Nat) "Callerhall$Stage" "phantoms" "LCallerhall$Places;") := ex_tt ex_q1 222 rfl rfl
theorem tw_223 : ex_tW (Jvm.Cond.fieldLink "Callerhall$Stage" (31 : Nat) "Callerhall$Stage" "depth" "I") := ex_tt ex_q1 223 rfl rfl
theorem tw_224 : ex_tW (Jvm.Cond.fieldLink "Callerhall$Stage" (35 : Nat) "Callerhall$Stage" "reason" "C") := ex_tt ex_q1 224 rfl rfl
theorem tw_225 : ex_tW (Jvm.Cond.fieldLink "Callerhall$Stage" (39 : Nat) "Callerhall$Stage" "culprit" "I") := ex_tt ex_q1 225 rfl rfl
theorem tw_226 : ex_tW (Jvm.Cond.fieldLink "Callerhall" (434 : Nat) "Callerhall$Stage" "culprit" "I") := ex_tt ex_q1 226 rfl rfl
theorem tw_244 : ex_tW (Jvm.Cond.classLink "Callerhall" (38 : Nat) "Callerhall$Book") := ex_tt ex_q2 4 rfl rfl
theorem tw_245 : ex_tW (Jvm.Cond.instantiable "Callerhall$Book" (7 : Nat)) := ex_tt ex_q2 5 rfl rfl
theorem tw_246 : (Jvm.Cond.methodLinkNest "Callerhall" (40 : Nat) ({ cls := "Callerhall$Book", name := "<init>", desc := "()V" } : Jvm.MethodName) "Callerhall") ∈ ex_TN := ex_twn ex_q2 6 rfl rfl
theorem tw_247 : ex_tW (Jvm.Cond.instanceMethod ({ cls := "Callerhall$Book", name := "<init>", desc := "()V" } : Jvm.MethodName)) := ex_tt ex_q2 7 rfl rfl
theorem tw_248 : ex_tW (Jvm.Cond.code ({ cls := "Callerhall$Book", name := "<init>", desc := "()V" } : Jvm.MethodName) prog_2_method_1_code (1 : Nat) (Option.none : Option Jvm.ClassFile.FieldType)) := ex_tt ex_q2 8 rfl rfl
theorem tw_249 : ex_tW (Jvm.Cond.methodLink "Callerhall$Book" (1 : Nat) ({ cls := "java/lang/Object", name := "<init>", desc := "()V" } : Jvm.MethodName)) := ex_tt ex_q2 9 rfl rfl
theorem tw_250 : ex_tW (Jvm.Cond.classLink "Callerhall$Book" (22 : Nat) "[[I") := ex_tt ex_q2 10 rfl rfl
theorem tw_252 : ex_tW (Jvm.Cond.fieldLink "Callerhall$Book" (9 : Nat) "Callerhall$Book" "versions" "[I") := ex_tt ex_q2 12 rfl rfl
theorem tw_253 : ex_tW (Jvm.Cond.fieldLink "Callerhall$Book" (13 : Nat) "Callerhall$Book" "years" "[I") := ex_tt ex_q2 13 rfl rfl
theorem tw_254 : ex_tW (Jvm.Cond.fieldLink "Callerhall$Book" (16 : Nat) "Callerhall$Book" "actCounts" "[I") := ex_tt ex_q2 14 rfl rfl
theorem tw_255 : ex_tW (Jvm.Cond.fieldLink "Callerhall$Plan" (61 : Nat) "Callerhall$Book" "actCounts" "[I") := ex_tt ex_q2 15 rfl rfl
theorem tw_256 : ex_tW (Jvm.Cond.fieldLink "Callerhall$Book" (19 : Nat) "Callerhall$Book" "beatsTold" "[I") := ex_tt ex_q2 16 rfl rfl
theorem tw_257 : ex_tW (Jvm.Cond.fieldLink "Callerhall$Plan" (71 : Nat) "Callerhall$Book" "beatsTold" "[I") := ex_tt ex_q2 17 rfl rfl
theorem tw_258 : ex_tW (Jvm.Cond.fieldLink "Callerhall$Book" (24 : Nat) "Callerhall$Book" "acts" "[[I") := ex_tt ex_q2 18 rfl rfl
theorem tw_259 : ex_tW (Jvm.Cond.fieldLink "Callerhall$Plan" (64 : Nat) "Callerhall$Book" "acts" "[[I") := ex_tt ex_q2 19 rfl rfl
theorem tw_260 : ex_tW (Jvm.Cond.fieldLink "Callerhall$Book" (27 : Nat) "Callerhall$Book" "whos" "[[I") := ex_tt ex_q2 20 rfl rfl
theorem tw_261 : ex_tW (Jvm.Cond.fieldLink "Callerhall$Plan" (67 : Nat) "Callerhall$Book" "whos" "[[I") := ex_tt ex_q2 21 rfl rfl
theorem tw_262 : ex_tW (Jvm.Cond.fieldLink "Callerhall$Book" (30 : Nat) "Callerhall$Book" "concepts" "[[I") := ex_tt ex_q2 22 rfl rfl
theorem tw_263 : ex_tW (Jvm.Cond.fieldLink "Callerhall$Plan" (69 : Nat) "Callerhall$Book" "concepts" "[[I") := ex_tt ex_q2 23 rfl rfl
theorem tw_279 : ex_tW (Jvm.Cond.classLink "Callerhall" (45 : Nat) "Callerhall$Plan") := ex_tt ex_q2 39 rfl rfl
theorem tw_280 : ex_tW (Jvm.Cond.instantiable "Callerhall$Plan" (9 : Nat)) := ex_tt ex_q2 40 rfl rfl
theorem tw_281 : (Jvm.Cond.methodLinkNest "Callerhall" (47 : Nat) ({ cls := "Callerhall$Plan", name := "<init>", desc := "()V" } : Jvm.MethodName) "Callerhall") ∈ ex_TN := ex_twn ex_q2 41 rfl rfl
theorem tw_282 : ex_tW (Jvm.Cond.instanceMethod ({ cls := "Callerhall$Plan", name := "<init>", desc := "()V" } : Jvm.MethodName)) := ex_tt ex_q2 42 rfl rfl
theorem tw_283 : ex_tW (Jvm.Cond.code ({ cls := "Callerhall$Plan", name := "<init>", desc := "()V" } : Jvm.MethodName) prog_8_method_1_code (1 : Nat) (Option.none : Option Jvm.ClassFile.FieldType)) := ex_tt ex_q2 43 rfl rfl
theorem tw_284 : ex_tW (Jvm.Cond.methodLink "Callerhall$Plan" (3 : Nat) ({ cls := "java/lang/Object", name := "<init>", desc := "()V" } : Jvm.MethodName)) := ex_tt ex_q2 44 rfl rfl
theorem tw_285 : ex_tW (Jvm.Cond.fieldLink "Callerhall$Plan" (11 : Nat) "Callerhall$Plan" "acts" "[I") := ex_tt ex_q2 45 rfl rfl
theorem tw_286 : ex_tW (Jvm.Cond.fieldLink "Callerhall$Stage" (62 : Nat) "Callerhall$Plan" "acts" "[I") := ex_tt ex_q2 46 rfl rfl
theorem tw_287 : ex_tW (Jvm.Cond.fieldLink "Callerhall$Plan" (17 : Nat) "Callerhall$Plan" "whos" "[I") := ex_tt ex_q2 47 rfl rfl
theorem tw_288 : ex_tW (Jvm.Cond.fieldLink "Callerhall$Stage" (125 : Nat) "Callerhall$Plan" "whos" "[I") := ex_tt ex_q2 48 rfl rfl
theorem tw_289 : ex_tW (Jvm.Cond.fieldLink "Callerhall$Plan" (20 : Nat) "Callerhall$Plan" "concepts" "[I") := ex_tt ex_q2 49 rfl rfl
theorem tw_290 : ex_tW (Jvm.Cond.fieldLink "Callerhall$Plan" (23 : Nat) "Callerhall$Plan" "actCount" "I") := ex_tt ex_q2 50 rfl rfl
theorem tw_291 : ex_tW (Jvm.Cond.fieldLink "Callerhall$Stage" (59 : Nat) "Callerhall$Plan" "actCount" "I") := ex_tt ex_q2 51 rfl rfl
theorem tw_292 : ex_tW (Jvm.Cond.fieldLink "Callerhall$Plan" (27 : Nat) "Callerhall$Plan" "concept" "I") := ex_tt ex_q2 52 rfl rfl
theorem tw_293 : ex_tW (Jvm.Cond.fieldLink "Callerhall$Stage" (50 : Nat) "Callerhall$Plan" "concept" "I") := ex_tt ex_q2 53 rfl rfl
theorem tw_294 : ex_tW (Jvm.Cond.fieldLink "Callerhall$Plan" (30 : Nat) "Callerhall$Plan" "partCount" "I") := ex_tt ex_q2 54 rfl rfl
theorem tw_295 : ex_tW (Jvm.Cond.fieldLink "Callerhall" (225 : Nat) "Callerhall$Plan" "partCount" "I") := ex_tt ex_q2 55 rfl rfl
theorem tw_296 : ex_tW (Jvm.Cond.fieldLink "Callerhall$Plan" (33 : Nat) "Callerhall$Plan" "beatCount" "I") := ex_tt ex_q2 56 rfl rfl
theorem tw_297 : ex_tW (Jvm.Cond.fieldLink "Callerhall" (218 : Nat) "Callerhall$Plan" "beatCount" "I") := ex_tt ex_q2 57 rfl rfl
theorem tw_298 : ex_tW (Jvm.Cond.fieldLink "Callerhall$Plan" (36 : Nat) "Callerhall$Plan" "highest" "I") := ex_tt ex_q2 58 rfl rfl
theorem tw_299 : ex_tW (Jvm.Cond.fieldLink "Callerhall" (228 : Nat) "Callerhall$Plan" "highest" "I") := ex_tt ex_q2 59 rfl rfl
theorem tw_300 : ex_tW (Jvm.Cond.fieldLink "Callerhall$Plan" (39 : Nat) "Callerhall$Plan" "done" "I") := ex_tt ex_q2 60 rfl rfl
theorem tw_301 : ex_tW (Jvm.Cond.fieldLink "Callerhall" (270 : Nat) "Callerhall$Plan" "done" "I") := ex_tt ex_q2 61 rfl rfl
theorem tw_321 : ex_tW (Jvm.Cond.classLink "Callerhall" (55 : Nat) "Callerhall$Past") := ex_tt ex_q2 81 rfl rfl
theorem tw_322 : ex_tW (Jvm.Cond.instantiable "Callerhall$Past" (4 : Nat)) := ex_tt ex_q2 82 rfl rfl
theorem tw_323 : (Jvm.Cond.methodLinkNest "Callerhall" (57 : Nat) ({ cls := "Callerhall$Past", name := "<init>", desc := "()V" } : Jvm.MethodName) "Callerhall") ∈ ex_TN := ex_twn ex_q2 83 rfl rfl
theorem tw_324 : ex_tW (Jvm.Cond.instanceMethod ({ cls := "Callerhall$Past", name := "<init>", desc := "()V" } : Jvm.MethodName)) := ex_tt ex_q2 84 rfl rfl
theorem tw_325 : ex_tW (Jvm.Cond.code ({ cls := "Callerhall$Past", name := "<init>", desc := "()V" } : Jvm.MethodName) prog_6_method_1_code (1 : Nat) (Option.none : Option Jvm.ClassFile.FieldType)) := ex_tt ex_q2 85 rfl rfl
theorem tw_326 : ex_tW (Jvm.Cond.methodLink "Callerhall$Past" (3 : Nat) ({ cls := "java/lang/Object", name := "<init>", desc := "()V" } : Jvm.MethodName)) := ex_tt ex_q2 86 rfl rfl
theorem tw_327 : ex_tW (Jvm.Cond.classLink "Callerhall$Past" (9 : Nat) "[[I") := ex_tt ex_q2 87 rfl rfl
theorem tw_328 : ex_tW (Jvm.Cond.fieldLink "Callerhall$Past" (11 : Nat) "Callerhall$Past" "rows" "[[I") := ex_tt ex_q2 88 rfl rfl
theorem tw_329 : ex_tW (Jvm.Cond.fieldLink "Callerhall$Past" (16 : Nat) "Callerhall$Past" "letters" "[C") := ex_tt ex_q2 89 rfl rfl
theorem tw_330 : ex_tW (Jvm.Cond.fieldLink "Callerhall$Past" (20 : Nat) "Callerhall$Past" "newest" "I") := ex_tt ex_q2 90 rfl rfl
theorem tw_331 : ex_tW (Jvm.Cond.fieldLink "Callerhall$Past" (24 : Nat) "Callerhall$Past" "size" "I") := ex_tt ex_q2 91 rfl rfl
theorem tw_332 : ex_tW (Jvm.Cond.fieldLink "Callerhall" (287 : Nat) "Callerhall$Past" "size" "I") := ex_tt ex_q2 92 rfl rfl
theorem tw_342 : ex_tW (Jvm.Cond.arrayClass Jvm.ClassFile.FieldType.char) := ex_tt ex_q2 102 rfl rfl
theorem tw_343 : ex_tW (Jvm.Cond.classLink "Callerhall" (62 : Nat) "Callerhall$Flow") := ex_tt ex_q2 103 rfl rfl
theorem tw_344 : ex_tW (Jvm.Cond.instantiable "Callerhall$Flow" (5 : Nat)) := ex_tt ex_q2 104 rfl rfl
theorem tw_345 : (Jvm.Cond.methodLinkNest "Callerhall" (64 : Nat) ({ cls := "Callerhall$Flow", name := "<init>", desc := "()V" } : Jvm.MethodName) "Callerhall") ∈ ex_TN := ex_twn ex_q2 105 rfl rfl
theorem tw_346 : ex_tW (Jvm.Cond.instanceMethod ({ cls := "Callerhall$Flow", name := "<init>", desc := "()V" } : Jvm.MethodName)) := ex_tt ex_q2 106 rfl rfl
theorem tw_347 : ex_tW (Jvm.Cond.code ({ cls := "Callerhall$Flow", name := "<init>", desc := "()V" } : Jvm.MethodName) prog_4_method_1_code (1 : Nat) (Option.none : Option Jvm.ClassFile.FieldType)) := ex_tt ex_q2 107 rfl rfl
theorem tw_348 : ex_tW (Jvm.Cond.methodLink "Callerhall$Flow" (3 : Nat) ({ cls := "java/lang/Object", name := "<init>", desc := "()V" } : Jvm.MethodName)) := ex_tt ex_q2 108 rfl rfl
theorem tw_349 : ex_tW (Jvm.Cond.fieldLink "Callerhall$Flow" (9 : Nat) "Callerhall$Flow" "lastTurns" "[I") := ex_tt ex_q2 109 rfl rfl
theorem tw_350 : ex_tW (Jvm.Cond.fieldLink "Callerhall$Flow" (15 : Nat) "Callerhall$Flow" "flowing" "[I") := ex_tt ex_q2 110 rfl rfl
theorem tw_351 : ex_tW (Jvm.Cond.fieldLink "Callerhall$Flow" (18 : Nat) "Callerhall$Flow" "hands" "[I") := ex_tt ex_q2 111 rfl rfl
theorem tw_352 : ex_tW (Jvm.Cond.fieldLink "Callerhall$Flow" (21 : Nat) "Callerhall$Flow" "breaks" "I") := ex_tt ex_q2 112 rfl rfl
theorem tw_353 : ex_tW (Jvm.Cond.fieldLink "Callerhall" (343 : Nat) "Callerhall$Flow" "breaks" "I") := ex_tt ex_q2 113 rfl rfl
theorem tw_354 : ex_tW (Jvm.Cond.fieldLink "Callerhall$Flow" (25 : Nat) "Callerhall$Flow" "clashCount" "I") := ex_tt ex_q2 114 rfl rfl
theorem tw_355 : ex_tW (Jvm.Cond.fieldLink "Callerhall" (346 : Nat) "Callerhall$Flow" "clashCount" "I") := ex_tt ex_q2 115 rfl rfl
theorem tw_367 : ex_tW (Jvm.Cond.classLink "Callerhall" (69 : Nat) "Callerhall$Song") := ex_tt ex_q2 127 rfl rfl
theorem tw_368 : ex_tW (Jvm.Cond.instantiable "Callerhall$Song" (4 : Nat)) := ex_tt ex_q2 128 rfl rfl
theorem tw_369 : (Jvm.Cond.methodLinkNest "Callerhall" (71 : Nat) ({ cls := "Callerhall$Song", name := "<init>", desc := "()V" } : Jvm.MethodName) "Callerhall") ∈ ex_TN := ex_twn ex_q2 129 rfl rfl
theorem tw_370 : ex_tW (Jvm.Cond.instanceMethod ({ cls := "Callerhall$Song", name := "<init>", desc := "()V" } : Jvm.MethodName)) := ex_tt ex_q2 130 rfl rfl
theorem tw_371 : ex_tW (Jvm.Cond.code ({ cls := "Callerhall$Song", name := "<init>", desc := "()V" } : Jvm.MethodName) prog_9_method_1_code (1 : Nat) (Option.none : Option Jvm.ClassFile.FieldType)) := ex_tt ex_q2 131 rfl rfl
theorem tw_372 : ex_tW (Jvm.Cond.methodLink "Callerhall$Song" (1 : Nat) ({ cls := "java/lang/Object", name := "<init>", desc := "()V" } : Jvm.MethodName)) := ex_tt ex_q2 132 rfl rfl
theorem tw_373 : ex_tW (Jvm.Cond.fieldLink "Callerhall$Song" (7 : Nat) "Callerhall$Song" "figure" "I") := ex_tt ex_q2 133 rfl rfl
theorem tw_374 : ex_tW (Jvm.Cond.fieldLink "Callerhall" (365 : Nat) "Callerhall$Song" "figure" "I") := ex_tt ex_q2 134 rfl rfl
theorem tw_375 : ex_tW (Jvm.Cond.fieldLink "Callerhall$Song" (13 : Nat) "Callerhall$Song" "done" "I") := ex_tt ex_q2 135 rfl rfl
theorem tw_376 : ex_tW (Jvm.Cond.fieldLink "Callerhall" (361 : Nat) "Callerhall$Song" "done" "I") := ex_tt ex_q2 136 rfl rfl
theorem tw_377 : ex_tW (Jvm.Cond.fieldLink "Callerhall$Song" (16 : Nat) "Callerhall$Song" "rightsGone" "I") := ex_tt ex_q2 137 rfl rfl
theorem tw_378 : ex_tW (Jvm.Cond.fieldLink "Callerhall" (368 : Nat) "Callerhall$Song" "rightsGone" "I") := ex_tt ex_q2 138 rfl rfl
theorem tw_379 : ex_tW (Jvm.Cond.fieldLink "Callerhall$Song" (19 : Nat) "Callerhall$Song" "doneInAll" "J") := ex_tt ex_q2 139 rfl rfl
theorem tw_380 : ex_tW (Jvm.Cond.fieldLink "Callerhall" (393 : Nat) "Callerhall$Song" "doneInAll" "J") := ex_tt ex_q2 140 rfl rfl
theorem tw_390 : ex_tW (Jvm.Cond.classLink "Callerhall" (76 : Nat) "Callerhall$Party") := ex_tt ex_q2 150 rfl rfl
theorem tw_391 : ex_tW (Jvm.Cond.instantiable "Callerhall$Party" (5 : Nat)) := ex_tt ex_q2 151 rfl rfl
theorem tw_392 : (Jvm.Cond.methodLinkNest "Callerhall" (78 : Nat) ({ cls := "Callerhall$Party", name := "<init>", desc := "()V" } : Jvm.MethodName) "Callerhall") ∈ ex_TN := ex_twn ex_q2 152 rfl rfl
theorem tw_393 : ex_tW (Jvm.Cond.instanceMethod ({ cls := "Callerhall$Party", name := "<init>", desc := "()V" } : Jvm.MethodName)) := ex_tt ex_q2 153 rfl rfl
theorem tw_394 : ex_tW (Jvm.Cond.code ({ cls := "Callerhall$Party", name := "<init>", desc := "()V" } : Jvm.MethodName) prog_5_method_1_code (1 : Nat) (Option.none : Option Jvm.ClassFile.FieldType)) := ex_tt ex_q2 154 rfl rfl
theorem tw_395 : ex_tW (Jvm.Cond.methodLink "Callerhall$Party" (1 : Nat) ({ cls := "java/lang/Object", name := "<init>", desc := "()V" } : Jvm.MethodName)) := ex_tt ex_q2 155 rfl rfl
theorem tw_396 : ex_tW (Jvm.Cond.classLink "Callerhall$Party" (9 : Nat) "[[I") := ex_tt ex_q2 156 rfl rfl
theorem tw_397 : ex_tW (Jvm.Cond.fieldLink "Callerhall$Party" (11 : Nat) "Callerhall$Party" "sets" "[[I") := ex_tt ex_q2 157 rfl rfl
theorem tw_398 : ex_tW (Jvm.Cond.fieldLink "Callerhall$Party" (14 : Nat) "Callerhall$Party" "meetings" "[[I") := ex_tt ex_q2 158 rfl rfl
theorem tw_399 : ex_tW (Jvm.Cond.fieldLink "Callerhall" (390 : Nat) "Callerhall$Party" "meetings" "[[I") := ex_tt ex_q2 159 rfl rfl
theorem tw_400 : ex_tW (Jvm.Cond.fieldLink "Callerhall$Party" (17 : Nat) "Callerhall$Party" "tipsDanced" "[I") := ex_tt ex_q2 160 rfl rfl
theorem tw_401 : ex_tW (Jvm.Cond.fieldLink "Callerhall$Party" (21 : Nat) "Callerhall$Party" "couples" "I") := ex_tt ex_q2 161 rfl rfl
theorem tw_402 : ex_tW (Jvm.Cond.fieldLink "Callerhall" (377 : Nat) "Callerhall$Party" "couples" "I") := ex_tt ex_q2 162 rfl rfl
theorem tw_403 : ex_tW (Jvm.Cond.fieldLink "Callerhall$Party" (25 : Nat) "Callerhall$Party" "tips" "I") := ex_tt ex_q2 163 rfl rfl
theorem tw_404 : ex_tW (Jvm.Cond.fieldLink "Callerhall" (371 : Nat) "Callerhall$Party" "tips" "I") := ex_tt ex_q2 164 rfl rfl
theorem tw_416 : ex_tW (Jvm.Cond.classLink "Callerhall" (83 : Nat) "Callerhall$Tally") := ex_tt ex_q2 176 rfl rfl
theorem tw_417 : ex_tW (Jvm.Cond.instantiable "Callerhall$Tally" (4 : Nat)) := ex_tt ex_q2 177 rfl rfl
theorem tw_418 : (Jvm.Cond.methodLinkNest "Callerhall" (85 : Nat) ({ cls := "Callerhall$Tally", name := "<init>", desc := "()V" } : Jvm.MethodName) "Callerhall") ∈ ex_TN := ex_twn ex_q2 178 rfl rfl
theorem tw_419 : ex_tW (Jvm.Cond.instanceMethod ({ cls := "Callerhall$Tally", name := "<init>", desc := "()V" } : Jvm.MethodName)) := ex_tt ex_q2 179 rfl rfl
theorem tw_420 : ex_tW (Jvm.Cond.code ({ cls := "Callerhall$Tally", name := "<init>", desc := "()V" } : Jvm.MethodName) prog_12_method_1_code (1 : Nat) (Option.none : Option Jvm.ClassFile.FieldType)) := ex_tt ex_q2 180 rfl rfl
theorem tw_421 : ex_tW (Jvm.Cond.methodLink "Callerhall$Tally" (1 : Nat) ({ cls := "java/lang/Object", name := "<init>", desc := "()V" } : Jvm.MethodName)) := ex_tt ex_q2 181 rfl rfl
theorem tw_422 : ex_tW (Jvm.Cond.fieldLink "Callerhall$Tally" (7 : Nat) "Callerhall$Tally" "tried" "I") := ex_tt ex_q2 182 rfl rfl
theorem tw_423 : ex_tW (Jvm.Cond.fieldLink "Callerhall" (397 : Nat) "Callerhall$Tally" "tried" "I") := ex_tt ex_q2 183 rfl rfl
theorem tw_424 : ex_tW (Jvm.Cond.fieldLink "Callerhall$Tally" (13 : Nat) "Callerhall$Tally" "danced" "I") := ex_tt ex_q2 184 rfl rfl
theorem tw_425 : ex_tW (Jvm.Cond.fieldLink "Callerhall" (403 : Nat) "Callerhall$Tally" "danced" "I") := ex_tt ex_q2 185 rfl rfl
theorem tw_426 : ex_tW (Jvm.Cond.fieldLink "Callerhall$Tally" (16 : Nat) "Callerhall$Tally" "reason" "C") := ex_tt ex_q2 186 rfl rfl
theorem tw_427 : ex_tW (Jvm.Cond.fieldLink "Callerhall" (273 : Nat) "Callerhall$Tally" "reason" "C") := ex_tt ex_q2 187 rfl rfl
theorem tw_428 : ex_tW (Jvm.Cond.fieldLink "Callerhall$Tally" (20 : Nat) "Callerhall$Tally" "culprit" "I") := ex_tt ex_q2 188 rfl rfl
theorem tw_429 : ex_tW (Jvm.Cond.fieldLink "Callerhall" (277 : Nat) "Callerhall$Tally" "culprit" "I") := ex_tt ex_q2 189 rfl rfl
theorem tw_439 : ex_tW (Jvm.Cond.fieldLink "Callerhall" (109 : Nat) "Callerhall" "SPOT_X" "[I") := ex_tt ex_q2 199 rfl rfl
theorem tw_441 : ex_tW (Jvm.Cond.fieldLink "Callerhall" (112 : Nat) "Callerhall" "SPOT_Y" "[I") := ex_tt ex_q2 201 rfl rfl
theorem tw_443 : ex_tW (Jvm.Cond.fieldLink "Callerhall" (115 : Nat) "Callerhall" "SPOT_F" "[I") := ex_tt ex_q2 203 rfl rfl
theorem tw_445 : ex_tW (Jvm.Cond.methodLink "Callerhall" (118 : Nat) ({ cls := "Callerhall$Places", name := "tell", desc := "(IIII)V" } : Jvm.MethodName)) := ex_tt ex_q2 205 rfl rfl
theorem tw_446 : ex_tW (Jvm.Cond.instanceMethod ({ cls := "Callerhall$Places", name := "tell", desc := "(IIII)V" } : Jvm.MethodName)) := ex_tt ex_q2 206 rfl rfl
theorem tw_447 : ex_tW (Jvm.Cond.selects "Callerhall$Places" ({ cls := "Callerhall$Places", name := "tell", desc := "(IIII)V" } : Jvm.MethodName) ({ cls := "Callerhall$Places", name := "tell", desc := "(IIII)V" } : Jvm.MethodName)) := ex_tt ex_q2 207 rfl rfl
theorem tw_448 : ex_tW (Jvm.Cond.code ({ cls := "Callerhall$Places", name := "tell", desc := "(IIII)V" } : Jvm.MethodName) prog_7_method_2_code (5 : Nat) (Option.none : Option Jvm.ClassFile.FieldType)) := ex_tt ex_q2 208 rfl rfl
theorem tw_449 : ex_tW (Jvm.Cond.fieldLink "Callerhall" (10 : Nat) "Callerhall" "dancers" "LCallerhall$Places;") := ex_tt ex_q2 209 rfl rfl
theorem tw_450 : ex_tW (Jvm.Cond.fieldLink "Callerhall" (16 : Nat) "Callerhall" "phantoms" "LCallerhall$Places;") := ex_tt ex_q2 210 rfl rfl
theorem tw_451 : ex_tW (Jvm.Cond.fieldLink "Callerhall" (19 : Nat) "Callerhall" "trial" "LCallerhall$Places;") := ex_tt ex_q2 211 rfl rfl
theorem tw_452 : ex_tW (Jvm.Cond.fieldLink "Callerhall" (22 : Nat) "Callerhall" "skills" "[I") := ex_tt ex_q2 212 rfl rfl
theorem tw_453 : ex_tW (Jvm.Cond.fieldLink "Callerhall" (26 : Nat) "Callerhall" "experts" "[I") := ex_tt ex_q2 213 rfl rfl
theorem tw_454 : ex_tW (Jvm.Cond.fieldLink "Callerhall" (34 : Nat) "Callerhall" "stage" "LCallerhall$Stage;") := ex_tt ex_q2 214 rfl rfl
theorem tw_455 : ex_tW (Jvm.Cond.fieldLink "Callerhall" (41 : Nat) "Callerhall" "book" "LCallerhall$Book;") := ex_tt ex_q2 215 rfl rfl
theorem tw_456 : ex_tW (Jvm.Cond.fieldLink "Callerhall" (48 : Nat) "Callerhall" "plan" "LCallerhall$Plan;") := ex_tt ex_q2 216 rfl rfl
theorem tw_457 : ex_tW (Jvm.Cond.fieldLink "Callerhall" (52 : Nat) "Callerhall" "rest" "LCallerhall$Plan;") := ex_tt ex_q2 217 rfl rfl
theorem tw_458 : ex_tW (Jvm.Cond.fieldLink "Callerhall" (58 : Nat) "Callerhall" "past" "LCallerhall$Past;") := ex_tt ex_q2 218 rfl rfl
theorem tw_459 : ex_tW (Jvm.Cond.fieldLink "Callerhall" (65 : Nat) "Callerhall" "flow" "LCallerhall$Flow;") := ex_tt ex_q2 219 rfl rfl
theorem tw_460 : ex_tW (Jvm.Cond.fieldLink "Callerhall" (72 : Nat) "Callerhall" "song" "LCallerhall$Song;") := ex_tt ex_q2 220 rfl rfl
theorem tw_461 : ex_tW (Jvm.Cond.fieldLink "Callerhall" (79 : Nat) "Callerhall" "party" "LCallerhall$Party;") := ex_tt ex_q2 221 rfl rfl
theorem tw_462 : ex_tW (Jvm.Cond.fieldLink "Callerhall" (86 : Nat) "Callerhall" "tally" "LCallerhall$Tally;") := ex_tt ex_q2 222 rfl rfl
theorem tw_463 : ex_tW (Jvm.Cond.fieldLink "Callerhall" (90 : Nat) "Callerhall" "turnsAhead" "[I") := ex_tt ex_q2 223 rfl rfl
theorem tw_464 : ex_tW (Jvm.Cond.fieldLink "Callerhall" (93 : Nat) "Callerhall" "way" "[I") := ex_tt ex_q2 224 rfl rfl
theorem tw_465 : ex_tW (Jvm.Cond.fieldLink "Callerhall" (96 : Nat) "Callerhall" "wayLength" "I") := ex_tt ex_q2 225 rfl rfl
theorem tw_466 : ex_tW (Jvm.Cond.fieldLink "Callerhall" (100 : Nat) "Callerhall" "levelTold" "I") := ex_tt ex_q2 226 rfl rfl
theorem tw_467 : ex_tW (Jvm.Cond.fieldLink "Callerhall" (103 : Nat) "Callerhall" "yearTold" "I") := ex_tt ex_q2 227 rfl rfl
theorem tw_507 : ex_tW (Jvm.Cond.methodLink "CallerhallLaw" (231 : Nat) ({ cls := "Callerhall", name := "why", desc := "()C" } : Jvm.MethodName)) := ex_tt ex_q3 27 rfl rfl
theorem tw_508 : ex_tW (Jvm.Cond.instanceMethod ({ cls := "Callerhall", name := "why", desc := "()C" } : Jvm.MethodName)) := ex_tt ex_q3 28 rfl rfl
theorem tw_509 : ex_tW (Jvm.Cond.selects "Callerhall" ({ cls := "Callerhall", name := "why", desc := "()C" } : Jvm.MethodName) ({ cls := "Callerhall", name := "why", desc := "()C" } : Jvm.MethodName)) := ex_tt ex_q3 29 rfl rfl
theorem tw_510 : ex_tW (Jvm.Cond.code ({ cls := "Callerhall", name := "why", desc := "()C" } : Jvm.MethodName) prog_1_method_24_code (1 : Nat) (Option.some Jvm.ClassFile.FieldType.char)) := ex_tt ex_q3 30 rfl rfl
theorem tw_511 : ex_tW (Jvm.Cond.methodLink "CallerhallLaw" (289 : Nat) ({ cls := "Callerhall", name := "formation", desc := "()C" } : Jvm.MethodName)) := ex_tt ex_q3 31 rfl rfl
theorem tw_512 : ex_tW (Jvm.Cond.instanceMethod ({ cls := "Callerhall", name := "formation", desc := "()C" } : Jvm.MethodName)) := ex_tt ex_q3 32 rfl rfl
theorem tw_513 : ex_tW (Jvm.Cond.selects "Callerhall" ({ cls := "Callerhall", name := "formation", desc := "()C" } : Jvm.MethodName) ({ cls := "Callerhall", name := "formation", desc := "()C" } : Jvm.MethodName)) := ex_tt ex_q3 33 rfl rfl
theorem tw_514 : ex_tW (Jvm.Cond.code ({ cls := "Callerhall", name := "formation", desc := "()C" } : Jvm.MethodName) prog_1_method_33_code (2 : Nat) (Option.some Jvm.ClassFile.FieldType.char)) := ex_tt ex_q3 34 rfl rfl
theorem tw_516 : ex_tW (Jvm.Cond.methodLink "Callerhall" (327 : Nat) ({ cls := "java/lang/String", name := "length", desc := "()I" } : Jvm.MethodName)) := ex_tt ex_q3 36 rfl rfl
theorem tw_517 : ex_tW (Jvm.Cond.instanceMethod ({ cls := "java/lang/String", name := "length", desc := "()I" } : Jvm.MethodName)) := ex_tt ex_q3 37 rfl rfl
theorem tw_518 : ex_tW (Jvm.Cond.selects "java/lang/String" ({ cls := "java/lang/String", name := "length", desc := "()I" } : Jvm.MethodName) ({ cls := "java/lang/String", name := "length", desc := "()I" } : Jvm.MethodName)) := ex_tt ex_q3 38 rfl rfl
theorem tw_519 : ex_tW (Jvm.Cond.code ({ cls := "java/lang/String", name := "length", desc := "()I" } : Jvm.MethodName) prog_38_method_54_code (1 : Nat) (Option.some Jvm.ClassFile.FieldType.int)) := ex_tt ex_q3 39 rfl rfl
theorem tw_520 : ex_tW (Jvm.Cond.methodLink "java/lang/String" (335 : Nat) ({ cls := "java/lang/String", name := "coder", desc := "()B" } : Jvm.MethodName)) := ex_tt ex_q3 40 rfl rfl
theorem tw_521 : ex_tW (Jvm.Cond.instanceMethod ({ cls := "java/lang/String", name := "coder", desc := "()B" } : Jvm.MethodName)) := ex_tt ex_q3 41 rfl rfl
theorem tw_522 : ex_tW (Jvm.Cond.selects "java/lang/String" ({ cls := "java/lang/String", name := "coder", desc := "()B" } : Jvm.MethodName) ({ cls := "java/lang/String", name := "coder", desc := "()B" } : Jvm.MethodName)) := ex_tt ex_q3 42 rfl rfl
theorem tw_523 : ex_tW (Jvm.Cond.code ({ cls := "java/lang/String", name := "coder", desc := "()B" } : Jvm.MethodName) prog_38_method_152_code (1 : Nat) (Option.some Jvm.ClassFile.FieldType.byte)) := ex_tt ex_q3 43 rfl rfl
theorem tw_524 : ex_tW (Jvm.Cond.fieldLink "java/lang/String" (38 : Nat) "java/lang/String" "COMPACT_STRINGS" "Z") := ex_tt ex_q3 44 rfl rfl
theorem tw_526 : ex_tW (Jvm.Cond.methodLink "Callerhall" (330 : Nat) ({ cls := "Callerhall", name := "countOutside", desc := "(I)I" } : Jvm.MethodName)) := ex_tt ex_q3 46 rfl rfl
theorem tw_528 : ex_tW (Jvm.Cond.instanceMethod ({ cls := "Callerhall", name := "countOutside", desc := "(I)I" } : Jvm.MethodName)) := ex_tt ex_q3 48 rfl rfl
theorem tw_529 : ex_tW (Jvm.Cond.code ({ cls := "Callerhall", name := "countOutside", desc := "(I)I" } : Jvm.MethodName) prog_1_method_74_code (6 : Nat) (Option.some Jvm.ClassFile.FieldType.int)) := ex_tt ex_q3 49 rfl rfl
theorem tw_530 : ex_tW (Jvm.Cond.methodLink "Callerhall" (460 : Nat) ({ cls := "Callerhall", name := "isInShape", desc := "(III)Z" } : Jvm.MethodName)) := ex_tt ex_q3 50 rfl rfl
theorem tw_532 : ex_tW (Jvm.Cond.instanceMethod ({ cls := "Callerhall", name := "isInShape", desc := "(III)Z" } : Jvm.MethodName)) := ex_tt ex_q3 52 rfl rfl
theorem tw_533 : ex_tW (Jvm.Cond.code ({ cls := "Callerhall", name := "isInShape", desc := "(III)Z" } : Jvm.MethodName) prog_1_method_75_code (9 : Nat) (Option.some Jvm.ClassFile.FieldType.boolean)) := ex_tt ex_q3 53 rfl rfl
theorem tw_534 : ex_tW (Jvm.Cond.methodLink "Callerhall" (165 : Nat) ({ cls := "Callerhall", name := "turnedX", desc := "(III)I" } : Jvm.MethodName)) := ex_tt ex_q3 54 rfl rfl
theorem tw_535 : ex_tW (Jvm.Cond.static ({ cls := "Callerhall", name := "turnedX", desc := "(III)I" } : Jvm.MethodName)) := ex_tt ex_q3 55 rfl rfl
theorem tw_536 : ex_tW (Jvm.Cond.code ({ cls := "Callerhall", name := "turnedX", desc := "(III)I" } : Jvm.MethodName) prog_1_method_76_code (3 : Nat) (Option.some Jvm.ClassFile.FieldType.int)) := ex_tt ex_q3 56 rfl rfl
theorem tw_537 : ex_tW (Jvm.Cond.methodLink "Callerhall" (169 : Nat) ({ cls := "Callerhall", name := "turnedY", desc := "(III)I" } : Jvm.MethodName)) := ex_tt ex_q3 57 rfl rfl
theorem tw_538 : ex_tW (Jvm.Cond.static ({ cls := "Callerhall", name := "turnedY", desc := "(III)I" } : Jvm.MethodName)) := ex_tt ex_q3 58 rfl rfl
theorem tw_539 : ex_tW (Jvm.Cond.code ({ cls := "Callerhall", name := "turnedY", desc := "(III)I" } : Jvm.MethodName) prog_1_method_77_code (3 : Nat) (Option.some Jvm.ClassFile.FieldType.int)) := ex_tt ex_q3 59 rfl rfl
theorem tw_540 : ex_tW (Jvm.Cond.methodLink "Callerhall" (467 : Nat) ({ cls := "java/lang/Math", name := "max", desc := "(II)I" } : Jvm.MethodName)) := ex_tt ex_q3 60 rfl rfl
theorem tw_541 : ex_tW (Jvm.Cond.static ({ cls := "java/lang/Math", name := "max", desc := "(II)I" } : Jvm.MethodName)) := ex_tt ex_q3 61 rfl rfl
theorem tw_542 : ex_tW (Jvm.Cond.code ({ cls := "java/lang/Math", name := "max", desc := "(II)I" } : Jvm.MethodName) prog_35_method_65_code (2 : Nat) (Option.some Jvm.ClassFile.FieldType.int)) := ex_tt ex_q3 62 rfl rfl
theorem tw_543 : ex_tW (Jvm.Cond.fieldLink "Callerhall" (470 : Nat) "Callerhall" "SHAPE_X" "[I") := ex_tt ex_q3 63 rfl rfl
theorem tw_545 : ex_tW (Jvm.Cond.fieldLink "Callerhall" (473 : Nat) "Callerhall" "SHAPE_Y" "[I") := ex_tt ex_q3 65 rfl rfl
theorem tw_547 : ex_tW (Jvm.Cond.fieldLink "Callerhall" (476 : Nat) "Callerhall" "SHAPE_F" "[I") := ex_tt ex_q3 67 rfl rfl
theorem tw_549 : ex_tW (Jvm.Cond.methodLink "Callerhall" (464 : Nat) ({ cls := "java/lang/Math", name := "min", desc := "(II)I" } : Jvm.MethodName)) := ex_tt ex_q3 69 rfl rfl
theorem tw_550 : ex_tW (Jvm.Cond.static ({ cls := "java/lang/Math", name := "min", desc := "(II)I" } : Jvm.MethodName)) := ex_tt ex_q3 70 rfl rfl
theorem tw_551 : ex_tW (Jvm.Cond.code ({ cls := "java/lang/Math", name := "min", desc := "(II)I" } : Jvm.MethodName) prog_35_method_69_code (2 : Nat) (Option.some Jvm.ClassFile.FieldType.int)) := ex_tt ex_q3 71 rfl rfl
theorem tw_552 : ex_tW (Jvm.Cond.methodLink "Callerhall" (333 : Nat) ({ cls := "java/lang/String", name := "charAt", desc := "(I)C" } : Jvm.MethodName)) := ex_tt ex_q3 72 rfl rfl
theorem tw_553 : ex_tW (Jvm.Cond.instanceMethod ({ cls := "java/lang/String", name := "charAt", desc := "(I)C" } : Jvm.MethodName)) := ex_tt ex_q3 73 rfl rfl
theorem tw_554 : ex_tW (Jvm.Cond.selects "java/lang/String" ({ cls := "java/lang/String", name := "charAt", desc := "(I)C" } : Jvm.MethodName) ({ cls := "java/lang/String", name := "charAt", desc := "(I)C" } : Jvm.MethodName)) := ex_tt ex_q3 74 rfl rfl
theorem tw_555 : ex_tW (Jvm.Cond.code ({ cls := "java/lang/String", name := "charAt", desc := "(I)C" } : Jvm.MethodName) prog_38_method_56_code (2 : Nat) (Option.some Jvm.ClassFile.FieldType.char)) := ex_tt ex_q3 75 rfl rfl
theorem tw_556 : ex_tW (Jvm.Cond.methodLink "java/lang/String" (492 : Nat) ({ cls := "java/lang/String", name := "isLatin1", desc := "()Z" } : Jvm.MethodName)) := ex_tt ex_q3 76 rfl rfl
theorem tw_557 : ex_tW (Jvm.Cond.instanceMethod ({ cls := "java/lang/String", name := "isLatin1", desc := "()Z" } : Jvm.MethodName)) := ex_tt ex_q3 77 rfl rfl
theorem tw_558 : ex_tW (Jvm.Cond.selects "java/lang/String" ({ cls := "java/lang/String", name := "isLatin1", desc := "()Z" } : Jvm.MethodName) ({ cls := "java/lang/String", name := "isLatin1", desc := "()Z" } : Jvm.MethodName)) := ex_tt ex_q3 78 rfl rfl
theorem tw_559 : ex_tW (Jvm.Cond.code ({ cls := "java/lang/String", name := "isLatin1", desc := "()Z" } : Jvm.MethodName) prog_38_method_154_code (1 : Nat) (Option.some Jvm.ClassFile.FieldType.boolean)) := ex_tt ex_q3 79 rfl rfl
theorem tw_560 : ex_tW (Jvm.Cond.methodLink "java/lang/String" (495 : Nat) ({ cls := "java/lang/StringLatin1", name := "charAt", desc := "([BI)C" } : Jvm.MethodName)) := ex_tt ex_q3 80 rfl rfl
theorem tw_561 : ex_tW (Jvm.Cond.static ({ cls := "java/lang/StringLatin1", name := "charAt", desc := "([BI)C" } : Jvm.MethodName)) := ex_tt ex_q3 81 rfl rfl
theorem tw_562 : ex_tW (Jvm.Cond.code ({ cls := "java/lang/StringLatin1", name := "charAt", desc := "([BI)C" } : Jvm.MethodName) prog_40_method_2_code (2 : Nat) (Option.some Jvm.ClassFile.FieldType.char)) := ex_tt ex_q3 82 rfl rfl
theorem tw_563 : ex_tW (Jvm.Cond.methodLink "java/lang/StringLatin1" (9 : Nat) ({ cls := "java/lang/String", name := "checkIndex", desc := "(II)V" } : Jvm.MethodName)) := ex_tt ex_q3 83 rfl rfl
theorem tw_564 : ex_tW (Jvm.Cond.static ({ cls := "java/lang/String", name := "checkIndex", desc := "(II)V" } : Jvm.MethodName)) := ex_tt ex_q3 84 rfl rfl
theorem tw_565 : ex_tW (Jvm.Cond.code ({ cls := "java/lang/String", name := "checkIndex", desc := "(II)V" } : Jvm.MethodName) prog_38_method_155_code (2 : Nat) (Option.none : Option Jvm.ClassFile.FieldType)) := ex_tt ex_q3 85 rfl rfl
theorem tw_566 : ex_tW (Jvm.Cond.fieldLink "java/lang/String" (1053 : Nat) "jdk/internal/util/Preconditions" "SIOOBE_FORMATTER" "Ljava/util/function/BiFunction;") := ex_tt ex_q3 86 rfl rfl
theorem tw_568 : ex_tW (Jvm.Cond.methodLink "java/lang/String" (1059 : Nat) ({ cls := "jdk/internal/util/Preconditions", name := "checkIndex", desc := "(IILjava/util/function/BiFunction;)I" } : Jvm.MethodName)) := ex_tt ex_q3 88 rfl rfl
theorem tw_569 : ex_tW (Jvm.Cond.static ({ cls := "jdk/internal/util/Preconditions", name := "checkIndex", desc := "(IILjava/util/function/BiFunction;)I" } : Jvm.MethodName)) := ex_tt ex_q3 89 rfl rfl
theorem tw_570 : ex_tW (Jvm.Cond.code ({ cls := "jdk/internal/util/Preconditions", name := "checkIndex", desc := "(IILjava/util/function/BiFunction;)I" } : Jvm.MethodName) prog_66_method_11_code (3 : Nat) (Option.some Jvm.ClassFile.FieldType.int)) := ex_tt ex_q3 90 rfl rfl
theorem tw_591 : ex_tW (Jvm.Cond.methodLink "CallerhallLaw" (311 : Nat) ({ cls := "Callerhall", name := "isHome", desc := "()Z" } : Jvm.MethodName)) := ex_tt ex_q3 111 rfl rfl
theorem tw_592 : ex_tW (Jvm.Cond.instanceMethod ({ cls := "Callerhall", name := "isHome", desc := "()Z" } : Jvm.MethodName)) := ex_tt ex_q3 112 rfl rfl
theorem tw_593 : ex_tW (Jvm.Cond.selects "Callerhall" ({ cls := "Callerhall", name := "isHome", desc := "()Z" } : Jvm.MethodName) ({ cls := "Callerhall", name := "isHome", desc := "()Z" } : Jvm.MethodName)) := ex_tt ex_q3 113 rfl rfl
theorem tw_594 : ex_tW (Jvm.Cond.code ({ cls := "Callerhall", name := "isHome", desc := "()Z" } : Jvm.MethodName) prog_1_method_35_code (1 : Nat) (Option.some Jvm.ClassFile.FieldType.boolean)) := ex_tt ex_q3 114 rfl rfl
theorem tw_595 : ex_tW (Jvm.Cond.methodLink "Callerhall" (336 : Nat) ({ cls := "Callerhall", name := "areHome", desc := "([I[I[I)Z" } : Jvm.MethodName)) := ex_tt ex_q3 115 rfl rfl
theorem tw_597 : ex_tW (Jvm.Cond.instanceMethod ({ cls := "Callerhall", name := "areHome", desc := "([I[I[I)Z" } : Jvm.MethodName)) := ex_tt ex_q3 117 rfl rfl
theorem tw_598 : ex_tW (Jvm.Cond.code ({ cls := "Callerhall", name := "areHome", desc := "([I[I[I)Z" } : Jvm.MethodName) prog_1_method_73_code (8 : Nat) (Option.some Jvm.ClassFile.FieldType.boolean)) := ex_tt ex_q3 118 rfl rfl
theorem tw_599 : ex_tW (Jvm.Cond.methodLink "Callerhall" (406 : Nat) ({ cls := "Callerhall", name := "spotOf", desc := "(I)I" } : Jvm.MethodName)) := ex_tt ex_q3 119 rfl rfl
theorem tw_601 : ex_tW (Jvm.Cond.instanceMethod ({ cls := "Callerhall", name := "spotOf", desc := "(I)I" } : Jvm.MethodName)) := ex_tt ex_q3 121 rfl rfl
theorem tw_602 : ex_tW (Jvm.Cond.code ({ cls := "Callerhall", name := "spotOf", desc := "(I)I" } : Jvm.MethodName) prog_1_method_71_code (3 : Nat) (Option.some Jvm.ClassFile.FieldType.int)) := ex_tt ex_q3 122 rfl rfl
theorem tw_603 : ex_tW (Jvm.Cond.methodLink "CallerhallLaw" (326 : Nat) ({ cls := "Callerhall", name := "isSymmetric", desc := "()Z" } : Jvm.MethodName)) := ex_tt ex_q3 123 rfl rfl
theorem tw_604 : ex_tW (Jvm.Cond.instanceMethod ({ cls := "Callerhall", name := "isSymmetric", desc := "()Z" } : Jvm.MethodName)) := ex_tt ex_q3 124 rfl rfl
theorem tw_605 : ex_tW (Jvm.Cond.selects "Callerhall" ({ cls := "Callerhall", name := "isSymmetric", desc := "()Z" } : Jvm.MethodName) ({ cls := "Callerhall", name := "isSymmetric", desc := "()Z" } : Jvm.MethodName)) := ex_tt ex_q3 125 rfl rfl
theorem tw_606 : ex_tW (Jvm.Cond.code ({ cls := "Callerhall", name := "isSymmetric", desc := "()Z" } : Jvm.MethodName) prog_1_method_36_code (3 : Nat) (Option.some Jvm.ClassFile.FieldType.boolean)) := ex_tt ex_q3 126 rfl rfl
theorem tw_607 : ex_tW (Jvm.Cond.classLink "CallerhallLaw" (149 : Nat) "CallerhallLaw$Draw") := ex_tt ex_q3 127 rfl rfl
theorem tw_608 : ex_tW (Jvm.Cond.instantiable "CallerhallLaw$Draw" (1 : Nat)) := ex_tt ex_q3 128 rfl rfl
theorem tw_609 : ex_tW (Jvm.Cond.methodLink "CallerhallLaw" (335 : Nat) ({ cls := "CallerhallLaw$Draw", name := "<init>", desc := "(I)V" } : Jvm.MethodName)) := ex_tt ex_q3 129 rfl rfl
theorem tw_610 : ex_tW (Jvm.Cond.instanceMethod ({ cls := "CallerhallLaw$Draw", name := "<init>", desc := "(I)V" } : Jvm.MethodName)) := ex_tt ex_q3 130 rfl rfl
theorem tw_611 : ex_tW (Jvm.Cond.code ({ cls := "CallerhallLaw$Draw", name := "<init>", desc := "(I)V" } : Jvm.MethodName) prog_14_method_1_code (2 : Nat) (Option.none : Option Jvm.ClassFile.FieldType)) := ex_tt ex_q3 131 rfl rfl
theorem tw_612 : ex_tW (Jvm.Cond.methodLink "CallerhallLaw$Draw" (1 : Nat) ({ cls := "java/lang/Object", name := "<init>", desc := "()V" } : Jvm.MethodName)) := ex_tt ex_q3 132 rfl rfl
theorem tw_613 : ex_tW (Jvm.Cond.constant "CallerhallLaw$Draw" (7 : Nat) (48271 : Int32)) := ex_tt ex_q3 133 rfl rfl
theorem tw_614 : ex_tW (Jvm.Cond.fieldLink "CallerhallLaw$Draw" (8 : Nat) "CallerhallLaw$Draw" "state" "I") := ex_tt ex_q3 134 rfl rfl
theorem tw_618 : ex_tW (Jvm.Cond.methodLink "CallerhallLaw" (331 : Nat) ({ cls := "CallerhallLaw", name := "cell", desc := "([II)I" } : Jvm.MethodName)) := ex_tt ex_q3 138 rfl rfl
theorem tw_619 : ex_tW (Jvm.Cond.static ({ cls := "CallerhallLaw", name := "cell", desc := "([II)I" } : Jvm.MethodName)) := ex_tt ex_q3 139 rfl rfl
theorem tw_620 : ex_tW (Jvm.Cond.code ({ cls := "CallerhallLaw", name := "cell", desc := "([II)I" } : Jvm.MethodName) method_2_code (2 : Nat) (Option.some Jvm.ClassFile.FieldType.int)) := ex_tt ex_q3 140 rfl rfl
theorem tw_621 : ex_tW (Jvm.Cond.constant "CallerhallLaw" (7 : Nat) (65535 : Int32)) := ex_tt ex_q3 141 rfl rfl
theorem tw_622 : ex_tW (Jvm.Cond.methodLink "CallerhallLaw" (250 : Nat) ({ cls := "CallerhallLaw", name := "x", desc := "(LCallerhall;I)I" } : Jvm.MethodName)) := ex_tt ex_q3 142 rfl rfl
theorem tw_623 : ex_tW (Jvm.Cond.static ({ cls := "CallerhallLaw", name := "x", desc := "(LCallerhall;I)I" } : Jvm.MethodName)) := ex_tt ex_q3 143 rfl rfl
theorem tw_624 : ex_tW (Jvm.Cond.codeWith ({ cls := "CallerhallLaw", name := "x", desc := "(LCallerhall;I)I" } : Jvm.MethodName) method_3_code (3 : Nat) (Option.some Jvm.ClassFile.FieldType.int) [((0 : Nat), (5 : Nat), (6 : Nat), (14 : Nat))]) := ex_tt ex_q3 144 rfl rfl
theorem tw_625 : ex_tW (Jvm.Cond.classLink "CallerhallLaw" (14 : Nat) "java/lang/IndexOutOfBoundsException") := ex_tt ex_q3 145 rfl rfl
theorem tw_704 : ex_tW (Jvm.Cond.methodLink "CallerhallLaw" (8 : Nat) ({ cls := "Callerhall", name := "x", desc := "(I)I" } : Jvm.MethodName)) := ex_tt ex_q3 224 rfl rfl
theorem tw_705 : ex_tW (Jvm.Cond.instanceMethod ({ cls := "Callerhall", name := "x", desc := "(I)I" } : Jvm.MethodName)) := ex_tt ex_q3 225 rfl rfl
theorem tw_706 : ex_tW (Jvm.Cond.selects "Callerhall" ({ cls := "Callerhall", name := "x", desc := "(I)I" } : Jvm.MethodName) ({ cls := "Callerhall", name := "x", desc := "(I)I" } : Jvm.MethodName)) := ex_tt ex_q3 226 rfl rfl
theorem tw_707 : ex_tW (Jvm.Cond.code ({ cls := "Callerhall", name := "x", desc := "(I)I" } : Jvm.MethodName) prog_1_method_3_code (2 : Nat) (Option.some Jvm.ClassFile.FieldType.int)) := ex_tt ex_q3 227 rfl rfl
theorem tw_708 : ex_tW (Jvm.Cond.methodLink "Callerhall" (129 : Nat) ({ cls := "Callerhall", name := "checkDancer", desc := "(I)V" } : Jvm.MethodName)) := ex_tt ex_q3 228 rfl rfl
theorem tw_710 : ex_tW (Jvm.Cond.instanceMethod ({ cls := "Callerhall", name := "checkDancer", desc := "(I)V" } : Jvm.MethodName)) := ex_tt ex_q3 230 rfl rfl
theorem tw_711 : ex_tW (Jvm.Cond.code ({ cls := "Callerhall", name := "checkDancer", desc := "(I)V" } : Jvm.MethodName) prog_1_method_54_code (2 : Nat) (Option.none : Option Jvm.ClassFile.FieldType)) := ex_tt ex_q3 231 rfl rfl
theorem tw_712 : ex_tW (Jvm.Cond.classLink "Callerhall" (292 : Nat) "java/lang/IndexOutOfBoundsException") := ex_tt ex_q3 232 rfl rfl
theorem tw_714 : (Jvm.Cond.castable "java/lang/IndexOutOfBoundsException" "java/lang/IndexOutOfBoundsException") ∈ ex_TN := ex_twn ex_q3 234 rfl rfl
theorem tw_733 : ex_tW (Jvm.Cond.methodLink "CallerhallLaw" (228 : Nat) ({ cls := "CallerhallLaw", name := "dance", desc := "(LCallerhall;CCCII)I" } : Jvm.MethodName)) := ex_tt ex_q4 13 rfl rfl
theorem tw_734 : ex_tW (Jvm.Cond.static ({ cls := "CallerhallLaw", name := "dance", desc := "(LCallerhall;CCCII)I" } : Jvm.MethodName)) := ex_tt ex_q4 14 rfl rfl
theorem tw_735 : ex_tW (Jvm.Cond.codeWith ({ cls := "CallerhallLaw", name := "dance", desc := "(LCallerhall;CCCII)I" } : Jvm.MethodName) method_20_code (7 : Nat) (Option.some Jvm.ClassFile.FieldType.int) [((0 : Nat), (11 : Nat), (12 : Nat), (26 : Nat)), ((0 : Nat), (11 : Nat), (16 : Nat), (40 : Nat)), ((0 : Nat), (11 : Nat), (21 : Nat), (28 : Nat))]) := ex_tt ex_q4 15 rfl rfl
theorem tw_736 : ex_tW (Jvm.Cond.classLink "CallerhallLaw" (26 : Nat) "java/lang/IllegalArgumentException") := ex_tt ex_q4 16 rfl rfl
theorem tw_737 : ex_tW (Jvm.Cond.classLink "CallerhallLaw" (40 : Nat) "java/util/NoSuchElementException") := ex_tt ex_q4 17 rfl rfl
theorem tw_738 : ex_tW (Jvm.Cond.classLink "CallerhallLaw" (28 : Nat) "java/lang/UnsupportedOperationException") := ex_tt ex_q4 18 rfl rfl
theorem tw_739 : ex_tW (Jvm.Cond.methodLink "CallerhallLaw" (78 : Nat) ({ cls := "Callerhall", name := "dance", desc := "(CCCII)I" } : Jvm.MethodName)) := ex_tt ex_q4 19 rfl rfl
theorem tw_740 : ex_tW (Jvm.Cond.instanceMethod ({ cls := "Callerhall", name := "dance", desc := "(CCCII)I" } : Jvm.MethodName)) := ex_tt ex_q4 20 rfl rfl
theorem tw_741 : ex_tW (Jvm.Cond.selects "Callerhall" ({ cls := "Callerhall", name := "dance", desc := "(CCCII)I" } : Jvm.MethodName) ({ cls := "Callerhall", name := "dance", desc := "(CCCII)I" } : Jvm.MethodName)) := ex_tt ex_q4 21 rfl rfl
theorem tw_742 : ex_tW (Jvm.Cond.code ({ cls := "Callerhall", name := "dance", desc := "(CCCII)I" } : Jvm.MethodName) prog_1_method_21_code (10 : Nat) (Option.some Jvm.ClassFile.FieldType.int)) := ex_tt ex_q4 22 rfl rfl
theorem tw_743 : ex_tW (Jvm.Cond.methodLink "Callerhall" (191 : Nat) ({ cls := "Callerhall", name := "whoOf", desc := "(C)I" } : Jvm.MethodName)) := ex_tt ex_q4 23 rfl rfl
theorem tw_745 : ex_tW (Jvm.Cond.instanceMethod ({ cls := "Callerhall", name := "whoOf", desc := "(C)I" } : Jvm.MethodName)) := ex_tt ex_q4 25 rfl rfl
theorem tw_746 : ex_tW (Jvm.Cond.code ({ cls := "Callerhall", name := "whoOf", desc := "(C)I" } : Jvm.MethodName) prog_1_method_60_code (2 : Nat) (Option.some Jvm.ClassFile.FieldType.int)) := ex_tt ex_q4 26 rfl rfl
theorem tw_748 : ex_tW (Jvm.Cond.methodLink "Callerhall" (423 : Nat) ({ cls := "Callerhall", name := "indexIn", desc := "(Ljava/lang/String;C)I" } : Jvm.MethodName)) := ex_tt ex_q4 28 rfl rfl
theorem tw_750 : ex_tW (Jvm.Cond.instanceMethod ({ cls := "Callerhall", name := "indexIn", desc := "(Ljava/lang/String;C)I" } : Jvm.MethodName)) := ex_tt ex_q4 30 rfl rfl
theorem tw_751 : ex_tW (Jvm.Cond.code ({ cls := "Callerhall", name := "indexIn", desc := "(Ljava/lang/String;C)I" } : Jvm.MethodName) prog_1_method_62_code (4 : Nat) (Option.some Jvm.ClassFile.FieldType.int)) := ex_tt ex_q4 31 rfl rfl
theorem tw_752 : ex_tW (Jvm.Cond.methodLink "Callerhall" (233 : Nat) ({ cls := "java/lang/String", name := "indexOf", desc := "(I)I" } : Jvm.MethodName)) := ex_tt ex_q4 32 rfl rfl
theorem tw_753 : ex_tW (Jvm.Cond.instanceMethod ({ cls := "java/lang/String", name := "indexOf", desc := "(I)I" } : Jvm.MethodName)) := ex_tt ex_q4 33 rfl rfl
theorem tw_754 : ex_tW (Jvm.Cond.selects "java/lang/String" ({ cls := "java/lang/String", name := "indexOf", desc := "(I)I" } : Jvm.MethodName) ({ cls := "java/lang/String", name := "indexOf", desc := "(I)I" } : Jvm.MethodName)) := ex_tt ex_q4 34 rfl rfl
theorem tw_755 : ex_tW (Jvm.Cond.code ({ cls := "java/lang/String", name := "indexOf", desc := "(I)I" } : Jvm.MethodName) prog_38_method_79_code (2 : Nat) (Option.some Jvm.ClassFile.FieldType.int)) := ex_tt ex_q4 35 rfl rfl
theorem tw_756 : ex_tW (Jvm.Cond.methodLink "java/lang/String" (633 : Nat) ({ cls := "java/lang/String", name := "indexOf", desc := "(II)I" } : Jvm.MethodName)) := ex_tt ex_q4 36 rfl rfl
theorem tw_757 : ex_tW (Jvm.Cond.instanceMethod ({ cls := "java/lang/String", name := "indexOf", desc := "(II)I" } : Jvm.MethodName)) := ex_tt ex_q4 37 rfl rfl
theorem tw_758 : ex_tW (Jvm.Cond.selects "java/lang/String" ({ cls := "java/lang/String", name := "indexOf", desc := "(II)I" } : Jvm.MethodName) ({ cls := "java/lang/String", name := "indexOf", desc := "(II)I" } : Jvm.MethodName)) := ex_tt ex_q4 38 rfl rfl
theorem tw_759 : ex_tW (Jvm.Cond.code ({ cls := "java/lang/String", name := "indexOf", desc := "(II)I" } : Jvm.MethodName) prog_38_method_80_code (3 : Nat) (Option.some Jvm.ClassFile.FieldType.int)) := ex_tt ex_q4 39 rfl rfl
theorem tw_760 : ex_tW (Jvm.Cond.methodLink "java/lang/String" (505 : Nat) ({ cls := "java/lang/String", name := "length", desc := "()I" } : Jvm.MethodName)) := ex_tt ex_q4 40 rfl rfl
theorem tw_761 : ex_tW (Jvm.Cond.methodLink "java/lang/String" (637 : Nat) ({ cls := "java/lang/StringLatin1", name := "indexOf", desc := "([BIII)I" } : Jvm.MethodName)) := ex_tt ex_q4 41 rfl rfl
theorem tw_762 : ex_tW (Jvm.Cond.static ({ cls := "java/lang/StringLatin1", name := "indexOf", desc := "([BIII)I" } : Jvm.MethodName)) := ex_tt ex_q4 42 rfl rfl
theorem tw_763 : ex_tW (Jvm.Cond.code ({ cls := "java/lang/StringLatin1", name := "indexOf", desc := "([BIII)I" } : Jvm.MethodName) prog_40_method_22_code (4 : Nat) (Option.some Jvm.ClassFile.FieldType.int)) := ex_tt ex_q4 43 rfl rfl
theorem tw_764 : ex_tW (Jvm.Cond.methodLink "java/lang/StringLatin1" (88 : Nat) ({ cls := "java/lang/StringLatin1", name := "canEncode", desc := "(I)Z" } : Jvm.MethodName)) := ex_tt ex_q4 44 rfl rfl
theorem tw_765 : ex_tW (Jvm.Cond.static ({ cls := "java/lang/StringLatin1", name := "canEncode", desc := "(I)Z" } : Jvm.MethodName)) := ex_tt ex_q4 45 rfl rfl
theorem tw_766 : ex_tW (Jvm.Cond.code ({ cls := "java/lang/StringLatin1", name := "canEncode", desc := "(I)Z" } : Jvm.MethodName) prog_40_method_4_code (1 : Nat) (Option.some Jvm.ClassFile.FieldType.boolean)) := ex_tt ex_q4 46 rfl rfl
theorem tw_767 : ex_tW (Jvm.Cond.methodLink "java/lang/StringLatin1" (92 : Nat) ({ cls := "java/lang/Math", name := "max", desc := "(II)I" } : Jvm.MethodName)) := ex_tt ex_q4 47 rfl rfl
theorem tw_768 : ex_tW (Jvm.Cond.methodLink "java/lang/StringLatin1" (38 : Nat) ({ cls := "java/lang/Math", name := "min", desc := "(II)I" } : Jvm.MethodName)) := ex_tt ex_q4 48 rfl rfl
theorem tw_769 : ex_tW (Jvm.Cond.methodLink "java/lang/StringLatin1" (95 : Nat) ({ cls := "java/lang/StringLatin1", name := "indexOfChar", desc := "([BIII)I" } : Jvm.MethodName)) := ex_tt ex_q4 49 rfl rfl
theorem tw_770 : ex_tW (Jvm.Cond.static ({ cls := "java/lang/StringLatin1", name := "indexOfChar", desc := "([BIII)I" } : Jvm.MethodName)) := ex_tt ex_q4 50 rfl rfl
theorem tw_771 : ex_tW (Jvm.Cond.code ({ cls := "java/lang/StringLatin1", name := "indexOfChar", desc := "([BIII)I" } : Jvm.MethodName) prog_40_method_23_code (6 : Nat) (Option.some Jvm.ClassFile.FieldType.int)) := ex_tt ex_q4 51 rfl rfl
theorem tw_807 : ex_tW (Jvm.Cond.classLink "Callerhall" (156 : Nat) "java/lang/IllegalArgumentException") := ex_tt ex_q4 87 rfl rfl
theorem tw_809 : (Jvm.Cond.castable "java/lang/IllegalArgumentException" "java/lang/IllegalArgumentException") ∈ ex_TN := ex_twn ex_q4 89 rfl rfl
theorem tw_822 : ex_tW (Jvm.Cond.methodLink "Callerhall" (194 : Nat) ({ cls := "Callerhall", name := "conceptOf", desc := "(C)I" } : Jvm.MethodName)) := ex_tt ex_q4 102 rfl rfl
theorem tw_824 : ex_tW (Jvm.Cond.instanceMethod ({ cls := "Callerhall", name := "conceptOf", desc := "(C)I" } : Jvm.MethodName)) := ex_tt ex_q4 104 rfl rfl
theorem tw_825 : ex_tW (Jvm.Cond.code ({ cls := "Callerhall", name := "conceptOf", desc := "(C)I" } : Jvm.MethodName) prog_1_method_61_code (2 : Nat) (Option.some Jvm.ClassFile.FieldType.int)) := ex_tt ex_q4 105 rfl rfl
theorem tw_828 : ex_tW (Jvm.Cond.methodLink "Callerhall" (221 : Nat) ({ cls := "Callerhall", name := "readCall", desc := "(C)V" } : Jvm.MethodName)) := ex_tt ex_q4 108 rfl rfl
theorem tw_830 : ex_tW (Jvm.Cond.instanceMethod ({ cls := "Callerhall", name := "readCall", desc := "(C)V" } : Jvm.MethodName)) := ex_tt ex_q4 110 rfl rfl
theorem tw_831 : ex_tW (Jvm.Cond.code ({ cls := "Callerhall", name := "readCall", desc := "(C)V" } : Jvm.MethodName) prog_1_method_63_code (4 : Nat) (Option.none : Option Jvm.ClassFile.FieldType)) := ex_tt ex_q4 111 rfl rfl
theorem tw_832 : ex_tW (Jvm.Cond.methodLink "Callerhall" (280 : Nat) ({ cls := "Callerhall$Plan", name := "readAct", desc := "(I)V" } : Jvm.MethodName)) := ex_tt ex_q4 112 rfl rfl
theorem tw_833 : ex_tW (Jvm.Cond.instanceMethod ({ cls := "Callerhall$Plan", name := "readAct", desc := "(I)V" } : Jvm.MethodName)) := ex_tt ex_q4 113 rfl rfl
theorem tw_834 : ex_tW (Jvm.Cond.selects "Callerhall$Plan" ({ cls := "Callerhall$Plan", name := "readAct", desc := "(I)V" } : Jvm.MethodName) ({ cls := "Callerhall$Plan", name := "readAct", desc := "(I)V" } : Jvm.MethodName)) := ex_tt ex_q4 114 rfl rfl
theorem tw_835 : ex_tW (Jvm.Cond.code ({ cls := "Callerhall$Plan", name := "readAct", desc := "(I)V" } : Jvm.MethodName) prog_8_method_4_code (2 : Nat) (Option.none : Option Jvm.ClassFile.FieldType)) := ex_tt ex_q4 115 rfl rfl
theorem tw_836 : ex_tW (Jvm.Cond.methodLink "Callerhall$Plan" (54 : Nat) ({ cls := "Callerhall$Plan", name := "clear", desc := "()V" } : Jvm.MethodName)) := ex_tt ex_q4 116 rfl rfl
theorem tw_837 : ex_tW (Jvm.Cond.instanceMethod ({ cls := "Callerhall$Plan", name := "clear", desc := "()V" } : Jvm.MethodName)) := ex_tt ex_q4 117 rfl rfl
theorem tw_838 : ex_tW (Jvm.Cond.selects "Callerhall$Plan" ({ cls := "Callerhall$Plan", name := "clear", desc := "()V" } : Jvm.MethodName) ({ cls := "Callerhall$Plan", name := "clear", desc := "()V" } : Jvm.MethodName)) := ex_tt ex_q4 118 rfl rfl
theorem tw_839 : ex_tW (Jvm.Cond.code ({ cls := "Callerhall$Plan", name := "clear", desc := "()V" } : Jvm.MethodName) prog_8_method_2_code (1 : Nat) (Option.none : Option Jvm.ClassFile.FieldType)) := ex_tt ex_q4 119 rfl rfl
theorem tw_840 : ex_tW (Jvm.Cond.methodLink "Callerhall$Plan" (57 : Nat) ({ cls := "Callerhall$Plan", name := "append", desc := "(III)V" } : Jvm.MethodName)) := ex_tt ex_q4 120 rfl rfl
theorem tw_842 : ex_tW (Jvm.Cond.instanceMethod ({ cls := "Callerhall$Plan", name := "append", desc := "(III)V" } : Jvm.MethodName)) := ex_tt ex_q4 122 rfl rfl
theorem tw_843 : ex_tW (Jvm.Cond.code ({ cls := "Callerhall$Plan", name := "append", desc := "(III)V" } : Jvm.MethodName) prog_8_method_3_code (4 : Nat) (Option.none : Option Jvm.ClassFile.FieldType)) := ex_tt ex_q4 123 rfl rfl
theorem tw_844 : (Jvm.Cond.fieldLinkNest "Callerhall$Plan" (42 : Nat) "Callerhall" "ACT_PARTS" "[I" "Callerhall") ∈ ex_TN := ex_twn ex_q4 124 rfl rfl
theorem tw_846 : (Jvm.Cond.fieldLinkNest "Callerhall$Plan" (45 : Nat) "Callerhall" "ACT_LEVELS" "[I" "Callerhall") ∈ ex_TN := ex_twn ex_q4 126 rfl rfl
theorem tw_848 : ex_tW (Jvm.Cond.methodLink "Callerhall$Plan" (48 : Nat) ({ cls := "java/lang/Math", name := "max", desc := "(II)I" } : Jvm.MethodName)) := ex_tt ex_q4 128 rfl rfl
theorem tw_849 : ex_tW (Jvm.Cond.methodLink "Callerhall" (184 : Nat) ({ cls := "Callerhall", name := "letterOf", desc := "(C)I" } : Jvm.MethodName)) := ex_tt ex_q4 129 rfl rfl
theorem tw_851 : ex_tW (Jvm.Cond.instanceMethod ({ cls := "Callerhall", name := "letterOf", desc := "(C)I" } : Jvm.MethodName)) := ex_tt ex_q4 131 rfl rfl
theorem tw_852 : ex_tW (Jvm.Cond.code ({ cls := "Callerhall", name := "letterOf", desc := "(C)I" } : Jvm.MethodName) prog_1_method_58_code (2 : Nat) (Option.some Jvm.ClassFile.FieldType.int)) := ex_tt ex_q4 132 rfl rfl
theorem tw_854 : ex_tW (Jvm.Cond.methodLink "Callerhall" (431 : Nat) ({ cls := "Callerhall$Book", name := "holding", desc := "(II)I" } : Jvm.MethodName)) := ex_tt ex_q4 134 rfl rfl
theorem tw_855 : ex_tW (Jvm.Cond.instanceMethod ({ cls := "Callerhall$Book", name := "holding", desc := "(II)I" } : Jvm.MethodName)) := ex_tt ex_q4 135 rfl rfl
theorem tw_856 : ex_tW (Jvm.Cond.selects "Callerhall$Book" ({ cls := "Callerhall$Book", name := "holding", desc := "(II)I" } : Jvm.MethodName) ({ cls := "Callerhall$Book", name := "holding", desc := "(II)I" } : Jvm.MethodName)) := ex_tt ex_q4 136 rfl rfl
theorem tw_857 : ex_tW (Jvm.Cond.code ({ cls := "Callerhall$Book", name := "holding", desc := "(II)I" } : Jvm.MethodName) prog_2_method_3_code (6 : Nat) (Option.some Jvm.ClassFile.FieldType.int)) := ex_tt ex_q4 137 rfl rfl
theorem tw_858 : ex_tW (Jvm.Cond.classLink "Callerhall" (172 : Nat) "java/util/NoSuchElementException") := ex_tt ex_q4 138 rfl rfl
theorem tw_860 : (Jvm.Cond.castable "java/util/NoSuchElementException" "java/util/NoSuchElementException") ∈ ex_TN := ex_twn ex_q4 140 rfl rfl
theorem tw_873 : ex_tW (Jvm.Cond.methodLink "Callerhall" (211 : Nat) ({ cls := "Callerhall$Plan", name := "readVersion", desc := "(LCallerhall$Book;I)V" } : Jvm.MethodName)) := ex_tt ex_q4 153 rfl rfl
theorem tw_874 : ex_tW (Jvm.Cond.instanceMethod ({ cls := "Callerhall$Plan", name := "readVersion", desc := "(LCallerhall$Book;I)V" } : Jvm.MethodName)) := ex_tt ex_q4 154 rfl rfl
theorem tw_875 : ex_tW (Jvm.Cond.selects "Callerhall$Plan" ({ cls := "Callerhall$Plan", name := "readVersion", desc := "(LCallerhall$Book;I)V" } : Jvm.MethodName) ({ cls := "Callerhall$Plan", name := "readVersion", desc := "(LCallerhall$Book;I)V" } : Jvm.MethodName)) := ex_tt ex_q4 155 rfl rfl
theorem tw_876 : ex_tW (Jvm.Cond.code ({ cls := "Callerhall$Plan", name := "readVersion", desc := "(LCallerhall$Book;I)V" } : Jvm.MethodName) prog_8_method_6_code (4 : Nat) (Option.none : Option Jvm.ClassFile.FieldType)) := ex_tt ex_q4 156 rfl rfl
theorem tw_877 : ex_tW (Jvm.Cond.methodLink "Callerhall" (238 : Nat) ({ cls := "Callerhall$Plan", name := "putOn", desc := "(II)V" } : Jvm.MethodName)) := ex_tt ex_q4 157 rfl rfl
theorem tw_878 : ex_tW (Jvm.Cond.instanceMethod ({ cls := "Callerhall$Plan", name := "putOn", desc := "(II)V" } : Jvm.MethodName)) := ex_tt ex_q4 158 rfl rfl
theorem tw_879 : ex_tW (Jvm.Cond.selects "Callerhall$Plan" ({ cls := "Callerhall$Plan", name := "putOn", desc := "(II)V" } : Jvm.MethodName) ({ cls := "Callerhall$Plan", name := "putOn", desc := "(II)V" } : Jvm.MethodName)) := ex_tt ex_q4 159 rfl rfl
theorem tw_880 : ex_tW (Jvm.Cond.code ({ cls := "Callerhall$Plan", name := "putOn", desc := "(II)V" } : Jvm.MethodName) prog_8_method_5_code (3 : Nat) (Option.none : Option Jvm.ClassFile.FieldType)) := ex_tt ex_q4 160 rfl rfl
theorem tw_881 : ex_tW (Jvm.Cond.methodLink "Callerhall" (242 : Nat) ({ cls := "Callerhall$Stage", name := "load", desc := "(LCallerhall$Places;[I)V" } : Jvm.MethodName)) := ex_tt ex_q4 161 rfl rfl
theorem tw_882 : ex_tW (Jvm.Cond.instanceMethod ({ cls := "Callerhall$Stage", name := "load", desc := "(LCallerhall$Places;[I)V" } : Jvm.MethodName)) := ex_tt ex_q4 162 rfl rfl
theorem tw_883 : ex_tW (Jvm.Cond.selects "Callerhall$Stage" ({ cls := "Callerhall$Stage", name := "load", desc := "(LCallerhall$Places;[I)V" } : Jvm.MethodName) ({ cls := "Callerhall$Stage", name := "load", desc := "(LCallerhall$Places;[I)V" } : Jvm.MethodName)) := ex_tt ex_q4 163 rfl rfl
theorem tw_884 : ex_tW (Jvm.Cond.code ({ cls := "Callerhall$Stage", name := "load", desc := "(LCallerhall$Places;[I)V" } : Jvm.MethodName) prog_10_method_2_code (3 : Nat) (Option.none : Option Jvm.ClassFile.FieldType)) := ex_tt ex_q4 164 rfl rfl
theorem tw_885 : ex_tW (Jvm.Cond.methodLink "Callerhall$Stage" (46 : Nat) ({ cls := "Callerhall$Floor", name := "addDancers", desc := "(LCallerhall$Places;[I)V" } : Jvm.MethodName)) := ex_tt ex_q4 165 rfl rfl
theorem tw_886 : ex_tW (Jvm.Cond.instanceMethod ({ cls := "Callerhall$Floor", name := "addDancers", desc := "(LCallerhall$Places;[I)V" } : Jvm.MethodName)) := ex_tt ex_q4 166 rfl rfl
theorem tw_887 : ex_tW (Jvm.Cond.selects "Callerhall$Floor" ({ cls := "Callerhall$Floor", name := "addDancers", desc := "(LCallerhall$Places;[I)V" } : Jvm.MethodName) ({ cls := "Callerhall$Floor", name := "addDancers", desc := "(LCallerhall$Places;[I)V" } : Jvm.MethodName)) := ex_tt ex_q4 167 rfl rfl
theorem tw_888 : ex_tW (Jvm.Cond.code ({ cls := "Callerhall$Floor", name := "addDancers", desc := "(LCallerhall$Places;[I)V" } : Jvm.MethodName) prog_3_method_3_code (5 : Nat) (Option.none : Option Jvm.ClassFile.FieldType)) := ex_tt ex_q4 168 rfl rfl
theorem tw_889 : ex_tW (Jvm.Cond.methodLink "Callerhall$Floor" (63 : Nat) ({ cls := "Callerhall$Floor", name := "bitOf", desc := "(I)I" } : Jvm.MethodName)) := ex_tt ex_q4 169 rfl rfl
theorem tw_890 : ex_tW (Jvm.Cond.static ({ cls := "Callerhall$Floor", name := "bitOf", desc := "(I)I" } : Jvm.MethodName)) := ex_tt ex_q4 170 rfl rfl
theorem tw_891 : ex_tW (Jvm.Cond.code ({ cls := "Callerhall$Floor", name := "bitOf", desc := "(I)I" } : Jvm.MethodName) prog_3_method_7_code (1 : Nat) (Option.some Jvm.ClassFile.FieldType.int)) := ex_tt ex_q4 171 rfl rfl
theorem tw_892 : ex_tW (Jvm.Cond.methodLink "Callerhall$Floor" (72 : Nat) ({ cls := "Callerhall$Floor", name := "add", desc := "(IIIIII)V" } : Jvm.MethodName)) := ex_tt ex_q4 172 rfl rfl
theorem tw_894 : ex_tW (Jvm.Cond.instanceMethod ({ cls := "Callerhall$Floor", name := "add", desc := "(IIIIII)V" } : Jvm.MethodName)) := ex_tt ex_q4 174 rfl rfl
theorem tw_895 : ex_tW (Jvm.Cond.code ({ cls := "Callerhall$Floor", name := "add", desc := "(IIIIII)V" } : Jvm.MethodName) prog_3_method_2_code (7 : Nat) (Option.none : Option Jvm.ClassFile.FieldType)) := ex_tt ex_q4 175 rfl rfl
theorem tw_896 : ex_tW (Jvm.Cond.methodLink "Callerhall" (246 : Nat) ({ cls := "Callerhall", name := "judge", desc := "(LCallerhall$Plan;ZII)V" } : Jvm.MethodName)) := ex_tt ex_q4 176 rfl rfl
theorem tw_898 : ex_tW (Jvm.Cond.instanceMethod ({ cls := "Callerhall", name := "judge", desc := "(LCallerhall$Plan;ZII)V" } : Jvm.MethodName)) := ex_tt ex_q4 178 rfl rfl
theorem tw_899 : ex_tW (Jvm.Cond.code ({ cls := "Callerhall", name := "judge", desc := "(LCallerhall$Plan;ZII)V" } : Jvm.MethodName) prog_1_method_64_code (5 : Nat) (Option.none : Option Jvm.ClassFile.FieldType)) := ex_tt ex_q4 179 rfl rfl
theorem tw_900 : ex_tW (Jvm.Cond.methodLink "Callerhall" (283 : Nat) ({ cls := "Callerhall$Stage", name := "run", desc := "(LCallerhall$Plan;II)C" } : Jvm.MethodName)) := ex_tt ex_q4 180 rfl rfl
theorem tw_901 : ex_tW (Jvm.Cond.instanceMethod ({ cls := "Callerhall$Stage", name := "run", desc := "(LCallerhall$Plan;II)C" } : Jvm.MethodName)) := ex_tt ex_q4 181 rfl rfl
theorem tw_902 : ex_tW (Jvm.Cond.selects "Callerhall$Stage" ({ cls := "Callerhall$Stage", name := "run", desc := "(LCallerhall$Plan;II)C" } : Jvm.MethodName) ({ cls := "Callerhall$Stage", name := "run", desc := "(LCallerhall$Plan;II)C" } : Jvm.MethodName)) := ex_tt ex_q4 182 rfl rfl
theorem tw_903 : ex_tW (Jvm.Cond.code ({ cls := "Callerhall$Stage", name := "run", desc := "(LCallerhall$Plan;II)C" } : Jvm.MethodName) prog_10_method_3_code (11 : Nat) (Option.some Jvm.ClassFile.FieldType.char)) := ex_tt ex_q4 183 rfl rfl
theorem tw_904 : ex_tW (Jvm.Cond.methodLink "Callerhall$Stage" (55 : Nat) ({ cls := "Callerhall$Stage", name := "enter", desc := "(I)V" } : Jvm.MethodName)) := ex_tt ex_q4 184 rfl rfl
theorem tw_906 : ex_tW (Jvm.Cond.instanceMethod ({ cls := "Callerhall$Stage", name := "enter", desc := "(I)V" } : Jvm.MethodName)) := ex_tt ex_q4 186 rfl rfl
theorem tw_907 : ex_tW (Jvm.Cond.code ({ cls := "Callerhall$Stage", name := "enter", desc := "(I)V" } : Jvm.MethodName) prog_10_method_6_code (2 : Nat) (Option.none : Option Jvm.ClassFile.FieldType)) := ex_tt ex_q4 187 rfl rfl
theorem tw_908 : ex_tW (Jvm.Cond.methodLink "Callerhall$Stage" (70 : Nat) ({ cls := "Callerhall$Stage", name := "floorAt", desc := "(I)LCallerhall$Floor;" } : Jvm.MethodName)) := ex_tt ex_q4 188 rfl rfl
theorem tw_910 : ex_tW (Jvm.Cond.instanceMethod ({ cls := "Callerhall$Stage", name := "floorAt", desc := "(I)LCallerhall$Floor;" } : Jvm.MethodName)) := ex_tt ex_q4 190 rfl rfl
theorem tw_911 : ex_tW (Jvm.Cond.code ({ cls := "Callerhall$Stage", name := "floorAt", desc := "(I)LCallerhall$Floor;" } : Jvm.MethodName) prog_10_method_5_code (2 : Nat) (Option.some (Jvm.ClassFile.FieldType.object "Callerhall$Floor"))) := ex_tt ex_q4 191 rfl rfl
theorem tw_912 : ex_tW (Jvm.Cond.methodLink "Callerhall$Stage" (113 : Nat) ({ cls := "Callerhall$Floor", name := "addPhantoms", desc := "(LCallerhall$Places;)V" } : Jvm.MethodName)) := ex_tt ex_q4 192 rfl rfl
theorem tw_913 : ex_tW (Jvm.Cond.instanceMethod ({ cls := "Callerhall$Floor", name := "addPhantoms", desc := "(LCallerhall$Places;)V" } : Jvm.MethodName)) := ex_tt ex_q4 193 rfl rfl
theorem tw_914 : ex_tW (Jvm.Cond.selects "Callerhall$Floor" ({ cls := "Callerhall$Floor", name := "addPhantoms", desc := "(LCallerhall$Places;)V" } : Jvm.MethodName) ({ cls := "Callerhall$Floor", name := "addPhantoms", desc := "(LCallerhall$Places;)V" } : Jvm.MethodName)) := ex_tt ex_q4 194 rfl rfl
theorem tw_915 : ex_tW (Jvm.Cond.code ({ cls := "Callerhall$Floor", name := "addPhantoms", desc := "(LCallerhall$Places;)V" } : Jvm.MethodName) prog_3_method_4_code (4 : Nat) (Option.none : Option Jvm.ClassFile.FieldType)) := ex_tt ex_q4 195 rfl rfl
theorem tw_916 : ex_tW (Jvm.Cond.methodLink "Callerhall$Stage" (117 : Nat) ({ cls := "Callerhall$Stage", name := "makeUnits", desc := "(LCallerhall$Floor;LCallerhall$Floor;Z)Z" } : Jvm.MethodName)) := ex_tt ex_q4 196 rfl rfl
theorem tw_918 : ex_tW (Jvm.Cond.instanceMethod ({ cls := "Callerhall$Stage", name := "makeUnits", desc := "(LCallerhall$Floor;LCallerhall$Floor;Z)Z" } : Jvm.MethodName)) := ex_tt ex_q4 198 rfl rfl
theorem tw_919 : ex_tW (Jvm.Cond.code ({ cls := "Callerhall$Stage", name := "makeUnits", desc := "(LCallerhall$Floor;LCallerhall$Floor;Z)Z" } : Jvm.MethodName) prog_10_method_9_code (9 : Nat) (Option.some Jvm.ClassFile.FieldType.boolean)) := ex_tt ex_q4 199 rfl rfl
theorem tw_920 : ex_tW (Jvm.Cond.methodLink "Callerhall$Stage" (91 : Nat) ({ cls := "Callerhall$Floor", name := "mark", desc := "()V" } : Jvm.MethodName)) := ex_tt ex_q4 200 rfl rfl
theorem tw_921 : ex_tW (Jvm.Cond.instanceMethod ({ cls := "Callerhall$Floor", name := "mark", desc := "()V" } : Jvm.MethodName)) := ex_tt ex_q4 201 rfl rfl
theorem tw_922 : ex_tW (Jvm.Cond.selects "Callerhall$Floor" ({ cls := "Callerhall$Floor", name := "mark", desc := "()V" } : Jvm.MethodName) ({ cls := "Callerhall$Floor", name := "mark", desc := "()V" } : Jvm.MethodName)) := ex_tt ex_q4 202 rfl rfl
theorem tw_923 : ex_tW (Jvm.Cond.code ({ cls := "Callerhall$Floor", name := "mark", desc := "()V" } : Jvm.MethodName) prog_3_method_9_code (2 : Nat) (Option.none : Option Jvm.ClassFile.FieldType)) := ex_tt ex_q4 203 rfl rfl
theorem tw_924 : ex_tW (Jvm.Cond.methodLink "Callerhall$Stage" (149 : Nat) ({ cls := "Callerhall$Steps", name := "pairForUnits", desc := "(LCallerhall$Floor;Z)V" } : Jvm.MethodName)) := ex_tt ex_q4 204 rfl rfl
theorem tw_925 : ex_tW (Jvm.Cond.instanceMethod ({ cls := "Callerhall$Steps", name := "pairForUnits", desc := "(LCallerhall$Floor;Z)V" } : Jvm.MethodName)) := ex_tt ex_q4 205 rfl rfl
theorem tw_926 : ex_tW (Jvm.Cond.selects "Callerhall$Steps" ({ cls := "Callerhall$Steps", name := "pairForUnits", desc := "(LCallerhall$Floor;Z)V" } : Jvm.MethodName) ({ cls := "Callerhall$Steps", name := "pairForUnits", desc := "(LCallerhall$Floor;Z)V" } : Jvm.MethodName)) := ex_tt ex_q4 206 rfl rfl
theorem tw_927 : ex_tW (Jvm.Cond.code ({ cls := "Callerhall$Steps", name := "pairForUnits", desc := "(LCallerhall$Floor;Z)V" } : Jvm.MethodName) prog_11_method_11_code (3 : Nat) (Option.none : Option Jvm.ClassFile.FieldType)) := ex_tt ex_q4 207 rfl rfl
theorem tw_928 : ex_tW (Jvm.Cond.methodLink "Callerhall$Steps" (122 : Nat) ({ cls := "Callerhall$Steps", name := "space", desc := "(IZZ)V" } : Jvm.MethodName)) := ex_tt ex_q4 208 rfl rfl
theorem tw_929 : ex_tW (Jvm.Cond.instanceMethod ({ cls := "Callerhall$Steps", name := "space", desc := "(IZZ)V" } : Jvm.MethodName)) := ex_tt ex_q4 209 rfl rfl
theorem tw_930 : ex_tW (Jvm.Cond.selects "Callerhall$Steps" ({ cls := "Callerhall$Steps", name := "space", desc := "(IZZ)V" } : Jvm.MethodName) ({ cls := "Callerhall$Steps", name := "space", desc := "(IZZ)V" } : Jvm.MethodName)) := ex_tt ex_q4 210 rfl rfl
theorem tw_931 : ex_tW (Jvm.Cond.code ({ cls := "Callerhall$Steps", name := "space", desc := "(IZZ)V" } : Jvm.MethodName) prog_11_method_2_code (4 : Nat) (Option.none : Option Jvm.ClassFile.FieldType)) := ex_tt ex_q4 211 rfl rfl
theorem tw_932 : ex_tW (Jvm.Cond.methodLink "Callerhall$Steps" (84 : Nat) ({ cls := "Callerhall$Steps", name := "begin", desc := "(LCallerhall$Floor;)V" } : Jvm.MethodName)) := ex_tt ex_q4 212 rfl rfl
theorem tw_934 : ex_tW (Jvm.Cond.instanceMethod ({ cls := "Callerhall$Steps", name := "begin", desc := "(LCallerhall$Floor;)V" } : Jvm.MethodName)) := ex_tt ex_q4 214 rfl rfl
theorem tw_935 : ex_tW (Jvm.Cond.code ({ cls := "Callerhall$Steps", name := "begin", desc := "(LCallerhall$Floor;)V" } : Jvm.MethodName) prog_11_method_6_code (6 : Nat) (Option.none : Option Jvm.ClassFile.FieldType)) := ex_tt ex_q4 215 rfl rfl
theorem tw_936 : ex_tW (Jvm.Cond.methodLink "Callerhall$Steps" (98 : Nat) ({ cls := "Callerhall$Steps", name := "isAheadInOrder", desc := "(LCallerhall$Floor;II)Z" } : Jvm.MethodName)) := ex_tt ex_q4 216 rfl rfl
theorem tw_938 : ex_tW (Jvm.Cond.instanceMethod ({ cls := "Callerhall$Steps", name := "isAheadInOrder", desc := "(LCallerhall$Floor;II)Z" } : Jvm.MethodName)) := ex_tt ex_q4 218 rfl rfl
theorem tw_939 : ex_tW (Jvm.Cond.code ({ cls := "Callerhall$Steps", name := "isAheadInOrder", desc := "(LCallerhall$Floor;II)Z" } : Jvm.MethodName) prog_11_method_7_code (4 : Nat) (Option.some Jvm.ClassFile.FieldType.boolean)) := ex_tt ex_q4 219 rfl rfl
theorem tw_940 : ex_tW (Jvm.Cond.methodLink "Callerhall$Steps" (126 : Nat) ({ cls := "Callerhall$Steps", name := "findColumns", desc := "(LCallerhall$Floor;)V" } : Jvm.MethodName)) := ex_tt ex_q4 220 rfl rfl
theorem tw_942 : ex_tW (Jvm.Cond.instanceMethod ({ cls := "Callerhall$Steps", name := "findColumns", desc := "(LCallerhall$Floor;)V" } : Jvm.MethodName)) := ex_tt ex_q4 222 rfl rfl
theorem tw_943 : ex_tW (Jvm.Cond.code ({ cls := "Callerhall$Steps", name := "findColumns", desc := "(LCallerhall$Floor;)V" } : Jvm.MethodName) prog_11_method_12_code (9 : Nat) (Option.none : Option Jvm.ClassFile.FieldType)) := ex_tt ex_q4 223 rfl rfl
theorem tw_944 : ex_tW (Jvm.Cond.methodLink "Callerhall$Steps" (94 : Nat) ({ cls := "Callerhall$Steps", name := "findRows", desc := "(LCallerhall$Floor;Z)V" } : Jvm.MethodName)) := ex_tt ex_q4 224 rfl rfl
theorem tw_946 : ex_tW (Jvm.Cond.instanceMethod ({ cls := "Callerhall$Steps", name := "findRows", desc := "(LCallerhall$Floor;Z)V" } : Jvm.MethodName)) := ex_tt ex_q4 226 rfl rfl
theorem tw_947 : ex_tW (Jvm.Cond.code ({ cls := "Callerhall$Steps", name := "findRows", desc := "(LCallerhall$Floor;Z)V" } : Jvm.MethodName) prog_11_method_9_code (6 : Nat) (Option.none : Option Jvm.ClassFile.FieldType)) := ex_tt ex_q4 227 rfl rfl
theorem tw_948 : ex_tW (Jvm.Cond.methodLink "Callerhall$Steps" (114 : Nat) ({ cls := "Callerhall$Steps", name := "findBeside", desc := "(LCallerhall$Floor;IZ)I" } : Jvm.MethodName)) := ex_tt ex_q4 228 rfl rfl
theorem tw_950 : ex_tW (Jvm.Cond.instanceMethod ({ cls := "Callerhall$Steps", name := "findBeside", desc := "(LCallerhall$Floor;IZ)I" } : Jvm.MethodName)) := ex_tt ex_q4 230 rfl rfl
theorem tw_951 : ex_tW (Jvm.Cond.code ({ cls := "Callerhall$Steps", name := "findBeside", desc := "(LCallerhall$Floor;IZ)I" } : Jvm.MethodName) prog_11_method_10_code (9 : Nat) (Option.some Jvm.ClassFile.FieldType.int)) := ex_tt ex_q4 231 rfl rfl
theorem tw_952 : ex_tW (Jvm.Cond.methodLink "Callerhall$Steps" (118 : Nat) ({ cls := "Callerhall$Floor", name := "isToward", desc := "(III)Z" } : Jvm.MethodName)) := ex_tt ex_q4 232 rfl rfl
theorem tw_953 : ex_tW (Jvm.Cond.instanceMethod ({ cls := "Callerhall$Floor", name := "isToward", desc := "(III)Z" } : Jvm.MethodName)) := ex_tt ex_q4 233 rfl rfl
theorem tw_954 : ex_tW (Jvm.Cond.selects "Callerhall$Floor" ({ cls := "Callerhall$Floor", name := "isToward", desc := "(III)Z" } : Jvm.MethodName) ({ cls := "Callerhall$Floor", name := "isToward", desc := "(III)Z" } : Jvm.MethodName)) := ex_tt ex_q4 234 rfl rfl
theorem tw_955 : ex_tW (Jvm.Cond.code ({ cls := "Callerhall$Floor", name := "isToward", desc := "(III)Z" } : Jvm.MethodName) prog_3_method_8_code (5 : Nat) (Option.some Jvm.ClassFile.FieldType.boolean)) := ex_tt ex_q4 235 rfl rfl
theorem tw_956 : (Jvm.Cond.fieldLinkNest "Callerhall$Floor" (86 : Nat) "Callerhall" "STEP_X" "[I" "Callerhall") ∈ ex_TN := ex_twn ex_q4 236 rfl rfl
theorem tw_958 : (Jvm.Cond.fieldLinkNest "Callerhall$Floor" (89 : Nat) "Callerhall" "STEP_Y" "[I" "Callerhall") ∈ ex_TN := ex_twn ex_q4 238 rfl rfl
theorem tw_960 : ex_tW (Jvm.Cond.methodLink "Callerhall$Stage" (162 : Nat) ({ cls := "Callerhall$Floor", name := "isToward", desc := "(III)Z" } : Jvm.MethodName)) := ex_tt ex_q5 0 rfl rfl
theorem tw_961 : ex_tW (Jvm.Cond.methodLink "Callerhall$Stage" (166 : Nat) ({ cls := "Callerhall$Floor", name := "addUnit", desc := "(LCallerhall$Floor;IIZ)Z" } : Jvm.MethodName)) := ex_tt ex_q5 1 rfl rfl
theorem tw_962 : ex_tW (Jvm.Cond.instanceMethod ({ cls := "Callerhall$Floor", name := "addUnit", desc := "(LCallerhall$Floor;IIZ)Z" } : Jvm.MethodName)) := ex_tt ex_q5 2 rfl rfl
theorem tw_963 : ex_tW (Jvm.Cond.selects "Callerhall$Floor" ({ cls := "Callerhall$Floor", name := "addUnit", desc := "(LCallerhall$Floor;IIZ)Z" } : Jvm.MethodName) ({ cls := "Callerhall$Floor", name := "addUnit", desc := "(LCallerhall$Floor;IIZ)Z" } : Jvm.MethodName)) := ex_tt ex_q5 3 rfl rfl
theorem tw_964 : ex_tW (Jvm.Cond.code ({ cls := "Callerhall$Floor", name := "addUnit", desc := "(LCallerhall$Floor;IIZ)Z" } : Jvm.MethodName) prog_3_method_6_code (9 : Nat) (Option.some Jvm.ClassFile.FieldType.boolean)) := ex_tt ex_q5 4 rfl rfl
theorem tw_965 : ex_tW (Jvm.Cond.methodLink "Callerhall$Floor" (83 : Nat) ({ cls := "java/lang/Math", name := "min", desc := "(II)I" } : Jvm.MethodName)) := ex_tt ex_q5 5 rfl rfl
theorem tw_966 : ex_tW (Jvm.Cond.methodLink "Callerhall$Stage" (66 : Nat) ({ cls := "Callerhall$Plan", name := "innerAt", desc := "(I)I" } : Jvm.MethodName)) := ex_tt ex_q5 6 rfl rfl
theorem tw_967 : ex_tW (Jvm.Cond.instanceMethod ({ cls := "Callerhall$Plan", name := "innerAt", desc := "(I)I" } : Jvm.MethodName)) := ex_tt ex_q5 7 rfl rfl
theorem tw_968 : ex_tW (Jvm.Cond.selects "Callerhall$Plan" ({ cls := "Callerhall$Plan", name := "innerAt", desc := "(I)I" } : Jvm.MethodName) ({ cls := "Callerhall$Plan", name := "innerAt", desc := "(I)I" } : Jvm.MethodName)) := ex_tt ex_q5 8 rfl rfl
theorem tw_969 : ex_tW (Jvm.Cond.code ({ cls := "Callerhall$Plan", name := "innerAt", desc := "(I)I" } : Jvm.MethodName) prog_8_method_8_code (2 : Nat) (Option.some Jvm.ClassFile.FieldType.int)) := ex_tt ex_q5 9 rfl rfl
theorem tw_970 : ex_tW (Jvm.Cond.methodLink "Callerhall$Stage" (74 : Nat) ({ cls := "Callerhall$Stage", name := "begin", desc := "(LCallerhall$Floor;LCallerhall$Plan;I)V" } : Jvm.MethodName)) := ex_tt ex_q5 10 rfl rfl
theorem tw_972 : ex_tW (Jvm.Cond.instanceMethod ({ cls := "Callerhall$Stage", name := "begin", desc := "(LCallerhall$Floor;LCallerhall$Plan;I)V" } : Jvm.MethodName)) := ex_tt ex_q5 12 rfl rfl
theorem tw_973 : ex_tW (Jvm.Cond.code ({ cls := "Callerhall$Stage", name := "begin", desc := "(LCallerhall$Floor;LCallerhall$Plan;I)V" } : Jvm.MethodName) prog_10_method_7_code (6 : Nat) (Option.none : Option Jvm.ClassFile.FieldType)) := ex_tt ex_q5 13 rfl rfl
theorem tw_974 : ex_tW (Jvm.Cond.methodLink "Callerhall$Stage" (121 : Nat) ({ cls := "Callerhall$Steps", name := "space", desc := "(IZZ)V" } : Jvm.MethodName)) := ex_tt ex_q5 14 rfl rfl
theorem tw_975 : ex_tW (Jvm.Cond.methodLink "Callerhall$Stage" (128 : Nat) ({ cls := "Callerhall$Steps", name := "tell", desc := "(LCallerhall$Floor;I)Z" } : Jvm.MethodName)) := ex_tt ex_q5 15 rfl rfl
theorem tw_976 : ex_tW (Jvm.Cond.instanceMethod ({ cls := "Callerhall$Steps", name := "tell", desc := "(LCallerhall$Floor;I)Z" } : Jvm.MethodName)) := ex_tt ex_q5 16 rfl rfl
theorem tw_977 : ex_tW (Jvm.Cond.selects "Callerhall$Steps" ({ cls := "Callerhall$Steps", name := "tell", desc := "(LCallerhall$Floor;I)Z" } : Jvm.MethodName) ({ cls := "Callerhall$Steps", name := "tell", desc := "(LCallerhall$Floor;I)Z" } : Jvm.MethodName)) := ex_tt ex_q5 17 rfl rfl
theorem tw_978 : ex_tW (Jvm.Cond.code ({ cls := "Callerhall$Steps", name := "tell", desc := "(LCallerhall$Floor;I)Z" } : Jvm.MethodName) prog_11_method_3_code (8 : Nat) (Option.some Jvm.ClassFile.FieldType.boolean)) := ex_tt ex_q5 18 rfl rfl
theorem tw_979 : ex_tW (Jvm.Cond.methodLink "Callerhall$Steps" (56 : Nat) ({ cls := "Callerhall$Steps", name := "nearnessOf", desc := "(LCallerhall$Floor;I)I" } : Jvm.MethodName)) := ex_tt ex_q5 19 rfl rfl
theorem tw_981 : ex_tW (Jvm.Cond.instanceMethod ({ cls := "Callerhall$Steps", name := "nearnessOf", desc := "(LCallerhall$Floor;I)I" } : Jvm.MethodName)) := ex_tt ex_q5 21 rfl rfl
theorem tw_982 : ex_tW (Jvm.Cond.code ({ cls := "Callerhall$Steps", name := "nearnessOf", desc := "(LCallerhall$Floor;I)I" } : Jvm.MethodName) prog_11_method_4_code (9 : Nat) (Option.some Jvm.ClassFile.FieldType.int)) := ex_tt ex_q5 22 rfl rfl
theorem tw_983 : ex_tW (Jvm.Cond.methodLink "Callerhall$Steps" (70 : Nat) ({ cls := "java/lang/Math", name := "abs", desc := "(I)I" } : Jvm.MethodName)) := ex_tt ex_q5 23 rfl rfl
theorem tw_984 : ex_tW (Jvm.Cond.static ({ cls := "java/lang/Math", name := "abs", desc := "(I)I" } : Jvm.MethodName)) := ex_tt ex_q5 24 rfl rfl
theorem tw_985 : ex_tW (Jvm.Cond.code ({ cls := "java/lang/Math", name := "abs", desc := "(I)I" } : Jvm.MethodName) prog_35_method_59_code (1 : Nat) (Option.some Jvm.ClassFile.FieldType.int)) := ex_tt ex_q5 25 rfl rfl
theorem tw_986 : ex_tW (Jvm.Cond.methodLink "Callerhall$Steps" (63 : Nat) ({ cls := "Callerhall$Floor", name := "bitOf", desc := "(I)I" } : Jvm.MethodName)) := ex_tt ex_q5 26 rfl rfl
theorem tw_987 : ex_tW (Jvm.Cond.methodLink "Callerhall$Stage" (132 : Nat) ({ cls := "Callerhall$Steps", name := "ready", desc := "(LCallerhall$Floor;I)V" } : Jvm.MethodName)) := ex_tt ex_q5 27 rfl rfl
theorem tw_988 : ex_tW (Jvm.Cond.instanceMethod ({ cls := "Callerhall$Steps", name := "ready", desc := "(LCallerhall$Floor;I)V" } : Jvm.MethodName)) := ex_tt ex_q5 28 rfl rfl
theorem tw_989 : ex_tW (Jvm.Cond.selects "Callerhall$Steps" ({ cls := "Callerhall$Steps", name := "ready", desc := "(LCallerhall$Floor;I)V" } : Jvm.MethodName) ({ cls := "Callerhall$Steps", name := "ready", desc := "(LCallerhall$Floor;I)V" } : Jvm.MethodName)) := ex_tt ex_q5 29 rfl rfl
theorem tw_990 : ex_tW (Jvm.Cond.code ({ cls := "Callerhall$Steps", name := "ready", desc := "(LCallerhall$Floor;I)V" } : Jvm.MethodName) prog_11_method_5_code (4 : Nat) (Option.none : Option Jvm.ClassFile.FieldType)) := ex_tt ex_q5 30 rfl rfl
theorem tw_991 : (Jvm.Cond.fieldLinkNest "Callerhall$Steps" (81 : Nat) "Callerhall" "ACT_LEVELS" "[I" "Callerhall") ∈ ex_TN := ex_twn ex_q5 31 rfl rfl
theorem tw_992 : ex_tW (Jvm.Cond.methodLink "Callerhall$Steps" (88 : Nat) ({ cls := "Callerhall$Steps", name := "findFaces", desc := "(LCallerhall$Floor;)V" } : Jvm.MethodName)) := ex_tt ex_q5 32 rfl rfl
theorem tw_994 : ex_tW (Jvm.Cond.instanceMethod ({ cls := "Callerhall$Steps", name := "findFaces", desc := "(LCallerhall$Floor;)V" } : Jvm.MethodName)) := ex_tt ex_q5 34 rfl rfl
theorem tw_995 : ex_tW (Jvm.Cond.code ({ cls := "Callerhall$Steps", name := "findFaces", desc := "(LCallerhall$Floor;)V" } : Jvm.MethodName) prog_11_method_8_code (8 : Nat) (Option.none : Option Jvm.ClassFile.FieldType)) := ex_tt ex_q5 35 rfl rfl
theorem tw_996 : (Jvm.Cond.fieldLinkNest "Callerhall$Steps" (108 : Nat) "Callerhall" "STEP_X" "[I" "Callerhall") ∈ ex_TN := ex_twn ex_q5 36 rfl rfl
theorem tw_997 : (Jvm.Cond.fieldLinkNest "Callerhall$Steps" (111 : Nat) "Callerhall" "STEP_Y" "[I" "Callerhall") ∈ ex_TN := ex_twn ex_q5 37 rfl rfl
theorem tw_998 : ex_tW (Jvm.Cond.methodLink "Callerhall$Steps" (91 : Nat) ({ cls := "Callerhall$Steps", name := "findBoxes", desc := "(LCallerhall$Floor;)V" } : Jvm.MethodName)) := ex_tt ex_q5 38 rfl rfl
theorem tw_1000 : ex_tW (Jvm.Cond.instanceMethod ({ cls := "Callerhall$Steps", name := "findBoxes", desc := "(LCallerhall$Floor;)V" } : Jvm.MethodName)) := ex_tt ex_q5 40 rfl rfl
theorem tw_1001 : ex_tW (Jvm.Cond.code ({ cls := "Callerhall$Steps", name := "findBoxes", desc := "(LCallerhall$Floor;)V" } : Jvm.MethodName) prog_11_method_13_code (7 : Nat) (Option.none : Option Jvm.ClassFile.FieldType)) := ex_tt ex_q5 41 rfl rfl
theorem tw_1002 : ex_tW (Jvm.Cond.methodLink "Callerhall$Steps" (129 : Nat) ({ cls := "Callerhall$Steps", name := "findCorner", desc := "(LCallerhall$Floor;III)I" } : Jvm.MethodName)) := ex_tt ex_q5 42 rfl rfl
theorem tw_1004 : ex_tW (Jvm.Cond.instanceMethod ({ cls := "Callerhall$Steps", name := "findCorner", desc := "(LCallerhall$Floor;III)I" } : Jvm.MethodName)) := ex_tt ex_q5 44 rfl rfl
theorem tw_1005 : ex_tW (Jvm.Cond.code ({ cls := "Callerhall$Steps", name := "findCorner", desc := "(LCallerhall$Floor;III)I" } : Jvm.MethodName) prog_11_method_15_code (7 : Nat) (Option.some Jvm.ClassFile.FieldType.int)) := ex_tt ex_q5 45 rfl rfl
theorem tw_1006 : ex_tW (Jvm.Cond.methodLink "Callerhall$Steps" (133 : Nat) ({ cls := "Callerhall$Steps", name := "isFree", desc := "(I)Z" } : Jvm.MethodName)) := ex_tt ex_q5 46 rfl rfl
theorem tw_1008 : ex_tW (Jvm.Cond.instanceMethod ({ cls := "Callerhall$Steps", name := "isFree", desc := "(I)Z" } : Jvm.MethodName)) := ex_tt ex_q5 48 rfl rfl
theorem tw_1009 : ex_tW (Jvm.Cond.code ({ cls := "Callerhall$Steps", name := "isFree", desc := "(I)Z" } : Jvm.MethodName) prog_11_method_14_code (2 : Nat) (Option.some Jvm.ClassFile.FieldType.boolean)) := ex_tt ex_q5 49 rfl rfl
theorem tw_1010 : ex_tW (Jvm.Cond.methodLink "Callerhall$Steps" (137 : Nat) ({ cls := "Callerhall$Steps", name := "putInBox", desc := "(LCallerhall$Floor;II)V" } : Jvm.MethodName)) := ex_tt ex_q5 50 rfl rfl
theorem tw_1012 : ex_tW (Jvm.Cond.instanceMethod ({ cls := "Callerhall$Steps", name := "putInBox", desc := "(LCallerhall$Floor;II)V" } : Jvm.MethodName)) := ex_tt ex_q5 52 rfl rfl
theorem tw_1013 : ex_tW (Jvm.Cond.code ({ cls := "Callerhall$Steps", name := "putInBox", desc := "(LCallerhall$Floor;II)V" } : Jvm.MethodName) prog_11_method_16_code (4 : Nat) (Option.none : Option Jvm.ClassFile.FieldType)) := ex_tt ex_q5 53 rfl rfl
theorem tw_1014 : ex_tW (Jvm.Cond.methodLink "Callerhall$Stage" (135 : Nat) ({ cls := "Callerhall$Steps", name := "findMisfit", desc := "(LCallerhall$Floor;I)I" } : Jvm.MethodName)) := ex_tt ex_q5 54 rfl rfl
theorem tw_1015 : ex_tW (Jvm.Cond.instanceMethod ({ cls := "Callerhall$Steps", name := "findMisfit", desc := "(LCallerhall$Floor;I)I" } : Jvm.MethodName)) := ex_tt ex_q5 55 rfl rfl
theorem tw_1016 : ex_tW (Jvm.Cond.selects "Callerhall$Steps" ({ cls := "Callerhall$Steps", name := "findMisfit", desc := "(LCallerhall$Floor;I)I" } : Jvm.MethodName) ({ cls := "Callerhall$Steps", name := "findMisfit", desc := "(LCallerhall$Floor;I)I" } : Jvm.MethodName)) := ex_tt ex_q5 56 rfl rfl
theorem tw_1017 : ex_tW (Jvm.Cond.code ({ cls := "Callerhall$Steps", name := "findMisfit", desc := "(LCallerhall$Floor;I)I" } : Jvm.MethodName) prog_11_method_17_code (5 : Nat) (Option.some Jvm.ClassFile.FieldType.int)) := ex_tt ex_q5 57 rfl rfl
theorem tw_1018 : ex_tW (Jvm.Cond.methodLink "Callerhall$Steps" (141 : Nat) ({ cls := "Callerhall$Steps", name := "hasItsOwn", desc := "(II)Z" } : Jvm.MethodName)) := ex_tt ex_q5 58 rfl rfl
theorem tw_1020 : ex_tW (Jvm.Cond.instanceMethod ({ cls := "Callerhall$Steps", name := "hasItsOwn", desc := "(II)Z" } : Jvm.MethodName)) := ex_tt ex_q5 60 rfl rfl
theorem tw_1021 : ex_tW (Jvm.Cond.code ({ cls := "Callerhall$Steps", name := "hasItsOwn", desc := "(II)Z" } : Jvm.MethodName) prog_11_method_18_code (4 : Nat) (Option.some Jvm.ClassFile.FieldType.boolean)) := ex_tt ex_q5 61 rfl rfl
theorem tw_1022 : ex_tW (Jvm.Cond.methodLink "Callerhall$Stage" (106 : Nat) ({ cls := "Callerhall$Stage", name := "refuse", desc := "(CI)V" } : Jvm.MethodName)) := ex_tt ex_q5 62 rfl rfl
theorem tw_1024 : ex_tW (Jvm.Cond.instanceMethod ({ cls := "Callerhall$Stage", name := "refuse", desc := "(CI)V" } : Jvm.MethodName)) := ex_tt ex_q5 64 rfl rfl
theorem tw_1025 : ex_tW (Jvm.Cond.code ({ cls := "Callerhall$Stage", name := "refuse", desc := "(CI)V" } : Jvm.MethodName) prog_10_method_4_code (3 : Nat) (Option.none : Option Jvm.ClassFile.FieldType)) := ex_tt ex_q5 65 rfl rfl
theorem tw_1026 : ex_tW (Jvm.Cond.methodLink "Callerhall$Stage" (78 : Nat) ({ cls := "Callerhall$Steps", name := "takeHands", desc := "(LCallerhall$Floor;I)V" } : Jvm.MethodName)) := ex_tt ex_q5 66 rfl rfl
theorem tw_1027 : ex_tW (Jvm.Cond.instanceMethod ({ cls := "Callerhall$Steps", name := "takeHands", desc := "(LCallerhall$Floor;I)V" } : Jvm.MethodName)) := ex_tt ex_q5 67 rfl rfl
theorem tw_1028 : ex_tW (Jvm.Cond.selects "Callerhall$Steps" ({ cls := "Callerhall$Steps", name := "takeHands", desc := "(LCallerhall$Floor;I)V" } : Jvm.MethodName) ({ cls := "Callerhall$Steps", name := "takeHands", desc := "(LCallerhall$Floor;I)V" } : Jvm.MethodName)) := ex_tt ex_q5 68 rfl rfl
theorem tw_1029 : ex_tW (Jvm.Cond.code ({ cls := "Callerhall$Steps", name := "takeHands", desc := "(LCallerhall$Floor;I)V" } : Jvm.MethodName) prog_11_method_19_code (4 : Nat) (Option.none : Option Jvm.ClassFile.FieldType)) := ex_tt ex_q5 69 rfl rfl
theorem tw_1030 : ex_tW (Jvm.Cond.methodLink "Callerhall$Steps" (145 : Nat) ({ cls := "Callerhall$Floor", name := "takeHand", desc := "(II)V" } : Jvm.MethodName)) := ex_tt ex_q5 70 rfl rfl
theorem tw_1031 : ex_tW (Jvm.Cond.instanceMethod ({ cls := "Callerhall$Floor", name := "takeHand", desc := "(II)V" } : Jvm.MethodName)) := ex_tt ex_q5 71 rfl rfl
theorem tw_1032 : ex_tW (Jvm.Cond.selects "Callerhall$Floor" ({ cls := "Callerhall$Floor", name := "takeHand", desc := "(II)V" } : Jvm.MethodName) ({ cls := "Callerhall$Floor", name := "takeHand", desc := "(II)V" } : Jvm.MethodName)) := ex_tt ex_q5 72 rfl rfl
theorem tw_1033 : ex_tW (Jvm.Cond.code ({ cls := "Callerhall$Floor", name := "takeHand", desc := "(II)V" } : Jvm.MethodName) prog_3_method_14_code (3 : Nat) (Option.none : Option Jvm.ClassFile.FieldType)) := ex_tt ex_q5 73 rfl rfl
theorem tw_1034 : (Jvm.Cond.fieldLinkNest "Callerhall$Stage" (82 : Nat) "Callerhall" "ACT_PARTS" "[I" "Callerhall") ∈ ex_TN := ex_twn ex_q5 74 rfl rfl
theorem tw_1035 : ex_tW (Jvm.Cond.methodLink "Callerhall$Stage" (85 : Nat) ({ cls := "java/lang/Math", name := "min", desc := "(II)I" } : Jvm.MethodName)) := ex_tt ex_q5 75 rfl rfl
theorem tw_1036 : ex_tW (Jvm.Cond.methodLink "Callerhall$Stage" (98 : Nat) ({ cls := "Callerhall$Steps", name := "step", desc := "(LCallerhall$Floor;II)V" } : Jvm.MethodName)) := ex_tt ex_q5 76 rfl rfl
theorem tw_1037 : ex_tW (Jvm.Cond.instanceMethod ({ cls := "Callerhall$Steps", name := "step", desc := "(LCallerhall$Floor;II)V" } : Jvm.MethodName)) := ex_tt ex_q5 77 rfl rfl
theorem tw_1038 : ex_tW (Jvm.Cond.selects "Callerhall$Steps" ({ cls := "Callerhall$Steps", name := "step", desc := "(LCallerhall$Floor;II)V" } : Jvm.MethodName) ({ cls := "Callerhall$Steps", name := "step", desc := "(LCallerhall$Floor;II)V" } : Jvm.MethodName)) := ex_tt ex_q5 78 rfl rfl
theorem tw_1039 : ex_tW (Jvm.Cond.code ({ cls := "Callerhall$Steps", name := "step", desc := "(LCallerhall$Floor;II)V" } : Jvm.MethodName) prog_11_method_20_code (5 : Nat) (Option.none : Option Jvm.ClassFile.FieldType)) := ex_tt ex_q5 79 rfl rfl
theorem tw_1040 : ex_tW (Jvm.Cond.methodLink "Callerhall$Steps" (149 : Nat) ({ cls := "Callerhall$Steps", name := "stepAlone", desc := "(LCallerhall$Floor;II)V" } : Jvm.MethodName)) := ex_tt ex_q5 80 rfl rfl
theorem tw_1042 : ex_tW (Jvm.Cond.instanceMethod ({ cls := "Callerhall$Steps", name := "stepAlone", desc := "(LCallerhall$Floor;II)V" } : Jvm.MethodName)) := ex_tt ex_q5 82 rfl rfl
theorem tw_1043 : ex_tW (Jvm.Cond.code ({ cls := "Callerhall$Steps", name := "stepAlone", desc := "(LCallerhall$Floor;II)V" } : Jvm.MethodName) prog_11_method_21_code (4 : Nat) (Option.none : Option Jvm.ClassFile.FieldType)) := ex_tt ex_q5 83 rfl rfl
theorem tw_1044 : ex_tW (Jvm.Cond.methodLink "Callerhall$Steps" (162 : Nat) ({ cls := "Callerhall$Floor", name := "go", desc := "(III)V" } : Jvm.MethodName)) := ex_tt ex_q5 84 rfl rfl
theorem tw_1045 : ex_tW (Jvm.Cond.instanceMethod ({ cls := "Callerhall$Floor", name := "go", desc := "(III)V" } : Jvm.MethodName)) := ex_tt ex_q5 85 rfl rfl
theorem tw_1046 : ex_tW (Jvm.Cond.selects "Callerhall$Floor" ({ cls := "Callerhall$Floor", name := "go", desc := "(III)V" } : Jvm.MethodName) ({ cls := "Callerhall$Floor", name := "go", desc := "(III)V" } : Jvm.MethodName)) := ex_tt ex_q5 86 rfl rfl
theorem tw_1047 : ex_tW (Jvm.Cond.code ({ cls := "Callerhall$Floor", name := "go", desc := "(III)V" } : Jvm.MethodName) prog_3_method_10_code (5 : Nat) (Option.none : Option Jvm.ClassFile.FieldType)) := ex_tt ex_q5 87 rfl rfl
theorem tw_1048 : ex_tW (Jvm.Cond.methodLink "Callerhall$Steps" (166 : Nat) ({ cls := "Callerhall$Floor", name := "turnBy", desc := "(II)V" } : Jvm.MethodName)) := ex_tt ex_q5 88 rfl rfl
theorem tw_1049 : ex_tW (Jvm.Cond.instanceMethod ({ cls := "Callerhall$Floor", name := "turnBy", desc := "(II)V" } : Jvm.MethodName)) := ex_tt ex_q5 89 rfl rfl
theorem tw_1050 : ex_tW (Jvm.Cond.selects "Callerhall$Floor" ({ cls := "Callerhall$Floor", name := "turnBy", desc := "(II)V" } : Jvm.MethodName) ({ cls := "Callerhall$Floor", name := "turnBy", desc := "(II)V" } : Jvm.MethodName)) := ex_tt ex_q5 90 rfl rfl
theorem tw_1051 : ex_tW (Jvm.Cond.code ({ cls := "Callerhall$Floor", name := "turnBy", desc := "(II)V" } : Jvm.MethodName) prog_3_method_11_code (3 : Nat) (Option.none : Option Jvm.ClassFile.FieldType)) := ex_tt ex_q5 91 rfl rfl
theorem tw_1052 : ex_tW (Jvm.Cond.methodLink "Callerhall$Steps" (152 : Nat) ({ cls := "Callerhall$Steps", name := "stepFacing", desc := "(LCallerhall$Floor;II)V" } : Jvm.MethodName)) := ex_tt ex_q5 92 rfl rfl
theorem tw_1054 : ex_tW (Jvm.Cond.instanceMethod ({ cls := "Callerhall$Steps", name := "stepFacing", desc := "(LCallerhall$Floor;II)V" } : Jvm.MethodName)) := ex_tt ex_q5 94 rfl rfl
theorem tw_1055 : ex_tW (Jvm.Cond.code ({ cls := "Callerhall$Steps", name := "stepFacing", desc := "(LCallerhall$Floor;II)V" } : Jvm.MethodName) prog_11_method_22_code (4 : Nat) (Option.none : Option Jvm.ClassFile.FieldType)) := ex_tt ex_q5 95 rfl rfl
theorem tw_1056 : ex_tW (Jvm.Cond.methodLink "Callerhall$Steps" (155 : Nat) ({ cls := "Callerhall$Steps", name := "stepInBox", desc := "(LCallerhall$Floor;I)V" } : Jvm.MethodName)) := ex_tt ex_q5 96 rfl rfl
theorem tw_1058 : ex_tW (Jvm.Cond.instanceMethod ({ cls := "Callerhall$Steps", name := "stepInBox", desc := "(LCallerhall$Floor;I)V" } : Jvm.MethodName)) := ex_tt ex_q5 98 rfl rfl
theorem tw_1059 : ex_tW (Jvm.Cond.code ({ cls := "Callerhall$Steps", name := "stepInBox", desc := "(LCallerhall$Floor;I)V" } : Jvm.MethodName) prog_11_method_23_code (3 : Nat) (Option.none : Option Jvm.ClassFile.FieldType)) := ex_tt ex_q5 99 rfl rfl
theorem tw_1060 : ex_tW (Jvm.Cond.methodLink "Callerhall$Steps" (169 : Nat) ({ cls := "Callerhall$Steps", name := "isInBox", desc := "(LCallerhall$Floor;II)Z" } : Jvm.MethodName)) := ex_tt ex_q5 100 rfl rfl
theorem tw_1062 : ex_tW (Jvm.Cond.instanceMethod ({ cls := "Callerhall$Steps", name := "isInBox", desc := "(LCallerhall$Floor;II)Z" } : Jvm.MethodName)) := ex_tt ex_q5 102 rfl rfl
theorem tw_1063 : ex_tW (Jvm.Cond.code ({ cls := "Callerhall$Steps", name := "isInBox", desc := "(LCallerhall$Floor;II)Z" } : Jvm.MethodName) prog_11_method_24_code (7 : Nat) (Option.some Jvm.ClassFile.FieldType.boolean)) := ex_tt ex_q5 103 rfl rfl
theorem tw_1064 : ex_tW (Jvm.Cond.methodLink "Callerhall$Steps" (159 : Nat) ({ cls := "Callerhall$Steps", name := "stepPair", desc := "(LCallerhall$Floor;II)V" } : Jvm.MethodName)) := ex_tt ex_q5 104 rfl rfl
theorem tw_1066 : ex_tW (Jvm.Cond.instanceMethod ({ cls := "Callerhall$Steps", name := "stepPair", desc := "(LCallerhall$Floor;II)V" } : Jvm.MethodName)) := ex_tt ex_q5 106 rfl rfl
theorem tw_1067 : ex_tW (Jvm.Cond.code ({ cls := "Callerhall$Steps", name := "stepPair", desc := "(LCallerhall$Floor;II)V" } : Jvm.MethodName) prog_11_method_25_code (8 : Nat) (Option.none : Option Jvm.ClassFile.FieldType)) := ex_tt ex_q5 107 rfl rfl
theorem tw_1068 : ex_tW (Jvm.Cond.methodLink "Callerhall$Steps" (172 : Nat) ({ cls := "Callerhall$Floor", name := "trade", desc := "(II)V" } : Jvm.MethodName)) := ex_tt ex_q5 108 rfl rfl
theorem tw_1069 : ex_tW (Jvm.Cond.instanceMethod ({ cls := "Callerhall$Floor", name := "trade", desc := "(II)V" } : Jvm.MethodName)) := ex_tt ex_q5 109 rfl rfl
theorem tw_1070 : ex_tW (Jvm.Cond.selects "Callerhall$Floor" ({ cls := "Callerhall$Floor", name := "trade", desc := "(II)V" } : Jvm.MethodName) ({ cls := "Callerhall$Floor", name := "trade", desc := "(II)V" } : Jvm.MethodName)) := ex_tt ex_q5 110 rfl rfl
theorem tw_1071 : ex_tW (Jvm.Cond.code ({ cls := "Callerhall$Floor", name := "trade", desc := "(II)V" } : Jvm.MethodName) prog_3_method_13_code (5 : Nat) (Option.none : Option Jvm.ClassFile.FieldType)) := ex_tt ex_q5 111 rfl rfl
theorem tw_1072 : ex_tW (Jvm.Cond.methodLink "Callerhall$Steps" (175 : Nat) ({ cls := "Callerhall$Floor", name := "carry", desc := "(IIII)V" } : Jvm.MethodName)) := ex_tt ex_q5 112 rfl rfl
theorem tw_1073 : ex_tW (Jvm.Cond.instanceMethod ({ cls := "Callerhall$Floor", name := "carry", desc := "(IIII)V" } : Jvm.MethodName)) := ex_tt ex_q5 113 rfl rfl
theorem tw_1074 : ex_tW (Jvm.Cond.selects "Callerhall$Floor" ({ cls := "Callerhall$Floor", name := "carry", desc := "(IIII)V" } : Jvm.MethodName) ({ cls := "Callerhall$Floor", name := "carry", desc := "(IIII)V" } : Jvm.MethodName)) := ex_tt ex_q5 114 rfl rfl
theorem tw_1075 : ex_tW (Jvm.Cond.code ({ cls := "Callerhall$Floor", name := "carry", desc := "(IIII)V" } : Jvm.MethodName) prog_3_method_12_code (7 : Nat) (Option.none : Option Jvm.ClassFile.FieldType)) := ex_tt ex_q5 115 rfl rfl
theorem tw_1076 : ex_tW (Jvm.Cond.methodLink "Callerhall$Floor" (92 : Nat) ({ cls := "Callerhall$Floor", name := "turnBy", desc := "(II)V" } : Jvm.MethodName)) := ex_tt ex_q5 116 rfl rfl
theorem tw_1077 : ex_tW (Jvm.Cond.methodLink "Callerhall$Stage" (102 : Nat) ({ cls := "Callerhall$Floor", name := "collide", desc := "()I" } : Jvm.MethodName)) := ex_tt ex_q5 117 rfl rfl
theorem tw_1078 : ex_tW (Jvm.Cond.instanceMethod ({ cls := "Callerhall$Floor", name := "collide", desc := "()I" } : Jvm.MethodName)) := ex_tt ex_q5 118 rfl rfl
theorem tw_1079 : ex_tW (Jvm.Cond.selects "Callerhall$Floor" ({ cls := "Callerhall$Floor", name := "collide", desc := "()I" } : Jvm.MethodName) ({ cls := "Callerhall$Floor", name := "collide", desc := "()I" } : Jvm.MethodName)) := ex_tt ex_q5 119 rfl rfl
theorem tw_1080 : ex_tW (Jvm.Cond.code ({ cls := "Callerhall$Floor", name := "collide", desc := "()I" } : Jvm.MethodName) prog_3_method_15_code (3 : Nat) (Option.some Jvm.ClassFile.FieldType.int)) := ex_tt ex_q5 120 rfl rfl
theorem tw_1081 : ex_tW (Jvm.Cond.methodLink "Callerhall$Floor" (96 : Nat) ({ cls := "Callerhall$Floor", name := "isPassing", desc := "(I)Z" } : Jvm.MethodName)) := ex_tt ex_q5 121 rfl rfl
theorem tw_1083 : ex_tW (Jvm.Cond.instanceMethod ({ cls := "Callerhall$Floor", name := "isPassing", desc := "(I)Z" } : Jvm.MethodName)) := ex_tt ex_q5 123 rfl rfl
theorem tw_1084 : ex_tW (Jvm.Cond.code ({ cls := "Callerhall$Floor", name := "isPassing", desc := "(I)Z" } : Jvm.MethodName) prog_3_method_16_code (5 : Nat) (Option.some Jvm.ClassFile.FieldType.boolean)) := ex_tt ex_q5 124 rfl rfl
theorem tw_1085 : ex_tW (Jvm.Cond.methodLink "Callerhall$Floor" (107 : Nat) ({ cls := "Callerhall$Floor", name := "hasMoved", desc := "(I)Z" } : Jvm.MethodName)) := ex_tt ex_q5 125 rfl rfl
theorem tw_1087 : ex_tW (Jvm.Cond.instanceMethod ({ cls := "Callerhall$Floor", name := "hasMoved", desc := "(I)Z" } : Jvm.MethodName)) := ex_tt ex_q5 127 rfl rfl
theorem tw_1088 : ex_tW (Jvm.Cond.code ({ cls := "Callerhall$Floor", name := "hasMoved", desc := "(I)Z" } : Jvm.MethodName) prog_3_method_17_code (2 : Nat) (Option.some Jvm.ClassFile.FieldType.boolean)) := ex_tt ex_q5 128 rfl rfl
theorem tw_1089 : ex_tW (Jvm.Cond.methodLink "Callerhall$Floor" (100 : Nat) ({ cls := "Callerhall$Floor", name := "go", desc := "(III)V" } : Jvm.MethodName)) := ex_tt ex_q5 129 rfl rfl
theorem tw_1090 : ex_tW (Jvm.Cond.methodLink "Callerhall$Floor" (104 : Nat) ({ cls := "Callerhall$Floor", name := "countWith", desc := "(I)I" } : Jvm.MethodName)) := ex_tt ex_q5 130 rfl rfl
theorem tw_1092 : ex_tW (Jvm.Cond.instanceMethod ({ cls := "Callerhall$Floor", name := "countWith", desc := "(I)I" } : Jvm.MethodName)) := ex_tt ex_q5 132 rfl rfl
theorem tw_1093 : ex_tW (Jvm.Cond.code ({ cls := "Callerhall$Floor", name := "countWith", desc := "(I)I" } : Jvm.MethodName) prog_3_method_18_code (4 : Nat) (Option.some Jvm.ClassFile.FieldType.int)) := ex_tt ex_q5 133 rfl rfl
theorem tw_1094 : ex_tW (Jvm.Cond.methodLink "Callerhall$Stage" (110 : Nat) ({ cls := "Callerhall$Stage", name := "leave", desc := "(I)V" } : Jvm.MethodName)) := ex_tt ex_q5 134 rfl rfl
theorem tw_1096 : ex_tW (Jvm.Cond.instanceMethod ({ cls := "Callerhall$Stage", name := "leave", desc := "(I)V" } : Jvm.MethodName)) := ex_tt ex_q5 136 rfl rfl
theorem tw_1097 : ex_tW (Jvm.Cond.code ({ cls := "Callerhall$Stage", name := "leave", desc := "(I)V" } : Jvm.MethodName) prog_10_method_8_code (3 : Nat) (Option.none : Option Jvm.ClassFile.FieldType)) := ex_tt ex_q5 137 rfl rfl
theorem tw_1098 : ex_tW (Jvm.Cond.methodLink "Callerhall$Stage" (139 : Nat) ({ cls := "Callerhall$Floor", name := "dropPhantoms", desc := "(LCallerhall$Places;)V" } : Jvm.MethodName)) := ex_tt ex_q5 138 rfl rfl
theorem tw_1099 : ex_tW (Jvm.Cond.instanceMethod ({ cls := "Callerhall$Floor", name := "dropPhantoms", desc := "(LCallerhall$Places;)V" } : Jvm.MethodName)) := ex_tt ex_q5 139 rfl rfl
theorem tw_1100 : ex_tW (Jvm.Cond.selects "Callerhall$Floor" ({ cls := "Callerhall$Floor", name := "dropPhantoms", desc := "(LCallerhall$Places;)V" } : Jvm.MethodName) ({ cls := "Callerhall$Floor", name := "dropPhantoms", desc := "(LCallerhall$Places;)V" } : Jvm.MethodName)) := ex_tt ex_q5 140 rfl rfl
theorem tw_1101 : ex_tW (Jvm.Cond.code ({ cls := "Callerhall$Floor", name := "dropPhantoms", desc := "(LCallerhall$Places;)V" } : Jvm.MethodName) prog_3_method_5_code (2 : Nat) (Option.none : Option Jvm.ClassFile.FieldType)) := ex_tt ex_q5 141 rfl rfl
theorem tw_1102 : ex_tW (Jvm.Cond.methodLink "Callerhall$Floor" (77 : Nat) ({ cls := "java/lang/Math", name := "max", desc := "(II)I" } : Jvm.MethodName)) := ex_tt ex_q5 142 rfl rfl
theorem tw_1103 : ex_tW (Jvm.Cond.methodLink "Callerhall$Stage" (142 : Nat) ({ cls := "Callerhall$Stage", name := "spreadUnits", desc := "(LCallerhall$Floor;LCallerhall$Floor;Z)V" } : Jvm.MethodName)) := ex_tt ex_q5 143 rfl rfl
theorem tw_1105 : ex_tW (Jvm.Cond.instanceMethod ({ cls := "Callerhall$Stage", name := "spreadUnits", desc := "(LCallerhall$Floor;LCallerhall$Floor;Z)V" } : Jvm.MethodName)) := ex_tt ex_q5 145 rfl rfl
theorem tw_1106 : ex_tW (Jvm.Cond.code ({ cls := "Callerhall$Stage", name := "spreadUnits", desc := "(LCallerhall$Floor;LCallerhall$Floor;Z)V" } : Jvm.MethodName) prog_10_method_10_code (6 : Nat) (Option.none : Option Jvm.ClassFile.FieldType)) := ex_tt ex_q5 146 rfl rfl
theorem tw_1107 : ex_tW (Jvm.Cond.methodLink "Callerhall$Stage" (170 : Nat) ({ cls := "Callerhall$Floor", name := "spread", desc := "(LCallerhall$Floor;ZZ)V" } : Jvm.MethodName)) := ex_tt ex_q5 147 rfl rfl
theorem tw_1108 : ex_tW (Jvm.Cond.instanceMethod ({ cls := "Callerhall$Floor", name := "spread", desc := "(LCallerhall$Floor;ZZ)V" } : Jvm.MethodName)) := ex_tt ex_q5 148 rfl rfl
theorem tw_1109 : ex_tW (Jvm.Cond.selects "Callerhall$Floor" ({ cls := "Callerhall$Floor", name := "spread", desc := "(LCallerhall$Floor;ZZ)V" } : Jvm.MethodName) ({ cls := "Callerhall$Floor", name := "spread", desc := "(LCallerhall$Floor;ZZ)V" } : Jvm.MethodName)) := ex_tt ex_q5 149 rfl rfl
theorem tw_1110 : ex_tW (Jvm.Cond.code ({ cls := "Callerhall$Floor", name := "spread", desc := "(LCallerhall$Floor;ZZ)V" } : Jvm.MethodName) prog_3_method_19_code (8 : Nat) (Option.none : Option Jvm.ClassFile.FieldType)) := ex_tt ex_q5 150 rfl rfl
theorem tw_1111 : ex_tW (Jvm.Cond.methodLink "Callerhall$Floor" (110 : Nat) ({ cls := "Callerhall$Floor", name := "settle", desc := "(LCallerhall$Floor;IIIII)V" } : Jvm.MethodName)) := ex_tt ex_q5 151 rfl rfl
theorem tw_1113 : ex_tW (Jvm.Cond.instanceMethod ({ cls := "Callerhall$Floor", name := "settle", desc := "(LCallerhall$Floor;IIIII)V" } : Jvm.MethodName)) := ex_tt ex_q5 153 rfl rfl
theorem tw_1114 : ex_tW (Jvm.Cond.code ({ cls := "Callerhall$Floor", name := "settle", desc := "(LCallerhall$Floor;IIIII)V" } : Jvm.MethodName) prog_3_method_20_code (7 : Nat) (Option.none : Option Jvm.ClassFile.FieldType)) := ex_tt ex_q5 154 rfl rfl
theorem tw_1115 : ex_tW (Jvm.Cond.methodLink "Callerhall$Floor" (114 : Nat) ({ cls := "Callerhall$Floor", name := "takeHand", desc := "(II)V" } : Jvm.MethodName)) := ex_tt ex_q5 155 rfl rfl
theorem tw_1116 : ex_tW (Jvm.Cond.classLink "Callerhall" (150 : Nat) "java/lang/UnsupportedOperationException") := ex_tt ex_q5 156 rfl rfl
theorem tw_1118 : (Jvm.Cond.castable "java/lang/UnsupportedOperationException" "java/lang/UnsupportedOperationException") ∈ ex_TN := ex_twn ex_q5 158 rfl rfl
theorem tw_1131 : ex_tW (Jvm.Cond.methodLink "Callerhall" (250 : Nat) ({ cls := "Callerhall$Past", name := "keep", desc := "(LCallerhall$Places;C)V" } : Jvm.MethodName)) := ex_tt ex_q5 171 rfl rfl
theorem tw_1132 : ex_tW (Jvm.Cond.instanceMethod ({ cls := "Callerhall$Past", name := "keep", desc := "(LCallerhall$Places;C)V" } : Jvm.MethodName)) := ex_tt ex_q5 172 rfl rfl
theorem tw_1133 : ex_tW (Jvm.Cond.selects "Callerhall$Past" ({ cls := "Callerhall$Past", name := "keep", desc := "(LCallerhall$Places;C)V" } : Jvm.MethodName) ({ cls := "Callerhall$Past", name := "keep", desc := "(LCallerhall$Places;C)V" } : Jvm.MethodName)) := ex_tt ex_q5 173 rfl rfl
theorem tw_1134 : ex_tW (Jvm.Cond.code ({ cls := "Callerhall$Past", name := "keep", desc := "(LCallerhall$Places;C)V" } : Jvm.MethodName) prog_6_method_2_code (5 : Nat) (Option.none : Option Jvm.ClassFile.FieldType)) := ex_tt ex_q5 174 rfl rfl
theorem tw_1135 : ex_tW (Jvm.Cond.methodLink "Callerhall$Past" (27 : Nat) ({ cls := "java/lang/Math", name := "floorMod", desc := "(II)I" } : Jvm.MethodName)) := ex_tt ex_q5 175 rfl rfl
theorem tw_1136 : ex_tW (Jvm.Cond.static ({ cls := "java/lang/Math", name := "floorMod", desc := "(II)I" } : Jvm.MethodName)) := ex_tt ex_q5 176 rfl rfl
theorem tw_1137 : ex_tW (Jvm.Cond.code ({ cls := "java/lang/Math", name := "floorMod", desc := "(II)I" } : Jvm.MethodName) prog_35_method_50_code (3 : Nat) (Option.some Jvm.ClassFile.FieldType.int)) := ex_tt ex_q5 177 rfl rfl
theorem tw_1138 : ex_tW (Jvm.Cond.methodLink "Callerhall$Past" (33 : Nat) ({ cls := "java/lang/Math", name := "min", desc := "(II)I" } : Jvm.MethodName)) := ex_tt ex_q5 178 rfl rfl
theorem tw_1139 : ex_tW (Jvm.Cond.methodLink "Callerhall" (254 : Nat) ({ cls := "Callerhall$Plan", name := "beatsUpTo", desc := "(I)I" } : Jvm.MethodName)) := ex_tt ex_q5 179 rfl rfl
theorem tw_1140 : ex_tW (Jvm.Cond.instanceMethod ({ cls := "Callerhall$Plan", name := "beatsUpTo", desc := "(I)I" } : Jvm.MethodName)) := ex_tt ex_q5 180 rfl rfl
theorem tw_1141 : ex_tW (Jvm.Cond.selects "Callerhall$Plan" ({ cls := "Callerhall$Plan", name := "beatsUpTo", desc := "(I)I" } : Jvm.MethodName) ({ cls := "Callerhall$Plan", name := "beatsUpTo", desc := "(I)I" } : Jvm.MethodName)) := ex_tt ex_q5 181 rfl rfl
theorem tw_1142 : ex_tW (Jvm.Cond.code ({ cls := "Callerhall$Plan", name := "beatsUpTo", desc := "(I)I" } : Jvm.MethodName) prog_8_method_9_code (2 : Nat) (Option.some Jvm.ClassFile.FieldType.int)) := ex_tt ex_q5 182 rfl rfl
theorem tw_1143 : ex_tW (Jvm.Cond.methodLink "Callerhall" (257 : Nat) ({ cls := "Callerhall", name := "settle", desc := "(I)V" } : Jvm.MethodName)) := ex_tt ex_q5 183 rfl rfl
theorem tw_1145 : ex_tW (Jvm.Cond.instanceMethod ({ cls := "Callerhall", name := "settle", desc := "(I)V" } : Jvm.MethodName)) := ex_tt ex_q5 185 rfl rfl
theorem tw_1146 : ex_tW (Jvm.Cond.code ({ cls := "Callerhall", name := "settle", desc := "(I)V" } : Jvm.MethodName) prog_1_method_65_code (2 : Nat) (Option.none : Option Jvm.ClassFile.FieldType)) := ex_tt ex_q5 186 rfl rfl
theorem tw_1147 : ex_tW (Jvm.Cond.methodLink "Callerhall" (357 : Nat) ({ cls := "Callerhall$Places", name := "read", desc := "(LCallerhall$Floor;)V" } : Jvm.MethodName)) := ex_tt ex_q5 187 rfl rfl
theorem tw_1148 : ex_tW (Jvm.Cond.instanceMethod ({ cls := "Callerhall$Places", name := "read", desc := "(LCallerhall$Floor;)V" } : Jvm.MethodName)) := ex_tt ex_q5 188 rfl rfl
theorem tw_1149 : ex_tW (Jvm.Cond.selects "Callerhall$Places" ({ cls := "Callerhall$Places", name := "read", desc := "(LCallerhall$Floor;)V" } : Jvm.MethodName) ({ cls := "Callerhall$Places", name := "read", desc := "(LCallerhall$Floor;)V" } : Jvm.MethodName)) := ex_tt ex_q5 189 rfl rfl
theorem tw_1150 : ex_tW (Jvm.Cond.code ({ cls := "Callerhall$Places", name := "read", desc := "(LCallerhall$Floor;)V" } : Jvm.MethodName) prog_7_method_4_code (3 : Nat) (Option.none : Option Jvm.ClassFile.FieldType)) := ex_tt ex_q5 190 rfl rfl
theorem tw_1151 : ex_tW (Jvm.Cond.methodLink "Callerhall$Places" (30 : Nat) ({ cls := "Callerhall$Places", name := "tell", desc := "(IIII)V" } : Jvm.MethodName)) := ex_tt ex_q5 191 rfl rfl
theorem tw_1152 : ex_tW (Jvm.Cond.methodLink "Callerhall" (435 : Nat) ({ cls := "Callerhall$Flow", name := "count", desc := "(LCallerhall$Floor;)V" } : Jvm.MethodName)) := ex_tt ex_q5 192 rfl rfl
theorem tw_1153 : ex_tW (Jvm.Cond.instanceMethod ({ cls := "Callerhall$Flow", name := "count", desc := "(LCallerhall$Floor;)V" } : Jvm.MethodName)) := ex_tt ex_q5 193 rfl rfl
theorem tw_1154 : ex_tW (Jvm.Cond.selects "Callerhall$Flow" ({ cls := "Callerhall$Flow", name := "count", desc := "(LCallerhall$Floor;)V" } : Jvm.MethodName) ({ cls := "Callerhall$Flow", name := "count", desc := "(LCallerhall$Floor;)V" } : Jvm.MethodName)) := ex_tt ex_q5 194 rfl rfl
theorem tw_1155 : ex_tW (Jvm.Cond.code ({ cls := "Callerhall$Flow", name := "count", desc := "(LCallerhall$Floor;)V" } : Jvm.MethodName) prog_4_method_3_code (4 : Nat) (Option.none : Option Jvm.ClassFile.FieldType)) := ex_tt ex_q5 195 rfl rfl
theorem tw_1156 : ex_tW (Jvm.Cond.methodLink "Callerhall" (437 : Nat) ({ cls := "Callerhall$Song", name := "count", desc := "(I)V" } : Jvm.MethodName)) := ex_tt ex_q5 196 rfl rfl
theorem tw_1157 : ex_tW (Jvm.Cond.instanceMethod ({ cls := "Callerhall$Song", name := "count", desc := "(I)V" } : Jvm.MethodName)) := ex_tt ex_q5 197 rfl rfl
theorem tw_1158 : ex_tW (Jvm.Cond.selects "Callerhall$Song" ({ cls := "Callerhall$Song", name := "count", desc := "(I)V" } : Jvm.MethodName) ({ cls := "Callerhall$Song", name := "count", desc := "(I)V" } : Jvm.MethodName)) := ex_tt ex_q5 198 rfl rfl
theorem tw_1159 : ex_tW (Jvm.Cond.code ({ cls := "Callerhall$Song", name := "count", desc := "(I)V" } : Jvm.MethodName) prog_9_method_3_code (2 : Nat) (Option.none : Option Jvm.ClassFile.FieldType)) := ex_tt ex_q5 199 rfl rfl
theorem tw_1160 : ex_tW (Jvm.Cond.methodLink "Callerhall" (175 : Nat) ({ cls := "Callerhall$Plan", name := "clear", desc := "()V" } : Jvm.MethodName)) := ex_tt ex_q5 200 rfl rfl
theorem tw_1161 : ex_tW (Jvm.Cond.methodLink "Callerhall" (260 : Nat) ({ cls := "Callerhall$Plan", name := "copy", desc := "(LCallerhall$Plan;I)V" } : Jvm.MethodName)) := ex_tt ex_q5 201 rfl rfl
theorem tw_1162 : ex_tW (Jvm.Cond.instanceMethod ({ cls := "Callerhall$Plan", name := "copy", desc := "(LCallerhall$Plan;I)V" } : Jvm.MethodName)) := ex_tt ex_q5 202 rfl rfl
theorem tw_1163 : ex_tW (Jvm.Cond.selects "Callerhall$Plan" ({ cls := "Callerhall$Plan", name := "copy", desc := "(LCallerhall$Plan;I)V" } : Jvm.MethodName) ({ cls := "Callerhall$Plan", name := "copy", desc := "(LCallerhall$Plan;I)V" } : Jvm.MethodName)) := ex_tt ex_q5 203 rfl rfl
theorem tw_1164 : ex_tW (Jvm.Cond.code ({ cls := "Callerhall$Plan", name := "copy", desc := "(LCallerhall$Plan;I)V" } : Jvm.MethodName) prog_8_method_7_code (4 : Nat) (Option.none : Option Jvm.ClassFile.FieldType)) := ex_tt ex_q5 204 rfl rfl
theorem tw_1165 : ex_tW (Jvm.Cond.methodLink "CallerhallLaw" (192 : Nat) ({ cls := "CallerhallLaw", name := "finish", desc := "(LCallerhall;)I" } : Jvm.MethodName)) := ex_tt ex_q5 205 rfl rfl
theorem tw_1166 : ex_tW (Jvm.Cond.static ({ cls := "CallerhallLaw", name := "finish", desc := "(LCallerhall;)I" } : Jvm.MethodName)) := ex_tt ex_q5 206 rfl rfl
theorem tw_1167 : ex_tW (Jvm.Cond.codeWith ({ cls := "CallerhallLaw", name := "finish", desc := "(LCallerhall;)I" } : Jvm.MethodName) method_21_code (2 : Nat) (Option.some Jvm.ClassFile.FieldType.int) [((0 : Nat), (4 : Nat), (5 : Nat), (49 : Nat)), ((0 : Nat), (4 : Nat), (8 : Nat), (28 : Nat))]) := ex_tt ex_q5 207 rfl rfl
theorem tw_1168 : ex_tW (Jvm.Cond.classLink "CallerhallLaw" (49 : Nat) "java/lang/IllegalStateException") := ex_tt ex_q5 208 rfl rfl
theorem tw_1169 : ex_tW (Jvm.Cond.methodLink "CallerhallLaw" (82 : Nat) ({ cls := "Callerhall", name := "finish", desc := "()I" } : Jvm.MethodName)) := ex_tt ex_q5 209 rfl rfl
theorem tw_1170 : ex_tW (Jvm.Cond.instanceMethod ({ cls := "Callerhall", name := "finish", desc := "()I" } : Jvm.MethodName)) := ex_tt ex_q5 210 rfl rfl
theorem tw_1171 : ex_tW (Jvm.Cond.selects "Callerhall" ({ cls := "Callerhall", name := "finish", desc := "()I" } : Jvm.MethodName) ({ cls := "Callerhall", name := "finish", desc := "()I" } : Jvm.MethodName)) := ex_tt ex_q5 211 rfl rfl
theorem tw_1172 : ex_tW (Jvm.Cond.code ({ cls := "Callerhall", name := "finish", desc := "()I" } : Jvm.MethodName) prog_1_method_22_code (2 : Nat) (Option.some Jvm.ClassFile.FieldType.int)) := ex_tt ex_q5 212 rfl rfl
theorem tw_1173 : ex_tW (Jvm.Cond.methodLink "Callerhall" (264 : Nat) ({ cls := "Callerhall", name := "left", desc := "()I" } : Jvm.MethodName)) := ex_tt ex_q5 213 rfl rfl
theorem tw_1174 : ex_tW (Jvm.Cond.instanceMethod ({ cls := "Callerhall", name := "left", desc := "()I" } : Jvm.MethodName)) := ex_tt ex_q5 214 rfl rfl
theorem tw_1175 : ex_tW (Jvm.Cond.selects "Callerhall" ({ cls := "Callerhall", name := "left", desc := "()I" } : Jvm.MethodName) ({ cls := "Callerhall", name := "left", desc := "()I" } : Jvm.MethodName)) := ex_tt ex_q5 215 rfl rfl
theorem tw_1176 : ex_tW (Jvm.Cond.code ({ cls := "Callerhall", name := "left", desc := "()I" } : Jvm.MethodName) prog_1_method_23_code (1 : Nat) (Option.some Jvm.ClassFile.FieldType.int)) := ex_tt ex_q5 216 rfl rfl
theorem tw_1177 : ex_tW (Jvm.Cond.classLink "Callerhall" (178 : Nat) "java/lang/IllegalStateException") := ex_tt ex_q5 217 rfl rfl
theorem tw_1179 : (Jvm.Cond.castable "java/lang/IllegalStateException" "java/lang/IllegalStateException") ∈ ex_TN := ex_twn ex_q5 219 rfl rfl
theorem tw_1192 : ex_tW (Jvm.Cond.methodLink "Callerhall" (267 : Nat) ({ cls := "Callerhall$Past", name := "readLast", desc := "(LCallerhall$Places;)V" } : Jvm.MethodName)) := ex_tt ex_q5 232 rfl rfl
theorem tw_1193 : ex_tW (Jvm.Cond.instanceMethod ({ cls := "Callerhall$Past", name := "readLast", desc := "(LCallerhall$Places;)V" } : Jvm.MethodName)) := ex_tt ex_q5 233 rfl rfl
theorem tw_1194 : ex_tW (Jvm.Cond.selects "Callerhall$Past" ({ cls := "Callerhall$Past", name := "readLast", desc := "(LCallerhall$Places;)V" } : Jvm.MethodName) ({ cls := "Callerhall$Past", name := "readLast", desc := "(LCallerhall$Places;)V" } : Jvm.MethodName)) := ex_tt ex_q5 234 rfl rfl
theorem tw_1195 : ex_tW (Jvm.Cond.code ({ cls := "Callerhall$Past", name := "readLast", desc := "(LCallerhall$Places;)V" } : Jvm.MethodName) prog_6_method_3_code (4 : Nat) (Option.none : Option Jvm.ClassFile.FieldType)) := ex_tt ex_q5 235 rfl rfl
theorem tw_1196 : ex_tW (Jvm.Cond.methodLink "Callerhall$Past" (48 : Nat) ({ cls := "Callerhall$Places", name := "tell", desc := "(IIII)V" } : Jvm.MethodName)) := ex_tt ex_q5 236 rfl rfl
theorem tw_1197 : ex_tW (Jvm.Cond.methodLink "CallerhallLaw" (235 : Nat) ({ cls := "CallerhallLaw", name := "whom", desc := "(LCallerhall;)I" } : Jvm.MethodName)) := ex_tt ex_q5 237 rfl rfl
theorem tw_1198 : ex_tW (Jvm.Cond.static ({ cls := "CallerhallLaw", name := "whom", desc := "(LCallerhall;)I" } : Jvm.MethodName)) := ex_tt ex_q5 238 rfl rfl
theorem tw_1199 : ex_tW (Jvm.Cond.codeWith ({ cls := "CallerhallLaw", name := "whom", desc := "(LCallerhall;)I" } : Jvm.MethodName) method_22_code (2 : Nat) (Option.some Jvm.ClassFile.FieldType.int) [((0 : Nat), (4 : Nat), (5 : Nat), (40 : Nat))]) := ex_tt ex_q5 239 rfl rfl
theorem tw_1200 : ex_tW (Jvm.Cond.methodLink "CallerhallLaw" (86 : Nat) ({ cls := "Callerhall", name := "whom", desc := "()I" } : Jvm.MethodName)) := ex_tt ex_q6 0 rfl rfl
theorem tw_1201 : ex_tW (Jvm.Cond.instanceMethod ({ cls := "Callerhall", name := "whom", desc := "()I" } : Jvm.MethodName)) := ex_tt ex_q6 1 rfl rfl
theorem tw_1202 : ex_tW (Jvm.Cond.selects "Callerhall" ({ cls := "Callerhall", name := "whom", desc := "()I" } : Jvm.MethodName) ({ cls := "Callerhall", name := "whom", desc := "()I" } : Jvm.MethodName)) := ex_tt ex_q6 2 rfl rfl
theorem tw_1203 : ex_tW (Jvm.Cond.code ({ cls := "Callerhall", name := "whom", desc := "()I" } : Jvm.MethodName) prog_1_method_25_code (1 : Nat) (Option.some Jvm.ClassFile.FieldType.int)) := ex_tt ex_q6 3 rfl rfl
theorem tw_1204 : ex_tW (Jvm.Cond.methodLink "CallerhallLaw" (209 : Nat) ({ cls := "CallerhallLaw", name := "back", desc := "(LCallerhall;)I" } : Jvm.MethodName)) := ex_tt ex_q6 4 rfl rfl
theorem tw_1205 : ex_tW (Jvm.Cond.static ({ cls := "CallerhallLaw", name := "back", desc := "(LCallerhall;)I" } : Jvm.MethodName)) := ex_tt ex_q6 5 rfl rfl
theorem tw_1206 : ex_tW (Jvm.Cond.codeWith ({ cls := "CallerhallLaw", name := "back", desc := "(LCallerhall;)I" } : Jvm.MethodName) method_24_code (2 : Nat) (Option.some Jvm.ClassFile.FieldType.int) [((0 : Nat), (4 : Nat), (5 : Nat), (40 : Nat))]) := ex_tt ex_q6 6 rfl rfl
theorem tw_1207 : ex_tW (Jvm.Cond.methodLink "CallerhallLaw" (93 : Nat) ({ cls := "Callerhall", name := "back", desc := "()I" } : Jvm.MethodName)) := ex_tt ex_q6 7 rfl rfl
theorem tw_1208 : ex_tW (Jvm.Cond.instanceMethod ({ cls := "Callerhall", name := "back", desc := "()I" } : Jvm.MethodName)) := ex_tt ex_q6 8 rfl rfl
theorem tw_1209 : ex_tW (Jvm.Cond.selects "Callerhall" ({ cls := "Callerhall", name := "back", desc := "()I" } : Jvm.MethodName) ({ cls := "Callerhall", name := "back", desc := "()I" } : Jvm.MethodName)) := ex_tt ex_q6 9 rfl rfl
theorem tw_1210 : ex_tW (Jvm.Cond.code ({ cls := "Callerhall", name := "back", desc := "()I" } : Jvm.MethodName) prog_1_method_27_code (1 : Nat) (Option.some Jvm.ClassFile.FieldType.int)) := ex_tt ex_q6 10 rfl rfl
theorem tw_1211 : ex_tW (Jvm.Cond.methodLink "Callerhall" (290 : Nat) ({ cls := "Callerhall$Past", name := "drop", desc := "()V" } : Jvm.MethodName)) := ex_tt ex_q6 11 rfl rfl
theorem tw_1212 : ex_tW (Jvm.Cond.instanceMethod ({ cls := "Callerhall$Past", name := "drop", desc := "()V" } : Jvm.MethodName)) := ex_tt ex_q6 12 rfl rfl
theorem tw_1213 : ex_tW (Jvm.Cond.selects "Callerhall$Past" ({ cls := "Callerhall$Past", name := "drop", desc := "()V" } : Jvm.MethodName) ({ cls := "Callerhall$Past", name := "drop", desc := "()V" } : Jvm.MethodName)) := ex_tt ex_q6 13 rfl rfl
theorem tw_1214 : ex_tW (Jvm.Cond.code ({ cls := "Callerhall$Past", name := "drop", desc := "()V" } : Jvm.MethodName) prog_6_method_4_code (1 : Nat) (Option.none : Option Jvm.ClassFile.FieldType)) := ex_tt ex_q6 14 rfl rfl
theorem tw_1215 : ex_tW (Jvm.Cond.methodLink "Callerhall$Past" (52 : Nat) ({ cls := "java/lang/Math", name := "max", desc := "(II)I" } : Jvm.MethodName)) := ex_tt ex_q6 15 rfl rfl
theorem tw_1216 : ex_tW (Jvm.Cond.methodLink "CallerhallLaw" (242 : Nat) ({ cls := "CallerhallLaw", name := "callAt", desc := "(LCallerhall;I)I" } : Jvm.MethodName)) := ex_tt ex_q6 16 rfl rfl
theorem tw_1217 : ex_tW (Jvm.Cond.static ({ cls := "CallerhallLaw", name := "callAt", desc := "(LCallerhall;I)I" } : Jvm.MethodName)) := ex_tt ex_q6 17 rfl rfl
theorem tw_1218 : ex_tW (Jvm.Cond.codeWith ({ cls := "CallerhallLaw", name := "callAt", desc := "(LCallerhall;I)I" } : Jvm.MethodName) method_25_code (3 : Nat) (Option.some Jvm.ClassFile.FieldType.int) [((0 : Nat), (5 : Nat), (6 : Nat), (14 : Nat))]) := ex_tt ex_q6 18 rfl rfl
theorem tw_1219 : ex_tW (Jvm.Cond.methodLink "CallerhallLaw" (96 : Nat) ({ cls := "Callerhall", name := "callAt", desc := "(I)C" } : Jvm.MethodName)) := ex_tt ex_q6 19 rfl rfl
theorem tw_1220 : ex_tW (Jvm.Cond.instanceMethod ({ cls := "Callerhall", name := "callAt", desc := "(I)C" } : Jvm.MethodName)) := ex_tt ex_q6 20 rfl rfl
theorem tw_1221 : ex_tW (Jvm.Cond.selects "Callerhall" ({ cls := "Callerhall", name := "callAt", desc := "(I)C" } : Jvm.MethodName) ({ cls := "Callerhall", name := "callAt", desc := "(I)C" } : Jvm.MethodName)) := ex_tt ex_q6 21 rfl rfl
theorem tw_1222 : ex_tW (Jvm.Cond.code ({ cls := "Callerhall", name := "callAt", desc := "(I)C" } : Jvm.MethodName) prog_1_method_29_code (2 : Nat) (Option.some Jvm.ClassFile.FieldType.char)) := ex_tt ex_q6 22 rfl rfl
theorem tw_1223 : ex_tW (Jvm.Cond.methodLink "Callerhall" (295 : Nat) ({ cls := "Callerhall$Past", name := "letterAt", desc := "(I)C" } : Jvm.MethodName)) := ex_tt ex_q6 23 rfl rfl
theorem tw_1224 : ex_tW (Jvm.Cond.instanceMethod ({ cls := "Callerhall$Past", name := "letterAt", desc := "(I)C" } : Jvm.MethodName)) := ex_tt ex_q6 24 rfl rfl
theorem tw_1225 : ex_tW (Jvm.Cond.selects "Callerhall$Past" ({ cls := "Callerhall$Past", name := "letterAt", desc := "(I)C" } : Jvm.MethodName) ({ cls := "Callerhall$Past", name := "letterAt", desc := "(I)C" } : Jvm.MethodName)) := ex_tt ex_q6 25 rfl rfl
theorem tw_1226 : ex_tW (Jvm.Cond.code ({ cls := "Callerhall$Past", name := "letterAt", desc := "(I)C" } : Jvm.MethodName) prog_6_method_5_code (2 : Nat) (Option.some Jvm.ClassFile.FieldType.char)) := ex_tt ex_q6 26 rfl rfl
theorem tw_1227 : ex_tW (Jvm.Cond.methodLink "CallerhallLaw" (309 : Nat) ({ cls := "CallerhallLaw", name := "repairs", desc := "(LCallerhall;C)I" } : Jvm.MethodName)) := ex_tt ex_q6 27 rfl rfl
theorem tw_1228 : ex_tW (Jvm.Cond.static ({ cls := "CallerhallLaw", name := "repairs", desc := "(LCallerhall;C)I" } : Jvm.MethodName)) := ex_tt ex_q6 28 rfl rfl
theorem tw_1229 : ex_tW (Jvm.Cond.codeWith ({ cls := "CallerhallLaw", name := "repairs", desc := "(LCallerhall;C)I" } : Jvm.MethodName) method_29_code (3 : Nat) (Option.some Jvm.ClassFile.FieldType.int) [((0 : Nat), (5 : Nat), (6 : Nat), (26 : Nat))]) := ex_tt ex_q6 29 rfl rfl
theorem tw_1230 : ex_tW (Jvm.Cond.methodLink "CallerhallLaw" (111 : Nat) ({ cls := "Callerhall", name := "repairs", desc := "(C)I" } : Jvm.MethodName)) := ex_tt ex_q6 30 rfl rfl
theorem tw_1231 : ex_tW (Jvm.Cond.instanceMethod ({ cls := "Callerhall", name := "repairs", desc := "(C)I" } : Jvm.MethodName)) := ex_tt ex_q6 31 rfl rfl
theorem tw_1232 : ex_tW (Jvm.Cond.selects "Callerhall" ({ cls := "Callerhall", name := "repairs", desc := "(C)I" } : Jvm.MethodName) ({ cls := "Callerhall", name := "repairs", desc := "(C)I" } : Jvm.MethodName)) := ex_tt ex_q6 32 rfl rfl
theorem tw_1233 : ex_tW (Jvm.Cond.code ({ cls := "Callerhall", name := "repairs", desc := "(C)I" } : Jvm.MethodName) prog_1_method_34_code (3 : Nat) (Option.some Jvm.ClassFile.FieldType.int)) := ex_tt ex_q6 33 rfl rfl
theorem tw_1234 : ex_tW (Jvm.Cond.methodLink "CallerhallLaw" (329 : Nat) ({ cls := "CallerhallLaw", name := "wayHome", desc := "(LCallerhall;I)I" } : Jvm.MethodName)) := ex_tt ex_q6 34 rfl rfl
theorem tw_1235 : ex_tW (Jvm.Cond.static ({ cls := "CallerhallLaw", name := "wayHome", desc := "(LCallerhall;I)I" } : Jvm.MethodName)) := ex_tt ex_q6 35 rfl rfl
theorem tw_1236 : ex_tW (Jvm.Cond.codeWith ({ cls := "CallerhallLaw", name := "wayHome", desc := "(LCallerhall;I)I" } : Jvm.MethodName) method_31_code (3 : Nat) (Option.some Jvm.ClassFile.FieldType.int) [((0 : Nat), (5 : Nat), (6 : Nat), (26 : Nat)), ((0 : Nat), (5 : Nat), (9 : Nat), (40 : Nat))]) := ex_tt ex_q6 36 rfl rfl
theorem tw_1237 : ex_tW (Jvm.Cond.methodLink "CallerhallLaw" (117 : Nat) ({ cls := "Callerhall", name := "wayHome", desc := "(I)I" } : Jvm.MethodName)) := ex_tt ex_q6 37 rfl rfl
theorem tw_1238 : ex_tW (Jvm.Cond.instanceMethod ({ cls := "Callerhall", name := "wayHome", desc := "(I)I" } : Jvm.MethodName)) := ex_tt ex_q6 38 rfl rfl
theorem tw_1239 : ex_tW (Jvm.Cond.selects "Callerhall" ({ cls := "Callerhall", name := "wayHome", desc := "(I)I" } : Jvm.MethodName) ({ cls := "Callerhall", name := "wayHome", desc := "(I)I" } : Jvm.MethodName)) := ex_tt ex_q6 39 rfl rfl
theorem tw_1240 : ex_tW (Jvm.Cond.code ({ cls := "Callerhall", name := "wayHome", desc := "(I)I" } : Jvm.MethodName) prog_1_method_40_code (3 : Nat) (Option.some Jvm.ClassFile.FieldType.int)) := ex_tt ex_q6 40 rfl rfl
theorem tw_1241 : ex_tW (Jvm.Cond.methodLink "Callerhall" (349 : Nat) ({ cls := "Callerhall", name := "isHome", desc := "()Z" } : Jvm.MethodName)) := ex_tt ex_q6 41 rfl rfl
theorem tw_1242 : ex_tW (Jvm.Cond.methodLink "Callerhall" (353 : Nat) ({ cls := "Callerhall", name := "findLastAct", desc := "(LCallerhall$Places;I)Z" } : Jvm.MethodName)) := ex_tt ex_q6 42 rfl rfl
theorem tw_1244 : ex_tW (Jvm.Cond.instanceMethod ({ cls := "Callerhall", name := "findLastAct", desc := "(LCallerhall$Places;I)Z" } : Jvm.MethodName)) := ex_tt ex_q6 44 rfl rfl
theorem tw_1245 : ex_tW (Jvm.Cond.code ({ cls := "Callerhall", name := "findLastAct", desc := "(LCallerhall$Places;I)Z" } : Jvm.MethodName) prog_1_method_67_code (4 : Nat) (Option.some Jvm.ClassFile.FieldType.boolean)) := ex_tt ex_q6 45 rfl rfl
theorem tw_1246 : ex_tW (Jvm.Cond.methodLink "CallerhallLaw" (321 : Nat) ({ cls := "CallerhallLaw", name := "progress", desc := "(LCallerhall;)I" } : Jvm.MethodName)) := ex_tt ex_q6 46 rfl rfl
theorem tw_1247 : ex_tW (Jvm.Cond.static ({ cls := "CallerhallLaw", name := "progress", desc := "(LCallerhall;)I" } : Jvm.MethodName)) := ex_tt ex_q6 47 rfl rfl
theorem tw_1248 : ex_tW (Jvm.Cond.codeWith ({ cls := "CallerhallLaw", name := "progress", desc := "(LCallerhall;)I" } : Jvm.MethodName) method_34_code (2 : Nat) (Option.some Jvm.ClassFile.FieldType.int) [((0 : Nat), (4 : Nat), (5 : Nat), (28 : Nat)), ((0 : Nat), (4 : Nat), (8 : Nat), (49 : Nat))]) := ex_tt ex_q6 48 rfl rfl
theorem tw_1249 : ex_tW (Jvm.Cond.methodLink "CallerhallLaw" (126 : Nat) ({ cls := "Callerhall", name := "progress", desc := "()I" } : Jvm.MethodName)) := ex_tt ex_q6 49 rfl rfl
theorem tw_1250 : ex_tW (Jvm.Cond.instanceMethod ({ cls := "Callerhall", name := "progress", desc := "()I" } : Jvm.MethodName)) := ex_tt ex_q6 50 rfl rfl
theorem tw_1251 : ex_tW (Jvm.Cond.selects "Callerhall" ({ cls := "Callerhall", name := "progress", desc := "()I" } : Jvm.MethodName) ({ cls := "Callerhall", name := "progress", desc := "()I" } : Jvm.MethodName)) := ex_tt ex_q6 51 rfl rfl
theorem tw_1252 : ex_tW (Jvm.Cond.code ({ cls := "Callerhall", name := "progress", desc := "()I" } : Jvm.MethodName) prog_1_method_44_code (2 : Nat) (Option.some Jvm.ClassFile.FieldType.int)) := ex_tt ex_q6 52 rfl rfl
theorem tw_1253 : ex_tW (Jvm.Cond.methodLink "Callerhall" (122 : Nat) ({ cls := "Callerhall", name := "countAway", desc := "()I" } : Jvm.MethodName)) := ex_tt ex_q6 53 rfl rfl
theorem tw_1255 : ex_tW (Jvm.Cond.instanceMethod ({ cls := "Callerhall", name := "countAway", desc := "()I" } : Jvm.MethodName)) := ex_tt ex_q6 55 rfl rfl
theorem tw_1256 : ex_tW (Jvm.Cond.code ({ cls := "Callerhall", name := "countAway", desc := "()I" } : Jvm.MethodName) prog_1_method_72_code (4 : Nat) (Option.some Jvm.ClassFile.FieldType.int)) := ex_tt ex_q6 56 rfl rfl
theorem tw_1257 : ex_tW (Jvm.Cond.methodLink "Callerhall" (362 : Nat) ({ cls := "Callerhall$Song", name := "begin", desc := "(I)V" } : Jvm.MethodName)) := ex_tt ex_q6 57 rfl rfl
theorem tw_1258 : ex_tW (Jvm.Cond.instanceMethod ({ cls := "Callerhall$Song", name := "begin", desc := "(I)V" } : Jvm.MethodName)) := ex_tt ex_q6 58 rfl rfl
theorem tw_1259 : ex_tW (Jvm.Cond.selects "Callerhall$Song" ({ cls := "Callerhall$Song", name := "begin", desc := "(I)V" } : Jvm.MethodName) ({ cls := "Callerhall$Song", name := "begin", desc := "(I)V" } : Jvm.MethodName)) := ex_tt ex_q6 59 rfl rfl
theorem tw_1260 : ex_tW (Jvm.Cond.code ({ cls := "Callerhall$Song", name := "begin", desc := "(I)V" } : Jvm.MethodName) prog_9_method_2_code (2 : Nat) (Option.none : Option Jvm.ClassFile.FieldType)) := ex_tt ex_q6 60 rfl rfl
theorem tw_1261 : ex_tW (Jvm.Cond.methodLink "Callerhall" (126 : Nat) ({ cls := "Callerhall", name := "putAllHome", desc := "()V" } : Jvm.MethodName)) := ex_tt ex_q6 61 rfl rfl
theorem tw_1263 : ex_tW (Jvm.Cond.instanceMethod ({ cls := "Callerhall", name := "putAllHome", desc := "()V" } : Jvm.MethodName)) := ex_tt ex_q6 63 rfl rfl
theorem tw_1264 : ex_tW (Jvm.Cond.code ({ cls := "Callerhall", name := "putAllHome", desc := "()V" } : Jvm.MethodName) prog_1_method_69_code (3 : Nat) (Option.none : Option Jvm.ClassFile.FieldType)) := ex_tt ex_q6 64 rfl rfl
theorem tw_1265 : ex_tW (Jvm.Cond.methodLink "Callerhall" (459 : Nat) ({ cls := "Callerhall$Flow", name := "clear", desc := "()V" } : Jvm.MethodName)) := ex_tt ex_q6 65 rfl rfl
theorem tw_1266 : ex_tW (Jvm.Cond.instanceMethod ({ cls := "Callerhall$Flow", name := "clear", desc := "()V" } : Jvm.MethodName)) := ex_tt ex_q6 66 rfl rfl
theorem tw_1267 : ex_tW (Jvm.Cond.selects "Callerhall$Flow" ({ cls := "Callerhall$Flow", name := "clear", desc := "()V" } : Jvm.MethodName) ({ cls := "Callerhall$Flow", name := "clear", desc := "()V" } : Jvm.MethodName)) := ex_tt ex_q6 67 rfl rfl
theorem tw_1268 : ex_tW (Jvm.Cond.code ({ cls := "Callerhall$Flow", name := "clear", desc := "()V" } : Jvm.MethodName) prog_4_method_2_code (2 : Nat) (Option.none : Option Jvm.ClassFile.FieldType)) := ex_tt ex_q6 68 rfl rfl
theorem tw_1269 : ex_tW (Jvm.Cond.methodLink "Callerhall" (153 : Nat) ({ cls := "Callerhall", name := "forgetPast", desc := "()V" } : Jvm.MethodName)) := ex_tt ex_q6 69 rfl rfl
theorem tw_1271 : ex_tW (Jvm.Cond.instanceMethod ({ cls := "Callerhall", name := "forgetPast", desc := "()V" } : Jvm.MethodName)) := ex_tt ex_q6 71 rfl rfl
theorem tw_1272 : ex_tW (Jvm.Cond.code ({ cls := "Callerhall", name := "forgetPast", desc := "()V" } : Jvm.MethodName) prog_1_method_70_code (1 : Nat) (Option.none : Option Jvm.ClassFile.FieldType)) := ex_tt ex_q6 72 rfl rfl
theorem tw_1273 : ex_tW (Jvm.Cond.methodLink "CallerhallLaw" (185 : Nat) ({ cls := "CallerhallLaw", name := "tip", desc := "(LCallerhall;)I" } : Jvm.MethodName)) := ex_tt ex_q6 73 rfl rfl
theorem tw_1274 : ex_tW (Jvm.Cond.static ({ cls := "CallerhallLaw", name := "tip", desc := "(LCallerhall;)I" } : Jvm.MethodName)) := ex_tt ex_q6 74 rfl rfl
theorem tw_1275 : ex_tW (Jvm.Cond.codeWith ({ cls := "CallerhallLaw", name := "tip", desc := "(LCallerhall;)I" } : Jvm.MethodName) method_36_code (2 : Nat) (Option.some Jvm.ClassFile.FieldType.int) [((0 : Nat), (4 : Nat), (5 : Nat), (49 : Nat))]) := ex_tt ex_q6 75 rfl rfl
theorem tw_1276 : ex_tW (Jvm.Cond.methodLink "CallerhallLaw" (132 : Nat) ({ cls := "Callerhall", name := "tip", desc := "()I" } : Jvm.MethodName)) := ex_tt ex_q6 76 rfl rfl
theorem tw_1277 : ex_tW (Jvm.Cond.instanceMethod ({ cls := "Callerhall", name := "tip", desc := "()I" } : Jvm.MethodName)) := ex_tt ex_q6 77 rfl rfl
theorem tw_1278 : ex_tW (Jvm.Cond.selects "Callerhall" ({ cls := "Callerhall", name := "tip", desc := "()I" } : Jvm.MethodName) ({ cls := "Callerhall", name := "tip", desc := "()I" } : Jvm.MethodName)) := ex_tt ex_q6 78 rfl rfl
theorem tw_1279 : ex_tW (Jvm.Cond.code ({ cls := "Callerhall", name := "tip", desc := "()I" } : Jvm.MethodName) prog_1_method_47_code (1 : Nat) (Option.some Jvm.ClassFile.FieldType.int)) := ex_tt ex_q6 79 rfl rfl
theorem tw_1280 : ex_tW (Jvm.Cond.methodLink "Callerhall" (380 : Nat) ({ cls := "Callerhall$Party", name := "fillTip", desc := "()I" } : Jvm.MethodName)) := ex_tt ex_q6 80 rfl rfl
theorem tw_1281 : ex_tW (Jvm.Cond.instanceMethod ({ cls := "Callerhall$Party", name := "fillTip", desc := "()I" } : Jvm.MethodName)) := ex_tt ex_q6 81 rfl rfl
theorem tw_1282 : ex_tW (Jvm.Cond.selects "Callerhall$Party" ({ cls := "Callerhall$Party", name := "fillTip", desc := "()I" } : Jvm.MethodName) ({ cls := "Callerhall$Party", name := "fillTip", desc := "()I" } : Jvm.MethodName)) := ex_tt ex_q6 82 rfl rfl
theorem tw_1283 : ex_tW (Jvm.Cond.code ({ cls := "Callerhall$Party", name := "fillTip", desc := "()I" } : Jvm.MethodName) prog_5_method_3_code (6 : Nat) (Option.some Jvm.ClassFile.FieldType.int)) := ex_tt ex_q6 83 rfl rfl
theorem tw_1284 : ex_tW (Jvm.Cond.methodLink "Callerhall$Party" (28 : Nat) ({ cls := "Callerhall$Party", name := "choose", desc := "([II)I" } : Jvm.MethodName)) := ex_tt ex_q6 84 rfl rfl
theorem tw_1286 : ex_tW (Jvm.Cond.instanceMethod ({ cls := "Callerhall$Party", name := "choose", desc := "([II)I" } : Jvm.MethodName)) := ex_tt ex_q6 86 rfl rfl
theorem tw_1287 : ex_tW (Jvm.Cond.code ({ cls := "Callerhall$Party", name := "choose", desc := "([II)I" } : Jvm.MethodName) prog_5_method_4_code (7 : Nat) (Option.some Jvm.ClassFile.FieldType.int)) := ex_tt ex_q6 87 rfl rfl
theorem tw_1288 : ex_tW (Jvm.Cond.methodLink "Callerhall$Party" (36 : Nat) ({ cls := "Callerhall$Party", name := "countMet", desc := "([III)I" } : Jvm.MethodName)) := ex_tt ex_q6 88 rfl rfl
theorem tw_1290 : ex_tW (Jvm.Cond.instanceMethod ({ cls := "Callerhall$Party", name := "countMet", desc := "([III)I" } : Jvm.MethodName)) := ex_tt ex_q6 90 rfl rfl
theorem tw_1291 : ex_tW (Jvm.Cond.code ({ cls := "Callerhall$Party", name := "countMet", desc := "([III)I" } : Jvm.MethodName) prog_5_method_5_code (6 : Nat) (Option.some Jvm.ClassFile.FieldType.int)) := ex_tt ex_q6 91 rfl rfl
theorem tw_1292 : ex_tW (Jvm.Cond.methodLink "Callerhall$Party" (32 : Nat) ({ cls := "Callerhall$Party", name := "meet", desc := "([III)V" } : Jvm.MethodName)) := ex_tt ex_q6 92 rfl rfl
theorem tw_1294 : ex_tW (Jvm.Cond.instanceMethod ({ cls := "Callerhall$Party", name := "meet", desc := "([III)V" } : Jvm.MethodName)) := ex_tt ex_q6 94 rfl rfl
theorem tw_1295 : ex_tW (Jvm.Cond.code ({ cls := "Callerhall$Party", name := "meet", desc := "([III)V" } : Jvm.MethodName) prog_5_method_6_code (5 : Nat) (Option.none : Option Jvm.ClassFile.FieldType)) := ex_tt ex_q6 95 rfl rfl
theorem tw_1296 : ex_tW (Jvm.Cond.methodLink "CallerhallLaw" (323 : Nat) ({ cls := "CallerhallLaw", name := "doneShare", desc := "(LCallerhall;)F" } : Jvm.MethodName)) := ex_tt ex_q6 96 rfl rfl
theorem tw_1297 : ex_tW (Jvm.Cond.static ({ cls := "CallerhallLaw", name := "doneShare", desc := "(LCallerhall;)F" } : Jvm.MethodName)) := ex_tt ex_q6 97 rfl rfl
theorem tw_1298 : ex_tW (Jvm.Cond.codeWith ({ cls := "CallerhallLaw", name := "doneShare", desc := "(LCallerhall;)F" } : Jvm.MethodName) method_39_code (2 : Nat) (Option.some Jvm.ClassFile.FieldType.float) [((0 : Nat), (4 : Nat), (5 : Nat), (145 : Nat))]) := ex_tt ex_q6 98 rfl rfl
theorem tw_1299 : ex_tW (Jvm.Cond.classLink "CallerhallLaw" (145 : Nat) "java/lang/ArithmeticException") := ex_tt ex_q6 99 rfl rfl
theorem tw_1311 : (Jvm.Cond.castable "java/lang/ArithmeticException" "java/lang/ArithmeticException") ∈ ex_TN := ex_twn ex_q6 111 rfl rfl
theorem tw_1313 : ex_tW (Jvm.Cond.methodLink "CallerhallLaw" (141 : Nat) ({ cls := "Callerhall", name := "doneShare", desc := "()F" } : Jvm.MethodName)) := ex_tt ex_q6 113 rfl rfl
theorem tw_1314 : ex_tW (Jvm.Cond.instanceMethod ({ cls := "Callerhall", name := "doneShare", desc := "()F" } : Jvm.MethodName)) := ex_tt ex_q6 114 rfl rfl
theorem tw_1315 : ex_tW (Jvm.Cond.selects "Callerhall" ({ cls := "Callerhall", name := "doneShare", desc := "()F" } : Jvm.MethodName) ({ cls := "Callerhall", name := "doneShare", desc := "()F" } : Jvm.MethodName)) := ex_tt ex_q6 115 rfl rfl
theorem tw_1316 : ex_tW (Jvm.Cond.code ({ cls := "Callerhall", name := "doneShare", desc := "()F" } : Jvm.MethodName) prog_1_method_51_code (1 : Nat) (Option.some Jvm.ClassFile.FieldType.float)) := ex_tt ex_q6 116 rfl rfl
theorem tw_1317 : ex_tW (Jvm.Cond.classLink "Callerhall" (400 : Nat) "java/lang/ArithmeticException") := ex_tt ex_q6 117 rfl rfl
theorem tw_1323 : ex_tW (Jvm.Cond.methodLink "CallerhallLaw" (345 : Nat) ({ cls := "CallerhallLaw", name := "acts", desc := "(LCallerhall;ILCallerhallLaw$Draw;)I" } : Jvm.MethodName)) := ex_tt ex_q6 123 rfl rfl
theorem tw_1324 : ex_tW (Jvm.Cond.static ({ cls := "CallerhallLaw", name := "acts", desc := "(LCallerhall;ILCallerhallLaw$Draw;)I" } : Jvm.MethodName)) := ex_tt ex_q6 124 rfl rfl
theorem tw_1325 : ex_tW (Jvm.Cond.code ({ cls := "CallerhallLaw", name := "acts", desc := "(LCallerhall;ILCallerhallLaw$Draw;)I" } : Jvm.MethodName) method_40_code (6 : Nat) (Option.some Jvm.ClassFile.FieldType.int)) := ex_tt ex_q6 125 rfl rfl
theorem tw_1326 : ex_tW (Jvm.Cond.methodLink "CallerhallLaw" (148 : Nat) ({ cls := "CallerhallLaw$Draw", name := "next", desc := "(I)I" } : Jvm.MethodName)) := ex_tt ex_q6 126 rfl rfl
theorem tw_1327 : ex_tW (Jvm.Cond.instanceMethod ({ cls := "CallerhallLaw$Draw", name := "next", desc := "(I)I" } : Jvm.MethodName)) := ex_tt ex_q6 127 rfl rfl
theorem tw_1328 : ex_tW (Jvm.Cond.selects "CallerhallLaw$Draw" ({ cls := "CallerhallLaw$Draw", name := "next", desc := "(I)I" } : Jvm.MethodName) ({ cls := "CallerhallLaw$Draw", name := "next", desc := "(I)I" } : Jvm.MethodName)) := ex_tt ex_q6 128 rfl rfl
theorem tw_1329 : ex_tW (Jvm.Cond.code ({ cls := "CallerhallLaw$Draw", name := "next", desc := "(I)I" } : Jvm.MethodName) prog_14_method_2_code (2 : Nat) (Option.some Jvm.ClassFile.FieldType.int)) := ex_tt ex_q6 129 rfl rfl
theorem tw_1330 : ex_tW (Jvm.Cond.constant "CallerhallLaw$Draw" (14 : Nat) (1103515245 : Int32)) := ex_tt ex_q6 130 rfl rfl
theorem tw_1332 : ex_tW (Jvm.Cond.methodLink "CallerhallLaw" (153 : Nat) ({ cls := "CallerhallLaw", name := "put", desc := "(LCallerhall;IIII)I" } : Jvm.MethodName)) := ex_tt ex_q6 132 rfl rfl
theorem tw_1333 : ex_tW (Jvm.Cond.static ({ cls := "CallerhallLaw", name := "put", desc := "(LCallerhall;IIII)I" } : Jvm.MethodName)) := ex_tt ex_q6 133 rfl rfl
theorem tw_1334 : ex_tW (Jvm.Cond.codeWith ({ cls := "CallerhallLaw", name := "put", desc := "(LCallerhall;IIII)I" } : Jvm.MethodName) method_6_code (6 : Nat) (Option.some Jvm.ClassFile.FieldType.int) [((0 : Nat), (9 : Nat), (10 : Nat), (14 : Nat)), ((0 : Nat), (9 : Nat), (14 : Nat), (26 : Nat)), ((0 : Nat), (9 : Nat), (19 : Nat), (28 : Nat))]) := ex_tt ex_q6 134 rfl rfl
theorem tw_1335 : ex_tW (Jvm.Cond.methodLink "CallerhallLaw" (22 : Nat) ({ cls := "Callerhall", name := "put", desc := "(IIII)I" } : Jvm.MethodName)) := ex_tt ex_q6 135 rfl rfl
theorem tw_1336 : ex_tW (Jvm.Cond.instanceMethod ({ cls := "Callerhall", name := "put", desc := "(IIII)I" } : Jvm.MethodName)) := ex_tt ex_q6 136 rfl rfl
theorem tw_1337 : ex_tW (Jvm.Cond.selects "Callerhall" ({ cls := "Callerhall", name := "put", desc := "(IIII)I" } : Jvm.MethodName) ({ cls := "Callerhall", name := "put", desc := "(IIII)I" } : Jvm.MethodName)) := ex_tt ex_q6 137 rfl rfl
theorem tw_1338 : ex_tW (Jvm.Cond.code ({ cls := "Callerhall", name := "put", desc := "(IIII)I" } : Jvm.MethodName) prog_1_method_6_code (7 : Nat) (Option.some Jvm.ClassFile.FieldType.int)) := ex_tt ex_q6 138 rfl rfl
theorem tw_1339 : ex_tW (Jvm.Cond.methodLink "Callerhall" (142 : Nat) ({ cls := "Callerhall", name := "checkPlace", desc := "(III)V" } : Jvm.MethodName)) := ex_tt ex_q6 139 rfl rfl
theorem tw_1341 : ex_tW (Jvm.Cond.instanceMethod ({ cls := "Callerhall", name := "checkPlace", desc := "(III)V" } : Jvm.MethodName)) := ex_tt ex_q6 141 rfl rfl
theorem tw_1342 : ex_tW (Jvm.Cond.code ({ cls := "Callerhall", name := "checkPlace", desc := "(III)V" } : Jvm.MethodName) prog_1_method_55_code (4 : Nat) (Option.none : Option Jvm.ClassFile.FieldType)) := ex_tt ex_q6 142 rfl rfl
theorem tw_1343 : ex_tW (Jvm.Cond.methodLink "Callerhall" (146 : Nat) ({ cls := "Callerhall$Places", name := "indexAt", desc := "(II)I" } : Jvm.MethodName)) := ex_tt ex_q6 143 rfl rfl
theorem tw_1344 : ex_tW (Jvm.Cond.instanceMethod ({ cls := "Callerhall$Places", name := "indexAt", desc := "(II)I" } : Jvm.MethodName)) := ex_tt ex_q6 144 rfl rfl
theorem tw_1345 : ex_tW (Jvm.Cond.selects "Callerhall$Places" ({ cls := "Callerhall$Places", name := "indexAt", desc := "(II)I" } : Jvm.MethodName) ({ cls := "Callerhall$Places", name := "indexAt", desc := "(II)I" } : Jvm.MethodName)) := ex_tt ex_q6 145 rfl rfl
theorem tw_1346 : ex_tW (Jvm.Cond.code ({ cls := "Callerhall$Places", name := "indexAt", desc := "(II)I" } : Jvm.MethodName) prog_7_method_3_code (4 : Nat) (Option.some Jvm.ClassFile.FieldType.int)) := ex_tt ex_q6 146 rfl rfl
theorem tw_1347 : ex_tW (Jvm.Cond.methodLink "CallerhallLaw" (158 : Nat) ({ cls := "CallerhallLaw", name := "change", desc := "(LCallerhall;II)I" } : Jvm.MethodName)) := ex_tt ex_q6 147 rfl rfl
theorem tw_1348 : ex_tW (Jvm.Cond.static ({ cls := "CallerhallLaw", name := "change", desc := "(LCallerhall;II)I" } : Jvm.MethodName)) := ex_tt ex_q6 148 rfl rfl
theorem tw_1349 : ex_tW (Jvm.Cond.codeWith ({ cls := "CallerhallLaw", name := "change", desc := "(LCallerhall;II)I" } : Jvm.MethodName) method_7_code (4 : Nat) (Option.some Jvm.ClassFile.FieldType.int) [((0 : Nat), (6 : Nat), (7 : Nat), (14 : Nat)), ((0 : Nat), (6 : Nat), (10 : Nat), (26 : Nat))]) := ex_tt ex_q6 149 rfl rfl
theorem tw_1350 : ex_tW (Jvm.Cond.methodLink "CallerhallLaw" (30 : Nat) ({ cls := "Callerhall", name := "change", desc := "(II)I" } : Jvm.MethodName)) := ex_tt ex_q6 150 rfl rfl
theorem tw_1351 : ex_tW (Jvm.Cond.instanceMethod ({ cls := "Callerhall", name := "change", desc := "(II)I" } : Jvm.MethodName)) := ex_tt ex_q6 151 rfl rfl
theorem tw_1352 : ex_tW (Jvm.Cond.selects "Callerhall" ({ cls := "Callerhall", name := "change", desc := "(II)I" } : Jvm.MethodName) ({ cls := "Callerhall", name := "change", desc := "(II)I" } : Jvm.MethodName)) := ex_tt ex_q6 152 rfl rfl
theorem tw_1353 : ex_tW (Jvm.Cond.code ({ cls := "Callerhall", name := "change", desc := "(II)I" } : Jvm.MethodName) prog_1_method_7_code (7 : Nat) (Option.some Jvm.ClassFile.FieldType.int)) := ex_tt ex_q6 153 rfl rfl
theorem tw_1354 : ex_tW (Jvm.Cond.methodLink "Callerhall" (159 : Nat) ({ cls := "java/lang/Math", name := "abs", desc := "(I)I" } : Jvm.MethodName)) := ex_tt ex_q6 154 rfl rfl
theorem tw_1355 : ex_tW (Jvm.Cond.methodLink "CallerhallLaw" (161 : Nat) ({ cls := "CallerhallLaw", name := "turnAll", desc := "(LCallerhall;I)I" } : Jvm.MethodName)) := ex_tt ex_q6 155 rfl rfl
theorem tw_1356 : ex_tW (Jvm.Cond.static ({ cls := "CallerhallLaw", name := "turnAll", desc := "(LCallerhall;I)I" } : Jvm.MethodName)) := ex_tt ex_q6 156 rfl rfl
theorem tw_1357 : ex_tW (Jvm.Cond.codeWith ({ cls := "CallerhallLaw", name := "turnAll", desc := "(LCallerhall;I)I" } : Jvm.MethodName) method_8_code (3 : Nat) (Option.some Jvm.ClassFile.FieldType.int) [((0 : Nat), (5 : Nat), (6 : Nat), (26 : Nat))]) := ex_tt ex_q6 157 rfl rfl
theorem tw_1358 : ex_tW (Jvm.Cond.methodLink "CallerhallLaw" (34 : Nat) ({ cls := "Callerhall", name := "turnAll", desc := "(I)I" } : Jvm.MethodName)) := ex_tt ex_q6 158 rfl rfl
theorem tw_1359 : ex_tW (Jvm.Cond.instanceMethod ({ cls := "Callerhall", name := "turnAll", desc := "(I)I" } : Jvm.MethodName)) := ex_tt ex_q6 159 rfl rfl
theorem tw_1360 : ex_tW (Jvm.Cond.selects "Callerhall" ({ cls := "Callerhall", name := "turnAll", desc := "(I)I" } : Jvm.MethodName) ({ cls := "Callerhall", name := "turnAll", desc := "(I)I" } : Jvm.MethodName)) := ex_tt ex_q6 160 rfl rfl
theorem tw_1361 : ex_tW (Jvm.Cond.code ({ cls := "Callerhall", name := "turnAll", desc := "(I)I" } : Jvm.MethodName) prog_1_method_8_code (5 : Nat) (Option.some Jvm.ClassFile.FieldType.int)) := ex_tt ex_q6 161 rfl rfl
theorem tw_1362 : ex_tW (Jvm.Cond.methodLink "CallerhallLaw" (164 : Nat) ({ cls := "Callerhall", name := "home", desc := "()I" } : Jvm.MethodName)) := ex_tt ex_q6 162 rfl rfl
theorem tw_1363 : ex_tW (Jvm.Cond.instanceMethod ({ cls := "Callerhall", name := "home", desc := "()I" } : Jvm.MethodName)) := ex_tt ex_q6 163 rfl rfl
theorem tw_1364 : ex_tW (Jvm.Cond.selects "Callerhall" ({ cls := "Callerhall", name := "home", desc := "()I" } : Jvm.MethodName) ({ cls := "Callerhall", name := "home", desc := "()I" } : Jvm.MethodName)) := ex_tt ex_q6 164 rfl rfl
theorem tw_1365 : ex_tW (Jvm.Cond.code ({ cls := "Callerhall", name := "home", desc := "()I" } : Jvm.MethodName) prog_1_method_2_code (2 : Nat) (Option.some Jvm.ClassFile.FieldType.int)) := ex_tt ex_q6 165 rfl rfl
theorem tw_1366 : ex_tW (Jvm.Cond.methodLink "CallerhallLaw" (167 : Nat) ({ cls := "CallerhallLaw", name := "skill", desc := "(LCallerhall;II)I" } : Jvm.MethodName)) := ex_tt ex_q6 166 rfl rfl
theorem tw_1367 : ex_tW (Jvm.Cond.static ({ cls := "CallerhallLaw", name := "skill", desc := "(LCallerhall;II)I" } : Jvm.MethodName)) := ex_tt ex_q6 167 rfl rfl
theorem tw_1368 : ex_tW (Jvm.Cond.codeWith ({ cls := "CallerhallLaw", name := "skill", desc := "(LCallerhall;II)I" } : Jvm.MethodName) method_10_code (4 : Nat) (Option.some Jvm.ClassFile.FieldType.int) [((0 : Nat), (6 : Nat), (7 : Nat), (14 : Nat)), ((0 : Nat), (6 : Nat), (10 : Nat), (26 : Nat))]) := ex_tt ex_q6 168 rfl rfl
theorem tw_1369 : ex_tW (Jvm.Cond.methodLink "CallerhallLaw" (42 : Nat) ({ cls := "Callerhall", name := "skill", desc := "(II)I" } : Jvm.MethodName)) := ex_tt ex_q6 169 rfl rfl
theorem tw_1370 : ex_tW (Jvm.Cond.instanceMethod ({ cls := "Callerhall", name := "skill", desc := "(II)I" } : Jvm.MethodName)) := ex_tt ex_q6 170 rfl rfl
theorem tw_1371 : ex_tW (Jvm.Cond.selects "Callerhall" ({ cls := "Callerhall", name := "skill", desc := "(II)I" } : Jvm.MethodName) ({ cls := "Callerhall", name := "skill", desc := "(II)I" } : Jvm.MethodName)) := ex_tt ex_q6 171 rfl rfl
theorem tw_1372 : ex_tW (Jvm.Cond.code ({ cls := "Callerhall", name := "skill", desc := "(II)I" } : Jvm.MethodName) prog_1_method_10_code (4 : Nat) (Option.some Jvm.ClassFile.FieldType.int)) := ex_tt ex_q6 172 rfl rfl
theorem tw_1374 : ex_tW (Jvm.Cond.methodLink "CallerhallLaw" (171 : Nat) ({ cls := "java/lang/String", name := "charAt", desc := "(I)C" } : Jvm.MethodName)) := ex_tt ex_q6 174 rfl rfl
theorem tw_1377 : ex_tW (Jvm.Cond.methodLink "CallerhallLaw" (180 : Nat) ({ cls := "CallerhallLaw", name := "define", desc := "(LCallerhall;CICCC)I" } : Jvm.MethodName)) := ex_tt ex_q6 177 rfl rfl
theorem tw_1378 : ex_tW (Jvm.Cond.static ({ cls := "CallerhallLaw", name := "define", desc := "(LCallerhall;CICCC)I" } : Jvm.MethodName)) := ex_tt ex_q6 178 rfl rfl
theorem tw_1379 : ex_tW (Jvm.Cond.codeWith ({ cls := "CallerhallLaw", name := "define", desc := "(LCallerhall;CICCC)I" } : Jvm.MethodName) method_14_code (7 : Nat) (Option.some Jvm.ClassFile.FieldType.int) [((0 : Nat), (11 : Nat), (12 : Nat), (26 : Nat)), ((0 : Nat), (11 : Nat), (16 : Nat), (49 : Nat))]) := ex_tt ex_q6 179 rfl rfl
theorem tw_1380 : ex_tW (Jvm.Cond.methodLink "CallerhallLaw" (57 : Nat) ({ cls := "Callerhall", name := "define", desc := "(CICCC)I" } : Jvm.MethodName)) := ex_tt ex_q6 180 rfl rfl
theorem tw_1381 : ex_tW (Jvm.Cond.instanceMethod ({ cls := "Callerhall", name := "define", desc := "(CICCC)I" } : Jvm.MethodName)) := ex_tt ex_q6 181 rfl rfl
theorem tw_1382 : ex_tW (Jvm.Cond.selects "Callerhall" ({ cls := "Callerhall", name := "define", desc := "(CICCC)I" } : Jvm.MethodName) ({ cls := "Callerhall", name := "define", desc := "(CICCC)I" } : Jvm.MethodName)) := ex_tt ex_q6 182 rfl rfl
theorem tw_1383 : ex_tW (Jvm.Cond.code ({ cls := "Callerhall", name := "define", desc := "(CICCC)I" } : Jvm.MethodName) prog_1_method_15_code (10 : Nat) (Option.some Jvm.ClassFile.FieldType.int)) := ex_tt ex_q6 183 rfl rfl
theorem tw_1384 : ex_tW (Jvm.Cond.methodLink "Callerhall" (188 : Nat) ({ cls := "Callerhall", name := "actOf", desc := "(C)I" } : Jvm.MethodName)) := ex_tt ex_q6 184 rfl rfl
theorem tw_1386 : ex_tW (Jvm.Cond.instanceMethod ({ cls := "Callerhall", name := "actOf", desc := "(C)I" } : Jvm.MethodName)) := ex_tt ex_q6 186 rfl rfl
theorem tw_1387 : ex_tW (Jvm.Cond.code ({ cls := "Callerhall", name := "actOf", desc := "(C)I" } : Jvm.MethodName) prog_1_method_59_code (2 : Nat) (Option.some Jvm.ClassFile.FieldType.int)) := ex_tt ex_q6 187 rfl rfl
theorem tw_1388 : ex_tW (Jvm.Cond.methodLink "Callerhall" (181 : Nat) ({ cls := "Callerhall", name := "checkYear", desc := "(I)V" } : Jvm.MethodName)) := ex_tt ex_q6 188 rfl rfl
theorem tw_1390 : ex_tW (Jvm.Cond.instanceMethod ({ cls := "Callerhall", name := "checkYear", desc := "(I)V" } : Jvm.MethodName)) := ex_tt ex_q6 190 rfl rfl
theorem tw_1391 : ex_tW (Jvm.Cond.code ({ cls := "Callerhall", name := "checkYear", desc := "(I)V" } : Jvm.MethodName) prog_1_method_56_code (2 : Nat) (Option.none : Option Jvm.ClassFile.FieldType)) := ex_tt ex_q6 191 rfl rfl
theorem tw_1392 : ex_tW (Jvm.Cond.methodLink "Callerhall" (197 : Nat) ({ cls := "Callerhall$Book", name := "canAdd", desc := "(II)Z" } : Jvm.MethodName)) := ex_tt ex_q6 192 rfl rfl
theorem tw_1393 : ex_tW (Jvm.Cond.instanceMethod ({ cls := "Callerhall$Book", name := "canAdd", desc := "(II)Z" } : Jvm.MethodName)) := ex_tt ex_q6 193 rfl rfl
theorem tw_1394 : ex_tW (Jvm.Cond.selects "Callerhall$Book" ({ cls := "Callerhall$Book", name := "canAdd", desc := "(II)Z" } : Jvm.MethodName) ({ cls := "Callerhall$Book", name := "canAdd", desc := "(II)Z" } : Jvm.MethodName)) := ex_tt ex_q6 194 rfl rfl
theorem tw_1395 : ex_tW (Jvm.Cond.code ({ cls := "Callerhall$Book", name := "canAdd", desc := "(II)Z" } : Jvm.MethodName) prog_2_method_4_code (4 : Nat) (Option.some Jvm.ClassFile.FieldType.boolean)) := ex_tt ex_q6 195 rfl rfl
theorem tw_1396 : ex_tW (Jvm.Cond.methodLink "Callerhall$Book" (33 : Nat) ({ cls := "Callerhall$Book", name := "versionOf", desc := "(II)I" } : Jvm.MethodName)) := ex_tt ex_q6 196 rfl rfl
theorem tw_1397 : ex_tW (Jvm.Cond.instanceMethod ({ cls := "Callerhall$Book", name := "versionOf", desc := "(II)I" } : Jvm.MethodName)) := ex_tt ex_q6 197 rfl rfl
theorem tw_1398 : ex_tW (Jvm.Cond.selects "Callerhall$Book" ({ cls := "Callerhall$Book", name := "versionOf", desc := "(II)I" } : Jvm.MethodName) ({ cls := "Callerhall$Book", name := "versionOf", desc := "(II)I" } : Jvm.MethodName)) := ex_tt ex_q6 198 rfl rfl
theorem tw_1399 : ex_tW (Jvm.Cond.code ({ cls := "Callerhall$Book", name := "versionOf", desc := "(II)I" } : Jvm.MethodName) prog_2_method_2_code (5 : Nat) (Option.some Jvm.ClassFile.FieldType.int)) := ex_tt ex_q6 199 rfl rfl
theorem tw_1400 : ex_tW (Jvm.Cond.methodLink "Callerhall" (201 : Nat) ({ cls := "Callerhall$Book", name := "add", desc := "(IIIII)I" } : Jvm.MethodName)) := ex_tt ex_q6 200 rfl rfl
theorem tw_1401 : ex_tW (Jvm.Cond.instanceMethod ({ cls := "Callerhall$Book", name := "add", desc := "(IIIII)I" } : Jvm.MethodName)) := ex_tt ex_q6 201 rfl rfl
theorem tw_1402 : ex_tW (Jvm.Cond.selects "Callerhall$Book" ({ cls := "Callerhall$Book", name := "add", desc := "(IIIII)I" } : Jvm.MethodName) ({ cls := "Callerhall$Book", name := "add", desc := "(IIIII)I" } : Jvm.MethodName)) := ex_tt ex_q6 202 rfl rfl
theorem tw_1403 : ex_tW (Jvm.Cond.code ({ cls := "Callerhall$Book", name := "add", desc := "(IIIII)I" } : Jvm.MethodName) prog_2_method_5_code (8 : Nat) (Option.some Jvm.ClassFile.FieldType.int)) := ex_tt ex_q6 203 rfl rfl
theorem tw_1404 : ex_tW (Jvm.Cond.methodLink "CallerhallLaw" (183 : Nat) ({ cls := "CallerhallLaw", name := "hall", desc := "(LCallerhall;I)I" } : Jvm.MethodName)) := ex_tt ex_q6 204 rfl rfl
theorem tw_1405 : ex_tW (Jvm.Cond.static ({ cls := "CallerhallLaw", name := "hall", desc := "(LCallerhall;I)I" } : Jvm.MethodName)) := ex_tt ex_q6 205 rfl rfl
theorem tw_1406 : ex_tW (Jvm.Cond.codeWith ({ cls := "CallerhallLaw", name := "hall", desc := "(LCallerhall;I)I" } : Jvm.MethodName) method_35_code (3 : Nat) (Option.some Jvm.ClassFile.FieldType.int) [((0 : Nat), (5 : Nat), (6 : Nat), (26 : Nat))]) := ex_tt ex_q6 206 rfl rfl
theorem tw_1407 : ex_tW (Jvm.Cond.methodLink "CallerhallLaw" (129 : Nat) ({ cls := "Callerhall", name := "hall", desc := "(I)I" } : Jvm.MethodName)) := ex_tt ex_q6 207 rfl rfl
theorem tw_1408 : ex_tW (Jvm.Cond.instanceMethod ({ cls := "Callerhall", name := "hall", desc := "(I)I" } : Jvm.MethodName)) := ex_tt ex_q6 208 rfl rfl
theorem tw_1409 : ex_tW (Jvm.Cond.selects "Callerhall" ({ cls := "Callerhall", name := "hall", desc := "(I)I" } : Jvm.MethodName) ({ cls := "Callerhall", name := "hall", desc := "(I)I" } : Jvm.MethodName)) := ex_tt ex_q6 209 rfl rfl
theorem tw_1410 : ex_tW (Jvm.Cond.code ({ cls := "Callerhall", name := "hall", desc := "(I)I" } : Jvm.MethodName) prog_1_method_46_code (3 : Nat) (Option.some Jvm.ClassFile.FieldType.int)) := ex_tt ex_q6 210 rfl rfl
theorem tw_1411 : ex_tW (Jvm.Cond.methodLink "Callerhall" (374 : Nat) ({ cls := "Callerhall$Party", name := "open", desc := "(I)V" } : Jvm.MethodName)) := ex_tt ex_q6 211 rfl rfl
theorem tw_1412 : ex_tW (Jvm.Cond.instanceMethod ({ cls := "Callerhall$Party", name := "open", desc := "(I)V" } : Jvm.MethodName)) := ex_tt ex_q6 212 rfl rfl
theorem tw_1413 : ex_tW (Jvm.Cond.selects "Callerhall$Party" ({ cls := "Callerhall$Party", name := "open", desc := "(I)V" } : Jvm.MethodName) ({ cls := "Callerhall$Party", name := "open", desc := "(I)V" } : Jvm.MethodName)) := ex_tt ex_q6 213 rfl rfl
theorem tw_1414 : ex_tW (Jvm.Cond.code ({ cls := "Callerhall$Party", name := "open", desc := "(I)V" } : Jvm.MethodName) prog_5_method_2_code (4 : Nat) (Option.none : Option Jvm.ClassFile.FieldType)) := ex_tt ex_q6 214 rfl rfl
theorem tw_1415 : ex_tW (Jvm.Cond.methodLink "CallerhallLaw" (188 : Nat) ({ cls := "CallerhallLaw", name := "backs", desc := "(LCallerhall;)Z" } : Jvm.MethodName)) := ex_tt ex_q6 215 rfl rfl
theorem tw_1416 : ex_tW (Jvm.Cond.static ({ cls := "CallerhallLaw", name := "backs", desc := "(LCallerhall;)Z" } : Jvm.MethodName)) := ex_tt ex_q6 216 rfl rfl
theorem tw_1417 : ex_tW (Jvm.Cond.code ({ cls := "CallerhallLaw", name := "backs", desc := "(LCallerhall;)Z" } : Jvm.MethodName) method_41_code (4 : Nat) (Option.some Jvm.ClassFile.FieldType.boolean)) := ex_tt ex_q6 217 rfl rfl
theorem tw_1418 : ex_tW (Jvm.Cond.methodLink "CallerhallLaw" (202 : Nat) ({ cls := "Callerhall", name := "calls", desc := "()I" } : Jvm.MethodName)) := ex_tt ex_q6 218 rfl rfl
theorem tw_1419 : ex_tW (Jvm.Cond.instanceMethod ({ cls := "Callerhall", name := "calls", desc := "()I" } : Jvm.MethodName)) := ex_tt ex_q6 219 rfl rfl
theorem tw_1420 : ex_tW (Jvm.Cond.selects "Callerhall" ({ cls := "Callerhall", name := "calls", desc := "()I" } : Jvm.MethodName) ({ cls := "Callerhall", name := "calls", desc := "()I" } : Jvm.MethodName)) := ex_tt ex_q6 220 rfl rfl
theorem tw_1421 : ex_tW (Jvm.Cond.code ({ cls := "Callerhall", name := "calls", desc := "()I" } : Jvm.MethodName) prog_1_method_28_code (1 : Nat) (Option.some Jvm.ClassFile.FieldType.int)) := ex_tt ex_q6 221 rfl rfl
theorem tw_1422 : ex_tW (Jvm.Cond.methodLink "CallerhallLaw" (205 : Nat) ({ cls := "CallerhallLaw", name := "places", desc := "(LCallerhall;)Ljava/lang/String;" } : Jvm.MethodName)) := ex_tt ex_q6 222 rfl rfl
theorem tw_1423 : ex_tW (Jvm.Cond.static ({ cls := "CallerhallLaw", name := "places", desc := "(LCallerhall;)Ljava/lang/String;" } : Jvm.MethodName)) := ex_tt ex_q6 223 rfl rfl
theorem tw_1424 : ex_tW (Jvm.Cond.code ({ cls := "CallerhallLaw", name := "places", desc := "(LCallerhall;)Ljava/lang/String;" } : Jvm.MethodName) method_43_code (3 : Nat) (Option.some (Jvm.ClassFile.FieldType.object "java/lang/String"))) := ex_tt ex_q6 224 rfl rfl
theorem tw_1425 : ex_tW (Jvm.Cond.classLink "CallerhallLaw" (247 : Nat) "java/lang/StringBuilder") := ex_tt ex_q6 225 rfl rfl
theorem tw_1426 : ex_tW (Jvm.Cond.instantiable "java/lang/StringBuilder" (4 : Nat)) := ex_tt ex_q6 226 rfl rfl
theorem tw_1551 : ex_tW (Jvm.Cond.methodLink "CallerhallLaw" (259 : Nat) ({ cls := "CallerhallLaw", name := "y", desc := "(LCallerhall;I)I" } : Jvm.MethodName)) := ex_tt ex_q7 111 rfl rfl
theorem tw_1552 : ex_tW (Jvm.Cond.static ({ cls := "CallerhallLaw", name := "y", desc := "(LCallerhall;I)I" } : Jvm.MethodName)) := ex_tt ex_q7 112 rfl rfl
theorem tw_1553 : ex_tW (Jvm.Cond.codeWith ({ cls := "CallerhallLaw", name := "y", desc := "(LCallerhall;I)I" } : Jvm.MethodName) method_4_code (3 : Nat) (Option.some Jvm.ClassFile.FieldType.int) [((0 : Nat), (5 : Nat), (6 : Nat), (14 : Nat))]) := ex_tt ex_q7 113 rfl rfl
theorem tw_1554 : ex_tW (Jvm.Cond.methodLink "CallerhallLaw" (16 : Nat) ({ cls := "Callerhall", name := "y", desc := "(I)I" } : Jvm.MethodName)) := ex_tt ex_q7 114 rfl rfl
theorem tw_1555 : ex_tW (Jvm.Cond.instanceMethod ({ cls := "Callerhall", name := "y", desc := "(I)I" } : Jvm.MethodName)) := ex_tt ex_q7 115 rfl rfl
theorem tw_1556 : ex_tW (Jvm.Cond.selects "Callerhall" ({ cls := "Callerhall", name := "y", desc := "(I)I" } : Jvm.MethodName) ({ cls := "Callerhall", name := "y", desc := "(I)I" } : Jvm.MethodName)) := ex_tt ex_q7 116 rfl rfl
theorem tw_1557 : ex_tW (Jvm.Cond.code ({ cls := "Callerhall", name := "y", desc := "(I)I" } : Jvm.MethodName) prog_1_method_4_code (2 : Nat) (Option.some Jvm.ClassFile.FieldType.int)) := ex_tt ex_q7 117 rfl rfl
theorem tw_1558 : ex_tW (Jvm.Cond.methodLink "CallerhallLaw" (261 : Nat) ({ cls := "CallerhallLaw", name := "facing", desc := "(LCallerhall;I)I" } : Jvm.MethodName)) := ex_tt ex_q7 118 rfl rfl
theorem tw_1559 : ex_tW (Jvm.Cond.static ({ cls := "CallerhallLaw", name := "facing", desc := "(LCallerhall;I)I" } : Jvm.MethodName)) := ex_tt ex_q7 119 rfl rfl
theorem tw_1560 : ex_tW (Jvm.Cond.codeWith ({ cls := "CallerhallLaw", name := "facing", desc := "(LCallerhall;I)I" } : Jvm.MethodName) method_5_code (3 : Nat) (Option.some Jvm.ClassFile.FieldType.int) [((0 : Nat), (5 : Nat), (6 : Nat), (14 : Nat))]) := ex_tt ex_q7 120 rfl rfl
theorem tw_1561 : ex_tW (Jvm.Cond.methodLink "CallerhallLaw" (19 : Nat) ({ cls := "Callerhall", name := "facing", desc := "(I)I" } : Jvm.MethodName)) := ex_tt ex_q7 121 rfl rfl
theorem tw_1562 : ex_tW (Jvm.Cond.instanceMethod ({ cls := "Callerhall", name := "facing", desc := "(I)I" } : Jvm.MethodName)) := ex_tt ex_q7 122 rfl rfl
theorem tw_1563 : ex_tW (Jvm.Cond.selects "Callerhall" ({ cls := "Callerhall", name := "facing", desc := "(I)I" } : Jvm.MethodName) ({ cls := "Callerhall", name := "facing", desc := "(I)I" } : Jvm.MethodName)) := ex_tt ex_q7 123 rfl rfl
theorem tw_1564 : ex_tW (Jvm.Cond.code ({ cls := "Callerhall", name := "facing", desc := "(I)I" } : Jvm.MethodName) prog_1_method_5_code (2 : Nat) (Option.some Jvm.ClassFile.FieldType.int)) := ex_tt ex_q7 124 rfl rfl
theorem tw_1650 : ex_tW (Jvm.Cond.fieldLink "java/lang/String" (9 : Nat) "java/lang/String" "value" "[B") := ex_tt ex_q7 210 rfl rfl
theorem tw_1651 : ex_tW (Jvm.Cond.fieldLink "java/lang/String" (15 : Nat) "java/lang/String" "coder" "B") := ex_tt ex_q7 211 rfl rfl
theorem tw_1667 : ex_tW (Jvm.Cond.methodLink "CallerhallLaw" (215 : Nat) ({ cls := "Callerhall", name := "left", desc := "()I" } : Jvm.MethodName)) := ex_tt ex_q7 227 rfl rfl
theorem tw_1670 : ex_tW (Jvm.Cond.methodLink "CallerhallLaw" (198 : Nat) ({ cls := "CallerhallLaw", name := "danced", desc := "(LCallerhall;CCCII)Z" } : Jvm.MethodName)) := ex_tt ex_q7 230 rfl rfl
theorem tw_1671 : ex_tW (Jvm.Cond.static ({ cls := "CallerhallLaw", name := "danced", desc := "(LCallerhall;CCCII)Z" } : Jvm.MethodName)) := ex_tt ex_q7 231 rfl rfl
theorem tw_1672 : ex_tW (Jvm.Cond.code ({ cls := "CallerhallLaw", name := "danced", desc := "(LCallerhall;CCCII)Z" } : Jvm.MethodName) method_42_code (13 : Nat) (Option.some Jvm.ClassFile.FieldType.boolean)) := ex_tt ex_q7 232 rfl rfl
theorem tw_1673 : ex_tW (Jvm.Cond.methodLink "CallerhallLaw" (218 : Nat) ({ cls := "Callerhall", name := "beats", desc := "()J" } : Jvm.MethodName)) := ex_tt ex_q7 233 rfl rfl
theorem tw_1674 : ex_tW (Jvm.Cond.instanceMethod ({ cls := "Callerhall", name := "beats", desc := "()J" } : Jvm.MethodName)) := ex_tt ex_q7 234 rfl rfl
theorem tw_1675 : ex_tW (Jvm.Cond.selects "Callerhall" ({ cls := "Callerhall", name := "beats", desc := "()J" } : Jvm.MethodName) ({ cls := "Callerhall", name := "beats", desc := "()J" } : Jvm.MethodName)) := ex_tt ex_q7 235 rfl rfl
theorem tw_1676 : ex_tW (Jvm.Cond.code ({ cls := "Callerhall", name := "beats", desc := "()J" } : Jvm.MethodName) prog_1_method_50_code (1 : Nat) (Option.some Jvm.ClassFile.FieldType.long)) := ex_tt ex_q7 236 rfl rfl
theorem tw_1677 : ex_tW (Jvm.Cond.methodLink "CallerhallLaw" (222 : Nat) ({ cls := "java/lang/String", name := "indexOf", desc := "(I)I" } : Jvm.MethodName)) := ex_tt ex_q7 237 rfl rfl
theorem tw_1678 : ex_tW (Jvm.Cond.methodLink "CallerhallLaw" (225 : Nat) ({ cls := "CallerhallLaw", name := "fits", desc := "(LCallerhall;CCC)I" } : Jvm.MethodName)) := ex_tt ex_q7 238 rfl rfl
theorem tw_1679 : ex_tW (Jvm.Cond.static ({ cls := "CallerhallLaw", name := "fits", desc := "(LCallerhall;CCC)I" } : Jvm.MethodName)) := ex_tt ex_q7 239 rfl rfl
theorem tw_1680 : ex_tW (Jvm.Cond.codeWith ({ cls := "CallerhallLaw", name := "fits", desc := "(LCallerhall;CCC)I" } : Jvm.MethodName) method_23_code (5 : Nat) (Option.some Jvm.ClassFile.FieldType.int) [((0 : Nat), (15 : Nat), (16 : Nat), (26 : Nat))]) := ex_tt ex_q8 0 rfl rfl
theorem tw_1681 : ex_tW (Jvm.Cond.methodLink "CallerhallLaw" (89 : Nat) ({ cls := "Callerhall", name := "fits", desc := "(CCC)Z" } : Jvm.MethodName)) := ex_tt ex_q8 1 rfl rfl
theorem tw_1682 : ex_tW (Jvm.Cond.instanceMethod ({ cls := "Callerhall", name := "fits", desc := "(CCC)Z" } : Jvm.MethodName)) := ex_tt ex_q8 2 rfl rfl
theorem tw_1683 : ex_tW (Jvm.Cond.selects "Callerhall" ({ cls := "Callerhall", name := "fits", desc := "(CCC)Z" } : Jvm.MethodName) ({ cls := "Callerhall", name := "fits", desc := "(CCC)Z" } : Jvm.MethodName)) := ex_tt ex_q8 3 rfl rfl
theorem tw_1684 : ex_tW (Jvm.Cond.code ({ cls := "Callerhall", name := "fits", desc := "(CCC)Z" } : Jvm.MethodName) prog_1_method_26_code (7 : Nat) (Option.some Jvm.ClassFile.FieldType.boolean)) := ex_tt ex_q8 4 rfl rfl
theorem tw_1685 : ex_tW (Jvm.Cond.methodLink "CallerhallLaw" (237 : Nat) ({ cls := "java/lang/Math", name := "min", desc := "(II)I" } : Jvm.MethodName)) := ex_tt ex_q8 5 rfl rfl
theorem tw_1686 : ex_tW (Jvm.Cond.methodLink "CallerhallLaw" (244 : Nat) ({ cls := "CallerhallLaw", name := "parts", desc := "(LCallerhall;C)I" } : Jvm.MethodName)) := ex_tt ex_q8 6 rfl rfl
theorem tw_1687 : ex_tW (Jvm.Cond.static ({ cls := "CallerhallLaw", name := "parts", desc := "(LCallerhall;C)I" } : Jvm.MethodName)) := ex_tt ex_q8 7 rfl rfl
theorem tw_1688 : ex_tW (Jvm.Cond.codeWith ({ cls := "CallerhallLaw", name := "parts", desc := "(LCallerhall;C)I" } : Jvm.MethodName) method_17_code (3 : Nat) (Option.some Jvm.ClassFile.FieldType.int) [((0 : Nat), (5 : Nat), (6 : Nat), (26 : Nat)), ((0 : Nat), (5 : Nat), (9 : Nat), (40 : Nat))]) := ex_tt ex_q8 8 rfl rfl
theorem tw_1689 : ex_tW (Jvm.Cond.methodLink "CallerhallLaw" (69 : Nat) ({ cls := "Callerhall", name := "parts", desc := "(C)I" } : Jvm.MethodName)) := ex_tt ex_q8 9 rfl rfl
theorem tw_1690 : ex_tW (Jvm.Cond.instanceMethod ({ cls := "Callerhall", name := "parts", desc := "(C)I" } : Jvm.MethodName)) := ex_tt ex_q8 10 rfl rfl
theorem tw_1691 : ex_tW (Jvm.Cond.selects "Callerhall" ({ cls := "Callerhall", name := "parts", desc := "(C)I" } : Jvm.MethodName) ({ cls := "Callerhall", name := "parts", desc := "(C)I" } : Jvm.MethodName)) := ex_tt ex_q8 11 rfl rfl
theorem tw_1692 : ex_tW (Jvm.Cond.code ({ cls := "Callerhall", name := "parts", desc := "(C)I" } : Jvm.MethodName) prog_1_method_18_code (2 : Nat) (Option.some Jvm.ClassFile.FieldType.int)) := ex_tt ex_q8 12 rfl rfl
theorem tw_1693 : ex_tW (Jvm.Cond.methodLink "CallerhallLaw" (342 : Nat) ({ cls := "CallerhallLaw", name := "told", desc := "(LCallerhall;)Ljava/lang/String;" } : Jvm.MethodName)) := ex_tt ex_q8 13 rfl rfl
theorem tw_1694 : ex_tW (Jvm.Cond.static ({ cls := "CallerhallLaw", name := "told", desc := "(LCallerhall;)Ljava/lang/String;" } : Jvm.MethodName)) := ex_tt ex_q8 14 rfl rfl
theorem tw_1695 : ex_tW (Jvm.Cond.code ({ cls := "CallerhallLaw", name := "told", desc := "(LCallerhall;)Ljava/lang/String;" } : Jvm.MethodName) method_44_code (1 : Nat) (Option.some (Jvm.ClassFile.FieldType.object "java/lang/String"))) := ex_tt ex_q8 15 rfl rfl
theorem tw_1741 : ex_tW (Jvm.Cond.methodLink "CallerhallLaw" (287 : Nat) ({ cls := "CallerhallLaw", name := "met", desc := "(LCallerhall;II)I" } : Jvm.MethodName)) := ex_tt ex_q8 61 rfl rfl
theorem tw_1742 : ex_tW (Jvm.Cond.static ({ cls := "CallerhallLaw", name := "met", desc := "(LCallerhall;II)I" } : Jvm.MethodName)) := ex_tt ex_q8 62 rfl rfl
theorem tw_1743 : ex_tW (Jvm.Cond.codeWith ({ cls := "CallerhallLaw", name := "met", desc := "(LCallerhall;II)I" } : Jvm.MethodName) method_38_code (4 : Nat) (Option.some Jvm.ClassFile.FieldType.int) [((0 : Nat), (6 : Nat), (7 : Nat), (14 : Nat)), ((0 : Nat), (6 : Nat), (10 : Nat), (26 : Nat))]) := ex_tt ex_q8 63 rfl rfl
theorem tw_1744 : ex_tW (Jvm.Cond.methodLink "CallerhallLaw" (138 : Nat) ({ cls := "Callerhall", name := "met", desc := "(II)I" } : Jvm.MethodName)) := ex_tt ex_q8 64 rfl rfl
theorem tw_1745 : ex_tW (Jvm.Cond.instanceMethod ({ cls := "Callerhall", name := "met", desc := "(II)I" } : Jvm.MethodName)) := ex_tt ex_q8 65 rfl rfl
theorem tw_1746 : ex_tW (Jvm.Cond.selects "Callerhall" ({ cls := "Callerhall", name := "met", desc := "(II)I" } : Jvm.MethodName) ({ cls := "Callerhall", name := "met", desc := "(II)I" } : Jvm.MethodName)) := ex_tt ex_q8 66 rfl rfl
theorem tw_1747 : ex_tW (Jvm.Cond.code ({ cls := "Callerhall", name := "met", desc := "(II)I" } : Jvm.MethodName) prog_1_method_49_code (3 : Nat) (Option.some Jvm.ClassFile.FieldType.int)) := ex_tt ex_q8 67 rfl rfl
theorem tw_1748 : ex_tW (Jvm.Cond.methodLink "Callerhall" (383 : Nat) ({ cls := "Callerhall", name := "checkCouple", desc := "(I)V" } : Jvm.MethodName)) := ex_tt ex_q8 68 rfl rfl
theorem tw_1750 : ex_tW (Jvm.Cond.instanceMethod ({ cls := "Callerhall", name := "checkCouple", desc := "(I)V" } : Jvm.MethodName)) := ex_tt ex_q8 70 rfl rfl
theorem tw_1751 : ex_tW (Jvm.Cond.code ({ cls := "Callerhall", name := "checkCouple", desc := "(I)V" } : Jvm.MethodName) prog_1_method_57_code (2 : Nat) (Option.none : Option Jvm.ClassFile.FieldType)) := ex_tt ex_q8 71 rfl rfl
theorem tw_1752 : ex_tW (Jvm.Cond.methodLink "CallerhallLaw" (349 : Nat) ({ cls := "CallerhallLaw", name := "ordered", desc := "(LCallerhall;)Z" } : Jvm.MethodName)) := ex_tt ex_q8 72 rfl rfl
theorem tw_1753 : ex_tW (Jvm.Cond.static ({ cls := "CallerhallLaw", name := "ordered", desc := "(LCallerhall;)Z" } : Jvm.MethodName)) := ex_tt ex_q8 73 rfl rfl
theorem tw_1754 : ex_tW (Jvm.Cond.code ({ cls := "CallerhallLaw", name := "ordered", desc := "(LCallerhall;)Z" } : Jvm.MethodName) method_45_code (6 : Nat) (Option.some Jvm.ClassFile.FieldType.boolean)) := ex_tt ex_q8 74 rfl rfl
theorem tw_1755 : ex_tW (Jvm.Cond.methodLink "CallerhallLaw" (292 : Nat) ({ cls := "Callerhall", name := "isConsistent", desc := "()Z" } : Jvm.MethodName)) := ex_tt ex_q8 75 rfl rfl
theorem tw_1756 : ex_tW (Jvm.Cond.instanceMethod ({ cls := "Callerhall", name := "isConsistent", desc := "()Z" } : Jvm.MethodName)) := ex_tt ex_q8 76 rfl rfl
theorem tw_1757 : ex_tW (Jvm.Cond.selects "Callerhall" ({ cls := "Callerhall", name := "isConsistent", desc := "()Z" } : Jvm.MethodName) ({ cls := "Callerhall", name := "isConsistent", desc := "()Z" } : Jvm.MethodName)) := ex_tt ex_q8 77 rfl rfl
theorem tw_1758 : ex_tW (Jvm.Cond.code ({ cls := "Callerhall", name := "isConsistent", desc := "()Z" } : Jvm.MethodName) prog_1_method_53_code (2 : Nat) (Option.some Jvm.ClassFile.FieldType.boolean)) := ex_tt ex_q8 78 rfl rfl
theorem tw_1759 : ex_tW (Jvm.Cond.methodLink "Callerhall" (414 : Nat) ({ cls := "Callerhall", name := "isDoneInParts", desc := "(I)Z" } : Jvm.MethodName)) := ex_tt ex_q8 79 rfl rfl
theorem tw_1761 : ex_tW (Jvm.Cond.instanceMethod ({ cls := "Callerhall", name := "isDoneInParts", desc := "(I)Z" } : Jvm.MethodName)) := ex_tt ex_q8 81 rfl rfl
theorem tw_1762 : ex_tW (Jvm.Cond.code ({ cls := "Callerhall", name := "isDoneInParts", desc := "(I)Z" } : Jvm.MethodName) prog_1_method_68_code (5 : Nat) (Option.some Jvm.ClassFile.FieldType.boolean)) := ex_tt ex_q8 82 rfl rfl
theorem tw_1763 : ex_tW (Jvm.Cond.methodLink "Callerhall" (455 : Nat) ({ cls := "Callerhall$Places", name := "isAt", desc := "(ILCallerhall$Floor;)Z" } : Jvm.MethodName)) := ex_tt ex_q8 83 rfl rfl
theorem tw_1764 : ex_tW (Jvm.Cond.instanceMethod ({ cls := "Callerhall$Places", name := "isAt", desc := "(ILCallerhall$Floor;)Z" } : Jvm.MethodName)) := ex_tt ex_q8 84 rfl rfl
theorem tw_1765 : ex_tW (Jvm.Cond.selects "Callerhall$Places" ({ cls := "Callerhall$Places", name := "isAt", desc := "(ILCallerhall$Floor;)Z" } : Jvm.MethodName) ({ cls := "Callerhall$Places", name := "isAt", desc := "(ILCallerhall$Floor;)Z" } : Jvm.MethodName)) := ex_tt ex_q8 85 rfl rfl
theorem tw_1766 : ex_tW (Jvm.Cond.code ({ cls := "Callerhall$Places", name := "isAt", desc := "(ILCallerhall$Floor;)Z" } : Jvm.MethodName) prog_7_method_5_code (3 : Nat) (Option.some Jvm.ClassFile.FieldType.boolean)) := ex_tt ex_q8 86 rfl rfl
theorem tw_1767 : ex_tW (Jvm.Cond.methodLink "Callerhall" (418 : Nat) ({ cls := "Callerhall$Party", name := "isCounted", desc := "()Z" } : Jvm.MethodName)) := ex_tt ex_q8 87 rfl rfl
theorem tw_1768 : ex_tW (Jvm.Cond.instanceMethod ({ cls := "Callerhall$Party", name := "isCounted", desc := "()Z" } : Jvm.MethodName)) := ex_tt ex_q8 88 rfl rfl
theorem tw_1769 : ex_tW (Jvm.Cond.selects "Callerhall$Party" ({ cls := "Callerhall$Party", name := "isCounted", desc := "()Z" } : Jvm.MethodName) ({ cls := "Callerhall$Party", name := "isCounted", desc := "()Z" } : Jvm.MethodName)) := ex_tt ex_q8 89 rfl rfl
theorem tw_1770 : ex_tW (Jvm.Cond.code ({ cls := "Callerhall$Party", name := "isCounted", desc := "()Z" } : Jvm.MethodName) prog_5_method_7_code (5 : Nat) (Option.some Jvm.ClassFile.FieldType.boolean)) := ex_tt ex_q8 90 rfl rfl
theorem tw_1771 : ex_tW (Jvm.Cond.classLink "CallerhallLaw" (296 : Nat) "java/util/HashSet") := ex_tt ex_q8 91 rfl rfl
theorem tw_1772 : ex_tW (Jvm.Cond.instantiable "java/util/HashSet" (1 : Nat)) := ex_tt ex_q8 92 rfl rfl
theorem tw_2309 : ex_tW (Jvm.Cond.methodLink "CallerhallLaw" (302 : Nat) ({ cls := "CallerhallLaw", name := "find", desc := "(LCallerhall;II)I" } : Jvm.MethodName)) := ex_tt ex_q10 149 rfl rfl
theorem tw_2310 : ex_tW (Jvm.Cond.static ({ cls := "CallerhallLaw", name := "find", desc := "(LCallerhall;II)I" } : Jvm.MethodName)) := ex_tt ex_q10 150 rfl rfl
theorem tw_2311 : ex_tW (Jvm.Cond.codeWith ({ cls := "CallerhallLaw", name := "find", desc := "(LCallerhall;II)I" } : Jvm.MethodName) method_9_code (4 : Nat) (Option.some Jvm.ClassFile.FieldType.int) [((0 : Nat), (6 : Nat), (7 : Nat), (40 : Nat))]) := ex_tt ex_q10 151 rfl rfl
theorem tw_2312 : ex_tW (Jvm.Cond.methodLink "CallerhallLaw" (37 : Nat) ({ cls := "Callerhall", name := "find", desc := "(II)I" } : Jvm.MethodName)) := ex_tt ex_q10 152 rfl rfl
theorem tw_2313 : ex_tW (Jvm.Cond.instanceMethod ({ cls := "Callerhall", name := "find", desc := "(II)I" } : Jvm.MethodName)) := ex_tt ex_q10 153 rfl rfl
theorem tw_2314 : ex_tW (Jvm.Cond.selects "Callerhall" ({ cls := "Callerhall", name := "find", desc := "(II)I" } : Jvm.MethodName) ({ cls := "Callerhall", name := "find", desc := "(II)I" } : Jvm.MethodName)) := ex_tt ex_q10 154 rfl rfl
theorem tw_2315 : ex_tW (Jvm.Cond.code ({ cls := "Callerhall", name := "find", desc := "(II)I" } : Jvm.MethodName) prog_1_method_9_code (4 : Nat) (Option.some Jvm.ClassFile.FieldType.int)) := ex_tt ex_q10 155 rfl rfl
theorem tw_2316 : ex_tW (Jvm.Cond.methodLink "CallerhallLaw" (304 : Nat) ({ cls := "CallerhallLaw", name := "partner", desc := "(LCallerhall;IZI)I" } : Jvm.MethodName)) := ex_tt ex_q10 156 rfl rfl
theorem tw_2317 : ex_tW (Jvm.Cond.static ({ cls := "CallerhallLaw", name := "partner", desc := "(LCallerhall;IZI)I" } : Jvm.MethodName)) := ex_tt ex_q10 157 rfl rfl
theorem tw_2318 : ex_tW (Jvm.Cond.codeWith ({ cls := "CallerhallLaw", name := "partner", desc := "(LCallerhall;IZI)I" } : Jvm.MethodName) method_27_code (5 : Nat) (Option.some Jvm.ClassFile.FieldType.int) [((0 : Nat), (7 : Nat), (8 : Nat), (14 : Nat)), ((0 : Nat), (7 : Nat), (12 : Nat), (26 : Nat)), ((0 : Nat), (7 : Nat), (17 : Nat), (40 : Nat))]) := ex_tt ex_q10 158 rfl rfl
theorem tw_2319 : ex_tW (Jvm.Cond.methodLink "CallerhallLaw" (104 : Nat) ({ cls := "Callerhall", name := "partner", desc := "(IZI)I" } : Jvm.MethodName)) := ex_tt ex_q10 159 rfl rfl
theorem tw_2320 : ex_tW (Jvm.Cond.instanceMethod ({ cls := "Callerhall", name := "partner", desc := "(IZI)I" } : Jvm.MethodName)) := ex_tt ex_q10 160 rfl rfl
theorem tw_2321 : ex_tW (Jvm.Cond.selects "Callerhall" ({ cls := "Callerhall", name := "partner", desc := "(IZI)I" } : Jvm.MethodName) ({ cls := "Callerhall", name := "partner", desc := "(IZI)I" } : Jvm.MethodName)) := ex_tt ex_q10 161 rfl rfl
theorem tw_2322 : ex_tW (Jvm.Cond.code ({ cls := "Callerhall", name := "partner", desc := "(IZI)I" } : Jvm.MethodName) prog_1_method_31_code (5 : Nat) (Option.some Jvm.ClassFile.FieldType.int)) := ex_tt ex_q10 162 rfl rfl
theorem tw_2323 : ex_tW (Jvm.Cond.methodLink "Callerhall" (316 : Nat) ({ cls := "Callerhall", name := "pairAll", desc := "(II)V" } : Jvm.MethodName)) := ex_tt ex_q10 163 rfl rfl
theorem tw_2325 : ex_tW (Jvm.Cond.instanceMethod ({ cls := "Callerhall", name := "pairAll", desc := "(II)V" } : Jvm.MethodName)) := ex_tt ex_q10 165 rfl rfl
theorem tw_2326 : ex_tW (Jvm.Cond.code ({ cls := "Callerhall", name := "pairAll", desc := "(II)V" } : Jvm.MethodName) prog_1_method_66_code (3 : Nat) (Option.none : Option Jvm.ClassFile.FieldType)) := ex_tt ex_q10 166 rfl rfl
theorem tw_2327 : ex_tW (Jvm.Cond.methodLink "Callerhall" (439 : Nat) ({ cls := "Callerhall$Steps", name := "space", desc := "(IZZ)V" } : Jvm.MethodName)) := ex_tt ex_q10 167 rfl rfl
theorem tw_2328 : ex_tW (Jvm.Cond.methodLink "Callerhall" (307 : Nat) ({ cls := "Callerhall$Steps", name := "tell", desc := "(LCallerhall$Floor;I)Z" } : Jvm.MethodName)) := ex_tt ex_q10 168 rfl rfl
theorem tw_2329 : ex_tW (Jvm.Cond.methodLink "Callerhall" (443 : Nat) ({ cls := "Callerhall$Steps", name := "ready", desc := "(LCallerhall$Floor;I)V" } : Jvm.MethodName)) := ex_tt ex_q10 169 rfl rfl
theorem tw_2330 : ex_tW (Jvm.Cond.methodLink "CallerhallLaw" (307 : Nat) ({ cls := "CallerhallLaw", name := "pair", desc := "(LCallerhall;I)I" } : Jvm.MethodName)) := ex_tt ex_q10 170 rfl rfl
theorem tw_2331 : ex_tW (Jvm.Cond.static ({ cls := "CallerhallLaw", name := "pair", desc := "(LCallerhall;I)I" } : Jvm.MethodName)) := ex_tt ex_q10 171 rfl rfl
theorem tw_2332 : ex_tW (Jvm.Cond.codeWith ({ cls := "CallerhallLaw", name := "pair", desc := "(LCallerhall;I)I" } : Jvm.MethodName) method_28_code (3 : Nat) (Option.some Jvm.ClassFile.FieldType.int) [((0 : Nat), (5 : Nat), (6 : Nat), (14 : Nat)), ((0 : Nat), (5 : Nat), (9 : Nat), (40 : Nat))]) := ex_tt ex_q10 172 rfl rfl
theorem tw_2333 : ex_tW (Jvm.Cond.methodLink "CallerhallLaw" (108 : Nat) ({ cls := "Callerhall", name := "pair", desc := "(I)C" } : Jvm.MethodName)) := ex_tt ex_q10 173 rfl rfl
theorem tw_2334 : ex_tW (Jvm.Cond.instanceMethod ({ cls := "Callerhall", name := "pair", desc := "(I)C" } : Jvm.MethodName)) := ex_tt ex_q10 174 rfl rfl
theorem tw_2335 : ex_tW (Jvm.Cond.selects "Callerhall" ({ cls := "Callerhall", name := "pair", desc := "(I)C" } : Jvm.MethodName) ({ cls := "Callerhall", name := "pair", desc := "(I)C" } : Jvm.MethodName)) := ex_tt ex_q10 175 rfl rfl
theorem tw_2336 : ex_tW (Jvm.Cond.code ({ cls := "Callerhall", name := "pair", desc := "(I)C" } : Jvm.MethodName) prog_1_method_32_code (3 : Nat) (Option.some Jvm.ClassFile.FieldType.char)) := ex_tt ex_q10 176 rfl rfl
theorem tw_2337 : ex_tW (Jvm.Cond.methodLink "CallerhallLaw" (314 : Nat) ({ cls := "Callerhall", name := "meanAway", desc := "()D" } : Jvm.MethodName)) := ex_tt ex_q10 177 rfl rfl
theorem tw_2338 : ex_tW (Jvm.Cond.instanceMethod ({ cls := "Callerhall", name := "meanAway", desc := "()D" } : Jvm.MethodName)) := ex_tt ex_q10 178 rfl rfl
theorem tw_2339 : ex_tW (Jvm.Cond.selects "Callerhall" ({ cls := "Callerhall", name := "meanAway", desc := "()D" } : Jvm.MethodName) ({ cls := "Callerhall", name := "meanAway", desc := "()D" } : Jvm.MethodName)) := ex_tt ex_q10 179 rfl rfl
theorem tw_2340 : ex_tW (Jvm.Cond.code ({ cls := "Callerhall", name := "meanAway", desc := "()D" } : Jvm.MethodName) prog_1_method_52_code (5 : Nat) (Option.some Jvm.ClassFile.FieldType.double)) := ex_tt ex_q10 180 rfl rfl
theorem tw_2341 : ex_tW (Jvm.Cond.methodLink "Callerhall" (409 : Nat) ({ cls := "java/lang/Math", name := "abs", desc := "(J)J" } : Jvm.MethodName)) := ex_tt ex_q10 181 rfl rfl
theorem tw_2342 : ex_tW (Jvm.Cond.static ({ cls := "java/lang/Math", name := "abs", desc := "(J)J" } : Jvm.MethodName)) := ex_tt ex_q10 182 rfl rfl
theorem tw_2343 : ex_tW (Jvm.Cond.code ({ cls := "java/lang/Math", name := "abs", desc := "(J)J" } : Jvm.MethodName) prog_35_method_61_code (2 : Nat) (Option.some Jvm.ClassFile.FieldType.long)) := ex_tt ex_q10 183 rfl rfl
theorem tw_2344 : ex_tW (Jvm.Cond.constantDouble "Callerhall" (412 : Nat) (4620693217682128896 : UInt64)) := ex_tt ex_q10 184 rfl rfl
theorem tw_2345 : ex_tW (Jvm.Cond.methodLink "CallerhallLaw" (338 : Nat) ({ cls := "CallerhallLaw", name := "whole", desc := "(LCallerhallLaw$Draw;)Z" } : Jvm.MethodName)) := ex_tt ex_q10 185 rfl rfl
theorem tw_2346 : ex_tW (Jvm.Cond.static ({ cls := "CallerhallLaw", name := "whole", desc := "(LCallerhallLaw$Draw;)Z" } : Jvm.MethodName)) := ex_tt ex_q10 186 rfl rfl
theorem tw_2347 : ex_tW (Jvm.Cond.code ({ cls := "CallerhallLaw", name := "whole", desc := "(LCallerhallLaw$Draw;)Z" } : Jvm.MethodName) method_46_code (12 : Nat) (Option.some Jvm.ClassFile.FieldType.boolean)) := ex_tt ex_q10 187 rfl rfl
theorem tm_50 : ex_tW (Cond.methodLink "CallerhallLaw" 318 (ex_inf 93).1) := tw_50
theorem tm_51 : ex_tW (Cond.instanceMethod (ex_inf 93).1) := tw_51
theorem tm_58 : (Cond.methodLinkNest "Callerhall" 9 (ex_inf 40).1 "Callerhall") ∈ ex_TN := tw_58
theorem tm_59 : ex_tW (Cond.instanceMethod (ex_inf 40).1) := tw_59
theorem tm_89 : ex_tW (Cond.methodLink "Callerhall" 31 (ex_inf 57).1) := tw_89
theorem tm_90 : ex_tW (Cond.instanceMethod (ex_inf 57).1) := tw_90
theorem tm_95 : (Cond.methodLinkNest "Callerhall$Stage" 11 (ex_inf 5).1 "Callerhall") ∈ ex_TN := tw_95
theorem tm_96 : ex_tW (Cond.instanceMethod (ex_inf 5).1) := tw_96
theorem tm_171 : (Cond.methodLinkNest "Callerhall$Stage" 26 (ex_inf 67).1 "Callerhall") ∈ ex_TN := tw_171
theorem tm_172 : ex_tW (Cond.instanceMethod (ex_inf 67).1) := tw_172
theorem tm_246 : (Cond.methodLinkNest "Callerhall" 40 (ex_inf 0).1 "Callerhall") ∈ ex_TN := tw_246
theorem tm_247 : ex_tW (Cond.instanceMethod (ex_inf 0).1) := tw_247
theorem tm_281 : (Cond.methodLinkNest "Callerhall" 47 (ex_inf 45).1 "Callerhall") ∈ ex_TN := tw_281
theorem tm_282 : ex_tW (Cond.instanceMethod (ex_inf 45).1) := tw_282
theorem tm_323 : (Cond.methodLinkNest "Callerhall" 57 (ex_inf 35).1 "Callerhall") ∈ ex_TN := tw_323
theorem tm_324 : ex_tW (Cond.instanceMethod (ex_inf 35).1) := tw_324
theorem tm_345 : (Cond.methodLinkNest "Callerhall" 64 (ex_inf 25).1 "Callerhall") ∈ ex_TN := tw_345
theorem tm_346 : ex_tW (Cond.instanceMethod (ex_inf 25).1) := tw_346
theorem tm_369 : (Cond.methodLinkNest "Callerhall" 71 (ex_inf 54).1 "Callerhall") ∈ ex_TN := tw_369
theorem tm_370 : ex_tW (Cond.instanceMethod (ex_inf 54).1) := tw_370
theorem tm_392 : (Cond.methodLinkNest "Callerhall" 78 (ex_inf 28).1 "Callerhall") ∈ ex_TN := tw_392
theorem tm_393 : ex_tW (Cond.instanceMethod (ex_inf 28).1) := tw_393
theorem tm_418 : (Cond.methodLinkNest "Callerhall" 85 (ex_inf 92).1 "Callerhall") ∈ ex_TN := tw_418
theorem tm_419 : ex_tW (Cond.instanceMethod (ex_inf 92).1) := tw_419
theorem tm_445 : ex_tW (Cond.methodLink "Callerhall" 118 (ex_inf 41).1) := tw_445
theorem tm_446 : ex_tW (Cond.instanceMethod (ex_inf 41).1) := tw_446
theorem tm_447 : ex_tW (Cond.selects "Callerhall$Places" (ex_inf 41).1 (ex_inf 41).1) := tw_447
theorem tm_507 : ex_tW (Cond.methodLink "CallerhallLaw" 231 (ex_inf 108).1) := tw_507
theorem tm_508 : ex_tW (Cond.instanceMethod (ex_inf 108).1) := tw_508
theorem tm_509 : ex_tW (Cond.selects "Callerhall" (ex_inf 108).1 (ex_inf 108).1) := tw_509
theorem tm_511 : ex_tW (Cond.methodLink "CallerhallLaw" 289 (ex_inf 116).1) := tw_511
theorem tm_512 : ex_tW (Cond.instanceMethod (ex_inf 116).1) := tw_512
theorem tm_513 : ex_tW (Cond.selects "Callerhall" (ex_inf 116).1 (ex_inf 116).1) := tw_513
theorem tm_516 : ex_tW (Cond.methodLink "Callerhall" 327 (ex_inf 164).1) := tw_516
theorem tm_517 : ex_tW (Cond.instanceMethod (ex_inf 164).1) := tw_517
theorem tm_518 : ex_tW (Cond.selects "java/lang/String" (ex_inf 164).1 (ex_inf 164).1) := tw_518
theorem tm_520 : ex_tW (Cond.methodLink "java/lang/String" 335 (ex_inf 168).1) := tw_520
theorem tm_521 : ex_tW (Cond.instanceMethod (ex_inf 168).1) := tw_521
theorem tm_522 : ex_tW (Cond.selects "java/lang/String" (ex_inf 168).1 (ex_inf 168).1) := tw_522
theorem tm_526 : ex_tW (Cond.methodLink "Callerhall" 330 (ex_inf 153).1) := tw_526
theorem tm_528 : ex_tW (Cond.instanceMethod (ex_inf 153).1) := tw_528
theorem tm_530 : ex_tW (Cond.methodLink "Callerhall" 460 (ex_inf 154).1) := tw_530
theorem tm_532 : ex_tW (Cond.instanceMethod (ex_inf 154).1) := tw_532
theorem tm_534 : ex_tW (Cond.methodLink "Callerhall" 165 (ex_inf 155).1) := tw_534
theorem tm_535 : ex_tW (Cond.static (ex_inf 155).1) := tw_535
theorem tm_537 : ex_tW (Cond.methodLink "Callerhall" 169 (ex_inf 156).1) := tw_537
theorem tm_538 : ex_tW (Cond.static (ex_inf 156).1) := tw_538
theorem tm_540 : ex_tW (Cond.methodLink "Callerhall" 467 (ex_inf 162).1) := tw_540
theorem tm_541 : ex_tW (Cond.static (ex_inf 162).1) := tw_541
theorem tm_549 : ex_tW (Cond.methodLink "Callerhall" 464 (ex_inf 163).1) := tw_549
theorem tm_550 : ex_tW (Cond.static (ex_inf 163).1) := tw_550
theorem tm_552 : ex_tW (Cond.methodLink "Callerhall" 333 (ex_inf 165).1) := tw_552
theorem tm_553 : ex_tW (Cond.instanceMethod (ex_inf 165).1) := tw_553
theorem tm_554 : ex_tW (Cond.selects "java/lang/String" (ex_inf 165).1 (ex_inf 165).1) := tw_554
theorem tm_556 : ex_tW (Cond.methodLink "java/lang/String" 492 (ex_inf 169).1) := tw_556
theorem tm_557 : ex_tW (Cond.instanceMethod (ex_inf 169).1) := tw_557
theorem tm_558 : ex_tW (Cond.selects "java/lang/String" (ex_inf 169).1 (ex_inf 169).1) := tw_558
theorem tm_560 : ex_tW (Cond.methodLink "java/lang/String" 495 (ex_inf 171).1) := tw_560
theorem tm_561 : ex_tW (Cond.static (ex_inf 171).1) := tw_561
theorem tm_563 : ex_tW (Cond.methodLink "java/lang/StringLatin1" 9 (ex_inf 170).1) := tw_563
theorem tm_564 : ex_tW (Cond.static (ex_inf 170).1) := tw_564
theorem tm_568 : ex_tW (Cond.methodLink "java/lang/String" 1059 (ex_inf 175).1) := tw_568
theorem tm_569 : ex_tW (Cond.static (ex_inf 175).1) := tw_569
theorem tm_591 : ex_tW (Cond.methodLink "CallerhallLaw" 311 (ex_inf 118).1) := tw_591
theorem tm_592 : ex_tW (Cond.instanceMethod (ex_inf 118).1) := tw_592
theorem tm_593 : ex_tW (Cond.selects "Callerhall" (ex_inf 118).1 (ex_inf 118).1) := tw_593
theorem tm_595 : ex_tW (Cond.methodLink "Callerhall" 336 (ex_inf 152).1) := tw_595
theorem tm_597 : ex_tW (Cond.instanceMethod (ex_inf 152).1) := tw_597
theorem tm_599 : ex_tW (Cond.methodLink "Callerhall" 406 (ex_inf 150).1) := tw_599
theorem tm_601 : ex_tW (Cond.instanceMethod (ex_inf 150).1) := tw_601
theorem tm_603 : ex_tW (Cond.methodLink "CallerhallLaw" 326 (ex_inf 119).1) := tw_603
theorem tm_604 : ex_tW (Cond.instanceMethod (ex_inf 119).1) := tw_604
theorem tm_605 : ex_tW (Cond.selects "Callerhall" (ex_inf 119).1 (ex_inf 119).1) := tw_605
theorem tm_609 : ex_tW (Cond.methodLink "CallerhallLaw" 335 (ex_inf 157).1) := tw_609
theorem tm_610 : ex_tW (Cond.instanceMethod (ex_inf 157).1) := tw_610
theorem tm_618 : ex_tW (Cond.methodLink "CallerhallLaw" 331 (ex_inf 176).1) := tw_618
theorem tm_619 : ex_tW (Cond.static (ex_inf 176).1) := tw_619
theorem tm_622 : ex_tW (Cond.methodLink "CallerhallLaw" 250 (ex_inf 177).1) := tw_622
theorem tm_623 : ex_tW (Cond.static (ex_inf 177).1) := tw_623
theorem tm_704 : ex_tW (Cond.methodLink "CallerhallLaw" 8 (ex_inf 95).1) := tw_704
theorem tm_705 : ex_tW (Cond.instanceMethod (ex_inf 95).1) := tw_705
theorem tm_706 : ex_tW (Cond.selects "Callerhall" (ex_inf 95).1 (ex_inf 95).1) := tw_706
theorem tm_708 : ex_tW (Cond.methodLink "Callerhall" 129 (ex_inf 133).1) := tw_708
theorem tm_710 : ex_tW (Cond.instanceMethod (ex_inf 133).1) := tw_710
theorem tm_733 : ex_tW (Cond.methodLink "CallerhallLaw" 228 (ex_inf 187).1) := tw_733
theorem tm_734 : ex_tW (Cond.static (ex_inf 187).1) := tw_734
theorem tm_739 : ex_tW (Cond.methodLink "CallerhallLaw" 78 (ex_inf 105).1) := tw_739
theorem tm_740 : ex_tW (Cond.instanceMethod (ex_inf 105).1) := tw_740
theorem tm_741 : ex_tW (Cond.selects "Callerhall" (ex_inf 105).1 (ex_inf 105).1) := tw_741
theorem tm_743 : ex_tW (Cond.methodLink "Callerhall" 191 (ex_inf 139).1) := tw_743
theorem tm_745 : ex_tW (Cond.instanceMethod (ex_inf 139).1) := tw_745
theorem tm_748 : ex_tW (Cond.methodLink "Callerhall" 423 (ex_inf 141).1) := tw_748
theorem tm_750 : ex_tW (Cond.instanceMethod (ex_inf 141).1) := tw_750
theorem tm_752 : ex_tW (Cond.methodLink "Callerhall" 233 (ex_inf 166).1) := tw_752
theorem tm_753 : ex_tW (Cond.instanceMethod (ex_inf 166).1) := tw_753
theorem tm_754 : ex_tW (Cond.selects "java/lang/String" (ex_inf 166).1 (ex_inf 166).1) := tw_754
theorem tm_756 : ex_tW (Cond.methodLink "java/lang/String" 633 (ex_inf 167).1) := tw_756
theorem tm_757 : ex_tW (Cond.instanceMethod (ex_inf 167).1) := tw_757
theorem tm_758 : ex_tW (Cond.selects "java/lang/String" (ex_inf 167).1 (ex_inf 167).1) := tw_758
theorem tm_760 : ex_tW (Cond.methodLink "java/lang/String" 505 (ex_inf 164).1) := tw_760
theorem tm_761 : ex_tW (Cond.methodLink "java/lang/String" 637 (ex_inf 173).1) := tw_761
theorem tm_762 : ex_tW (Cond.static (ex_inf 173).1) := tw_762
theorem tm_764 : ex_tW (Cond.methodLink "java/lang/StringLatin1" 88 (ex_inf 172).1) := tw_764
theorem tm_765 : ex_tW (Cond.static (ex_inf 172).1) := tw_765
theorem tm_767 : ex_tW (Cond.methodLink "java/lang/StringLatin1" 92 (ex_inf 162).1) := tw_767
theorem tm_768 : ex_tW (Cond.methodLink "java/lang/StringLatin1" 38 (ex_inf 163).1) := tw_768
theorem tm_769 : ex_tW (Cond.methodLink "java/lang/StringLatin1" 95 (ex_inf 174).1) := tw_769
theorem tm_770 : ex_tW (Cond.static (ex_inf 174).1) := tw_770
theorem tm_822 : ex_tW (Cond.methodLink "Callerhall" 194 (ex_inf 140).1) := tw_822
theorem tm_824 : ex_tW (Cond.instanceMethod (ex_inf 140).1) := tw_824
theorem tm_828 : ex_tW (Cond.methodLink "Callerhall" 221 (ex_inf 142).1) := tw_828
theorem tm_830 : ex_tW (Cond.instanceMethod (ex_inf 142).1) := tw_830
theorem tm_832 : ex_tW (Cond.methodLink "Callerhall" 280 (ex_inf 48).1) := tw_832
theorem tm_833 : ex_tW (Cond.instanceMethod (ex_inf 48).1) := tw_833
theorem tm_834 : ex_tW (Cond.selects "Callerhall$Plan" (ex_inf 48).1 (ex_inf 48).1) := tw_834
theorem tm_836 : ex_tW (Cond.methodLink "Callerhall$Plan" 54 (ex_inf 46).1) := tw_836
theorem tm_837 : ex_tW (Cond.instanceMethod (ex_inf 46).1) := tw_837
theorem tm_838 : ex_tW (Cond.selects "Callerhall$Plan" (ex_inf 46).1 (ex_inf 46).1) := tw_838
theorem tm_840 : ex_tW (Cond.methodLink "Callerhall$Plan" 57 (ex_inf 47).1) := tw_840
theorem tm_842 : ex_tW (Cond.instanceMethod (ex_inf 47).1) := tw_842
theorem tm_848 : ex_tW (Cond.methodLink "Callerhall$Plan" 48 (ex_inf 162).1) := tw_848
theorem tm_849 : ex_tW (Cond.methodLink "Callerhall" 184 (ex_inf 137).1) := tw_849
theorem tm_851 : ex_tW (Cond.instanceMethod (ex_inf 137).1) := tw_851
theorem tm_854 : ex_tW (Cond.methodLink "Callerhall" 431 (ex_inf 2).1) := tw_854
theorem tm_855 : ex_tW (Cond.instanceMethod (ex_inf 2).1) := tw_855
theorem tm_856 : ex_tW (Cond.selects "Callerhall$Book" (ex_inf 2).1 (ex_inf 2).1) := tw_856
theorem tm_873 : ex_tW (Cond.methodLink "Callerhall" 211 (ex_inf 50).1) := tw_873
theorem tm_874 : ex_tW (Cond.instanceMethod (ex_inf 50).1) := tw_874
theorem tm_875 : ex_tW (Cond.selects "Callerhall$Plan" (ex_inf 50).1 (ex_inf 50).1) := tw_875
theorem tm_877 : ex_tW (Cond.methodLink "Callerhall" 238 (ex_inf 49).1) := tw_877
theorem tm_878 : ex_tW (Cond.instanceMethod (ex_inf 49).1) := tw_878
theorem tm_879 : ex_tW (Cond.selects "Callerhall$Plan" (ex_inf 49).1 (ex_inf 49).1) := tw_879
theorem tm_881 : ex_tW (Cond.methodLink "Callerhall" 242 (ex_inf 58).1) := tw_881
theorem tm_882 : ex_tW (Cond.instanceMethod (ex_inf 58).1) := tw_882
theorem tm_883 : ex_tW (Cond.selects "Callerhall$Stage" (ex_inf 58).1 (ex_inf 58).1) := tw_883
theorem tm_885 : ex_tW (Cond.methodLink "Callerhall$Stage" 46 (ex_inf 7).1) := tw_885
theorem tm_886 : ex_tW (Cond.instanceMethod (ex_inf 7).1) := tw_886
theorem tm_887 : ex_tW (Cond.selects "Callerhall$Floor" (ex_inf 7).1 (ex_inf 7).1) := tw_887
theorem tm_889 : ex_tW (Cond.methodLink "Callerhall$Floor" 63 (ex_inf 11).1) := tw_889
theorem tm_890 : ex_tW (Cond.static (ex_inf 11).1) := tw_890
theorem tm_892 : ex_tW (Cond.methodLink "Callerhall$Floor" 72 (ex_inf 6).1) := tw_892
theorem tm_894 : ex_tW (Cond.instanceMethod (ex_inf 6).1) := tw_894
theorem tm_896 : ex_tW (Cond.methodLink "Callerhall" 246 (ex_inf 143).1) := tw_896
theorem tm_898 : ex_tW (Cond.instanceMethod (ex_inf 143).1) := tw_898
theorem tm_900 : ex_tW (Cond.methodLink "Callerhall" 283 (ex_inf 59).1) := tw_900
theorem tm_901 : ex_tW (Cond.instanceMethod (ex_inf 59).1) := tw_901
theorem tm_902 : ex_tW (Cond.selects "Callerhall$Stage" (ex_inf 59).1 (ex_inf 59).1) := tw_902
theorem tm_904 : ex_tW (Cond.methodLink "Callerhall$Stage" 55 (ex_inf 62).1) := tw_904
theorem tm_906 : ex_tW (Cond.instanceMethod (ex_inf 62).1) := tw_906
theorem tm_908 : ex_tW (Cond.methodLink "Callerhall$Stage" 70 (ex_inf 61).1) := tw_908
theorem tm_910 : ex_tW (Cond.instanceMethod (ex_inf 61).1) := tw_910
theorem tm_912 : ex_tW (Cond.methodLink "Callerhall$Stage" 113 (ex_inf 8).1) := tw_912
theorem tm_913 : ex_tW (Cond.instanceMethod (ex_inf 8).1) := tw_913
theorem tm_914 : ex_tW (Cond.selects "Callerhall$Floor" (ex_inf 8).1 (ex_inf 8).1) := tw_914
theorem tm_916 : ex_tW (Cond.methodLink "Callerhall$Stage" 117 (ex_inf 65).1) := tw_916
theorem tm_918 : ex_tW (Cond.instanceMethod (ex_inf 65).1) := tw_918
theorem tm_920 : ex_tW (Cond.methodLink "Callerhall$Stage" 91 (ex_inf 13).1) := tw_920
theorem tm_921 : ex_tW (Cond.instanceMethod (ex_inf 13).1) := tw_921
theorem tm_922 : ex_tW (Cond.selects "Callerhall$Floor" (ex_inf 13).1 (ex_inf 13).1) := tw_922
theorem tm_924 : ex_tW (Cond.methodLink "Callerhall$Stage" 149 (ex_inf 77).1) := tw_924
theorem tm_925 : ex_tW (Cond.instanceMethod (ex_inf 77).1) := tw_925
theorem tm_926 : ex_tW (Cond.selects "Callerhall$Steps" (ex_inf 77).1 (ex_inf 77).1) := tw_926
theorem tm_928 : ex_tW (Cond.methodLink "Callerhall$Steps" 122 (ex_inf 68).1) := tw_928
theorem tm_929 : ex_tW (Cond.instanceMethod (ex_inf 68).1) := tw_929
theorem tm_930 : ex_tW (Cond.selects "Callerhall$Steps" (ex_inf 68).1 (ex_inf 68).1) := tw_930
theorem tm_932 : ex_tW (Cond.methodLink "Callerhall$Steps" 84 (ex_inf 72).1) := tw_932
theorem tm_934 : ex_tW (Cond.instanceMethod (ex_inf 72).1) := tw_934
theorem tm_936 : ex_tW (Cond.methodLink "Callerhall$Steps" 98 (ex_inf 73).1) := tw_936
theorem tm_938 : ex_tW (Cond.instanceMethod (ex_inf 73).1) := tw_938
theorem tm_940 : ex_tW (Cond.methodLink "Callerhall$Steps" 126 (ex_inf 78).1) := tw_940
theorem tm_942 : ex_tW (Cond.instanceMethod (ex_inf 78).1) := tw_942
theorem tm_944 : ex_tW (Cond.methodLink "Callerhall$Steps" 94 (ex_inf 75).1) := tw_944
theorem tm_946 : ex_tW (Cond.instanceMethod (ex_inf 75).1) := tw_946
theorem tm_948 : ex_tW (Cond.methodLink "Callerhall$Steps" 114 (ex_inf 76).1) := tw_948
theorem tm_950 : ex_tW (Cond.instanceMethod (ex_inf 76).1) := tw_950
theorem tm_952 : ex_tW (Cond.methodLink "Callerhall$Steps" 118 (ex_inf 12).1) := tw_952
theorem tm_953 : ex_tW (Cond.instanceMethod (ex_inf 12).1) := tw_953
theorem tm_954 : ex_tW (Cond.selects "Callerhall$Floor" (ex_inf 12).1 (ex_inf 12).1) := tw_954
theorem tm_960 : ex_tW (Cond.methodLink "Callerhall$Stage" 162 (ex_inf 12).1) := tw_960
theorem tm_961 : ex_tW (Cond.methodLink "Callerhall$Stage" 166 (ex_inf 10).1) := tw_961
theorem tm_962 : ex_tW (Cond.instanceMethod (ex_inf 10).1) := tw_962
theorem tm_963 : ex_tW (Cond.selects "Callerhall$Floor" (ex_inf 10).1 (ex_inf 10).1) := tw_963
theorem tm_965 : ex_tW (Cond.methodLink "Callerhall$Floor" 83 (ex_inf 163).1) := tw_965
theorem tm_966 : ex_tW (Cond.methodLink "Callerhall$Stage" 66 (ex_inf 52).1) := tw_966
theorem tm_967 : ex_tW (Cond.instanceMethod (ex_inf 52).1) := tw_967
theorem tm_968 : ex_tW (Cond.selects "Callerhall$Plan" (ex_inf 52).1 (ex_inf 52).1) := tw_968
theorem tm_970 : ex_tW (Cond.methodLink "Callerhall$Stage" 74 (ex_inf 63).1) := tw_970
theorem tm_972 : ex_tW (Cond.instanceMethod (ex_inf 63).1) := tw_972
theorem tm_974 : ex_tW (Cond.methodLink "Callerhall$Stage" 121 (ex_inf 68).1) := tw_974
theorem tm_975 : ex_tW (Cond.methodLink "Callerhall$Stage" 128 (ex_inf 69).1) := tw_975
theorem tm_976 : ex_tW (Cond.instanceMethod (ex_inf 69).1) := tw_976
theorem tm_977 : ex_tW (Cond.selects "Callerhall$Steps" (ex_inf 69).1 (ex_inf 69).1) := tw_977
theorem tm_979 : ex_tW (Cond.methodLink "Callerhall$Steps" 56 (ex_inf 70).1) := tw_979
theorem tm_981 : ex_tW (Cond.instanceMethod (ex_inf 70).1) := tw_981
theorem tm_983 : ex_tW (Cond.methodLink "Callerhall$Steps" 70 (ex_inf 160).1) := tw_983
theorem tm_984 : ex_tW (Cond.static (ex_inf 160).1) := tw_984
theorem tm_986 : ex_tW (Cond.methodLink "Callerhall$Steps" 63 (ex_inf 11).1) := tw_986
theorem tm_987 : ex_tW (Cond.methodLink "Callerhall$Stage" 132 (ex_inf 71).1) := tw_987
theorem tm_988 : ex_tW (Cond.instanceMethod (ex_inf 71).1) := tw_988
theorem tm_989 : ex_tW (Cond.selects "Callerhall$Steps" (ex_inf 71).1 (ex_inf 71).1) := tw_989
theorem tm_992 : ex_tW (Cond.methodLink "Callerhall$Steps" 88 (ex_inf 74).1) := tw_992
theorem tm_994 : ex_tW (Cond.instanceMethod (ex_inf 74).1) := tw_994
theorem tm_998 : ex_tW (Cond.methodLink "Callerhall$Steps" 91 (ex_inf 79).1) := tw_998
theorem tm_1000 : ex_tW (Cond.instanceMethod (ex_inf 79).1) := tw_1000
theorem tm_1002 : ex_tW (Cond.methodLink "Callerhall$Steps" 129 (ex_inf 81).1) := tw_1002
theorem tm_1004 : ex_tW (Cond.instanceMethod (ex_inf 81).1) := tw_1004
theorem tm_1006 : ex_tW (Cond.methodLink "Callerhall$Steps" 133 (ex_inf 80).1) := tw_1006
theorem tm_1008 : ex_tW (Cond.instanceMethod (ex_inf 80).1) := tw_1008
theorem tm_1010 : ex_tW (Cond.methodLink "Callerhall$Steps" 137 (ex_inf 82).1) := tw_1010
theorem tm_1012 : ex_tW (Cond.instanceMethod (ex_inf 82).1) := tw_1012
theorem tm_1014 : ex_tW (Cond.methodLink "Callerhall$Stage" 135 (ex_inf 83).1) := tw_1014
theorem tm_1015 : ex_tW (Cond.instanceMethod (ex_inf 83).1) := tw_1015
theorem tm_1016 : ex_tW (Cond.selects "Callerhall$Steps" (ex_inf 83).1 (ex_inf 83).1) := tw_1016
theorem tm_1018 : ex_tW (Cond.methodLink "Callerhall$Steps" 141 (ex_inf 84).1) := tw_1018
theorem tm_1020 : ex_tW (Cond.instanceMethod (ex_inf 84).1) := tw_1020
theorem tm_1022 : ex_tW (Cond.methodLink "Callerhall$Stage" 106 (ex_inf 60).1) := tw_1022
theorem tm_1024 : ex_tW (Cond.instanceMethod (ex_inf 60).1) := tw_1024
theorem tm_1026 : ex_tW (Cond.methodLink "Callerhall$Stage" 78 (ex_inf 85).1) := tw_1026
theorem tm_1027 : ex_tW (Cond.instanceMethod (ex_inf 85).1) := tw_1027
theorem tm_1028 : ex_tW (Cond.selects "Callerhall$Steps" (ex_inf 85).1 (ex_inf 85).1) := tw_1028
theorem tm_1030 : ex_tW (Cond.methodLink "Callerhall$Steps" 145 (ex_inf 18).1) := tw_1030
theorem tm_1031 : ex_tW (Cond.instanceMethod (ex_inf 18).1) := tw_1031
theorem tm_1032 : ex_tW (Cond.selects "Callerhall$Floor" (ex_inf 18).1 (ex_inf 18).1) := tw_1032
theorem tm_1035 : ex_tW (Cond.methodLink "Callerhall$Stage" 85 (ex_inf 163).1) := tw_1035
theorem tm_1036 : ex_tW (Cond.methodLink "Callerhall$Stage" 98 (ex_inf 86).1) := tw_1036
theorem tm_1037 : ex_tW (Cond.instanceMethod (ex_inf 86).1) := tw_1037
theorem tm_1038 : ex_tW (Cond.selects "Callerhall$Steps" (ex_inf 86).1 (ex_inf 86).1) := tw_1038
theorem tm_1040 : ex_tW (Cond.methodLink "Callerhall$Steps" 149 (ex_inf 87).1) := tw_1040
theorem tm_1042 : ex_tW (Cond.instanceMethod (ex_inf 87).1) := tw_1042
theorem tm_1044 : ex_tW (Cond.methodLink "Callerhall$Steps" 162 (ex_inf 14).1) := tw_1044
theorem tm_1045 : ex_tW (Cond.instanceMethod (ex_inf 14).1) := tw_1045
theorem tm_1046 : ex_tW (Cond.selects "Callerhall$Floor" (ex_inf 14).1 (ex_inf 14).1) := tw_1046
theorem tm_1048 : ex_tW (Cond.methodLink "Callerhall$Steps" 166 (ex_inf 15).1) := tw_1048
theorem tm_1049 : ex_tW (Cond.instanceMethod (ex_inf 15).1) := tw_1049
theorem tm_1050 : ex_tW (Cond.selects "Callerhall$Floor" (ex_inf 15).1 (ex_inf 15).1) := tw_1050
theorem tm_1052 : ex_tW (Cond.methodLink "Callerhall$Steps" 152 (ex_inf 88).1) := tw_1052
theorem tm_1054 : ex_tW (Cond.instanceMethod (ex_inf 88).1) := tw_1054
theorem tm_1056 : ex_tW (Cond.methodLink "Callerhall$Steps" 155 (ex_inf 89).1) := tw_1056
theorem tm_1058 : ex_tW (Cond.instanceMethod (ex_inf 89).1) := tw_1058
theorem tm_1060 : ex_tW (Cond.methodLink "Callerhall$Steps" 169 (ex_inf 90).1) := tw_1060
theorem tm_1062 : ex_tW (Cond.instanceMethod (ex_inf 90).1) := tw_1062
theorem tm_1064 : ex_tW (Cond.methodLink "Callerhall$Steps" 159 (ex_inf 91).1) := tw_1064
theorem tm_1066 : ex_tW (Cond.instanceMethod (ex_inf 91).1) := tw_1066
theorem tm_1068 : ex_tW (Cond.methodLink "Callerhall$Steps" 172 (ex_inf 17).1) := tw_1068
theorem tm_1069 : ex_tW (Cond.instanceMethod (ex_inf 17).1) := tw_1069
theorem tm_1070 : ex_tW (Cond.selects "Callerhall$Floor" (ex_inf 17).1 (ex_inf 17).1) := tw_1070
theorem tm_1072 : ex_tW (Cond.methodLink "Callerhall$Steps" 175 (ex_inf 16).1) := tw_1072
theorem tm_1073 : ex_tW (Cond.instanceMethod (ex_inf 16).1) := tw_1073
theorem tm_1074 : ex_tW (Cond.selects "Callerhall$Floor" (ex_inf 16).1 (ex_inf 16).1) := tw_1074
theorem tm_1076 : ex_tW (Cond.methodLink "Callerhall$Floor" 92 (ex_inf 15).1) := tw_1076
theorem tm_1077 : ex_tW (Cond.methodLink "Callerhall$Stage" 102 (ex_inf 19).1) := tw_1077
theorem tm_1078 : ex_tW (Cond.instanceMethod (ex_inf 19).1) := tw_1078
theorem tm_1079 : ex_tW (Cond.selects "Callerhall$Floor" (ex_inf 19).1 (ex_inf 19).1) := tw_1079
theorem tm_1081 : ex_tW (Cond.methodLink "Callerhall$Floor" 96 (ex_inf 20).1) := tw_1081
theorem tm_1083 : ex_tW (Cond.instanceMethod (ex_inf 20).1) := tw_1083
theorem tm_1085 : ex_tW (Cond.methodLink "Callerhall$Floor" 107 (ex_inf 21).1) := tw_1085
theorem tm_1087 : ex_tW (Cond.instanceMethod (ex_inf 21).1) := tw_1087
theorem tm_1089 : ex_tW (Cond.methodLink "Callerhall$Floor" 100 (ex_inf 14).1) := tw_1089
theorem tm_1090 : ex_tW (Cond.methodLink "Callerhall$Floor" 104 (ex_inf 22).1) := tw_1090
theorem tm_1092 : ex_tW (Cond.instanceMethod (ex_inf 22).1) := tw_1092
theorem tm_1094 : ex_tW (Cond.methodLink "Callerhall$Stage" 110 (ex_inf 64).1) := tw_1094
theorem tm_1096 : ex_tW (Cond.instanceMethod (ex_inf 64).1) := tw_1096
theorem tm_1098 : ex_tW (Cond.methodLink "Callerhall$Stage" 139 (ex_inf 9).1) := tw_1098
theorem tm_1099 : ex_tW (Cond.instanceMethod (ex_inf 9).1) := tw_1099
theorem tm_1100 : ex_tW (Cond.selects "Callerhall$Floor" (ex_inf 9).1 (ex_inf 9).1) := tw_1100
theorem tm_1102 : ex_tW (Cond.methodLink "Callerhall$Floor" 77 (ex_inf 162).1) := tw_1102
theorem tm_1103 : ex_tW (Cond.methodLink "Callerhall$Stage" 142 (ex_inf 66).1) := tw_1103
theorem tm_1105 : ex_tW (Cond.instanceMethod (ex_inf 66).1) := tw_1105
theorem tm_1107 : ex_tW (Cond.methodLink "Callerhall$Stage" 170 (ex_inf 23).1) := tw_1107
theorem tm_1108 : ex_tW (Cond.instanceMethod (ex_inf 23).1) := tw_1108
theorem tm_1109 : ex_tW (Cond.selects "Callerhall$Floor" (ex_inf 23).1 (ex_inf 23).1) := tw_1109
theorem tm_1111 : ex_tW (Cond.methodLink "Callerhall$Floor" 110 (ex_inf 24).1) := tw_1111
theorem tm_1113 : ex_tW (Cond.instanceMethod (ex_inf 24).1) := tw_1113
theorem tm_1115 : ex_tW (Cond.methodLink "Callerhall$Floor" 114 (ex_inf 18).1) := tw_1115
theorem tm_1131 : ex_tW (Cond.methodLink "Callerhall" 250 (ex_inf 36).1) := tw_1131
theorem tm_1132 : ex_tW (Cond.instanceMethod (ex_inf 36).1) := tw_1132
theorem tm_1133 : ex_tW (Cond.selects "Callerhall$Past" (ex_inf 36).1 (ex_inf 36).1) := tw_1133
theorem tm_1135 : ex_tW (Cond.methodLink "Callerhall$Past" 27 (ex_inf 159).1) := tw_1135
theorem tm_1136 : ex_tW (Cond.static (ex_inf 159).1) := tw_1136
theorem tm_1138 : ex_tW (Cond.methodLink "Callerhall$Past" 33 (ex_inf 163).1) := tw_1138
theorem tm_1139 : ex_tW (Cond.methodLink "Callerhall" 254 (ex_inf 53).1) := tw_1139
theorem tm_1140 : ex_tW (Cond.instanceMethod (ex_inf 53).1) := tw_1140
theorem tm_1141 : ex_tW (Cond.selects "Callerhall$Plan" (ex_inf 53).1 (ex_inf 53).1) := tw_1141
theorem tm_1143 : ex_tW (Cond.methodLink "Callerhall" 257 (ex_inf 144).1) := tw_1143
theorem tm_1145 : ex_tW (Cond.instanceMethod (ex_inf 144).1) := tw_1145
theorem tm_1147 : ex_tW (Cond.methodLink "Callerhall" 357 (ex_inf 43).1) := tw_1147
theorem tm_1148 : ex_tW (Cond.instanceMethod (ex_inf 43).1) := tw_1148
theorem tm_1149 : ex_tW (Cond.selects "Callerhall$Places" (ex_inf 43).1 (ex_inf 43).1) := tw_1149
theorem tm_1151 : ex_tW (Cond.methodLink "Callerhall$Places" 30 (ex_inf 41).1) := tw_1151
theorem tm_1152 : ex_tW (Cond.methodLink "Callerhall" 435 (ex_inf 27).1) := tw_1152
theorem tm_1153 : ex_tW (Cond.instanceMethod (ex_inf 27).1) := tw_1153
theorem tm_1154 : ex_tW (Cond.selects "Callerhall$Flow" (ex_inf 27).1 (ex_inf 27).1) := tw_1154
theorem tm_1156 : ex_tW (Cond.methodLink "Callerhall" 437 (ex_inf 56).1) := tw_1156
theorem tm_1157 : ex_tW (Cond.instanceMethod (ex_inf 56).1) := tw_1157
theorem tm_1158 : ex_tW (Cond.selects "Callerhall$Song" (ex_inf 56).1 (ex_inf 56).1) := tw_1158
theorem tm_1160 : ex_tW (Cond.methodLink "Callerhall" 175 (ex_inf 46).1) := tw_1160
theorem tm_1161 : ex_tW (Cond.methodLink "Callerhall" 260 (ex_inf 51).1) := tw_1161
theorem tm_1162 : ex_tW (Cond.instanceMethod (ex_inf 51).1) := tw_1162
theorem tm_1163 : ex_tW (Cond.selects "Callerhall$Plan" (ex_inf 51).1 (ex_inf 51).1) := tw_1163
theorem tm_1165 : ex_tW (Cond.methodLink "CallerhallLaw" 192 (ex_inf 188).1) := tw_1165
theorem tm_1166 : ex_tW (Cond.static (ex_inf 188).1) := tw_1166
theorem tm_1169 : ex_tW (Cond.methodLink "CallerhallLaw" 82 (ex_inf 106).1) := tw_1169
theorem tm_1170 : ex_tW (Cond.instanceMethod (ex_inf 106).1) := tw_1170
theorem tm_1171 : ex_tW (Cond.selects "Callerhall" (ex_inf 106).1 (ex_inf 106).1) := tw_1171
theorem tm_1173 : ex_tW (Cond.methodLink "Callerhall" 264 (ex_inf 107).1) := tw_1173
theorem tm_1174 : ex_tW (Cond.instanceMethod (ex_inf 107).1) := tw_1174
theorem tm_1175 : ex_tW (Cond.selects "Callerhall" (ex_inf 107).1 (ex_inf 107).1) := tw_1175
theorem tm_1192 : ex_tW (Cond.methodLink "Callerhall" 267 (ex_inf 37).1) := tw_1192
theorem tm_1193 : ex_tW (Cond.instanceMethod (ex_inf 37).1) := tw_1193
theorem tm_1194 : ex_tW (Cond.selects "Callerhall$Past" (ex_inf 37).1 (ex_inf 37).1) := tw_1194
theorem tm_1196 : ex_tW (Cond.methodLink "Callerhall$Past" 48 (ex_inf 41).1) := tw_1196
theorem tm_1197 : ex_tW (Cond.methodLink "CallerhallLaw" 235 (ex_inf 189).1) := tw_1197
theorem tm_1198 : ex_tW (Cond.static (ex_inf 189).1) := tw_1198
theorem tm_1200 : ex_tW (Cond.methodLink "CallerhallLaw" 86 (ex_inf 109).1) := tw_1200
theorem tm_1201 : ex_tW (Cond.instanceMethod (ex_inf 109).1) := tw_1201
theorem tm_1202 : ex_tW (Cond.selects "Callerhall" (ex_inf 109).1 (ex_inf 109).1) := tw_1202
theorem tm_1204 : ex_tW (Cond.methodLink "CallerhallLaw" 209 (ex_inf 191).1) := tw_1204
theorem tm_1205 : ex_tW (Cond.static (ex_inf 191).1) := tw_1205
theorem tm_1207 : ex_tW (Cond.methodLink "CallerhallLaw" 93 (ex_inf 111).1) := tw_1207
theorem tm_1208 : ex_tW (Cond.instanceMethod (ex_inf 111).1) := tw_1208
theorem tm_1209 : ex_tW (Cond.selects "Callerhall" (ex_inf 111).1 (ex_inf 111).1) := tw_1209
theorem tm_1211 : ex_tW (Cond.methodLink "Callerhall" 290 (ex_inf 38).1) := tw_1211
theorem tm_1212 : ex_tW (Cond.instanceMethod (ex_inf 38).1) := tw_1212
theorem tm_1213 : ex_tW (Cond.selects "Callerhall$Past" (ex_inf 38).1 (ex_inf 38).1) := tw_1213
theorem tm_1215 : ex_tW (Cond.methodLink "Callerhall$Past" 52 (ex_inf 162).1) := tw_1215
theorem tm_1216 : ex_tW (Cond.methodLink "CallerhallLaw" 242 (ex_inf 192).1) := tw_1216
theorem tm_1217 : ex_tW (Cond.static (ex_inf 192).1) := tw_1217
theorem tm_1219 : ex_tW (Cond.methodLink "CallerhallLaw" 96 (ex_inf 113).1) := tw_1219
theorem tm_1220 : ex_tW (Cond.instanceMethod (ex_inf 113).1) := tw_1220
theorem tm_1221 : ex_tW (Cond.selects "Callerhall" (ex_inf 113).1 (ex_inf 113).1) := tw_1221
theorem tm_1223 : ex_tW (Cond.methodLink "Callerhall" 295 (ex_inf 39).1) := tw_1223
theorem tm_1224 : ex_tW (Cond.instanceMethod (ex_inf 39).1) := tw_1224
theorem tm_1225 : ex_tW (Cond.selects "Callerhall$Past" (ex_inf 39).1 (ex_inf 39).1) := tw_1225
theorem tm_1227 : ex_tW (Cond.methodLink "CallerhallLaw" 309 (ex_inf 195).1) := tw_1227
theorem tm_1228 : ex_tW (Cond.static (ex_inf 195).1) := tw_1228
theorem tm_1230 : ex_tW (Cond.methodLink "CallerhallLaw" 111 (ex_inf 117).1) := tw_1230
theorem tm_1231 : ex_tW (Cond.instanceMethod (ex_inf 117).1) := tw_1231
theorem tm_1232 : ex_tW (Cond.selects "Callerhall" (ex_inf 117).1 (ex_inf 117).1) := tw_1232
theorem tm_1234 : ex_tW (Cond.methodLink "CallerhallLaw" 329 (ex_inf 196).1) := tw_1234
theorem tm_1235 : ex_tW (Cond.static (ex_inf 196).1) := tw_1235
theorem tm_1237 : ex_tW (Cond.methodLink "CallerhallLaw" 117 (ex_inf 122).1) := tw_1237
theorem tm_1238 : ex_tW (Cond.instanceMethod (ex_inf 122).1) := tw_1238
theorem tm_1239 : ex_tW (Cond.selects "Callerhall" (ex_inf 122).1 (ex_inf 122).1) := tw_1239
theorem tm_1241 : ex_tW (Cond.methodLink "Callerhall" 349 (ex_inf 118).1) := tw_1241
theorem tm_1242 : ex_tW (Cond.methodLink "Callerhall" 353 (ex_inf 146).1) := tw_1242
theorem tm_1244 : ex_tW (Cond.instanceMethod (ex_inf 146).1) := tw_1244
theorem tm_1246 : ex_tW (Cond.methodLink "CallerhallLaw" 321 (ex_inf 197).1) := tw_1246
theorem tm_1247 : ex_tW (Cond.static (ex_inf 197).1) := tw_1247
theorem tm_1249 : ex_tW (Cond.methodLink "CallerhallLaw" 126 (ex_inf 124).1) := tw_1249
theorem tm_1250 : ex_tW (Cond.instanceMethod (ex_inf 124).1) := tw_1250
theorem tm_1251 : ex_tW (Cond.selects "Callerhall" (ex_inf 124).1 (ex_inf 124).1) := tw_1251
theorem tm_1253 : ex_tW (Cond.methodLink "Callerhall" 122 (ex_inf 151).1) := tw_1253
theorem tm_1255 : ex_tW (Cond.instanceMethod (ex_inf 151).1) := tw_1255
theorem tm_1257 : ex_tW (Cond.methodLink "Callerhall" 362 (ex_inf 55).1) := tw_1257
theorem tm_1258 : ex_tW (Cond.instanceMethod (ex_inf 55).1) := tw_1258
theorem tm_1259 : ex_tW (Cond.selects "Callerhall$Song" (ex_inf 55).1 (ex_inf 55).1) := tw_1259
theorem tm_1261 : ex_tW (Cond.methodLink "Callerhall" 126 (ex_inf 148).1) := tw_1261
theorem tm_1263 : ex_tW (Cond.instanceMethod (ex_inf 148).1) := tw_1263
theorem tm_1265 : ex_tW (Cond.methodLink "Callerhall" 459 (ex_inf 26).1) := tw_1265
theorem tm_1266 : ex_tW (Cond.instanceMethod (ex_inf 26).1) := tw_1266
theorem tm_1267 : ex_tW (Cond.selects "Callerhall$Flow" (ex_inf 26).1 (ex_inf 26).1) := tw_1267
theorem tm_1269 : ex_tW (Cond.methodLink "Callerhall" 153 (ex_inf 149).1) := tw_1269
theorem tm_1271 : ex_tW (Cond.instanceMethod (ex_inf 149).1) := tw_1271
theorem tm_1273 : ex_tW (Cond.methodLink "CallerhallLaw" 185 (ex_inf 199).1) := tw_1273
theorem tm_1274 : ex_tW (Cond.static (ex_inf 199).1) := tw_1274
theorem tm_1276 : ex_tW (Cond.methodLink "CallerhallLaw" 132 (ex_inf 127).1) := tw_1276
theorem tm_1277 : ex_tW (Cond.instanceMethod (ex_inf 127).1) := tw_1277
theorem tm_1278 : ex_tW (Cond.selects "Callerhall" (ex_inf 127).1 (ex_inf 127).1) := tw_1278
theorem tm_1280 : ex_tW (Cond.methodLink "Callerhall" 380 (ex_inf 30).1) := tw_1280
theorem tm_1281 : ex_tW (Cond.instanceMethod (ex_inf 30).1) := tw_1281
theorem tm_1282 : ex_tW (Cond.selects "Callerhall$Party" (ex_inf 30).1 (ex_inf 30).1) := tw_1282
theorem tm_1284 : ex_tW (Cond.methodLink "Callerhall$Party" 28 (ex_inf 31).1) := tw_1284
theorem tm_1286 : ex_tW (Cond.instanceMethod (ex_inf 31).1) := tw_1286
theorem tm_1288 : ex_tW (Cond.methodLink "Callerhall$Party" 36 (ex_inf 32).1) := tw_1288
theorem tm_1290 : ex_tW (Cond.instanceMethod (ex_inf 32).1) := tw_1290
theorem tm_1292 : ex_tW (Cond.methodLink "Callerhall$Party" 32 (ex_inf 33).1) := tw_1292
theorem tm_1294 : ex_tW (Cond.instanceMethod (ex_inf 33).1) := tw_1294
theorem tm_1296 : ex_tW (Cond.methodLink "CallerhallLaw" 323 (ex_inf 201).1) := tw_1296
theorem tm_1297 : ex_tW (Cond.static (ex_inf 201).1) := tw_1297
theorem tm_1313 : ex_tW (Cond.methodLink "CallerhallLaw" 141 (ex_inf 130).1) := tw_1313
theorem tm_1314 : ex_tW (Cond.instanceMethod (ex_inf 130).1) := tw_1314
theorem tm_1315 : ex_tW (Cond.selects "Callerhall" (ex_inf 130).1 (ex_inf 130).1) := tw_1315
theorem tm_1323 : ex_tW (Cond.methodLink "CallerhallLaw" 345 (ex_inf 202).1) := tw_1323
theorem tm_1324 : ex_tW (Cond.static (ex_inf 202).1) := tw_1324
theorem tm_1326 : ex_tW (Cond.methodLink "CallerhallLaw" 148 (ex_inf 158).1) := tw_1326
theorem tm_1327 : ex_tW (Cond.instanceMethod (ex_inf 158).1) := tw_1327
theorem tm_1328 : ex_tW (Cond.selects "CallerhallLaw$Draw" (ex_inf 158).1 (ex_inf 158).1) := tw_1328
theorem tm_1332 : ex_tW (Cond.methodLink "CallerhallLaw" 153 (ex_inf 180).1) := tw_1332
theorem tm_1333 : ex_tW (Cond.static (ex_inf 180).1) := tw_1333
theorem tm_1335 : ex_tW (Cond.methodLink "CallerhallLaw" 22 (ex_inf 98).1) := tw_1335
theorem tm_1336 : ex_tW (Cond.instanceMethod (ex_inf 98).1) := tw_1336
theorem tm_1337 : ex_tW (Cond.selects "Callerhall" (ex_inf 98).1 (ex_inf 98).1) := tw_1337
theorem tm_1339 : ex_tW (Cond.methodLink "Callerhall" 142 (ex_inf 134).1) := tw_1339
theorem tm_1341 : ex_tW (Cond.instanceMethod (ex_inf 134).1) := tw_1341
theorem tm_1343 : ex_tW (Cond.methodLink "Callerhall" 146 (ex_inf 42).1) := tw_1343
theorem tm_1344 : ex_tW (Cond.instanceMethod (ex_inf 42).1) := tw_1344
theorem tm_1345 : ex_tW (Cond.selects "Callerhall$Places" (ex_inf 42).1 (ex_inf 42).1) := tw_1345
theorem tm_1347 : ex_tW (Cond.methodLink "CallerhallLaw" 158 (ex_inf 181).1) := tw_1347
theorem tm_1348 : ex_tW (Cond.static (ex_inf 181).1) := tw_1348
theorem tm_1350 : ex_tW (Cond.methodLink "CallerhallLaw" 30 (ex_inf 99).1) := tw_1350
theorem tm_1351 : ex_tW (Cond.instanceMethod (ex_inf 99).1) := tw_1351
theorem tm_1352 : ex_tW (Cond.selects "Callerhall" (ex_inf 99).1 (ex_inf 99).1) := tw_1352
theorem tm_1354 : ex_tW (Cond.methodLink "Callerhall" 159 (ex_inf 160).1) := tw_1354
theorem tm_1355 : ex_tW (Cond.methodLink "CallerhallLaw" 161 (ex_inf 182).1) := tw_1355
theorem tm_1356 : ex_tW (Cond.static (ex_inf 182).1) := tw_1356
theorem tm_1358 : ex_tW (Cond.methodLink "CallerhallLaw" 34 (ex_inf 100).1) := tw_1358
theorem tm_1359 : ex_tW (Cond.instanceMethod (ex_inf 100).1) := tw_1359
theorem tm_1360 : ex_tW (Cond.selects "Callerhall" (ex_inf 100).1 (ex_inf 100).1) := tw_1360
theorem tm_1362 : ex_tW (Cond.methodLink "CallerhallLaw" 164 (ex_inf 94).1) := tw_1362
theorem tm_1363 : ex_tW (Cond.instanceMethod (ex_inf 94).1) := tw_1363
theorem tm_1364 : ex_tW (Cond.selects "Callerhall" (ex_inf 94).1 (ex_inf 94).1) := tw_1364
theorem tm_1366 : ex_tW (Cond.methodLink "CallerhallLaw" 167 (ex_inf 184).1) := tw_1366
theorem tm_1367 : ex_tW (Cond.static (ex_inf 184).1) := tw_1367
theorem tm_1369 : ex_tW (Cond.methodLink "CallerhallLaw" 42 (ex_inf 102).1) := tw_1369
theorem tm_1370 : ex_tW (Cond.instanceMethod (ex_inf 102).1) := tw_1370
theorem tm_1371 : ex_tW (Cond.selects "Callerhall" (ex_inf 102).1 (ex_inf 102).1) := tw_1371
theorem tm_1374 : ex_tW (Cond.methodLink "CallerhallLaw" 171 (ex_inf 165).1) := tw_1374
theorem tm_1377 : ex_tW (Cond.methodLink "CallerhallLaw" 180 (ex_inf 185).1) := tw_1377
theorem tm_1378 : ex_tW (Cond.static (ex_inf 185).1) := tw_1378
theorem tm_1380 : ex_tW (Cond.methodLink "CallerhallLaw" 57 (ex_inf 103).1) := tw_1380
theorem tm_1381 : ex_tW (Cond.instanceMethod (ex_inf 103).1) := tw_1381
theorem tm_1382 : ex_tW (Cond.selects "Callerhall" (ex_inf 103).1 (ex_inf 103).1) := tw_1382
theorem tm_1384 : ex_tW (Cond.methodLink "Callerhall" 188 (ex_inf 138).1) := tw_1384
theorem tm_1386 : ex_tW (Cond.instanceMethod (ex_inf 138).1) := tw_1386
theorem tm_1388 : ex_tW (Cond.methodLink "Callerhall" 181 (ex_inf 135).1) := tw_1388
theorem tm_1390 : ex_tW (Cond.instanceMethod (ex_inf 135).1) := tw_1390
theorem tm_1392 : ex_tW (Cond.methodLink "Callerhall" 197 (ex_inf 3).1) := tw_1392
theorem tm_1393 : ex_tW (Cond.instanceMethod (ex_inf 3).1) := tw_1393
theorem tm_1394 : ex_tW (Cond.selects "Callerhall$Book" (ex_inf 3).1 (ex_inf 3).1) := tw_1394
theorem tm_1396 : ex_tW (Cond.methodLink "Callerhall$Book" 33 (ex_inf 1).1) := tw_1396
theorem tm_1397 : ex_tW (Cond.instanceMethod (ex_inf 1).1) := tw_1397
theorem tm_1398 : ex_tW (Cond.selects "Callerhall$Book" (ex_inf 1).1 (ex_inf 1).1) := tw_1398
theorem tm_1400 : ex_tW (Cond.methodLink "Callerhall" 201 (ex_inf 4).1) := tw_1400
theorem tm_1401 : ex_tW (Cond.instanceMethod (ex_inf 4).1) := tw_1401
theorem tm_1402 : ex_tW (Cond.selects "Callerhall$Book" (ex_inf 4).1 (ex_inf 4).1) := tw_1402
theorem tm_1404 : ex_tW (Cond.methodLink "CallerhallLaw" 183 (ex_inf 198).1) := tw_1404
theorem tm_1405 : ex_tW (Cond.static (ex_inf 198).1) := tw_1405
theorem tm_1407 : ex_tW (Cond.methodLink "CallerhallLaw" 129 (ex_inf 126).1) := tw_1407
theorem tm_1408 : ex_tW (Cond.instanceMethod (ex_inf 126).1) := tw_1408
theorem tm_1409 : ex_tW (Cond.selects "Callerhall" (ex_inf 126).1 (ex_inf 126).1) := tw_1409
theorem tm_1411 : ex_tW (Cond.methodLink "Callerhall" 374 (ex_inf 29).1) := tw_1411
theorem tm_1412 : ex_tW (Cond.instanceMethod (ex_inf 29).1) := tw_1412
theorem tm_1413 : ex_tW (Cond.selects "Callerhall$Party" (ex_inf 29).1 (ex_inf 29).1) := tw_1413
theorem tm_1415 : ex_tW (Cond.methodLink "CallerhallLaw" 188 (ex_inf 203).1) := tw_1415
theorem tm_1416 : ex_tW (Cond.static (ex_inf 203).1) := tw_1416
theorem tm_1418 : ex_tW (Cond.methodLink "CallerhallLaw" 202 (ex_inf 112).1) := tw_1418
theorem tm_1419 : ex_tW (Cond.instanceMethod (ex_inf 112).1) := tw_1419
theorem tm_1420 : ex_tW (Cond.selects "Callerhall" (ex_inf 112).1 (ex_inf 112).1) := tw_1420
theorem tm_1422 : ex_tW (Cond.methodLink "CallerhallLaw" 205 (ex_inf 205).1) := tw_1422
theorem tm_1423 : ex_tW (Cond.static (ex_inf 205).1) := tw_1423
theorem tm_1551 : ex_tW (Cond.methodLink "CallerhallLaw" 259 (ex_inf 178).1) := tw_1551
theorem tm_1552 : ex_tW (Cond.static (ex_inf 178).1) := tw_1552
theorem tm_1554 : ex_tW (Cond.methodLink "CallerhallLaw" 16 (ex_inf 96).1) := tw_1554
theorem tm_1555 : ex_tW (Cond.instanceMethod (ex_inf 96).1) := tw_1555
theorem tm_1556 : ex_tW (Cond.selects "Callerhall" (ex_inf 96).1 (ex_inf 96).1) := tw_1556
theorem tm_1558 : ex_tW (Cond.methodLink "CallerhallLaw" 261 (ex_inf 179).1) := tw_1558
theorem tm_1559 : ex_tW (Cond.static (ex_inf 179).1) := tw_1559
theorem tm_1561 : ex_tW (Cond.methodLink "CallerhallLaw" 19 (ex_inf 97).1) := tw_1561
theorem tm_1562 : ex_tW (Cond.instanceMethod (ex_inf 97).1) := tw_1562
theorem tm_1563 : ex_tW (Cond.selects "Callerhall" (ex_inf 97).1 (ex_inf 97).1) := tw_1563
theorem tm_1667 : ex_tW (Cond.methodLink "CallerhallLaw" 215 (ex_inf 107).1) := tw_1667
theorem tm_1670 : ex_tW (Cond.methodLink "CallerhallLaw" 198 (ex_inf 204).1) := tw_1670
theorem tm_1671 : ex_tW (Cond.static (ex_inf 204).1) := tw_1671
theorem tm_1673 : ex_tW (Cond.methodLink "CallerhallLaw" 218 (ex_inf 129).1) := tw_1673
theorem tm_1674 : ex_tW (Cond.instanceMethod (ex_inf 129).1) := tw_1674
theorem tm_1675 : ex_tW (Cond.selects "Callerhall" (ex_inf 129).1 (ex_inf 129).1) := tw_1675
theorem tm_1677 : ex_tW (Cond.methodLink "CallerhallLaw" 222 (ex_inf 166).1) := tw_1677
theorem tm_1678 : ex_tW (Cond.methodLink "CallerhallLaw" 225 (ex_inf 190).1) := tw_1678
theorem tm_1679 : ex_tW (Cond.static (ex_inf 190).1) := tw_1679
theorem tm_1681 : ex_tW (Cond.methodLink "CallerhallLaw" 89 (ex_inf 110).1) := tw_1681
theorem tm_1682 : ex_tW (Cond.instanceMethod (ex_inf 110).1) := tw_1682
theorem tm_1683 : ex_tW (Cond.selects "Callerhall" (ex_inf 110).1 (ex_inf 110).1) := tw_1683
theorem tm_1685 : ex_tW (Cond.methodLink "CallerhallLaw" 237 (ex_inf 163).1) := tw_1685
theorem tm_1686 : ex_tW (Cond.methodLink "CallerhallLaw" 244 (ex_inf 186).1) := tw_1686
theorem tm_1687 : ex_tW (Cond.static (ex_inf 186).1) := tw_1687
theorem tm_1689 : ex_tW (Cond.methodLink "CallerhallLaw" 69 (ex_inf 104).1) := tw_1689
theorem tm_1690 : ex_tW (Cond.instanceMethod (ex_inf 104).1) := tw_1690
theorem tm_1691 : ex_tW (Cond.selects "Callerhall" (ex_inf 104).1 (ex_inf 104).1) := tw_1691
theorem tm_1693 : ex_tW (Cond.methodLink "CallerhallLaw" 342 (ex_inf 206).1) := tw_1693
theorem tm_1694 : ex_tW (Cond.static (ex_inf 206).1) := tw_1694
theorem tm_1741 : ex_tW (Cond.methodLink "CallerhallLaw" 287 (ex_inf 200).1) := tw_1741
theorem tm_1742 : ex_tW (Cond.static (ex_inf 200).1) := tw_1742
theorem tm_1744 : ex_tW (Cond.methodLink "CallerhallLaw" 138 (ex_inf 128).1) := tw_1744
theorem tm_1745 : ex_tW (Cond.instanceMethod (ex_inf 128).1) := tw_1745
theorem tm_1746 : ex_tW (Cond.selects "Callerhall" (ex_inf 128).1 (ex_inf 128).1) := tw_1746
theorem tm_1748 : ex_tW (Cond.methodLink "Callerhall" 383 (ex_inf 136).1) := tw_1748
theorem tm_1750 : ex_tW (Cond.instanceMethod (ex_inf 136).1) := tw_1750
theorem tm_1752 : ex_tW (Cond.methodLink "CallerhallLaw" 349 (ex_inf 207).1) := tw_1752
theorem tm_1753 : ex_tW (Cond.static (ex_inf 207).1) := tw_1753
theorem tm_1755 : ex_tW (Cond.methodLink "CallerhallLaw" 292 (ex_inf 132).1) := tw_1755
theorem tm_1756 : ex_tW (Cond.instanceMethod (ex_inf 132).1) := tw_1756
theorem tm_1757 : ex_tW (Cond.selects "Callerhall" (ex_inf 132).1 (ex_inf 132).1) := tw_1757
theorem tm_1759 : ex_tW (Cond.methodLink "Callerhall" 414 (ex_inf 147).1) := tw_1759
theorem tm_1761 : ex_tW (Cond.instanceMethod (ex_inf 147).1) := tw_1761
theorem tm_1763 : ex_tW (Cond.methodLink "Callerhall" 455 (ex_inf 44).1) := tw_1763
theorem tm_1764 : ex_tW (Cond.instanceMethod (ex_inf 44).1) := tw_1764
theorem tm_1765 : ex_tW (Cond.selects "Callerhall$Places" (ex_inf 44).1 (ex_inf 44).1) := tw_1765
theorem tm_1767 : ex_tW (Cond.methodLink "Callerhall" 418 (ex_inf 34).1) := tw_1767
theorem tm_1768 : ex_tW (Cond.instanceMethod (ex_inf 34).1) := tw_1768
theorem tm_1769 : ex_tW (Cond.selects "Callerhall$Party" (ex_inf 34).1 (ex_inf 34).1) := tw_1769
theorem tm_2309 : ex_tW (Cond.methodLink "CallerhallLaw" 302 (ex_inf 183).1) := tw_2309
theorem tm_2310 : ex_tW (Cond.static (ex_inf 183).1) := tw_2310
theorem tm_2312 : ex_tW (Cond.methodLink "CallerhallLaw" 37 (ex_inf 101).1) := tw_2312
theorem tm_2313 : ex_tW (Cond.instanceMethod (ex_inf 101).1) := tw_2313
theorem tm_2314 : ex_tW (Cond.selects "Callerhall" (ex_inf 101).1 (ex_inf 101).1) := tw_2314
theorem tm_2316 : ex_tW (Cond.methodLink "CallerhallLaw" 304 (ex_inf 193).1) := tw_2316
theorem tm_2317 : ex_tW (Cond.static (ex_inf 193).1) := tw_2317
theorem tm_2319 : ex_tW (Cond.methodLink "CallerhallLaw" 104 (ex_inf 114).1) := tw_2319
theorem tm_2320 : ex_tW (Cond.instanceMethod (ex_inf 114).1) := tw_2320
theorem tm_2321 : ex_tW (Cond.selects "Callerhall" (ex_inf 114).1 (ex_inf 114).1) := tw_2321
theorem tm_2323 : ex_tW (Cond.methodLink "Callerhall" 316 (ex_inf 145).1) := tw_2323
theorem tm_2325 : ex_tW (Cond.instanceMethod (ex_inf 145).1) := tw_2325
theorem tm_2327 : ex_tW (Cond.methodLink "Callerhall" 439 (ex_inf 68).1) := tw_2327
theorem tm_2328 : ex_tW (Cond.methodLink "Callerhall" 307 (ex_inf 69).1) := tw_2328
theorem tm_2329 : ex_tW (Cond.methodLink "Callerhall" 443 (ex_inf 71).1) := tw_2329
theorem tm_2330 : ex_tW (Cond.methodLink "CallerhallLaw" 307 (ex_inf 194).1) := tw_2330
theorem tm_2331 : ex_tW (Cond.static (ex_inf 194).1) := tw_2331
theorem tm_2333 : ex_tW (Cond.methodLink "CallerhallLaw" 108 (ex_inf 115).1) := tw_2333
theorem tm_2334 : ex_tW (Cond.instanceMethod (ex_inf 115).1) := tw_2334
theorem tm_2335 : ex_tW (Cond.selects "Callerhall" (ex_inf 115).1 (ex_inf 115).1) := tw_2335
theorem tm_2337 : ex_tW (Cond.methodLink "CallerhallLaw" 314 (ex_inf 131).1) := tw_2337
theorem tm_2338 : ex_tW (Cond.instanceMethod (ex_inf 131).1) := tw_2338
theorem tm_2339 : ex_tW (Cond.selects "Callerhall" (ex_inf 131).1 (ex_inf 131).1) := tw_2339
theorem tm_2341 : ex_tW (Cond.methodLink "Callerhall" 409 (ex_inf 161).1) := tw_2341
theorem tm_2342 : ex_tW (Cond.static (ex_inf 161).1) := tw_2342
theorem tm_2345 : ex_tW (Cond.methodLink "CallerhallLaw" 338 (ex_inf 208).1) := tw_2345
theorem tm_2346 : ex_tW (Cond.static (ex_inf 208).1) := tw_2346
theorem mf_0 : ex_MF ex_Xc (ex_inf 0) 0 := ⟨tw_248, by decide, ⟨by decide, by decide, by decide +kernel⟩, tw_6⟩
theorem mf_1 : ex_MF ex_Xc (ex_inf 1) 2 := ⟨tw_1399, by decide, ⟨by decide, by decide, by decide +kernel⟩, tw_6⟩
theorem mf_2 : ex_MF ex_Xc (ex_inf 2) 2 := ⟨tw_857, by decide, ⟨by decide, by decide, by decide +kernel⟩, tw_6⟩
theorem mf_3 : ex_MF ex_Xc (ex_inf 3) 2 := ⟨tw_1395, by decide, ⟨by decide, by decide, by decide +kernel⟩, tw_6⟩
theorem mf_4 : ex_MF ex_Xc (ex_inf 4) 5 := ⟨tw_1403, by decide, ⟨by decide, by decide, by decide +kernel⟩, tw_6⟩
theorem mf_5 : ex_MF ex_Xc (ex_inf 5) 0 := ⟨tw_97, by decide, ⟨by decide, by decide, by decide +kernel⟩, tw_4⟩
theorem mf_6 : ex_MF ex_Xc (ex_inf 6) 6 := ⟨tw_895, by decide, ⟨by decide, by decide, by decide +kernel⟩, tw_4⟩
theorem mf_7 : ex_MF ex_Xc (ex_inf 7) 2 := ⟨tw_888, by decide, ⟨by decide, by decide, by decide +kernel⟩, tw_4⟩
theorem mf_8 : ex_MF ex_Xc (ex_inf 8) 1 := ⟨tw_915, by decide, ⟨by decide, by decide, by decide +kernel⟩, tw_4⟩
theorem mf_9 : ex_MF ex_Xc (ex_inf 9) 1 := ⟨tw_1101, by decide, ⟨by decide, by decide, by decide +kernel⟩, tw_4⟩
theorem mf_10 : ex_MF ex_Xc (ex_inf 10) 4 := ⟨tw_964, by decide, ⟨by decide, by decide, by decide +kernel⟩, tw_4⟩
theorem mf_11 : ex_MF ex_Xc (ex_inf 11) 1 := ⟨tw_891, by decide, ⟨by decide, by decide, by decide +kernel⟩, tw_4⟩
theorem mf_12 : ex_MF ex_Xc (ex_inf 12) 3 := ⟨tw_955, by decide, ⟨by decide, by decide, by decide +kernel⟩, tw_4⟩
theorem mf_13 : ex_MF ex_Xc (ex_inf 13) 0 := ⟨tw_923, by decide, ⟨by decide, by decide, by decide +kernel⟩, tw_4⟩
theorem mf_14 : ex_MF ex_Xc (ex_inf 14) 3 := ⟨tw_1047, by decide, ⟨by decide, by decide, by decide +kernel⟩, tw_4⟩
theorem mf_15 : ex_MF ex_Xc (ex_inf 15) 2 := ⟨tw_1051, by decide, ⟨by decide, by decide, by decide +kernel⟩, tw_4⟩
theorem mf_16 : ex_MF ex_Xc (ex_inf 16) 4 := ⟨tw_1075, by decide, ⟨by decide, by decide, by decide +kernel⟩, tw_4⟩
theorem mf_17 : ex_MF ex_Xc (ex_inf 17) 2 := ⟨tw_1071, by decide, ⟨by decide, by decide, by decide +kernel⟩, tw_4⟩
theorem mf_18 : ex_MF ex_Xc (ex_inf 18) 2 := ⟨tw_1033, by decide, ⟨by decide, by decide, by decide +kernel⟩, tw_4⟩
theorem mf_19 : ex_MF ex_Xc (ex_inf 19) 0 := ⟨tw_1080, by decide, ⟨by decide, by decide, by decide +kernel⟩, tw_4⟩
theorem mf_20 : ex_MF ex_Xc (ex_inf 20) 1 := ⟨tw_1084, by decide, ⟨by decide, by decide, by decide +kernel⟩, tw_4⟩
theorem mf_21 : ex_MF ex_Xc (ex_inf 21) 1 := ⟨tw_1088, by decide, ⟨by decide, by decide, by decide +kernel⟩, tw_4⟩
theorem mf_22 : ex_MF ex_Xc (ex_inf 22) 1 := ⟨tw_1093, by decide, ⟨by decide, by decide, by decide +kernel⟩, tw_4⟩
theorem mf_23 : ex_MF ex_Xc (ex_inf 23) 3 := ⟨tw_1110, by decide, ⟨by decide, by decide, by decide +kernel⟩, tw_4⟩
theorem mf_24 : ex_MF ex_Xc (ex_inf 24) 6 := ⟨tw_1114, by decide, ⟨by decide, by decide, by decide +kernel⟩, tw_4⟩
theorem mf_25 : ex_MF ex_Xc (ex_inf 25) 0 := ⟨tw_347, by decide, ⟨by decide, by decide, by decide +kernel⟩, tw_9⟩
theorem mf_26 : ex_MF ex_Xc (ex_inf 26) 0 := ⟨tw_1268, by decide, ⟨by decide, by decide, by decide +kernel⟩, tw_9⟩
theorem mf_27 : ex_MF ex_Xc (ex_inf 27) 1 := ⟨tw_1155, by decide, ⟨by decide, by decide, by decide +kernel⟩, tw_9⟩
theorem mf_28 : ex_MF ex_Xc (ex_inf 28) 0 := ⟨tw_394, by decide, ⟨by decide, by decide, by decide +kernel⟩, tw_11⟩
theorem mf_29 : ex_MF ex_Xc (ex_inf 29) 1 := ⟨tw_1414, by decide, ⟨by decide, by decide, by decide +kernel⟩, tw_11⟩
theorem mf_30 : ex_MF ex_Xc (ex_inf 30) 0 := ⟨tw_1283, by decide, ⟨by decide, by decide, by decide +kernel⟩, tw_11⟩
theorem mf_31 : ex_MF ex_Xc (ex_inf 31) 2 := ⟨tw_1287, by decide, ⟨by decide, by decide, by decide +kernel⟩, tw_11⟩
theorem mf_32 : ex_MF ex_Xc (ex_inf 32) 3 := ⟨tw_1291, by decide, ⟨by decide, by decide, by decide +kernel⟩, tw_11⟩
theorem mf_33 : ex_MF ex_Xc (ex_inf 33) 3 := ⟨tw_1295, by decide, ⟨by decide, by decide, by decide +kernel⟩, tw_11⟩
theorem mf_34 : ex_MF ex_Xc (ex_inf 34) 0 := ⟨tw_1770, by decide, ⟨by decide, by decide, by decide +kernel⟩, tw_11⟩
theorem mf_35 : ex_MF ex_Xc (ex_inf 35) 0 := ⟨tw_325, by decide, ⟨by decide, by decide, by decide +kernel⟩, tw_8⟩
theorem mf_36 : ex_MF ex_Xc (ex_inf 36) 2 := ⟨tw_1134, by decide, ⟨by decide, by decide, by decide +kernel⟩, tw_8⟩
theorem mf_37 : ex_MF ex_Xc (ex_inf 37) 1 := ⟨tw_1195, by decide, ⟨by decide, by decide, by decide +kernel⟩, tw_8⟩
theorem mf_38 : ex_MF ex_Xc (ex_inf 38) 0 := ⟨tw_1214, by decide, ⟨by decide, by decide, by decide +kernel⟩, tw_8⟩
theorem mf_39 : ex_MF ex_Xc (ex_inf 39) 1 := ⟨tw_1226, by decide, ⟨by decide, by decide, by decide +kernel⟩, tw_8⟩
theorem mf_40 : ex_MF ex_Xc (ex_inf 40) 0 := ⟨tw_60, by decide, ⟨by decide, by decide, by decide +kernel⟩, tw_2⟩
theorem mf_41 : ex_MF ex_Xc (ex_inf 41) 4 := ⟨tw_448, by decide, ⟨by decide, by decide, by decide +kernel⟩, tw_2⟩
theorem mf_42 : ex_MF ex_Xc (ex_inf 42) 2 := ⟨tw_1346, by decide, ⟨by decide, by decide, by decide +kernel⟩, tw_2⟩
theorem mf_43 : ex_MF ex_Xc (ex_inf 43) 1 := ⟨tw_1150, by decide, ⟨by decide, by decide, by decide +kernel⟩, tw_2⟩
theorem mf_44 : ex_MF ex_Xc (ex_inf 44) 2 := ⟨tw_1766, by decide, ⟨by decide, by decide, by decide +kernel⟩, tw_2⟩
theorem mf_45 : ex_MF ex_Xc (ex_inf 45) 0 := ⟨tw_283, by decide, ⟨by decide, by decide, by decide +kernel⟩, tw_7⟩
theorem mf_46 : ex_MF ex_Xc (ex_inf 46) 0 := ⟨tw_839, by decide, ⟨by decide, by decide, by decide +kernel⟩, tw_7⟩
theorem mf_47 : ex_MF ex_Xc (ex_inf 47) 3 := ⟨tw_843, by decide, ⟨by decide, by decide, by decide +kernel⟩, tw_7⟩
theorem mf_48 : ex_MF ex_Xc (ex_inf 48) 1 := ⟨tw_835, by decide, ⟨by decide, by decide, by decide +kernel⟩, tw_7⟩
theorem mf_49 : ex_MF ex_Xc (ex_inf 49) 2 := ⟨tw_880, by decide, ⟨by decide, by decide, by decide +kernel⟩, tw_7⟩
theorem mf_50 : ex_MF ex_Xc (ex_inf 50) 2 := ⟨tw_876, by decide, ⟨by decide, by decide, by decide +kernel⟩, tw_7⟩
theorem mf_51 : ex_MF ex_Xc (ex_inf 51) 2 := ⟨tw_1164, by decide, ⟨by decide, by decide, by decide +kernel⟩, tw_7⟩
theorem mf_52 : ex_MF ex_Xc (ex_inf 52) 1 := ⟨tw_969, by decide, ⟨by decide, by decide, by decide +kernel⟩, tw_7⟩
theorem mf_53 : ex_MF ex_Xc (ex_inf 53) 1 := ⟨tw_1142, by decide, ⟨by decide, by decide, by decide +kernel⟩, tw_7⟩
theorem mf_54 : ex_MF ex_Xc (ex_inf 54) 0 := ⟨tw_371, by decide, ⟨by decide, by decide, by decide +kernel⟩, tw_10⟩
theorem mf_55 : ex_MF ex_Xc (ex_inf 55) 1 := ⟨tw_1260, by decide, ⟨by decide, by decide, by decide +kernel⟩, tw_10⟩
theorem mf_56 : ex_MF ex_Xc (ex_inf 56) 1 := ⟨tw_1159, by decide, ⟨by decide, by decide, by decide +kernel⟩, tw_10⟩
theorem mf_57 : ex_MF ex_Xc (ex_inf 57) 1 := ⟨tw_91, by decide, ⟨by decide, by decide, by decide +kernel⟩, tw_3⟩
theorem mf_58 : ex_MF ex_Xc (ex_inf 58) 2 := ⟨tw_884, by decide, ⟨by decide, by decide, by decide +kernel⟩, tw_3⟩
theorem mf_59 : ex_MF ex_Xc (ex_inf 59) 3 := ⟨tw_903, by decide, ⟨by decide, by decide, by decide +kernel⟩, tw_3⟩
theorem mf_60 : ex_MF ex_Xc (ex_inf 60) 2 := ⟨tw_1025, by decide, ⟨by decide, by decide, by decide +kernel⟩, tw_3⟩
theorem mf_61 : ex_MF ex_Xc (ex_inf 61) 1 := ⟨tw_911, by decide, ⟨by decide, by decide, by decide +kernel⟩, tw_3⟩
theorem mf_62 : ex_MF ex_Xc (ex_inf 62) 1 := ⟨tw_907, by decide, ⟨by decide, by decide, by decide +kernel⟩, tw_3⟩
theorem mf_63 : ex_MF ex_Xc (ex_inf 63) 3 := ⟨tw_973, by decide, ⟨by decide, by decide, by decide +kernel⟩, tw_3⟩
theorem mf_64 : ex_MF ex_Xc (ex_inf 64) 1 := ⟨tw_1097, by decide, ⟨by decide, by decide, by decide +kernel⟩, tw_3⟩
theorem mf_65 : ex_MF ex_Xc (ex_inf 65) 3 := ⟨tw_919, by decide, ⟨by decide, by decide, by decide +kernel⟩, tw_3⟩
theorem mf_66 : ex_MF ex_Xc (ex_inf 66) 3 := ⟨tw_1106, by decide, ⟨by decide, by decide, by decide +kernel⟩, tw_3⟩
theorem mf_67 : ex_MF ex_Xc (ex_inf 67) 0 := ⟨tw_173, by decide, ⟨by decide, by decide, by decide +kernel⟩, tw_5⟩
theorem mf_68 : ex_MF ex_Xc (ex_inf 68) 3 := ⟨tw_931, by decide, ⟨by decide, by decide, by decide +kernel⟩, tw_5⟩
theorem mf_69 : ex_MF ex_Xc (ex_inf 69) 2 := ⟨tw_978, by decide, ⟨by decide, by decide, by decide +kernel⟩, tw_5⟩
theorem mf_70 : ex_MF ex_Xc (ex_inf 70) 2 := ⟨tw_982, by decide, ⟨by decide, by decide, by decide +kernel⟩, tw_5⟩
theorem mf_71 : ex_MF ex_Xc (ex_inf 71) 2 := ⟨tw_990, by decide, ⟨by decide, by decide, by decide +kernel⟩, tw_5⟩
theorem mf_72 : ex_MF ex_Xc (ex_inf 72) 1 := ⟨tw_935, by decide, ⟨by decide, by decide, by decide +kernel⟩, tw_5⟩
theorem mf_73 : ex_MF ex_Xc (ex_inf 73) 3 := ⟨tw_939, by decide, ⟨by decide, by decide, by decide +kernel⟩, tw_5⟩
theorem mf_74 : ex_MF ex_Xc (ex_inf 74) 1 := ⟨tw_995, by decide, ⟨by decide, by decide, by decide +kernel⟩, tw_5⟩
theorem mf_75 : ex_MF ex_Xc (ex_inf 75) 2 := ⟨tw_947, by decide, ⟨by decide, by decide, by decide +kernel⟩, tw_5⟩
theorem mf_76 : ex_MF ex_Xc (ex_inf 76) 3 := ⟨tw_951, by decide, ⟨by decide, by decide, by decide +kernel⟩, tw_5⟩
theorem mf_77 : ex_MF ex_Xc (ex_inf 77) 2 := ⟨tw_927, by decide, ⟨by decide, by decide, by decide +kernel⟩, tw_5⟩
theorem mf_78 : ex_MF ex_Xc (ex_inf 78) 1 := ⟨tw_943, by decide, ⟨by decide, by decide, by decide +kernel⟩, tw_5⟩
theorem mf_79 : ex_MF ex_Xc (ex_inf 79) 1 := ⟨tw_1001, by decide, ⟨by decide, by decide, by decide +kernel⟩, tw_5⟩
theorem mf_80 : ex_MF ex_Xc (ex_inf 80) 1 := ⟨tw_1009, by decide, ⟨by decide, by decide, by decide +kernel⟩, tw_5⟩
theorem mf_81 : ex_MF ex_Xc (ex_inf 81) 4 := ⟨tw_1005, by decide, ⟨by decide, by decide, by decide +kernel⟩, tw_5⟩
theorem mf_82 : ex_MF ex_Xc (ex_inf 82) 3 := ⟨tw_1013, by decide, ⟨by decide, by decide, by decide +kernel⟩, tw_5⟩
theorem mf_83 : ex_MF ex_Xc (ex_inf 83) 2 := ⟨tw_1017, by decide, ⟨by decide, by decide, by decide +kernel⟩, tw_5⟩
theorem mf_84 : ex_MF ex_Xc (ex_inf 84) 2 := ⟨tw_1021, by decide, ⟨by decide, by decide, by decide +kernel⟩, tw_5⟩
theorem mf_85 : ex_MF ex_Xc (ex_inf 85) 2 := ⟨tw_1029, by decide, ⟨by decide, by decide, by decide +kernel⟩, tw_5⟩
theorem mf_86 : ex_MF ex_Xc (ex_inf 86) 3 := ⟨tw_1039, by decide, ⟨by decide, by decide, by decide +kernel⟩, tw_5⟩
theorem mf_87 : ex_MF ex_Xc (ex_inf 87) 3 := ⟨tw_1043, by decide, ⟨by decide, by decide, by decide +kernel⟩, tw_5⟩
theorem mf_88 : ex_MF ex_Xc (ex_inf 88) 3 := ⟨tw_1055, by decide, ⟨by decide, by decide, by decide +kernel⟩, tw_5⟩
theorem mf_89 : ex_MF ex_Xc (ex_inf 89) 2 := ⟨tw_1059, by decide, ⟨by decide, by decide, by decide +kernel⟩, tw_5⟩
theorem mf_90 : ex_MF ex_Xc (ex_inf 90) 3 := ⟨tw_1063, by decide, ⟨by decide, by decide, by decide +kernel⟩, tw_5⟩
theorem mf_91 : ex_MF ex_Xc (ex_inf 91) 3 := ⟨tw_1067, by decide, ⟨by decide, by decide, by decide +kernel⟩, tw_5⟩
theorem mf_92 : ex_MF ex_Xc (ex_inf 92) 0 := ⟨tw_420, by decide, ⟨by decide, by decide, by decide +kernel⟩, tw_12⟩
theorem mf_93 : ex_MF ex_Xc (ex_inf 93) 0 := ⟨tw_52, by decide, ⟨by decide, by decide, by decide +kernel⟩, tw_1⟩
theorem mf_94 : ex_MF ex_Xc (ex_inf 94) 0 := ⟨tw_1365, by decide, ⟨by decide, by decide, by decide +kernel⟩, tw_1⟩
theorem mf_95 : ex_MF ex_Xc (ex_inf 95) 1 := ⟨tw_707, by decide, ⟨by decide, by decide, by decide +kernel⟩, tw_1⟩
theorem mf_96 : ex_MF ex_Xc (ex_inf 96) 1 := ⟨tw_1557, by decide, ⟨by decide, by decide, by decide +kernel⟩, tw_1⟩
theorem mf_97 : ex_MF ex_Xc (ex_inf 97) 1 := ⟨tw_1564, by decide, ⟨by decide, by decide, by decide +kernel⟩, tw_1⟩
theorem mf_98 : ex_MF ex_Xc (ex_inf 98) 4 := ⟨tw_1338, by decide, ⟨by decide, by decide, by decide +kernel⟩, tw_1⟩
theorem mf_99 : ex_MF ex_Xc (ex_inf 99) 2 := ⟨tw_1353, by decide, ⟨by decide, by decide, by decide +kernel⟩, tw_1⟩
theorem mf_100 : ex_MF ex_Xc (ex_inf 100) 1 := ⟨tw_1361, by decide, ⟨by decide, by decide, by decide +kernel⟩, tw_1⟩
theorem mf_101 : ex_MF ex_Xc (ex_inf 101) 2 := ⟨tw_2315, by decide, ⟨by decide, by decide, by decide +kernel⟩, tw_1⟩
theorem mf_102 : ex_MF ex_Xc (ex_inf 102) 2 := ⟨tw_1372, by decide, ⟨by decide, by decide, by decide +kernel⟩, tw_1⟩
theorem mf_103 : ex_MF ex_Xc (ex_inf 103) 5 := ⟨tw_1383, by decide, ⟨by decide, by decide, by decide +kernel⟩, tw_1⟩
theorem mf_104 : ex_MF ex_Xc (ex_inf 104) 1 := ⟨tw_1692, by decide, ⟨by decide, by decide, by decide +kernel⟩, tw_1⟩
theorem mf_105 : ex_MF ex_Xc (ex_inf 105) 5 := ⟨tw_742, by decide, ⟨by decide, by decide, by decide +kernel⟩, tw_1⟩
theorem mf_106 : ex_MF ex_Xc (ex_inf 106) 0 := ⟨tw_1172, by decide, ⟨by decide, by decide, by decide +kernel⟩, tw_1⟩
theorem mf_107 : ex_MF ex_Xc (ex_inf 107) 0 := ⟨tw_1176, by decide, ⟨by decide, by decide, by decide +kernel⟩, tw_1⟩
theorem mf_108 : ex_MF ex_Xc (ex_inf 108) 0 := ⟨tw_510, by decide, ⟨by decide, by decide, by decide +kernel⟩, tw_1⟩
theorem mf_109 : ex_MF ex_Xc (ex_inf 109) 0 := ⟨tw_1203, by decide, ⟨by decide, by decide, by decide +kernel⟩, tw_1⟩
theorem mf_110 : ex_MF ex_Xc (ex_inf 110) 3 := ⟨tw_1684, by decide, ⟨by decide, by decide, by decide +kernel⟩, tw_1⟩
theorem mf_111 : ex_MF ex_Xc (ex_inf 111) 0 := ⟨tw_1210, by decide, ⟨by decide, by decide, by decide +kernel⟩, tw_1⟩
theorem mf_112 : ex_MF ex_Xc (ex_inf 112) 0 := ⟨tw_1421, by decide, ⟨by decide, by decide, by decide +kernel⟩, tw_1⟩
theorem mf_113 : ex_MF ex_Xc (ex_inf 113) 1 := ⟨tw_1222, by decide, ⟨by decide, by decide, by decide +kernel⟩, tw_1⟩
theorem mf_114 : ex_MF ex_Xc (ex_inf 114) 3 := ⟨tw_2322, by decide, ⟨by decide, by decide, by decide +kernel⟩, tw_1⟩
theorem mf_115 : ex_MF ex_Xc (ex_inf 115) 1 := ⟨tw_2336, by decide, ⟨by decide, by decide, by decide +kernel⟩, tw_1⟩
theorem mf_116 : ex_MF ex_Xc (ex_inf 116) 0 := ⟨tw_514, by decide, ⟨by decide, by decide, by decide +kernel⟩, tw_1⟩
theorem mf_117 : ex_MF ex_Xc (ex_inf 117) 1 := ⟨tw_1233, by decide, ⟨by decide, by decide, by decide +kernel⟩, tw_1⟩
theorem mf_118 : ex_MF ex_Xc (ex_inf 118) 0 := ⟨tw_594, by decide, ⟨by decide, by decide, by decide +kernel⟩, tw_1⟩
theorem mf_119 : ex_MF ex_Xc (ex_inf 119) 0 := ⟨tw_606, by decide, ⟨by decide, by decide, by decide +kernel⟩, tw_1⟩
theorem mf_122 : ex_MF ex_Xc (ex_inf 122) 1 := ⟨tw_1240, by decide, ⟨by decide, by decide, by decide +kernel⟩, tw_1⟩
theorem mf_124 : ex_MF ex_Xc (ex_inf 124) 0 := ⟨tw_1252, by decide, ⟨by decide, by decide, by decide +kernel⟩, tw_1⟩
theorem mf_126 : ex_MF ex_Xc (ex_inf 126) 1 := ⟨tw_1410, by decide, ⟨by decide, by decide, by decide +kernel⟩, tw_1⟩
theorem mf_127 : ex_MF ex_Xc (ex_inf 127) 0 := ⟨tw_1279, by decide, ⟨by decide, by decide, by decide +kernel⟩, tw_1⟩
theorem mf_128 : ex_MF ex_Xc (ex_inf 128) 2 := ⟨tw_1747, by decide, ⟨by decide, by decide, by decide +kernel⟩, tw_1⟩
theorem mf_129 : ex_MF ex_Xc (ex_inf 129) 0 := ⟨tw_1676, by decide, ⟨by decide, by decide, by decide +kernel⟩, tw_1⟩
theorem mf_130 : ex_MF ex_Xc (ex_inf 130) 0 := ⟨tw_1316, by decide, ⟨by decide, by decide, by decide +kernel⟩, tw_1⟩
theorem mf_131 : ex_MF ex_Xc (ex_inf 131) 0 := ⟨tw_2340, by decide, ⟨by decide, by decide, by decide +kernel⟩, tw_1⟩
theorem mf_132 : ex_MF ex_Xc (ex_inf 132) 0 := ⟨tw_1758, by decide, ⟨by decide, by decide, by decide +kernel⟩, tw_1⟩
theorem mf_133 : ex_MF ex_Xc (ex_inf 133) 1 := ⟨tw_711, by decide, ⟨by decide, by decide, by decide +kernel⟩, tw_1⟩
theorem mf_134 : ex_MF ex_Xc (ex_inf 134) 3 := ⟨tw_1342, by decide, ⟨by decide, by decide, by decide +kernel⟩, tw_1⟩
theorem mf_135 : ex_MF ex_Xc (ex_inf 135) 1 := ⟨tw_1391, by decide, ⟨by decide, by decide, by decide +kernel⟩, tw_1⟩
theorem mf_136 : ex_MF ex_Xc (ex_inf 136) 1 := ⟨tw_1751, by decide, ⟨by decide, by decide, by decide +kernel⟩, tw_1⟩
theorem mf_137 : ex_MF ex_Xc (ex_inf 137) 1 := ⟨tw_852, by decide, ⟨by decide, by decide, by decide +kernel⟩, tw_1⟩
theorem mf_138 : ex_MF ex_Xc (ex_inf 138) 1 := ⟨tw_1387, by decide, ⟨by decide, by decide, by decide +kernel⟩, tw_1⟩
theorem mf_139 : ex_MF ex_Xc (ex_inf 139) 1 := ⟨tw_746, by decide, ⟨by decide, by decide, by decide +kernel⟩, tw_1⟩
theorem mf_140 : ex_MF ex_Xc (ex_inf 140) 1 := ⟨tw_825, by decide, ⟨by decide, by decide, by decide +kernel⟩, tw_1⟩
theorem mf_141 : ex_MF ex_Xc (ex_inf 141) 2 := ⟨tw_751, by decide, ⟨by decide, by decide, by decide +kernel⟩, tw_1⟩
theorem mf_142 : ex_MF ex_Xc (ex_inf 142) 1 := ⟨tw_831, by decide, ⟨by decide, by decide, by decide +kernel⟩, tw_1⟩
theorem mf_143 : ex_MF ex_Xc (ex_inf 143) 4 := ⟨tw_899, by decide, ⟨by decide, by decide, by decide +kernel⟩, tw_1⟩
theorem mf_144 : ex_MF ex_Xc (ex_inf 144) 1 := ⟨tw_1146, by decide, ⟨by decide, by decide, by decide +kernel⟩, tw_1⟩
theorem mf_145 : ex_MF ex_Xc (ex_inf 145) 2 := ⟨tw_2326, by decide, ⟨by decide, by decide, by decide +kernel⟩, tw_1⟩
theorem mf_146 : ex_MF ex_Xc (ex_inf 146) 2 := ⟨tw_1245, by decide, ⟨by decide, by decide, by decide +kernel⟩, tw_1⟩
theorem mf_147 : ex_MF ex_Xc (ex_inf 147) 1 := ⟨tw_1762, by decide, ⟨by decide, by decide, by decide +kernel⟩, tw_1⟩
theorem mf_148 : ex_MF ex_Xc (ex_inf 148) 0 := ⟨tw_1264, by decide, ⟨by decide, by decide, by decide +kernel⟩, tw_1⟩
theorem mf_149 : ex_MF ex_Xc (ex_inf 149) 0 := ⟨tw_1272, by decide, ⟨by decide, by decide, by decide +kernel⟩, tw_1⟩
theorem mf_150 : ex_MF ex_Xc (ex_inf 150) 1 := ⟨tw_602, by decide, ⟨by decide, by decide, by decide +kernel⟩, tw_1⟩
theorem mf_151 : ex_MF ex_Xc (ex_inf 151) 0 := ⟨tw_1256, by decide, ⟨by decide, by decide, by decide +kernel⟩, tw_1⟩
theorem mf_152 : ex_MF ex_Xc (ex_inf 152) 3 := ⟨tw_598, by decide, ⟨by decide, by decide, by decide +kernel⟩, tw_1⟩
theorem mf_153 : ex_MF ex_Xc (ex_inf 153) 1 := ⟨tw_529, by decide, ⟨by decide, by decide, by decide +kernel⟩, tw_1⟩
theorem mf_154 : ex_MF ex_Xc (ex_inf 154) 3 := ⟨tw_533, by decide, ⟨by decide, by decide, by decide +kernel⟩, tw_1⟩
theorem mf_155 : ex_MF ex_Xc (ex_inf 155) 3 := ⟨tw_536, by decide, ⟨by decide, by decide, by decide +kernel⟩, tw_1⟩
theorem mf_156 : ex_MF ex_Xc (ex_inf 156) 3 := ⟨tw_539, by decide, ⟨by decide, by decide, by decide +kernel⟩, tw_1⟩
theorem mf_157 : ex_MF ex_Xc (ex_inf 157) 1 := ⟨tw_611, by decide, ⟨by decide, by decide, by decide +kernel⟩, tw_29⟩
theorem mf_158 : ex_MF ex_Xc (ex_inf 158) 1 := ⟨tw_1329, by decide, ⟨by decide, by decide, by decide +kernel⟩, tw_29⟩
theorem mf_159 : ex_MF ex_Xc (ex_inf 159) 2 := ⟨tw_1137, by decide, ⟨by decide, by decide, by decide +kernel⟩, tw_20⟩
theorem mf_160 : ex_MF ex_Xc (ex_inf 160) 1 := ⟨tw_985, by decide, ⟨by decide, by decide, by decide +kernel⟩, tw_20⟩
theorem mf_161 : ex_MF ex_Xc (ex_inf 161) 1 := ⟨tw_2343, by decide, ⟨by decide, by decide, by decide +kernel⟩, tw_20⟩
theorem mf_162 : ex_MF ex_Xc (ex_inf 162) 2 := ⟨tw_542, by decide, ⟨by decide, by decide, by decide +kernel⟩, tw_20⟩
theorem mf_163 : ex_MF ex_Xc (ex_inf 163) 2 := ⟨tw_551, by decide, ⟨by decide, by decide, by decide +kernel⟩, tw_20⟩
theorem mf_164 : ex_MF ex_Xc (ex_inf 164) 0 := ⟨tw_519, by decide, ⟨by decide, by decide, by decide +kernel⟩, tw_18⟩
theorem mf_165 : ex_MF ex_Xc (ex_inf 165) 1 := ⟨tw_555, by decide, ⟨by decide, by decide, by decide +kernel⟩, tw_18⟩
theorem mf_166 : ex_MF ex_Xc (ex_inf 166) 1 := ⟨tw_755, by decide, ⟨by decide, by decide, by decide +kernel⟩, tw_18⟩
theorem mf_167 : ex_MF ex_Xc (ex_inf 167) 2 := ⟨tw_759, by decide, ⟨by decide, by decide, by decide +kernel⟩, tw_18⟩
theorem mf_168 : ex_MF ex_Xc (ex_inf 168) 0 := ⟨tw_523, by decide, ⟨by decide, by decide, by decide +kernel⟩, tw_18⟩
theorem mf_169 : ex_MF ex_Xc (ex_inf 169) 0 := ⟨tw_559, by decide, ⟨by decide, by decide, by decide +kernel⟩, tw_18⟩
theorem mf_170 : ex_MF ex_Xc (ex_inf 170) 2 := ⟨tw_565, by decide, ⟨by decide, by decide, by decide +kernel⟩, tw_18⟩
theorem mf_171 : ex_MF ex_Xc (ex_inf 171) 2 := ⟨tw_562, by decide, ⟨by decide, by decide, by decide +kernel⟩, tw_19⟩
theorem mf_172 : ex_MF ex_Xc (ex_inf 172) 1 := ⟨tw_766, by decide, ⟨by decide, by decide, by decide +kernel⟩, tw_19⟩
theorem mf_173 : ex_MF ex_Xc (ex_inf 173) 4 := ⟨tw_763, by decide, ⟨by decide, by decide, by decide +kernel⟩, tw_19⟩
theorem mf_174 : ex_MF ex_Xc (ex_inf 174) 4 := ⟨tw_771, by decide, ⟨by decide, by decide, by decide +kernel⟩, tw_19⟩
theorem mf_175 : ex_MF ex_Xc (ex_inf 175) 3 := ⟨tw_570, by decide, ⟨by decide, by decide, by decide +kernel⟩, tw_22⟩
theorem mf_176 : ex_MF ex_Xc (ex_inf 176) 2 := ⟨tw_620, by decide, ⟨by decide, by decide, by decide +kernel⟩, tw_0⟩
theorem mf_177 : ex_MF ex_Xc (ex_inf 177) 2 := ⟨tw_624, by decide, ⟨by decide, by decide, by decide +kernel⟩, tw_0⟩
theorem mf_178 : ex_MF ex_Xc (ex_inf 178) 2 := ⟨tw_1553, by decide, ⟨by decide, by decide, by decide +kernel⟩, tw_0⟩
theorem mf_179 : ex_MF ex_Xc (ex_inf 179) 2 := ⟨tw_1560, by decide, ⟨by decide, by decide, by decide +kernel⟩, tw_0⟩
theorem mf_180 : ex_MF ex_Xc (ex_inf 180) 5 := ⟨tw_1334, by decide, ⟨by decide, by decide, by decide +kernel⟩, tw_0⟩
theorem mf_181 : ex_MF ex_Xc (ex_inf 181) 3 := ⟨tw_1349, by decide, ⟨by decide, by decide, by decide +kernel⟩, tw_0⟩
theorem mf_182 : ex_MF ex_Xc (ex_inf 182) 2 := ⟨tw_1357, by decide, ⟨by decide, by decide, by decide +kernel⟩, tw_0⟩
theorem mf_183 : ex_MF ex_Xc (ex_inf 183) 3 := ⟨tw_2311, by decide, ⟨by decide, by decide, by decide +kernel⟩, tw_0⟩
theorem mf_184 : ex_MF ex_Xc (ex_inf 184) 3 := ⟨tw_1368, by decide, ⟨by decide, by decide, by decide +kernel⟩, tw_0⟩
theorem mf_185 : ex_MF ex_Xc (ex_inf 185) 6 := ⟨tw_1379, by decide, ⟨by decide, by decide, by decide +kernel⟩, tw_0⟩
theorem mf_186 : ex_MF ex_Xc (ex_inf 186) 2 := ⟨tw_1688, by decide, ⟨by decide, by decide, by decide +kernel⟩, tw_0⟩
theorem mf_187 : ex_MF ex_Xc (ex_inf 187) 6 := ⟨tw_735, by decide, ⟨by decide, by decide, by decide +kernel⟩, tw_0⟩
theorem mf_188 : ex_MF ex_Xc (ex_inf 188) 1 := ⟨tw_1167, by decide, ⟨by decide, by decide, by decide +kernel⟩, tw_0⟩
theorem mf_189 : ex_MF ex_Xc (ex_inf 189) 1 := ⟨tw_1199, by decide, ⟨by decide, by decide, by decide +kernel⟩, tw_0⟩
theorem mf_190 : ex_MF ex_Xc (ex_inf 190) 4 := ⟨tw_1680, by decide, ⟨by decide, by decide, by decide +kernel⟩, tw_0⟩
theorem mf_191 : ex_MF ex_Xc (ex_inf 191) 1 := ⟨tw_1206, by decide, ⟨by decide, by decide, by decide +kernel⟩, tw_0⟩
theorem mf_192 : ex_MF ex_Xc (ex_inf 192) 2 := ⟨tw_1218, by decide, ⟨by decide, by decide, by decide +kernel⟩, tw_0⟩
theorem mf_193 : ex_MF ex_Xc (ex_inf 193) 4 := ⟨tw_2318, by decide, ⟨by decide, by decide, by decide +kernel⟩, tw_0⟩
theorem mf_194 : ex_MF ex_Xc (ex_inf 194) 2 := ⟨tw_2332, by decide, ⟨by decide, by decide, by decide +kernel⟩, tw_0⟩
theorem mf_195 : ex_MF ex_Xc (ex_inf 195) 2 := ⟨tw_1229, by decide, ⟨by decide, by decide, by decide +kernel⟩, tw_0⟩
theorem mf_196 : ex_MF ex_Xc (ex_inf 196) 2 := ⟨tw_1236, by decide, ⟨by decide, by decide, by decide +kernel⟩, tw_0⟩
theorem mf_197 : ex_MF ex_Xc (ex_inf 197) 1 := ⟨tw_1248, by decide, ⟨by decide, by decide, by decide +kernel⟩, tw_0⟩
theorem mf_198 : ex_MF ex_Xc (ex_inf 198) 2 := ⟨tw_1406, by decide, ⟨by decide, by decide, by decide +kernel⟩, tw_0⟩
theorem mf_199 : ex_MF ex_Xc (ex_inf 199) 1 := ⟨tw_1275, by decide, ⟨by decide, by decide, by decide +kernel⟩, tw_0⟩
theorem mf_200 : ex_MF ex_Xc (ex_inf 200) 3 := ⟨tw_1743, by decide, ⟨by decide, by decide, by decide +kernel⟩, tw_0⟩
theorem mf_201 : ex_MF ex_Xc (ex_inf 201) 1 := ⟨tw_1298, by decide, ⟨by decide, by decide, by decide +kernel⟩, tw_0⟩
theorem mf_202 : ex_MF ex_Xc (ex_inf 202) 3 := ⟨tw_1325, by decide, ⟨by decide, by decide, by decide +kernel⟩, tw_0⟩
theorem mf_203 : ex_MF ex_Xc (ex_inf 203) 1 := ⟨tw_1417, by decide, ⟨by decide, by decide, by decide +kernel⟩, tw_0⟩
theorem mf_204 : ex_MF ex_Xc (ex_inf 204) 6 := ⟨tw_1672, by decide, ⟨by decide, by decide, by decide +kernel⟩, tw_0⟩
theorem mf_205 : ex_MF ex_Xc (ex_inf 205) 1 := ⟨tw_1424, by decide, ⟨by decide, by decide, by decide +kernel⟩, tw_0⟩
theorem mf_206 : ex_MF ex_Xc (ex_inf 206) 1 := ⟨tw_1695, by decide, ⟨by decide, by decide, by decide +kernel⟩, tw_0⟩
theorem mf_207 : ex_MF ex_Xc (ex_inf 207) 1 := ⟨tw_1754, by decide, ⟨by decide, by decide, by decide +kernel⟩, tw_0⟩
theorem mf_208 : ex_MF ex_Xc (ex_inf 208) 1 := ⟨tw_2347, by decide, ⟨by decide, by decide, by decide +kernel⟩, tw_0⟩
end
