/-! the words that the methods need -/
theorem g_0 : (Jvm.Cond.initialized "RaidlineLaw") ∈ ev_G := ev_inT 0 (by decide +kernel) rfl
theorem g_1 : (Jvm.Cond.initialized "Raidline") ∈ ev_G := ev_inT 1 (by decide +kernel) rfl
theorem g_2 : (Jvm.Cond.initialized "Raidline$Roster") ∈ ev_G := ev_inT 2 (by decide +kernel) rfl
theorem g_3 : (Jvm.Cond.initialized "Raidline$Row") ∈ ev_G := ev_inT 3 (by decide +kernel) rfl
theorem g_4 : (Jvm.Cond.initialized "Raidline$Clubs") ∈ ev_G := ev_inT 4 (by decide +kernel) rfl
theorem g_5 : (Jvm.Cond.initialized "Raidline$Auction") ∈ ev_G := ev_inT 5 (by decide +kernel) rfl
theorem g_6 : (Jvm.Cond.initialized "Raidline$Edition") ∈ ev_G := ev_inT 6 (by decide +kernel) rfl
theorem g_7 : (Jvm.Cond.initialized "Raidline$Match") ∈ ev_G := ev_inT 7 (by decide +kernel) rfl
theorem g_8 : (Jvm.Cond.initialized "Raidline$Side") ∈ ev_G := ev_inT 8 (by decide +kernel) rfl
theorem g_9 : (Jvm.Cond.initialized "Raidline$Line") ∈ ev_G := ev_inT 9 (by decide +kernel) rfl
theorem g_10 : (Jvm.Cond.initialized "Raidline$Raid") ∈ ev_G := ev_inT 10 (by decide +kernel) rfl
theorem g_11 : (Jvm.Cond.initialized "Raidline$Statistics") ∈ ev_G := ev_inT 11 (by decide +kernel) rfl
theorem g_12 : (Jvm.Cond.initialized "Raidline$Values") ∈ ev_G := ev_inT 12 (by decide +kernel) rfl
theorem g_16 : (Jvm.Cond.initialized "java/lang/ArithmeticException") ∈ ev_G := ev_inT 16 (by decide +kernel) rfl
theorem g_18 : (Jvm.Cond.initialized "java/lang/IndexOutOfBoundsException") ∈ ev_G := ev_inT 18 (by decide +kernel) rfl
theorem g_20 : (Jvm.Cond.initialized "java/lang/IllegalArgumentException") ∈ ev_G := ev_inT 20 (by decide +kernel) rfl
theorem g_21 : (Jvm.Cond.initialized "java/lang/IllegalStateException") ∈ ev_G := ev_inT 21 (by decide +kernel) rfl
theorem g_22 : (Jvm.Cond.initialized "java/lang/UnsupportedOperationException") ∈ ev_G := ev_inT 22 (by decide +kernel) rfl
theorem g_23 : (Jvm.Cond.initialized "java/util/NoSuchElementException") ∈ ev_G := ev_inT 23 (by decide +kernel) rfl
theorem g_31 : (Jvm.Cond.methodLink "Raidline" (1 : Nat) ({ cls := "java/lang/Object", name := "<init>", desc := "()V" } : Jvm.MethodName)) ∈ ev_G := ev_inT 31 (by decide +kernel) rfl
theorem g_32 : (Jvm.Cond.instanceMethod ({ cls := "java/lang/Object", name := "<init>", desc := "()V" } : Jvm.MethodName)) ∈ ev_G := ev_inT 32 (by decide +kernel) rfl
theorem g_33 : (Jvm.Cond.code ({ cls := "java/lang/Object", name := "<init>", desc := "()V" } : Jvm.MethodName) object_method_1_code (1 : Nat) (Option.none : Option Jvm.ClassFile.FieldType)) ∈ ev_G := ev_inT 33 (by decide +kernel) rfl
theorem g_34 : (Jvm.Cond.classLink "Raidline" (7 : Nat) "Raidline$Roster") ∈ ev_G := ev_inT 34 (by decide +kernel) rfl
theorem g_35 : (Jvm.Cond.instantiable "Raidline$Roster" (8 : Nat)) ∈ ev_G := ev_inT 35 (by decide +kernel) rfl
theorem g_37 : (Jvm.Cond.instanceMethod ({ cls := "Raidline$Roster", name := "<init>", desc := "()V" } : Jvm.MethodName)) ∈ ev_G := ev_inT 37 (by decide +kernel) rfl
theorem g_38 : (Jvm.Cond.code ({ cls := "Raidline$Roster", name := "<init>", desc := "()V" } : Jvm.MethodName) prog_8_method_1_code (1 : Nat) (Option.none : Option Jvm.ClassFile.FieldType)) ∈ ev_G := ev_inT 38 (by decide +kernel) rfl
theorem g_39 : (Jvm.Cond.methodLink "Raidline$Roster" (3 : Nat) ({ cls := "java/lang/Object", name := "<init>", desc := "()V" } : Jvm.MethodName)) ∈ ev_G := ev_inT 39 (by decide +kernel) rfl
theorem g_40 : (Jvm.Cond.classLink "Raidline$Roster" (9 : Nat) "Raidline$Row") ∈ ev_G := ev_inT 40 (by decide +kernel) rfl
theorem g_41 : (Jvm.Cond.instantiable "Raidline$Row" (1 : Nat)) ∈ ev_G := ev_inT 41 (by decide +kernel) rfl
theorem g_42 : (Jvm.Cond.methodLink "Raidline$Roster" (11 : Nat) ({ cls := "Raidline$Row", name := "<init>", desc := "(I)V" } : Jvm.MethodName)) ∈ ev_G := ev_inT 42 (by decide +kernel) rfl
theorem g_43 : (Jvm.Cond.instanceMethod ({ cls := "Raidline$Row", name := "<init>", desc := "(I)V" } : Jvm.MethodName)) ∈ ev_G := ev_inT 43 (by decide +kernel) rfl
theorem g_44 : (Jvm.Cond.code ({ cls := "Raidline$Row", name := "<init>", desc := "(I)V" } : Jvm.MethodName) prog_9_method_1_code (2 : Nat) (Option.none : Option Jvm.ClassFile.FieldType)) ∈ ev_G := ev_inT 44 (by decide +kernel) rfl
theorem g_45 : (Jvm.Cond.methodLink "Raidline$Row" (1 : Nat) ({ cls := "java/lang/Object", name := "<init>", desc := "()V" } : Jvm.MethodName)) ∈ ev_G := ev_inT 45 (by decide +kernel) rfl
theorem g_46 : (Jvm.Cond.fieldLink "Raidline$Row" (7 : Nat) "Raidline$Row" "cells" "[I") ∈ ev_G := ev_inT 46 (by decide +kernel) rfl
theorem g_50 : (Jvm.Cond.arrayClass Jvm.ClassFile.FieldType.int) ∈ ev_G := ev_inT 50 (by decide +kernel) rfl
theorem g_51 : (Jvm.Cond.fieldLink "Raidline$Roster" (14 : Nat) "Raidline$Roster" "reaches" "LRaidline$Row;") ∈ ev_G := ev_inT 51 (by decide +kernel) rfl
theorem g_52 : (Jvm.Cond.fieldLink "Raidline$Roster" (20 : Nat) "Raidline$Roster" "speeds" "LRaidline$Row;") ∈ ev_G := ev_inT 52 (by decide +kernel) rfl
theorem g_54 : (Jvm.Cond.fieldLink "Raidline$Roster" (23 : Nat) "Raidline$Roster" "grips" "LRaidline$Row;") ∈ ev_G := ev_inT 54 (by decide +kernel) rfl
theorem g_56 : (Jvm.Cond.fieldLink "Raidline$Roster" (26 : Nat) "Raidline$Roster" "bases" "LRaidline$Row;") ∈ ev_G := ev_inT 56 (by decide +kernel) rfl
theorem g_58 : (Jvm.Cond.fieldLink "Raidline$Roster" (29 : Nat) "Raidline$Roster" "squads" "LRaidline$Row;") ∈ ev_G := ev_inT 58 (by decide +kernel) rfl
theorem g_61 : (Jvm.Cond.fieldLink "Raidline$Roster" (32 : Nat) "Raidline$Roster" "former" "LRaidline$Row;") ∈ ev_G := ev_inT 61 (by decide +kernel) rfl
theorem g_63 : (Jvm.Cond.fieldLink "Raidline$Roster" (35 : Nat) "Raidline$Roster" "prices" "LRaidline$Row;") ∈ ev_G := ev_inT 63 (by decide +kernel) rfl
theorem g_65 : (Jvm.Cond.fieldLink "Raidline$Roster" (38 : Nat) "Raidline$Roster" "count" "I") ∈ ev_G := ev_inT 65 (by decide +kernel) rfl
theorem g_85 : (Jvm.Cond.classLink "Raidline" (16 : Nat) "Raidline$Clubs") ∈ ev_G := ev_inT 85 (by decide +kernel) rfl
theorem g_86 : (Jvm.Cond.instantiable "Raidline$Clubs" (5 : Nat)) ∈ ev_G := ev_inT 86 (by decide +kernel) rfl
theorem g_88 : (Jvm.Cond.instanceMethod ({ cls := "Raidline$Clubs", name := "<init>", desc := "()V" } : Jvm.MethodName)) ∈ ev_G := ev_inT 88 (by decide +kernel) rfl
theorem g_89 : (Jvm.Cond.code ({ cls := "Raidline$Clubs", name := "<init>", desc := "()V" } : Jvm.MethodName) prog_3_method_1_code (1 : Nat) (Option.none : Option Jvm.ClassFile.FieldType)) ∈ ev_G := ev_inT 89 (by decide +kernel) rfl
theorem g_90 : (Jvm.Cond.methodLink "Raidline$Clubs" (3 : Nat) ({ cls := "java/lang/Object", name := "<init>", desc := "()V" } : Jvm.MethodName)) ∈ ev_G := ev_inT 90 (by decide +kernel) rfl
theorem g_91 : (Jvm.Cond.classLink "Raidline$Clubs" (9 : Nat) "Raidline$Row") ∈ ev_G := ev_inT 91 (by decide +kernel) rfl
theorem g_92 : (Jvm.Cond.methodLink "Raidline$Clubs" (11 : Nat) ({ cls := "Raidline$Row", name := "<init>", desc := "(I)V" } : Jvm.MethodName)) ∈ ev_G := ev_inT 92 (by decide +kernel) rfl
theorem g_93 : (Jvm.Cond.fieldLink "Raidline$Clubs" (14 : Nat) "Raidline$Clubs" "purses" "LRaidline$Row;") ∈ ev_G := ev_inT 93 (by decide +kernel) rfl
theorem g_95 : (Jvm.Cond.fieldLink "Raidline$Clubs" (20 : Nat) "Raidline$Clubs" "matched" "LRaidline$Row;") ∈ ev_G := ev_inT 95 (by decide +kernel) rfl
theorem g_97 : (Jvm.Cond.fieldLink "Raidline$Clubs" (23 : Nat) "Raidline$Clubs" "points" "LRaidline$Row;") ∈ ev_G := ev_inT 97 (by decide +kernel) rfl
theorem g_99 : (Jvm.Cond.fieldLink "Raidline$Clubs" (26 : Nat) "Raidline$Clubs" "differences" "LRaidline$Row;") ∈ ev_G := ev_inT 99 (by decide +kernel) rfl
theorem g_100 : (Jvm.Cond.fieldLink "Raidline$Clubs" (29 : Nat) "Raidline$Clubs" "count" "I") ∈ ev_G := ev_inT 100 (by decide +kernel) rfl
theorem g_113 : (Jvm.Cond.classLink "Raidline" (23 : Nat) "Raidline$Auction") ∈ ev_G := ev_inT 113 (by decide +kernel) rfl
theorem g_114 : (Jvm.Cond.instantiable "Raidline$Auction" (4 : Nat)) ∈ ev_G := ev_inT 114 (by decide +kernel) rfl
theorem g_116 : (Jvm.Cond.instanceMethod ({ cls := "Raidline$Auction", name := "<init>", desc := "()V" } : Jvm.MethodName)) ∈ ev_G := ev_inT 116 (by decide +kernel) rfl
theorem g_117 : (Jvm.Cond.code ({ cls := "Raidline$Auction", name := "<init>", desc := "()V" } : Jvm.MethodName) prog_2_method_1_code (1 : Nat) (Option.none : Option Jvm.ClassFile.FieldType)) ∈ ev_G := ev_inT 117 (by decide +kernel) rfl
theorem g_118 : (Jvm.Cond.methodLink "Raidline$Auction" (3 : Nat) ({ cls := "java/lang/Object", name := "<init>", desc := "()V" } : Jvm.MethodName)) ∈ ev_G := ev_inT 118 (by decide +kernel) rfl
theorem g_119 : (Jvm.Cond.fieldLink "Raidline$Auction" (9 : Nat) "Raidline$Auction" "player" "I") ∈ ev_G := ev_inT 119 (by decide +kernel) rfl
theorem g_121 : (Jvm.Cond.fieldLink "Raidline$Auction" (15 : Nat) "Raidline$Auction" "bidder" "I") ∈ ev_G := ev_inT 121 (by decide +kernel) rfl
theorem g_123 : (Jvm.Cond.fieldLink "Raidline$Auction" (18 : Nat) "Raidline$Auction" "price" "I") ∈ ev_G := ev_inT 123 (by decide +kernel) rfl
theorem g_125 : (Jvm.Cond.fieldLink "Raidline$Auction" (21 : Nat) "Raidline$Auction" "bids" "I") ∈ ev_G := ev_inT 125 (by decide +kernel) rfl
theorem g_136 : (Jvm.Cond.classLink "Raidline" (30 : Nat) "Raidline$Edition") ∈ ev_G := ev_inT 136 (by decide +kernel) rfl
theorem g_137 : (Jvm.Cond.instantiable "Raidline$Edition" (4 : Nat)) ∈ ev_G := ev_inT 137 (by decide +kernel) rfl
theorem g_139 : (Jvm.Cond.instanceMethod ({ cls := "Raidline$Edition", name := "<init>", desc := "()V" } : Jvm.MethodName)) ∈ ev_G := ev_inT 139 (by decide +kernel) rfl
theorem g_140 : (Jvm.Cond.code ({ cls := "Raidline$Edition", name := "<init>", desc := "()V" } : Jvm.MethodName) prog_4_method_1_code (1 : Nat) (Option.none : Option Jvm.ClassFile.FieldType)) ∈ ev_G := ev_inT 140 (by decide +kernel) rfl
theorem g_141 : (Jvm.Cond.methodLink "Raidline$Edition" (1 : Nat) ({ cls := "java/lang/Object", name := "<init>", desc := "()V" } : Jvm.MethodName)) ∈ ev_G := ev_inT 141 (by decide +kernel) rfl
theorem g_142 : (Jvm.Cond.fieldLink "Raidline$Edition" (7 : Nat) "Raidline$Edition" "standing" "I") ∈ ev_G := ev_inT 142 (by decide +kernel) rfl
theorem g_144 : (Jvm.Cond.fieldLink "Raidline$Edition" (13 : Nat) "Raidline$Edition" "bonusFrom" "I") ∈ ev_G := ev_inT 144 (by decide +kernel) rfl
theorem g_146 : (Jvm.Cond.fieldLink "Raidline$Edition" (16 : Nat) "Raidline$Edition" "isRevived" "Z") ∈ ev_G := ev_inT 146 (by decide +kernel) rfl
theorem g_148 : (Jvm.Cond.fieldLink "Raidline$Edition" (20 : Nat) "Raidline$Edition" "half" "I") ∈ ev_G := ev_inT 148 (by decide +kernel) rfl
theorem g_159 : (Jvm.Cond.classLink "Raidline" (37 : Nat) "Raidline$Match") ∈ ev_G := ev_inT 159 (by decide +kernel) rfl
theorem g_160 : (Jvm.Cond.instantiable "Raidline$Match" (9 : Nat)) ∈ ev_G := ev_inT 160 (by decide +kernel) rfl
theorem g_162 : (Jvm.Cond.instanceMethod ({ cls := "Raidline$Match", name := "<init>", desc := "()V" } : Jvm.MethodName)) ∈ ev_G := ev_inT 162 (by decide +kernel) rfl
theorem g_163 : (Jvm.Cond.code ({ cls := "Raidline$Match", name := "<init>", desc := "()V" } : Jvm.MethodName) prog_6_method_1_code (1 : Nat) (Option.none : Option Jvm.ClassFile.FieldType)) ∈ ev_G := ev_inT 163 (by decide +kernel) rfl
theorem g_164 : (Jvm.Cond.methodLink "Raidline$Match" (3 : Nat) ({ cls := "java/lang/Object", name := "<init>", desc := "()V" } : Jvm.MethodName)) ∈ ev_G := ev_inT 164 (by decide +kernel) rfl
theorem g_165 : (Jvm.Cond.classLink "Raidline$Match" (9 : Nat) "Raidline$Side") ∈ ev_G := ev_inT 165 (by decide +kernel) rfl
theorem g_166 : (Jvm.Cond.instantiable "Raidline$Side" (8 : Nat)) ∈ ev_G := ev_inT 166 (by decide +kernel) rfl
theorem g_168 : (Jvm.Cond.instanceMethod ({ cls := "Raidline$Side", name := "<init>", desc := "()V" } : Jvm.MethodName)) ∈ ev_G := ev_inT 168 (by decide +kernel) rfl
theorem g_169 : (Jvm.Cond.code ({ cls := "Raidline$Side", name := "<init>", desc := "()V" } : Jvm.MethodName) prog_10_method_1_code (1 : Nat) (Option.none : Option Jvm.ClassFile.FieldType)) ∈ ev_G := ev_inT 169 (by decide +kernel) rfl
theorem g_170 : (Jvm.Cond.methodLink "Raidline$Side" (3 : Nat) ({ cls := "java/lang/Object", name := "<init>", desc := "()V" } : Jvm.MethodName)) ∈ ev_G := ev_inT 170 (by decide +kernel) rfl
theorem g_171 : (Jvm.Cond.classLink "Raidline$Side" (9 : Nat) "Raidline$Line") ∈ ev_G := ev_inT 171 (by decide +kernel) rfl
theorem g_172 : (Jvm.Cond.instantiable "Raidline$Line" (2 : Nat)) ∈ ev_G := ev_inT 172 (by decide +kernel) rfl
theorem g_174 : (Jvm.Cond.instanceMethod ({ cls := "Raidline$Line", name := "<init>", desc := "()V" } : Jvm.MethodName)) ∈ ev_G := ev_inT 174 (by decide +kernel) rfl
theorem g_175 : (Jvm.Cond.code ({ cls := "Raidline$Line", name := "<init>", desc := "()V" } : Jvm.MethodName) prog_5_method_1_code (1 : Nat) (Option.none : Option Jvm.ClassFile.FieldType)) ∈ ev_G := ev_inT 175 (by decide +kernel) rfl
theorem g_176 : (Jvm.Cond.methodLink "Raidline$Line" (3 : Nat) ({ cls := "java/lang/Object", name := "<init>", desc := "()V" } : Jvm.MethodName)) ∈ ev_G := ev_inT 176 (by decide +kernel) rfl
theorem g_177 : (Jvm.Cond.fieldLink "Raidline$Line" (9 : Nat) "Raidline$Line" "members" "[I") ∈ ev_G := ev_inT 177 (by decide +kernel) rfl
theorem g_178 : (Jvm.Cond.fieldLink "Raidline$Line" (15 : Nat) "Raidline$Line" "count" "I") ∈ ev_G := ev_inT 178 (by decide +kernel) rfl
theorem g_186 : (Jvm.Cond.fieldLink "Raidline$Side" (12 : Nat) "Raidline$Side" "mat" "LRaidline$Line;") ∈ ev_G := ev_inT 186 (by decide +kernel) rfl
theorem g_188 : (Jvm.Cond.fieldLink "Raidline$Side" (18 : Nat) "Raidline$Side" "out" "LRaidline$Line;") ∈ ev_G := ev_inT 188 (by decide +kernel) rfl
theorem g_190 : (Jvm.Cond.fieldLink "Raidline$Side" (21 : Nat) "Raidline$Side" "bench" "LRaidline$Line;") ∈ ev_G := ev_inT 190 (by decide +kernel) rfl
theorem g_192 : (Jvm.Cond.fieldLink "Raidline$Side" (24 : Nat) "Raidline$Side" "squad" "I") ∈ ev_G := ev_inT 192 (by decide +kernel) rfl
theorem g_196 : (Jvm.Cond.fieldLink "Raidline$Side" (28 : Nat) "Raidline$Side" "points" "I") ∈ ev_G := ev_inT 196 (by decide +kernel) rfl
theorem g_200 : (Jvm.Cond.fieldLink "Raidline$Side" (31 : Nat) "Raidline$Side" "emptyRaids" "I") ∈ ev_G := ev_inT 200 (by decide +kernel) rfl
theorem g_202 : (Jvm.Cond.fieldLink "Raidline$Side" (34 : Nat) "Raidline$Side" "changes" "I") ∈ ev_G := ev_inT 202 (by decide +kernel) rfl
theorem g_204 : (Jvm.Cond.fieldLink "Raidline$Side" (37 : Nat) "Raidline$Side" "hasReview" "Z") ∈ ev_G := ev_inT 204 (by decide +kernel) rfl
theorem g_223 : (Jvm.Cond.classLink "Raidline$Match" (21 : Nat) "Raidline$Row") ∈ ev_G := ev_inT 223 (by decide +kernel) rfl
theorem g_224 : (Jvm.Cond.methodLink "Raidline$Match" (23 : Nat) ({ cls := "Raidline$Row", name := "<init>", desc := "(I)V" } : Jvm.MethodName)) ∈ ev_G := ev_inT 224 (by decide +kernel) rfl
theorem g_225 : (Jvm.Cond.fieldLink "Raidline$Match" (12 : Nat) "Raidline$Match" "first" "LRaidline$Side;") ∈ ev_G := ev_inT 225 (by decide +kernel) rfl
theorem g_227 : (Jvm.Cond.fieldLink "Raidline$Match" (18 : Nat) "Raidline$Match" "other" "LRaidline$Side;") ∈ ev_G := ev_inT 227 (by decide +kernel) rfl
theorem g_229 : (Jvm.Cond.fieldLink "Raidline$Match" (26 : Nat) "Raidline$Match" "greens" "LRaidline$Row;") ∈ ev_G := ev_inT 229 (by decide +kernel) rfl
theorem g_231 : (Jvm.Cond.fieldLink "Raidline$Match" (30 : Nat) "Raidline$Match" "sittings" "LRaidline$Row;") ∈ ev_G := ev_inT 231 (by decide +kernel) rfl
theorem g_233 : (Jvm.Cond.fieldLink "Raidline$Match" (36 : Nat) "Raidline$Match" "isOn" "Z") ∈ ev_G := ev_inT 233 (by decide +kernel) rfl
theorem g_235 : (Jvm.Cond.fieldLink "Raidline$Match" (40 : Nat) "Raidline$Match" "mustBeWon" "Z") ∈ ev_G := ev_inT 235 (by decide +kernel) rfl
theorem g_236 : (Jvm.Cond.fieldLink "Raidline$Match" (43 : Nat) "Raidline$Match" "half" "I") ∈ ev_G := ev_inT 236 (by decide +kernel) rfl
theorem g_237 : (Jvm.Cond.fieldLink "Raidline$Match" (47 : Nat) "Raidline$Match" "raidsOver" "I") ∈ ev_G := ev_inT 237 (by decide +kernel) rfl
theorem g_239 : (Jvm.Cond.fieldLink "Raidline$Match" (50 : Nat) "Raidline$Match" "begun" "I") ∈ ev_G := ev_inT 239 (by decide +kernel) rfl
theorem g_260 : (Jvm.Cond.classLink "Raidline" (44 : Nat) "Raidline$Raid") ∈ ev_G := ev_inT 260 (by decide +kernel) rfl
theorem g_261 : (Jvm.Cond.instantiable "Raidline$Raid" (11 : Nat)) ∈ ev_G := ev_inT 261 (by decide +kernel) rfl
theorem g_263 : (Jvm.Cond.instanceMethod ({ cls := "Raidline$Raid", name := "<init>", desc := "()V" } : Jvm.MethodName)) ∈ ev_G := ev_inT 263 (by decide +kernel) rfl
theorem g_264 : (Jvm.Cond.code ({ cls := "Raidline$Raid", name := "<init>", desc := "()V" } : Jvm.MethodName) prog_7_method_1_code (1 : Nat) (Option.none : Option Jvm.ClassFile.FieldType)) ∈ ev_G := ev_inT 264 (by decide +kernel) rfl
theorem g_265 : (Jvm.Cond.methodLink "Raidline$Raid" (3 : Nat) ({ cls := "java/lang/Object", name := "<init>", desc := "()V" } : Jvm.MethodName)) ∈ ev_G := ev_inT 265 (by decide +kernel) rfl
theorem g_266 : (Jvm.Cond.classLink "Raidline$Raid" (9 : Nat) "Raidline$Row") ∈ ev_G := ev_inT 266 (by decide +kernel) rfl
theorem g_267 : (Jvm.Cond.methodLink "Raidline$Raid" (11 : Nat) ({ cls := "Raidline$Row", name := "<init>", desc := "(I)V" } : Jvm.MethodName)) ∈ ev_G := ev_inT 267 (by decide +kernel) rfl
theorem g_268 : (Jvm.Cond.fieldLink "Raidline$Raid" (14 : Nat) "Raidline$Raid" "marks" "LRaidline$Row;") ∈ ev_G := ev_inT 268 (by decide +kernel) rfl
theorem g_269 : (Jvm.Cond.fieldLink "Raidline$Raid" (28 : Nat) "Raidline$Raid" "isOn" "Z") ∈ ev_G := ev_inT 269 (by decide +kernel) rfl
theorem g_271 : (Jvm.Cond.fieldLink "Raidline$Raid" (35 : Nat) "Raidline$Raid" "isDoOrDie" "Z") ∈ ev_G := ev_inT 271 (by decide +kernel) rfl
theorem g_273 : (Jvm.Cond.fieldLink "Raidline$Raid" (38 : Nat) "Raidline$Raid" "isReturned" "Z") ∈ ev_G := ev_inT 273 (by decide +kernel) rfl
theorem g_275 : (Jvm.Cond.fieldLink "Raidline$Raid" (41 : Nat) "Raidline$Raid" "isAllOut" "Z") ∈ ev_G := ev_inT 275 (by decide +kernel) rfl
theorem g_277 : (Jvm.Cond.fieldLink "Raidline$Raid" (20 : Nat) "Raidline$Raid" "raider" "I") ∈ ev_G := ev_inT 277 (by decide +kernel) rfl
theorem g_279 : (Jvm.Cond.fieldLink "Raidline$Raid" (44 : Nat) "Raidline$Raid" "stood" "I") ∈ ev_G := ev_inT 279 (by decide +kernel) rfl
theorem g_281 : (Jvm.Cond.fieldLink "Raidline$Raid" (47 : Nat) "Raidline$Raid" "seconds" "I") ∈ ev_G := ev_inT 281 (by decide +kernel) rfl
theorem g_282 : (Jvm.Cond.fieldLink "Raidline$Raid" (50 : Nat) "Raidline$Raid" "bonus" "I") ∈ ev_G := ev_inT 282 (by decide +kernel) rfl
theorem g_284 : (Jvm.Cond.fieldLink "Raidline$Raid" (53 : Nat) "Raidline$Raid" "steps" "I") ∈ ev_G := ev_inT 284 (by decide +kernel) rfl
theorem g_286 : (Jvm.Cond.fieldLink "Raidline$Raid" (56 : Nat) "Raidline$Raid" "touches" "I") ∈ ev_G := ev_inT 286 (by decide +kernel) rfl
theorem g_311 : (Jvm.Cond.classLink "Raidline" (51 : Nat) "Raidline$Statistics") ∈ ev_G := ev_inT 311 (by decide +kernel) rfl
theorem g_312 : (Jvm.Cond.instantiable "Raidline$Statistics" (7 : Nat)) ∈ ev_G := ev_inT 312 (by decide +kernel) rfl
theorem g_314 : (Jvm.Cond.instanceMethod ({ cls := "Raidline$Statistics", name := "<init>", desc := "()V" } : Jvm.MethodName)) ∈ ev_G := ev_inT 314 (by decide +kernel) rfl
theorem g_315 : (Jvm.Cond.code ({ cls := "Raidline$Statistics", name := "<init>", desc := "()V" } : Jvm.MethodName) prog_11_method_1_code (1 : Nat) (Option.none : Option Jvm.ClassFile.FieldType)) ∈ ev_G := ev_inT 315 (by decide +kernel) rfl
theorem g_316 : (Jvm.Cond.methodLink "Raidline$Statistics" (3 : Nat) ({ cls := "java/lang/Object", name := "<init>", desc := "()V" } : Jvm.MethodName)) ∈ ev_G := ev_inT 316 (by decide +kernel) rfl
theorem g_317 : (Jvm.Cond.classLink "Raidline$Statistics" (9 : Nat) "Raidline$Row") ∈ ev_G := ev_inT 317 (by decide +kernel) rfl
theorem g_318 : (Jvm.Cond.methodLink "Raidline$Statistics" (11 : Nat) ({ cls := "Raidline$Row", name := "<init>", desc := "(I)V" } : Jvm.MethodName)) ∈ ev_G := ev_inT 318 (by decide +kernel) rfl
theorem g_319 : (Jvm.Cond.fieldLink "Raidline$Statistics" (14 : Nat) "Raidline$Statistics" "raidPoints" "LRaidline$Row;") ∈ ev_G := ev_inT 319 (by decide +kernel) rfl
theorem g_321 : (Jvm.Cond.fieldLink "Raidline$Statistics" (20 : Nat) "Raidline$Statistics" "tacklePoints" "LRaidline$Row;") ∈ ev_G := ev_inT 321 (by decide +kernel) rfl
theorem g_323 : (Jvm.Cond.fieldLink "Raidline$Statistics" (23 : Nat) "Raidline$Statistics" "superRaids" "LRaidline$Row;") ∈ ev_G := ev_inT 323 (by decide +kernel) rfl
theorem g_325 : (Jvm.Cond.fieldLink "Raidline$Statistics" (26 : Nat) "Raidline$Statistics" "raidsOf" "LRaidline$Row;") ∈ ev_G := ev_inT 325 (by decide +kernel) rfl
theorem g_327 : (Jvm.Cond.fieldLink "Raidline$Statistics" (33 : Nat) "Raidline$Statistics" "raids" "I") ∈ ev_G := ev_inT 327 (by decide +kernel) rfl
theorem g_329 : (Jvm.Cond.fieldLink "Raidline$Statistics" (40 : Nat) "Raidline$Statistics" "emptyRaids" "I") ∈ ev_G := ev_inT 329 (by decide +kernel) rfl
theorem g_331 : (Jvm.Cond.fieldLink "Raidline$Statistics" (37 : Nat) "Raidline$Statistics" "points" "I") ∈ ev_G := ev_inT 331 (by decide +kernel) rfl
theorem g_348 : (Jvm.Cond.classLink "Raidline" (58 : Nat) "Raidline$Values") ∈ ev_G := ev_inT 348 (by decide +kernel) rfl
theorem g_349 : (Jvm.Cond.instantiable "Raidline$Values" (8 : Nat)) ∈ ev_G := ev_inT 349 (by decide +kernel) rfl
theorem g_351 : (Jvm.Cond.instanceMethod ({ cls := "Raidline$Values", name := "<init>", desc := "()V" } : Jvm.MethodName)) ∈ ev_G := ev_inT 351 (by decide +kernel) rfl
theorem g_352 : (Jvm.Cond.code ({ cls := "Raidline$Values", name := "<init>", desc := "()V" } : Jvm.MethodName) prog_12_method_1_code (1 : Nat) (Option.none : Option Jvm.ClassFile.FieldType)) ∈ ev_G := ev_inT 352 (by decide +kernel) rfl
theorem g_353 : (Jvm.Cond.methodLink "Raidline$Values" (3 : Nat) ({ cls := "java/lang/Object", name := "<init>", desc := "()V" } : Jvm.MethodName)) ∈ ev_G := ev_inT 353 (by decide +kernel) rfl
theorem g_354 : (Jvm.Cond.fieldLink "Raidline$Values" (11 : Nat) "Raidline$Values" "now" "[D") ∈ ev_G := ev_inT 354 (by decide +kernel) rfl
theorem g_355 : (Jvm.Cond.fieldLink "Raidline$Values" (15 : Nat) "Raidline$Values" "later" "[D") ∈ ev_G := ev_inT 355 (by decide +kernel) rfl
theorem g_356 : (Jvm.Cond.fieldLink "Raidline$Values" (18 : Nat) "Raidline$Values" "raiders" "I") ∈ ev_G := ev_inT 356 (by decide +kernel) rfl
theorem g_357 : (Jvm.Cond.fieldLink "Raidline$Values" (22 : Nat) "Raidline$Values" "defenders" "I") ∈ ev_G := ev_inT 357 (by decide +kernel) rfl
theorem g_358 : (Jvm.Cond.fieldLink "Raidline$Values" (31 : Nat) "Raidline$Values" "empty" "I") ∈ ev_G := ev_inT 358 (by decide +kernel) rfl
theorem g_359 : (Jvm.Cond.fieldLink "Raidline$Values" (34 : Nat) "Raidline$Values" "otherEmpty" "I") ∈ ev_G := ev_inT 359 (by decide +kernel) rfl
theorem g_360 : (Jvm.Cond.fieldLink "Raidline$Values" (25 : Nat) "Raidline$Values" "touch" "I") ∈ ev_G := ev_inT 360 (by decide +kernel) rfl
theorem g_361 : (Jvm.Cond.fieldLink "Raidline$Values" (28 : Nat) "Raidline$Values" "caught" "I") ∈ ev_G := ev_inT 361 (by decide +kernel) rfl
theorem g_379 : (Jvm.Cond.arrayClass Jvm.ClassFile.FieldType.double) ∈ ev_G := ev_inT 379 (by decide +kernel) rfl
theorem g_380 : (Jvm.Cond.fieldLink "Raidline" (10 : Nat) "Raidline" "roster" "LRaidline$Roster;") ∈ ev_G := ev_inT 380 (by decide +kernel) rfl
theorem g_381 : (Jvm.Cond.fieldLink "Raidline" (19 : Nat) "Raidline" "clubs" "LRaidline$Clubs;") ∈ ev_G := ev_inT 381 (by decide +kernel) rfl
theorem g_382 : (Jvm.Cond.fieldLink "Raidline" (26 : Nat) "Raidline" "auction" "LRaidline$Auction;") ∈ ev_G := ev_inT 382 (by decide +kernel) rfl
theorem g_383 : (Jvm.Cond.fieldLink "Raidline" (33 : Nat) "Raidline" "rules" "LRaidline$Edition;") ∈ ev_G := ev_inT 383 (by decide +kernel) rfl
theorem g_384 : (Jvm.Cond.fieldLink "Raidline" (40 : Nat) "Raidline" "match" "LRaidline$Match;") ∈ ev_G := ev_inT 384 (by decide +kernel) rfl
theorem g_385 : (Jvm.Cond.fieldLink "Raidline" (47 : Nat) "Raidline" "raid" "LRaidline$Raid;") ∈ ev_G := ev_inT 385 (by decide +kernel) rfl
theorem g_386 : (Jvm.Cond.fieldLink "Raidline" (54 : Nat) "Raidline" "statistics" "LRaidline$Statistics;") ∈ ev_G := ev_inT 386 (by decide +kernel) rfl
theorem g_387 : (Jvm.Cond.fieldLink "Raidline" (61 : Nat) "Raidline" "values" "LRaidline$Values;") ∈ ev_G := ev_inT 387 (by decide +kernel) rfl
theorem g_417 : (Jvm.Cond.constantLong "Raidline" (493 : Nat) (7 : Int64)) ∈ ev_G := ev_inT 417 (by decide +kernel) rfl
theorem g_423 : (Jvm.Cond.methodLink "Raidline$Side" (71 : Nat) ({ cls := "Raidline$Line", name := "at", desc := "(I)I" } : Jvm.MethodName)) ∈ ev_G := ev_inT 423 (by decide +kernel) rfl
theorem g_424 : (Jvm.Cond.instanceMethod ({ cls := "Raidline$Line", name := "at", desc := "(I)I" } : Jvm.MethodName)) ∈ ev_G := ev_inT 424 (by decide +kernel) rfl
theorem g_425 : (Jvm.Cond.selects "Raidline$Line" ({ cls := "Raidline$Line", name := "at", desc := "(I)I" } : Jvm.MethodName) ({ cls := "Raidline$Line", name := "at", desc := "(I)I" } : Jvm.MethodName)) ∈ ev_G := ev_inT 425 (by decide +kernel) rfl
theorem g_426 : (Jvm.Cond.code ({ cls := "Raidline$Line", name := "at", desc := "(I)I" } : Jvm.MethodName) prog_5_method_2_code (2 : Nat) (Option.some Jvm.ClassFile.FieldType.int)) ∈ ev_G := ev_inT 426 (by decide +kernel) rfl
theorem g_432 : (Jvm.Cond.methodLink "Raidline" (499 : Nat) ({ cls := "Raidline", name := "isEachInOnePlace", desc := "()Z" } : Jvm.MethodName)) ∈ ev_G := ev_inT 432 (by decide +kernel) rfl
theorem g_434 : (Jvm.Cond.instanceMethod ({ cls := "Raidline", name := "isEachInOnePlace", desc := "()Z" } : Jvm.MethodName)) ∈ ev_G := ev_inT 434 (by decide +kernel) rfl
theorem g_435 : (Jvm.Cond.code ({ cls := "Raidline", name := "isEachInOnePlace", desc := "()Z" } : Jvm.MethodName) prog_1_method_63_code (5 : Nat) (Option.some Jvm.ClassFile.FieldType.boolean)) ∈ ev_G := ev_inT 435 (by decide +kernel) rfl
theorem g_436 : (Jvm.Cond.methodLink "Raidline" (102 : Nat) ({ cls := "Raidline$Row", name := "get", desc := "(I)I" } : Jvm.MethodName)) ∈ ev_G := ev_inT 436 (by decide +kernel) rfl
theorem g_437 : (Jvm.Cond.instanceMethod ({ cls := "Raidline$Row", name := "get", desc := "(I)I" } : Jvm.MethodName)) ∈ ev_G := ev_inT 437 (by decide +kernel) rfl
theorem g_438 : (Jvm.Cond.selects "Raidline$Row" ({ cls := "Raidline$Row", name := "get", desc := "(I)I" } : Jvm.MethodName) ({ cls := "Raidline$Row", name := "get", desc := "(I)I" } : Jvm.MethodName)) ∈ ev_G := ev_inT 438 (by decide +kernel) rfl
theorem g_439 : (Jvm.Cond.code ({ cls := "Raidline$Row", name := "get", desc := "(I)I" } : Jvm.MethodName) prog_9_method_2_code (2 : Nat) (Option.some Jvm.ClassFile.FieldType.int)) ∈ ev_G := ev_inT 439 (by decide +kernel) rfl
theorem g_440 : (Jvm.Cond.methodLink "Raidline" (514 : Nat) ({ cls := "Raidline$Side", name := "placesOf", desc := "(I)I" } : Jvm.MethodName)) ∈ ev_G := ev_inT 440 (by decide +kernel) rfl
theorem g_441 : (Jvm.Cond.instanceMethod ({ cls := "Raidline$Side", name := "placesOf", desc := "(I)I" } : Jvm.MethodName)) ∈ ev_G := ev_inT 441 (by decide +kernel) rfl
theorem g_442 : (Jvm.Cond.selects "Raidline$Side" ({ cls := "Raidline$Side", name := "placesOf", desc := "(I)I" } : Jvm.MethodName) ({ cls := "Raidline$Side", name := "placesOf", desc := "(I)I" } : Jvm.MethodName)) ∈ ev_G := ev_inT 442 (by decide +kernel) rfl
theorem g_443 : (Jvm.Cond.code ({ cls := "Raidline$Side", name := "placesOf", desc := "(I)I" } : Jvm.MethodName) prog_10_method_9_code (3 : Nat) (Option.some Jvm.ClassFile.FieldType.int)) ∈ ev_G := ev_inT 443 (by decide +kernel) rfl
theorem g_444 : (Jvm.Cond.methodLink "Raidline$Side" (77 : Nat) ({ cls := "Raidline$Line", name := "has", desc := "(I)Z" } : Jvm.MethodName)) ∈ ev_G := ev_inT 444 (by decide +kernel) rfl
theorem g_445 : (Jvm.Cond.instanceMethod ({ cls := "Raidline$Line", name := "has", desc := "(I)Z" } : Jvm.MethodName)) ∈ ev_G := ev_inT 445 (by decide +kernel) rfl
theorem g_446 : (Jvm.Cond.selects "Raidline$Line" ({ cls := "Raidline$Line", name := "has", desc := "(I)Z" } : Jvm.MethodName) ({ cls := "Raidline$Line", name := "has", desc := "(I)Z" } : Jvm.MethodName)) ∈ ev_G := ev_inT 446 (by decide +kernel) rfl
theorem g_447 : (Jvm.Cond.code ({ cls := "Raidline$Line", name := "has", desc := "(I)Z" } : Jvm.MethodName) prog_5_method_3_code (3 : Nat) (Option.some Jvm.ClassFile.FieldType.boolean)) ∈ ev_G := ev_inT 447 (by decide +kernel) rfl
theorem g_448 : (Jvm.Cond.methodLink "Raidline$Line" (19 : Nat) ({ cls := "Raidline$Line", name := "at", desc := "(I)I" } : Jvm.MethodName)) ∈ ev_G := ev_inT 448 (by decide +kernel) rfl
theorem g_449 : (Jvm.Cond.methodLink "Raidline" (502 : Nat) ({ cls := "Raidline", name := "isEachInOneSquad", desc := "()Z" } : Jvm.MethodName)) ∈ ev_G := ev_inT 449 (by decide +kernel) rfl
theorem g_451 : (Jvm.Cond.instanceMethod ({ cls := "Raidline", name := "isEachInOneSquad", desc := "()Z" } : Jvm.MethodName)) ∈ ev_G := ev_inT 451 (by decide +kernel) rfl
theorem g_452 : (Jvm.Cond.code ({ cls := "Raidline", name := "isEachInOneSquad", desc := "()Z" } : Jvm.MethodName) prog_1_method_64_code (3 : Nat) (Option.some Jvm.ClassFile.FieldType.boolean)) ∈ ev_G := ev_inT 452 (by decide +kernel) rfl
theorem g_453 : (Jvm.Cond.methodLink "Raidline" (176 : Nat) ({ cls := "Raidline$Roster", name := "sizeOf", desc := "(I)I" } : Jvm.MethodName)) ∈ ev_G := ev_inT 453 (by decide +kernel) rfl
theorem g_454 : (Jvm.Cond.instanceMethod ({ cls := "Raidline$Roster", name := "sizeOf", desc := "(I)I" } : Jvm.MethodName)) ∈ ev_G := ev_inT 454 (by decide +kernel) rfl
theorem g_455 : (Jvm.Cond.selects "Raidline$Roster" ({ cls := "Raidline$Roster", name := "sizeOf", desc := "(I)I" } : Jvm.MethodName) ({ cls := "Raidline$Roster", name := "sizeOf", desc := "(I)I" } : Jvm.MethodName)) ∈ ev_G := ev_inT 455 (by decide +kernel) rfl
theorem g_456 : (Jvm.Cond.code ({ cls := "Raidline$Roster", name := "sizeOf", desc := "(I)I" } : Jvm.MethodName) prog_8_method_3_code (4 : Nat) (Option.some Jvm.ClassFile.FieldType.int)) ∈ ev_G := ev_inT 456 (by decide +kernel) rfl
theorem g_457 : (Jvm.Cond.methodLink "Raidline$Roster" (46 : Nat) ({ cls := "Raidline$Row", name := "get", desc := "(I)I" } : Jvm.MethodName)) ∈ ev_G := ev_inT 457 (by decide +kernel) rfl
theorem g_458 : (Jvm.Cond.methodLink "Raidline" (505 : Nat) ({ cls := "Raidline", name := "arePursesRight", desc := "()Z" } : Jvm.MethodName)) ∈ ev_G := ev_inT 458 (by decide +kernel) rfl
theorem g_460 : (Jvm.Cond.instanceMethod ({ cls := "Raidline", name := "arePursesRight", desc := "()Z" } : Jvm.MethodName)) ∈ ev_G := ev_inT 460 (by decide +kernel) rfl
theorem g_461 : (Jvm.Cond.code ({ cls := "Raidline", name := "arePursesRight", desc := "()Z" } : Jvm.MethodName) prog_1_method_65_code (3 : Nat) (Option.some Jvm.ClassFile.FieldType.boolean)) ∈ ev_G := ev_inT 461 (by decide +kernel) rfl
theorem g_462 : (Jvm.Cond.methodLink "Raidline" (517 : Nat) ({ cls := "Raidline$Roster", name := "paidBy", desc := "(I)I" } : Jvm.MethodName)) ∈ ev_G := ev_inT 462 (by decide +kernel) rfl
theorem g_463 : (Jvm.Cond.instanceMethod ({ cls := "Raidline$Roster", name := "paidBy", desc := "(I)I" } : Jvm.MethodName)) ∈ ev_G := ev_inT 463 (by decide +kernel) rfl
theorem g_464 : (Jvm.Cond.selects "Raidline$Roster" ({ cls := "Raidline$Roster", name := "paidBy", desc := "(I)I" } : Jvm.MethodName) ({ cls := "Raidline$Roster", name := "paidBy", desc := "(I)I" } : Jvm.MethodName)) ∈ ev_G := ev_inT 464 (by decide +kernel) rfl
theorem g_465 : (Jvm.Cond.code ({ cls := "Raidline$Roster", name := "paidBy", desc := "(I)I" } : Jvm.MethodName) prog_8_method_4_code (4 : Nat) (Option.some Jvm.ClassFile.FieldType.int)) ∈ ev_G := ev_inT 465 (by decide +kernel) rfl
theorem g_470 : (Jvm.Cond.methodLink "Raidline$Values" (52 : Nat) ({ cls := "Raidline$Values", name := "lookAhead", desc := "(IIIII)D" } : Jvm.MethodName)) ∈ ev_G := ev_inT 470 (by decide +kernel) rfl
theorem g_472 : (Jvm.Cond.instanceMethod ({ cls := "Raidline$Values", name := "lookAhead", desc := "(IIIII)D" } : Jvm.MethodName)) ∈ ev_G := ev_inT 472 (by decide +kernel) rfl
theorem g_473 : (Jvm.Cond.code ({ cls := "Raidline$Values", name := "lookAhead", desc := "(IIIII)D" } : Jvm.MethodName) prog_12_method_8_code (13 : Nat) (Option.some Jvm.ClassFile.FieldType.double)) ∈ ev_G := ev_inT 473 (by decide +kernel) rfl
theorem g_474 : (Jvm.Cond.methodLink "Raidline$Values" (80 : Nat) ({ cls := "Raidline$Values", name := "touchGain", desc := "(I)I" } : Jvm.MethodName)) ∈ ev_G := ev_inT 474 (by decide +kernel) rfl
theorem g_475 : (Jvm.Cond.static ({ cls := "Raidline$Values", name := "touchGain", desc := "(I)I" } : Jvm.MethodName)) ∈ ev_G := ev_inT 475 (by decide +kernel) rfl
theorem g_476 : (Jvm.Cond.code ({ cls := "Raidline$Values", name := "touchGain", desc := "(I)I" } : Jvm.MethodName) prog_12_method_11_code (1 : Nat) (Option.some Jvm.ClassFile.FieldType.int)) ∈ ev_G := ev_inT 476 (by decide +kernel) rfl
theorem g_477 : (Jvm.Cond.methodLink "Raidline$Values" (64 : Nat) ({ cls := "Raidline$Values", name := "defendersBehindTouch", desc := "(I)I" } : Jvm.MethodName)) ∈ ev_G := ev_inT 477 (by decide +kernel) rfl
theorem g_478 : (Jvm.Cond.static ({ cls := "Raidline$Values", name := "defendersBehindTouch", desc := "(I)I" } : Jvm.MethodName)) ∈ ev_G := ev_inT 478 (by decide +kernel) rfl
theorem g_479 : (Jvm.Cond.code ({ cls := "Raidline$Values", name := "defendersBehindTouch", desc := "(I)I" } : Jvm.MethodName) prog_12_method_15_code (1 : Nat) (Option.some Jvm.ClassFile.FieldType.int)) ∈ ev_G := ev_inT 479 (by decide +kernel) rfl
theorem g_480 : (Jvm.Cond.methodLink "Raidline$Values" (68 : Nat) ({ cls := "Raidline$Values", name := "raidersBehindTouch", desc := "(I)I" } : Jvm.MethodName)) ∈ ev_G := ev_inT 480 (by decide +kernel) rfl
theorem g_481 : (Jvm.Cond.static ({ cls := "Raidline$Values", name := "raidersBehindTouch", desc := "(I)I" } : Jvm.MethodName)) ∈ ev_G := ev_inT 481 (by decide +kernel) rfl
theorem g_482 : (Jvm.Cond.code ({ cls := "Raidline$Values", name := "raidersBehindTouch", desc := "(I)I" } : Jvm.MethodName) prog_12_method_14_code (1 : Nat) (Option.some Jvm.ClassFile.FieldType.int)) ∈ ev_G := ev_inT 482 (by decide +kernel) rfl
theorem g_483 : (Jvm.Cond.methodLink "Raidline$Values" (71 : Nat) ({ cls := "Raidline$Values", name := "defendersBehindOut", desc := "(I)I" } : Jvm.MethodName)) ∈ ev_G := ev_inT 483 (by decide +kernel) rfl
theorem g_484 : (Jvm.Cond.static ({ cls := "Raidline$Values", name := "defendersBehindOut", desc := "(I)I" } : Jvm.MethodName)) ∈ ev_G := ev_inT 484 (by decide +kernel) rfl
theorem g_485 : (Jvm.Cond.code ({ cls := "Raidline$Values", name := "defendersBehindOut", desc := "(I)I" } : Jvm.MethodName) prog_12_method_17_code (1 : Nat) (Option.some Jvm.ClassFile.FieldType.int)) ∈ ev_G := ev_inT 485 (by decide +kernel) rfl
theorem g_486 : (Jvm.Cond.methodLink "Raidline$Values" (74 : Nat) ({ cls := "Raidline$Values", name := "raidersBehindOut", desc := "(I)I" } : Jvm.MethodName)) ∈ ev_G := ev_inT 486 (by decide +kernel) rfl
theorem g_487 : (Jvm.Cond.static ({ cls := "Raidline$Values", name := "raidersBehindOut", desc := "(I)I" } : Jvm.MethodName)) ∈ ev_G := ev_inT 487 (by decide +kernel) rfl
theorem g_488 : (Jvm.Cond.code ({ cls := "Raidline$Values", name := "raidersBehindOut", desc := "(I)I" } : Jvm.MethodName) prog_12_method_16_code (1 : Nat) (Option.some Jvm.ClassFile.FieldType.int)) ∈ ev_G := ev_inT 488 (by decide +kernel) rfl
theorem g_489 : (Jvm.Cond.methodLink "Raidline$Values" (86 : Nat) ({ cls := "Raidline$Values", name := "doOrDieLoss", desc := "(I)I" } : Jvm.MethodName)) ∈ ev_G := ev_inT 489 (by decide +kernel) rfl
theorem g_490 : (Jvm.Cond.static ({ cls := "Raidline$Values", name := "doOrDieLoss", desc := "(I)I" } : Jvm.MethodName)) ∈ ev_G := ev_inT 490 (by decide +kernel) rfl
theorem g_491 : (Jvm.Cond.code ({ cls := "Raidline$Values", name := "doOrDieLoss", desc := "(I)I" } : Jvm.MethodName) prog_12_method_13_code (1 : Nat) (Option.some Jvm.ClassFile.FieldType.int)) ∈ ev_G := ev_inT 491 (by decide +kernel) rfl
theorem g_492 : (Jvm.Cond.methodLink "Raidline$Values" (77 : Nat) ({ cls := "Raidline$Values", name := "chance", desc := "(I)D" } : Jvm.MethodName)) ∈ ev_G := ev_inT 492 (by decide +kernel) rfl
theorem g_493 : (Jvm.Cond.static ({ cls := "Raidline$Values", name := "chance", desc := "(I)D" } : Jvm.MethodName)) ∈ ev_G := ev_inT 493 (by decide +kernel) rfl
theorem g_494 : (Jvm.Cond.code ({ cls := "Raidline$Values", name := "chance", desc := "(I)D" } : Jvm.MethodName) prog_12_method_10_code (1 : Nat) (Option.some Jvm.ClassFile.FieldType.double)) ∈ ev_G := ev_inT 494 (by decide +kernel) rfl
theorem g_495 : (Jvm.Cond.constantDouble "Raidline$Values" (89 : Nat) (4636737291354636288 : UInt64)) ∈ ev_G := ev_inT 495 (by decide +kernel) rfl
theorem g_496 : (Jvm.Cond.methodLink "Raidline$Values" (83 : Nat) ({ cls := "Raidline$Values", name := "caughtLoss", desc := "(II)I" } : Jvm.MethodName)) ∈ ev_G := ev_inT 496 (by decide +kernel) rfl
theorem g_497 : (Jvm.Cond.static ({ cls := "Raidline$Values", name := "caughtLoss", desc := "(II)I" } : Jvm.MethodName)) ∈ ev_G := ev_inT 497 (by decide +kernel) rfl
theorem g_498 : (Jvm.Cond.code ({ cls := "Raidline$Values", name := "caughtLoss", desc := "(II)I" } : Jvm.MethodName) prog_12_method_12_code (3 : Nat) (Option.some Jvm.ClassFile.FieldType.int)) ∈ ev_G := ev_inT 498 (by decide +kernel) rfl
theorem g_499 : (Jvm.Cond.methodLink "Raidline$Values" (56 : Nat) ({ cls := "Raidline$Values", name := "solveBackward", desc := "(I)D" } : Jvm.MethodName)) ∈ ev_G := ev_inT 499 (by decide +kernel) rfl
theorem g_500 : (Jvm.Cond.instanceMethod ({ cls := "Raidline$Values", name := "solveBackward", desc := "(I)D" } : Jvm.MethodName)) ∈ ev_G := ev_inT 500 (by decide +kernel) rfl
theorem g_501 : (Jvm.Cond.selects "Raidline$Values" ({ cls := "Raidline$Values", name := "solveBackward", desc := "(I)D" } : Jvm.MethodName) ({ cls := "Raidline$Values", name := "solveBackward", desc := "(I)D" } : Jvm.MethodName)) ∈ ev_G := ev_inT 501 (by decide +kernel) rfl
theorem g_502 : (Jvm.Cond.code ({ cls := "Raidline$Values", name := "solveBackward", desc := "(I)D" } : Jvm.MethodName) prog_12_method_4_code (4 : Nat) (Option.some Jvm.ClassFile.FieldType.double)) ∈ ev_G := ev_inT 502 (by decide +kernel) rfl
theorem g_503 : (Jvm.Cond.methodLink "Raidline$Values" (37 : Nat) ({ cls := "Raidline$Values", name := "keep", desc := "(ID)V" } : Jvm.MethodName)) ∈ ev_G := ev_inT 503 (by decide +kernel) rfl
theorem g_505 : (Jvm.Cond.instanceMethod ({ cls := "Raidline$Values", name := "keep", desc := "(ID)V" } : Jvm.MethodName)) ∈ ev_G := ev_inT 505 (by decide +kernel) rfl
theorem g_506 : (Jvm.Cond.code ({ cls := "Raidline$Values", name := "keep", desc := "(ID)V" } : Jvm.MethodName) prog_12_method_18_code (4 : Nat) (Option.none : Option Jvm.ClassFile.FieldType)) ∈ ev_G := ev_inT 506 (by decide +kernel) rfl
theorem g_507 : (Jvm.Cond.methodLink "Raidline$Values" (41 : Nat) ({ cls := "Raidline$Values", name := "solveOneMore", desc := "()V" } : Jvm.MethodName)) ∈ ev_G := ev_inT 507 (by decide +kernel) rfl
theorem g_509 : (Jvm.Cond.instanceMethod ({ cls := "Raidline$Values", name := "solveOneMore", desc := "()V" } : Jvm.MethodName)) ∈ ev_G := ev_inT 509 (by decide +kernel) rfl
theorem g_510 : (Jvm.Cond.code ({ cls := "Raidline$Values", name := "solveOneMore", desc := "()V" } : Jvm.MethodName) prog_12_method_6_code (3 : Nat) (Option.none : Option Jvm.ClassFile.FieldType)) ∈ ev_G := ev_inT 510 (by decide +kernel) rfl
theorem g_511 : (Jvm.Cond.methodLink "Raidline$Values" (60 : Nat) ({ cls := "Raidline$Values", name := "solvePair", desc := "(II)V" } : Jvm.MethodName)) ∈ ev_G := ev_inT 511 (by decide +kernel) rfl
theorem g_513 : (Jvm.Cond.instanceMethod ({ cls := "Raidline$Values", name := "solvePair", desc := "(II)V" } : Jvm.MethodName)) ∈ ev_G := ev_inT 513 (by decide +kernel) rfl
theorem g_514 : (Jvm.Cond.code ({ cls := "Raidline$Values", name := "solvePair", desc := "(II)V" } : Jvm.MethodName) prog_12_method_7_code (13 : Nat) (Option.none : Option Jvm.ClassFile.FieldType)) ∈ ev_G := ev_inT 514 (by decide +kernel) rfl
theorem g_515 : (Jvm.Cond.methodLink "Raidline$Values" (44 : Nat) ({ cls := "Raidline$Values", name := "pair", desc := "(II)I" } : Jvm.MethodName)) ∈ ev_G := ev_inT 515 (by decide +kernel) rfl
theorem g_516 : (Jvm.Cond.static ({ cls := "Raidline$Values", name := "pair", desc := "(II)I" } : Jvm.MethodName)) ∈ ev_G := ev_inT 516 (by decide +kernel) rfl
theorem g_517 : (Jvm.Cond.code ({ cls := "Raidline$Values", name := "pair", desc := "(II)I" } : Jvm.MethodName) prog_12_method_9_code (2 : Nat) (Option.some Jvm.ClassFile.FieldType.int)) ∈ ev_G := ev_inT 517 (by decide +kernel) rfl
theorem g_518 : (Jvm.Cond.methodLink "Raidline$Values" (48 : Nat) ({ cls := "Raidline$Values", name := "read", desc := "([DI)D" } : Jvm.MethodName)) ∈ ev_G := ev_inT 518 (by decide +kernel) rfl
theorem g_519 : (Jvm.Cond.static ({ cls := "Raidline$Values", name := "read", desc := "([DI)D" } : Jvm.MethodName)) ∈ ev_G := ev_inT 519 (by decide +kernel) rfl
theorem g_520 : (Jvm.Cond.code ({ cls := "Raidline$Values", name := "read", desc := "([DI)D" } : Jvm.MethodName) prog_12_method_19_code (2 : Nat) (Option.some Jvm.ClassFile.FieldType.double)) ∈ ev_G := ev_inT 520 (by decide +kernel) rfl
theorem g_521 : (Jvm.Cond.methodLink "RaidlineLaw" (158 : Nat) ({ cls := "RaidlineLaw", name := "ask", desc := "(LRaidline;C[I)I" } : Jvm.MethodName)) ∈ ev_G := ev_inT 521 (by decide +kernel) rfl
theorem g_522 : (Jvm.Cond.static ({ cls := "RaidlineLaw", name := "ask", desc := "(LRaidline;C[I)I" } : Jvm.MethodName)) ∈ ev_G := ev_inT 522 (by decide +kernel) rfl
theorem g_523 : (Jvm.Cond.codeWith ({ cls := "RaidlineLaw", name := "ask", desc := "(LRaidline;C[I)I" } : Jvm.MethodName) method_4_code (4 : Nat) (Option.some Jvm.ClassFile.FieldType.int) [((0 : Nat), (241 : Nat), (552 : Nat), (110 : Nat)), ((242 : Nat), (246 : Nat), (552 : Nat), (110 : Nat)), ((247 : Nat), (254 : Nat), (552 : Nat), (110 : Nat)), ((255 : Nat), (265 : Nat), (552 : Nat), (110 : Nat)), ((266 : Nat), (273 : Nat), (552 : Nat), (110 : Nat)), ((274 : Nat), (278 : Nat), (552 : Nat), (110 : Nat)), ((279 : Nat), (286 : Nat), (552 : Nat), (110 : Nat)), ((287 : Nat), (294 : Nat), (552 : Nat), (110 : Nat)), ((295 : Nat), (299 : Nat), (552 : Nat), (110 : Nat)), ((300 : Nat), (325 : Nat), (552 : Nat), (110 : Nat)), ((326 : Nat), (348 : Nat), (552 : Nat), (110 : Nat)), ((349 : Nat), (353 : Nat), (552 : Nat), (110 : Nat)), ((354 : Nat), (361 : Nat), (552 : Nat), (110 : Nat)), ((362 : Nat), (369 : Nat), (552 : Nat), (110 : Nat)), ((370 : Nat), (380 : Nat), (552 : Nat), (110 : Nat)), ((381 : Nat), (391 : Nat), (552 : Nat), (110 : Nat)), ((392 : Nat), (402 : Nat), (552 : Nat), (110 : Nat)), ((403 : Nat), (418 : Nat), (552 : Nat), (110 : Nat)), ((419 : Nat), (450 : Nat), (552 : Nat), (110 : Nat)), ((451 : Nat), (455 : Nat), (552 : Nat), (110 : Nat)), ((456 : Nat), (463 : Nat), (552 : Nat), (110 : Nat)), ((464 : Nat), (471 : Nat), (552 : Nat), (110 : Nat)), ((472 : Nat), (476 : Nat), (552 : Nat), (110 : Nat)), ((477 : Nat), (488 : Nat), (552 : Nat), (110 : Nat)), ((489 : Nat), (499 : Nat), (552 : Nat), (110 : Nat)), ((500 : Nat), (518 : Nat), (552 : Nat), (110 : Nat)), ((519 : Nat), (530 : Nat), (552 : Nat), (110 : Nat)), ((531 : Nat), (538 : Nat), (552 : Nat), (110 : Nat)), ((539 : Nat), (546 : Nat), (552 : Nat), (110 : Nat)), ((547 : Nat), (551 : Nat), (552 : Nat), (110 : Nat)), ((0 : Nat), (241 : Nat), (556 : Nat), (115 : Nat)), ((242 : Nat), (246 : Nat), (556 : Nat), (115 : Nat)), ((247 : Nat), (254 : Nat), (556 : Nat), (115 : Nat)), ((255 : Nat), (265 : Nat), (556 : Nat), (115 : Nat)), ((266 : Nat), (273 : Nat), (556 : Nat), (115 : Nat)), ((274 : Nat), (278 : Nat), (556 : Nat), (115 : Nat)), ((279 : Nat), (286 : Nat), (556 : Nat), (115 : Nat)), ((287 : Nat), (294 : Nat), (556 : Nat), (115 : Nat)), ((295 : Nat), (299 : Nat), (556 : Nat), (115 : Nat)), ((300 : Nat), (325 : Nat), (556 : Nat), (115 : Nat)), ((326 : Nat), (348 : Nat), (556 : Nat), (115 : Nat)), ((349 : Nat), (353 : Nat), (556 : Nat), (115 : Nat)), ((354 : Nat), (361 : Nat), (556 : Nat), (115 : Nat)), ((362 : Nat), (369 : Nat), (556 : Nat), (115 : Nat)), ((370 : Nat), (380 : Nat), (556 : Nat), (115 : Nat)), ((381 : Nat), (391 : Nat), (556 : Nat), (115 : Nat)), ((392 : Nat), (402 : Nat), (556 : Nat), (115 : Nat)), ((403 : Nat), (418 : Nat), (556 : Nat), (115 : Nat)), ((419 : Nat), (450 : Nat), (556 : Nat), (115 : Nat)), ((451 : Nat), (455 : Nat), (556 : Nat), (115 : Nat)), ((456 : Nat), (463 : Nat), (556 : Nat), (115 : Nat)), ((464 : Nat), (471 : Nat), (556 : Nat), (115 : Nat)), ((472 : Nat), (476 : Nat), (556 : Nat), (115 : Nat)), ((477 : Nat), (488 : Nat), (556 : Nat), (115 : Nat)), ((489 : Nat), (499 : Nat), (556 : Nat), (115 : Nat)), ((500 : Nat), (518 : Nat), (556 : Nat), (115 : Nat)), ((519 : Nat), (530 : Nat), (556 : Nat), (115 : Nat)), ((531 : Nat), (538 : Nat), (556 : Nat), (115 : Nat)), ((539 : Nat), (546 : Nat), (556 : Nat), (115 : Nat)), ((547 : Nat), (551 : Nat), (556 : Nat), (115 : Nat)), ((0 : Nat), (241 : Nat), (560 : Nat), (118 : Nat)), ((242 : Nat), (246 : Nat), (560 : Nat), (118 : Nat)), ((247 : Nat), (254 : Nat), (560 : Nat), (118 : Nat)), ((255 : Nat), (265 : Nat), (560 : Nat), (118 : Nat)), ((266 : Nat), (273 : Nat), (560 : Nat), (118 : Nat)), ((274 : Nat), (278 : Nat), (560 : Nat), (118 : Nat)), ((279 : Nat), (286 : Nat), (560 : Nat), (118 : Nat)), ((287 : Nat), (294 : Nat), (560 : Nat), (118 : Nat)), ((295 : Nat), (299 : Nat), (560 : Nat), (118 : Nat)), ((300 : Nat), (325 : Nat), (560 : Nat), (118 : Nat)), ((326 : Nat), (348 : Nat), (560 : Nat), (118 : Nat)), ((349 : Nat), (353 : Nat), (560 : Nat), (118 : Nat)), ((354 : Nat), (361 : Nat), (560 : Nat), (118 : Nat)), ((362 : Nat), (369 : Nat), (560 : Nat), (118 : Nat)), ((370 : Nat), (380 : Nat), (560 : Nat), (118 : Nat)), ((381 : Nat), (391 : Nat), (560 : Nat), (118 : Nat)), ((392 : Nat), (402 : Nat), (560 : Nat), (118 : Nat)), ((403 : Nat), (418 : Nat), (560 : Nat), (118 : Nat)), ((419 : Nat), (450 : Nat), (560 : Nat), (118 : Nat)), ((451 : Nat), (455 : Nat), (560 : Nat), (118 : Nat)), ((456 : Nat), (463 : Nat), (560 : Nat), (118 : Nat)), ((464 : Nat), (471 : Nat), (560 : Nat), (118 : Nat)), ((472 : Nat), (476 : Nat), (560 : Nat), (118 : Nat)), ((477 : Nat), (488 : Nat), (560 : Nat), (118 : Nat)), ((489 : Nat), (499 : Nat), (560 : Nat), (118 : Nat)), ((500 : Nat), (518 : Nat), (560 : Nat), (118 : Nat)), ((519 : Nat), (530 : Nat), (560 : Nat), (118 : Nat)), ((531 : Nat), (538 : Nat), (560 : Nat), (118 : Nat)), ((539 : Nat), (546 : Nat), (560 : Nat), (118 : Nat)), ((547 : Nat), (551 : Nat), (560 : Nat), (118 : Nat)), ((0 : Nat), (241 : Nat), (564 : Nat), (121 : Nat)), ((242 : Nat), (246 : Nat), (564 : Nat), (121 : Nat)), ((247 : Nat), (254 : Nat), (564 : Nat), (121 : Nat)), ((255 : Nat), (265 : Nat), (564 : Nat), (121 : Nat)), ((266 : Nat), (273 : Nat), (564 : Nat), (121 : Nat)), ((274 : Nat), (278 : Nat), (564 : Nat), (121 : Nat)), ((279 : Nat), (286 : Nat), (564 : Nat), (121 : Nat)), ((287 : Nat), (294 : Nat), (564 : Nat), (121 : Nat)), ((295 : Nat), (299 : Nat), (564 : Nat), (121 : Nat)), ((300 : Nat), (325 : Nat), (564 : Nat), (121 : Nat)), ((326 : Nat), (348 : Nat), (564 : Nat), (121 : Nat)), ((349 : Nat), (353 : Nat), (564 : Nat), (121 : Nat)), ((354 : Nat), (361 : Nat), (564 : Nat), (121 : Nat)), ((362 : Nat), (369 : Nat), (564 : Nat), (121 : Nat)), ((370 : Nat), (380 : Nat), (564 : Nat), (121 : Nat)), ((381 : Nat), (391 : Nat), (564 : Nat), (121 : Nat)), ((392 : Nat), (402 : Nat), (564 : Nat), (121 : Nat)), ((403 : Nat), (418 : Nat), (564 : Nat), (121 : Nat)), ((419 : Nat), (450 : Nat), (564 : Nat), (121 : Nat)), ((451 : Nat), (455 : Nat), (564 : Nat), (121 : Nat)), ((456 : Nat), (463 : Nat), (564 : Nat), (121 : Nat)), ((464 : Nat), (471 : Nat), (564 : Nat), (121 : Nat)), ((472 : Nat), (476 : Nat), (564 : Nat), (121 : Nat)), ((477 : Nat), (488 : Nat), (564 : Nat), (121 : Nat)), ((489 : Nat), (499 : Nat), (564 : Nat), (121 : Nat)), ((500 : Nat), (518 : Nat), (564 : Nat), (121 : Nat)), ((519 : Nat), (530 : Nat), (564 : Nat), (121 : Nat)), ((531 : Nat), (538 : Nat), (564 : Nat), (121 : Nat)), ((539 : Nat), (546 : Nat), (564 : Nat), (121 : Nat)), ((547 : Nat), (551 : Nat), (564 : Nat), (121 : Nat)), ((0 : Nat), (241 : Nat), (568 : Nat), (124 : Nat)), ((242 : Nat), (246 : Nat), (568 : Nat), (124 : Nat)), ((247 : Nat), (254 : Nat), (568 : Nat), (124 : Nat)), ((255 : Nat), (265 : Nat), (568 : Nat), (124 : Nat)), ((266 : Nat), (273 : Nat), (568 : Nat), (124 : Nat)), ((274 : Nat), (278 : Nat), (568 : Nat), (124 : Nat)), ((279 : Nat), (286 : Nat), (568 : Nat), (124 : Nat)), ((287 : Nat), (294 : Nat), (568 : Nat), (124 : Nat)), ((295 : Nat), (299 : Nat), (568 : Nat), (124 : Nat)), ((300 : Nat), (325 : Nat), (568 : Nat), (124 : Nat)), ((326 : Nat), (348 : Nat), (568 : Nat), (124 : Nat)), ((349 : Nat), (353 : Nat), (568 : Nat), (124 : Nat)), ((354 : Nat), (361 : Nat), (568 : Nat), (124 : Nat)), ((362 : Nat), (369 : Nat), (568 : Nat), (124 : Nat)), ((370 : Nat), (380 : Nat), (568 : Nat), (124 : Nat)), ((381 : Nat), (391 : Nat), (568 : Nat), (124 : Nat)), ((392 : Nat), (402 : Nat), (568 : Nat), (124 : Nat)), ((403 : Nat), (418 : Nat), (568 : Nat), (124 : Nat)), ((419 : Nat), (450 : Nat), (568 : Nat), (124 : Nat)), ((451 : Nat), (455 : Nat), (568 : Nat), (124 : Nat)), ((456 : Nat), (463 : Nat), (568 : Nat), (124 : Nat)), ((464 : Nat), (471 : Nat), (568 : Nat), (124 : Nat)), ((472 : Nat), (476 : Nat), (568 : Nat), (124 : Nat)), ((477 : Nat), (488 : Nat), (568 : Nat), (124 : Nat)), ((489 : Nat), (499 : Nat), (568 : Nat), (124 : Nat)), ((500 : Nat), (518 : Nat), (568 : Nat), (124 : Nat)), ((519 : Nat), (530 : Nat), (568 : Nat), (124 : Nat)), ((531 : Nat), (538 : Nat), (568 : Nat), (124 : Nat)), ((539 : Nat), (546 : Nat), (568 : Nat), (124 : Nat)), ((547 : Nat), (551 : Nat), (568 : Nat), (124 : Nat))]) ∈ ev_G := ev_inT 523 (by decide +kernel) rfl
theorem g_524 : (Jvm.Cond.classLink "RaidlineLaw" (110 : Nat) "java/lang/IndexOutOfBoundsException") ∈ ev_G := ev_inT 524 (by decide +kernel) rfl
theorem g_604 : (Jvm.Cond.classLink "RaidlineLaw" (115 : Nat) "java/lang/IllegalArgumentException") ∈ ev_G := ev_inT 604 (by decide +kernel) rfl
theorem g_605 : (Jvm.Cond.classLink "RaidlineLaw" (118 : Nat) "java/lang/IllegalStateException") ∈ ev_G := ev_inT 605 (by decide +kernel) rfl
theorem g_606 : (Jvm.Cond.classLink "RaidlineLaw" (121 : Nat) "java/lang/UnsupportedOperationException") ∈ ev_G := ev_inT 606 (by decide +kernel) rfl
theorem g_607 : (Jvm.Cond.classLink "RaidlineLaw" (124 : Nat) "java/util/NoSuchElementException") ∈ ev_G := ev_inT 607 (by decide +kernel) rfl
theorem g_608 : (Jvm.Cond.methodLink "RaidlineLaw" (7 : Nat) ({ cls := "Raidline", name := "player", desc := "(IIIC)I" } : Jvm.MethodName)) ∈ ev_G := ev_inT 608 (by decide +kernel) rfl
theorem g_609 : (Jvm.Cond.instanceMethod ({ cls := "Raidline", name := "player", desc := "(IIIC)I" } : Jvm.MethodName)) ∈ ev_G := ev_inT 609 (by decide +kernel) rfl
theorem g_610 : (Jvm.Cond.selects "Raidline" ({ cls := "Raidline", name := "player", desc := "(IIIC)I" } : Jvm.MethodName) ({ cls := "Raidline", name := "player", desc := "(IIIC)I" } : Jvm.MethodName)) ∈ ev_G := ev_inT 610 (by decide +kernel) rfl
theorem g_611 : (Jvm.Cond.code ({ cls := "Raidline", name := "player", desc := "(IIIC)I" } : Jvm.MethodName) prog_1_method_2_code (5 : Nat) (Option.some Jvm.ClassFile.FieldType.int)) ∈ ev_G := ev_inT 611 (by decide +kernel) rfl
theorem g_612 : (Jvm.Cond.methodLink "Raidline" (65 : Nat) ({ cls := "Raidline", name := "isAbility", desc := "(I)Z" } : Jvm.MethodName)) ∈ ev_G := ev_inT 612 (by decide +kernel) rfl
theorem g_613 : (Jvm.Cond.static ({ cls := "Raidline", name := "isAbility", desc := "(I)Z" } : Jvm.MethodName)) ∈ ev_G := ev_inT 613 (by decide +kernel) rfl
theorem g_614 : (Jvm.Cond.code ({ cls := "Raidline", name := "isAbility", desc := "(I)Z" } : Jvm.MethodName) prog_1_method_6_code (1 : Nat) (Option.some Jvm.ClassFile.FieldType.boolean)) ∈ ev_G := ev_inT 614 (by decide +kernel) rfl
theorem g_615 : (Jvm.Cond.methodLink "Raidline" (69 : Nat) ({ cls := "Raidline", name := "baseOf", desc := "(C)I" } : Jvm.MethodName)) ∈ ev_G := ev_inT 615 (by decide +kernel) rfl
theorem g_616 : (Jvm.Cond.static ({ cls := "Raidline", name := "baseOf", desc := "(C)I" } : Jvm.MethodName)) ∈ ev_G := ev_inT 616 (by decide +kernel) rfl
theorem g_617 : (Jvm.Cond.code ({ cls := "Raidline", name := "baseOf", desc := "(C)I" } : Jvm.MethodName) prog_1_method_7_code (1 : Nat) (Option.some Jvm.ClassFile.FieldType.int)) ∈ ev_G := ev_inT 617 (by decide +kernel) rfl
theorem g_618 : (Jvm.Cond.classLink "Raidline" (73 : Nat) "java/lang/IllegalArgumentException") ∈ ev_G := ev_inT 618 (by decide +kernel) rfl
theorem g_639 : (Jvm.Cond.classLink "Raidline" (80 : Nat) "java/lang/IllegalStateException") ∈ ev_G := ev_inT 639 (by decide +kernel) rfl
theorem g_654 : (Jvm.Cond.methodLink "Raidline" (83 : Nat) ({ cls := "Raidline$Roster", name := "enter", desc := "(IIII)I" } : Jvm.MethodName)) ∈ ev_G := ev_inT 654 (by decide +kernel) rfl
theorem g_655 : (Jvm.Cond.instanceMethod ({ cls := "Raidline$Roster", name := "enter", desc := "(IIII)I" } : Jvm.MethodName)) ∈ ev_G := ev_inT 655 (by decide +kernel) rfl
theorem g_656 : (Jvm.Cond.selects "Raidline$Roster" ({ cls := "Raidline$Roster", name := "enter", desc := "(IIII)I" } : Jvm.MethodName) ({ cls := "Raidline$Roster", name := "enter", desc := "(IIII)I" } : Jvm.MethodName)) ∈ ev_G := ev_inT 656 (by decide +kernel) rfl
theorem g_657 : (Jvm.Cond.code ({ cls := "Raidline$Roster", name := "enter", desc := "(IIII)I" } : Jvm.MethodName) prog_8_method_2_code (6 : Nat) (Option.some Jvm.ClassFile.FieldType.int)) ∈ ev_G := ev_inT 657 (by decide +kernel) rfl
theorem g_658 : (Jvm.Cond.methodLink "Raidline$Roster" (42 : Nat) ({ cls := "Raidline$Row", name := "set", desc := "(II)V" } : Jvm.MethodName)) ∈ ev_G := ev_inT 658 (by decide +kernel) rfl
theorem g_659 : (Jvm.Cond.instanceMethod ({ cls := "Raidline$Row", name := "set", desc := "(II)V" } : Jvm.MethodName)) ∈ ev_G := ev_inT 659 (by decide +kernel) rfl
theorem g_660 : (Jvm.Cond.selects "Raidline$Row" ({ cls := "Raidline$Row", name := "set", desc := "(II)V" } : Jvm.MethodName) ({ cls := "Raidline$Row", name := "set", desc := "(II)V" } : Jvm.MethodName)) ∈ ev_G := ev_inT 660 (by decide +kernel) rfl
theorem g_661 : (Jvm.Cond.code ({ cls := "Raidline$Row", name := "set", desc := "(II)V" } : Jvm.MethodName) prog_9_method_3_code (3 : Nat) (Option.none : Option Jvm.ClassFile.FieldType)) ∈ ev_G := ev_inT 661 (by decide +kernel) rfl
theorem g_662 : (Jvm.Cond.methodLink "RaidlineLaw" (13 : Nat) ({ cls := "Raidline", name := "squad", desc := "()I" } : Jvm.MethodName)) ∈ ev_G := ev_inT 662 (by decide +kernel) rfl
theorem g_663 : (Jvm.Cond.instanceMethod ({ cls := "Raidline", name := "squad", desc := "()I" } : Jvm.MethodName)) ∈ ev_G := ev_inT 663 (by decide +kernel) rfl
theorem g_664 : (Jvm.Cond.selects "Raidline" ({ cls := "Raidline", name := "squad", desc := "()I" } : Jvm.MethodName) ({ cls := "Raidline", name := "squad", desc := "()I" } : Jvm.MethodName)) ∈ ev_G := ev_inT 664 (by decide +kernel) rfl
theorem g_665 : (Jvm.Cond.code ({ cls := "Raidline", name := "squad", desc := "()I" } : Jvm.MethodName) prog_1_method_3_code (1 : Nat) (Option.some Jvm.ClassFile.FieldType.int)) ∈ ev_G := ev_inT 665 (by decide +kernel) rfl
theorem g_666 : (Jvm.Cond.methodLink "Raidline" (88 : Nat) ({ cls := "Raidline$Clubs", name := "enter", desc := "()I" } : Jvm.MethodName)) ∈ ev_G := ev_inT 666 (by decide +kernel) rfl
theorem g_667 : (Jvm.Cond.instanceMethod ({ cls := "Raidline$Clubs", name := "enter", desc := "()I" } : Jvm.MethodName)) ∈ ev_G := ev_inT 667 (by decide +kernel) rfl
theorem g_668 : (Jvm.Cond.selects "Raidline$Clubs" ({ cls := "Raidline$Clubs", name := "enter", desc := "()I" } : Jvm.MethodName) ({ cls := "Raidline$Clubs", name := "enter", desc := "()I" } : Jvm.MethodName)) ∈ ev_G := ev_inT 668 (by decide +kernel) rfl
theorem g_669 : (Jvm.Cond.code ({ cls := "Raidline$Clubs", name := "enter", desc := "()I" } : Jvm.MethodName) prog_3_method_2_code (2 : Nat) (Option.some Jvm.ClassFile.FieldType.int)) ∈ ev_G := ev_inT 669 (by decide +kernel) rfl
theorem g_670 : (Jvm.Cond.methodLink "Raidline$Clubs" (33 : Nat) ({ cls := "Raidline$Row", name := "set", desc := "(II)V" } : Jvm.MethodName)) ∈ ev_G := ev_inT 670 (by decide +kernel) rfl
theorem g_671 : (Jvm.Cond.methodLink "RaidlineLaw" (17 : Nat) ({ cls := "Raidline", name := "putUp", desc := "(I)I" } : Jvm.MethodName)) ∈ ev_G := ev_inT 671 (by decide +kernel) rfl
theorem g_672 : (Jvm.Cond.instanceMethod ({ cls := "Raidline", name := "putUp", desc := "(I)I" } : Jvm.MethodName)) ∈ ev_G := ev_inT 672 (by decide +kernel) rfl
theorem g_673 : (Jvm.Cond.selects "Raidline" ({ cls := "Raidline", name := "putUp", desc := "(I)I" } : Jvm.MethodName) ({ cls := "Raidline", name := "putUp", desc := "(I)I" } : Jvm.MethodName)) ∈ ev_G := ev_inT 673 (by decide +kernel) rfl
theorem g_674 : (Jvm.Cond.code ({ cls := "Raidline", name := "putUp", desc := "(I)I" } : Jvm.MethodName) prog_1_method_8_code (2 : Nat) (Option.some Jvm.ClassFile.FieldType.int)) ∈ ev_G := ev_inT 674 (by decide +kernel) rfl
theorem g_675 : (Jvm.Cond.methodLink "Raidline" (94 : Nat) ({ cls := "Raidline", name := "needPlayer", desc := "(I)V" } : Jvm.MethodName)) ∈ ev_G := ev_inT 675 (by decide +kernel) rfl
theorem g_677 : (Jvm.Cond.instanceMethod ({ cls := "Raidline", name := "needPlayer", desc := "(I)V" } : Jvm.MethodName)) ∈ ev_G := ev_inT 677 (by decide +kernel) rfl
theorem g_678 : (Jvm.Cond.code ({ cls := "Raidline", name := "needPlayer", desc := "(I)V" } : Jvm.MethodName) prog_1_method_4_code (2 : Nat) (Option.none : Option Jvm.ClassFile.FieldType)) ∈ ev_G := ev_inT 678 (by decide +kernel) rfl
theorem g_679 : (Jvm.Cond.classLink "Raidline" (91 : Nat) "java/lang/IndexOutOfBoundsException") ∈ ev_G := ev_inT 679 (by decide +kernel) rfl
theorem g_694 : (Jvm.Cond.classLink "Raidline" (112 : Nat) "java/lang/UnsupportedOperationException") ∈ ev_G := ev_inT 694 (by decide +kernel) rfl
theorem g_709 : (Jvm.Cond.methodLink "Raidline" (115 : Nat) ({ cls := "Raidline$Auction", name := "isOpen", desc := "()Z" } : Jvm.MethodName)) ∈ ev_G := ev_inT 709 (by decide +kernel) rfl
theorem g_710 : (Jvm.Cond.instanceMethod ({ cls := "Raidline$Auction", name := "isOpen", desc := "()Z" } : Jvm.MethodName)) ∈ ev_G := ev_inT 710 (by decide +kernel) rfl
theorem g_711 : (Jvm.Cond.selects "Raidline$Auction" ({ cls := "Raidline$Auction", name := "isOpen", desc := "()Z" } : Jvm.MethodName) ({ cls := "Raidline$Auction", name := "isOpen", desc := "()Z" } : Jvm.MethodName)) ∈ ev_G := ev_inT 711 (by decide +kernel) rfl
theorem g_712 : (Jvm.Cond.code ({ cls := "Raidline$Auction", name := "isOpen", desc := "()Z" } : Jvm.MethodName) prog_2_method_2_code (1 : Nat) (Option.some Jvm.ClassFile.FieldType.boolean)) ∈ ev_G := ev_inT 712 (by decide +kernel) rfl
theorem g_713 : (Jvm.Cond.methodLink "Raidline" (119 : Nat) ({ cls := "Raidline$Auction", name := "open", desc := "(I)V" } : Jvm.MethodName)) ∈ ev_G := ev_inT 713 (by decide +kernel) rfl
theorem g_714 : (Jvm.Cond.instanceMethod ({ cls := "Raidline$Auction", name := "open", desc := "(I)V" } : Jvm.MethodName)) ∈ ev_G := ev_inT 714 (by decide +kernel) rfl
theorem g_715 : (Jvm.Cond.selects "Raidline$Auction" ({ cls := "Raidline$Auction", name := "open", desc := "(I)V" } : Jvm.MethodName) ({ cls := "Raidline$Auction", name := "open", desc := "(I)V" } : Jvm.MethodName)) ∈ ev_G := ev_inT 715 (by decide +kernel) rfl
theorem g_716 : (Jvm.Cond.code ({ cls := "Raidline$Auction", name := "open", desc := "(I)V" } : Jvm.MethodName) prog_2_method_3_code (2 : Nat) (Option.none : Option Jvm.ClassFile.FieldType)) ∈ ev_G := ev_inT 716 (by decide +kernel) rfl
theorem g_717 : (Jvm.Cond.methodLink "RaidlineLaw" (21 : Nat) ({ cls := "Raidline", name := "bid", desc := "(II)I" } : Jvm.MethodName)) ∈ ev_G := ev_inT 717 (by decide +kernel) rfl
theorem g_718 : (Jvm.Cond.instanceMethod ({ cls := "Raidline", name := "bid", desc := "(II)I" } : Jvm.MethodName)) ∈ ev_G := ev_inT 718 (by decide +kernel) rfl
theorem g_719 : (Jvm.Cond.selects "Raidline" ({ cls := "Raidline", name := "bid", desc := "(II)I" } : Jvm.MethodName) ({ cls := "Raidline", name := "bid", desc := "(II)I" } : Jvm.MethodName)) ∈ ev_G := ev_inT 719 (by decide +kernel) rfl
theorem g_720 : (Jvm.Cond.code ({ cls := "Raidline", name := "bid", desc := "(II)I" } : Jvm.MethodName) prog_1_method_9_code (3 : Nat) (Option.some Jvm.ClassFile.FieldType.int)) ∈ ev_G := ev_inT 720 (by decide +kernel) rfl
theorem g_721 : (Jvm.Cond.methodLink "Raidline" (125 : Nat) ({ cls := "Raidline", name := "needSquad", desc := "(I)V" } : Jvm.MethodName)) ∈ ev_G := ev_inT 721 (by decide +kernel) rfl
theorem g_723 : (Jvm.Cond.instanceMethod ({ cls := "Raidline", name := "needSquad", desc := "(I)V" } : Jvm.MethodName)) ∈ ev_G := ev_inT 723 (by decide +kernel) rfl
theorem g_724 : (Jvm.Cond.code ({ cls := "Raidline", name := "needSquad", desc := "(I)V" } : Jvm.MethodName) prog_1_method_5_code (2 : Nat) (Option.none : Option Jvm.ClassFile.FieldType)) ∈ ev_G := ev_inT 724 (by decide +kernel) rfl
theorem g_725 : (Jvm.Cond.methodLink "Raidline" (128 : Nat) ({ cls := "Raidline", name := "lowestBid", desc := "()I" } : Jvm.MethodName)) ∈ ev_G := ev_inT 725 (by decide +kernel) rfl
theorem g_727 : (Jvm.Cond.instanceMethod ({ cls := "Raidline", name := "lowestBid", desc := "()I" } : Jvm.MethodName)) ∈ ev_G := ev_inT 727 (by decide +kernel) rfl
theorem g_728 : (Jvm.Cond.code ({ cls := "Raidline", name := "lowestBid", desc := "()I" } : Jvm.MethodName) prog_1_method_15_code (1 : Nat) (Option.some Jvm.ClassFile.FieldType.int)) ∈ ev_G := ev_inT 728 (by decide +kernel) rfl
theorem g_729 : (Jvm.Cond.methodLink "Raidline" (134 : Nat) ({ cls := "Raidline", name := "canTake", desc := "(II)Z" } : Jvm.MethodName)) ∈ ev_G := ev_inT 729 (by decide +kernel) rfl
theorem g_731 : (Jvm.Cond.instanceMethod ({ cls := "Raidline", name := "canTake", desc := "(II)Z" } : Jvm.MethodName)) ∈ ev_G := ev_inT 731 (by decide +kernel) rfl
theorem g_732 : (Jvm.Cond.code ({ cls := "Raidline", name := "canTake", desc := "(II)Z" } : Jvm.MethodName) prog_1_method_16_code (3 : Nat) (Option.some Jvm.ClassFile.FieldType.boolean)) ∈ ev_G := ev_inT 732 (by decide +kernel) rfl
theorem g_733 : (Jvm.Cond.methodLink "Raidline" (138 : Nat) ({ cls := "Raidline$Auction", name := "take", desc := "(II)V" } : Jvm.MethodName)) ∈ ev_G := ev_inT 733 (by decide +kernel) rfl
theorem g_734 : (Jvm.Cond.instanceMethod ({ cls := "Raidline$Auction", name := "take", desc := "(II)V" } : Jvm.MethodName)) ∈ ev_G := ev_inT 734 (by decide +kernel) rfl
theorem g_735 : (Jvm.Cond.selects "Raidline$Auction" ({ cls := "Raidline$Auction", name := "take", desc := "(II)V" } : Jvm.MethodName) ({ cls := "Raidline$Auction", name := "take", desc := "(II)V" } : Jvm.MethodName)) ∈ ev_G := ev_inT 735 (by decide +kernel) rfl
theorem g_736 : (Jvm.Cond.code ({ cls := "Raidline$Auction", name := "take", desc := "(II)V" } : Jvm.MethodName) prog_2_method_4_code (3 : Nat) (Option.none : Option Jvm.ClassFile.FieldType)) ∈ ev_G := ev_inT 736 (by decide +kernel) rfl
theorem g_737 : (Jvm.Cond.methodLink "RaidlineLaw" (25 : Nat) ({ cls := "Raidline", name := "match", desc := "(I)I" } : Jvm.MethodName)) ∈ ev_G := ev_inT 737 (by decide +kernel) rfl
theorem g_738 : (Jvm.Cond.instanceMethod ({ cls := "Raidline", name := "match", desc := "(I)I" } : Jvm.MethodName)) ∈ ev_G := ev_inT 738 (by decide +kernel) rfl
theorem g_739 : (Jvm.Cond.selects "Raidline" ({ cls := "Raidline", name := "match", desc := "(I)I" } : Jvm.MethodName) ({ cls := "Raidline", name := "match", desc := "(I)I" } : Jvm.MethodName)) ∈ ev_G := ev_inT 739 (by decide +kernel) rfl
theorem g_740 : (Jvm.Cond.code ({ cls := "Raidline", name := "match", desc := "(I)I" } : Jvm.MethodName) prog_1_method_10_code (3 : Nat) (Option.some Jvm.ClassFile.FieldType.int)) ∈ ev_G := ev_inT 740 (by decide +kernel) rfl
theorem g_745 : (Jvm.Cond.methodLink "Raidline" (154 : Nat) ({ cls := "Raidline$Row", name := "set", desc := "(II)V" } : Jvm.MethodName)) ∈ ev_G := ev_inT 745 (by decide +kernel) rfl
theorem g_746 : (Jvm.Cond.methodLink "Raidline" (160 : Nat) ({ cls := "Raidline", name := "sell", desc := "(III)V" } : Jvm.MethodName)) ∈ ev_G := ev_inT 746 (by decide +kernel) rfl
theorem g_748 : (Jvm.Cond.instanceMethod ({ cls := "Raidline", name := "sell", desc := "(III)V" } : Jvm.MethodName)) ∈ ev_G := ev_inT 748 (by decide +kernel) rfl
theorem g_749 : (Jvm.Cond.code ({ cls := "Raidline", name := "sell", desc := "(III)V" } : Jvm.MethodName) prog_1_method_18_code (4 : Nat) (Option.none : Option Jvm.ClassFile.FieldType)) ∈ ev_G := ev_inT 749 (by decide +kernel) rfl
theorem g_750 : (Jvm.Cond.methodLink "Raidline" (185 : Nat) ({ cls := "Raidline$Row", name := "add", desc := "(II)V" } : Jvm.MethodName)) ∈ ev_G := ev_inT 750 (by decide +kernel) rfl
theorem g_751 : (Jvm.Cond.instanceMethod ({ cls := "Raidline$Row", name := "add", desc := "(II)V" } : Jvm.MethodName)) ∈ ev_G := ev_inT 751 (by decide +kernel) rfl
theorem g_752 : (Jvm.Cond.selects "Raidline$Row" ({ cls := "Raidline$Row", name := "add", desc := "(II)V" } : Jvm.MethodName) ({ cls := "Raidline$Row", name := "add", desc := "(II)V" } : Jvm.MethodName)) ∈ ev_G := ev_inT 752 (by decide +kernel) rfl
theorem g_753 : (Jvm.Cond.code ({ cls := "Raidline$Row", name := "add", desc := "(II)V" } : Jvm.MethodName) prog_9_method_4_code (3 : Nat) (Option.none : Option Jvm.ClassFile.FieldType)) ∈ ev_G := ev_inT 753 (by decide +kernel) rfl
theorem g_754 : (Jvm.Cond.methodLink "Raidline$Row" (13 : Nat) ({ cls := "Raidline$Row", name := "get", desc := "(I)I" } : Jvm.MethodName)) ∈ ev_G := ev_inT 754 (by decide +kernel) rfl
theorem g_755 : (Jvm.Cond.methodLink "Raidline$Row" (17 : Nat) ({ cls := "Raidline$Row", name := "set", desc := "(II)V" } : Jvm.MethodName)) ∈ ev_G := ev_inT 755 (by decide +kernel) rfl
theorem g_756 : (Jvm.Cond.methodLink "Raidline" (164 : Nat) ({ cls := "Raidline$Auction", name := "close", desc := "()V" } : Jvm.MethodName)) ∈ ev_G := ev_inT 756 (by decide +kernel) rfl
theorem g_757 : (Jvm.Cond.instanceMethod ({ cls := "Raidline$Auction", name := "close", desc := "()V" } : Jvm.MethodName)) ∈ ev_G := ev_inT 757 (by decide +kernel) rfl
theorem g_758 : (Jvm.Cond.selects "Raidline$Auction" ({ cls := "Raidline$Auction", name := "close", desc := "()V" } : Jvm.MethodName) ({ cls := "Raidline$Auction", name := "close", desc := "()V" } : Jvm.MethodName)) ∈ ev_G := ev_inT 758 (by decide +kernel) rfl
theorem g_759 : (Jvm.Cond.code ({ cls := "Raidline$Auction", name := "close", desc := "()V" } : Jvm.MethodName) prog_2_method_5_code (1 : Nat) (Option.none : Option Jvm.ClassFile.FieldType)) ∈ ev_G := ev_inT 759 (by decide +kernel) rfl
theorem g_760 : (Jvm.Cond.methodLink "Raidline$Auction" (24 : Nat) ({ cls := "Raidline$Auction", name := "open", desc := "(I)V" } : Jvm.MethodName)) ∈ ev_G := ev_inT 760 (by decide +kernel) rfl
theorem g_761 : (Jvm.Cond.methodLink "RaidlineLaw" (28 : Nat) ({ cls := "Raidline", name := "knockDown", desc := "()I" } : Jvm.MethodName)) ∈ ev_G := ev_inT 761 (by decide +kernel) rfl
theorem g_762 : (Jvm.Cond.instanceMethod ({ cls := "Raidline", name := "knockDown", desc := "()I" } : Jvm.MethodName)) ∈ ev_G := ev_inT 762 (by decide +kernel) rfl
theorem g_763 : (Jvm.Cond.selects "Raidline" ({ cls := "Raidline", name := "knockDown", desc := "()I" } : Jvm.MethodName) ({ cls := "Raidline", name := "knockDown", desc := "()I" } : Jvm.MethodName)) ∈ ev_G := ev_inT 763 (by decide +kernel) rfl
theorem g_764 : (Jvm.Cond.code ({ cls := "Raidline", name := "knockDown", desc := "()I" } : Jvm.MethodName) prog_1_method_11_code (2 : Nat) (Option.some Jvm.ClassFile.FieldType.int)) ∈ ev_G := ev_inT 764 (by decide +kernel) rfl
theorem g_765 : (Jvm.Cond.methodLink "RaidlineLaw" (31 : Nat) ({ cls := "Raidline", name := "squadOf", desc := "(I)I" } : Jvm.MethodName)) ∈ ev_G := ev_inT 765 (by decide +kernel) rfl
theorem g_766 : (Jvm.Cond.instanceMethod ({ cls := "Raidline", name := "squadOf", desc := "(I)I" } : Jvm.MethodName)) ∈ ev_G := ev_inT 766 (by decide +kernel) rfl
theorem g_767 : (Jvm.Cond.selects "Raidline" ({ cls := "Raidline", name := "squadOf", desc := "(I)I" } : Jvm.MethodName) ({ cls := "Raidline", name := "squadOf", desc := "(I)I" } : Jvm.MethodName)) ∈ ev_G := ev_inT 767 (by decide +kernel) rfl
theorem g_768 : (Jvm.Cond.code ({ cls := "Raidline", name := "squadOf", desc := "(I)I" } : Jvm.MethodName) prog_1_method_12_code (2 : Nat) (Option.some Jvm.ClassFile.FieldType.int)) ∈ ev_G := ev_inT 768 (by decide +kernel) rfl
theorem g_769 : (Jvm.Cond.methodLink "RaidlineLaw" (34 : Nat) ({ cls := "Raidline", name := "purse", desc := "(I)I" } : Jvm.MethodName)) ∈ ev_G := ev_inT 769 (by decide +kernel) rfl
theorem g_770 : (Jvm.Cond.instanceMethod ({ cls := "Raidline", name := "purse", desc := "(I)I" } : Jvm.MethodName)) ∈ ev_G := ev_inT 770 (by decide +kernel) rfl
theorem g_771 : (Jvm.Cond.selects "Raidline" ({ cls := "Raidline", name := "purse", desc := "(I)I" } : Jvm.MethodName) ({ cls := "Raidline", name := "purse", desc := "(I)I" } : Jvm.MethodName)) ∈ ev_G := ev_inT 771 (by decide +kernel) rfl
theorem g_772 : (Jvm.Cond.code ({ cls := "Raidline", name := "purse", desc := "(I)I" } : Jvm.MethodName) prog_1_method_13_code (2 : Nat) (Option.some Jvm.ClassFile.FieldType.int)) ∈ ev_G := ev_inT 772 (by decide +kernel) rfl
theorem g_773 : (Jvm.Cond.methodLink "RaidlineLaw" (37 : Nat) ({ cls := "Raidline", name := "season", desc := "()I" } : Jvm.MethodName)) ∈ ev_G := ev_inT 773 (by decide +kernel) rfl
theorem g_774 : (Jvm.Cond.instanceMethod ({ cls := "Raidline", name := "season", desc := "()I" } : Jvm.MethodName)) ∈ ev_G := ev_inT 774 (by decide +kernel) rfl
theorem g_775 : (Jvm.Cond.selects "Raidline" ({ cls := "Raidline", name := "season", desc := "()I" } : Jvm.MethodName) ({ cls := "Raidline", name := "season", desc := "()I" } : Jvm.MethodName)) ∈ ev_G := ev_inT 775 (by decide +kernel) rfl
theorem g_776 : (Jvm.Cond.code ({ cls := "Raidline", name := "season", desc := "()I" } : Jvm.MethodName) prog_1_method_14_code (1 : Nat) (Option.some Jvm.ClassFile.FieldType.int)) ∈ ev_G := ev_inT 776 (by decide +kernel) rfl
theorem g_777 : (Jvm.Cond.methodLink "Raidline" (170 : Nat) ({ cls := "Raidline$Clubs", name := "startAnew", desc := "()V" } : Jvm.MethodName)) ∈ ev_G := ev_inT 777 (by decide +kernel) rfl
theorem g_778 : (Jvm.Cond.instanceMethod ({ cls := "Raidline$Clubs", name := "startAnew", desc := "()V" } : Jvm.MethodName)) ∈ ev_G := ev_inT 778 (by decide +kernel) rfl
theorem g_779 : (Jvm.Cond.selects "Raidline$Clubs" ({ cls := "Raidline$Clubs", name := "startAnew", desc := "()V" } : Jvm.MethodName) ({ cls := "Raidline$Clubs", name := "startAnew", desc := "()V" } : Jvm.MethodName)) ∈ ev_G := ev_inT 779 (by decide +kernel) rfl
theorem g_780 : (Jvm.Cond.code ({ cls := "Raidline$Clubs", name := "startAnew", desc := "()V" } : Jvm.MethodName) prog_3_method_3_code (1 : Nat) (Option.none : Option Jvm.ClassFile.FieldType)) ∈ ev_G := ev_inT 780 (by decide +kernel) rfl
theorem g_781 : (Jvm.Cond.methodLink "Raidline$Clubs" (37 : Nat) ({ cls := "Raidline$Row", name := "fill", desc := "(I)V" } : Jvm.MethodName)) ∈ ev_G := ev_inT 781 (by decide +kernel) rfl
theorem g_782 : (Jvm.Cond.instanceMethod ({ cls := "Raidline$Row", name := "fill", desc := "(I)V" } : Jvm.MethodName)) ∈ ev_G := ev_inT 782 (by decide +kernel) rfl
theorem g_783 : (Jvm.Cond.selects "Raidline$Row" ({ cls := "Raidline$Row", name := "fill", desc := "(I)V" } : Jvm.MethodName) ({ cls := "Raidline$Row", name := "fill", desc := "(I)V" } : Jvm.MethodName)) ∈ ev_G := ev_inT 783 (by decide +kernel) rfl
theorem g_784 : (Jvm.Cond.code ({ cls := "Raidline$Row", name := "fill", desc := "(I)V" } : Jvm.MethodName) prog_9_method_5_code (3 : Nat) (Option.none : Option Jvm.ClassFile.FieldType)) ∈ ev_G := ev_inT 784 (by decide +kernel) rfl
theorem g_785 : (Jvm.Cond.methodLink "Raidline" (173 : Nat) ({ cls := "Raidline$Roster", name := "release", desc := "()I" } : Jvm.MethodName)) ∈ ev_G := ev_inT 785 (by decide +kernel) rfl
theorem g_786 : (Jvm.Cond.instanceMethod ({ cls := "Raidline$Roster", name := "release", desc := "()I" } : Jvm.MethodName)) ∈ ev_G := ev_inT 786 (by decide +kernel) rfl
theorem g_787 : (Jvm.Cond.selects "Raidline$Roster" ({ cls := "Raidline$Roster", name := "release", desc := "()I" } : Jvm.MethodName) ({ cls := "Raidline$Roster", name := "release", desc := "()I" } : Jvm.MethodName)) ∈ ev_G := ev_inT 787 (by decide +kernel) rfl
theorem g_788 : (Jvm.Cond.code ({ cls := "Raidline$Roster", name := "release", desc := "()I" } : Jvm.MethodName) prog_8_method_7_code (4 : Nat) (Option.some Jvm.ClassFile.FieldType.int)) ∈ ev_G := ev_inT 788 (by decide +kernel) rfl
theorem g_789 : (Jvm.Cond.methodLink "RaidlineLaw" (40 : Nat) ({ cls := "Raidline", name := "edition", desc := "(IIZI)I" } : Jvm.MethodName)) ∈ ev_G := ev_inT 789 (by decide +kernel) rfl
theorem g_790 : (Jvm.Cond.instanceMethod ({ cls := "Raidline", name := "edition", desc := "(IIZI)I" } : Jvm.MethodName)) ∈ ev_G := ev_inT 790 (by decide +kernel) rfl
theorem g_791 : (Jvm.Cond.selects "Raidline" ({ cls := "Raidline", name := "edition", desc := "(IIZI)I" } : Jvm.MethodName) ({ cls := "Raidline", name := "edition", desc := "(IIZI)I" } : Jvm.MethodName)) ∈ ev_G := ev_inT 791 (by decide +kernel) rfl
theorem g_792 : (Jvm.Cond.code ({ cls := "Raidline", name := "edition", desc := "(IIZI)I" } : Jvm.MethodName) prog_1_method_19_code (6 : Nat) (Option.some Jvm.ClassFile.FieldType.int)) ∈ ev_G := ev_inT 792 (by decide +kernel) rfl
theorem g_793 : (Jvm.Cond.methodLink "Raidline" (191 : Nat) ({ cls := "Raidline$Edition", name := "change", desc := "(IIZI)V" } : Jvm.MethodName)) ∈ ev_G := ev_inT 793 (by decide +kernel) rfl
theorem g_794 : (Jvm.Cond.instanceMethod ({ cls := "Raidline$Edition", name := "change", desc := "(IIZI)V" } : Jvm.MethodName)) ∈ ev_G := ev_inT 794 (by decide +kernel) rfl
theorem g_795 : (Jvm.Cond.selects "Raidline$Edition" ({ cls := "Raidline$Edition", name := "change", desc := "(IIZI)V" } : Jvm.MethodName) ({ cls := "Raidline$Edition", name := "change", desc := "(IIZI)V" } : Jvm.MethodName)) ∈ ev_G := ev_inT 795 (by decide +kernel) rfl
theorem g_796 : (Jvm.Cond.code ({ cls := "Raidline$Edition", name := "change", desc := "(IIZI)V" } : Jvm.MethodName) prog_4_method_2_code (5 : Nat) (Option.none : Option Jvm.ClassFile.FieldType)) ∈ ev_G := ev_inT 796 (by decide +kernel) rfl
theorem g_797 : (Jvm.Cond.methodLink "RaidlineLaw" (44 : Nat) ({ cls := "Raidline", name := "begin", desc := "(IIZ)I" } : Jvm.MethodName)) ∈ ev_G := ev_inT 797 (by decide +kernel) rfl
theorem g_798 : (Jvm.Cond.instanceMethod ({ cls := "Raidline", name := "begin", desc := "(IIZ)I" } : Jvm.MethodName)) ∈ ev_G := ev_inT 798 (by decide +kernel) rfl
theorem g_799 : (Jvm.Cond.selects "Raidline" ({ cls := "Raidline", name := "begin", desc := "(IIZ)I" } : Jvm.MethodName) ({ cls := "Raidline", name := "begin", desc := "(IIZ)I" } : Jvm.MethodName)) ∈ ev_G := ev_inT 799 (by decide +kernel) rfl
theorem g_800 : (Jvm.Cond.code ({ cls := "Raidline", name := "begin", desc := "(IIZ)I" } : Jvm.MethodName) prog_1_method_20_code (4 : Nat) (Option.some Jvm.ClassFile.FieldType.int)) ∈ ev_G := ev_inT 800 (by decide +kernel) rfl
theorem g_801 : (Jvm.Cond.methodLink "Raidline" (198 : Nat) ({ cls := "Raidline$Match", name := "start", desc := "(ZI)V" } : Jvm.MethodName)) ∈ ev_G := ev_inT 801 (by decide +kernel) rfl
theorem g_802 : (Jvm.Cond.instanceMethod ({ cls := "Raidline$Match", name := "start", desc := "(ZI)V" } : Jvm.MethodName)) ∈ ev_G := ev_inT 802 (by decide +kernel) rfl
theorem g_803 : (Jvm.Cond.selects "Raidline$Match" ({ cls := "Raidline$Match", name := "start", desc := "(ZI)V" } : Jvm.MethodName) ({ cls := "Raidline$Match", name := "start", desc := "(ZI)V" } : Jvm.MethodName)) ∈ ev_G := ev_inT 803 (by decide +kernel) rfl
theorem g_804 : (Jvm.Cond.code ({ cls := "Raidline$Match", name := "start", desc := "(ZI)V" } : Jvm.MethodName) prog_6_method_2_code (3 : Nat) (Option.none : Option Jvm.ClassFile.FieldType)) ∈ ev_G := ev_inT 804 (by decide +kernel) rfl
theorem g_805 : (Jvm.Cond.methodLink "Raidline$Match" (33 : Nat) ({ cls := "Raidline$Row", name := "fill", desc := "(I)V" } : Jvm.MethodName)) ∈ ev_G := ev_inT 805 (by decide +kernel) rfl
theorem g_806 : (Jvm.Cond.methodLink "Raidline" (206 : Nat) ({ cls := "Raidline$Side", name := "lineUp", desc := "(LRaidline$Roster;II)V" } : Jvm.MethodName)) ∈ ev_G := ev_inT 806 (by decide +kernel) rfl
theorem g_807 : (Jvm.Cond.instanceMethod ({ cls := "Raidline$Side", name := "lineUp", desc := "(LRaidline$Roster;II)V" } : Jvm.MethodName)) ∈ ev_G := ev_inT 807 (by decide +kernel) rfl
theorem g_808 : (Jvm.Cond.selects "Raidline$Side" ({ cls := "Raidline$Side", name := "lineUp", desc := "(LRaidline$Roster;II)V" } : Jvm.MethodName) ({ cls := "Raidline$Side", name := "lineUp", desc := "(LRaidline$Roster;II)V" } : Jvm.MethodName)) ∈ ev_G := ev_inT 808 (by decide +kernel) rfl
theorem g_809 : (Jvm.Cond.code ({ cls := "Raidline$Side", name := "lineUp", desc := "(LRaidline$Roster;II)V" } : Jvm.MethodName) prog_10_method_2_code (5 : Nat) (Option.none : Option Jvm.ClassFile.FieldType)) ∈ ev_G := ev_inT 809 (by decide +kernel) rfl
theorem g_810 : (Jvm.Cond.methodLink "Raidline$Side" (41 : Nat) ({ cls := "Raidline$Line", name := "clear", desc := "()V" } : Jvm.MethodName)) ∈ ev_G := ev_inT 810 (by decide +kernel) rfl
theorem g_811 : (Jvm.Cond.instanceMethod ({ cls := "Raidline$Line", name := "clear", desc := "()V" } : Jvm.MethodName)) ∈ ev_G := ev_inT 811 (by decide +kernel) rfl
theorem g_812 : (Jvm.Cond.selects "Raidline$Line" ({ cls := "Raidline$Line", name := "clear", desc := "()V" } : Jvm.MethodName) ({ cls := "Raidline$Line", name := "clear", desc := "()V" } : Jvm.MethodName)) ∈ ev_G := ev_inT 812 (by decide +kernel) rfl
theorem g_813 : (Jvm.Cond.code ({ cls := "Raidline$Line", name := "clear", desc := "()V" } : Jvm.MethodName) prog_5_method_7_code (1 : Nat) (Option.none : Option Jvm.ClassFile.FieldType)) ∈ ev_G := ev_inT 813 (by decide +kernel) rfl
theorem g_814 : (Jvm.Cond.methodLink "Raidline$Side" (53 : Nat) ({ cls := "Raidline$Row", name := "get", desc := "(I)I" } : Jvm.MethodName)) ∈ ev_G := ev_inT 814 (by decide +kernel) rfl
theorem g_815 : (Jvm.Cond.methodLink "Raidline$Side" (60 : Nat) ({ cls := "Raidline$Line", name := "append", desc := "(I)V" } : Jvm.MethodName)) ∈ ev_G := ev_inT 815 (by decide +kernel) rfl
theorem g_816 : (Jvm.Cond.instanceMethod ({ cls := "Raidline$Line", name := "append", desc := "(I)V" } : Jvm.MethodName)) ∈ ev_G := ev_inT 816 (by decide +kernel) rfl
theorem g_817 : (Jvm.Cond.selects "Raidline$Line" ({ cls := "Raidline$Line", name := "append", desc := "(I)V" } : Jvm.MethodName) ({ cls := "Raidline$Line", name := "append", desc := "(I)V" } : Jvm.MethodName)) ∈ ev_G := ev_inT 817 (by decide +kernel) rfl
theorem g_818 : (Jvm.Cond.code ({ cls := "Raidline$Line", name := "append", desc := "(I)V" } : Jvm.MethodName) prog_5_method_4_code (2 : Nat) (Option.none : Option Jvm.ClassFile.FieldType)) ∈ ev_G := ev_inT 818 (by decide +kernel) rfl
theorem g_819 : (Jvm.Cond.methodLink "Raidline" (215 : Nat) ({ cls := "Raidline$Raid", name := "forget", desc := "()V" } : Jvm.MethodName)) ∈ ev_G := ev_inT 819 (by decide +kernel) rfl
theorem g_820 : (Jvm.Cond.instanceMethod ({ cls := "Raidline$Raid", name := "forget", desc := "()V" } : Jvm.MethodName)) ∈ ev_G := ev_inT 820 (by decide +kernel) rfl
theorem g_821 : (Jvm.Cond.selects "Raidline$Raid" ({ cls := "Raidline$Raid", name := "forget", desc := "()V" } : Jvm.MethodName) ({ cls := "Raidline$Raid", name := "forget", desc := "()V" } : Jvm.MethodName)) ∈ ev_G := ev_inT 821 (by decide +kernel) rfl
theorem g_822 : (Jvm.Cond.code ({ cls := "Raidline$Raid", name := "forget", desc := "()V" } : Jvm.MethodName) prog_7_method_2_code (1 : Nat) (Option.none : Option Jvm.ClassFile.FieldType)) ∈ ev_G := ev_inT 822 (by decide +kernel) rfl
theorem g_823 : (Jvm.Cond.methodLink "Raidline$Raid" (24 : Nat) ({ cls := "Raidline$Raid", name := "start", desc := "(IIZ)V" } : Jvm.MethodName)) ∈ ev_G := ev_inT 823 (by decide +kernel) rfl
theorem g_824 : (Jvm.Cond.instanceMethod ({ cls := "Raidline$Raid", name := "start", desc := "(IIZ)V" } : Jvm.MethodName)) ∈ ev_G := ev_inT 824 (by decide +kernel) rfl
theorem g_825 : (Jvm.Cond.selects "Raidline$Raid" ({ cls := "Raidline$Raid", name := "start", desc := "(IIZ)V" } : Jvm.MethodName) ({ cls := "Raidline$Raid", name := "start", desc := "(IIZ)V" } : Jvm.MethodName)) ∈ ev_G := ev_inT 825 (by decide +kernel) rfl
theorem g_826 : (Jvm.Cond.code ({ cls := "Raidline$Raid", name := "start", desc := "(IIZ)V" } : Jvm.MethodName) prog_7_method_3_code (4 : Nat) (Option.none : Option Jvm.ClassFile.FieldType)) ∈ ev_G := ev_inT 826 (by decide +kernel) rfl
theorem g_827 : (Jvm.Cond.methodLink "Raidline$Raid" (32 : Nat) ({ cls := "Raidline$Row", name := "fill", desc := "(I)V" } : Jvm.MethodName)) ∈ ev_G := ev_inT 827 (by decide +kernel) rfl
theorem g_828 : (Jvm.Cond.methodLink "RaidlineLaw" (48 : Nat) ({ cls := "Raidline", name := "turn", desc := "()I" } : Jvm.MethodName)) ∈ ev_G := ev_inT 828 (by decide +kernel) rfl
theorem g_829 : (Jvm.Cond.instanceMethod ({ cls := "Raidline", name := "turn", desc := "()I" } : Jvm.MethodName)) ∈ ev_G := ev_inT 829 (by decide +kernel) rfl
theorem g_830 : (Jvm.Cond.selects "Raidline" ({ cls := "Raidline", name := "turn", desc := "()I" } : Jvm.MethodName) ({ cls := "Raidline", name := "turn", desc := "()I" } : Jvm.MethodName)) ∈ ev_G := ev_inT 830 (by decide +kernel) rfl
theorem g_831 : (Jvm.Cond.code ({ cls := "Raidline", name := "turn", desc := "()I" } : Jvm.MethodName) prog_1_method_21_code (1 : Nat) (Option.some Jvm.ClassFile.FieldType.int)) ∈ ev_G := ev_inT 831 (by decide +kernel) rfl
theorem g_832 : (Jvm.Cond.methodLink "Raidline" (221 : Nat) ({ cls := "Raidline$Match", name := "sideInTurn", desc := "()I" } : Jvm.MethodName)) ∈ ev_G := ev_inT 832 (by decide +kernel) rfl
theorem g_833 : (Jvm.Cond.instanceMethod ({ cls := "Raidline$Match", name := "sideInTurn", desc := "()I" } : Jvm.MethodName)) ∈ ev_G := ev_inT 833 (by decide +kernel) rfl
theorem g_834 : (Jvm.Cond.selects "Raidline$Match" ({ cls := "Raidline$Match", name := "sideInTurn", desc := "()I" } : Jvm.MethodName) ({ cls := "Raidline$Match", name := "sideInTurn", desc := "()I" } : Jvm.MethodName)) ∈ ev_G := ev_inT 834 (by decide +kernel) rfl
theorem g_835 : (Jvm.Cond.code ({ cls := "Raidline$Match", name := "sideInTurn", desc := "()I" } : Jvm.MethodName) prog_6_method_6_code (1 : Nat) (Option.some Jvm.ClassFile.FieldType.int)) ∈ ev_G := ev_inT 835 (by decide +kernel) rfl
theorem g_836 : (Jvm.Cond.methodLink "Raidline$Match" (60 : Nat) ({ cls := "Raidline$Match", name := "sideOfRaid", desc := "(I)I" } : Jvm.MethodName)) ∈ ev_G := ev_inT 836 (by decide +kernel) rfl
theorem g_838 : (Jvm.Cond.instanceMethod ({ cls := "Raidline$Match", name := "sideOfRaid", desc := "(I)I" } : Jvm.MethodName)) ∈ ev_G := ev_inT 838 (by decide +kernel) rfl
theorem g_839 : (Jvm.Cond.code ({ cls := "Raidline$Match", name := "sideOfRaid", desc := "(I)I" } : Jvm.MethodName) prog_6_method_12_code (3 : Nat) (Option.some Jvm.ClassFile.FieldType.int)) ∈ ev_G := ev_inT 839 (by decide +kernel) rfl
theorem g_840 : (Jvm.Cond.methodLink "RaidlineLaw" (51 : Nat) ({ cls := "Raidline", name := "points", desc := "(I)I" } : Jvm.MethodName)) ∈ ev_G := ev_inT 840 (by decide +kernel) rfl
theorem g_841 : (Jvm.Cond.instanceMethod ({ cls := "Raidline", name := "points", desc := "(I)I" } : Jvm.MethodName)) ∈ ev_G := ev_inT 841 (by decide +kernel) rfl
theorem g_842 : (Jvm.Cond.selects "Raidline" ({ cls := "Raidline", name := "points", desc := "(I)I" } : Jvm.MethodName) ({ cls := "Raidline", name := "points", desc := "(I)I" } : Jvm.MethodName)) ∈ ev_G := ev_inT 842 (by decide +kernel) rfl
theorem g_843 : (Jvm.Cond.code ({ cls := "Raidline", name := "points", desc := "(I)I" } : Jvm.MethodName) prog_1_method_23_code (2 : Nat) (Option.some Jvm.ClassFile.FieldType.int)) ∈ ev_G := ev_inT 843 (by decide +kernel) rfl
theorem g_844 : (Jvm.Cond.methodLink "Raidline" (227 : Nat) ({ cls := "Raidline", name := "needSide", desc := "(I)V" } : Jvm.MethodName)) ∈ ev_G := ev_inT 844 (by decide +kernel) rfl
theorem g_845 : (Jvm.Cond.static ({ cls := "Raidline", name := "needSide", desc := "(I)V" } : Jvm.MethodName)) ∈ ev_G := ev_inT 845 (by decide +kernel) rfl
theorem g_846 : (Jvm.Cond.code ({ cls := "Raidline", name := "needSide", desc := "(I)V" } : Jvm.MethodName) prog_1_method_29_code (1 : Nat) (Option.none : Option Jvm.ClassFile.FieldType)) ∈ ev_G := ev_inT 846 (by decide +kernel) rfl
theorem g_847 : (Jvm.Cond.methodLink "Raidline" (230 : Nat) ({ cls := "Raidline$Match", name := "sideAt", desc := "(I)LRaidline$Side;" } : Jvm.MethodName)) ∈ ev_G := ev_inT 847 (by decide +kernel) rfl
theorem g_848 : (Jvm.Cond.instanceMethod ({ cls := "Raidline$Match", name := "sideAt", desc := "(I)LRaidline$Side;" } : Jvm.MethodName)) ∈ ev_G := ev_inT 848 (by decide +kernel) rfl
theorem g_849 : (Jvm.Cond.selects "Raidline$Match" ({ cls := "Raidline$Match", name := "sideAt", desc := "(I)LRaidline$Side;" } : Jvm.MethodName) ({ cls := "Raidline$Match", name := "sideAt", desc := "(I)LRaidline$Side;" } : Jvm.MethodName)) ∈ ev_G := ev_inT 849 (by decide +kernel) rfl
theorem g_850 : (Jvm.Cond.code ({ cls := "Raidline$Match", name := "sideAt", desc := "(I)LRaidline$Side;" } : Jvm.MethodName) prog_6_method_3_code (2 : Nat) (Option.some (Jvm.ClassFile.FieldType.object "Raidline$Side"))) ∈ ev_G := ev_inT 850 (by decide +kernel) rfl
theorem g_851 : (Jvm.Cond.methodLink "RaidlineLaw" (54 : Nat) ({ cls := "Raidline", name := "onMat", desc := "(I)I" } : Jvm.MethodName)) ∈ ev_G := ev_inT 851 (by decide +kernel) rfl
theorem g_852 : (Jvm.Cond.instanceMethod ({ cls := "Raidline", name := "onMat", desc := "(I)I" } : Jvm.MethodName)) ∈ ev_G := ev_inT 852 (by decide +kernel) rfl
theorem g_853 : (Jvm.Cond.selects "Raidline" ({ cls := "Raidline", name := "onMat", desc := "(I)I" } : Jvm.MethodName) ({ cls := "Raidline", name := "onMat", desc := "(I)I" } : Jvm.MethodName)) ∈ ev_G := ev_inT 853 (by decide +kernel) rfl
theorem g_854 : (Jvm.Cond.code ({ cls := "Raidline", name := "onMat", desc := "(I)I" } : Jvm.MethodName) prog_1_method_24_code (2 : Nat) (Option.some Jvm.ClassFile.FieldType.int)) ∈ ev_G := ev_inT 854 (by decide +kernel) rfl
theorem g_855 : (Jvm.Cond.methodLink "Raidline" (237 : Nat) ({ cls := "Raidline", name := "playingSide", desc := "(I)LRaidline$Side;" } : Jvm.MethodName)) ∈ ev_G := ev_inT 855 (by decide +kernel) rfl
theorem g_857 : (Jvm.Cond.instanceMethod ({ cls := "Raidline", name := "playingSide", desc := "(I)LRaidline$Side;" } : Jvm.MethodName)) ∈ ev_G := ev_inT 857 (by decide +kernel) rfl
theorem g_858 : (Jvm.Cond.code ({ cls := "Raidline", name := "playingSide", desc := "(I)LRaidline$Side;" } : Jvm.MethodName) prog_1_method_30_code (2 : Nat) (Option.some (Jvm.ClassFile.FieldType.object "Raidline$Side"))) ∈ ev_G := ev_inT 858 (by decide +kernel) rfl
theorem g_859 : (Jvm.Cond.methodLink "RaidlineLaw" (57 : Nat) ({ cls := "Raidline", name := "matAt", desc := "(II)I" } : Jvm.MethodName)) ∈ ev_G := ev_inT 859 (by decide +kernel) rfl
theorem g_860 : (Jvm.Cond.instanceMethod ({ cls := "Raidline", name := "matAt", desc := "(II)I" } : Jvm.MethodName)) ∈ ev_G := ev_inT 860 (by decide +kernel) rfl
theorem g_861 : (Jvm.Cond.selects "Raidline" ({ cls := "Raidline", name := "matAt", desc := "(II)I" } : Jvm.MethodName) ({ cls := "Raidline", name := "matAt", desc := "(II)I" } : Jvm.MethodName)) ∈ ev_G := ev_inT 861 (by decide +kernel) rfl
theorem g_862 : (Jvm.Cond.code ({ cls := "Raidline", name := "matAt", desc := "(II)I" } : Jvm.MethodName) prog_1_method_25_code (3 : Nat) (Option.some Jvm.ClassFile.FieldType.int)) ∈ ev_G := ev_inT 862 (by decide +kernel) rfl
theorem g_863 : (Jvm.Cond.methodLink "Raidline" (247 : Nat) ({ cls := "Raidline$Line", name := "at", desc := "(I)I" } : Jvm.MethodName)) ∈ ev_G := ev_inT 863 (by decide +kernel) rfl
theorem g_864 : (Jvm.Cond.methodLink "Raidline" (250 : Nat) ({ cls := "Raidline", name := "present", desc := "(I)I" } : Jvm.MethodName)) ∈ ev_G := ev_inT 864 (by decide +kernel) rfl
theorem g_865 : (Jvm.Cond.static ({ cls := "Raidline", name := "present", desc := "(I)I" } : Jvm.MethodName)) ∈ ev_G := ev_inT 865 (by decide +kernel) rfl
theorem g_866 : (Jvm.Cond.code ({ cls := "Raidline", name := "present", desc := "(I)I" } : Jvm.MethodName) prog_1_method_31_code (1 : Nat) (Option.some Jvm.ClassFile.FieldType.int)) ∈ ev_G := ev_inT 866 (by decide +kernel) rfl
theorem g_867 : (Jvm.Cond.classLink "Raidline" (259 : Nat) "java/util/NoSuchElementException") ∈ ev_G := ev_inT 867 (by decide +kernel) rfl
theorem g_882 : (Jvm.Cond.methodLink "RaidlineLaw" (60 : Nat) ({ cls := "Raidline", name := "outAt", desc := "(II)I" } : Jvm.MethodName)) ∈ ev_G := ev_inT 882 (by decide +kernel) rfl
theorem g_883 : (Jvm.Cond.instanceMethod ({ cls := "Raidline", name := "outAt", desc := "(II)I" } : Jvm.MethodName)) ∈ ev_G := ev_inT 883 (by decide +kernel) rfl
theorem g_884 : (Jvm.Cond.selects "Raidline" ({ cls := "Raidline", name := "outAt", desc := "(II)I" } : Jvm.MethodName) ({ cls := "Raidline", name := "outAt", desc := "(II)I" } : Jvm.MethodName)) ∈ ev_G := ev_inT 884 (by decide +kernel) rfl
theorem g_885 : (Jvm.Cond.code ({ cls := "Raidline", name := "outAt", desc := "(II)I" } : Jvm.MethodName) prog_1_method_26_code (3 : Nat) (Option.some Jvm.ClassFile.FieldType.int)) ∈ ev_G := ev_inT 885 (by decide +kernel) rfl
theorem g_886 : (Jvm.Cond.methodLink "RaidlineLaw" (63 : Nat) ({ cls := "Raidline", name := "benchAt", desc := "(II)I" } : Jvm.MethodName)) ∈ ev_G := ev_inT 886 (by decide +kernel) rfl
theorem g_887 : (Jvm.Cond.instanceMethod ({ cls := "Raidline", name := "benchAt", desc := "(II)I" } : Jvm.MethodName)) ∈ ev_G := ev_inT 887 (by decide +kernel) rfl
theorem g_888 : (Jvm.Cond.selects "Raidline" ({ cls := "Raidline", name := "benchAt", desc := "(II)I" } : Jvm.MethodName) ({ cls := "Raidline", name := "benchAt", desc := "(II)I" } : Jvm.MethodName)) ∈ ev_G := ev_inT 888 (by decide +kernel) rfl
theorem g_889 : (Jvm.Cond.code ({ cls := "Raidline", name := "benchAt", desc := "(II)I" } : Jvm.MethodName) prog_1_method_27_code (3 : Nat) (Option.some Jvm.ClassFile.FieldType.int)) ∈ ev_G := ev_inT 889 (by decide +kernel) rfl
theorem g_890 : (Jvm.Cond.methodLink "RaidlineLaw" (66 : Nat) ({ cls := "Raidline", name := "raid", desc := "(I)Z" } : Jvm.MethodName)) ∈ ev_G := ev_inT 890 (by decide +kernel) rfl
theorem g_891 : (Jvm.Cond.instanceMethod ({ cls := "Raidline", name := "raid", desc := "(I)Z" } : Jvm.MethodName)) ∈ ev_G := ev_inT 891 (by decide +kernel) rfl
theorem g_892 : (Jvm.Cond.selects "Raidline" ({ cls := "Raidline", name := "raid", desc := "(I)Z" } : Jvm.MethodName) ({ cls := "Raidline", name := "raid", desc := "(I)Z" } : Jvm.MethodName)) ∈ ev_G := ev_inT 892 (by decide +kernel) rfl
theorem g_893 : (Jvm.Cond.code ({ cls := "Raidline", name := "raid", desc := "(I)Z" } : Jvm.MethodName) prog_1_method_32_code (2 : Nat) (Option.some Jvm.ClassFile.FieldType.boolean)) ∈ ev_G := ev_inT 893 (by decide +kernel) rfl
theorem g_894 : (Jvm.Cond.methodLink "Raidline" (262 : Nat) ({ cls := "Raidline", name := "needPause", desc := "()V" } : Jvm.MethodName)) ∈ ev_G := ev_inT 894 (by decide +kernel) rfl
theorem g_896 : (Jvm.Cond.instanceMethod ({ cls := "Raidline", name := "needPause", desc := "()V" } : Jvm.MethodName)) ∈ ev_G := ev_inT 896 (by decide +kernel) rfl
theorem g_897 : (Jvm.Cond.code ({ cls := "Raidline", name := "needPause", desc := "()V" } : Jvm.MethodName) prog_1_method_39_code (1 : Nat) (Option.none : Option Jvm.ClassFile.FieldType)) ∈ ev_G := ev_inT 897 (by decide +kernel) rfl
theorem g_898 : (Jvm.Cond.methodLink "Raidline" (265 : Nat) ({ cls := "Raidline$Match", name := "raiders", desc := "()LRaidline$Side;" } : Jvm.MethodName)) ∈ ev_G := ev_inT 898 (by decide +kernel) rfl
theorem g_899 : (Jvm.Cond.instanceMethod ({ cls := "Raidline$Match", name := "raiders", desc := "()LRaidline$Side;" } : Jvm.MethodName)) ∈ ev_G := ev_inT 899 (by decide +kernel) rfl
theorem g_900 : (Jvm.Cond.selects "Raidline$Match" ({ cls := "Raidline$Match", name := "raiders", desc := "()LRaidline$Side;" } : Jvm.MethodName) ({ cls := "Raidline$Match", name := "raiders", desc := "()LRaidline$Side;" } : Jvm.MethodName)) ∈ ev_G := ev_inT 900 (by decide +kernel) rfl
theorem g_901 : (Jvm.Cond.code ({ cls := "Raidline$Match", name := "raiders", desc := "()LRaidline$Side;" } : Jvm.MethodName) prog_6_method_7_code (1 : Nat) (Option.some (Jvm.ClassFile.FieldType.object "Raidline$Side"))) ∈ ev_G := ev_inT 901 (by decide +kernel) rfl
theorem g_902 : (Jvm.Cond.methodLink "Raidline$Match" (64 : Nat) ({ cls := "Raidline$Match", name := "sideAt", desc := "(I)LRaidline$Side;" } : Jvm.MethodName)) ∈ ev_G := ev_inT 902 (by decide +kernel) rfl
theorem g_903 : (Jvm.Cond.methodLink "Raidline" (269 : Nat) ({ cls := "Raidline$Line", name := "has", desc := "(I)Z" } : Jvm.MethodName)) ∈ ev_G := ev_inT 903 (by decide +kernel) rfl
theorem g_904 : (Jvm.Cond.methodLink "Raidline" (272 : Nat) ({ cls := "Raidline$Match", name := "defenders", desc := "()LRaidline$Side;" } : Jvm.MethodName)) ∈ ev_G := ev_inT 904 (by decide +kernel) rfl
theorem g_905 : (Jvm.Cond.instanceMethod ({ cls := "Raidline$Match", name := "defenders", desc := "()LRaidline$Side;" } : Jvm.MethodName)) ∈ ev_G := ev_inT 905 (by decide +kernel) rfl
theorem g_906 : (Jvm.Cond.selects "Raidline$Match" ({ cls := "Raidline$Match", name := "defenders", desc := "()LRaidline$Side;" } : Jvm.MethodName) ({ cls := "Raidline$Match", name := "defenders", desc := "()LRaidline$Side;" } : Jvm.MethodName)) ∈ ev_G := ev_inT 906 (by decide +kernel) rfl
theorem g_907 : (Jvm.Cond.code ({ cls := "Raidline$Match", name := "defenders", desc := "()LRaidline$Side;" } : Jvm.MethodName) prog_6_method_8_code (1 : Nat) (Option.some (Jvm.ClassFile.FieldType.object "Raidline$Side"))) ∈ ev_G := ev_inT 907 (by decide +kernel) rfl
theorem g_908 : (Jvm.Cond.methodLink "Raidline" (278 : Nat) ({ cls := "Raidline$Raid", name := "start", desc := "(IIZ)V" } : Jvm.MethodName)) ∈ ev_G := ev_inT 908 (by decide +kernel) rfl
theorem g_909 : (Jvm.Cond.methodLink "RaidlineLaw" (70 : Nat) ({ cls := "Raidline", name := "touch", desc := "(IZZ)I" } : Jvm.MethodName)) ∈ ev_G := ev_inT 909 (by decide +kernel) rfl
theorem g_910 : (Jvm.Cond.instanceMethod ({ cls := "Raidline", name := "touch", desc := "(IZZ)I" } : Jvm.MethodName)) ∈ ev_G := ev_inT 910 (by decide +kernel) rfl
theorem g_911 : (Jvm.Cond.selects "Raidline" ({ cls := "Raidline", name := "touch", desc := "(IZZ)I" } : Jvm.MethodName) ({ cls := "Raidline", name := "touch", desc := "(IZZ)I" } : Jvm.MethodName)) ∈ ev_G := ev_inT 911 (by decide +kernel) rfl
theorem g_912 : (Jvm.Cond.code ({ cls := "Raidline", name := "touch", desc := "(IZZ)I" } : Jvm.MethodName) prog_1_method_33_code (5 : Nat) (Option.some Jvm.ClassFile.FieldType.int)) ∈ ev_G := ev_inT 912 (by decide +kernel) rfl
theorem g_913 : (Jvm.Cond.methodLink "Raidline" (284 : Nat) ({ cls := "Raidline", name := "needRaid", desc := "()V" } : Jvm.MethodName)) ∈ ev_G := ev_inT 913 (by decide +kernel) rfl
theorem g_915 : (Jvm.Cond.instanceMethod ({ cls := "Raidline", name := "needRaid", desc := "()V" } : Jvm.MethodName)) ∈ ev_G := ev_inT 915 (by decide +kernel) rfl
theorem g_916 : (Jvm.Cond.code ({ cls := "Raidline", name := "needRaid", desc := "()V" } : Jvm.MethodName) prog_1_method_38_code (1 : Nat) (Option.none : Option Jvm.ClassFile.FieldType)) ∈ ev_G := ev_inT 916 (by decide +kernel) rfl
theorem g_917 : (Jvm.Cond.methodLink "Raidline" (287 : Nat) ({ cls := "Raidline$Raid", name := "isTouched", desc := "(I)Z" } : Jvm.MethodName)) ∈ ev_G := ev_inT 917 (by decide +kernel) rfl
theorem g_918 : (Jvm.Cond.instanceMethod ({ cls := "Raidline$Raid", name := "isTouched", desc := "(I)Z" } : Jvm.MethodName)) ∈ ev_G := ev_inT 918 (by decide +kernel) rfl
theorem g_919 : (Jvm.Cond.selects "Raidline$Raid" ({ cls := "Raidline$Raid", name := "isTouched", desc := "(I)Z" } : Jvm.MethodName) ({ cls := "Raidline$Raid", name := "isTouched", desc := "(I)Z" } : Jvm.MethodName)) ∈ ev_G := ev_inT 919 (by decide +kernel) rfl
theorem g_920 : (Jvm.Cond.code ({ cls := "Raidline$Raid", name := "isTouched", desc := "(I)Z" } : Jvm.MethodName) prog_7_method_8_code (2 : Nat) (Option.some Jvm.ClassFile.FieldType.boolean)) ∈ ev_G := ev_inT 920 (by decide +kernel) rfl
theorem g_921 : (Jvm.Cond.methodLink "Raidline$Raid" (59 : Nat) ({ cls := "Raidline$Row", name := "get", desc := "(I)I" } : Jvm.MethodName)) ∈ ev_G := ev_inT 921 (by decide +kernel) rfl
theorem g_922 : (Jvm.Cond.methodLink "Raidline" (296 : Nat) ({ cls := "Raidline$Raid", name := "hasBreathFor", desc := "(I)Z" } : Jvm.MethodName)) ∈ ev_G := ev_inT 922 (by decide +kernel) rfl
theorem g_923 : (Jvm.Cond.instanceMethod ({ cls := "Raidline$Raid", name := "hasBreathFor", desc := "(I)Z" } : Jvm.MethodName)) ∈ ev_G := ev_inT 923 (by decide +kernel) rfl
theorem g_924 : (Jvm.Cond.selects "Raidline$Raid" ({ cls := "Raidline$Raid", name := "hasBreathFor", desc := "(I)Z" } : Jvm.MethodName) ({ cls := "Raidline$Raid", name := "hasBreathFor", desc := "(I)Z" } : Jvm.MethodName)) ∈ ev_G := ev_inT 924 (by decide +kernel) rfl
theorem g_925 : (Jvm.Cond.code ({ cls := "Raidline$Raid", name := "hasBreathFor", desc := "(I)Z" } : Jvm.MethodName) prog_7_method_4_code (2 : Nat) (Option.some Jvm.ClassFile.FieldType.boolean)) ∈ ev_G := ev_inT 925 (by decide +kernel) rfl
theorem g_930 : (Jvm.Cond.methodLink "Raidline" (340 : Nat) ({ cls := "Raidline$Side", name := "goOut", desc := "(I)Z" } : Jvm.MethodName)) ∈ ev_G := ev_inT 930 (by decide +kernel) rfl
theorem g_931 : (Jvm.Cond.instanceMethod ({ cls := "Raidline$Side", name := "goOut", desc := "(I)Z" } : Jvm.MethodName)) ∈ ev_G := ev_inT 931 (by decide +kernel) rfl
theorem g_932 : (Jvm.Cond.selects "Raidline$Side" ({ cls := "Raidline$Side", name := "goOut", desc := "(I)Z" } : Jvm.MethodName) ({ cls := "Raidline$Side", name := "goOut", desc := "(I)Z" } : Jvm.MethodName)) ∈ ev_G := ev_inT 932 (by decide +kernel) rfl
theorem g_933 : (Jvm.Cond.code ({ cls := "Raidline$Side", name := "goOut", desc := "(I)Z" } : Jvm.MethodName) prog_10_method_3_code (3 : Nat) (Option.some Jvm.ClassFile.FieldType.boolean)) ∈ ev_G := ev_inT 933 (by decide +kernel) rfl
theorem g_934 : (Jvm.Cond.methodLink "Raidline$Side" (64 : Nat) ({ cls := "Raidline$Line", name := "remove", desc := "(I)Z" } : Jvm.MethodName)) ∈ ev_G := ev_inT 934 (by decide +kernel) rfl
theorem g_935 : (Jvm.Cond.instanceMethod ({ cls := "Raidline$Line", name := "remove", desc := "(I)Z" } : Jvm.MethodName)) ∈ ev_G := ev_inT 935 (by decide +kernel) rfl
theorem g_936 : (Jvm.Cond.selects "Raidline$Line" ({ cls := "Raidline$Line", name := "remove", desc := "(I)Z" } : Jvm.MethodName) ({ cls := "Raidline$Line", name := "remove", desc := "(I)Z" } : Jvm.MethodName)) ∈ ev_G := ev_inT 936 (by decide +kernel) rfl
theorem g_937 : (Jvm.Cond.code ({ cls := "Raidline$Line", name := "remove", desc := "(I)Z" } : Jvm.MethodName) prog_5_method_6_code (4 : Nat) (Option.some Jvm.ClassFile.FieldType.boolean)) ∈ ev_G := ev_inT 937 (by decide +kernel) rfl
theorem g_942 : (Jvm.Cond.methodLink "Raidline" (346 : Nat) ({ cls := "Raidline$Raid", name := "brought", desc := "()I" } : Jvm.MethodName)) ∈ ev_G := ev_inT 942 (by decide +kernel) rfl
theorem g_943 : (Jvm.Cond.instanceMethod ({ cls := "Raidline$Raid", name := "brought", desc := "()I" } : Jvm.MethodName)) ∈ ev_G := ev_inT 943 (by decide +kernel) rfl
theorem g_944 : (Jvm.Cond.selects "Raidline$Raid" ({ cls := "Raidline$Raid", name := "brought", desc := "()I" } : Jvm.MethodName) ({ cls := "Raidline$Raid", name := "brought", desc := "()I" } : Jvm.MethodName)) ∈ ev_G := ev_inT 944 (by decide +kernel) rfl
theorem g_945 : (Jvm.Cond.code ({ cls := "Raidline$Raid", name := "brought", desc := "()I" } : Jvm.MethodName) prog_7_method_6_code (1 : Nat) (Option.some Jvm.ClassFile.FieldType.int)) ∈ ev_G := ev_inT 945 (by decide +kernel) rfl
theorem g_946 : (Jvm.Cond.methodLink "Raidline" (361 : Nat) ({ cls := "Raidline", name := "closeRaid", desc := "(IIIZ)V" } : Jvm.MethodName)) ∈ ev_G := ev_inT 946 (by decide +kernel) rfl
theorem g_948 : (Jvm.Cond.instanceMethod ({ cls := "Raidline", name := "closeRaid", desc := "(IIIZ)V" } : Jvm.MethodName)) ∈ ev_G := ev_inT 948 (by decide +kernel) rfl
theorem g_949 : (Jvm.Cond.code ({ cls := "Raidline", name := "closeRaid", desc := "(IIIZ)V" } : Jvm.MethodName) prog_1_method_45_code (8 : Nat) (Option.none : Option Jvm.ClassFile.FieldType)) ∈ ev_G := ev_inT 949 (by decide +kernel) rfl
theorem g_950 : (Jvm.Cond.methodLink "Raidline" (384 : Nat) ({ cls := "Raidline$Side", name := "revive", desc := "(I)V" } : Jvm.MethodName)) ∈ ev_G := ev_inT 950 (by decide +kernel) rfl
theorem g_951 : (Jvm.Cond.instanceMethod ({ cls := "Raidline$Side", name := "revive", desc := "(I)V" } : Jvm.MethodName)) ∈ ev_G := ev_inT 951 (by decide +kernel) rfl
theorem g_952 : (Jvm.Cond.selects "Raidline$Side" ({ cls := "Raidline$Side", name := "revive", desc := "(I)V" } : Jvm.MethodName) ({ cls := "Raidline$Side", name := "revive", desc := "(I)V" } : Jvm.MethodName)) ∈ ev_G := ev_inT 952 (by decide +kernel) rfl
theorem g_953 : (Jvm.Cond.code ({ cls := "Raidline$Side", name := "revive", desc := "(I)V" } : Jvm.MethodName) prog_10_method_5_code (3 : Nat) (Option.none : Option Jvm.ClassFile.FieldType)) ∈ ev_G := ev_inT 953 (by decide +kernel) rfl
theorem g_954 : (Jvm.Cond.methodLink "Raidline$Side" (74 : Nat) ({ cls := "Raidline$Side", name := "comeOn", desc := "(I)V" } : Jvm.MethodName)) ∈ ev_G := ev_inT 954 (by decide +kernel) rfl
theorem g_955 : (Jvm.Cond.instanceMethod ({ cls := "Raidline$Side", name := "comeOn", desc := "(I)V" } : Jvm.MethodName)) ∈ ev_G := ev_inT 955 (by decide +kernel) rfl
theorem g_956 : (Jvm.Cond.selects "Raidline$Side" ({ cls := "Raidline$Side", name := "comeOn", desc := "(I)V" } : Jvm.MethodName) ({ cls := "Raidline$Side", name := "comeOn", desc := "(I)V" } : Jvm.MethodName)) ∈ ev_G := ev_inT 956 (by decide +kernel) rfl
theorem g_957 : (Jvm.Cond.code ({ cls := "Raidline$Side", name := "comeOn", desc := "(I)V" } : Jvm.MethodName) prog_10_method_4_code (2 : Nat) (Option.none : Option Jvm.ClassFile.FieldType)) ∈ ev_G := ev_inT 957 (by decide +kernel) rfl
theorem g_958 : (Jvm.Cond.methodLink "Raidline$Side" (68 : Nat) ({ cls := "Raidline$Line", name := "insertByNumber", desc := "(I)V" } : Jvm.MethodName)) ∈ ev_G := ev_inT 958 (by decide +kernel) rfl
theorem g_959 : (Jvm.Cond.instanceMethod ({ cls := "Raidline$Line", name := "insertByNumber", desc := "(I)V" } : Jvm.MethodName)) ∈ ev_G := ev_inT 959 (by decide +kernel) rfl
theorem g_960 : (Jvm.Cond.selects "Raidline$Line" ({ cls := "Raidline$Line", name := "insertByNumber", desc := "(I)V" } : Jvm.MethodName) ({ cls := "Raidline$Line", name := "insertByNumber", desc := "(I)V" } : Jvm.MethodName)) ∈ ev_G := ev_inT 960 (by decide +kernel) rfl
theorem g_961 : (Jvm.Cond.code ({ cls := "Raidline$Line", name := "insertByNumber", desc := "(I)V" } : Jvm.MethodName) prog_5_method_5_code (4 : Nat) (Option.none : Option Jvm.ClassFile.FieldType)) ∈ ev_G := ev_inT 961 (by decide +kernel) rfl
theorem g_962 : (Jvm.Cond.methodLink "Raidline" (387 : Nat) ({ cls := "Raidline", name := "endSittings", desc := "()V" } : Jvm.MethodName)) ∈ ev_G := ev_inT 962 (by decide +kernel) rfl
theorem g_964 : (Jvm.Cond.instanceMethod ({ cls := "Raidline", name := "endSittings", desc := "()V" } : Jvm.MethodName)) ∈ ev_G := ev_inT 964 (by decide +kernel) rfl
theorem g_965 : (Jvm.Cond.code ({ cls := "Raidline", name := "endSittings", desc := "()V" } : Jvm.MethodName) prog_1_method_46_code (3 : Nat) (Option.none : Option Jvm.ClassFile.FieldType)) ∈ ev_G := ev_inT 965 (by decide +kernel) rfl
theorem g_966 : (Jvm.Cond.methodLink "Raidline" (409 : Nat) ({ cls := "Raidline$Match", name := "sideOfSquad", desc := "(I)LRaidline$Side;" } : Jvm.MethodName)) ∈ ev_G := ev_inT 966 (by decide +kernel) rfl
theorem g_967 : (Jvm.Cond.instanceMethod ({ cls := "Raidline$Match", name := "sideOfSquad", desc := "(I)LRaidline$Side;" } : Jvm.MethodName)) ∈ ev_G := ev_inT 967 (by decide +kernel) rfl
theorem g_968 : (Jvm.Cond.selects "Raidline$Match" ({ cls := "Raidline$Match", name := "sideOfSquad", desc := "(I)LRaidline$Side;" } : Jvm.MethodName) ({ cls := "Raidline$Match", name := "sideOfSquad", desc := "(I)LRaidline$Side;" } : Jvm.MethodName)) ∈ ev_G := ev_inT 968 (by decide +kernel) rfl
theorem g_969 : (Jvm.Cond.code ({ cls := "Raidline$Match", name := "sideOfSquad", desc := "(I)LRaidline$Side;" } : Jvm.MethodName) prog_6_method_4_code (2 : Nat) (Option.some (Jvm.ClassFile.FieldType.object "Raidline$Side"))) ∈ ev_G := ev_inT 969 (by decide +kernel) rfl
theorem g_970 : (Jvm.Cond.methodLink "Raidline" (412 : Nat) ({ cls := "Raidline$Line", name := "append", desc := "(I)V" } : Jvm.MethodName)) ∈ ev_G := ev_inT 970 (by decide +kernel) rfl
theorem g_971 : (Jvm.Cond.methodLink "Raidline" (390 : Nat) ({ cls := "Raidline", name := "allOut", desc := "(LRaidline$Side;LRaidline$Side;)I" } : Jvm.MethodName)) ∈ ev_G := ev_inT 971 (by decide +kernel) rfl
theorem g_973 : (Jvm.Cond.instanceMethod ({ cls := "Raidline", name := "allOut", desc := "(LRaidline$Side;LRaidline$Side;)I" } : Jvm.MethodName)) ∈ ev_G := ev_inT 973 (by decide +kernel) rfl
theorem g_974 : (Jvm.Cond.code ({ cls := "Raidline", name := "allOut", desc := "(LRaidline$Side;LRaidline$Side;)I" } : Jvm.MethodName) prog_1_method_47_code (3 : Nat) (Option.some Jvm.ClassFile.FieldType.int)) ∈ ev_G := ev_inT 974 (by decide +kernel) rfl
theorem g_975 : (Jvm.Cond.methodLink "Raidline" (397 : Nat) ({ cls := "Raidline$Statistics", name := "record", desc := "(IIZ)V" } : Jvm.MethodName)) ∈ ev_G := ev_inT 975 (by decide +kernel) rfl
theorem g_976 : (Jvm.Cond.instanceMethod ({ cls := "Raidline$Statistics", name := "record", desc := "(IIZ)V" } : Jvm.MethodName)) ∈ ev_G := ev_inT 976 (by decide +kernel) rfl
theorem g_977 : (Jvm.Cond.selects "Raidline$Statistics" ({ cls := "Raidline$Statistics", name := "record", desc := "(IIZ)V" } : Jvm.MethodName) ({ cls := "Raidline$Statistics", name := "record", desc := "(IIZ)V" } : Jvm.MethodName)) ∈ ev_G := ev_inT 977 (by decide +kernel) rfl
theorem g_978 : (Jvm.Cond.code ({ cls := "Raidline$Statistics", name := "record", desc := "(IIZ)V" } : Jvm.MethodName) prog_11_method_2_code (4 : Nat) (Option.none : Option Jvm.ClassFile.FieldType)) ∈ ev_G := ev_inT 978 (by decide +kernel) rfl
theorem g_979 : (Jvm.Cond.methodLink "Raidline$Statistics" (29 : Nat) ({ cls := "Raidline$Row", name := "add", desc := "(II)V" } : Jvm.MethodName)) ∈ ev_G := ev_inT 979 (by decide +kernel) rfl
theorem g_980 : (Jvm.Cond.methodLink "Raidline" (400 : Nat) ({ cls := "Raidline$Match", name := "isDecided", desc := "()Z" } : Jvm.MethodName)) ∈ ev_G := ev_inT 980 (by decide +kernel) rfl
theorem g_981 : (Jvm.Cond.instanceMethod ({ cls := "Raidline$Match", name := "isDecided", desc := "()Z" } : Jvm.MethodName)) ∈ ev_G := ev_inT 981 (by decide +kernel) rfl
theorem g_982 : (Jvm.Cond.selects "Raidline$Match" ({ cls := "Raidline$Match", name := "isDecided", desc := "()Z" } : Jvm.MethodName) ({ cls := "Raidline$Match", name := "isDecided", desc := "()Z" } : Jvm.MethodName)) ∈ ev_G := ev_inT 982 (by decide +kernel) rfl
theorem g_983 : (Jvm.Cond.code ({ cls := "Raidline$Match", name := "isDecided", desc := "()Z" } : Jvm.MethodName) prog_6_method_11_code (2 : Nat) (Option.some Jvm.ClassFile.FieldType.boolean)) ∈ ev_G := ev_inT 983 (by decide +kernel) rfl
theorem g_984 : (Jvm.Cond.methodLink "Raidline" (403 : Nat) ({ cls := "Raidline$Clubs", name := "enterResult", desc := "(LRaidline$Side;LRaidline$Side;)V" } : Jvm.MethodName)) ∈ ev_G := ev_inT 984 (by decide +kernel) rfl
theorem g_985 : (Jvm.Cond.instanceMethod ({ cls := "Raidline$Clubs", name := "enterResult", desc := "(LRaidline$Side;LRaidline$Side;)V" } : Jvm.MethodName)) ∈ ev_G := ev_inT 985 (by decide +kernel) rfl
theorem g_986 : (Jvm.Cond.selects "Raidline$Clubs" ({ cls := "Raidline$Clubs", name := "enterResult", desc := "(LRaidline$Side;LRaidline$Side;)V" } : Jvm.MethodName) ({ cls := "Raidline$Clubs", name := "enterResult", desc := "(LRaidline$Side;LRaidline$Side;)V" } : Jvm.MethodName)) ∈ ev_G := ev_inT 986 (by decide +kernel) rfl
theorem g_987 : (Jvm.Cond.code ({ cls := "Raidline$Clubs", name := "enterResult", desc := "(LRaidline$Side;LRaidline$Side;)V" } : Jvm.MethodName) prog_3_method_4_code (3 : Nat) (Option.none : Option Jvm.ClassFile.FieldType)) ∈ ev_G := ev_inT 987 (by decide +kernel) rfl
theorem g_988 : (Jvm.Cond.methodLink "Raidline$Clubs" (47 : Nat) ({ cls := "Raidline$Clubs", name := "enterResultOf", desc := "(II)V" } : Jvm.MethodName)) ∈ ev_G := ev_inT 988 (by decide +kernel) rfl
theorem g_990 : (Jvm.Cond.instanceMethod ({ cls := "Raidline$Clubs", name := "enterResultOf", desc := "(II)V" } : Jvm.MethodName)) ∈ ev_G := ev_inT 990 (by decide +kernel) rfl
theorem g_991 : (Jvm.Cond.code ({ cls := "Raidline$Clubs", name := "enterResultOf", desc := "(II)V" } : Jvm.MethodName) prog_3_method_6_code (3 : Nat) (Option.none : Option Jvm.ClassFile.FieldType)) ∈ ev_G := ev_inT 991 (by decide +kernel) rfl
theorem g_992 : (Jvm.Cond.methodLink "Raidline$Clubs" (54 : Nat) ({ cls := "Raidline$Row", name := "add", desc := "(II)V" } : Jvm.MethodName)) ∈ ev_G := ev_inT 992 (by decide +kernel) rfl
theorem g_993 : (Jvm.Cond.methodLink "Raidline" (302 : Nat) ({ cls := "Raidline$Raid", name := "markTold", desc := "(IZZ)V" } : Jvm.MethodName)) ∈ ev_G := ev_inT 993 (by decide +kernel) rfl
theorem g_994 : (Jvm.Cond.instanceMethod ({ cls := "Raidline$Raid", name := "markTold", desc := "(IZZ)V" } : Jvm.MethodName)) ∈ ev_G := ev_inT 994 (by decide +kernel) rfl
theorem g_995 : (Jvm.Cond.selects "Raidline$Raid" ({ cls := "Raidline$Raid", name := "markTold", desc := "(IZZ)V" } : Jvm.MethodName) ({ cls := "Raidline$Raid", name := "markTold", desc := "(IZZ)V" } : Jvm.MethodName)) ∈ ev_G := ev_inT 995 (by decide +kernel) rfl
theorem g_996 : (Jvm.Cond.code ({ cls := "Raidline$Raid", name := "markTold", desc := "(IZZ)V" } : Jvm.MethodName) prog_7_method_12_code (4 : Nat) (Option.none : Option Jvm.ClassFile.FieldType)) ∈ ev_G := ev_inT 996 (by decide +kernel) rfl
theorem g_997 : (Jvm.Cond.methodLink "Raidline$Raid" (67 : Nat) ({ cls := "Raidline$Row", name := "set", desc := "(II)V" } : Jvm.MethodName)) ∈ ev_G := ev_inT 997 (by decide +kernel) rfl
theorem g_998 : (Jvm.Cond.methodLink "Raidline" (306 : Nat) ({ cls := "Raidline$Raid", name := "spend", desc := "(I)I" } : Jvm.MethodName)) ∈ ev_G := ev_inT 998 (by decide +kernel) rfl
theorem g_999 : (Jvm.Cond.instanceMethod ({ cls := "Raidline$Raid", name := "spend", desc := "(I)I" } : Jvm.MethodName)) ∈ ev_G := ev_inT 999 (by decide +kernel) rfl
theorem g_1000 : (Jvm.Cond.selects "Raidline$Raid" ({ cls := "Raidline$Raid", name := "spend", desc := "(I)I" } : Jvm.MethodName) ({ cls := "Raidline$Raid", name := "spend", desc := "(I)I" } : Jvm.MethodName)) ∈ ev_G := ev_inT 1000 (by decide +kernel) rfl
theorem g_1001 : (Jvm.Cond.code ({ cls := "Raidline$Raid", name := "spend", desc := "(I)I" } : Jvm.MethodName) prog_7_method_5_code (2 : Nat) (Option.some Jvm.ClassFile.FieldType.int)) ∈ ev_G := ev_inT 1001 (by decide +kernel) rfl
theorem g_1002 : (Jvm.Cond.methodLink "RaidlineLaw" (74 : Nat) ({ cls := "Raidline", name := "bonus", desc := "()I" } : Jvm.MethodName)) ∈ ev_G := ev_inT 1002 (by decide +kernel) rfl
theorem g_1003 : (Jvm.Cond.instanceMethod ({ cls := "Raidline", name := "bonus", desc := "()I" } : Jvm.MethodName)) ∈ ev_G := ev_inT 1003 (by decide +kernel) rfl
theorem g_1004 : (Jvm.Cond.selects "Raidline" ({ cls := "Raidline", name := "bonus", desc := "()I" } : Jvm.MethodName) ({ cls := "Raidline", name := "bonus", desc := "()I" } : Jvm.MethodName)) ∈ ev_G := ev_inT 1004 (by decide +kernel) rfl
theorem g_1005 : (Jvm.Cond.code ({ cls := "Raidline", name := "bonus", desc := "()I" } : Jvm.MethodName) prog_1_method_34_code (1 : Nat) (Option.some Jvm.ClassFile.FieldType.int)) ∈ ev_G := ev_inT 1005 (by decide +kernel) rfl
theorem g_1006 : (Jvm.Cond.methodLink "RaidlineLaw" (77 : Nat) ({ cls := "Raidline", name := "struggle", desc := "(I)I" } : Jvm.MethodName)) ∈ ev_G := ev_inT 1006 (by decide +kernel) rfl
theorem g_1007 : (Jvm.Cond.instanceMethod ({ cls := "Raidline", name := "struggle", desc := "(I)I" } : Jvm.MethodName)) ∈ ev_G := ev_inT 1007 (by decide +kernel) rfl
theorem g_1008 : (Jvm.Cond.selects "Raidline" ({ cls := "Raidline", name := "struggle", desc := "(I)I" } : Jvm.MethodName) ({ cls := "Raidline", name := "struggle", desc := "(I)I" } : Jvm.MethodName)) ∈ ev_G := ev_inT 1008 (by decide +kernel) rfl
theorem g_1009 : (Jvm.Cond.code ({ cls := "Raidline", name := "struggle", desc := "(I)I" } : Jvm.MethodName) prog_1_method_35_code (4 : Nat) (Option.some Jvm.ClassFile.FieldType.int)) ∈ ev_G := ev_inT 1009 (by decide +kernel) rfl
theorem g_1033 : (Jvm.Cond.methodLink "RaidlineLaw" (80 : Nat) ({ cls := "Raidline", name := "stepOut", desc := "(I)I" } : Jvm.MethodName)) ∈ ev_G := ev_inT 1033 (by decide +kernel) rfl
theorem g_1034 : (Jvm.Cond.instanceMethod ({ cls := "Raidline", name := "stepOut", desc := "(I)I" } : Jvm.MethodName)) ∈ ev_G := ev_inT 1034 (by decide +kernel) rfl
theorem g_1035 : (Jvm.Cond.selects "Raidline" ({ cls := "Raidline", name := "stepOut", desc := "(I)I" } : Jvm.MethodName) ({ cls := "Raidline", name := "stepOut", desc := "(I)I" } : Jvm.MethodName)) ∈ ev_G := ev_inT 1035 (by decide +kernel) rfl
theorem g_1036 : (Jvm.Cond.code ({ cls := "Raidline", name := "stepOut", desc := "(I)I" } : Jvm.MethodName) prog_1_method_36_code (3 : Nat) (Option.some Jvm.ClassFile.FieldType.int)) ∈ ev_G := ev_inT 1036 (by decide +kernel) rfl
theorem g_1037 : (Jvm.Cond.methodLink "RaidlineLaw" (83 : Nat) ({ cls := "Raidline", name := "comeBack", desc := "()I" } : Jvm.MethodName)) ∈ ev_G := ev_inT 1037 (by decide +kernel) rfl
theorem g_1038 : (Jvm.Cond.instanceMethod ({ cls := "Raidline", name := "comeBack", desc := "()I" } : Jvm.MethodName)) ∈ ev_G := ev_inT 1038 (by decide +kernel) rfl
theorem g_1039 : (Jvm.Cond.selects "Raidline" ({ cls := "Raidline", name := "comeBack", desc := "()I" } : Jvm.MethodName) ({ cls := "Raidline", name := "comeBack", desc := "()I" } : Jvm.MethodName)) ∈ ev_G := ev_inT 1039 (by decide +kernel) rfl
theorem g_1040 : (Jvm.Cond.code ({ cls := "Raidline", name := "comeBack", desc := "()I" } : Jvm.MethodName) prog_1_method_37_code (1 : Nat) (Option.some Jvm.ClassFile.FieldType.int)) ∈ ev_G := ev_inT 1040 (by decide +kernel) rfl
theorem g_1041 : (Jvm.Cond.methodLink "Raidline" (349 : Nat) ({ cls := "Raidline", name := "bringHome", desc := "()V" } : Jvm.MethodName)) ∈ ev_G := ev_inT 1041 (by decide +kernel) rfl
theorem g_1043 : (Jvm.Cond.instanceMethod ({ cls := "Raidline", name := "bringHome", desc := "()V" } : Jvm.MethodName)) ∈ ev_G := ev_inT 1043 (by decide +kernel) rfl
theorem g_1044 : (Jvm.Cond.code ({ cls := "Raidline", name := "bringHome", desc := "()V" } : Jvm.MethodName) prog_1_method_43_code (2 : Nat) (Option.none : Option Jvm.ClassFile.FieldType)) ∈ ev_G := ev_inT 1044 (by decide +kernel) rfl
theorem g_1045 : (Jvm.Cond.methodLink "Raidline" (368 : Nat) ({ cls := "Raidline", name := "takeTouched", desc := "(LRaidline$Side;LRaidline$Side;)V" } : Jvm.MethodName)) ∈ ev_G := ev_inT 1045 (by decide +kernel) rfl
theorem g_1047 : (Jvm.Cond.instanceMethod ({ cls := "Raidline", name := "takeTouched", desc := "(LRaidline$Side;LRaidline$Side;)V" } : Jvm.MethodName)) ∈ ev_G := ev_inT 1047 (by decide +kernel) rfl
theorem g_1048 : (Jvm.Cond.code ({ cls := "Raidline", name := "takeTouched", desc := "(LRaidline$Side;LRaidline$Side;)V" } : Jvm.MethodName) prog_1_method_44_code (4 : Nat) (Option.none : Option Jvm.ClassFile.FieldType)) ∈ ev_G := ev_inT 1048 (by decide +kernel) rfl
theorem g_1049 : (Jvm.Cond.methodLink "Raidline" (378 : Nat) ({ cls := "Raidline$Raid", name := "isCalled", desc := "(I)Z" } : Jvm.MethodName)) ∈ ev_G := ev_inT 1049 (by decide +kernel) rfl
theorem g_1050 : (Jvm.Cond.instanceMethod ({ cls := "Raidline$Raid", name := "isCalled", desc := "(I)Z" } : Jvm.MethodName)) ∈ ev_G := ev_inT 1050 (by decide +kernel) rfl
theorem g_1051 : (Jvm.Cond.selects "Raidline$Raid" ({ cls := "Raidline$Raid", name := "isCalled", desc := "(I)Z" } : Jvm.MethodName) ({ cls := "Raidline$Raid", name := "isCalled", desc := "(I)Z" } : Jvm.MethodName)) ∈ ev_G := ev_inT 1051 (by decide +kernel) rfl
theorem g_1052 : (Jvm.Cond.code ({ cls := "Raidline$Raid", name := "isCalled", desc := "(I)Z" } : Jvm.MethodName) prog_7_method_9_code (2 : Nat) (Option.some Jvm.ClassFile.FieldType.boolean)) ∈ ev_G := ev_inT 1052 (by decide +kernel) rfl
theorem g_1053 : (Jvm.Cond.methodLink "RaidlineLaw" (86 : Nat) ({ cls := "Raidline", name := "card", desc := "(IC)C" } : Jvm.MethodName)) ∈ ev_G := ev_inT 1053 (by decide +kernel) rfl
theorem g_1054 : (Jvm.Cond.instanceMethod ({ cls := "Raidline", name := "card", desc := "(IC)C" } : Jvm.MethodName)) ∈ ev_G := ev_inT 1054 (by decide +kernel) rfl
theorem g_1055 : (Jvm.Cond.selects "Raidline" ({ cls := "Raidline", name := "card", desc := "(IC)C" } : Jvm.MethodName) ({ cls := "Raidline", name := "card", desc := "(IC)C" } : Jvm.MethodName)) ∈ ev_G := ev_inT 1055 (by decide +kernel) rfl
theorem g_1056 : (Jvm.Cond.code ({ cls := "Raidline", name := "card", desc := "(IC)C" } : Jvm.MethodName) prog_1_method_48_code (6 : Nat) (Option.some Jvm.ClassFile.FieldType.char)) ∈ ev_G := ev_inT 1056 (by decide +kernel) rfl
theorem g_1057 : (Jvm.Cond.methodLink "Raidline" (415 : Nat) ({ cls := "Raidline$Match", name := "sideWith", desc := "(I)LRaidline$Side;" } : Jvm.MethodName)) ∈ ev_G := ev_inT 1057 (by decide +kernel) rfl
theorem g_1058 : (Jvm.Cond.instanceMethod ({ cls := "Raidline$Match", name := "sideWith", desc := "(I)LRaidline$Side;" } : Jvm.MethodName)) ∈ ev_G := ev_inT 1058 (by decide +kernel) rfl
theorem g_1059 : (Jvm.Cond.selects "Raidline$Match" ({ cls := "Raidline$Match", name := "sideWith", desc := "(I)LRaidline$Side;" } : Jvm.MethodName) ({ cls := "Raidline$Match", name := "sideWith", desc := "(I)LRaidline$Side;" } : Jvm.MethodName)) ∈ ev_G := ev_inT 1059 (by decide +kernel) rfl
theorem g_1060 : (Jvm.Cond.code ({ cls := "Raidline$Match", name := "sideWith", desc := "(I)LRaidline$Side;" } : Jvm.MethodName) prog_6_method_5_code (2 : Nat) (Option.some (Jvm.ClassFile.FieldType.object "Raidline$Side"))) ∈ ev_G := ev_inT 1060 (by decide +kernel) rfl
theorem g_1061 : (Jvm.Cond.methodLink "Raidline$Match" (56 : Nat) ({ cls := "Raidline$Side", name := "isInPlay", desc := "(I)Z" } : Jvm.MethodName)) ∈ ev_G := ev_inT 1061 (by decide +kernel) rfl
theorem g_1062 : (Jvm.Cond.instanceMethod ({ cls := "Raidline$Side", name := "isInPlay", desc := "(I)Z" } : Jvm.MethodName)) ∈ ev_G := ev_inT 1062 (by decide +kernel) rfl
theorem g_1063 : (Jvm.Cond.selects "Raidline$Side" ({ cls := "Raidline$Side", name := "isInPlay", desc := "(I)Z" } : Jvm.MethodName) ({ cls := "Raidline$Side", name := "isInPlay", desc := "(I)Z" } : Jvm.MethodName)) ∈ ev_G := ev_inT 1063 (by decide +kernel) rfl
theorem g_1064 : (Jvm.Cond.code ({ cls := "Raidline$Side", name := "isInPlay", desc := "(I)Z" } : Jvm.MethodName) prog_10_method_6_code (2 : Nat) (Option.some Jvm.ClassFile.FieldType.boolean)) ∈ ev_G := ev_inT 1064 (by decide +kernel) rfl
theorem g_1065 : (Jvm.Cond.methodLink "Raidline" (421 : Nat) ({ cls := "Raidline$Side", name := "isInPlay", desc := "(I)Z" } : Jvm.MethodName)) ∈ ev_G := ev_inT 1065 (by decide +kernel) rfl
theorem g_1066 : (Jvm.Cond.methodLink "Raidline" (424 : Nat) ({ cls := "Raidline$Side", name := "sendOff", desc := "(I)V" } : Jvm.MethodName)) ∈ ev_G := ev_inT 1066 (by decide +kernel) rfl
theorem g_1067 : (Jvm.Cond.instanceMethod ({ cls := "Raidline$Side", name := "sendOff", desc := "(I)V" } : Jvm.MethodName)) ∈ ev_G := ev_inT 1067 (by decide +kernel) rfl
theorem g_1068 : (Jvm.Cond.selects "Raidline$Side" ({ cls := "Raidline$Side", name := "sendOff", desc := "(I)V" } : Jvm.MethodName) ({ cls := "Raidline$Side", name := "sendOff", desc := "(I)V" } : Jvm.MethodName)) ∈ ev_G := ev_inT 1068 (by decide +kernel) rfl
theorem g_1069 : (Jvm.Cond.code ({ cls := "Raidline$Side", name := "sendOff", desc := "(I)V" } : Jvm.MethodName) prog_10_method_7_code (2 : Nat) (Option.none : Option Jvm.ClassFile.FieldType)) ∈ ev_G := ev_inT 1069 (by decide +kernel) rfl
theorem g_1070 : (Jvm.Cond.methodLink "RaidlineLaw" (90 : Nat) ({ cls := "Raidline", name := "substitute", desc := "(II)I" } : Jvm.MethodName)) ∈ ev_G := ev_inT 1070 (by decide +kernel) rfl
theorem g_1071 : (Jvm.Cond.instanceMethod ({ cls := "Raidline", name := "substitute", desc := "(II)I" } : Jvm.MethodName)) ∈ ev_G := ev_inT 1071 (by decide +kernel) rfl
theorem g_1072 : (Jvm.Cond.selects "Raidline" ({ cls := "Raidline", name := "substitute", desc := "(II)I" } : Jvm.MethodName) ({ cls := "Raidline", name := "substitute", desc := "(II)I" } : Jvm.MethodName)) ∈ ev_G := ev_inT 1072 (by decide +kernel) rfl
theorem g_1073 : (Jvm.Cond.code ({ cls := "Raidline", name := "substitute", desc := "(II)I" } : Jvm.MethodName) prog_1_method_49_code (4 : Nat) (Option.some Jvm.ClassFile.FieldType.int)) ∈ ev_G := ev_inT 1073 (by decide +kernel) rfl
theorem g_1074 : (Jvm.Cond.methodLink "Raidline" (430 : Nat) ({ cls := "Raidline$Side", name := "change", desc := "(II)V" } : Jvm.MethodName)) ∈ ev_G := ev_inT 1074 (by decide +kernel) rfl
theorem g_1075 : (Jvm.Cond.instanceMethod ({ cls := "Raidline$Side", name := "change", desc := "(II)V" } : Jvm.MethodName)) ∈ ev_G := ev_inT 1075 (by decide +kernel) rfl
theorem g_1076 : (Jvm.Cond.selects "Raidline$Side" ({ cls := "Raidline$Side", name := "change", desc := "(II)V" } : Jvm.MethodName) ({ cls := "Raidline$Side", name := "change", desc := "(II)V" } : Jvm.MethodName)) ∈ ev_G := ev_inT 1076 (by decide +kernel) rfl
theorem g_1077 : (Jvm.Cond.code ({ cls := "Raidline$Side", name := "change", desc := "(II)V" } : Jvm.MethodName) prog_10_method_8_code (3 : Nat) (Option.none : Option Jvm.ClassFile.FieldType)) ∈ ev_G := ev_inT 1077 (by decide +kernel) rfl
theorem g_1078 : (Jvm.Cond.methodLink "RaidlineLaw" (93 : Nat) ({ cls := "Raidline", name := "review", desc := "(II)Z" } : Jvm.MethodName)) ∈ ev_G := ev_inT 1078 (by decide +kernel) rfl
theorem g_1079 : (Jvm.Cond.instanceMethod ({ cls := "Raidline", name := "review", desc := "(II)Z" } : Jvm.MethodName)) ∈ ev_G := ev_inT 1079 (by decide +kernel) rfl
theorem g_1080 : (Jvm.Cond.selects "Raidline" ({ cls := "Raidline", name := "review", desc := "(II)Z" } : Jvm.MethodName) ({ cls := "Raidline", name := "review", desc := "(II)Z" } : Jvm.MethodName)) ∈ ev_G := ev_inT 1080 (by decide +kernel) rfl
theorem g_1081 : (Jvm.Cond.code ({ cls := "Raidline", name := "review", desc := "(II)Z" } : Jvm.MethodName) prog_1_method_50_code (3 : Nat) (Option.some Jvm.ClassFile.FieldType.boolean)) ∈ ev_G := ev_inT 1081 (by decide +kernel) rfl
theorem g_1082 : (Jvm.Cond.methodLink "Raidline" (435 : Nat) ({ cls := "Raidline$Raid", name := "isReviewable", desc := "(I)Z" } : Jvm.MethodName)) ∈ ev_G := ev_inT 1082 (by decide +kernel) rfl
theorem g_1083 : (Jvm.Cond.instanceMethod ({ cls := "Raidline$Raid", name := "isReviewable", desc := "(I)Z" } : Jvm.MethodName)) ∈ ev_G := ev_inT 1083 (by decide +kernel) rfl
theorem g_1084 : (Jvm.Cond.selects "Raidline$Raid" ({ cls := "Raidline$Raid", name := "isReviewable", desc := "(I)Z" } : Jvm.MethodName) ({ cls := "Raidline$Raid", name := "isReviewable", desc := "(I)Z" } : Jvm.MethodName)) ∈ ev_G := ev_inT 1084 (by decide +kernel) rfl
theorem g_1085 : (Jvm.Cond.code ({ cls := "Raidline$Raid", name := "isReviewable", desc := "(I)Z" } : Jvm.MethodName) prog_7_method_11_code (2 : Nat) (Option.some Jvm.ClassFile.FieldType.boolean)) ∈ ev_G := ev_inT 1085 (by decide +kernel) rfl
theorem g_1086 : (Jvm.Cond.methodLink "Raidline" (438 : Nat) ({ cls := "Raidline", name := "wouldEmptyMat", desc := "(I)Z" } : Jvm.MethodName)) ∈ ev_G := ev_inT 1086 (by decide +kernel) rfl
theorem g_1088 : (Jvm.Cond.instanceMethod ({ cls := "Raidline", name := "wouldEmptyMat", desc := "(I)Z" } : Jvm.MethodName)) ∈ ev_G := ev_inT 1088 (by decide +kernel) rfl
theorem g_1089 : (Jvm.Cond.code ({ cls := "Raidline", name := "wouldEmptyMat", desc := "(I)Z" } : Jvm.MethodName) prog_1_method_51_code (3 : Nat) (Option.some Jvm.ClassFile.FieldType.boolean)) ∈ ev_G := ev_inT 1089 (by decide +kernel) rfl
theorem g_1090 : (Jvm.Cond.methodLink "Raidline" (450 : Nat) ({ cls := "Raidline$Match", name := "lastDefenders", desc := "()LRaidline$Side;" } : Jvm.MethodName)) ∈ ev_G := ev_inT 1090 (by decide +kernel) rfl
theorem g_1091 : (Jvm.Cond.instanceMethod ({ cls := "Raidline$Match", name := "lastDefenders", desc := "()LRaidline$Side;" } : Jvm.MethodName)) ∈ ev_G := ev_inT 1091 (by decide +kernel) rfl
theorem g_1092 : (Jvm.Cond.selects "Raidline$Match" ({ cls := "Raidline$Match", name := "lastDefenders", desc := "()LRaidline$Side;" } : Jvm.MethodName) ({ cls := "Raidline$Match", name := "lastDefenders", desc := "()LRaidline$Side;" } : Jvm.MethodName)) ∈ ev_G := ev_inT 1092 (by decide +kernel) rfl
theorem g_1093 : (Jvm.Cond.code ({ cls := "Raidline$Match", name := "lastDefenders", desc := "()LRaidline$Side;" } : Jvm.MethodName) prog_6_method_10_code (1 : Nat) (Option.some (Jvm.ClassFile.FieldType.object "Raidline$Side"))) ∈ ev_G := ev_inT 1093 (by decide +kernel) rfl
theorem g_1094 : (Jvm.Cond.methodLink "Raidline" (444 : Nat) ({ cls := "Raidline$Raid", name := "isWrong", desc := "(I)Z" } : Jvm.MethodName)) ∈ ev_G := ev_inT 1094 (by decide +kernel) rfl
theorem g_1095 : (Jvm.Cond.instanceMethod ({ cls := "Raidline$Raid", name := "isWrong", desc := "(I)Z" } : Jvm.MethodName)) ∈ ev_G := ev_inT 1095 (by decide +kernel) rfl
theorem g_1096 : (Jvm.Cond.selects "Raidline$Raid" ({ cls := "Raidline$Raid", name := "isWrong", desc := "(I)Z" } : Jvm.MethodName) ({ cls := "Raidline$Raid", name := "isWrong", desc := "(I)Z" } : Jvm.MethodName)) ∈ ev_G := ev_inT 1096 (by decide +kernel) rfl
theorem g_1097 : (Jvm.Cond.code ({ cls := "Raidline$Raid", name := "isWrong", desc := "(I)Z" } : Jvm.MethodName) prog_7_method_10_code (3 : Nat) (Option.some Jvm.ClassFile.FieldType.boolean)) ∈ ev_G := ev_inT 1097 (by decide +kernel) rfl
theorem g_1098 : (Jvm.Cond.methodLink "Raidline$Raid" (63 : Nat) ({ cls := "Raidline$Raid", name := "isCalled", desc := "(I)Z" } : Jvm.MethodName)) ∈ ev_G := ev_inT 1098 (by decide +kernel) rfl
theorem g_1099 : (Jvm.Cond.methodLink "Raidline" (441 : Nat) ({ cls := "Raidline$Raid", name := "markReviewed", desc := "(I)V" } : Jvm.MethodName)) ∈ ev_G := ev_inT 1099 (by decide +kernel) rfl
theorem g_1100 : (Jvm.Cond.instanceMethod ({ cls := "Raidline$Raid", name := "markReviewed", desc := "(I)V" } : Jvm.MethodName)) ∈ ev_G := ev_inT 1100 (by decide +kernel) rfl
theorem g_1101 : (Jvm.Cond.selects "Raidline$Raid" ({ cls := "Raidline$Raid", name := "markReviewed", desc := "(I)V" } : Jvm.MethodName) ({ cls := "Raidline$Raid", name := "markReviewed", desc := "(I)V" } : Jvm.MethodName)) ∈ ev_G := ev_inT 1101 (by decide +kernel) rfl
theorem g_1102 : (Jvm.Cond.code ({ cls := "Raidline$Raid", name := "markReviewed", desc := "(I)V" } : Jvm.MethodName) prog_7_method_14_code (2 : Nat) (Option.none : Option Jvm.ClassFile.FieldType)) ∈ ev_G := ev_inT 1102 (by decide +kernel) rfl
theorem g_1103 : (Jvm.Cond.methodLink "Raidline" (447 : Nat) ({ cls := "Raidline", name := "putRight", desc := "(I)V" } : Jvm.MethodName)) ∈ ev_G := ev_inT 1103 (by decide +kernel) rfl
theorem g_1105 : (Jvm.Cond.instanceMethod ({ cls := "Raidline", name := "putRight", desc := "(I)V" } : Jvm.MethodName)) ∈ ev_G := ev_inT 1105 (by decide +kernel) rfl
theorem g_1106 : (Jvm.Cond.code ({ cls := "Raidline", name := "putRight", desc := "(I)V" } : Jvm.MethodName) prog_1_method_52_code (3 : Nat) (Option.none : Option Jvm.ClassFile.FieldType)) ∈ ev_G := ev_inT 1106 (by decide +kernel) rfl
theorem g_1107 : (Jvm.Cond.methodLink "Raidline" (453 : Nat) ({ cls := "Raidline$Side", name := "comeOn", desc := "(I)V" } : Jvm.MethodName)) ∈ ev_G := ev_inT 1107 (by decide +kernel) rfl
theorem g_1108 : (Jvm.Cond.methodLink "Raidline" (456 : Nat) ({ cls := "Raidline$Match", name := "lastRaiders", desc := "()LRaidline$Side;" } : Jvm.MethodName)) ∈ ev_G := ev_inT 1108 (by decide +kernel) rfl
theorem g_1109 : (Jvm.Cond.instanceMethod ({ cls := "Raidline$Match", name := "lastRaiders", desc := "()LRaidline$Side;" } : Jvm.MethodName)) ∈ ev_G := ev_inT 1109 (by decide +kernel) rfl
theorem g_1110 : (Jvm.Cond.selects "Raidline$Match" ({ cls := "Raidline$Match", name := "lastRaiders", desc := "()LRaidline$Side;" } : Jvm.MethodName) ({ cls := "Raidline$Match", name := "lastRaiders", desc := "()LRaidline$Side;" } : Jvm.MethodName)) ∈ ev_G := ev_inT 1110 (by decide +kernel) rfl
theorem g_1111 : (Jvm.Cond.code ({ cls := "Raidline$Match", name := "lastRaiders", desc := "()LRaidline$Side;" } : Jvm.MethodName) prog_6_method_9_code (1 : Nat) (Option.some (Jvm.ClassFile.FieldType.object "Raidline$Side"))) ∈ ev_G := ev_inT 1111 (by decide +kernel) rfl
theorem g_1112 : (Jvm.Cond.methodLink "RaidlineLaw" (97 : Nat) ({ cls := "Raidline", name := "told", desc := "(IC)I" } : Jvm.MethodName)) ∈ ev_G := ev_inT 1112 (by decide +kernel) rfl
theorem g_1113 : (Jvm.Cond.instanceMethod ({ cls := "Raidline", name := "told", desc := "(IC)I" } : Jvm.MethodName)) ∈ ev_G := ev_inT 1113 (by decide +kernel) rfl
theorem g_1114 : (Jvm.Cond.selects "Raidline" ({ cls := "Raidline", name := "told", desc := "(IC)I" } : Jvm.MethodName) ({ cls := "Raidline", name := "told", desc := "(IC)I" } : Jvm.MethodName)) ∈ ev_G := ev_inT 1114 (by decide +kernel) rfl
theorem g_1115 : (Jvm.Cond.code ({ cls := "Raidline", name := "told", desc := "(IC)I" } : Jvm.MethodName) prog_1_method_53_code (3 : Nat) (Option.some Jvm.ClassFile.FieldType.int)) ∈ ev_G := ev_inT 1115 (by decide +kernel) rfl
theorem g_1116 : (Jvm.Cond.methodLink "RaidlineLaw" (101 : Nat) ({ cls := "Raidline", name := "league", desc := "(I)I" } : Jvm.MethodName)) ∈ ev_G := ev_inT 1116 (by decide +kernel) rfl
theorem g_1117 : (Jvm.Cond.instanceMethod ({ cls := "Raidline", name := "league", desc := "(I)I" } : Jvm.MethodName)) ∈ ev_G := ev_inT 1117 (by decide +kernel) rfl
theorem g_1118 : (Jvm.Cond.selects "Raidline" ({ cls := "Raidline", name := "league", desc := "(I)I" } : Jvm.MethodName) ({ cls := "Raidline", name := "league", desc := "(I)I" } : Jvm.MethodName)) ∈ ev_G := ev_inT 1118 (by decide +kernel) rfl
theorem g_1119 : (Jvm.Cond.code ({ cls := "Raidline", name := "league", desc := "(I)I" } : Jvm.MethodName) prog_1_method_57_code (2 : Nat) (Option.some Jvm.ClassFile.FieldType.int)) ∈ ev_G := ev_inT 1119 (by decide +kernel) rfl
theorem g_1120 : (Jvm.Cond.methodLink "RaidlineLaw" (104 : Nat) ({ cls := "Raidline", name := "placed", desc := "(I)I" } : Jvm.MethodName)) ∈ ev_G := ev_inT 1120 (by decide +kernel) rfl
theorem g_1121 : (Jvm.Cond.instanceMethod ({ cls := "Raidline", name := "placed", desc := "(I)I" } : Jvm.MethodName)) ∈ ev_G := ev_inT 1121 (by decide +kernel) rfl
theorem g_1122 : (Jvm.Cond.selects "Raidline" ({ cls := "Raidline", name := "placed", desc := "(I)I" } : Jvm.MethodName) ({ cls := "Raidline", name := "placed", desc := "(I)I" } : Jvm.MethodName)) ∈ ev_G := ev_inT 1122 (by decide +kernel) rfl
theorem g_1123 : (Jvm.Cond.code ({ cls := "Raidline", name := "placed", desc := "(I)I" } : Jvm.MethodName) prog_1_method_58_code (2 : Nat) (Option.some Jvm.ClassFile.FieldType.int)) ∈ ev_G := ev_inT 1123 (by decide +kernel) rfl
theorem g_1124 : (Jvm.Cond.methodLink "Raidline" (483 : Nat) ({ cls := "Raidline$Clubs", name := "squadAt", desc := "(I)I" } : Jvm.MethodName)) ∈ ev_G := ev_inT 1124 (by decide +kernel) rfl
theorem g_1125 : (Jvm.Cond.instanceMethod ({ cls := "Raidline$Clubs", name := "squadAt", desc := "(I)I" } : Jvm.MethodName)) ∈ ev_G := ev_inT 1125 (by decide +kernel) rfl
theorem g_1126 : (Jvm.Cond.selects "Raidline$Clubs" ({ cls := "Raidline$Clubs", name := "squadAt", desc := "(I)I" } : Jvm.MethodName) ({ cls := "Raidline$Clubs", name := "squadAt", desc := "(I)I" } : Jvm.MethodName)) ∈ ev_G := ev_inT 1126 (by decide +kernel) rfl
theorem g_1127 : (Jvm.Cond.code ({ cls := "Raidline$Clubs", name := "squadAt", desc := "(I)I" } : Jvm.MethodName) prog_3_method_5_code (3 : Nat) (Option.some Jvm.ClassFile.FieldType.int)) ∈ ev_G := ev_inT 1127 (by decide +kernel) rfl
theorem g_1128 : (Jvm.Cond.methodLink "Raidline$Clubs" (50 : Nat) ({ cls := "Raidline$Clubs", name := "placeOf", desc := "(I)I" } : Jvm.MethodName)) ∈ ev_G := ev_inT 1128 (by decide +kernel) rfl
theorem g_1130 : (Jvm.Cond.instanceMethod ({ cls := "Raidline$Clubs", name := "placeOf", desc := "(I)I" } : Jvm.MethodName)) ∈ ev_G := ev_inT 1130 (by decide +kernel) rfl
theorem g_1131 : (Jvm.Cond.code ({ cls := "Raidline$Clubs", name := "placeOf", desc := "(I)I" } : Jvm.MethodName) prog_3_method_7_code (4 : Nat) (Option.some Jvm.ClassFile.FieldType.int)) ∈ ev_G := ev_inT 1131 (by decide +kernel) rfl
theorem g_1132 : (Jvm.Cond.methodLink "Raidline$Clubs" (57 : Nat) ({ cls := "Raidline$Clubs", name := "isBetter", desc := "(II)Z" } : Jvm.MethodName)) ∈ ev_G := ev_inT 1132 (by decide +kernel) rfl
theorem g_1134 : (Jvm.Cond.instanceMethod ({ cls := "Raidline$Clubs", name := "isBetter", desc := "(II)Z" } : Jvm.MethodName)) ∈ ev_G := ev_inT 1134 (by decide +kernel) rfl
theorem g_1135 : (Jvm.Cond.code ({ cls := "Raidline$Clubs", name := "isBetter", desc := "(II)Z" } : Jvm.MethodName) prog_3_method_8_code (3 : Nat) (Option.some Jvm.ClassFile.FieldType.boolean)) ∈ ev_G := ev_inT 1135 (by decide +kernel) rfl
theorem g_1136 : (Jvm.Cond.methodLink "Raidline$Clubs" (61 : Nat) ({ cls := "Raidline$Row", name := "get", desc := "(I)I" } : Jvm.MethodName)) ∈ ev_G := ev_inT 1136 (by decide +kernel) rfl
theorem g_1137 : (Jvm.Cond.methodLink "RaidlineLaw" (107 : Nat) ({ cls := "Raidline", name := "champion", desc := "()I" } : Jvm.MethodName)) ∈ ev_G := ev_inT 1137 (by decide +kernel) rfl
theorem g_1138 : (Jvm.Cond.instanceMethod ({ cls := "Raidline", name := "champion", desc := "()I" } : Jvm.MethodName)) ∈ ev_G := ev_inT 1138 (by decide +kernel) rfl
theorem g_1139 : (Jvm.Cond.selects "Raidline" ({ cls := "Raidline", name := "champion", desc := "()I" } : Jvm.MethodName) ({ cls := "Raidline", name := "champion", desc := "()I" } : Jvm.MethodName)) ∈ ev_G := ev_inT 1139 (by decide +kernel) rfl
theorem g_1140 : (Jvm.Cond.code ({ cls := "Raidline", name := "champion", desc := "()I" } : Jvm.MethodName) prog_1_method_59_code (2 : Nat) (Option.some Jvm.ClassFile.FieldType.int)) ∈ ev_G := ev_inT 1140 (by decide +kernel) rfl
theorem g_1149 : (Jvm.Cond.constant "RaidlineLaw" (114 : Nat) (-2000000001 : Int32)) ∈ ev_G := ev_inT 1149 (by decide +kernel) rfl
theorem g_1150 : (Jvm.Cond.constant "RaidlineLaw" (117 : Nat) (-2000000002 : Int32)) ∈ ev_G := ev_inT 1150 (by decide +kernel) rfl
theorem g_1151 : (Jvm.Cond.constant "RaidlineLaw" (120 : Nat) (-2000000003 : Int32)) ∈ ev_G := ev_inT 1151 (by decide +kernel) rfl
theorem g_1152 : (Jvm.Cond.constant "RaidlineLaw" (123 : Nat) (-2000000004 : Int32)) ∈ ev_G := ev_inT 1152 (by decide +kernel) rfl
theorem g_1153 : (Jvm.Cond.constant "RaidlineLaw" (126 : Nat) (-2000000005 : Int32)) ∈ ev_G := ev_inT 1153 (by decide +kernel) rfl
theorem g_1157 : (Jvm.Cond.classLink "RaidlineLaw" (135 : Nat) "java/lang/ArithmeticException") ∈ ev_G := ev_inT 1157 (by decide +kernel) rfl
theorem g_1171 : (Jvm.Cond.methodLink "RaidlineLaw" (127 : Nat) ({ cls := "Raidline", name := "emptyShare", desc := "()F" } : Jvm.MethodName)) ∈ ev_G := ev_inT 1171 (by decide +kernel) rfl
theorem g_1172 : (Jvm.Cond.instanceMethod ({ cls := "Raidline", name := "emptyShare", desc := "()F" } : Jvm.MethodName)) ∈ ev_G := ev_inT 1172 (by decide +kernel) rfl
theorem g_1173 : (Jvm.Cond.selects "Raidline" ({ cls := "Raidline", name := "emptyShare", desc := "()F" } : Jvm.MethodName) ({ cls := "Raidline", name := "emptyShare", desc := "()F" } : Jvm.MethodName)) ∈ ev_G := ev_inT 1173 (by decide +kernel) rfl
theorem g_1174 : (Jvm.Cond.code ({ cls := "Raidline", name := "emptyShare", desc := "()F" } : Jvm.MethodName) prog_1_method_55_code (1 : Nat) (Option.some Jvm.ClassFile.FieldType.float)) ∈ ev_G := ev_inT 1174 (by decide +kernel) rfl
theorem g_1175 : (Jvm.Cond.classLink "Raidline" (476 : Nat) "java/lang/ArithmeticException") ∈ ev_G := ev_inT 1175 (by decide +kernel) rfl
theorem g_1180 : (Jvm.Cond.methodLink "RaidlineLaw" (131 : Nat) ({ cls := "Raidline", name := "meanPoints", desc := "()D" } : Jvm.MethodName)) ∈ ev_G := ev_inT 1180 (by decide +kernel) rfl
theorem g_1181 : (Jvm.Cond.instanceMethod ({ cls := "Raidline", name := "meanPoints", desc := "()D" } : Jvm.MethodName)) ∈ ev_G := ev_inT 1181 (by decide +kernel) rfl
theorem g_1182 : (Jvm.Cond.selects "Raidline" ({ cls := "Raidline", name := "meanPoints", desc := "()D" } : Jvm.MethodName) ({ cls := "Raidline", name := "meanPoints", desc := "()D" } : Jvm.MethodName)) ∈ ev_G := ev_inT 1182 (by decide +kernel) rfl
theorem g_1183 : (Jvm.Cond.code ({ cls := "Raidline", name := "meanPoints", desc := "()D" } : Jvm.MethodName) prog_1_method_56_code (1 : Nat) (Option.some Jvm.ClassFile.FieldType.double)) ∈ ev_G := ev_inT 1183 (by decide +kernel) rfl
theorem n_36 : (Jvm.Cond.methodLinkNest "Raidline" (9 : Nat) ({ cls := "Raidline$Roster", name := "<init>", desc := "()V" } : Jvm.MethodName) "Raidline") ∈ ev_N := ev_inN 36 (by decide +kernel) rfl
theorem n_53 : (Jvm.Cond.fieldLinkNest "Raidline" (290 : Nat) "Raidline$Roster" "speeds" "LRaidline$Row;" "Raidline") ∈ ev_N := ev_inN 53 (by decide +kernel) rfl
theorem n_57 : (Jvm.Cond.fieldLinkNest "Raidline" (122 : Nat) "Raidline$Roster" "bases" "LRaidline$Row;" "Raidline") ∈ ev_N := ev_inN 57 (by decide +kernel) rfl
theorem n_59 : (Jvm.Cond.fieldLinkNest "Raidline$Side" (49 : Nat) "Raidline$Roster" "squads" "LRaidline$Row;" "Raidline") ∈ ev_N := ev_inN 59 (by decide +kernel) rfl
theorem n_60 : (Jvm.Cond.fieldLinkNest "Raidline" (98 : Nat) "Raidline$Roster" "squads" "LRaidline$Row;" "Raidline") ∈ ev_N := ev_inN 60 (by decide +kernel) rfl
theorem n_64 : (Jvm.Cond.fieldLinkNest "Raidline" (182 : Nat) "Raidline$Roster" "prices" "LRaidline$Row;" "Raidline") ∈ ev_N := ev_inN 64 (by decide +kernel) rfl
theorem n_66 : (Jvm.Cond.fieldLinkNest "Raidline" (76 : Nat) "Raidline$Roster" "count" "I" "Raidline") ∈ ev_N := ev_inN 66 (by decide +kernel) rfl
theorem n_67 : (Jvm.Cond.fieldLinkNest "Raidline$Side" (44 : Nat) "Raidline$Roster" "count" "I" "Raidline") ∈ ev_N := ev_inN 67 (by decide +kernel) rfl
theorem n_87 : (Jvm.Cond.methodLinkNest "Raidline" (18 : Nat) ({ cls := "Raidline$Clubs", name := "<init>", desc := "()V" } : Jvm.MethodName) "Raidline") ∈ ev_N := ev_inN 87 (by decide +kernel) rfl
theorem n_94 : (Jvm.Cond.fieldLinkNest "Raidline" (167 : Nat) "Raidline$Clubs" "purses" "LRaidline$Row;" "Raidline") ∈ ev_N := ev_inN 94 (by decide +kernel) rfl
theorem n_98 : (Jvm.Cond.fieldLinkNest "Raidline" (481 : Nat) "Raidline$Clubs" "points" "LRaidline$Row;" "Raidline") ∈ ev_N := ev_inN 98 (by decide +kernel) rfl
theorem n_101 : (Jvm.Cond.fieldLinkNest "Raidline" (87 : Nat) "Raidline$Clubs" "count" "I" "Raidline") ∈ ev_N := ev_inN 101 (by decide +kernel) rfl
theorem n_115 : (Jvm.Cond.methodLinkNest "Raidline" (25 : Nat) ({ cls := "Raidline$Auction", name := "<init>", desc := "()V" } : Jvm.MethodName) "Raidline") ∈ ev_N := ev_inN 115 (by decide +kernel) rfl
theorem n_120 : (Jvm.Cond.fieldLinkNest "Raidline" (157 : Nat) "Raidline$Auction" "player" "I" "Raidline") ∈ ev_N := ev_inN 120 (by decide +kernel) rfl
theorem n_122 : (Jvm.Cond.fieldLinkNest "Raidline" (131 : Nat) "Raidline$Auction" "bidder" "I" "Raidline") ∈ ev_N := ev_inN 122 (by decide +kernel) rfl
theorem n_124 : (Jvm.Cond.fieldLinkNest "Raidline" (148 : Nat) "Raidline$Auction" "price" "I" "Raidline") ∈ ev_N := ev_inN 124 (by decide +kernel) rfl
theorem n_126 : (Jvm.Cond.fieldLinkNest "Raidline" (142 : Nat) "Raidline$Auction" "bids" "I" "Raidline") ∈ ev_N := ev_inN 126 (by decide +kernel) rfl
theorem n_138 : (Jvm.Cond.methodLinkNest "Raidline" (32 : Nat) ({ cls := "Raidline$Edition", name := "<init>", desc := "()V" } : Jvm.MethodName) "Raidline") ∈ ev_N := ev_inN 138 (by decide +kernel) rfl
theorem n_143 : (Jvm.Cond.fieldLinkNest "Raidline" (188 : Nat) "Raidline$Edition" "standing" "I" "Raidline") ∈ ev_N := ev_inN 143 (by decide +kernel) rfl
theorem n_145 : (Jvm.Cond.fieldLinkNest "Raidline" (315 : Nat) "Raidline$Edition" "bonusFrom" "I" "Raidline") ∈ ev_N := ev_inN 145 (by decide +kernel) rfl
theorem n_147 : (Jvm.Cond.fieldLinkNest "Raidline" (381 : Nat) "Raidline$Edition" "isRevived" "Z" "Raidline") ∈ ev_N := ev_inN 147 (by decide +kernel) rfl
theorem n_149 : (Jvm.Cond.fieldLinkNest "Raidline" (195 : Nat) "Raidline$Edition" "half" "I" "Raidline") ∈ ev_N := ev_inN 149 (by decide +kernel) rfl
theorem n_161 : (Jvm.Cond.methodLinkNest "Raidline" (39 : Nat) ({ cls := "Raidline$Match", name := "<init>", desc := "()V" } : Jvm.MethodName) "Raidline") ∈ ev_N := ev_inN 161 (by decide +kernel) rfl
theorem n_167 : (Jvm.Cond.methodLinkNest "Raidline$Match" (11 : Nat) ({ cls := "Raidline$Side", name := "<init>", desc := "()V" } : Jvm.MethodName) "Raidline") ∈ ev_N := ev_inN 167 (by decide +kernel) rfl
theorem n_173 : (Jvm.Cond.methodLinkNest "Raidline$Side" (11 : Nat) ({ cls := "Raidline$Line", name := "<init>", desc := "()V" } : Jvm.MethodName) "Raidline") ∈ ev_N := ev_inN 173 (by decide +kernel) rfl
theorem n_179 : (Jvm.Cond.fieldLinkNest "Raidline$Side" (59 : Nat) "Raidline$Line" "count" "I" "Raidline") ∈ ev_N := ev_inN 179 (by decide +kernel) rfl
theorem n_180 : (Jvm.Cond.fieldLinkNest "Raidline" (244 : Nat) "Raidline$Line" "count" "I" "Raidline") ∈ ev_N := ev_inN 180 (by decide +kernel) rfl
theorem n_187 : (Jvm.Cond.fieldLinkNest "Raidline" (240 : Nat) "Raidline$Side" "mat" "LRaidline$Line;" "Raidline") ∈ ev_N := ev_inN 187 (by decide +kernel) rfl
theorem n_189 : (Jvm.Cond.fieldLinkNest "Raidline" (253 : Nat) "Raidline$Side" "out" "LRaidline$Line;" "Raidline") ∈ ev_N := ev_inN 189 (by decide +kernel) rfl
theorem n_191 : (Jvm.Cond.fieldLinkNest "Raidline" (256 : Nat) "Raidline$Side" "bench" "LRaidline$Line;" "Raidline") ∈ ev_N := ev_inN 191 (by decide +kernel) rfl
theorem n_193 : (Jvm.Cond.fieldLinkNest "Raidline$Clubs" (40 : Nat) "Raidline$Side" "squad" "I" "Raidline") ∈ ev_N := ev_inN 193 (by decide +kernel) rfl
theorem n_194 : (Jvm.Cond.fieldLinkNest "Raidline$Match" (53 : Nat) "Raidline$Side" "squad" "I" "Raidline") ∈ ev_N := ev_inN 194 (by decide +kernel) rfl
theorem n_195 : (Jvm.Cond.fieldLinkNest "Raidline" (511 : Nat) "Raidline$Side" "squad" "I" "Raidline") ∈ ev_N := ev_inN 195 (by decide +kernel) rfl
theorem n_197 : (Jvm.Cond.fieldLinkNest "Raidline$Clubs" (45 : Nat) "Raidline$Side" "points" "I" "Raidline") ∈ ev_N := ev_inN 197 (by decide +kernel) rfl
theorem n_199 : (Jvm.Cond.fieldLinkNest "Raidline" (234 : Nat) "Raidline$Side" "points" "I" "Raidline") ∈ ev_N := ev_inN 199 (by decide +kernel) rfl
theorem n_201 : (Jvm.Cond.fieldLinkNest "Raidline" (275 : Nat) "Raidline$Side" "emptyRaids" "I" "Raidline") ∈ ev_N := ev_inN 201 (by decide +kernel) rfl
theorem n_203 : (Jvm.Cond.fieldLinkNest "Raidline" (427 : Nat) "Raidline$Side" "changes" "I" "Raidline") ∈ ev_N := ev_inN 203 (by decide +kernel) rfl
theorem n_205 : (Jvm.Cond.fieldLinkNest "Raidline" (432 : Nat) "Raidline$Side" "hasReview" "Z" "Raidline") ∈ ev_N := ev_inN 205 (by decide +kernel) rfl
theorem n_226 : (Jvm.Cond.fieldLinkNest "Raidline" (202 : Nat) "Raidline$Match" "first" "LRaidline$Side;" "Raidline") ∈ ev_N := ev_inN 226 (by decide +kernel) rfl
theorem n_228 : (Jvm.Cond.fieldLinkNest "Raidline" (212 : Nat) "Raidline$Match" "other" "LRaidline$Side;" "Raidline") ∈ ev_N := ev_inN 228 (by decide +kernel) rfl
theorem n_230 : (Jvm.Cond.fieldLinkNest "Raidline" (418 : Nat) "Raidline$Match" "greens" "LRaidline$Row;" "Raidline") ∈ ev_N := ev_inN 230 (by decide +kernel) rfl
theorem n_232 : (Jvm.Cond.fieldLinkNest "Raidline" (406 : Nat) "Raidline$Match" "sittings" "LRaidline$Row;" "Raidline") ∈ ev_N := ev_inN 232 (by decide +kernel) rfl
theorem n_234 : (Jvm.Cond.fieldLinkNest "Raidline" (108 : Nat) "Raidline$Match" "isOn" "Z" "Raidline") ∈ ev_N := ev_inN 234 (by decide +kernel) rfl
theorem n_238 : (Jvm.Cond.fieldLinkNest "Raidline" (224 : Nat) "Raidline$Match" "raidsOver" "I" "Raidline") ∈ ev_N := ev_inN 238 (by decide +kernel) rfl
theorem n_240 : (Jvm.Cond.fieldLinkNest "Raidline" (218 : Nat) "Raidline$Match" "begun" "I" "Raidline") ∈ ev_N := ev_inN 240 (by decide +kernel) rfl
theorem n_262 : (Jvm.Cond.methodLinkNest "Raidline" (46 : Nat) ({ cls := "Raidline$Raid", name := "<init>", desc := "()V" } : Jvm.MethodName) "Raidline") ∈ ev_N := ev_inN 262 (by decide +kernel) rfl
theorem n_270 : (Jvm.Cond.fieldLinkNest "Raidline" (352 : Nat) "Raidline$Raid" "isOn" "Z" "Raidline") ∈ ev_N := ev_inN 270 (by decide +kernel) rfl
theorem n_272 : (Jvm.Cond.fieldLinkNest "Raidline" (281 : Nat) "Raidline$Raid" "isDoOrDie" "Z" "Raidline") ∈ ev_N := ev_inN 272 (by decide +kernel) rfl
theorem n_274 : (Jvm.Cond.fieldLinkNest "Raidline" (365 : Nat) "Raidline$Raid" "isReturned" "Z" "Raidline") ∈ ev_N := ev_inN 274 (by decide +kernel) rfl
theorem n_276 : (Jvm.Cond.fieldLinkNest "Raidline" (394 : Nat) "Raidline$Raid" "isAllOut" "Z" "Raidline") ∈ ev_N := ev_inN 276 (by decide +kernel) rfl
theorem n_278 : (Jvm.Cond.fieldLinkNest "Raidline" (293 : Nat) "Raidline$Raid" "raider" "I" "Raidline") ∈ ev_N := ev_inN 278 (by decide +kernel) rfl
theorem n_280 : (Jvm.Cond.fieldLinkNest "Raidline" (312 : Nat) "Raidline$Raid" "stood" "I" "Raidline") ∈ ev_N := ev_inN 280 (by decide +kernel) rfl
theorem n_283 : (Jvm.Cond.fieldLinkNest "Raidline" (309 : Nat) "Raidline$Raid" "bonus" "I" "Raidline") ∈ ev_N := ev_inN 283 (by decide +kernel) rfl
theorem n_285 : (Jvm.Cond.fieldLinkNest "Raidline" (343 : Nat) "Raidline$Raid" "steps" "I" "Raidline") ∈ ev_N := ev_inN 285 (by decide +kernel) rfl
theorem n_287 : (Jvm.Cond.fieldLinkNest "Raidline" (372 : Nat) "Raidline$Raid" "touches" "I" "Raidline") ∈ ev_N := ev_inN 287 (by decide +kernel) rfl
theorem n_313 : (Jvm.Cond.methodLinkNest "Raidline" (53 : Nat) ({ cls := "Raidline$Statistics", name := "<init>", desc := "()V" } : Jvm.MethodName) "Raidline") ∈ ev_N := ev_inN 313 (by decide +kernel) rfl
theorem n_320 : (Jvm.Cond.fieldLinkNest "Raidline" (318 : Nat) "Raidline$Statistics" "raidPoints" "LRaidline$Row;" "Raidline") ∈ ev_N := ev_inN 320 (by decide +kernel) rfl
theorem n_322 : (Jvm.Cond.fieldLinkNest "Raidline" (356 : Nat) "Raidline$Statistics" "tacklePoints" "LRaidline$Row;" "Raidline") ∈ ev_N := ev_inN 322 (by decide +kernel) rfl
theorem n_324 : (Jvm.Cond.fieldLinkNest "Raidline" (375 : Nat) "Raidline$Statistics" "superRaids" "LRaidline$Row;" "Raidline") ∈ ev_N := ev_inN 324 (by decide +kernel) rfl
theorem n_326 : (Jvm.Cond.fieldLinkNest "Raidline" (459 : Nat) "Raidline$Statistics" "raidsOf" "LRaidline$Row;" "Raidline") ∈ ev_N := ev_inN 326 (by decide +kernel) rfl
theorem n_328 : (Jvm.Cond.fieldLinkNest "Raidline" (473 : Nat) "Raidline$Statistics" "raids" "I" "Raidline") ∈ ev_N := ev_inN 328 (by decide +kernel) rfl
theorem n_330 : (Jvm.Cond.fieldLinkNest "Raidline" (479 : Nat) "Raidline$Statistics" "emptyRaids" "I" "Raidline") ∈ ev_N := ev_inN 330 (by decide +kernel) rfl
theorem n_332 : (Jvm.Cond.fieldLinkNest "Raidline" (480 : Nat) "Raidline$Statistics" "points" "I" "Raidline") ∈ ev_N := ev_inN 332 (by decide +kernel) rfl
theorem n_350 : (Jvm.Cond.methodLinkNest "Raidline" (60 : Nat) ({ cls := "Raidline$Values", name := "<init>", desc := "()V" } : Jvm.MethodName) "Raidline") ∈ ev_N := ev_inN 350 (by decide +kernel) rfl
theorem n_620 : (Jvm.Cond.castable "java/lang/IllegalArgumentException" "java/lang/IllegalArgumentException") ∈ ev_N := ev_inN 620 (by decide +kernel) rfl
theorem n_641 : (Jvm.Cond.castable "java/lang/IllegalStateException" "java/lang/IllegalStateException") ∈ ev_N := ev_inN 641 (by decide +kernel) rfl
theorem n_681 : (Jvm.Cond.castable "java/lang/IndexOutOfBoundsException" "java/lang/IndexOutOfBoundsException") ∈ ev_N := ev_inN 681 (by decide +kernel) rfl
theorem n_696 : (Jvm.Cond.castable "java/lang/UnsupportedOperationException" "java/lang/UnsupportedOperationException") ∈ ev_N := ev_inN 696 (by decide +kernel) rfl
theorem n_869 : (Jvm.Cond.castable "java/util/NoSuchElementException" "java/util/NoSuchElementException") ∈ ev_N := ev_inN 869 (by decide +kernel) rfl
theorem n_1169 : (Jvm.Cond.castable "java/lang/ArithmeticException" "java/lang/ArithmeticException") ∈ ev_N := ev_inN 1169 (by decide +kernel) rfl
theorem sp_0 : Cond.selects "Raidline" (⟨"Raidline", "isEachInOnePlace", "()Z"⟩ : MethodName) (⟨"Raidline", "isEachInOnePlace", "()Z"⟩ : MethodName) ∈ ev_G := ev_in (List.mem_append_left _ (List.mem_of_getElem? (i := 0) (by decide +kernel))) rfl
theorem sp_1 : Cond.selects "Raidline" (⟨"Raidline", "isEachInOneSquad", "()Z"⟩ : MethodName) (⟨"Raidline", "isEachInOneSquad", "()Z"⟩ : MethodName) ∈ ev_G := ev_in (List.mem_append_left _ (List.mem_of_getElem? (i := 1) (by decide +kernel))) rfl
theorem sp_2 : Cond.selects "Raidline" (⟨"Raidline", "arePursesRight", "()Z"⟩ : MethodName) (⟨"Raidline", "arePursesRight", "()Z"⟩ : MethodName) ∈ ev_G := ev_in (List.mem_append_left _ (List.mem_of_getElem? (i := 2) (by decide +kernel))) rfl
theorem sp_3 : Cond.selects "Raidline$Values" (⟨"Raidline$Values", "lookAhead", "(IIIII)D"⟩ : MethodName) (⟨"Raidline$Values", "lookAhead", "(IIIII)D"⟩ : MethodName) ∈ ev_G := ev_in (List.mem_append_left _ (List.mem_of_getElem? (i := 3) (by decide +kernel))) rfl
theorem sp_4 : Cond.selects "Raidline$Values" (⟨"Raidline$Values", "keep", "(ID)V"⟩ : MethodName) (⟨"Raidline$Values", "keep", "(ID)V"⟩ : MethodName) ∈ ev_G := ev_in (List.mem_append_left _ (List.mem_of_getElem? (i := 4) (by decide +kernel))) rfl
theorem sp_5 : Cond.selects "Raidline$Values" (⟨"Raidline$Values", "solveOneMore", "()V"⟩ : MethodName) (⟨"Raidline$Values", "solveOneMore", "()V"⟩ : MethodName) ∈ ev_G := ev_in (List.mem_append_left _ (List.mem_of_getElem? (i := 5) (by decide +kernel))) rfl
theorem sp_6 : Cond.selects "Raidline$Values" (⟨"Raidline$Values", "solvePair", "(II)V"⟩ : MethodName) (⟨"Raidline$Values", "solvePair", "(II)V"⟩ : MethodName) ∈ ev_G := ev_in (List.mem_append_left _ (List.mem_of_getElem? (i := 6) (by decide +kernel))) rfl
theorem sp_8 : Cond.selects "Raidline" (⟨"Raidline", "needPlayer", "(I)V"⟩ : MethodName) (⟨"Raidline", "needPlayer", "(I)V"⟩ : MethodName) ∈ ev_G := ev_in (List.mem_append_left _ (List.mem_of_getElem? (i := 8) (by decide +kernel))) rfl
theorem sp_9 : Cond.selects "Raidline" (⟨"Raidline", "needSquad", "(I)V"⟩ : MethodName) (⟨"Raidline", "needSquad", "(I)V"⟩ : MethodName) ∈ ev_G := ev_in (List.mem_append_left _ (List.mem_of_getElem? (i := 9) (by decide +kernel))) rfl
theorem sp_10 : Cond.selects "Raidline" (⟨"Raidline", "lowestBid", "()I"⟩ : MethodName) (⟨"Raidline", "lowestBid", "()I"⟩ : MethodName) ∈ ev_G := ev_in (List.mem_append_left _ (List.mem_of_getElem? (i := 10) (by decide +kernel))) rfl
theorem sp_11 : Cond.selects "Raidline" (⟨"Raidline", "canTake", "(II)Z"⟩ : MethodName) (⟨"Raidline", "canTake", "(II)Z"⟩ : MethodName) ∈ ev_G := ev_in (List.mem_append_left _ (List.mem_of_getElem? (i := 11) (by decide +kernel))) rfl
theorem sp_13 : Cond.selects "Raidline" (⟨"Raidline", "sell", "(III)V"⟩ : MethodName) (⟨"Raidline", "sell", "(III)V"⟩ : MethodName) ∈ ev_G := ev_in (List.mem_append_left _ (List.mem_of_getElem? (i := 13) (by decide +kernel))) rfl
theorem sp_14 : Cond.selects "Raidline$Match" (⟨"Raidline$Match", "sideOfRaid", "(I)I"⟩ : MethodName) (⟨"Raidline$Match", "sideOfRaid", "(I)I"⟩ : MethodName) ∈ ev_G := ev_in (List.mem_append_left _ (List.mem_of_getElem? (i := 14) (by decide +kernel))) rfl
theorem sp_15 : Cond.selects "Raidline" (⟨"Raidline", "playingSide", "(I)LRaidline$Side;"⟩ : MethodName) (⟨"Raidline", "playingSide", "(I)LRaidline$Side;"⟩ : MethodName) ∈ ev_G := ev_in (List.mem_append_left _ (List.mem_of_getElem? (i := 15) (by decide +kernel))) rfl
theorem sp_16 : Cond.selects "Raidline" (⟨"Raidline", "needPause", "()V"⟩ : MethodName) (⟨"Raidline", "needPause", "()V"⟩ : MethodName) ∈ ev_G := ev_in (List.mem_append_left _ (List.mem_of_getElem? (i := 16) (by decide +kernel))) rfl
theorem sp_17 : Cond.selects "Raidline" (⟨"Raidline", "needRaid", "()V"⟩ : MethodName) (⟨"Raidline", "needRaid", "()V"⟩ : MethodName) ∈ ev_G := ev_in (List.mem_append_left _ (List.mem_of_getElem? (i := 17) (by decide +kernel))) rfl
theorem sp_19 : Cond.selects "Raidline" (⟨"Raidline", "closeRaid", "(IIIZ)V"⟩ : MethodName) (⟨"Raidline", "closeRaid", "(IIIZ)V"⟩ : MethodName) ∈ ev_G := ev_in (List.mem_append_left _ (List.mem_of_getElem? (i := 19) (by decide +kernel))) rfl
theorem sp_20 : Cond.selects "Raidline" (⟨"Raidline", "endSittings", "()V"⟩ : MethodName) (⟨"Raidline", "endSittings", "()V"⟩ : MethodName) ∈ ev_G := ev_in (List.mem_append_left _ (List.mem_of_getElem? (i := 20) (by decide +kernel))) rfl
theorem sp_21 : Cond.selects "Raidline" (⟨"Raidline", "allOut", "(LRaidline$Side;LRaidline$Side;)I"⟩ : MethodName) (⟨"Raidline", "allOut", "(LRaidline$Side;LRaidline$Side;)I"⟩ : MethodName) ∈ ev_G := ev_in (List.mem_append_left _ (List.mem_of_getElem? (i := 21) (by decide +kernel))) rfl
theorem sp_22 : Cond.selects "Raidline$Clubs" (⟨"Raidline$Clubs", "enterResultOf", "(II)V"⟩ : MethodName) (⟨"Raidline$Clubs", "enterResultOf", "(II)V"⟩ : MethodName) ∈ ev_G := ev_in (List.mem_append_left _ (List.mem_of_getElem? (i := 22) (by decide +kernel))) rfl
theorem sp_25 : Cond.selects "Raidline" (⟨"Raidline", "bringHome", "()V"⟩ : MethodName) (⟨"Raidline", "bringHome", "()V"⟩ : MethodName) ∈ ev_G := ev_in (List.mem_append_left _ (List.mem_of_getElem? (i := 25) (by decide +kernel))) rfl
theorem sp_26 : Cond.selects "Raidline" (⟨"Raidline", "takeTouched", "(LRaidline$Side;LRaidline$Side;)V"⟩ : MethodName) (⟨"Raidline", "takeTouched", "(LRaidline$Side;LRaidline$Side;)V"⟩ : MethodName) ∈ ev_G := ev_in (List.mem_append_left _ (List.mem_of_getElem? (i := 26) (by decide +kernel))) rfl
theorem sp_27 : Cond.selects "Raidline" (⟨"Raidline", "wouldEmptyMat", "(I)Z"⟩ : MethodName) (⟨"Raidline", "wouldEmptyMat", "(I)Z"⟩ : MethodName) ∈ ev_G := ev_in (List.mem_append_left _ (List.mem_of_getElem? (i := 27) (by decide +kernel))) rfl
theorem sp_28 : Cond.selects "Raidline" (⟨"Raidline", "putRight", "(I)V"⟩ : MethodName) (⟨"Raidline", "putRight", "(I)V"⟩ : MethodName) ∈ ev_G := ev_in (List.mem_append_left _ (List.mem_of_getElem? (i := 28) (by decide +kernel))) rfl
theorem sp_29 : Cond.selects "Raidline$Clubs" (⟨"Raidline$Clubs", "placeOf", "(I)I"⟩ : MethodName) (⟨"Raidline$Clubs", "placeOf", "(I)I"⟩ : MethodName) ∈ ev_G := ev_in (List.mem_append_left _ (List.mem_of_getElem? (i := 29) (by decide +kernel))) rfl
theorem sp_30 : Cond.selects "Raidline$Clubs" (⟨"Raidline$Clubs", "isBetter", "(II)Z"⟩ : MethodName) (⟨"Raidline$Clubs", "isBetter", "(II)Z"⟩ : MethodName) ∈ ev_G := ev_in (List.mem_append_left _ (List.mem_of_getElem? (i := 30) (by decide +kernel))) rfl
theorem cl_0 : ev_cl[0]? = some (RX0, TX0, 4) := rfl
theorem in_X0 : ∀ v ∈ u_ws RX0 TX0 4, v ∈ ev_G := by decide +kernel
theorem nv_X0 : ∀ X ρ, vl X ρ [.inl 0, .inl 0, .inl 0, .inl 0] [.int (nI 0), .int (nI 0), .int (nI 0), .int (nI 0)] := fun _ _ => ⟨⟨by decide, rfl⟩, ⟨by decide, rfl⟩, ⟨by decide, rfl⟩, ⟨by decide, rfl⟩, trivial⟩
theorem nf_X0 : ∀ j, j < 4 → defaultValue (tyX0 j) = vp_V [.int (nI 0), .int (nI 0), .int (nI 0), .int (nI 0)] j := by decide +kernel
theorem cl_1 : ev_cl[1]? = some (RX1, TX1, 5) := rfl
theorem in_X1 : ∀ v ∈ u_ws RX1 TX1 5, v ∈ ev_G := by decide +kernel
theorem nv_X1 : ∀ X ρ, vl X ρ [.inr (.inl 0), .inr (.inl 0), .inr (.inl 0), .inr (.inl 0), .inl 0] [.null, .null, .null, .null, .int (nI 0)] := fun _ _ => ⟨rfl, rfl, rfl, rfl, ⟨by decide, rfl⟩, trivial⟩
theorem nf_X1 : ∀ j, j < 5 → defaultValue (tyX1 j) = vp_V [.null, .null, .null, .null, .int (nI 0)] j := by decide +kernel
theorem cl_2 : ev_cl[2]? = some (RX2, TX2, 4) := rfl
theorem in_X2 : ∀ v ∈ u_ws RX2 TX2 4, v ∈ ev_G := by decide +kernel
theorem nv_X2 : ∀ X ρ, vl X ρ [.inl 0, .inl 0, .inl 0, .inl 0] [.int (nI 0), .int (nI 0), .int (nI 0), .int (nI 0)] := fun _ _ => ⟨⟨by decide, rfl⟩, ⟨by decide, rfl⟩, ⟨by decide, rfl⟩, ⟨by decide, rfl⟩, trivial⟩
theorem nf_X2 : ∀ j, j < 4 → defaultValue (tyX2 j) = vp_V [.int (nI 0), .int (nI 0), .int (nI 0), .int (nI 0)] j := by decide +kernel
theorem cl_3 : ev_cl[3]? = some (RX3, TX3, 2) := rfl
theorem in_X3 : ∀ v ∈ u_ws RX3 TX3 2, v ∈ ev_G := by decide +kernel
theorem nv_X3 : ∀ X ρ, vl X ρ [.inr (.inl 0), .inl 0] [.null, .int (nI 0)] := fun _ _ => ⟨rfl, ⟨by decide, rfl⟩, trivial⟩
theorem nf_X3 : ∀ j, j < 2 → defaultValue (tyX3 j) = vp_V [.null, .int (nI 0)] j := by decide +kernel
theorem cl_4 : ev_cl[4]? = some (RX4, TX4, 9) := rfl
theorem in_X4 : ∀ v ∈ u_ws RX4 TX4 9, v ∈ ev_G := by decide +kernel
theorem nv_X4 : ∀ X ρ, vl X ρ [.inr (.inl 0), .inr (.inl 0), .inr (.inl 0), .inr (.inl 0), .inl 0, .inl 0, .inl 0, .inl 0, .inl 0] [.null, .null, .null, .null, .int (nI 0), .int (nI 0), .int (nI 0), .int (nI 0), .int (nI 0)] := fun _ _ => ⟨rfl, rfl, rfl, rfl, ⟨by decide, rfl⟩, ⟨by decide, rfl⟩, ⟨by decide, rfl⟩, ⟨by decide, rfl⟩, ⟨by decide, rfl⟩, trivial⟩
theorem nf_X4 : ∀ j, j < 9 → defaultValue (tyX4 j) = vp_V [.null, .null, .null, .null, .int (nI 0), .int (nI 0), .int (nI 0), .int (nI 0), .int (nI 0)] j := by decide +kernel
theorem cl_5 : ev_cl[5]? = some (RX5, TX5, 11) := rfl
theorem in_X5 : ∀ v ∈ u_ws RX5 TX5 11, v ∈ ev_G := by decide +kernel
theorem nv_X5 : ∀ X ρ, vl X ρ [.inr (.inl 0), .inl 0, .inl 0, .inl 0, .inl 0, .inl 0, .inl 0, .inl 0, .inl 0, .inl 0, .inl 0] [.null, .int (nI 0), .int (nI 0), .int (nI 0), .int (nI 0), .int (nI 0), .int (nI 0), .int (nI 0), .int (nI 0), .int (nI 0), .int (nI 0)] := fun _ _ => ⟨rfl, ⟨by decide, rfl⟩, ⟨by decide, rfl⟩, ⟨by decide, rfl⟩, ⟨by decide, rfl⟩, ⟨by decide, rfl⟩, ⟨by decide, rfl⟩, ⟨by decide, rfl⟩, ⟨by decide, rfl⟩, ⟨by decide, rfl⟩, ⟨by decide, rfl⟩, trivial⟩
theorem nf_X5 : ∀ j, j < 11 → defaultValue (tyX5 j) = vp_V [.null, .int (nI 0), .int (nI 0), .int (nI 0), .int (nI 0), .int (nI 0), .int (nI 0), .int (nI 0), .int (nI 0), .int (nI 0), .int (nI 0)] j := by decide +kernel
theorem cl_6 : ev_cl[6]? = some (RX6, TX6, 8) := rfl
theorem in_X6 : ∀ v ∈ u_ws RX6 TX6 8, v ∈ ev_G := by decide +kernel
theorem nv_X6 : ∀ X ρ, vl X ρ [.inr (.inl 0), .inr (.inl 0), .inr (.inl 0), .inr (.inl 0), .inr (.inl 0), .inr (.inl 0), .inr (.inl 0), .inl 0] [.null, .null, .null, .null, .null, .null, .null, .int (nI 0)] := fun _ _ => ⟨rfl, rfl, rfl, rfl, rfl, rfl, rfl, ⟨by decide, rfl⟩, trivial⟩
theorem nf_X6 : ∀ j, j < 8 → defaultValue (tyX6 j) = vp_V [.null, .null, .null, .null, .null, .null, .null, .int (nI 0)] j := by decide +kernel
theorem cl_7 : ev_cl[7]? = some (RX7, TX7, 1) := rfl
theorem in_X7 : ∀ v ∈ u_ws RX7 TX7 1, v ∈ ev_G := by decide +kernel
theorem nv_X7 : ∀ X ρ, vl X ρ [.inr (.inl 0)] [.null] := fun _ _ => ⟨rfl, trivial⟩
theorem nf_X7 : ∀ j, j < 1 → defaultValue (tyX7 j) = vp_V [.null] j := by decide +kernel
theorem cl_8 : ev_cl[8]? = some (RX8, TX8, 8) := rfl
theorem in_X8 : ∀ v ∈ u_ws RX8 TX8 8, v ∈ ev_G := by decide +kernel
theorem nv_X8 : ∀ X ρ, vl X ρ [.inr (.inl 0), .inr (.inl 0), .inr (.inl 0), .inl 0, .inl 0, .inl 0, .inl 0, .inl 0] [.null, .null, .null, .int (nI 0), .int (nI 0), .int (nI 0), .int (nI 0), .int (nI 0)] := fun _ _ => ⟨rfl, rfl, rfl, ⟨by decide, rfl⟩, ⟨by decide, rfl⟩, ⟨by decide, rfl⟩, ⟨by decide, rfl⟩, ⟨by decide, rfl⟩, trivial⟩
theorem nf_X8 : ∀ j, j < 8 → defaultValue (tyX8 j) = vp_V [.null, .null, .null, .int (nI 0), .int (nI 0), .int (nI 0), .int (nI 0), .int (nI 0)] j := by decide +kernel
theorem cl_9 : ev_cl[9]? = some (RX9, TX9, 7) := rfl
theorem in_X9 : ∀ v ∈ u_ws RX9 TX9 7, v ∈ ev_G := by decide +kernel
theorem nv_X9 : ∀ X ρ, vl X ρ [.inr (.inl 0), .inr (.inl 0), .inr (.inl 0), .inr (.inl 0), .inl 0, .inl 0, .inl 0] [.null, .null, .null, .null, .int (nI 0), .int (nI 0), .int (nI 0)] := fun _ _ => ⟨rfl, rfl, rfl, rfl, ⟨by decide, rfl⟩, ⟨by decide, rfl⟩, ⟨by decide, rfl⟩, trivial⟩
theorem nf_X9 : ∀ j, j < 7 → defaultValue (tyX9 j) = vp_V [.null, .null, .null, .null, .int (nI 0), .int (nI 0), .int (nI 0)] j := by decide +kernel
theorem cl_10 : ev_cl[10]? = some (RX10, TX10, 8) := rfl
theorem in_X10 : ∀ v ∈ u_ws RX10 TX10 8, v ∈ ev_G := by decide +kernel
theorem nv_X10 : ∀ X ρ, vl X ρ [.inr (.inl 0), .inr (.inl 0), .inl 0, .inl 0, .inl 0, .inl 0, .inl 0, .inl 0] [.null, .null, .int (nI 0), .int (nI 0), .int (nI 0), .int (nI 0), .int (nI 0), .int (nI 0)] := fun _ _ => ⟨rfl, rfl, ⟨by decide, rfl⟩, ⟨by decide, rfl⟩, ⟨by decide, rfl⟩, ⟨by decide, rfl⟩, ⟨by decide, rfl⟩, ⟨by decide, rfl⟩, trivial⟩
theorem nf_X10 : ∀ j, j < 8 → defaultValue (tyX10 j) = vp_V [.null, .null, .int (nI 0), .int (nI 0), .int (nI 0), .int (nI 0), .int (nI 0), .int (nI 0)] j := by decide +kernel
theorem cl_11 : ev_cl[11]? = some (RX11, TX11, 8) := rfl
theorem in_X11 : ∀ v ∈ u_ws RX11 TX11 8, v ∈ ev_G := by decide +kernel
theorem nv_X11 : ∀ X ρ, vl X ρ [.inr (.inl 0), .inr (.inl 0), .inr (.inl 0), .inr (.inl 0), .inr (.inl 0), .inr (.inl 0), .inr (.inl 0), .inr (.inl 0)] [.null, .null, .null, .null, .null, .null, .null, .null] := fun _ _ => ⟨rfl, rfl, rfl, rfl, rfl, rfl, rfl, rfl, trivial⟩
theorem nf_X11 : ∀ j, j < 8 → defaultValue (tyX11 j) = vp_V [.null, .null, .null, .null, .null, .null, .null, .null] j := by decide +kernel
theorem th_RX11_1_a : ∀ v ∈ vx_at0 RX11 75 "java/lang/IllegalArgumentException" ["java/lang/RuntimeException", "java/lang/Exception"], v ∈ lw_tbl ∧ (goodWord v || ev_nk v) = true := by decide +kernel
theorem th_RX11_1_g : ∀ v ∈ Cond.classLink RX11 73 "java/lang/IllegalArgumentException" :: Cond.initialized "java/lang/IllegalArgumentException" :: vx_at0 RX11 75 "java/lang/IllegalArgumentException" ["java/lang/RuntimeException", "java/lang/Exception"], vx_ot v = true := by decide +kernel
theorem th_RX11_1_f : Bundle.fit "java/lang/IllegalArgumentException" = true := by decide +kernel
theorem th_RX11_1_n : ∀ n ∈ ["java/lang/RuntimeException", "java/lang/Exception"], Bundle.fit n = true := by decide +kernel
theorem th_RX11_2_a : ∀ v ∈ vx_at0 RX11 82 "java/lang/IllegalStateException" ["java/lang/RuntimeException", "java/lang/Exception"], v ∈ lw_tbl ∧ (goodWord v || ev_nk v) = true := by decide +kernel
theorem th_RX11_2_g : ∀ v ∈ Cond.classLink RX11 80 "java/lang/IllegalStateException" :: Cond.initialized "java/lang/IllegalStateException" :: vx_at0 RX11 82 "java/lang/IllegalStateException" ["java/lang/RuntimeException", "java/lang/Exception"], vx_ot v = true := by decide +kernel
theorem th_RX11_2_f : Bundle.fit "java/lang/IllegalStateException" = true := by decide +kernel
theorem th_RX11_2_n : ∀ n ∈ ["java/lang/RuntimeException", "java/lang/Exception"], Bundle.fit n = true := by decide +kernel
theorem th_RX11_3_a : ∀ v ∈ vx_at0 RX11 114 "java/lang/UnsupportedOperationException" ["java/lang/RuntimeException", "java/lang/Exception"], v ∈ lw_tbl ∧ (goodWord v || ev_nk v) = true := by decide +kernel
theorem th_RX11_3_g : ∀ v ∈ Cond.classLink RX11 112 "java/lang/UnsupportedOperationException" :: Cond.initialized "java/lang/UnsupportedOperationException" :: vx_at0 RX11 114 "java/lang/UnsupportedOperationException" ["java/lang/RuntimeException", "java/lang/Exception"], vx_ot v = true := by decide +kernel
theorem th_RX11_3_f : Bundle.fit "java/lang/UnsupportedOperationException" = true := by decide +kernel
theorem th_RX11_3_n : ∀ n ∈ ["java/lang/RuntimeException", "java/lang/Exception"], Bundle.fit n = true := by decide +kernel
theorem th_RX11_5_a : ∀ v ∈ vx_at0 RX11 478 "java/lang/ArithmeticException" ["java/lang/RuntimeException", "java/lang/Exception"], v ∈ lw_tbl ∧ (goodWord v || ev_nk v) = true := by decide +kernel
theorem th_RX11_5_g : ∀ v ∈ Cond.classLink RX11 476 "java/lang/ArithmeticException" :: Cond.initialized "java/lang/ArithmeticException" :: vx_at0 RX11 478 "java/lang/ArithmeticException" ["java/lang/RuntimeException", "java/lang/Exception"], vx_ot v = true := by decide +kernel
theorem th_RX11_5_f : Bundle.fit "java/lang/ArithmeticException" = true := by decide +kernel
theorem th_RX11_5_n : ∀ n ∈ ["java/lang/RuntimeException", "java/lang/Exception"], Bundle.fit n = true := by decide +kernel
theorem th_RX11_0_a : ∀ v ∈ vx_at0 RX11 93 "java/lang/IndexOutOfBoundsException" ["java/lang/RuntimeException", "java/lang/Exception"], v ∈ lw_tbl ∧ (goodWord v || ev_nk v) = true := by decide +kernel
theorem th_RX11_0_g : ∀ v ∈ Cond.classLink RX11 91 "java/lang/IndexOutOfBoundsException" :: Cond.initialized "java/lang/IndexOutOfBoundsException" :: vx_at0 RX11 93 "java/lang/IndexOutOfBoundsException" ["java/lang/RuntimeException", "java/lang/Exception"], vx_ot v = true := by decide +kernel
theorem th_RX11_0_f : Bundle.fit "java/lang/IndexOutOfBoundsException" = true := by decide +kernel
theorem th_RX11_0_n : ∀ n ∈ ["java/lang/RuntimeException", "java/lang/Exception"], Bundle.fit n = true := by decide +kernel
theorem th_RX11_4_a : ∀ v ∈ vx_at0 RX11 261 "java/util/NoSuchElementException" ["java/lang/RuntimeException", "java/lang/Exception"], v ∈ lw_tbl ∧ (goodWord v || ev_nk v) = true := by decide +kernel
theorem th_RX11_4_g : ∀ v ∈ Cond.classLink RX11 259 "java/util/NoSuchElementException" :: Cond.initialized "java/util/NoSuchElementException" :: vx_at0 RX11 261 "java/util/NoSuchElementException" ["java/lang/RuntimeException", "java/lang/Exception"], vx_ot v = true := by decide +kernel
theorem th_RX11_4_f : Bundle.fit "java/util/NoSuchElementException" = true := by decide +kernel
theorem th_RX11_4_n : ∀ n ∈ ["java/lang/RuntimeException", "java/lang/Exception"], Bundle.fit n = true := by decide +kernel
