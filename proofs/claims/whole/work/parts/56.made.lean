/-! the constructors, and the beginning of the law -/
def zh0 : ZD := (⟨"FireRows", "<init>", "()V"⟩, prog_1_method_1_code, 2, 4, 86, 0, (107, 82, 106))
def zc0 : List Ent := [eF 0 1 (.aload_n 0) [] 0 0 0, eF 1 3 (.invokespecial 1) [] 99 108 0, eF 4 1 (.aload_n 0) [] 0 0 0, eF 5 2 (.bipush 8) [] 0 0 0, eF 7 3 (.anewarray 9) [] 3 111 0, eF 10 3 (.putfield 11) [] 11 0 480, eF 13 1 (.aload_n 0) [] 0 0 0, eF 14 3 (.new 15) [] 8 113 114, eF 17 1 (.dup) [] 0 0 0, eF 18 3 (.invokespecial 17) [] 10 115 1, eF 21 3 (.putfield 18) [] 11 1 481, eF 24 1 (.aload_n 0) [] 0 0 0, eF 25 3 (.new 22) [] 4 129 130, eF 28 1 (.dup) [] 0 0 0, eF 29 1 (.aload_n 0) [] 0 0 0, eF 30 3 (.getfield 18) [] 11 1 481, eF 33 3 (.invokespecial 24) [] 6 131 0, eF 36 3 (.putfield 27) [] 11 2 482, eF 39 1 (.aload_n 0) [] 0 0 0, eF 40 3 (.new 31) [] 10 271 272, eF 43 1 (.dup) [] 0 0 0, eF 44 3 (.invokespecial 33) [] 12 273 1, eF 47 3 (.putfield 34) [] 11 3 483, eF 50 1 (.aload_n 0) [] 0 0 0, eF 51 1 (.iconst 2) [] 0 0 0, eF 52 3 (.anewarray 31) [] 4 271 0, eF 55 3 (.putfield 38) [] 11 4 484, eF 58 1 (.aload_n 0) [] 0 0 0, eF 59 3 (.new 42) [] 7 360 361, eF 62 1 (.dup) [] 0 0 0, eF 63 1 (.aload_n 0) [] 0 0 0, eF 64 3 (.getfield 34) [] 11 3 483, eF 67 3 (.invokespecial 44) [] 9 362 0, eF 70 3 (.putfield 47) [] 11 5 485, eF 73 1 (.aload_n 0) [] 0 0 0, eF 74 3 (.new 51) [] 5 389 390, eF 77 1 (.dup) [] 0 0 0, eF 78 1 (.aload_n 0) [] 0 0 0, eF 79 3 (.getfield 34) [] 11 3 483, eF 82 3 (.getfield 53) [] 10 1 353, eF 85 3 (.invokespecial 57) [] 7 391 0, eF 88 3 (.putfield 60) [] 11 6 486, eF 91 1 (.aload_n 0) [] 0 0 0, eF 92 3 (.new 64) [] 9 411 412, eF 95 1 (.dup) [] 0 0 0, eF 96 1 (.aload_n 0) [] 0 0 0, eF 97 3 (.getfield 34) [] 11 3 483, eF 100 3 (.invokespecial 66) [] 11 413 0, eF 103 3 (.putfield 67) [] 11 7 487, eF 106 1 (.aload_n 0) [] 0 0 0, eF 107 3 (.new 71) [] 0 436 437, eF 110 1 (.dup) [] 0 0 0, eF 111 3 (.invokespecial 73) [] 2 438 1, eF 114 3 (.putfield 74) [] 11 8 488, eF 117 1 (.iconst 0) [] 0 0 0, eF 118 1 (.istore_n 1) [] 0 0 0, eF 119 1 (.iload_n 1) [] 0 0 0, eF 120 2 (.bipush 8) [] 0 0 0, eF 122 3 (.if_icmp .ge 22) [] 0 0 0, eF 125 1 (.aload_n 0) [] 0 0 0, eF 126 3 (.getfield 11) [] 11 0 480, eF 129 1 (.iload_n 1) [] 0 0 0, eF 130 3 (.new 9) [] 6 111 463, eF 133 1 (.dup) [] 0 0 0, eF 134 3 (.invokespecial 78) [] 8 464 1, eF 137 1 (.aastore) [] 0 0 0, eF 138 3 (.iinc 1 1) [] 0 0 0, eF 141 3 (.goto (-22)) [] 0 0 0, eF 144 1 (.iconst 0) [] 0 0 0, eF 145 1 (.istore_n 1) [] 0 0 0, eF 146 1 (.iload_n 1) [] 0 0 0, eF 147 1 (.iconst 2) [] 0 0 0, eF 148 3 (.if_icmp .ge 22) [] 0 0 0, eF 151 1 (.aload_n 0) [] 0 0 0, eF 152 3 (.getfield 38) [] 11 4 484, eF 155 1 (.iload_n 1) [] 0 0 0, eF 156 3 (.new 31) [] 10 271 272, eF 159 1 (.dup) [] 0 0 0, eF 160 3 (.invokespecial 33) [] 12 273 1, eF 163 1 (.aastore) [] 0 0 0, eF 164 3 (.iinc 1 1) [] 0 0 0, eF 167 3 (.goto (-21)) [] 0 0 0, eF 170 1 (.return_) [true] 0 0 0]
def zh1 : ZD := (⟨"FireRowsModel", "<init>", "()V"⟩, prog_14_method_1_code, 1, 1, 20, 0, (1201, 95, 1200))
def zc1 : List Ent := [eF 0 1 (.aload_n 0) [] 0 0 0, eF 1 3 (.invokespecial 1) [] 99 1202 0, eF 4 1 (.aload_n 0) [] 0 0 0, eF 5 2 (.bipush 8) [] 0 0 0, eF 7 2 (.newarray .int) [] 0 185 0, eF 9 1 (.dup) [] 0 0 0, eF 10 1 (.iconst 0) [] 0 0 0, eF 11 1 (.iconst (-1)) [] 0 0 0, eF 12 1 (.iastore) [] 0 0 0, eF 13 1 (.dup) [] 0 0 0, eF 14 1 (.iconst 1) [] 0 0 0, eF 15 1 (.iconst (-1)) [] 0 0 0, eF 16 1 (.iastore) [] 0 0 0, eF 17 1 (.dup) [] 0 0 0, eF 18 1 (.iconst 2) [] 0 0 0, eF 19 1 (.iconst (-1)) [] 0 0 0, eF 20 1 (.iastore) [] 0 0 0, eF 21 1 (.dup) [] 0 0 0, eF 22 1 (.iconst 3) [] 0 0 0, eF 23 1 (.iconst (-1)) [] 0 0 0, eF 24 1 (.iastore) [] 0 0 0, eF 25 1 (.dup) [] 0 0 0, eF 26 1 (.iconst 4) [] 0 0 0, eF 27 1 (.iconst (-1)) [] 0 0 0, eF 28 1 (.iastore) [] 0 0 0, eF 29 1 (.dup) [] 0 0 0, eF 30 1 (.iconst 5) [] 0 0 0, eF 31 1 (.iconst (-1)) [] 0 0 0, eF 32 1 (.iastore) [] 0 0 0, eF 33 1 (.dup) [] 0 0 0, eF 34 2 (.bipush 6) [] 0 0 0, eF 36 1 (.iconst (-1)) [] 0 0 0, eF 37 1 (.iastore) [] 0 0 0, eF 38 1 (.dup) [] 0 0 0, eF 39 2 (.bipush 7) [] 0 0 0, eF 41 1 (.iconst (-1)) [] 0 0 0, eF 42 1 (.iastore) [] 0 0 0, eF 43 3 (.putfield 7) [] 12 2 1205, eF 46 1 (.aload_n 0) [] 0 0 0, eF 47 2 (.bipush 8) [] 0 0 0, eF 49 2 (.newarray .int) [] 0 185 0, eF 51 3 (.putfield 13) [] 12 3 1206, eF 54 1 (.aload_n 0) [] 0 0 0, eF 55 3 (.sipush 320) [] 0 0 0, eF 58 2 (.newarray .int) [] 0 185 0, eF 60 3 (.putfield 16) [] 12 4 1207, eF 63 1 (.aload_n 0) [] 0 0 0, eF 64 2 (.bipush 62) [] 0 0 0, eF 66 2 (.newarray .int) [] 0 185 0, eF 68 3 (.putfield 19) [] 12 5 1208, eF 71 1 (.aload_n 0) [] 0 0 0, eF 72 2 (.bipush 62) [] 0 0 0, eF 74 2 (.newarray .int) [] 0 185 0, eF 76 3 (.putfield 22) [] 12 6 1209, eF 79 1 (.aload_n 0) [] 0 0 0, eF 80 3 (.sipush 169) [] 0 0 0, eF 83 2 (.newarray .int) [] 0 185 0, eF 85 3 (.putfield 25) [] 12 8 1211, eF 88 1 (.aload_n 0) [] 0 0 0, eF 89 3 (.sipush 500) [] 0 0 0, eF 92 2 (.newarray .int) [] 0 185 0, eF 94 3 (.putfield 28) [] 12 9 1212, eF 97 1 (.aload_n 0) [] 0 0 0, eF 98 2 (.bipush 100) [] 0 0 0, eF 100 2 (.newarray .int) [] 0 185 0, eF 102 3 (.putfield 31) [] 12 20 1223, eF 105 1 (.aload_n 0) [] 0 0 0, eF 106 2 (.bipush 100) [] 0 0 0, eF 108 2 (.newarray .int) [] 0 185 0, eF 110 3 (.putfield 34) [] 12 21 1224, eF 113 1 (.aload_n 0) [] 0 0 0, eF 114 2 (.bipush 12) [] 0 0 0, eF 116 2 (.newarray .int) [] 0 185 0, eF 118 3 (.putfield 37) [] 12 29 1232, eF 121 1 (.aload_n 0) [] 0 0 0, eF 122 2 (.bipush 12) [] 0 0 0, eF 124 2 (.newarray .int) [] 0 185 0, eF 126 3 (.putfield 40) [] 12 30 1233, eF 129 1 (.aload_n 0) [] 0 0 0, eF 130 2 (.bipush 12) [] 0 0 0, eF 132 2 (.newarray .int) [] 0 185 0, eF 134 3 (.putfield 43) [] 12 31 1234, eF 137 1 (.aload_n 0) [] 0 0 0, eF 138 2 (.bipush 12) [] 0 0 0, eF 140 2 (.newarray .int) [] 0 185 0, eF 142 3 (.putfield 46) [] 12 32 1235, eF 145 1 (.aload_n 0) [] 0 0 0, eF 146 3 (.sipush 4096) [] 0 0 0, eF 149 2 (.newarray .int) [] 0 185 0, eF 151 3 (.putfield 49) [] 12 36 1239, eF 154 1 (.aload_n 0) [] 0 0 0, eF 155 1 (.iconst 2) [] 0 0 0, eF 156 2 (.newarray .boolean) [] 2 1330 0, eF 158 3 (.putfield 52) [] 12 37 1240, eF 161 1 (.aload_n 0) [] 0 0 0, eF 162 2 (.bipush 124) [] 0 0 0, eF 164 2 (.newarray .int) [] 0 185 0, eF 166 3 (.putfield 56) [] 12 38 1241, eF 169 1 (.aload_n 0) [] 0 0 0, eF 170 3 (.sipush 338) [] 0 0 0, eF 173 2 (.newarray .int) [] 0 185 0, eF 175 3 (.putfield 59) [] 12 39 1242, eF 178 1 (.aload_n 0) [] 0 0 0, eF 179 2 (.bipush 16) [] 0 0 0, eF 181 2 (.newarray .int) [] 0 185 0, eF 183 3 (.putfield 62) [] 12 40 1243, eF 186 1 (.return_) [true] 0 0 0]
def zh2 : ZD := (⟨"FireRows$Asks", "<init>", "()V"⟩, prog_2_method_1_code, 1, 1, 20, 0, (440, 93, 439))
def zc2 : List Ent := [eF 0 1 (.aload_n 0) [] 0 0 0, eF 1 3 (.invokespecial 1) [] 99 441 0, eF 4 1 (.aload_n 0) [] 0 0 0, eF 5 2 (.bipush 16) [] 0 0 0, eF 7 2 (.newarray .int) [] 0 185 0, eF 9 3 (.putfield 9) [] 0 0 442, eF 12 1 (.return_) [true] 0 0 0]
def zh3 : ZD := (⟨"FireRows$Floor", "<init>", "()V"⟩, prog_3_method_1_code, 1, 2, 45, 0, (139, 85, 138))
def zc3 : List Ent := [eF 0 1 (.aload_n 0) [] 0 0 0, eF 1 3 (.invokespecial 3) [] 99 140 0, eF 4 1 (.aload_n 0) [] 0 0 0, eF 5 3 (.new 9) [] 3 141 142, eF 8 1 (.dup) [] 0 0 0, eF 9 2 (.ldc 11) [] 0 143 0, eF 11 1 (.iconst 1) [] 0 0 0, eF 12 3 (.getstatic 13) [] 0 144 0, eF 15 3 (.getstatic 19) [] 1 146 0, eF 18 3 (.invokespecial 22) [] 5 148 0, eF 21 3 (.putfield 25) [] 1 0 206, eF 24 1 (.aload_n 0) [] 0 0 0, eF 25 3 (.new 9) [] 3 141 142, eF 28 1 (.dup) [] 0 0 0, eF 29 2 (.ldc 29) [] 1 186 0, eF 31 1 (.iconst 0) [] 0 0 0, eF 32 3 (.getstatic 31) [] 2 187 0, eF 35 3 (.getstatic 34) [] 3 189 0, eF 38 3 (.invokespecial 22) [] 5 148 0, eF 41 3 (.putfield 37) [] 1 1 209, eF 44 1 (.aload_n 0) [] 0 0 0, eF 45 3 (.new 9) [] 3 141 142, eF 48 1 (.dup) [] 0 0 0, eF 49 2 (.ldc 40) [] 2 191 0, eF 51 1 (.iconst 0) [] 0 0 0, eF 52 3 (.getstatic 42) [] 4 192 0, eF 55 3 (.getstatic 45) [] 5 194 0, eF 58 3 (.invokespecial 22) [] 5 148 0, eF 61 3 (.putfield 48) [] 1 2 213, eF 64 1 (.aload_n 0) [] 0 0 0, eF 65 3 (.new 9) [] 3 141 142, eF 68 1 (.dup) [] 0 0 0, eF 69 2 (.ldc 51) [] 3 196 0, eF 71 1 (.iconst 0) [] 0 0 0, eF 72 3 (.getstatic 53) [] 6 197 0, eF 75 3 (.getstatic 56) [] 7 199 0, eF 78 3 (.invokespecial 22) [] 5 148 0, eF 81 3 (.putfield 59) [] 1 3 216, eF 84 1 (.aload_n 0) [] 0 0 0, eF 85 3 (.new 9) [] 3 141 142, eF 88 1 (.dup) [] 0 0 0, eF 89 2 (.ldc 62) [] 4 201 0, eF 91 1 (.iconst 2) [] 0 0 0, eF 92 3 (.getstatic 64) [] 8 202 0, eF 95 3 (.getstatic 67) [] 9 204 0, eF 98 3 (.invokespecial 22) [] 5 148 0, eF 101 3 (.putfield 70) [] 1 4 219, eF 104 1 (.aload_n 0) [] 0 0 0, eF 105 2 (.bipush 100) [] 0 0 0, eF 107 2 (.newarray .int) [] 0 185 0, eF 109 3 (.putfield 73) [] 1 5 224, eF 112 1 (.aload_n 0) [] 0 0 0, eF 113 2 (.bipush 100) [] 0 0 0, eF 115 2 (.newarray .int) [] 0 185 0, eF 117 3 (.putfield 76) [] 1 6 226, eF 120 1 (.aload_n 0) [] 0 0 0, eF 121 2 (.bipush 100) [] 0 0 0, eF 123 2 (.newarray .int) [] 0 185 0, eF 125 3 (.putfield 79) [] 1 7 228, eF 128 1 (.return_) [true] 0 0 0]
def zh4 : ZD := (⟨"FireRows$Hills", "<init>", "()V"⟩, prog_4_method_1_code, 1, 1, 20, 0, (283, 89, 282))
def zc4 : List Ent := [eF 0 1 (.aload_n 0) [] 0 0 0, eF 1 3 (.invokespecial 3) [] 99 284 0, eF 4 1 (.aload_n 0) [] 0 0 0, eF 5 2 (.bipush 12) [] 0 0 0, eF 7 2 (.newarray .int) [] 0 185 0, eF 9 3 (.putfield 9) [] 2 0 285, eF 12 1 (.aload_n 0) [] 0 0 0, eF 13 2 (.bipush 12) [] 0 0 0, eF 15 2 (.newarray .int) [] 0 185 0, eF 17 3 (.putfield 15) [] 2 1 289, eF 20 1 (.aload_n 0) [] 0 0 0, eF 21 2 (.bipush 12) [] 0 0 0, eF 23 2 (.newarray .int) [] 0 185 0, eF 25 3 (.putfield 18) [] 2 2 293, eF 28 1 (.aload_n 0) [] 0 0 0, eF 29 2 (.bipush 12) [] 0 0 0, eF 31 2 (.newarray .int) [] 0 185 0, eF 33 3 (.putfield 21) [] 2 3 297, eF 36 1 (.aload_n 0) [] 0 0 0, eF 37 2 (.bipush 12) [] 0 0 0, eF 39 2 (.newarray .int) [] 0 185 0, eF 41 3 (.putfield 24) [] 2 4 302, eF 44 1 (.aload_n 0) [] 0 0 0, eF 45 2 (.bipush 12) [] 0 0 0, eF 47 2 (.newarray .int) [] 0 185 0, eF 49 3 (.putfield 27) [] 2 5 307, eF 52 1 (.aload_n 0) [] 0 0 0, eF 53 2 (.bipush 12) [] 0 0 0, eF 55 2 (.newarray .int) [] 0 185 0, eF 57 3 (.putfield 30) [] 2 6 309, eF 60 1 (.aload_n 0) [] 0 0 0, eF 61 2 (.bipush 12) [] 0 0 0, eF 63 2 (.newarray .int) [] 0 185 0, eF 65 3 (.putfield 33) [] 2 7 312, eF 68 1 (.aload_n 0) [] 0 0 0, eF 69 2 (.bipush 48) [] 0 0 0, eF 71 2 (.newarray .int) [] 0 185 0, eF 73 3 (.putfield 36) [] 2 9 321, eF 76 1 (.aload_n 0) [] 0 0 0, eF 77 2 (.bipush 48) [] 0 0 0, eF 79 2 (.newarray .int) [] 0 185 0, eF 81 3 (.putfield 39) [] 2 10 322, eF 84 1 (.return_) [true] 0 0 0]
def zh5 : ZD := (⟨"FireRows$Lines", "<init>", "(Ljava/lang/String;I[I[I)V"⟩, prog_5_method_1_code, 5, 1, 21, 4, (150, 86, 149))
def zc5 : List Ent := [eF 0 1 (.aload_n 0) [] 0 0 0, eF 1 3 (.invokespecial 1) [] 99 151 0, eF 4 1 (.aload_n 0) [] 0 0 0, eF 5 1 (.aload_n 1) [] 0 0 0, eF 6 3 (.putfield 7) [] 3 0 155, eF 9 1 (.aload_n 0) [] 0 0 0, eF 10 1 (.iload_n 2) [] 0 0 0, eF 11 3 (.putfield 13) [] 3 3 166, eF 14 1 (.aload_n 0) [] 0 0 0, eF 15 1 (.aload_n 3) [] 0 0 0, eF 16 3 (.putfield 17) [] 3 4 167, eF 19 1 (.aload_n 0) [] 0 0 0, eF 20 2 (.aload 4) [] 0 0 0, eF 22 3 (.putfield 21) [] 3 5 168, eF 25 1 (.aload_n 0) [] 0 0 0, eF 26 1 (.aload_n 3) [] 0 0 0, eF 27 1 (.arraylength) [] 0 0 0, eF 28 2 (.aload 4) [] 0 0 0, eF 30 1 (.arraylength) [] 0 0 0, eF 31 3 (.invokestatic 24) [] 0 152 0, eF 34 3 (.putfield 30) [] 3 1 157, eF 37 1 (.aload_n 0) [] 0 0 0, eF 38 1 (.iconst 4) [] 0 0 0, eF 39 1 (.aload_n 0) [] 0 0 0, eF 40 3 (.getfield 30) [] 3 1 157, eF 43 1 (.imul) [] 0 0 0, eF 44 2 (.newarray .int) [] 0 185 0, eF 46 3 (.putfield 33) [] 3 6 169, eF 49 1 (.return_) [true] 0 0 0]
def zh6 : ZD := (⟨"FireRows$Reader", "<init>", "(LFireRows$Tape;)V"⟩, prog_6_method_1_code, 2, 3, 65, 1, (133, 84, 132))
def zc6 : List Ent := [eF 0 1 (.aload_n 0) [] 0 0 0, eF 1 3 (.invokespecial 1) [] 99 134 0, eF 4 1 (.aload_n 0) [] 0 0 0, eF 5 3 (.new 7) [] 1 135 136, eF 8 1 (.dup) [] 0 0 0, eF 9 3 (.invokespecial 9) [] 3 137 1, eF 12 3 (.putfield 10) [] 4 0 246, eF 15 1 (.aload_n 0) [] 0 0 0, eF 16 1 (.aload_n 1) [] 0 0 0, eF 17 3 (.putfield 16) [] 4 3 252, eF 20 1 (.return_) [true] 0 0 0]
def zh7 : ZD := (⟨"FireRows$Row", "<init>", "(LFireRows$Hills;)V"⟩, prog_7_method_1_code, 2, 1, 20, 1, (393, 91, 392))
def zc7 : List Ent := [eF 0 1 (.aload_n 0) [] 0 0 0, eF 1 3 (.invokespecial 3) [] 99 394 0, eF 4 1 (.aload_n 0) [] 0 0 0, eF 5 2 (.bipush 12) [] 0 0 0, eF 7 2 (.newarray .int) [] 0 185 0, eF 9 3 (.putfield 9) [] 5 1 396, eF 12 1 (.aload_n 0) [] 0 0 0, eF 13 2 (.bipush 12) [] 0 0 0, eF 15 2 (.newarray .int) [] 0 185 0, eF 17 3 (.putfield 15) [] 5 2 397, eF 20 1 (.aload_n 0) [] 0 0 0, eF 21 3 (.sipush 4096) [] 0 0 0, eF 24 2 (.newarray .int) [] 0 185 0, eF 26 3 (.putfield 18) [] 5 3 398, eF 29 1 (.aload_n 0) [] 0 0 0, eF 30 1 (.aload_n 1) [] 0 0 0, eF 31 3 (.putfield 21) [] 5 0 395, eF 34 1 (.return_) [true] 0 0 0]
def zh8 : ZD := (⟨"FireRows$Sheet", "<init>", "()V"⟩, prog_8_method_1_code, 1, 1, 20, 0, (466, 94, 465))
def zc8 : List Ent := [eF 0 1 (.aload_n 0) [] 0 0 0, eF 1 3 (.invokespecial 3) [] 99 467 0, eF 4 1 (.aload_n 0) [] 0 0 0, eF 5 2 (.bipush 40) [] 0 0 0, eF 7 2 (.newarray .int) [] 0 185 0, eF 9 3 (.putfield 9) [] 6 0 468, eF 12 1 (.aload_n 0) [] 0 0 0, eF 13 1 (.iconst (-1)) [] 0 0 0, eF 14 3 (.putfield 15) [] 6 1 470, eF 17 1 (.return_) [true] 0 0 0]
def zh9 : ZD := (⟨"FireRows$Stories", "<init>", "(LFireRows$World;)V"⟩, prog_9_method_1_code, 2, 1, 20, 1, (364, 90, 363))
def zc9 : List Ent := [eF 0 1 (.aload_n 0) [] 0 0 0, eF 1 3 (.invokespecial 3) [] 99 365 0, eF 4 1 (.aload_n 0) [] 0 0 0, eF 5 1 (.aload_n 1) [] 0 0 0, eF 6 3 (.getfield 9) [] 10 0 346, eF 9 3 (.putfield 15) [] 7 0 366, eF 12 1 (.aload_n 0) [] 0 0 0, eF 13 1 (.aload_n 1) [] 0 0 0, eF 14 3 (.getfield 18) [] 10 1 350, eF 17 3 (.putfield 22) [] 7 1 367, eF 20 1 (.return_) [true] 0 0 0]
def zh10 : ZD := (⟨"FireRows$Tape", "<init>", "()V"⟩, prog_10_method_1_code, 1, 1, 20, 0, (117, 83, 116))
def zc10 : List Ent := [eF 0 1 (.aload_n 0) [] 0 0 0, eF 1 3 (.invokespecial 1) [] 99 118 0, eF 4 1 (.aload_n 0) [] 0 0 0, eF 5 3 (.sipush 500) [] 0 0 0, eF 8 2 (.newarray .byte) [] 1 128 0, eF 10 3 (.putfield 9) [] 8 0 119, eF 13 1 (.return_) [true] 0 0 0]
def zh11 : ZD := (⟨"FireRows$Turn", "<init>", "(LFireRows$World;)V"⟩, prog_11_method_1_code, 2, 1, 20, 1, (415, 92, 414))
def zc11 : List Ent := [eF 0 1 (.aload_n 0) [] 0 0 0, eF 1 3 (.invokespecial 3) [] 99 416 0, eF 4 1 (.aload_n 0) [] 0 0 0, eF 5 1 (.aload_n 1) [] 0 0 0, eF 6 3 (.getfield 9) [] 10 0 347, eF 9 3 (.putfield 15) [] 9 0 417, eF 12 1 (.aload_n 0) [] 0 0 0, eF 13 1 (.aload_n 1) [] 0 0 0, eF 14 3 (.getfield 18) [] 10 1 351, eF 17 3 (.putfield 22) [] 9 1 418, eF 20 1 (.return_) [true] 0 0 0]
def zh12 : ZD := (⟨"FireRows$World", "<init>", "()V"⟩, prog_12_method_1_code, 1, 3, 65, 0, (275, 88, 274))
def zc12 : List Ent := [eF 0 1 (.aload_n 0) [] 0 0 0, eF 1 3 (.invokespecial 1) [] 99 276 0, eF 4 1 (.aload_n 0) [] 0 0 0, eF 5 3 (.new 7) [] 1 277 136, eF 8 1 (.dup) [] 0 0 0, eF 9 3 (.invokespecial 9) [] 3 278 1, eF 12 3 (.putfield 10) [] 10 0 348, eF 15 1 (.aload_n 0) [] 0 0 0, eF 16 3 (.new 16) [] 2 279 280, eF 19 1 (.dup) [] 0 0 0, eF 20 3 (.invokespecial 18) [] 4 281 1, eF 23 3 (.putfield 19) [] 10 1 352, eF 26 1 (.return_) [true] 0 0 0]
def zh13 : ZD := (⟨"FireRowsLaw", "law", "([I)Z"⟩, code, 4, 11, 235, 0, (0, 0, 0))
def zc13 : List Ent := [eF 0 3 (.new 7) [] 11 103 104, eF 3 1 (.dup) [] 0 0 0, eF 4 3 (.invokespecial 9) [] 0 105 0, eF 7 1 (.astore_n 1) [] 0 0 0, eF 8 3 (.new 10) [] 12 1197 1198, eF 11 1 (.dup) [] 0 0 0, eF 12 3 (.invokespecial 12) [] 1 1199 0, eF 15 1 (.astore_n 2) [] 0 0 0, eF 16 1 (.iconst 0) [true] 0 0 0]
def ztab : List (ZD × List Ent) := [(zh0, zc0), (zh1, zc1), (zh2, zc2), (zh3, zc3), (zh4, zc4), (zh5, zc5), (zh6, zc6), (zh7, zc7), (zh8, zc8), (zh9, zc9), (zh10, zc10), (zh11, zc11), (zh12, zc12), (zh13, zc13)]
def zh (f : Nat) : ZD := ((lnth ztab f).getD (zh0, [])).1
def zc (f : Nat) : List Ent := ((lnth ztab f).getD (zh0, [])).2
def zcall (e : Ent) : Option Nat := match e.2.2.1, e.2.2.2.2 with
  | .invokespecial _, .inl (f, _, _) => some f
  | _, _ => none
/-- a run, to a stop -/
def zex : Nat → Nat → Nat → List (Option AV) → List AV → List CE → Option ZS
  | 0, _, _, _, _, _ => none
  | n + 1, f, pc, L, S, cs => match sk (zc f) pc with
    | [] => none
    | e :: _ => match e.2.2.2.1 with
      | _ :: _ => some (pc, L, S, cs)
      | [] => match zcall e with
        | some f' => (match Nat.beq f' 99 with
          | true => (match S with
            | .inl _ :: S' => (match Nat.ble (scat S') 8 with
              | true => zex n f (pc + 3) L S' cs
              | false => none)
            | _ => none)
          | false => (match poprev ((zh f').np + 1) [] S with
            | some (.inl r :: as, S') => (match Nat.ble (scat S') 8 && Nat.ble (scat (.inl r :: as)) (zh f').ml with
              | true => (match zex n f' 0 (lent (.inl r :: as) (zh f').ml) [] cs with
                | some (_, _, [], cs1) => zex n f (pc + 3) L S' cs1
                | _ => none)
              | false => none)
            | _ => none))
        | none => (match zst (zh f) e L S cs with
          | some q => (match Nat.ble cs.length q.2.2.2.length && Nat.ble (zsl cs) (zsl q.2.2.2) with
            | true => zex n f q.1 q.2.1 q.2.2.1 q.2.2.2
            | false => none)
          | none => none)
def zchk (h : ZD) (e : Ent) : Bool := decide (decode h.by e.1 = .ok (e.2.2.1, e.2.1)) && (ilen e.2.2.1 == 0 || ilen e.2.2.1 == e.2.1) && (match e.2.2.1, e.2.2.2.2 with
  | .new i, .inl (ci, p, q) => (match cls[ci]? with
    | some (C, _, N) => Nat.beq e.2.1 3 && zw p (.classLink h.y.cls i C) && zw q (.instantiable C N) && zw (zini.getD ci 0) (.initialized C) && Nat.blt ci 13
    | none => false)
  | .newarray a, .inl (t, p, _) => Nat.beq e.2.1 2 && decide (newarray.typeOf a = ztyp t) && zw p (.arrayClass (ztyp t))
  | .anewarray i, .inl (t, p, _) => Nat.beq e.2.1 3 && zw p (.classLink h.y.cls i (zrcl t))
  | .getfield i, .inl (ci, k, p) => (match cls[ci]? with
    | some (C, T, N) => Nat.blt k N && zw p (.fieldLink h.y.cls i C (T k).2.1 (T k).2.2.1) && decide ((T k).1 = C)
    | none => false)
  | .putfield i, .inl (ci, k, p) => (match cls[ci]? with
    | some (C, T, N) => Nat.blt k N && zw p (.fieldLink h.y.cls i C (T k).2.1 (T k).2.2.1) && decide ((T k).1 = C) && (!(T k).2.2.2 || (decide (h.y.name = "<init>") && decide ((T k).1 = h.y.cls)))
    | none => false)
  | .getstatic i, .inl (j, p, _) => zw p (.fieldLink h.y.cls i "FireRows$Floor" (zfl.getD j "") "[I")
  | .ldc i, .inl (j, p, _) => decide ((j, h.y.cls, i, p) ∈ strk)
  | .aastore, _ => Nat.beq e.2.1 1
  | .invokespecial i, .inl (f, p, n) => Nat.beq e.2.1 3 && (match Nat.beq f 99 with
    | true => zw p (.methodLink h.y.cls i Lib.objectInit) && Nat.ble 1 h.fr && Nat.ble 20 h.lo
    | false => Nat.blt f 13 && Nat.ble ((zh f).fr + 1) h.fr && Nat.ble (8 + ((zh f).ml + 11) + (zh f).lo) h.lo && (match Nat.beq n 0 with
      | true => zw p (.methodLink h.y.cls i (zh f).y)
      | false => decide ((h.y.cls, i, (zh f).y) ∈ znst)))
  | .invokestatic i, .inl (_, p, _) => zw p (.methodLink h.y.cls i Lib.Math.min.name) && Nat.ble 1 h.fr && Nat.ble 21 h.lo
  | _, _ => true)
def zhok (h : ZD) : Bool := zw h.pl.1 (.code h.y h.by h.ml none) && zw h.pl.2.1 (.initialized h.y.cls) && zw h.pl.2.2 (.instanceMethod h.y) && decide (h.y.cls ≠ "java/lang/invoke/MethodHandle") && decide (h.y.cls ≠ "java/lang/invoke/VarHandle") && decide ((parseMethodDescriptor h.y.desc).map (fun d => d.parameters.length) = some h.np) && plainName h.y.cls && decide (h.y.name = "<init>")
def zstop (e : Ent) : Bool := e.2.2.2.1.isEmpty || (decide (e.2.2.1 = .return_) && Nat.beq e.2.1 1)
theorem zt_h : (List.range 13).all (fun f => zhok (zh f)) = true := by decide +kernel
theorem zt_s : (List.range 13).all (fun f => (zc f).all zstop) = true := by decide +kernel
theorem zt_c0 : (List.range 1).all (fun f => (zc f).all (zchk (zh f))) = true := by decide +kernel
theorem zt_c1 : ((List.range 14).drop 1).all (fun f => (zc f).all (zchk (zh f))) = true := by decide +kernel
theorem zt_c {f : Nat} (hf : f < 14) : (zc f).all (zchk (zh f)) = true := by
  by_cases h : f = 0
  · exact List.all_eq_true.mp zt_c0 f (by rw [h]; decide)
  · refine List.all_eq_true.mp zt_c1 f ?_
    have : (List.range 14).drop 1 = [1, 2, 3, 4, 5, 6, 7, 8, 9, 10, 11, 12, 13] := by decide
    rw [this]
    have : f = 1 ∨ f = 2 ∨ f = 3 ∨ f = 4 ∨ f = 5 ∨ f = 6 ∨ f = 7 ∨ f = 8 ∨ f = 9 ∨ f = 10 ∨ f = 11 ∨ f = 12 ∨ f = 13 := by omega
    simpa using this
/-- the fields of a new object -/
theorem zd_ok : (List.range 13).all (fun ci => match cls[ci]? with
  | some (_, T, N) => (List.range N).all fun k => match parseFieldDescriptor (T k).2.2.1 with
    | some t => (match (T k).2.2.1 == "I" || (T k).2.2.1 == "Z" with
      | true => decide (defaultValue t = .int 0)
      | false => decide (defaultValue t = .null))
    | none => false
  | none => false) = true := by decide +kernel
/-- the whole making -/
def zrun : Option ZS := zex 400 13 0 [some (rf 56 2000), none, none, none] [] []
def zfin : List CE := match zrun with
  | some q => q.2.2.2
  | none => []
theorem zrun_ok : (match zrun with
  | some (16, [some (.inl (_, 2000)), some (.inl (_, 0)), some (.inl (_, 122)), none], [], cs) => Nat.beq cs.length 141
  | _ => false) = true := by decide +kernel

