/-! ===== facts of the made heap ===== -/
theorem tk_lt9 {t : Nat} {c : tk_L} (h : tk_lay[t]? = some c) : t < 460 := tk_np (m := (fun _ _ => 0, fun _ _ => 0, fun _ _ => false, fun _ _ => 0)) h
theorem me11 : tk_Me 11 tk_r11 tk_kno := ⟨rfl, rfl⟩
theorem me12 : tk_Me 12 tk_r12 tk_kno := ⟨rfl, rfl⟩
theorem me13 : tk_Me 13 tk_r13 tk_kno := ⟨rfl, rfl⟩
theorem me14 : tk_Me 14 tk_r14 tk_kno := ⟨rfl, rfl⟩
theorem me15 : tk_Me 15 tk_r15 tk_kno := ⟨rfl, rfl⟩
theorem me16 : tk_Me 16 tk_r16 tk_kno := ⟨rfl, rfl⟩
theorem me17 : tk_Me 17 tk_r17 tk_kno := ⟨rfl, rfl⟩
theorem me18 : tk_Me 18 tk_r18 tk_kno := ⟨rfl, rfl⟩
theorem me19 : tk_Me 19 tk_r19 tk_kno := ⟨rfl, rfl⟩
theorem me20 : tk_Me 20 tk_r20 tk_kno := ⟨rfl, rfl⟩
theorem me21 : tk_Me 21 tk_r21 tk_kno := ⟨rfl, rfl⟩
theorem me22 : tk_Me 22 tk_r22 tk_kno := ⟨rfl, rfl⟩
theorem me23 : tk_Me 23 tk_r23 tk_kno := ⟨rfl, rfl⟩
theorem me24 : tk_Me 24 tk_r24 tk_kno := ⟨rfl, rfl⟩
theorem me25 : tk_Me 25 tk_r25 tk_kno := ⟨rfl, rfl⟩
theorem me26 : tk_Me 26 tk_r26 tk_k26 := ⟨rfl, rfl⟩
theorem me27 : tk_Me 27 tk_r27 tk_kno := ⟨rfl, rfl⟩
theorem me28 : tk_Me 28 tk_r28 tk_kno := ⟨rfl, rfl⟩
theorem me29 : tk_Me 29 tk_r29 tk_kno := ⟨rfl, rfl⟩
theorem me30 : tk_Me 30 tk_r30 tk_kno := ⟨rfl, rfl⟩
theorem me31 : tk_Me 31 tk_r31 tk_kno := ⟨rfl, rfl⟩
theorem me32 : tk_Me 32 tk_r32 tk_kno := ⟨rfl, rfl⟩
theorem me33 : tk_Me 33 tk_r33 tk_kno := ⟨rfl, rfl⟩
theorem me34 : tk_Me 34 tk_r34 tk_kno := ⟨rfl, rfl⟩
theorem me35 : tk_Me 35 tk_r35 tk_k35 := ⟨rfl, rfl⟩
theorem me36 : tk_Me 36 tk_r36 tk_kno := ⟨rfl, rfl⟩
theorem me37 : tk_Me 37 tk_r37 tk_kno := ⟨rfl, rfl⟩
theorem me38 : tk_Me 38 tk_r38 tk_kno := ⟨rfl, rfl⟩
theorem me39 : tk_Me 39 tk_r39 tk_k39 := ⟨rfl, rfl⟩
theorem me40 : tk_Me 40 tk_r40 tk_kno := ⟨rfl, rfl⟩
theorem me41 : tk_Me 41 tk_r41 tk_kno := ⟨rfl, rfl⟩
theorem me42 : tk_Me 42 tk_r42 tk_k42 := ⟨rfl, rfl⟩
theorem me43 : tk_Me 43 tk_r43 tk_kno := ⟨rfl, rfl⟩
theorem me44 : tk_Me 44 tk_r44 tk_kno := ⟨rfl, rfl⟩
theorem me45 : tk_Me 45 tk_r45 tk_kno := ⟨rfl, rfl⟩
theorem me46 : tk_Me 46 tk_r46 tk_k46 := ⟨rfl, rfl⟩
theorem me47 : tk_Me 47 tk_r47 tk_kno := ⟨rfl, rfl⟩
theorem me48 : tk_Me 48 tk_r48 tk_kno := ⟨rfl, rfl⟩
theorem me49 : tk_Me 49 tk_r49 tk_kno := ⟨rfl, rfl⟩
theorem me50 : tk_Me 50 tk_r50 tk_k50 := ⟨rfl, rfl⟩
theorem me51 : tk_Me 51 tk_r51 tk_k51 := ⟨rfl, rfl⟩
theorem me52 : tk_Me 52 tk_r52 tk_k52 := ⟨rfl, rfl⟩
theorem me53 : tk_Me 53 tk_r53 tk_kno := ⟨rfl, rfl⟩
theorem me54 : tk_Me 54 tk_r54 tk_kno := ⟨rfl, rfl⟩
theorem me55 : tk_Me 55 tk_r55 tk_kno := ⟨rfl, rfl⟩
theorem me56 : tk_Me 56 tk_r56 tk_kno := ⟨rfl, rfl⟩
theorem me57 : tk_Me 57 tk_r57 tk_kno := ⟨rfl, rfl⟩
theorem me58 : tk_Me 58 tk_r58 tk_kno := ⟨rfl, rfl⟩
theorem me59 : tk_Me 59 tk_r59 tk_kno := ⟨rfl, rfl⟩
theorem me60 : tk_Me 60 tk_r60 tk_kno := ⟨rfl, rfl⟩
theorem me61 : tk_Me 61 tk_r61 tk_k61 := ⟨rfl, rfl⟩
theorem me62 : tk_Me 62 tk_r62 tk_kno := ⟨rfl, rfl⟩
theorem me63 : tk_Me 63 tk_r63 tk_k63 := ⟨rfl, rfl⟩
theorem me64 : tk_Me 64 tk_r64 tk_kno := ⟨rfl, rfl⟩
theorem me65 : tk_Me 65 tk_r65 tk_kno := ⟨rfl, rfl⟩
theorem me66 : tk_Me 66 tk_r66 tk_k66 := ⟨rfl, rfl⟩
theorem me67 : tk_Me 67 tk_r67 tk_k67 := ⟨rfl, rfl⟩
theorem me68 : tk_Me 68 tk_r68 tk_kno := ⟨rfl, rfl⟩
theorem me69 : tk_Me 69 tk_r69 tk_kno := ⟨rfl, rfl⟩
theorem me70 : tk_Me 70 tk_r70 tk_k70 := ⟨rfl, rfl⟩
theorem me71 : tk_Me 71 tk_r71 tk_k71 := ⟨rfl, rfl⟩
theorem me72 : tk_Me 72 tk_r72 tk_kno := ⟨rfl, rfl⟩
theorem me73 : tk_Me 73 tk_r73 tk_kno := ⟨rfl, rfl⟩
theorem me74 : tk_Me 74 tk_r74 tk_kno := ⟨rfl, rfl⟩
theorem me75 : tk_Me 75 tk_r75 tk_kno := ⟨rfl, rfl⟩
theorem me76 : tk_Me 76 tk_r76 tk_kno := ⟨rfl, rfl⟩
theorem me77 : tk_Me 77 tk_r77 tk_kno := ⟨rfl, rfl⟩
theorem me78 : tk_Me 78 tk_r78 tk_kno := ⟨rfl, rfl⟩
theorem me79 : tk_Me 79 tk_r79 tk_kno := ⟨rfl, rfl⟩
theorem me80 : tk_Me 80 tk_r80 tk_kno := ⟨rfl, rfl⟩
theorem me81 : tk_Me 81 tk_r81 tk_kno := ⟨rfl, rfl⟩
theorem me82 : tk_Me 82 tk_r82 tk_kno := ⟨rfl, rfl⟩
theorem me83 : tk_Me 83 tk_r83 tk_kno := ⟨rfl, rfl⟩
theorem me84 : tk_Me 84 tk_r84 tk_kno := ⟨rfl, rfl⟩
theorem me85 : tk_Me 85 tk_r85 tk_kno := ⟨rfl, rfl⟩
theorem me86 : tk_Me 86 tk_r86 tk_k86 := ⟨rfl, rfl⟩
theorem me87 : tk_Me 87 tk_r87 tk_kno := ⟨rfl, rfl⟩
theorem me88 : tk_Me 88 tk_r88 tk_k88 := ⟨rfl, rfl⟩
theorem me89 : tk_Me 89 tk_r89 tk_kno := ⟨rfl, rfl⟩
theorem me90 : tk_Me 90 tk_r90 tk_k90 := ⟨rfl, rfl⟩
theorem me91 : tk_Me 91 tk_r91 tk_kno := ⟨rfl, rfl⟩
theorem me92 : tk_Me 92 tk_r92 tk_kno := ⟨rfl, rfl⟩
theorem me93 : tk_Me 93 tk_r93 tk_kno := ⟨rfl, rfl⟩
theorem me94 : tk_Me 94 tk_r94 tk_kno := ⟨rfl, rfl⟩
theorem me95 : tk_Me 95 tk_r95 tk_kno := ⟨rfl, rfl⟩
theorem me96 : tk_Me 96 tk_r96 tk_kno := ⟨rfl, rfl⟩
theorem me97 : tk_Me 97 tk_r97 tk_kno := ⟨rfl, rfl⟩
theorem me98 : tk_Me 98 tk_r98 tk_kno := ⟨rfl, rfl⟩
theorem me99 : tk_Me 99 tk_r99 tk_kno := ⟨rfl, rfl⟩
theorem me100 : tk_Me 100 tk_r100 tk_kno := ⟨rfl, rfl⟩
theorem me101 : tk_Me 101 tk_r101 tk_kno := ⟨rfl, rfl⟩
theorem me102 : tk_Me 102 tk_r102 tk_kno := ⟨rfl, rfl⟩
theorem me103 : tk_Me 103 tk_r103 tk_kno := ⟨rfl, rfl⟩
theorem me104 : tk_Me 104 tk_r104 tk_k104 := ⟨rfl, rfl⟩
theorem me105 : tk_Me 105 tk_r105 tk_kno := ⟨rfl, rfl⟩
theorem me106 : tk_Me 106 tk_r106 tk_kno := ⟨rfl, rfl⟩
theorem me107 : tk_Me 107 tk_r107 tk_k107 := ⟨rfl, rfl⟩
theorem me108 : tk_Me 108 tk_r108 tk_k108 := ⟨rfl, rfl⟩
theorem me109 : tk_Me 109 tk_r109 tk_k109 := ⟨rfl, rfl⟩
theorem me110 : tk_Me 110 tk_r110 tk_kno := ⟨rfl, rfl⟩
theorem me111 : tk_Me 111 tk_r111 tk_kno := ⟨rfl, rfl⟩
theorem me112 : tk_Me 112 tk_r112 tk_kno := ⟨rfl, rfl⟩
theorem me113 : tk_Me 113 tk_r113 tk_k113 := ⟨rfl, rfl⟩
theorem me114 : tk_Me 114 tk_r114 tk_kno := ⟨rfl, rfl⟩
theorem me115 : tk_Me 115 tk_r115 tk_k115 := ⟨rfl, rfl⟩
theorem me116 : tk_Me 116 tk_r116 tk_k116 := ⟨rfl, rfl⟩
theorem me117 : tk_Me 117 tk_r117 tk_kno := ⟨rfl, rfl⟩
theorem me118 : tk_Me 118 tk_r118 tk_kno := ⟨rfl, rfl⟩
theorem me119 : tk_Me 119 tk_r119 tk_kno := ⟨rfl, rfl⟩
theorem me120 : tk_Me 120 tk_r120 tk_kno := ⟨rfl, rfl⟩
theorem me121 : tk_Me 121 tk_r121 tk_k121 := ⟨rfl, rfl⟩
theorem me122 : tk_Me 122 tk_r122 tk_kno := ⟨rfl, rfl⟩
theorem me123 : tk_Me 123 tk_r123 tk_k123 := ⟨rfl, rfl⟩
theorem me124 : tk_Me 124 tk_r124 tk_kno := ⟨rfl, rfl⟩
theorem me125 : tk_Me 125 tk_r125 tk_kno := ⟨rfl, rfl⟩
theorem me126 : tk_Me 126 tk_r126 tk_kno := ⟨rfl, rfl⟩
theorem me127 : tk_Me 127 tk_r127 tk_k127 := ⟨rfl, rfl⟩
theorem me128 : tk_Me 128 tk_r128 tk_kno := ⟨rfl, rfl⟩
theorem me129 : tk_Me 129 tk_r129 tk_kno := ⟨rfl, rfl⟩
theorem me130 : tk_Me 130 tk_r130 tk_kno := ⟨rfl, rfl⟩
theorem me131 : tk_Me 131 tk_r131 tk_kno := ⟨rfl, rfl⟩
theorem me132 : tk_Me 132 tk_r132 tk_k132 := ⟨rfl, rfl⟩
theorem me133 : tk_Me 133 tk_r133 tk_k133 := ⟨rfl, rfl⟩
theorem me134 : tk_Me 134 tk_r134 tk_kno := ⟨rfl, rfl⟩
theorem me135 : tk_Me 135 tk_r135 tk_kno := ⟨rfl, rfl⟩
theorem me136 : tk_Me 136 tk_r136 tk_kno := ⟨rfl, rfl⟩
theorem me137 : tk_Me 137 tk_r137 tk_kno := ⟨rfl, rfl⟩
theorem me138 : tk_Me 138 tk_r138 tk_k138 := ⟨rfl, rfl⟩
theorem me139 : tk_Me 139 tk_r139 tk_k139 := ⟨rfl, rfl⟩
theorem me140 : tk_Me 140 tk_r140 tk_kno := ⟨rfl, rfl⟩
theorem me141 : tk_Me 141 tk_r141 tk_kno := ⟨rfl, rfl⟩
theorem me142 : tk_Me 142 tk_r142 tk_kno := ⟨rfl, rfl⟩
theorem me143 : tk_Me 143 tk_r143 tk_kno := ⟨rfl, rfl⟩
theorem me144 : tk_Me 144 tk_r144 tk_kno := ⟨rfl, rfl⟩
theorem me145 : tk_Me 145 tk_r145 tk_k145 := ⟨rfl, rfl⟩
theorem me146 : tk_Me 146 tk_r146 tk_kno := ⟨rfl, rfl⟩
theorem me147 : tk_Me 147 tk_r147 tk_k147 := ⟨rfl, rfl⟩
theorem me148 : tk_Me 148 tk_r148 tk_kno := ⟨rfl, rfl⟩
theorem me149 : tk_Me 149 tk_r149 tk_kno := ⟨rfl, rfl⟩
theorem me150 : tk_Me 150 tk_r150 tk_kno := ⟨rfl, rfl⟩
theorem me151 : tk_Me 151 tk_r151 tk_kno := ⟨rfl, rfl⟩
theorem me152 : tk_Me 152 tk_r152 tk_kno := ⟨rfl, rfl⟩
theorem me153 : tk_Me 153 tk_r153 tk_kno := ⟨rfl, rfl⟩
theorem me154 : tk_Me 154 tk_r154 tk_kno := ⟨rfl, rfl⟩
theorem me155 : tk_Me 155 tk_r155 tk_kno := ⟨rfl, rfl⟩
theorem me156 : tk_Me 156 tk_r156 tk_kno := ⟨rfl, rfl⟩
theorem me157 : tk_Me 157 tk_r157 tk_kno := ⟨rfl, rfl⟩
theorem me158 : tk_Me 158 tk_r158 tk_k158 := ⟨rfl, rfl⟩
theorem me159 : tk_Me 159 tk_r159 tk_kno := ⟨rfl, rfl⟩
theorem me160 : tk_Me 160 tk_r160 tk_kno := ⟨rfl, rfl⟩
theorem me161 : tk_Me 161 tk_r161 tk_kno := ⟨rfl, rfl⟩
theorem me162 : tk_Me 162 tk_r162 tk_k162 := ⟨rfl, rfl⟩
theorem me163 : tk_Me 163 tk_r163 tk_kno := ⟨rfl, rfl⟩
theorem me164 : tk_Me 164 tk_r164 tk_kno := ⟨rfl, rfl⟩
theorem me165 : tk_Me 165 tk_r165 tk_kno := ⟨rfl, rfl⟩
theorem me166 : tk_Me 166 tk_r166 tk_kno := ⟨rfl, rfl⟩
theorem me167 : tk_Me 167 tk_r167 tk_kno := ⟨rfl, rfl⟩
theorem me168 : tk_Me 168 tk_r168 tk_kno := ⟨rfl, rfl⟩
theorem me169 : tk_Me 169 tk_r169 tk_k169 := ⟨rfl, rfl⟩
theorem me170 : tk_Me 170 tk_r170 tk_kno := ⟨rfl, rfl⟩
theorem me171 : tk_Me 171 tk_r171 tk_kno := ⟨rfl, rfl⟩
theorem me172 : tk_Me 172 tk_r172 tk_kno := ⟨rfl, rfl⟩
theorem me173 : tk_Me 173 tk_r173 tk_kno := ⟨rfl, rfl⟩
theorem me174 : tk_Me 174 tk_r174 tk_k174 := ⟨rfl, rfl⟩
theorem me175 : tk_Me 175 tk_r175 tk_k175 := ⟨rfl, rfl⟩
theorem me176 : tk_Me 176 tk_r176 tk_k176 := ⟨rfl, rfl⟩
theorem me178 : tk_Me 178 tk_r178 tk_kno := ⟨rfl, rfl⟩
theorem me179 : tk_Me 179 tk_r179 tk_kno := ⟨rfl, rfl⟩
theorem me180 : tk_Me 180 tk_r180 tk_kno := ⟨rfl, rfl⟩
theorem me181 : tk_Me 181 tk_r181 tk_kno := ⟨rfl, rfl⟩
theorem me182 : tk_Me 182 tk_r182 tk_kno := ⟨rfl, rfl⟩
theorem me183 : tk_Me 183 tk_r183 tk_k183 := ⟨rfl, rfl⟩
theorem me184 : tk_Me 184 tk_r184 tk_kno := ⟨rfl, rfl⟩
theorem me185 : tk_Me 185 tk_r185 tk_kno := ⟨rfl, rfl⟩
theorem me186 : tk_Me 186 tk_r186 tk_kno := ⟨rfl, rfl⟩
theorem me187 : tk_Me 187 tk_r187 tk_kno := ⟨rfl, rfl⟩
theorem me188 : tk_Me 188 tk_r188 tk_kno := ⟨rfl, rfl⟩
theorem me189 : tk_Me 189 tk_r189 tk_kno := ⟨rfl, rfl⟩
theorem me190 : tk_Me 190 tk_r190 tk_k190 := ⟨rfl, rfl⟩
theorem me191 : tk_Me 191 tk_r191 tk_kno := ⟨rfl, rfl⟩
theorem me192 : tk_Me 192 tk_r192 tk_kno := ⟨rfl, rfl⟩
theorem me193 : tk_Me 193 tk_r193 tk_kno := ⟨rfl, rfl⟩
theorem me194 : tk_Me 194 tk_r194 tk_k194 := ⟨rfl, rfl⟩
theorem me195 : tk_Me 195 tk_r195 tk_k195 := ⟨rfl, rfl⟩
theorem me196 : tk_Me 196 tk_r196 tk_kno := ⟨rfl, rfl⟩
theorem me197 : tk_Me 197 tk_r197 tk_k197 := ⟨rfl, rfl⟩
theorem me198 : tk_Me 198 tk_r198 tk_k198 := ⟨rfl, rfl⟩
theorem me199 : tk_Me 199 tk_r199 tk_kno := ⟨rfl, rfl⟩
theorem me200 : tk_Me 200 tk_r200 tk_kno := ⟨rfl, rfl⟩
theorem me201 : tk_Me 201 tk_r201 tk_k201 := ⟨rfl, rfl⟩
theorem me202 : tk_Me 202 tk_r202 tk_kno := ⟨rfl, rfl⟩
theorem me203 : tk_Me 203 tk_r203 tk_kno := ⟨rfl, rfl⟩
theorem me204 : tk_Me 204 tk_r204 tk_kno := ⟨rfl, rfl⟩
theorem me205 : tk_Me 205 tk_r205 tk_k205 := ⟨rfl, rfl⟩
theorem me206 : tk_Me 206 tk_r206 tk_k206 := ⟨rfl, rfl⟩
theorem me207 : tk_Me 207 tk_r207 tk_kno := ⟨rfl, rfl⟩
theorem me208 : tk_Me 208 tk_r208 tk_kno := ⟨rfl, rfl⟩
theorem me209 : tk_Me 209 tk_r209 tk_kno := ⟨rfl, rfl⟩
theorem me210 : tk_Me 210 tk_r210 tk_k210 := ⟨rfl, rfl⟩
theorem me211 : tk_Me 211 tk_r211 tk_k211 := ⟨rfl, rfl⟩
theorem me212 : tk_Me 212 tk_r212 tk_kno := ⟨rfl, rfl⟩
theorem me213 : tk_Me 213 tk_r213 tk_k213 := ⟨rfl, rfl⟩
theorem me214 : tk_Me 214 tk_r214 tk_k214 := ⟨rfl, rfl⟩
theorem me215 : tk_Me 215 tk_r215 tk_kno := ⟨rfl, rfl⟩
theorem me216 : tk_Me 216 tk_r216 tk_k216 := ⟨rfl, rfl⟩
theorem me217 : tk_Me 217 tk_r217 tk_kno := ⟨rfl, rfl⟩
theorem me218 : tk_Me 218 tk_r218 tk_kno := ⟨rfl, rfl⟩
theorem me219 : tk_Me 219 tk_r219 tk_kno := ⟨rfl, rfl⟩
theorem me220 : tk_Me 220 tk_r220 tk_k220 := ⟨rfl, rfl⟩
theorem me221 : tk_Me 221 tk_r221 tk_k221 := ⟨rfl, rfl⟩
theorem me222 : tk_Me 222 tk_r222 tk_k222 := ⟨rfl, rfl⟩
theorem me223 : tk_Me 223 tk_r223 tk_k223 := ⟨rfl, rfl⟩
theorem me224 : tk_Me 224 tk_r224 tk_k224 := ⟨rfl, rfl⟩
theorem me225 : tk_Me 225 tk_r225 tk_kno := ⟨rfl, rfl⟩
theorem me226 : tk_Me 226 tk_r226 tk_k226 := ⟨rfl, rfl⟩
theorem me227 : tk_Me 227 tk_r227 tk_kno := ⟨rfl, rfl⟩
theorem me228 : tk_Me 228 tk_r228 tk_kno := ⟨rfl, rfl⟩
theorem me229 : tk_Me 229 tk_r229 tk_k229 := ⟨rfl, rfl⟩
theorem me230 : tk_Me 230 tk_r230 tk_k230 := ⟨rfl, rfl⟩
theorem me231 : tk_Me 231 tk_r231 tk_k231 := ⟨rfl, rfl⟩
theorem me232 : tk_Me 232 tk_r232 tk_kno := ⟨rfl, rfl⟩
theorem me233 : tk_Me 233 tk_r233 tk_k233 := ⟨rfl, rfl⟩
theorem me234 : tk_Me 234 tk_r234 tk_k234 := ⟨rfl, rfl⟩
theorem me235 : tk_Me 235 tk_r235 tk_k235 := ⟨rfl, rfl⟩
theorem me236 : tk_Me 236 tk_r236 tk_k236 := ⟨rfl, rfl⟩
theorem me237 : tk_Me 237 tk_r237 tk_kno := ⟨rfl, rfl⟩
theorem me238 : tk_Me 238 tk_r238 tk_kno := ⟨rfl, rfl⟩
theorem me239 : tk_Me 239 tk_r239 tk_k239 := ⟨rfl, rfl⟩
theorem me240 : tk_Me 240 tk_r240 tk_kno := ⟨rfl, rfl⟩
theorem me241 : tk_Me 241 tk_r241 tk_kno := ⟨rfl, rfl⟩
theorem me242 : tk_Me 242 tk_r242 tk_kno := ⟨rfl, rfl⟩
theorem me243 : tk_Me 243 tk_r243 tk_kno := ⟨rfl, rfl⟩
theorem me244 : tk_Me 244 tk_r244 tk_kno := ⟨rfl, rfl⟩
theorem me245 : tk_Me 245 tk_r245 tk_kno := ⟨rfl, rfl⟩
theorem me246 : tk_Me 246 tk_r246 tk_k246 := ⟨rfl, rfl⟩
theorem me247 : tk_Me 247 tk_r247 tk_k247 := ⟨rfl, rfl⟩
theorem me248 : tk_Me 248 tk_r248 tk_k248 := ⟨rfl, rfl⟩
theorem me249 : tk_Me 249 tk_r249 tk_kno := ⟨rfl, rfl⟩
theorem me250 : tk_Me 250 tk_r250 tk_kno := ⟨rfl, rfl⟩
theorem me251 : tk_Me 251 tk_r251 tk_kno := ⟨rfl, rfl⟩
theorem me252 : tk_Me 252 tk_r252 tk_k252 := ⟨rfl, rfl⟩
theorem me253 : tk_Me 253 tk_r253 tk_kno := ⟨rfl, rfl⟩
theorem me254 : tk_Me 254 tk_r254 tk_kno := ⟨rfl, rfl⟩
theorem me255 : tk_Me 255 tk_r255 tk_k255 := ⟨rfl, rfl⟩
theorem me256 : tk_Me 256 tk_r256 tk_kno := ⟨rfl, rfl⟩
theorem me257 : tk_Me 257 tk_r257 tk_k257 := ⟨rfl, rfl⟩
theorem me258 : tk_Me 258 tk_r258 tk_kno := ⟨rfl, rfl⟩
theorem me259 : tk_Me 259 tk_r259 tk_kno := ⟨rfl, rfl⟩
theorem me260 : tk_Me 260 tk_r260 tk_k260 := ⟨rfl, rfl⟩
theorem me261 : tk_Me 261 tk_r261 tk_kno := ⟨rfl, rfl⟩
theorem me262 : tk_Me 262 tk_r262 tk_kno := ⟨rfl, rfl⟩
theorem me263 : tk_Me 263 tk_r263 tk_kno := ⟨rfl, rfl⟩
theorem me264 : tk_Me 264 tk_r264 tk_k264 := ⟨rfl, rfl⟩
theorem me265 : tk_Me 265 tk_r265 tk_kno := ⟨rfl, rfl⟩
theorem me266 : tk_Me 266 tk_r266 tk_k266 := ⟨rfl, rfl⟩
theorem me267 : tk_Me 267 tk_r267 tk_k267 := ⟨rfl, rfl⟩
theorem me268 : tk_Me 268 tk_r268 tk_k268 := ⟨rfl, rfl⟩
theorem me269 : tk_Me 269 tk_r269 tk_kno := ⟨rfl, rfl⟩
theorem me270 : tk_Me 270 tk_r270 tk_kno := ⟨rfl, rfl⟩
theorem me271 : tk_Me 271 tk_r271 tk_k271 := ⟨rfl, rfl⟩
theorem me272 : tk_Me 272 tk_r272 tk_kno := ⟨rfl, rfl⟩
theorem me273 : tk_Me 273 tk_r273 tk_kno := ⟨rfl, rfl⟩
theorem me274 : tk_Me 274 tk_r274 tk_k274 := ⟨rfl, rfl⟩
theorem me275 : tk_Me 275 tk_r275 tk_kno := ⟨rfl, rfl⟩
theorem me276 : tk_Me 276 tk_r276 tk_kno := ⟨rfl, rfl⟩
theorem me277 : tk_Me 277 tk_r277 tk_kno := ⟨rfl, rfl⟩
theorem me278 : tk_Me 278 tk_r278 tk_k278 := ⟨rfl, rfl⟩
theorem me279 : tk_Me 279 tk_r279 tk_k279 := ⟨rfl, rfl⟩
theorem me280 : tk_Me 280 tk_r280 tk_k280 := ⟨rfl, rfl⟩
theorem me281 : tk_Me 281 tk_r281 tk_kno := ⟨rfl, rfl⟩
theorem me282 : tk_Me 282 tk_r282 tk_k282 := ⟨rfl, rfl⟩
theorem me283 : tk_Me 283 tk_r283 tk_k283 := ⟨rfl, rfl⟩
theorem me284 : tk_Me 284 tk_r284 tk_k284 := ⟨rfl, rfl⟩
theorem ly0 : tk_lay[0]? = some (.inl 10) := by decide +kernel
theorem ly1 : tk_lay[1]? = some (.inl 5) := by decide +kernel
theorem ly2 : tk_lay[2]? = some (.inr (6, 6)) := by decide +kernel
theorem ly3 : tk_lay[3]? = some (.inr (0, 3)) := by decide +kernel
theorem ly10 : tk_lay[10]? = some (.inr (3, 8)) := by decide +kernel
theorem ly11 : tk_lay[11]? = some (.inr (4, 6)) := by decide +kernel
theorem ly12 : tk_lay[12]? = some (.inr (5, 4)) := by decide +kernel
theorem ly13 : tk_lay[13]? = some (.inl 3) := by decide +kernel
theorem ly14 : tk_lay[14]? = some (.inl 4) := by decide +kernel
theorem ly16 : tk_lay[16]? = some (.inl 0) := by decide +kernel
theorem ly18 : tk_lay[18]? = some (.inl 0) := by decide +kernel
theorem ly20 : tk_lay[20]? = some (.inl 0) := by decide +kernel
theorem ly22 : tk_lay[22]? = some (.inl 0) := by decide +kernel
theorem ly24 : tk_lay[24]? = some (.inl 0) := by decide +kernel
theorem ly26 : tk_lay[26]? = some (.inl 0) := by decide +kernel
theorem ly28 : tk_lay[28]? = some (.inl 0) := by decide +kernel
theorem ly30 : tk_lay[30]? = some (.inl 0) := by decide +kernel
theorem ly32 : tk_lay[32]? = some (.inl 0) := by decide +kernel
theorem ly34 : tk_lay[34]? = some (.inl 9) := by decide +kernel
theorem ly35 : tk_lay[35]? = some (.inl 4) := by decide +kernel
theorem ly37 : tk_lay[37]? = some (.inr (1, 4)) := by decide +kernel
theorem ly38 : tk_lay[38]? = some (.inr (1, 3)) := by decide +kernel
theorem ly39 : tk_lay[39]? = some (.inl 2) := by decide +kernel
theorem ly40 : tk_lay[40]? = some (.inl 3) := by decide +kernel
theorem ly43 : tk_lay[43]? = some (.inl 0) := by decide +kernel
theorem ly45 : tk_lay[45]? = some (.inl 0) := by decide +kernel
theorem ly47 : tk_lay[47]? = some (.inl 0) := by decide +kernel
theorem ly49 : tk_lay[49]? = some (.inl 0) := by decide +kernel
theorem ly51 : tk_lay[51]? = some (.inl 0) := by decide +kernel
theorem ly53 : tk_lay[53]? = some (.inl 0) := by decide +kernel
theorem ly55 : tk_lay[55]? = some (.inl 0) := by decide +kernel
theorem ly57 : tk_lay[57]? = some (.inl 0) := by decide +kernel
theorem ly61 : tk_lay[61]? = some (.inr (7, 16)) := by decide +kernel
theorem ly62 : tk_lay[62]? = some (.inl 8) := by decide +kernel
theorem ly63 : tk_lay[63]? = some (.inr (8, 3)) := by decide +kernel
theorem ly64 : tk_lay[64]? = some (.inl 8) := by decide +kernel
theorem ly65 : tk_lay[65]? = some (.inl 8) := by decide +kernel
theorem ly66 : tk_lay[66]? = some (.inl 8) := by decide +kernel
theorem ly67 : tk_lay[67]? = some (.inl 8) := by decide +kernel
theorem ly68 : tk_lay[68]? = some (.inl 8) := by decide +kernel
theorem ly69 : tk_lay[69]? = some (.inl 4) := by decide +kernel
theorem ly199 : tk_lay[199]? = some (.inl 8) := by decide +kernel
theorem ly200 : tk_lay[200]? = some (.inl 8) := by decide +kernel
theorem ly201 : tk_lay[201]? = some (.inl 8) := by decide +kernel
theorem ly202 : tk_lay[202]? = some (.inr (0, 8)) := by decide +kernel
theorem ly295 : tk_lay[295]? = some (.inl 11) := by decide +kernel
theorem ly296 : tk_lay[296]? = some (.inr (0, 29)) := by decide +kernel
theorem ly297 : tk_lay[297]? = some (.inr (9, 8)) := by decide +kernel
theorem ly306 : tk_lay[306]? = some (.inr (0, 8)) := by decide +kernel
theorem ly307 : tk_lay[307]? = some (.inr (9, 40)) := by decide +kernel
theorem ly348 : tk_lay[348]? = some (.inr (0, 40)) := by decide +kernel
theorem ly349 : tk_lay[349]? = some (.inr (0, 16)) := by decide +kernel
theorem ly350 : tk_lay[350]? = some (.inr (11, 16)) := by decide +kernel
theorem ly415 : tk_lay[415]? = some (.inr (10, 16)) := by decide +kernel
theorem ly432 : tk_lay[432]? = some (.inr (10, 3)) := by decide +kernel
theorem ly433 : tk_lay[433]? = some (.inr (1, 4)) := by decide +kernel
theorem ly434 : tk_lay[434]? = some (.inr (1, 4)) := by decide +kernel
theorem ly435 : tk_lay[435]? = some (.inr (1, 4)) := by decide +kernel
theorem ly436 : tk_lay[436]? = some (.inr (1, 3)) := by decide +kernel
theorem ly437 : tk_lay[437]? = some (.inr (1, 3)) := by decide +kernel
theorem ly438 : tk_lay[438]? = some (.inr (1, 3)) := by decide +kernel
theorem ly439 : tk_lay[439]? = some (.inr (1, 3)) := by decide +kernel
theorem ly440 : tk_lay[440]? = some (.inr (1, 3)) := by decide +kernel
theorem ly441 : tk_lay[441]? = some (.inr (1, 3)) := by decide +kernel
theorem ly442 : tk_lay[442]? = some (.inr (0, 4)) := by decide +kernel
theorem ly443 : tk_lay[443]? = some (.inr (0, 4)) := by decide +kernel
theorem ly444 : tk_lay[444]? = some (.inr (10, 4)) := by decide +kernel
theorem ly449 : tk_lay[449]? = some (.inr (1, 4)) := by decide +kernel
theorem ly450 : tk_lay[450]? = some (.inr (2, 6)) := by decide +kernel
theorem ly451 : tk_lay[451]? = some (.inr (10, 6)) := by decide +kernel
theorem ly458 : tk_lay[458]? = some (.inr (1, 4)) := by decide +kernel
theorem ly459 : tk_lay[459]? = some (.inr (1, 40)) := by decide +kernel
theorem rt0_0 : tk_rto 0 0 = some 1 := by decide +kernel
theorem rt0_1 : tk_rto 0 1 = some 10 := by decide +kernel
theorem rt0_3 : tk_rto 0 3 = some 11 := by decide +kernel
theorem rt0_4 : tk_rto 0 4 = some 12 := by decide +kernel
theorem rt0_5 : tk_rto 0 5 = some 13 := by decide +kernel
theorem rt0_6 : tk_rto 0 6 = some 34 := by decide +kernel
theorem rt0_7 : tk_rto 0 7 = some 39 := by decide +kernel
theorem rt0_8 : tk_rto 0 8 = some 202 := by decide +kernel
theorem rt1_0 : tk_rto 1 0 = some 2 := by decide +kernel
theorem rt1_2 : tk_rto 1 2 = some 3 := by decide +kernel
theorem rt13_0 : tk_rto 13 0 = some 14 := by decide +kernel
theorem rt13_1 : tk_rto 13 1 = some 16 := by decide +kernel
theorem rt13_2 : tk_rto 13 2 = some 18 := by decide +kernel
theorem rt13_3 : tk_rto 13 3 = some 20 := by decide +kernel
theorem rt13_4 : tk_rto 13 4 = some 22 := by decide +kernel
theorem rt13_5 : tk_rto 13 5 = some 24 := by decide +kernel
theorem rt13_6 : tk_rto 13 6 = some 26 := by decide +kernel
theorem rt13_7 : tk_rto 13 7 = some 28 := by decide +kernel
theorem rt13_8 : tk_rto 13 8 = some 30 := by decide +kernel
theorem rt13_9 : tk_rto 13 9 = some 32 := by decide +kernel
theorem rt34_1 : tk_rto 34 1 = some 35 := by decide +kernel
theorem rt34_2 : tk_rto 34 2 = some 37 := by decide +kernel
theorem rt34_3 : tk_rto 34 3 = some 38 := by decide +kernel
theorem rt39_0 : tk_rto 39 0 = some 40 := by decide +kernel
theorem rt39_1 : tk_rto 39 1 = some 61 := by decide +kernel
theorem rt39_5 : tk_rto 39 5 = some 62 := by decide +kernel
theorem rt39_6 : tk_rto 39 6 = some 63 := by decide +kernel
theorem rt39_7 : tk_rto 39 7 = some 64 := by decide +kernel
theorem rt39_8 : tk_rto 39 8 = some 65 := by decide +kernel
theorem rt39_9 : tk_rto 39 9 = some 66 := by decide +kernel
theorem rt39_10 : tk_rto 39 10 = some 67 := by decide +kernel
theorem rt39_11 : tk_rto 39 11 = some 68 := by decide +kernel
theorem rt39_14 : tk_rto 39 14 = some 69 := by decide +kernel
theorem rt40_1 : tk_rto 40 1 = some 43 := by decide +kernel
theorem rt40_2 : tk_rto 40 2 = some 45 := by decide +kernel
theorem rt40_3 : tk_rto 40 3 = some 47 := by decide +kernel
theorem rt40_4 : tk_rto 40 4 = some 49 := by decide +kernel
theorem rt40_5 : tk_rto 40 5 = some 51 := by decide +kernel
theorem rt40_6 : tk_rto 40 6 = some 53 := by decide +kernel
theorem rt40_7 : tk_rto 40 7 = some 55 := by decide +kernel
theorem rt40_8 : tk_rto 40 8 = some 57 := by decide +kernel
theorem rt63_0 : tk_rto 63 0 = some 199 := by decide +kernel
theorem rt63_1 : tk_rto 63 1 = some 200 := by decide +kernel
theorem rt63_2 : tk_rto 63 2 = some 201 := by decide +kernel
theorem rt295_0 : tk_rto 295 0 = some 296 := by decide +kernel
theorem rt295_1 : tk_rto 295 1 = some 297 := by decide +kernel
theorem rt295_3 : tk_rto 295 3 = some 306 := by decide +kernel
theorem rt295_7 : tk_rto 295 7 = some 307 := by decide +kernel
theorem rt295_8 : tk_rto 295 8 = some 348 := by decide +kernel
theorem rt295_12 : tk_rto 295 12 = some 349 := by decide +kernel
theorem rt295_13 : tk_rto 295 13 = some 350 := by decide +kernel
theorem rt295_14 : tk_rto 295 14 = some 415 := by decide +kernel
theorem rt295_15 : tk_rto 295 15 = some 432 := by decide +kernel
theorem rt295_17 : tk_rto 295 17 = some 436 := by decide +kernel
theorem rt295_18 : tk_rto 295 18 = some 437 := by decide +kernel
theorem rt295_19 : tk_rto 295 19 = some 438 := by decide +kernel
theorem rt295_20 : tk_rto 295 20 = some 439 := by decide +kernel
theorem rt295_21 : tk_rto 295 21 = some 440 := by decide +kernel
theorem rt295_22 : tk_rto 295 22 = some 441 := by decide +kernel
theorem rt295_23 : tk_rto 295 23 = some 442 := by decide +kernel
theorem rt295_24 : tk_rto 295 24 = some 443 := by decide +kernel
theorem rt295_25 : tk_rto 295 25 = some 444 := by decide +kernel
theorem rt295_26 : tk_rto 295 26 = some 449 := by decide +kernel
theorem rt295_27 : tk_rto 295 27 = some 450 := by decide +kernel
theorem rt295_28 : tk_rto 295 28 = some 451 := by decide +kernel
theorem rt295_29 : tk_rto 295 29 = some 458 := by decide +kernel
theorem rt295_30 : tk_rto 295 30 = some 459 := by decide +kernel
theorem rt432_0 : tk_rto 432 0 = some 433 := by decide +kernel
theorem rt432_1 : tk_rto 432 1 = some 434 := by decide +kernel
theorem rt432_2 : tk_rto 432 2 = some 435 := by decide +kernel
theorem rl0_2 : ∀ t, t < 460 → tk_lay[t]? = some (.inl 0) → tk_rto t 2 = some (t + 1) ∧ tk_lay[t + 1]? = some (.inr (0, 24)) := by decide +kernel
theorem ro0_2 {t : Nat} (h : tk_lay[t]? = some (.inl 0)) : tk_rto t 2 = some (t + 1) := (rl0_2 t (tk_lt9 h) h).1
theorem lo0_2 {t : Nat} (h : tk_lay[t]? = some (.inl 0)) : tk_lay[t + 1]? = some (.inr (0, 24)) := (rl0_2 t (tk_lt9 h) h).2
theorem rl1_1 : ∀ t, t < 460 → tk_lay[t]? = some (.inl 1) → tk_rto t 1 = some (t + 1) ∧ tk_lay[t + 1]? = some (.inr (1, 7)) := by decide +kernel
theorem ro1_1 {t : Nat} (h : tk_lay[t]? = some (.inl 1)) : tk_rto t 1 = some (t + 1) := (rl1_1 t (tk_lt9 h) h).1
theorem lo1_1 {t : Nat} (h : tk_lay[t]? = some (.inl 1)) : tk_lay[t + 1]? = some (.inr (1, 7)) := (rl1_1 t (tk_lt9 h) h).2
theorem rl1_3 : ∀ t, t < 460 → tk_lay[t]? = some (.inl 1) → tk_rto t 3 = some (t + 2) ∧ tk_lay[t + 2]? = some (.inl 4) := by decide +kernel
theorem ro1_3 {t : Nat} (h : tk_lay[t]? = some (.inl 1)) : tk_rto t 3 = some (t + 2) := (rl1_3 t (tk_lt9 h) h).1
theorem lo1_3 {t : Nat} (h : tk_lay[t]? = some (.inl 1)) : tk_lay[t + 2]? = some (.inl 4) := (rl1_3 t (tk_lt9 h) h).2
theorem rl1_4 : ∀ t, t < 460 → tk_lay[t]? = some (.inl 1) → tk_rto t 4 = some (t + 4) ∧ tk_lay[t + 4]? = some (.inl 4) := by decide +kernel
theorem ro1_4 {t : Nat} (h : tk_lay[t]? = some (.inl 1)) : tk_rto t 4 = some (t + 4) := (rl1_4 t (tk_lt9 h) h).1
theorem lo1_4 {t : Nat} (h : tk_lay[t]? = some (.inl 1)) : tk_lay[t + 4]? = some (.inl 4) := (rl1_4 t (tk_lt9 h) h).2
theorem rl1_5 : ∀ t, t < 460 → tk_lay[t]? = some (.inl 1) → tk_rto t 5 = some (t + 6) ∧ tk_lay[t + 6]? = some (.inl 4) := by decide +kernel
theorem ro1_5 {t : Nat} (h : tk_lay[t]? = some (.inl 1)) : tk_rto t 5 = some (t + 6) := (rl1_5 t (tk_lt9 h) h).1
theorem lo1_5 {t : Nat} (h : tk_lay[t]? = some (.inl 1)) : tk_lay[t + 6]? = some (.inl 4) := (rl1_5 t (tk_lt9 h) h).2
theorem rl4_1 : ∀ t, t < 460 → tk_lay[t]? = some (.inl 4) → tk_rto t 1 = some (t + 1) ∧ tk_lay[t + 1]? = some (.inr (1, 3)) := by decide +kernel
theorem ro4_1 {t : Nat} (h : tk_lay[t]? = some (.inl 4)) : tk_rto t 1 = some (t + 1) := (rl4_1 t (tk_lt9 h) h).1
theorem lo4_1 {t : Nat} (h : tk_lay[t]? = some (.inl 4)) : tk_lay[t + 1]? = some (.inr (1, 3)) := (rl4_1 t (tk_lt9 h) h).2
theorem rl5_0 : ∀ t, t < 460 → tk_lay[t]? = some (.inl 5) → tk_rto t 0 = some (t + 1) ∧ tk_lay[t + 1]? = some (.inr (6, 6)) := by decide +kernel
theorem ro5_0 {t : Nat} (h : tk_lay[t]? = some (.inl 5)) : tk_rto t 0 = some (t + 1) := (rl5_0 t (tk_lt9 h) h).1
theorem lo5_0 {t : Nat} (h : tk_lay[t]? = some (.inl 5)) : tk_lay[t + 1]? = some (.inr (6, 6)) := (rl5_0 t (tk_lt9 h) h).2
theorem rl5_2 : ∀ t, t < 460 → tk_lay[t]? = some (.inl 5) → tk_rto t 2 = some (t + 2) ∧ tk_lay[t + 2]? = some (.inr (0, 3)) := by decide +kernel
theorem ro5_2 {t : Nat} (h : tk_lay[t]? = some (.inl 5)) : tk_rto t 2 = some (t + 2) := (rl5_2 t (tk_lt9 h) h).1
theorem lo5_2 {t : Nat} (h : tk_lay[t]? = some (.inl 5)) : tk_lay[t + 2]? = some (.inr (0, 3)) := (rl5_2 t (tk_lt9 h) h).2
theorem rl7_2 : ∀ t, t < 460 → tk_lay[t]? = some (.inl 7) → tk_rto t 2 = some (t + 1) ∧ tk_lay[t + 1]? = some (.inr (1, 40)) := by decide +kernel
theorem ro7_2 {t : Nat} (h : tk_lay[t]? = some (.inl 7)) : tk_rto t 2 = some (t + 1) := (rl7_2 t (tk_lt9 h) h).1
theorem lo7_2 {t : Nat} (h : tk_lay[t]? = some (.inl 7)) : tk_lay[t + 1]? = some (.inr (1, 40)) := (rl7_2 t (tk_lt9 h) h).2
theorem la451 : ∀ k, k < 6 → tk_rto 451 k = some (452 + k) ∧ tk_lay[452 + k]? = some (.inr (1, 4)) := by decide +kernel
theorem la415 : ∀ k, k < 16 → tk_rto 415 k = some (416 + k) ∧ tk_lay[416 + k]? = some (.inr (1, 8)) := by decide +kernel
theorem la297 : ∀ k, k < 8 → tk_rto 297 k = some (298 + k) ∧ tk_lay[298 + k]? = some (.inr (0, 29)) := by decide +kernel
theorem la10 : ∀ k, k < 8 → tk_rto 10 k = some (203 + 9 * k) ∧ tk_lay[203 + 9 * k]? = some (.inl 5) := by decide +kernel
theorem la11 : ∀ k, k < 6 → tk_rto 11 k = some (275 + 2 * k) ∧ tk_lay[275 + 2 * k]? = some (.inl 4) := by decide +kernel
theorem la12 : ∀ k, k < 4 → tk_rto 12 k = some (287 + 2 * k) ∧ tk_lay[287 + 2 * k]? = some (.inl 7) := by decide +kernel
theorem lbR : ∀ k, k < 16 → ∀ w, w < 3 → tk_rto (351 + 4 * k) w = some (351 + 4 * k + 1 + w) ∧ tk_lay[351 + 4 * k + 1 + w]? = some (.inr (1, 4)) := by decide +kernel
theorem la432 : ∀ k, k < 3 → tk_rto 432 k = some (433 + k) ∧ tk_lay[433 + k]? = some (.inr (1, 4)) := by decide +kernel
theorem la307 : ∀ k, k < 40 → tk_rto 307 k = some (308 + k) ∧ tk_lay[308 + k]? = some (.inr (0, 60)) := by decide +kernel
theorem la444 : ∀ k, k < 4 → tk_rto 444 k = some (445 + k) ∧ tk_lay[445 + k]? = some (.inr (1, 40)) := by decide +kernel
theorem la61 : ∀ k, k < 16 → tk_rto 61 k = some (71 + 8 * k) ∧ tk_lay[71 + 8 * k]? = some (.inl 1) := by decide +kernel
theorem la350 : ∀ k, k < 16 → tk_rto 350 k = some (351 + 4 * k) ∧ tk_lay[351 + 4 * k]? = some (.inr (10, 3)) := by decide +kernel
theorem la63 : ∀ k, k < 3 → tk_rto 63 k = some (199 + k) ∧ tk_lay[199 + k]? = some (.inl 8) := by decide +kernel
theorem tk_swo_0_2 {x : Int32} (h0 : ¬ x = 0) (h1 : ¬ x = 1) (h2 : ¬ x = 2) : x.toInt < 0 ∨ 2 < x.toInt := tk_swo (fun k ha hb => by
  rcases (show k = 0 ∨ k = 1 ∨ k = 2 by omega) with rfl | rfl | rfl
  · exact h0
  · exact h1
  · exact h2)
theorem tk_swo_0_5 {x : Int32} (h0 : ¬ x = 0) (h1 : ¬ x = 1) (h2 : ¬ x = 2) (h3 : ¬ x = 3) (h4 : ¬ x = 4) (h5 : ¬ x = 5) : x.toInt < 0 ∨ 5 < x.toInt := tk_swo (fun k ha hb => by
  rcases (show k = 0 ∨ k = 1 ∨ k = 2 ∨ k = 3 ∨ k = 4 ∨ k = 5 by omega) with rfl | rfl | rfl | rfl | rfl | rfl
  · exact h0
  · exact h1
  · exact h2
  · exact h3
  · exact h4
  · exact h5)
theorem tk_swo_1_4 {x : Int32} (h0 : ¬ x = 1) (h1 : ¬ x = 2) (h2 : ¬ x = 3) (h3 : ¬ x = 4) : x.toInt < 1 ∨ 4 < x.toInt := tk_swo (fun k ha hb => by
  rcases (show k = 1 ∨ k = 2 ∨ k = 3 ∨ k = 4 by omega) with rfl | rfl | rfl | rfl
  · exact h0
  · exact h1
  · exact h2
  · exact h3)
