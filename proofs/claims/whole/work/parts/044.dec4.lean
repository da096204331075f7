/-! ===== the facts of the methods 184 .. 243, decided ===== -/
set_option maxRecDepth 100000 in
theorem mv_ok_184 : (mv_okm 184 && mv_okc 184) = true := by decide +kernel
set_option maxRecDepth 100000 in
theorem mv_ok_185 : (mv_okm 185 && mv_okc 185) = true := by decide +kernel
set_option maxRecDepth 100000 in
theorem mv_ok_186 : (mv_okm 186 && mv_okc 186) = true := by decide +kernel
set_option maxRecDepth 100000 in
theorem mv_ok_187 : (mv_okm 187 && mv_okc 187) = true := by decide +kernel
set_option maxRecDepth 100000 in
theorem mv_ok_188 : (mv_okm 188 && mv_okc 188) = true := by decide +kernel
set_option maxRecDepth 100000 in
theorem mv_ok_189 : (mv_okm 189 && mv_okc 189) = true := by decide +kernel
set_option maxRecDepth 100000 in
theorem mv_ok_190 : (mv_okm 190 && mv_okc 190) = true := by decide +kernel
set_option maxRecDepth 100000 in
theorem mv_ok_191 : (mv_okm 191 && mv_okc 191) = true := by decide +kernel
set_option maxRecDepth 100000 in
theorem mv_ok_192 : (mv_okm 192 && mv_okc 192) = true := by decide +kernel
set_option maxRecDepth 100000 in
theorem mv_ok_193 : (mv_okm 193 && mv_okc 193) = true := by decide +kernel
set_option maxRecDepth 100000 in
theorem mv_ok_194 : (mv_okm 194 && mv_okc 194) = true := by decide +kernel
set_option maxRecDepth 100000 in
theorem mv_ok_195 : (mv_okm 195 && mv_okc 195) = true := by decide +kernel
set_option maxRecDepth 100000 in
theorem mv_ok_196 : (mv_okm 196 && mv_okc 196) = true := by decide +kernel
set_option maxRecDepth 100000 in
theorem mv_ok_197 : (mv_okm 197 && mv_okc 197) = true := by decide +kernel
set_option maxRecDepth 100000 in
theorem mv_ok_198 : (mv_okm 198 && mv_okc 198) = true := by decide +kernel
set_option maxRecDepth 100000 in
theorem mv_ok_199 : (mv_okm 199 && mv_okc 199) = true := by decide +kernel
set_option maxRecDepth 100000 in
theorem mv_ok_200 : (mv_okm 200 && mv_okc 200) = true := by decide +kernel
set_option maxRecDepth 100000 in
theorem mv_ok_201 : (mv_okm 201 && mv_okc 201) = true := by decide +kernel
set_option maxRecDepth 100000 in
theorem mv_ok_202 : (mv_okm 202 && mv_okc 202) = true := by decide +kernel
set_option maxRecDepth 100000 in
theorem mv_ok_203 : (mv_okm 203 && mv_okc 203) = true := by decide +kernel
set_option maxRecDepth 100000 in
theorem mv_ok_204 : (mv_okm 204 && mv_okc 204) = true := by decide +kernel
set_option maxRecDepth 100000 in
theorem mv_ok_205 : (mv_okm 205 && mv_okc 205) = true := by decide +kernel
set_option maxRecDepth 100000 in
theorem mv_ok_206 : (mv_okm 206 && mv_okc 206) = true := by decide +kernel
set_option maxRecDepth 100000 in
theorem mv_ok_207 : (mv_okm 207 && mv_okc 207) = true := by decide +kernel
set_option maxRecDepth 100000 in
theorem mv_ok_208 : (mv_okm 208 && mv_okc 208) = true := by decide +kernel
set_option maxRecDepth 100000 in
theorem mv_ok_209 : (mv_okm 209 && mv_okc 209) = true := by decide +kernel
set_option maxRecDepth 100000 in
theorem mv_ok_210 : (mv_okm 210 && mv_okc 210) = true := by decide +kernel
set_option maxRecDepth 100000 in
theorem mv_ok_211 : (mv_okm 211 && mv_okc 211) = true := by decide +kernel
set_option maxRecDepth 100000 in
theorem mv_ok_212 : (mv_okm 212 && mv_okc 212) = true := by decide +kernel
set_option maxRecDepth 100000 in
theorem mv_ok_213 : (mv_okm 213 && mv_okc 213) = true := by decide +kernel
set_option maxRecDepth 100000 in
theorem mv_ok_214 : (mv_okm 214 && mv_okc 214) = true := by decide +kernel
set_option maxRecDepth 100000 in
theorem mv_ok_215 : (mv_okm 215 && mv_okc 215) = true := by decide +kernel
set_option maxRecDepth 100000 in
theorem mv_ok_216 : (mv_okm 216 && mv_okc 216) = true := by decide +kernel
set_option maxRecDepth 100000 in
theorem mv_ok_217 : (mv_okm 217 && mv_okc 217) = true := by decide +kernel
set_option maxRecDepth 100000 in
theorem mv_ok_218 : (mv_okm 218 && mv_okc 218) = true := by decide +kernel
set_option maxRecDepth 100000 in
theorem mv_ok_219 : (mv_okm 219 && mv_okc 219) = true := by decide +kernel
set_option maxRecDepth 100000 in
theorem mv_ok_220 : (mv_okm 220 && mv_okc 220) = true := by decide +kernel
set_option maxRecDepth 100000 in
theorem mv_ok_221 : (mv_okm 221 && mv_okc 221) = true := by decide +kernel
set_option maxRecDepth 100000 in
theorem mv_ok_222 : (mv_okm 222 && mv_okc 222) = true := by decide +kernel
set_option maxRecDepth 100000 in
theorem mv_ok_223 : (mv_okm 223 && mv_okc 223) = true := by decide +kernel
set_option maxRecDepth 100000 in
theorem mv_ok_224 : (mv_okm 224 && mv_okc 224) = true := by decide +kernel
set_option maxRecDepth 100000 in
theorem mv_ok_225 : (mv_okm 225 && mv_okc 225) = true := by decide +kernel
set_option maxRecDepth 100000 in
theorem mv_ok_226 : (mv_okm 226 && mv_okc 226) = true := by decide +kernel
set_option maxRecDepth 100000 in
theorem mv_ok_227 : (mv_okm 227 && mv_okc 227) = true := by decide +kernel
set_option maxRecDepth 100000 in
theorem mv_ok_228 : (mv_okm 228 && mv_okc 228) = true := by decide +kernel
set_option maxRecDepth 100000 in
theorem mv_ok_229 : (mv_okm 229 && mv_okc 229) = true := by decide +kernel
set_option maxRecDepth 100000 in
theorem mv_ok_230 : (mv_okm 230 && mv_okc 230) = true := by decide +kernel
set_option maxRecDepth 100000 in
theorem mv_ok_231 : (mv_okm 231 && mv_okc 231) = true := by decide +kernel
set_option maxRecDepth 100000 in
theorem mv_ok_232 : (mv_okm 232 && mv_okc 232) = true := by decide +kernel
set_option maxRecDepth 100000 in
theorem mv_ok_233 : (mv_okm 233 && mv_okc 233) = true := by decide +kernel
set_option maxRecDepth 100000 in
theorem mv_ok_234 : (mv_okm 234 && mv_okc 234) = true := by decide +kernel
set_option maxRecDepth 100000 in
theorem mv_ok_235 : (mv_okm 235 && mv_okc 235) = true := by decide +kernel
set_option maxRecDepth 100000 in
theorem mv_ok_236 : (mv_okm 236 && mv_okc 236) = true := by decide +kernel
set_option maxRecDepth 100000 in
theorem mv_ok_237 : (mv_okm 237 && mv_okc 237) = true := by decide +kernel
set_option maxRecDepth 100000 in
theorem mv_ok_238 : (mv_okm 238 && mv_okc 238) = true := by decide +kernel
set_option maxRecDepth 100000 in
theorem mv_ok_239 : (mv_okm 239 && mv_okc 239) = true := by decide +kernel
set_option maxRecDepth 100000 in
theorem mv_ok_240 : (mv_okm 240 && mv_okc 240) = true := by decide +kernel
set_option maxRecDepth 100000 in
theorem mv_ok_241 : (mv_okm 241 && mv_okc 241) = true := by decide +kernel
set_option maxRecDepth 100000 in
theorem mv_ok_242 : (mv_okm 242 && mv_okc 242) = true := by decide +kernel
set_option maxRecDepth 100000 in
theorem mv_ok_243 : (mv_okm 243 && mv_okc 243) = true := by decide +kernel
