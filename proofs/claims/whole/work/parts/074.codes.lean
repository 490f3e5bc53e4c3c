/-! each method's code word stands in the table -/
set_option maxRecDepth 100000 in
theorem am_kc_200 : lw_tbl[(am_mp 200).2.1]? = some (.code (am_y 200) (am_b 200) (am_L 200) (am_r 200)) := rfl
set_option maxRecDepth 100000 in
theorem am_kc_201 : lw_tbl[(am_mp 201).2.1]? = some (.code (am_y 201) (am_b 201) (am_L 201) (am_r 201)) := rfl
set_option maxRecDepth 100000 in
theorem am_kc_202 : lw_tbl[(am_mp 202).2.1]? = some (.code (am_y 202) (am_b 202) (am_L 202) (am_r 202)) := rfl
set_option maxRecDepth 100000 in
theorem am_kc_203 : lw_tbl[(am_mp 203).2.1]? = some (.code (am_y 203) (am_b 203) (am_L 203) (am_r 203)) := rfl
set_option maxRecDepth 100000 in
theorem am_kc_204 : lw_tbl[(am_mp 204).2.1]? = some (.code (am_y 204) (am_b 204) (am_L 204) (am_r 204)) := rfl
set_option maxRecDepth 100000 in
theorem am_kc_205 : lw_tbl[(am_mp 205).2.1]? = some (.code (am_y 205) (am_b 205) (am_L 205) (am_r 205)) := rfl
set_option maxRecDepth 100000 in
theorem am_kc_206 : lw_tbl[(am_mp 206).2.1]? = some (.code (am_y 206) (am_b 206) (am_L 206) (am_r 206)) := rfl
set_option maxRecDepth 100000 in
theorem am_kc_207 : lw_tbl[(am_mp 207).2.1]? = some (.code (am_y 207) (am_b 207) (am_L 207) (am_r 207)) := rfl
set_option maxRecDepth 100000 in
theorem am_kc_208 : lw_tbl[(am_mp 208).2.1]? = some (.code (am_y 208) (am_b 208) (am_L 208) (am_r 208)) := rfl
set_option maxRecDepth 100000 in
theorem am_kc_209 : lw_tbl[(am_mp 209).2.1]? = some (.code (am_y 209) (am_b 209) (am_L 209) (am_r 209)) := rfl
set_option maxRecDepth 100000 in
theorem am_kc_210 : lw_tbl[(am_mp 210).2.1]? = some (.code (am_y 210) (am_b 210) (am_L 210) (am_r 210)) := rfl
set_option maxRecDepth 100000 in
theorem am_kc_211 : lw_tbl[(am_mp 211).2.1]? = some (.code (am_y 211) (am_b 211) (am_L 211) (am_r 211)) := rfl
set_option maxRecDepth 100000 in
theorem am_kc_212 : lw_tbl[(am_mp 212).2.1]? = some (.code (am_y 212) (am_b 212) (am_L 212) (am_r 212)) := rfl
set_option maxRecDepth 100000 in
theorem am_kc_213 : lw_tbl[(am_mp 213).2.1]? = some (.code (am_y 213) (am_b 213) (am_L 213) (am_r 213)) := rfl
set_option maxRecDepth 100000 in
theorem am_kc_214 : lw_tbl[(am_mp 214).2.1]? = some (.code (am_y 214) (am_b 214) (am_L 214) (am_r 214)) := rfl
set_option maxRecDepth 100000 in
theorem am_kc_215 : lw_tbl[(am_mp 215).2.1]? = some (.code (am_y 215) (am_b 215) (am_L 215) (am_r 215)) := rfl
set_option maxRecDepth 100000 in
theorem am_kc_216 : lw_tbl[(am_mp 216).2.1]? = some (.code (am_y 216) (am_b 216) (am_L 216) (am_r 216)) := rfl
set_option maxRecDepth 100000 in
theorem am_kc_217 : lw_tbl[(am_mp 217).2.1]? = some (.code (am_y 217) (am_b 217) (am_L 217) (am_r 217)) := rfl
set_option maxRecDepth 100000 in
theorem am_kc_218 : lw_tbl[(am_mp 218).2.1]? = some (.code (am_y 218) (am_b 218) (am_L 218) (am_r 218)) := rfl
set_option maxRecDepth 100000 in
theorem am_kc_219 : lw_tbl[(am_mp 219).2.1]? = some (.code (am_y 219) (am_b 219) (am_L 219) (am_r 219)) := rfl
set_option maxRecDepth 100000 in
theorem am_kc_220 : lw_tbl[(am_mp 220).2.1]? = some (.code (am_y 220) (am_b 220) (am_L 220) (am_r 220)) := rfl
set_option maxRecDepth 100000 in
theorem am_kc_221 : lw_tbl[(am_mp 221).2.1]? = some (.code (am_y 221) (am_b 221) (am_L 221) (am_r 221)) := rfl
set_option maxRecDepth 100000 in
theorem am_kc_222 : lw_tbl[(am_mp 222).2.1]? = some (.code (am_y 222) (am_b 222) (am_L 222) (am_r 222)) := rfl
set_option maxRecDepth 100000 in
theorem am_kc_223 : lw_tbl[(am_mp 223).2.1]? = some (.code (am_y 223) (am_b 223) (am_L 223) (am_r 223)) := rfl
set_option maxRecDepth 100000 in
theorem am_kc_224 : lw_tbl[(am_mp 224).2.1]? = some (.code (am_y 224) (am_b 224) (am_L 224) (am_r 224)) := rfl
set_option maxRecDepth 100000 in
theorem am_kc_225 : lw_tbl[(am_mp 225).2.1]? = some (.code (am_y 225) (am_b 225) (am_L 225) (am_r 225)) := rfl
set_option maxRecDepth 100000 in
theorem am_kc_226 : lw_tbl[(am_mp 226).2.1]? = some (.code (am_y 226) (am_b 226) (am_L 226) (am_r 226)) := rfl
set_option maxRecDepth 100000 in
theorem am_kc_227 : lw_tbl[(am_mp 227).2.1]? = some (.code (am_y 227) (am_b 227) (am_L 227) (am_r 227)) := rfl
set_option maxRecDepth 100000 in
theorem am_kc_228 : lw_tbl[(am_mp 228).2.1]? = some (.code (am_y 228) (am_b 228) (am_L 228) (am_r 228)) := rfl
set_option maxRecDepth 100000 in
theorem am_kc_229 : lw_tbl[(am_mp 229).2.1]? = some (.code (am_y 229) (am_b 229) (am_L 229) (am_r 229)) := rfl
set_option maxRecDepth 100000 in
theorem am_kc_230 : lw_tbl[(am_mp 230).2.1]? = some (.code (am_y 230) (am_b 230) (am_L 230) (am_r 230)) := rfl
set_option maxRecDepth 100000 in
theorem am_kc_231 : lw_tbl[(am_mp 231).2.1]? = some (.code (am_y 231) (am_b 231) (am_L 231) (am_r 231)) := rfl
set_option maxRecDepth 100000 in
theorem am_kc_232 : lw_tbl[(am_mp 232).2.1]? = some (.code (am_y 232) (am_b 232) (am_L 232) (am_r 232)) := rfl
set_option maxRecDepth 100000 in
theorem am_kc_233 : lw_tbl[(am_mp 233).2.1]? = some (.code (am_y 233) (am_b 233) (am_L 233) (am_r 233)) := rfl
set_option maxRecDepth 100000 in
theorem am_kc_234 : lw_tbl[(am_mp 234).2.1]? = some (.code (am_y 234) (am_b 234) (am_L 234) (am_r 234)) := rfl
set_option maxRecDepth 100000 in
theorem am_kc_235 : lw_tbl[(am_mp 235).2.1]? = some (.code (am_y 235) (am_b 235) (am_L 235) (am_r 235)) := rfl
set_option maxRecDepth 100000 in
theorem am_kc_236 : lw_tbl[(am_mp 236).2.1]? = some (.code (am_y 236) (am_b 236) (am_L 236) (am_r 236)) := rfl
set_option maxRecDepth 100000 in
theorem am_kc_237 : lw_tbl[(am_mp 237).2.1]? = some (.code (am_y 237) (am_b 237) (am_L 237) (am_r 237)) := rfl
set_option maxRecDepth 100000 in
theorem am_kc_238 : lw_tbl[(am_mp 238).2.1]? = some (.code (am_y 238) (am_b 238) (am_L 238) (am_r 238)) := rfl
set_option maxRecDepth 100000 in
theorem am_kc_239 : lw_tbl[(am_mp 239).2.1]? = some (.code (am_y 239) (am_b 239) (am_L 239) (am_r 239)) := rfl
set_option maxRecDepth 100000 in
theorem am_kc_240 : lw_tbl[(am_mp 240).2.1]? = some (.code (am_y 240) (am_b 240) (am_L 240) (am_r 240)) := rfl
set_option maxRecDepth 100000 in
theorem am_kc_241 : lw_tbl[(am_mp 241).2.1]? = some (.code (am_y 241) (am_b 241) (am_L 241) (am_r 241)) := rfl
set_option maxRecDepth 100000 in
theorem am_kc_242 : lw_tbl[(am_mp 242).2.1]? = some (.code (am_y 242) (am_b 242) (am_L 242) (am_r 242)) := rfl
set_option maxRecDepth 100000 in
theorem am_kc_243 : lw_tbl[(am_mp 243).2.1]? = some (.code (am_y 243) (am_b 243) (am_L 243) (am_r 243)) := rfl
set_option maxRecDepth 100000 in
theorem am_kc_244 : lw_tbl[(am_mp 244).2.1]? = some (.code (am_y 244) (am_b 244) (am_L 244) (am_r 244)) := rfl
set_option maxRecDepth 100000 in
theorem am_kc_245 : lw_tbl[(am_mp 245).2.1]? = some (.code (am_y 245) (am_b 245) (am_L 245) (am_r 245)) := rfl
set_option maxRecDepth 100000 in
theorem am_kc_246 : lw_tbl[(am_mp 246).2.1]? = some (.code (am_y 246) (am_b 246) (am_L 246) (am_r 246)) := rfl
set_option maxRecDepth 100000 in
theorem am_kc_247 : lw_tbl[(am_mp 247).2.1]? = some (.code (am_y 247) (am_b 247) (am_L 247) (am_r 247)) := rfl
set_option maxRecDepth 100000 in
theorem am_kc_248 : lw_tbl[(am_mp 248).2.1]? = some (.code (am_y 248) (am_b 248) (am_L 248) (am_r 248)) := rfl
set_option maxRecDepth 100000 in
theorem am_kc_249 : lw_tbl[(am_mp 249).2.1]? = some (.code (am_y 249) (am_b 249) (am_L 249) (am_r 249)) := rfl
set_option maxRecDepth 100000 in
theorem am_kc4 : ∀ k, k < 50 → lw_tbl[(am_mp (200 + k)).2.1]? = some (.code (am_y (200 + k)) (am_b (200 + k)) (am_L (200 + k)) (am_r (200 + k))) := by
  intro k hk
  match k, hk with
  | 0, _ => exact am_kc_200
  | 1, _ => exact am_kc_201
  | 2, _ => exact am_kc_202
  | 3, _ => exact am_kc_203
  | 4, _ => exact am_kc_204
  | 5, _ => exact am_kc_205
  | 6, _ => exact am_kc_206
  | 7, _ => exact am_kc_207
  | 8, _ => exact am_kc_208
  | 9, _ => exact am_kc_209
  | 10, _ => exact am_kc_210
  | 11, _ => exact am_kc_211
  | 12, _ => exact am_kc_212
  | 13, _ => exact am_kc_213
  | 14, _ => exact am_kc_214
  | 15, _ => exact am_kc_215
  | 16, _ => exact am_kc_216
  | 17, _ => exact am_kc_217
  | 18, _ => exact am_kc_218
  | 19, _ => exact am_kc_219
  | 20, _ => exact am_kc_220
  | 21, _ => exact am_kc_221
  | 22, _ => exact am_kc_222
  | 23, _ => exact am_kc_223
  | 24, _ => exact am_kc_224
  | 25, _ => exact am_kc_225
  | 26, _ => exact am_kc_226
  | 27, _ => exact am_kc_227
  | 28, _ => exact am_kc_228
  | 29, _ => exact am_kc_229
  | 30, _ => exact am_kc_230
  | 31, _ => exact am_kc_231
  | 32, _ => exact am_kc_232
  | 33, _ => exact am_kc_233
  | 34, _ => exact am_kc_234
  | 35, _ => exact am_kc_235
  | 36, _ => exact am_kc_236
  | 37, _ => exact am_kc_237
  | 38, _ => exact am_kc_238
  | 39, _ => exact am_kc_239
  | 40, _ => exact am_kc_240
  | 41, _ => exact am_kc_241
  | 42, _ => exact am_kc_242
  | 43, _ => exact am_kc_243
  | 44, _ => exact am_kc_244
  | 45, _ => exact am_kc_245
  | 46, _ => exact am_kc_246
  | 47, _ => exact am_kc_247
  | 48, _ => exact am_kc_248
  | 49, _ => exact am_kc_249
  | k + 50, h => exact absurd h (by omega)
