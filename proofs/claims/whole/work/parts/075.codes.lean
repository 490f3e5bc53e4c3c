/-! each method's code word stands in the table -/
set_option maxRecDepth 100000 in
theorem am_kc_250 : lw_tbl[(am_mp 250).2.1]? = some (.code (am_y 250) (am_b 250) (am_L 250) (am_r 250)) := rfl
set_option maxRecDepth 100000 in
theorem am_kc_251 : lw_tbl[(am_mp 251).2.1]? = some (.code (am_y 251) (am_b 251) (am_L 251) (am_r 251)) := rfl
set_option maxRecDepth 100000 in
theorem am_kc_252 : lw_tbl[(am_mp 252).2.1]? = some (.code (am_y 252) (am_b 252) (am_L 252) (am_r 252)) := rfl
set_option maxRecDepth 100000 in
theorem am_kc_253 : lw_tbl[(am_mp 253).2.1]? = some (.code (am_y 253) (am_b 253) (am_L 253) (am_r 253)) := rfl
set_option maxRecDepth 100000 in
theorem am_kc_254 : lw_tbl[(am_mp 254).2.1]? = some (.code (am_y 254) (am_b 254) (am_L 254) (am_r 254)) := rfl
set_option maxRecDepth 100000 in
theorem am_kc_255 : lw_tbl[(am_mp 255).2.1]? = some (.code (am_y 255) (am_b 255) (am_L 255) (am_r 255)) := rfl
set_option maxRecDepth 100000 in
theorem am_kc_256 : lw_tbl[(am_mp 256).2.1]? = some (.code (am_y 256) (am_b 256) (am_L 256) (am_r 256)) := rfl
set_option maxRecDepth 100000 in
theorem am_kc_257 : lw_tbl[(am_mp 257).2.1]? = some (.code (am_y 257) (am_b 257) (am_L 257) (am_r 257)) := rfl
set_option maxRecDepth 100000 in
theorem am_kc_258 : lw_tbl[(am_mp 258).2.1]? = some (.code (am_y 258) (am_b 258) (am_L 258) (am_r 258)) := rfl
set_option maxRecDepth 100000 in
theorem am_kc_259 : lw_tbl[(am_mp 259).2.1]? = some (.code (am_y 259) (am_b 259) (am_L 259) (am_r 259)) := rfl
set_option maxRecDepth 100000 in
theorem am_kc_260 : lw_tbl[(am_mp 260).2.1]? = some (.code (am_y 260) (am_b 260) (am_L 260) (am_r 260)) := rfl
set_option maxRecDepth 100000 in
theorem am_kc_261 : lw_tbl[(am_mp 261).2.1]? = some (.code (am_y 261) (am_b 261) (am_L 261) (am_r 261)) := rfl
set_option maxRecDepth 100000 in
theorem am_kc_262 : lw_tbl[(am_mp 262).2.1]? = some (.code (am_y 262) (am_b 262) (am_L 262) (am_r 262)) := rfl
set_option maxRecDepth 100000 in
theorem am_kc_263 : lw_tbl[(am_mp 263).2.1]? = some (.code (am_y 263) (am_b 263) (am_L 263) (am_r 263)) := rfl
set_option maxRecDepth 100000 in
theorem am_kc_264 : lw_tbl[(am_mp 264).2.1]? = some (.code (am_y 264) (am_b 264) (am_L 264) (am_r 264)) := rfl
set_option maxRecDepth 100000 in
theorem am_kc_265 : lw_tbl[(am_mp 265).2.1]? = some (.code (am_y 265) (am_b 265) (am_L 265) (am_r 265)) := rfl
set_option maxRecDepth 100000 in
theorem am_kc_266 : lw_tbl[(am_mp 266).2.1]? = some (.code (am_y 266) (am_b 266) (am_L 266) (am_r 266)) := rfl
set_option maxRecDepth 100000 in
theorem am_kc_267 : lw_tbl[(am_mp 267).2.1]? = some (.code (am_y 267) (am_b 267) (am_L 267) (am_r 267)) := rfl
set_option maxRecDepth 100000 in
theorem am_kc_268 : lw_tbl[(am_mp 268).2.1]? = some (.code (am_y 268) (am_b 268) (am_L 268) (am_r 268)) := rfl
set_option maxRecDepth 100000 in
theorem am_kc_269 : lw_tbl[(am_mp 269).2.1]? = some (.code (am_y 269) (am_b 269) (am_L 269) (am_r 269)) := rfl
set_option maxRecDepth 100000 in
theorem am_kc_270 : lw_tbl[(am_mp 270).2.1]? = some (.code (am_y 270) (am_b 270) (am_L 270) (am_r 270)) := rfl
set_option maxRecDepth 100000 in
theorem am_kc_271 : lw_tbl[(am_mp 271).2.1]? = some (.code (am_y 271) (am_b 271) (am_L 271) (am_r 271)) := rfl
set_option maxRecDepth 100000 in
theorem am_kc_272 : lw_tbl[(am_mp 272).2.1]? = some (.code (am_y 272) (am_b 272) (am_L 272) (am_r 272)) := rfl
set_option maxRecDepth 100000 in
theorem am_kc_273 : lw_tbl[(am_mp 273).2.1]? = some (.code (am_y 273) (am_b 273) (am_L 273) (am_r 273)) := rfl
set_option maxRecDepth 100000 in
theorem am_kc_274 : lw_tbl[(am_mp 274).2.1]? = some (.code (am_y 274) (am_b 274) (am_L 274) (am_r 274)) := rfl
set_option maxRecDepth 100000 in
theorem am_kc_275 : lw_tbl[(am_mp 275).2.1]? = some (.code (am_y 275) (am_b 275) (am_L 275) (am_r 275)) := rfl
set_option maxRecDepth 100000 in
theorem am_kc_276 : lw_tbl[(am_mp 276).2.1]? = some (.code (am_y 276) (am_b 276) (am_L 276) (am_r 276)) := rfl
set_option maxRecDepth 100000 in
theorem am_kc_277 : lw_tbl[(am_mp 277).2.1]? = some (.code (am_y 277) (am_b 277) (am_L 277) (am_r 277)) := rfl
set_option maxRecDepth 100000 in
theorem am_kc_278 : lw_tbl[(am_mp 278).2.1]? = some (.code (am_y 278) (am_b 278) (am_L 278) (am_r 278)) := rfl
set_option maxRecDepth 100000 in
theorem am_kc_279 : lw_tbl[(am_mp 279).2.1]? = some (.code (am_y 279) (am_b 279) (am_L 279) (am_r 279)) := rfl
set_option maxRecDepth 100000 in
theorem am_kc_280 : lw_tbl[(am_mp 280).2.1]? = some (.code (am_y 280) (am_b 280) (am_L 280) (am_r 280)) := rfl
set_option maxRecDepth 100000 in
theorem am_kc_281 : lw_tbl[(am_mp 281).2.1]? = some (.code (am_y 281) (am_b 281) (am_L 281) (am_r 281)) := rfl
set_option maxRecDepth 100000 in
theorem am_kc_282 : lw_tbl[(am_mp 282).2.1]? = some (.code (am_y 282) (am_b 282) (am_L 282) (am_r 282)) := rfl
set_option maxRecDepth 100000 in
theorem am_kc_283 : lw_tbl[(am_mp 283).2.1]? = some (.code (am_y 283) (am_b 283) (am_L 283) (am_r 283)) := rfl
set_option maxRecDepth 100000 in
theorem am_kc_284 : lw_tbl[(am_mp 284).2.1]? = some (.code (am_y 284) (am_b 284) (am_L 284) (am_r 284)) := rfl
set_option maxRecDepth 100000 in
theorem am_kc_285 : lw_tbl[(am_mp 285).2.1]? = some (.code (am_y 285) (am_b 285) (am_L 285) (am_r 285)) := rfl
set_option maxRecDepth 100000 in
theorem am_kc_286 : lw_tbl[(am_mp 286).2.1]? = some (.code (am_y 286) (am_b 286) (am_L 286) (am_r 286)) := rfl
set_option maxRecDepth 100000 in
theorem am_kc_287 : lw_tbl[(am_mp 287).2.1]? = some (.code (am_y 287) (am_b 287) (am_L 287) (am_r 287)) := rfl
set_option maxRecDepth 100000 in
theorem am_kc_288 : lw_tbl[(am_mp 288).2.1]? = some (.code (am_y 288) (am_b 288) (am_L 288) (am_r 288)) := rfl
set_option maxRecDepth 100000 in
theorem am_kc_289 : lw_tbl[(am_mp 289).2.1]? = some (.code (am_y 289) (am_b 289) (am_L 289) (am_r 289)) := rfl
set_option maxRecDepth 100000 in
theorem am_kc_290 : lw_tbl[(am_mp 290).2.1]? = some (.code (am_y 290) (am_b 290) (am_L 290) (am_r 290)) := rfl
set_option maxRecDepth 100000 in
theorem am_kc_291 : lw_tbl[(am_mp 291).2.1]? = some (.code (am_y 291) (am_b 291) (am_L 291) (am_r 291)) := rfl
set_option maxRecDepth 100000 in
theorem am_kc_292 : lw_tbl[(am_mp 292).2.1]? = some (.code (am_y 292) (am_b 292) (am_L 292) (am_r 292)) := rfl
set_option maxRecDepth 100000 in
theorem am_kc_293 : lw_tbl[(am_mp 293).2.1]? = some (.code (am_y 293) (am_b 293) (am_L 293) (am_r 293)) := rfl
set_option maxRecDepth 100000 in
theorem am_kc_294 : lw_tbl[(am_mp 294).2.1]? = some (.code (am_y 294) (am_b 294) (am_L 294) (am_r 294)) := rfl
set_option maxRecDepth 100000 in
theorem am_kc_295 : lw_tbl[(am_mp 295).2.1]? = some (.code (am_y 295) (am_b 295) (am_L 295) (am_r 295)) := rfl
set_option maxRecDepth 100000 in
theorem am_kc_296 : lw_tbl[(am_mp 296).2.1]? = some (.code (am_y 296) (am_b 296) (am_L 296) (am_r 296)) := rfl
set_option maxRecDepth 100000 in
theorem am_kc_297 : lw_tbl[(am_mp 297).2.1]? = some (.code (am_y 297) (am_b 297) (am_L 297) (am_r 297)) := rfl
set_option maxRecDepth 100000 in
theorem am_kc_298 : lw_tbl[(am_mp 298).2.1]? = some (.code (am_y 298) (am_b 298) (am_L 298) (am_r 298)) := rfl
set_option maxRecDepth 100000 in
theorem am_kc5 : ∀ k, k < 49 → lw_tbl[(am_mp (250 + k)).2.1]? = some (.code (am_y (250 + k)) (am_b (250 + k)) (am_L (250 + k)) (am_r (250 + k))) := by
  intro k hk
  match k, hk with
  | 0, _ => exact am_kc_250
  | 1, _ => exact am_kc_251
  | 2, _ => exact am_kc_252
  | 3, _ => exact am_kc_253
  | 4, _ => exact am_kc_254
  | 5, _ => exact am_kc_255
  | 6, _ => exact am_kc_256
  | 7, _ => exact am_kc_257
  | 8, _ => exact am_kc_258
  | 9, _ => exact am_kc_259
  | 10, _ => exact am_kc_260
  | 11, _ => exact am_kc_261
  | 12, _ => exact am_kc_262
  | 13, _ => exact am_kc_263
  | 14, _ => exact am_kc_264
  | 15, _ => exact am_kc_265
  | 16, _ => exact am_kc_266
  | 17, _ => exact am_kc_267
  | 18, _ => exact am_kc_268
  | 19, _ => exact am_kc_269
  | 20, _ => exact am_kc_270
  | 21, _ => exact am_kc_271
  | 22, _ => exact am_kc_272
  | 23, _ => exact am_kc_273
  | 24, _ => exact am_kc_274
  | 25, _ => exact am_kc_275
  | 26, _ => exact am_kc_276
  | 27, _ => exact am_kc_277
  | 28, _ => exact am_kc_278
  | 29, _ => exact am_kc_279
  | 30, _ => exact am_kc_280
  | 31, _ => exact am_kc_281
  | 32, _ => exact am_kc_282
  | 33, _ => exact am_kc_283
  | 34, _ => exact am_kc_284
  | 35, _ => exact am_kc_285
  | 36, _ => exact am_kc_286
  | 37, _ => exact am_kc_287
  | 38, _ => exact am_kc_288
  | 39, _ => exact am_kc_289
  | 40, _ => exact am_kc_290
  | 41, _ => exact am_kc_291
  | 42, _ => exact am_kc_292
  | 43, _ => exact am_kc_293
  | 44, _ => exact am_kc_294
  | 45, _ => exact am_kc_295
  | 46, _ => exact am_kc_296
  | 47, _ => exact am_kc_297
  | 48, _ => exact am_kc_298
  | k + 49, h => exact absurd h (by omega)
