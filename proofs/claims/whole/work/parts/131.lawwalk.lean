theorem dL_law_196 : dec code 196 1 197 (.aload_n 1) := ⟨by decide +kernel, rfl⟩
theorem dL_law_197 : dec code 197 1 198 (.aload_n 0) := ⟨by decide +kernel, rfl⟩
theorem dL_law_198 : dec code 198 1 199 (.iload_n 3) := ⟨by decide +kernel, rfl⟩
theorem dL_law_199 : dec code 199 1 200 (.iconst 1) := ⟨by decide +kernel, rfl⟩
theorem dL_law_200 : dec code 200 1 201 (.iadd) := ⟨by decide +kernel, rfl⟩
theorem dL_law_201 : dec code 201 1 202 (.iaload) := ⟨by decide +kernel, rfl⟩
theorem dL_law_202 : dec code 202 1 203 (.aload_n 0) := ⟨by decide +kernel, rfl⟩
theorem dL_law_203 : dec code 203 1 204 (.iload_n 3) := ⟨by decide +kernel, rfl⟩
theorem dL_law_204 : dec code 204 1 205 (.iconst 2) := ⟨by decide +kernel, rfl⟩
theorem dL_law_205 : dec code 205 1 206 (.iadd) := ⟨by decide +kernel, rfl⟩
theorem dL_law_206 : dec code 206 1 207 (.iaload) := ⟨by decide +kernel, rfl⟩
theorem dL_law_207 : dec code 207 1 208 (.aload_n 0) := ⟨by decide +kernel, rfl⟩
theorem dL_law_208 : dec code 208 1 209 (.iload_n 3) := ⟨by decide +kernel, rfl⟩
theorem dL_law_209 : dec code 209 1 210 (.iconst 3) := ⟨by decide +kernel, rfl⟩
theorem dL_law_210 : dec code 210 1 211 (.iadd) := ⟨by decide +kernel, rfl⟩
theorem dL_law_211 : dec code 211 1 212 (.iaload) := ⟨by decide +kernel, rfl⟩
theorem dL_law_212 : dec code 212 1 213 (.aload_n 0) := ⟨by decide +kernel, rfl⟩
theorem dL_law_213 : dec code 213 1 214 (.iload_n 3) := ⟨by decide +kernel, rfl⟩
theorem dL_law_214 : dec code 214 1 215 (.iconst 4) := ⟨by decide +kernel, rfl⟩
theorem dL_law_215 : dec code 215 1 216 (.iadd) := ⟨by decide +kernel, rfl⟩
theorem dL_law_216 : dec code 216 1 217 (.iaload) := ⟨by decide +kernel, rfl⟩
theorem dL_law_217 : dec code 217 3 220 (.invokevirtual 13) := ⟨by decide +kernel, rfl⟩
theorem dL_law_220 : dec code 220 1 221 (.aload_n 2) := ⟨by decide +kernel, rfl⟩
theorem dL_law_221 : dec code 221 1 222 (.aload_n 0) := ⟨by decide +kernel, rfl⟩
theorem dL_law_222 : dec code 222 1 223 (.iload_n 3) := ⟨by decide +kernel, rfl⟩
theorem dL_law_223 : dec code 223 1 224 (.iconst 1) := ⟨by decide +kernel, rfl⟩
theorem dL_law_224 : dec code 224 1 225 (.iadd) := ⟨by decide +kernel, rfl⟩
theorem dL_law_225 : dec code 225 1 226 (.iaload) := ⟨by decide +kernel, rfl⟩
theorem dL_law_226 : dec code 226 1 227 (.aload_n 0) := ⟨by decide +kernel, rfl⟩
theorem dL_law_227 : dec code 227 1 228 (.iload_n 3) := ⟨by decide +kernel, rfl⟩
theorem dL_law_228 : dec code 228 1 229 (.iconst 2) := ⟨by decide +kernel, rfl⟩
theorem dL_law_229 : dec code 229 1 230 (.iadd) := ⟨by decide +kernel, rfl⟩
theorem dL_law_230 : dec code 230 1 231 (.iaload) := ⟨by decide +kernel, rfl⟩
theorem dL_law_231 : dec code 231 1 232 (.aload_n 0) := ⟨by decide +kernel, rfl⟩
theorem dL_law_232 : dec code 232 1 233 (.iload_n 3) := ⟨by decide +kernel, rfl⟩
theorem dL_law_233 : dec code 233 1 234 (.iconst 3) := ⟨by decide +kernel, rfl⟩
theorem dL_law_234 : dec code 234 1 235 (.iadd) := ⟨by decide +kernel, rfl⟩
theorem dL_law_235 : dec code 235 1 236 (.iaload) := ⟨by decide +kernel, rfl⟩
theorem dL_law_236 : dec code 236 1 237 (.aload_n 0) := ⟨by decide +kernel, rfl⟩
theorem dL_law_237 : dec code 237 1 238 (.iload_n 3) := ⟨by decide +kernel, rfl⟩
theorem dL_law_238 : dec code 238 1 239 (.iconst 4) := ⟨by decide +kernel, rfl⟩
theorem dL_law_239 : dec code 239 1 240 (.iadd) := ⟨by decide +kernel, rfl⟩
theorem dL_law_240 : dec code 240 1 241 (.iaload) := ⟨by decide +kernel, rfl⟩
theorem dL_law_241 : dec code 241 3 244 (.invokevirtual 17) := ⟨by decide +kernel, rfl⟩
theorem dL_law_244 : dec code 244 3 247 (.if_icmp .eq 1291) := ⟨by decide +kernel, rfl⟩
theorem dL_law_247 : dec code 247 1 248 (.iconst 0) := ⟨by decide +kernel, rfl⟩
theorem dL_law_248 : dec code 248 1 249 (.ireturn) := ⟨by decide +kernel, rfl⟩
set_option maxHeartbeats 4000000 in
set_option maxRecDepth 100000 in
theorem tL_c0 {X : Cx} {Y : Yx} {M0 : Mem} (hC : OKX X Y R_law code 4 (some .boolean) room_1) (hF : Y.2.2.2.2 = true) (hL : Lay M0) {b L : Nat} {xs : Nat → Int32} (hX : va_X b L xs X.2.2.2.2.1 X.2.2.2.2.1.heap) (hbl : b < X.2.2.2.2.1.heap.size) (hbA : ¬ frA Y b) {Qm : Option Value → Mem → Prop} {n k : Nat} {a1 a2 : Nat} (q1 : 0 < a1 ∧ M0 0 a1 = kO 11) (q2 : 0 < a2 ∧ M0 0 a2 = kO 12) (C : Mem → Prop) (x3 : Int) (hn : n + 100 ≤ 600000 ∧ k + 10240 ≤ 7302250) (kk : ∀ M : Mem, C M → WW X Y 4 room_1 Qm M0 (n + 100) (k + 10240) 1535 [(0, .ref b), (1, vR Y.1 a1), (2, vR Y.1 a2), (3, vI x3)] [] M) (M : Mem) (h : wL_c0 xs L a1 a2 C x3 M) : WW X Y 4 room_1 Qm M0 n k 196 [(0, .ref b), (1, vR Y.1 a1), (2, vR Y.1 a2), (3, vI x3)] [] M := by
  unfold wL_c0 at h
  refine r_aload_n hC 1 dL_law_196 rfl rfl ?_
  refine r_aloadX hC 0 dL_law_197 rfl rfl ?_
  refine r_iload_n hC 3 dL_law_198 rfl rfl ?_
  refine r_iconst hC dL_law_199 ?_
  refine r_iadd hC dL_law_200 ?_
  obtain ⟨i_1, h⟩ := h
  refine r_sld hC hX hbl hbA i_1 dL_law_201 ?_
  refine r_aloadX hC 0 dL_law_202 rfl rfl ?_
  refine r_iload_n hC 3 dL_law_203 rfl rfl ?_
  refine r_iconst hC dL_law_204 ?_
  refine r_iadd hC dL_law_205 ?_
  obtain ⟨i_2, h⟩ := h
  refine r_sld hC hX hbl hbA i_2 dL_law_206 ?_
  refine r_aloadX hC 0 dL_law_207 rfl rfl ?_
  refine r_iload_n hC 3 dL_law_208 rfl rfl ?_
  refine r_iconst hC dL_law_209 ?_
  refine r_iadd hC dL_law_210 ?_
  obtain ⟨i_3, h⟩ := h
  refine r_sld hC hX hbl hbA i_3 dL_law_211 ?_
  refine r_aloadX hC 0 dL_law_212 rfl rfl ?_
  refine r_iload_n hC 3 dL_law_213 rfl rfl ?_
  refine r_iconst hC dL_law_214 ?_
  refine r_iadd hC dL_law_215 ?_
  obtain ⟨i_4, h⟩ := h
  refine r_sld hC hX hbl hbA i_4 dL_law_216 ?_
  refine r_callV (As := [vI (sxv xs (x3 + 1)), vI (sxv xs (x3 + 2)), vI (sxv xs (x3 + 3)), vI (sxv xs (x3 + 4))]) (st := []) hC cw_law_13 rfl q1.1 q1.2 rfl rfl (Nat.le_of_ble_eq_true rfl) ⟨Nat.le_of_ble_eq_true rfl, Nat.le_of_ble_eq_true rfl⟩ (by constructor <;> simp only [rmX11_piece, room_1] <;> omega) dL_law_217 (fun hk => mX11_piece Y hF _ _ _ _ _ _ _ _ (kqO hk q1) h) (fun v M_5 h => ?_)
  obtain ⟨r_6, rfl, h⟩ := h
  refine r_aload_n hC 2 dL_law_220 rfl rfl ?_
  refine r_aloadX hC 0 dL_law_221 rfl rfl ?_
  refine r_iload_n hC 3 dL_law_222 rfl rfl ?_
  refine r_iconst hC dL_law_223 ?_
  refine r_iadd hC dL_law_224 ?_
  obtain ⟨i_7, h⟩ := h
  refine r_sld hC hX hbl hbA i_7 dL_law_225 ?_
  refine r_aloadX hC 0 dL_law_226 rfl rfl ?_
  refine r_iload_n hC 3 dL_law_227 rfl rfl ?_
  refine r_iconst hC dL_law_228 ?_
  refine r_iadd hC dL_law_229 ?_
  obtain ⟨i_8, h⟩ := h
  refine r_sld hC hX hbl hbA i_8 dL_law_230 ?_
  refine r_aloadX hC 0 dL_law_231 rfl rfl ?_
  refine r_iload_n hC 3 dL_law_232 rfl rfl ?_
  refine r_iconst hC dL_law_233 ?_
  refine r_iadd hC dL_law_234 ?_
  obtain ⟨i_9, h⟩ := h
  refine r_sld hC hX hbl hbA i_9 dL_law_235 ?_
  refine r_aloadX hC 0 dL_law_236 rfl rfl ?_
  refine r_iload_n hC 3 dL_law_237 rfl rfl ?_
  refine r_iconst hC dL_law_238 ?_
  refine r_iadd hC dL_law_239 ?_
  obtain ⟨i_10, h⟩ := h
  refine r_sld hC hX hbl hbA i_10 dL_law_240 ?_
  refine r_callV (As := [vI (sxv xs (x3 + 1)), vI (sxv xs (x3 + 2)), vI (sxv xs (x3 + 3)), vI (sxv xs (x3 + 4))]) (st := [vI r_6]) hC cw_law_17 rfl q2.1 q2.2 rfl rfl (Nat.le_of_ble_eq_true rfl) ⟨Nat.le_of_ble_eq_true rfl, Nat.le_of_ble_eq_true rfl⟩ (by constructor <;> simp only [rmX11_piece, rmX12_piece, room_1] <;> omega) dL_law_241 (fun hk => mX12_piece Y hF _ _ _ _ _ _ _ _ (kqO hk q2) h) (fun v M_11 h => ?_)
  obtain ⟨r_12, rfl, h⟩ := h
  refine r_icmp_eq hC 1535 rfl rfl dL_law_244 (by decide) (fun cq => ?_) (fun cq => ?_)
  · replace h := h.1 cq
    exact r_widen (n' := n + 100) (k' := k + 10240) (by simp only [rmX11_piece, rmX12_piece]; omega) (by simp only [rmX11_piece, rmX12_piece]; omega) (kk _ h)
  · replace h := h.2 cq
    refine r_iconst hC dL_law_247 ?_
    exact h.elim
theorem dL_law_249 : dec code 249 1 250 (.aload_n 1) := ⟨by decide +kernel, rfl⟩
theorem dL_law_250 : dec code 250 1 251 (.aload_n 0) := ⟨by decide +kernel, rfl⟩
theorem dL_law_251 : dec code 251 1 252 (.iload_n 3) := ⟨by decide +kernel, rfl⟩
theorem dL_law_252 : dec code 252 1 253 (.iconst 1) := ⟨by decide +kernel, rfl⟩
theorem dL_law_253 : dec code 253 1 254 (.iadd) := ⟨by decide +kernel, rfl⟩
theorem dL_law_254 : dec code 254 1 255 (.iaload) := ⟨by decide +kernel, rfl⟩
theorem dL_law_255 : dec code 255 1 256 (.aload_n 0) := ⟨by decide +kernel, rfl⟩
theorem dL_law_256 : dec code 256 1 257 (.iload_n 3) := ⟨by decide +kernel, rfl⟩
theorem dL_law_257 : dec code 257 1 258 (.iconst 2) := ⟨by decide +kernel, rfl⟩
theorem dL_law_258 : dec code 258 1 259 (.iadd) := ⟨by decide +kernel, rfl⟩
theorem dL_law_259 : dec code 259 1 260 (.iaload) := ⟨by decide +kernel, rfl⟩
theorem dL_law_260 : dec code 260 3 263 (.invokevirtual 18) := ⟨by decide +kernel, rfl⟩
theorem dL_law_263 : dec code 263 1 264 (.aload_n 2) := ⟨by decide +kernel, rfl⟩
theorem dL_law_264 : dec code 264 1 265 (.aload_n 0) := ⟨by decide +kernel, rfl⟩
theorem dL_law_265 : dec code 265 1 266 (.iload_n 3) := ⟨by decide +kernel, rfl⟩
theorem dL_law_266 : dec code 266 1 267 (.iconst 1) := ⟨by decide +kernel, rfl⟩
theorem dL_law_267 : dec code 267 1 268 (.iadd) := ⟨by decide +kernel, rfl⟩
theorem dL_law_268 : dec code 268 1 269 (.iaload) := ⟨by decide +kernel, rfl⟩
theorem dL_law_269 : dec code 269 1 270 (.aload_n 0) := ⟨by decide +kernel, rfl⟩
theorem dL_law_270 : dec code 270 1 271 (.iload_n 3) := ⟨by decide +kernel, rfl⟩
theorem dL_law_271 : dec code 271 1 272 (.iconst 2) := ⟨by decide +kernel, rfl⟩
theorem dL_law_272 : dec code 272 1 273 (.iadd) := ⟨by decide +kernel, rfl⟩
theorem dL_law_273 : dec code 273 1 274 (.iaload) := ⟨by decide +kernel, rfl⟩
theorem dL_law_274 : dec code 274 3 277 (.invokevirtual 22) := ⟨by decide +kernel, rfl⟩
theorem dL_law_277 : dec code 277 3 280 (.if_icmp .eq 1258) := ⟨by decide +kernel, rfl⟩
theorem dL_law_280 : dec code 280 1 281 (.iconst 0) := ⟨by decide +kernel, rfl⟩
theorem dL_law_281 : dec code 281 1 282 (.ireturn) := ⟨by decide +kernel, rfl⟩
set_option maxHeartbeats 4000000 in
set_option maxRecDepth 100000 in
theorem tL_c1 {X : Cx} {Y : Yx} {M0 : Mem} (hC : OKX X Y R_law code 4 (some .boolean) room_1) (hF : Y.2.2.2.2 = true) (hL : Lay M0) {b L : Nat} {xs : Nat → Int32} (hX : va_X b L xs X.2.2.2.2.1 X.2.2.2.2.1.heap) (hbl : b < X.2.2.2.2.1.heap.size) (hbA : ¬ frA Y b) {Qm : Option Value → Mem → Prop} {n k : Nat} {a1 a2 : Nat} (q1 : 0 < a1 ∧ M0 0 a1 = kO 11) (q2 : 0 < a2 ∧ M0 0 a2 = kO 12) (C : Mem → Prop) (x3 : Int) (hn : n + 100 ≤ 600000 ∧ k + 10240 ≤ 7302250) (kk : ∀ M : Mem, C M → WW X Y 4 room_1 Qm M0 (n + 100) (k + 10240) 1535 [(0, .ref b), (1, vR Y.1 a1), (2, vR Y.1 a2), (3, vI x3)] [] M) (M : Mem) (h : wL_c1 xs L a1 a2 C x3 M) : WW X Y 4 room_1 Qm M0 n k 249 [(0, .ref b), (1, vR Y.1 a1), (2, vR Y.1 a2), (3, vI x3)] [] M := by
  unfold wL_c1 at h
  refine r_aload_n hC 1 dL_law_249 rfl rfl ?_
  refine r_aloadX hC 0 dL_law_250 rfl rfl ?_
  refine r_iload_n hC 3 dL_law_251 rfl rfl ?_
  refine r_iconst hC dL_law_252 ?_
  refine r_iadd hC dL_law_253 ?_
  obtain ⟨i_1, h⟩ := h
  refine r_sld hC hX hbl hbA i_1 dL_law_254 ?_
  refine r_aloadX hC 0 dL_law_255 rfl rfl ?_
  refine r_iload_n hC 3 dL_law_256 rfl rfl ?_
  refine r_iconst hC dL_law_257 ?_
  refine r_iadd hC dL_law_258 ?_
  obtain ⟨i_2, h⟩ := h
  refine r_sld hC hX hbl hbA i_2 dL_law_259 ?_
  refine r_callV (As := [vI (sxv xs (x3 + 1)), vI (sxv xs (x3 + 2))]) (st := []) hC cw_law_18 rfl q1.1 q1.2 rfl rfl (Nat.le_of_ble_eq_true rfl) ⟨Nat.le_of_ble_eq_true rfl, Nat.le_of_ble_eq_true rfl⟩ (by constructor <;> simp only [rmX11_pieceIs, room_1] <;> omega) dL_law_260 (fun hk => mX11_pieceIs Y hF _ _ _ _ _ _ (kqO hk q1) h) (fun v M_3 h => ?_)
  obtain ⟨r_4, rfl, h⟩ := h
  refine r_aload_n hC 2 dL_law_263 rfl rfl ?_
  refine r_aloadX hC 0 dL_law_264 rfl rfl ?_
  refine r_iload_n hC 3 dL_law_265 rfl rfl ?_
  refine r_iconst hC dL_law_266 ?_
  refine r_iadd hC dL_law_267 ?_
  obtain ⟨i_5, h⟩ := h
  refine r_sld hC hX hbl hbA i_5 dL_law_268 ?_
  refine r_aloadX hC 0 dL_law_269 rfl rfl ?_
  refine r_iload_n hC 3 dL_law_270 rfl rfl ?_
  refine r_iconst hC dL_law_271 ?_
  refine r_iadd hC dL_law_272 ?_
  obtain ⟨i_6, h⟩ := h
  refine r_sld hC hX hbl hbA i_6 dL_law_273 ?_
  refine r_callV (As := [vI (sxv xs (x3 + 1)), vI (sxv xs (x3 + 2))]) (st := [vI r_4]) hC cw_law_22 rfl q2.1 q2.2 rfl rfl (Nat.le_of_ble_eq_true rfl) ⟨Nat.le_of_ble_eq_true rfl, Nat.le_of_ble_eq_true rfl⟩ (by constructor <;> simp only [rmX11_pieceIs, rmX12_pieceIs, room_1] <;> omega) dL_law_274 (fun hk => mX12_pieceIs Y hF _ _ _ _ _ _ (kqO hk q2) h) (fun v M_7 h => ?_)
  obtain ⟨r_8, rfl, h⟩ := h
  refine r_icmp_eq hC 1535 rfl rfl dL_law_277 (by decide) (fun cq => ?_) (fun cq => ?_)
  · replace h := h.1 cq
    exact r_widen (n' := n + 100) (k' := k + 10240) (by simp only [rmX11_pieceIs, rmX12_pieceIs]; omega) (by simp only [rmX11_pieceIs, rmX12_pieceIs]; omega) (kk _ h)
  · replace h := h.2 cq
    refine r_iconst hC dL_law_280 ?_
    exact h.elim
theorem dL_law_282 : dec code 282 1 283 (.aload_n 1) := ⟨by decide +kernel, rfl⟩
theorem dL_law_283 : dec code 283 1 284 (.aload_n 0) := ⟨by decide +kernel, rfl⟩
theorem dL_law_284 : dec code 284 1 285 (.iload_n 3) := ⟨by decide +kernel, rfl⟩
theorem dL_law_285 : dec code 285 1 286 (.iconst 1) := ⟨by decide +kernel, rfl⟩
theorem dL_law_286 : dec code 286 1 287 (.iadd) := ⟨by decide +kernel, rfl⟩
theorem dL_law_287 : dec code 287 1 288 (.iaload) := ⟨by decide +kernel, rfl⟩
theorem dL_law_288 : dec code 288 1 289 (.aload_n 0) := ⟨by decide +kernel, rfl⟩
theorem dL_law_289 : dec code 289 1 290 (.iload_n 3) := ⟨by decide +kernel, rfl⟩
theorem dL_law_290 : dec code 290 1 291 (.iconst 2) := ⟨by decide +kernel, rfl⟩
theorem dL_law_291 : dec code 291 1 292 (.iadd) := ⟨by decide +kernel, rfl⟩
theorem dL_law_292 : dec code 292 1 293 (.iaload) := ⟨by decide +kernel, rfl⟩
theorem dL_law_293 : dec code 293 3 296 (.invokevirtual 23) := ⟨by decide +kernel, rfl⟩
theorem dL_law_296 : dec code 296 1 297 (.aload_n 2) := ⟨by decide +kernel, rfl⟩
theorem dL_law_297 : dec code 297 1 298 (.aload_n 0) := ⟨by decide +kernel, rfl⟩
theorem dL_law_298 : dec code 298 1 299 (.iload_n 3) := ⟨by decide +kernel, rfl⟩
theorem dL_law_299 : dec code 299 1 300 (.iconst 1) := ⟨by decide +kernel, rfl⟩
theorem dL_law_300 : dec code 300 1 301 (.iadd) := ⟨by decide +kernel, rfl⟩
theorem dL_law_301 : dec code 301 1 302 (.iaload) := ⟨by decide +kernel, rfl⟩
theorem dL_law_302 : dec code 302 1 303 (.aload_n 0) := ⟨by decide +kernel, rfl⟩
theorem dL_law_303 : dec code 303 1 304 (.iload_n 3) := ⟨by decide +kernel, rfl⟩
theorem dL_law_304 : dec code 304 1 305 (.iconst 2) := ⟨by decide +kernel, rfl⟩
theorem dL_law_305 : dec code 305 1 306 (.iadd) := ⟨by decide +kernel, rfl⟩
theorem dL_law_306 : dec code 306 1 307 (.iaload) := ⟨by decide +kernel, rfl⟩
theorem dL_law_307 : dec code 307 3 310 (.invokevirtual 26) := ⟨by decide +kernel, rfl⟩
theorem dL_law_310 : dec code 310 3 313 (.if_icmp .eq 1225) := ⟨by decide +kernel, rfl⟩
theorem dL_law_313 : dec code 313 1 314 (.iconst 0) := ⟨by decide +kernel, rfl⟩
theorem dL_law_314 : dec code 314 1 315 (.ireturn) := ⟨by decide +kernel, rfl⟩
set_option maxHeartbeats 4000000 in
set_option maxRecDepth 100000 in
theorem tL_c2 {X : Cx} {Y : Yx} {M0 : Mem} (hC : OKX X Y R_law code 4 (some .boolean) room_1) (hF : Y.2.2.2.2 = true) (hL : Lay M0) {b L : Nat} {xs : Nat → Int32} (hX : va_X b L xs X.2.2.2.2.1 X.2.2.2.2.1.heap) (hbl : b < X.2.2.2.2.1.heap.size) (hbA : ¬ frA Y b) {Qm : Option Value → Mem → Prop} {n k : Nat} {a1 a2 : Nat} (q1 : 0 < a1 ∧ M0 0 a1 = kO 11) (q2 : 0 < a2 ∧ M0 0 a2 = kO 12) (C : Mem → Prop) (x3 : Int) (hn : n + 100 ≤ 600000 ∧ k + 10240 ≤ 7302250) (kk : ∀ M : Mem, C M → WW X Y 4 room_1 Qm M0 (n + 100) (k + 10240) 1535 [(0, .ref b), (1, vR Y.1 a1), (2, vR Y.1 a2), (3, vI x3)] [] M) (M : Mem) (h : wL_c2 xs L a1 a2 C x3 M) : WW X Y 4 room_1 Qm M0 n k 282 [(0, .ref b), (1, vR Y.1 a1), (2, vR Y.1 a2), (3, vI x3)] [] M := by
  unfold wL_c2 at h
  refine r_aload_n hC 1 dL_law_282 rfl rfl ?_
  refine r_aloadX hC 0 dL_law_283 rfl rfl ?_
  refine r_iload_n hC 3 dL_law_284 rfl rfl ?_
  refine r_iconst hC dL_law_285 ?_
  refine r_iadd hC dL_law_286 ?_
  obtain ⟨i_1, h⟩ := h
  refine r_sld hC hX hbl hbA i_1 dL_law_287 ?_
  refine r_aloadX hC 0 dL_law_288 rfl rfl ?_
  refine r_iload_n hC 3 dL_law_289 rfl rfl ?_
  refine r_iconst hC dL_law_290 ?_
  refine r_iadd hC dL_law_291 ?_
  obtain ⟨i_2, h⟩ := h
  refine r_sld hC hX hbl hbA i_2 dL_law_292 ?_
  refine r_callV (As := [vI (sxv xs (x3 + 1)), vI (sxv xs (x3 + 2))]) (st := []) hC cw_law_23 rfl q1.1 q1.2 rfl rfl (Nat.le_of_ble_eq_true rfl) ⟨Nat.le_of_ble_eq_true rfl, Nat.le_of_ble_eq_true rfl⟩ (by constructor <;> simp only [rmX11_rule, room_1] <;> omega) dL_law_293 (fun hk => mX11_rule Y hF _ _ _ _ _ _ (kqO hk q1) h) (fun v M_3 h => ?_)
  obtain ⟨r_4, rfl, h⟩ := h
  refine r_aload_n hC 2 dL_law_296 rfl rfl ?_
  refine r_aloadX hC 0 dL_law_297 rfl rfl ?_
  refine r_iload_n hC 3 dL_law_298 rfl rfl ?_
  refine r_iconst hC dL_law_299 ?_
  refine r_iadd hC dL_law_300 ?_
  obtain ⟨i_5, h⟩ := h
  refine r_sld hC hX hbl hbA i_5 dL_law_301 ?_
  refine r_aloadX hC 0 dL_law_302 rfl rfl ?_
  refine r_iload_n hC 3 dL_law_303 rfl rfl ?_
  refine r_iconst hC dL_law_304 ?_
  refine r_iadd hC dL_law_305 ?_
  obtain ⟨i_6, h⟩ := h
  refine r_sld hC hX hbl hbA i_6 dL_law_306 ?_
  refine r_callV (As := [vI (sxv xs (x3 + 1)), vI (sxv xs (x3 + 2))]) (st := [vI r_4]) hC cw_law_26 rfl q2.1 q2.2 rfl rfl (Nat.le_of_ble_eq_true rfl) ⟨Nat.le_of_ble_eq_true rfl, Nat.le_of_ble_eq_true rfl⟩ (by constructor <;> simp only [rmX11_rule, rmX12_rule, room_1] <;> omega) dL_law_307 (fun hk => mX12_rule Y hF _ _ _ _ _ _ (kqO hk q2) h) (fun v M_7 h => ?_)
  obtain ⟨r_8, rfl, h⟩ := h
  refine r_icmp_eq hC 1535 rfl rfl dL_law_310 (by decide) (fun cq => ?_) (fun cq => ?_)
  · replace h := h.1 cq
    exact r_widen (n' := n + 100) (k' := k + 10240) (by simp only [rmX11_rule, rmX12_rule]; omega) (by simp only [rmX11_rule, rmX12_rule]; omega) (kk _ h)
  · replace h := h.2 cq
    refine r_iconst hC dL_law_313 ?_
    exact h.elim
theorem dL_law_315 : dec code 315 1 316 (.aload_n 1) := ⟨by decide +kernel, rfl⟩
theorem dL_law_316 : dec code 316 1 317 (.aload_n 0) := ⟨by decide +kernel, rfl⟩
theorem dL_law_317 : dec code 317 1 318 (.iload_n 3) := ⟨by decide +kernel, rfl⟩
theorem dL_law_318 : dec code 318 1 319 (.iconst 1) := ⟨by decide +kernel, rfl⟩
theorem dL_law_319 : dec code 319 1 320 (.iadd) := ⟨by decide +kernel, rfl⟩
theorem dL_law_320 : dec code 320 1 321 (.iaload) := ⟨by decide +kernel, rfl⟩
theorem dL_law_321 : dec code 321 1 322 (.aload_n 0) := ⟨by decide +kernel, rfl⟩
theorem dL_law_322 : dec code 322 1 323 (.iload_n 3) := ⟨by decide +kernel, rfl⟩
theorem dL_law_323 : dec code 323 1 324 (.iconst 2) := ⟨by decide +kernel, rfl⟩
theorem dL_law_324 : dec code 324 1 325 (.iadd) := ⟨by decide +kernel, rfl⟩
theorem dL_law_325 : dec code 325 1 326 (.iaload) := ⟨by decide +kernel, rfl⟩
theorem dL_law_326 : dec code 326 1 327 (.aload_n 0) := ⟨by decide +kernel, rfl⟩
theorem dL_law_327 : dec code 327 1 328 (.iload_n 3) := ⟨by decide +kernel, rfl⟩
theorem dL_law_328 : dec code 328 1 329 (.iconst 3) := ⟨by decide +kernel, rfl⟩
theorem dL_law_329 : dec code 329 1 330 (.iadd) := ⟨by decide +kernel, rfl⟩
theorem dL_law_330 : dec code 330 1 331 (.iaload) := ⟨by decide +kernel, rfl⟩
theorem dL_law_331 : dec code 331 3 334 (.invokevirtual 27) := ⟨by decide +kernel, rfl⟩
theorem dL_law_334 : dec code 334 1 335 (.aload_n 2) := ⟨by decide +kernel, rfl⟩
theorem dL_law_335 : dec code 335 1 336 (.aload_n 0) := ⟨by decide +kernel, rfl⟩
theorem dL_law_336 : dec code 336 1 337 (.iload_n 3) := ⟨by decide +kernel, rfl⟩
theorem dL_law_337 : dec code 337 1 338 (.iconst 1) := ⟨by decide +kernel, rfl⟩
theorem dL_law_338 : dec code 338 1 339 (.iadd) := ⟨by decide +kernel, rfl⟩
theorem dL_law_339 : dec code 339 1 340 (.iaload) := ⟨by decide +kernel, rfl⟩
theorem dL_law_340 : dec code 340 1 341 (.aload_n 0) := ⟨by decide +kernel, rfl⟩
theorem dL_law_341 : dec code 341 1 342 (.iload_n 3) := ⟨by decide +kernel, rfl⟩
theorem dL_law_342 : dec code 342 1 343 (.iconst 2) := ⟨by decide +kernel, rfl⟩
theorem dL_law_343 : dec code 343 1 344 (.iadd) := ⟨by decide +kernel, rfl⟩
theorem dL_law_344 : dec code 344 1 345 (.iaload) := ⟨by decide +kernel, rfl⟩
theorem dL_law_345 : dec code 345 1 346 (.aload_n 0) := ⟨by decide +kernel, rfl⟩
theorem dL_law_346 : dec code 346 1 347 (.iload_n 3) := ⟨by decide +kernel, rfl⟩
theorem dL_law_347 : dec code 347 1 348 (.iconst 3) := ⟨by decide +kernel, rfl⟩
theorem dL_law_348 : dec code 348 1 349 (.iadd) := ⟨by decide +kernel, rfl⟩
theorem dL_law_349 : dec code 349 1 350 (.iaload) := ⟨by decide +kernel, rfl⟩
theorem dL_law_350 : dec code 350 3 353 (.invokevirtual 31) := ⟨by decide +kernel, rfl⟩
theorem dL_law_353 : dec code 353 3 356 (.if_icmp .eq 1182) := ⟨by decide +kernel, rfl⟩
theorem dL_law_356 : dec code 356 1 357 (.iconst 0) := ⟨by decide +kernel, rfl⟩
theorem dL_law_357 : dec code 357 1 358 (.ireturn) := ⟨by decide +kernel, rfl⟩
set_option maxHeartbeats 4000000 in
set_option maxRecDepth 100000 in
theorem tL_c3 {X : Cx} {Y : Yx} {M0 : Mem} (hC : OKX X Y R_law code 4 (some .boolean) room_1) (hF : Y.2.2.2.2 = true) (hL : Lay M0) {b L : Nat} {xs : Nat → Int32} (hX : va_X b L xs X.2.2.2.2.1 X.2.2.2.2.1.heap) (hbl : b < X.2.2.2.2.1.heap.size) (hbA : ¬ frA Y b) {Qm : Option Value → Mem → Prop} {n k : Nat} {a1 a2 : Nat} (q1 : 0 < a1 ∧ M0 0 a1 = kO 11) (q2 : 0 < a2 ∧ M0 0 a2 = kO 12) (C : Mem → Prop) (x3 : Int) (hn : n + 100 ≤ 600000 ∧ k + 10240 ≤ 7302250) (kk : ∀ M : Mem, C M → WW X Y 4 room_1 Qm M0 (n + 100) (k + 10240) 1535 [(0, .ref b), (1, vR Y.1 a1), (2, vR Y.1 a2), (3, vI x3)] [] M) (M : Mem) (h : wL_c3 xs L a1 a2 C x3 M) : WW X Y 4 room_1 Qm M0 n k 315 [(0, .ref b), (1, vR Y.1 a1), (2, vR Y.1 a2), (3, vI x3)] [] M := by
  unfold wL_c3 at h
  refine r_aload_n hC 1 dL_law_315 rfl rfl ?_
  refine r_aloadX hC 0 dL_law_316 rfl rfl ?_
  refine r_iload_n hC 3 dL_law_317 rfl rfl ?_
  refine r_iconst hC dL_law_318 ?_
  refine r_iadd hC dL_law_319 ?_
  obtain ⟨i_1, h⟩ := h
  refine r_sld hC hX hbl hbA i_1 dL_law_320 ?_
  refine r_aloadX hC 0 dL_law_321 rfl rfl ?_
  refine r_iload_n hC 3 dL_law_322 rfl rfl ?_
  refine r_iconst hC dL_law_323 ?_
  refine r_iadd hC dL_law_324 ?_
  obtain ⟨i_2, h⟩ := h
  refine r_sld hC hX hbl hbA i_2 dL_law_325 ?_
  refine r_aloadX hC 0 dL_law_326 rfl rfl ?_
  refine r_iload_n hC 3 dL_law_327 rfl rfl ?_
  refine r_iconst hC dL_law_328 ?_
  refine r_iadd hC dL_law_329 ?_
  obtain ⟨i_3, h⟩ := h
  refine r_sld hC hX hbl hbA i_3 dL_law_330 ?_
  refine r_callV (As := [vI (sxv xs (x3 + 1)), vI (sxv xs (x3 + 2)), vI (sxv xs (x3 + 3))]) (st := []) hC cw_law_27 rfl q1.1 q1.2 rfl rfl (Nat.le_of_ble_eq_true rfl) ⟨Nat.le_of_ble_eq_true rfl, Nat.le_of_ble_eq_true rfl⟩ (by constructor <;> simp only [rmX11_liking, room_1] <;> omega) dL_law_331 (fun hk => mX11_liking Y hF _ _ _ _ _ _ _ (kqO hk q1) h) (fun v M_4 h => ?_)
  obtain ⟨r_5, rfl, h⟩ := h
  refine r_aload_n hC 2 dL_law_334 rfl rfl ?_
  refine r_aloadX hC 0 dL_law_335 rfl rfl ?_
  refine r_iload_n hC 3 dL_law_336 rfl rfl ?_
  refine r_iconst hC dL_law_337 ?_
  refine r_iadd hC dL_law_338 ?_
  obtain ⟨i_6, h⟩ := h
  refine r_sld hC hX hbl hbA i_6 dL_law_339 ?_
  refine r_aloadX hC 0 dL_law_340 rfl rfl ?_
  refine r_iload_n hC 3 dL_law_341 rfl rfl ?_
  refine r_iconst hC dL_law_342 ?_
  refine r_iadd hC dL_law_343 ?_
  obtain ⟨i_7, h⟩ := h
  refine r_sld hC hX hbl hbA i_7 dL_law_344 ?_
  refine r_aloadX hC 0 dL_law_345 rfl rfl ?_
  refine r_iload_n hC 3 dL_law_346 rfl rfl ?_
  refine r_iconst hC dL_law_347 ?_
  refine r_iadd hC dL_law_348 ?_
  obtain ⟨i_8, h⟩ := h
  refine r_sld hC hX hbl hbA i_8 dL_law_349 ?_
  refine r_callV (As := [vI (sxv xs (x3 + 1)), vI (sxv xs (x3 + 2)), vI (sxv xs (x3 + 3))]) (st := [vI r_5]) hC cw_law_31 rfl q2.1 q2.2 rfl rfl (Nat.le_of_ble_eq_true rfl) ⟨Nat.le_of_ble_eq_true rfl, Nat.le_of_ble_eq_true rfl⟩ (by constructor <;> simp only [rmX11_liking, rmX12_liking, room_1] <;> omega) dL_law_350 (fun hk => mX12_liking Y hF _ _ _ _ _ _ _ (kqO hk q2) h) (fun v M_9 h => ?_)
  obtain ⟨r_10, rfl, h⟩ := h
  refine r_icmp_eq hC 1535 rfl rfl dL_law_353 (by decide) (fun cq => ?_) (fun cq => ?_)
  · replace h := h.1 cq
    exact r_widen (n' := n + 100) (k' := k + 10240) (by simp only [rmX11_liking, rmX12_liking]; omega) (by simp only [rmX11_liking, rmX12_liking]; omega) (kk _ h)
  · replace h := h.2 cq
    refine r_iconst hC dL_law_356 ?_
    exact h.elim
theorem dL_law_358 : dec code 358 1 359 (.aload_n 1) := ⟨by decide +kernel, rfl⟩
theorem dL_law_359 : dec code 359 1 360 (.aload_n 0) := ⟨by decide +kernel, rfl⟩
theorem dL_law_360 : dec code 360 1 361 (.iload_n 3) := ⟨by decide +kernel, rfl⟩
theorem dL_law_361 : dec code 361 1 362 (.iconst 1) := ⟨by decide +kernel, rfl⟩
theorem dL_law_362 : dec code 362 1 363 (.iadd) := ⟨by decide +kernel, rfl⟩
theorem dL_law_363 : dec code 363 1 364 (.iaload) := ⟨by decide +kernel, rfl⟩
theorem dL_law_364 : dec code 364 1 365 (.aload_n 0) := ⟨by decide +kernel, rfl⟩
theorem dL_law_365 : dec code 365 1 366 (.iload_n 3) := ⟨by decide +kernel, rfl⟩
theorem dL_law_366 : dec code 366 1 367 (.iconst 2) := ⟨by decide +kernel, rfl⟩
theorem dL_law_367 : dec code 367 1 368 (.iadd) := ⟨by decide +kernel, rfl⟩
theorem dL_law_368 : dec code 368 1 369 (.iaload) := ⟨by decide +kernel, rfl⟩
theorem dL_law_369 : dec code 369 3 372 (.ifCond .eq 7) := ⟨by decide +kernel, rfl⟩
theorem dL_law_372 : dec code 372 1 373 (.iconst 1) := ⟨by decide +kernel, rfl⟩
theorem dL_law_373 : dec code 373 3 376 (.goto 4) := ⟨by decide +kernel, rfl⟩
theorem dL_law_376 : dec code 376 1 377 (.iconst 0) := ⟨by decide +kernel, rfl⟩
theorem dL_law_377 : dec code 377 3 380 (.invokevirtual 32) := ⟨by decide +kernel, rfl⟩
theorem dL_law_380 : dec code 380 1 381 (.aload_n 2) := ⟨by decide +kernel, rfl⟩
theorem dL_law_381 : dec code 381 1 382 (.aload_n 0) := ⟨by decide +kernel, rfl⟩
theorem dL_law_382 : dec code 382 1 383 (.iload_n 3) := ⟨by decide +kernel, rfl⟩
theorem dL_law_383 : dec code 383 1 384 (.iconst 1) := ⟨by decide +kernel, rfl⟩
theorem dL_law_384 : dec code 384 1 385 (.iadd) := ⟨by decide +kernel, rfl⟩
theorem dL_law_385 : dec code 385 1 386 (.iaload) := ⟨by decide +kernel, rfl⟩
theorem dL_law_386 : dec code 386 1 387 (.aload_n 0) := ⟨by decide +kernel, rfl⟩
theorem dL_law_387 : dec code 387 1 388 (.iload_n 3) := ⟨by decide +kernel, rfl⟩
theorem dL_law_388 : dec code 388 1 389 (.iconst 2) := ⟨by decide +kernel, rfl⟩
theorem dL_law_389 : dec code 389 1 390 (.iadd) := ⟨by decide +kernel, rfl⟩
theorem dL_law_390 : dec code 390 1 391 (.iaload) := ⟨by decide +kernel, rfl⟩
theorem dL_law_391 : dec code 391 3 394 (.ifCond .eq 7) := ⟨by decide +kernel, rfl⟩
theorem dL_law_394 : dec code 394 1 395 (.iconst 1) := ⟨by decide +kernel, rfl⟩
theorem dL_law_395 : dec code 395 3 398 (.goto 4) := ⟨by decide +kernel, rfl⟩
theorem dL_law_398 : dec code 398 1 399 (.iconst 0) := ⟨by decide +kernel, rfl⟩
theorem dL_law_399 : dec code 399 3 402 (.invokevirtual 36) := ⟨by decide +kernel, rfl⟩
theorem dL_law_402 : dec code 402 3 405 (.if_icmp .eq 1133) := ⟨by decide +kernel, rfl⟩
theorem dL_law_405 : dec code 405 1 406 (.iconst 0) := ⟨by decide +kernel, rfl⟩
theorem dL_law_406 : dec code 406 1 407 (.ireturn) := ⟨by decide +kernel, rfl⟩
set_option maxHeartbeats 4000000 in
set_option maxRecDepth 100000 in
theorem tL_c4 {X : Cx} {Y : Yx} {M0 : Mem} (hC : OKX X Y R_law code 4 (some .boolean) room_1) (hF : Y.2.2.2.2 = true) (hL : Lay M0) {b L : Nat} {xs : Nat → Int32} (hX : va_X b L xs X.2.2.2.2.1 X.2.2.2.2.1.heap) (hbl : b < X.2.2.2.2.1.heap.size) (hbA : ¬ frA Y b) {Qm : Option Value → Mem → Prop} {n k : Nat} {a1 a2 : Nat} (q1 : 0 < a1 ∧ M0 0 a1 = kO 11) (q2 : 0 < a2 ∧ M0 0 a2 = kO 12) (C : Mem → Prop) (x3 : Int) (hn : n + 100 ≤ 600000 ∧ k + 10240 ≤ 7302250) (kk : ∀ M : Mem, C M → WW X Y 4 room_1 Qm M0 (n + 100) (k + 10240) 1535 [(0, .ref b), (1, vR Y.1 a1), (2, vR Y.1 a2), (3, vI x3)] [] M) (M : Mem) (h : wL_c4 xs L a1 a2 C x3 M) : WW X Y 4 room_1 Qm M0 n k 358 [(0, .ref b), (1, vR Y.1 a1), (2, vR Y.1 a2), (3, vI x3)] [] M := by
  unfold wL_c4 at h
  refine r_aload_n hC 1 dL_law_358 rfl rfl ?_
  refine r_aloadX hC 0 dL_law_359 rfl rfl ?_
  refine r_iload_n hC 3 dL_law_360 rfl rfl ?_
  refine r_iconst hC dL_law_361 ?_
  refine r_iadd hC dL_law_362 ?_
  obtain ⟨i_1, h⟩ := h
  refine r_sld hC hX hbl hbA i_1 dL_law_363 ?_
  refine r_aloadX hC 0 dL_law_364 rfl rfl ?_
  refine r_iload_n hC 3 dL_law_365 rfl rfl ?_
  refine r_iconst hC dL_law_366 ?_
  refine r_iadd hC dL_law_367 ?_
  obtain ⟨i_2, h⟩ := h
  refine r_sld hC hX hbl hbA i_2 dL_law_368 ?_
  refine r_if_eq hC 376 rfl dL_law_369 (by decide) (fun cq => ?_) (fun cq => ?_)
  · replace h := h.1 cq
    refine r_iconst hC dL_law_376 ?_
    refine r_callV (As := [vI (sxv xs (x3 + 1)), vI 0]) (st := []) hC cw_law_32 rfl q1.1 q1.2 rfl rfl (Nat.le_of_ble_eq_true rfl) ⟨Nat.le_of_ble_eq_true rfl, Nat.le_of_ble_eq_true rfl⟩ (by constructor <;> simp only [rmX11_turn, room_1] <;> omega) dL_law_377 (fun hk => mX11_turn Y hF _ _ _ _ _ _ (kqO hk q1) h) (fun v M_3 h => ?_)
    obtain ⟨r_4, rfl, h⟩ := h
    refine r_aload_n hC 2 dL_law_380 rfl rfl ?_
    refine r_aloadX hC 0 dL_law_381 rfl rfl ?_
    refine r_iload_n hC 3 dL_law_382 rfl rfl ?_
    refine r_iconst hC dL_law_383 ?_
    refine r_iadd hC dL_law_384 ?_
    obtain ⟨i_5, h⟩ := h
    refine r_sld hC hX hbl hbA i_5 dL_law_385 ?_
    refine r_aloadX hC 0 dL_law_386 rfl rfl ?_
    refine r_iload_n hC 3 dL_law_387 rfl rfl ?_
    refine r_iconst hC dL_law_388 ?_
    refine r_iadd hC dL_law_389 ?_
    obtain ⟨i_6, h⟩ := h
    refine r_sld hC hX hbl hbA i_6 dL_law_390 ?_
    refine r_if_eq hC 398 rfl dL_law_391 (by decide) (fun cq => ?_) (fun cq => ?_)
    · replace h := h.1 cq
      refine r_iconst hC dL_law_398 ?_
      refine r_callV (As := [vI (sxv xs (x3 + 1)), vI 0]) (st := [vI r_4]) hC cw_law_36 rfl q2.1 q2.2 rfl rfl (Nat.le_of_ble_eq_true rfl) ⟨Nat.le_of_ble_eq_true rfl, Nat.le_of_ble_eq_true rfl⟩ (by constructor <;> simp only [rmX11_turn, rmX12_turn, room_1] <;> omega) dL_law_399 (fun hk => mX12_turn Y hF _ _ _ _ _ _ (kqO hk q2) h) (fun v M_7 h => ?_)
      obtain ⟨r_8, rfl, h⟩ := h
      refine r_icmp_eq hC 1535 rfl rfl dL_law_402 (by decide) (fun cq => ?_) (fun cq => ?_)
      · replace h := h.1 cq
        exact r_widen (n' := n + 100) (k' := k + 10240) (by simp only [rmX11_turn, rmX12_turn]; omega) (by simp only [rmX11_turn, rmX12_turn]; omega) (kk _ h)
      · replace h := h.2 cq
        refine r_iconst hC dL_law_405 ?_
        exact h.elim
    · replace h := h.2 cq
      refine r_iconst hC dL_law_394 ?_
      refine r_goto hC 399 dL_law_395 (by decide) ?_
      refine r_callV (As := [vI (sxv xs (x3 + 1)), vI 1]) (st := [vI r_4]) hC cw_law_36 rfl q2.1 q2.2 rfl rfl (Nat.le_of_ble_eq_true rfl) ⟨Nat.le_of_ble_eq_true rfl, Nat.le_of_ble_eq_true rfl⟩ (by constructor <;> simp only [rmX11_turn, rmX12_turn, room_1] <;> omega) dL_law_399 (fun hk => mX12_turn Y hF _ _ _ _ _ _ (kqO hk q2) h) (fun v M_9 h => ?_)
      obtain ⟨r_10, rfl, h⟩ := h
      refine r_icmp_eq hC 1535 rfl rfl dL_law_402 (by decide) (fun cq => ?_) (fun cq => ?_)
      · replace h := h.1 cq
        exact r_widen (n' := n + 100) (k' := k + 10240) (by simp only [rmX11_turn, rmX12_turn]; omega) (by simp only [rmX11_turn, rmX12_turn]; omega) (kk _ h)
      · replace h := h.2 cq
        refine r_iconst hC dL_law_405 ?_
        exact h.elim
  · replace h := h.2 cq
    refine r_iconst hC dL_law_372 ?_
    refine r_goto hC 377 dL_law_373 (by decide) ?_
    refine r_callV (As := [vI (sxv xs (x3 + 1)), vI 1]) (st := []) hC cw_law_32 rfl q1.1 q1.2 rfl rfl (Nat.le_of_ble_eq_true rfl) ⟨Nat.le_of_ble_eq_true rfl, Nat.le_of_ble_eq_true rfl⟩ (by constructor <;> simp only [rmX11_turn, room_1] <;> omega) dL_law_377 (fun hk => mX11_turn Y hF _ _ _ _ _ _ (kqO hk q1) h) (fun v M_11 h => ?_)
    obtain ⟨r_12, rfl, h⟩ := h
    refine r_aload_n hC 2 dL_law_380 rfl rfl ?_
    refine r_aloadX hC 0 dL_law_381 rfl rfl ?_
    refine r_iload_n hC 3 dL_law_382 rfl rfl ?_
    refine r_iconst hC dL_law_383 ?_
    refine r_iadd hC dL_law_384 ?_
    obtain ⟨i_13, h⟩ := h
    refine r_sld hC hX hbl hbA i_13 dL_law_385 ?_
    refine r_aloadX hC 0 dL_law_386 rfl rfl ?_
    refine r_iload_n hC 3 dL_law_387 rfl rfl ?_
    refine r_iconst hC dL_law_388 ?_
    refine r_iadd hC dL_law_389 ?_
    obtain ⟨i_14, h⟩ := h
    refine r_sld hC hX hbl hbA i_14 dL_law_390 ?_
    refine r_if_eq hC 398 rfl dL_law_391 (by decide) (fun cq => ?_) (fun cq => ?_)
    · replace h := h.1 cq
      refine r_iconst hC dL_law_398 ?_
      refine r_callV (As := [vI (sxv xs (x3 + 1)), vI 0]) (st := [vI r_12]) hC cw_law_36 rfl q2.1 q2.2 rfl rfl (Nat.le_of_ble_eq_true rfl) ⟨Nat.le_of_ble_eq_true rfl, Nat.le_of_ble_eq_true rfl⟩ (by constructor <;> simp only [rmX11_turn, rmX12_turn, room_1] <;> omega) dL_law_399 (fun hk => mX12_turn Y hF _ _ _ _ _ _ (kqO hk q2) h) (fun v M_15 h => ?_)
      obtain ⟨r_16, rfl, h⟩ := h
      refine r_icmp_eq hC 1535 rfl rfl dL_law_402 (by decide) (fun cq => ?_) (fun cq => ?_)
      · replace h := h.1 cq
        exact r_widen (n' := n + 100) (k' := k + 10240) (by simp only [rmX11_turn, rmX12_turn]; omega) (by simp only [rmX11_turn, rmX12_turn]; omega) (kk _ h)
      · replace h := h.2 cq
        refine r_iconst hC dL_law_405 ?_
        exact h.elim
    · replace h := h.2 cq
      refine r_iconst hC dL_law_394 ?_
      refine r_goto hC 399 dL_law_395 (by decide) ?_
      refine r_callV (As := [vI (sxv xs (x3 + 1)), vI 1]) (st := [vI r_12]) hC cw_law_36 rfl q2.1 q2.2 rfl rfl (Nat.le_of_ble_eq_true rfl) ⟨Nat.le_of_ble_eq_true rfl, Nat.le_of_ble_eq_true rfl⟩ (by constructor <;> simp only [rmX11_turn, rmX12_turn, room_1] <;> omega) dL_law_399 (fun hk => mX12_turn Y hF _ _ _ _ _ _ (kqO hk q2) h) (fun v M_17 h => ?_)
      obtain ⟨r_18, rfl, h⟩ := h
      refine r_icmp_eq hC 1535 rfl rfl dL_law_402 (by decide) (fun cq => ?_) (fun cq => ?_)
      · replace h := h.1 cq
        exact r_widen (n' := n + 100) (k' := k + 10240) (by simp only [rmX11_turn, rmX12_turn]; omega) (by simp only [rmX11_turn, rmX12_turn]; omega) (kk _ h)
      · replace h := h.2 cq
        refine r_iconst hC dL_law_405 ?_
        exact h.elim
theorem dL_law_407 : dec code 407 1 408 (.aload_n 1) := ⟨by decide +kernel, rfl⟩
theorem dL_law_408 : dec code 408 1 409 (.aload_n 0) := ⟨by decide +kernel, rfl⟩
theorem dL_law_409 : dec code 409 1 410 (.iload_n 3) := ⟨by decide +kernel, rfl⟩
theorem dL_law_410 : dec code 410 1 411 (.iconst 1) := ⟨by decide +kernel, rfl⟩
theorem dL_law_411 : dec code 411 1 412 (.iadd) := ⟨by decide +kernel, rfl⟩
theorem dL_law_412 : dec code 412 1 413 (.iaload) := ⟨by decide +kernel, rfl⟩
theorem dL_law_413 : dec code 413 1 414 (.aload_n 0) := ⟨by decide +kernel, rfl⟩
theorem dL_law_414 : dec code 414 1 415 (.iload_n 3) := ⟨by decide +kernel, rfl⟩
theorem dL_law_415 : dec code 415 1 416 (.iconst 2) := ⟨by decide +kernel, rfl⟩
theorem dL_law_416 : dec code 416 1 417 (.iadd) := ⟨by decide +kernel, rfl⟩
theorem dL_law_417 : dec code 417 1 418 (.iaload) := ⟨by decide +kernel, rfl⟩
theorem dL_law_418 : dec code 418 3 421 (.invokevirtual 37) := ⟨by decide +kernel, rfl⟩
theorem dL_law_421 : dec code 421 1 422 (.aload_n 2) := ⟨by decide +kernel, rfl⟩
theorem dL_law_422 : dec code 422 1 423 (.aload_n 0) := ⟨by decide +kernel, rfl⟩
theorem dL_law_423 : dec code 423 1 424 (.iload_n 3) := ⟨by decide +kernel, rfl⟩
theorem dL_law_424 : dec code 424 1 425 (.iconst 1) := ⟨by decide +kernel, rfl⟩
theorem dL_law_425 : dec code 425 1 426 (.iadd) := ⟨by decide +kernel, rfl⟩
theorem dL_law_426 : dec code 426 1 427 (.iaload) := ⟨by decide +kernel, rfl⟩
theorem dL_law_427 : dec code 427 1 428 (.aload_n 0) := ⟨by decide +kernel, rfl⟩
theorem dL_law_428 : dec code 428 1 429 (.iload_n 3) := ⟨by decide +kernel, rfl⟩
theorem dL_law_429 : dec code 429 1 430 (.iconst 2) := ⟨by decide +kernel, rfl⟩
theorem dL_law_430 : dec code 430 1 431 (.iadd) := ⟨by decide +kernel, rfl⟩
theorem dL_law_431 : dec code 431 1 432 (.iaload) := ⟨by decide +kernel, rfl⟩
theorem dL_law_432 : dec code 432 3 435 (.invokevirtual 40) := ⟨by decide +kernel, rfl⟩
theorem dL_law_435 : dec code 435 3 438 (.if_icmp .eq 1100) := ⟨by decide +kernel, rfl⟩
theorem dL_law_438 : dec code 438 1 439 (.iconst 0) := ⟨by decide +kernel, rfl⟩
theorem dL_law_439 : dec code 439 1 440 (.ireturn) := ⟨by decide +kernel, rfl⟩
set_option maxHeartbeats 4000000 in
set_option maxRecDepth 100000 in
theorem tL_c5 {X : Cx} {Y : Yx} {M0 : Mem} (hC : OKX X Y R_law code 4 (some .boolean) room_1) (hF : Y.2.2.2.2 = true) (hL : Lay M0) {b L : Nat} {xs : Nat → Int32} (hX : va_X b L xs X.2.2.2.2.1 X.2.2.2.2.1.heap) (hbl : b < X.2.2.2.2.1.heap.size) (hbA : ¬ frA Y b) {Qm : Option Value → Mem → Prop} {n k : Nat} {a1 a2 : Nat} (q1 : 0 < a1 ∧ M0 0 a1 = kO 11) (q2 : 0 < a2 ∧ M0 0 a2 = kO 12) (C : Mem → Prop) (x3 : Int) (hn : n + 100 ≤ 600000 ∧ k + 10240 ≤ 7302250) (kk : ∀ M : Mem, C M → WW X Y 4 room_1 Qm M0 (n + 100) (k + 10240) 1535 [(0, .ref b), (1, vR Y.1 a1), (2, vR Y.1 a2), (3, vI x3)] [] M) (M : Mem) (h : wL_c5 xs L a1 a2 C x3 M) : WW X Y 4 room_1 Qm M0 n k 407 [(0, .ref b), (1, vR Y.1 a1), (2, vR Y.1 a2), (3, vI x3)] [] M := by
  unfold wL_c5 at h
  refine r_aload_n hC 1 dL_law_407 rfl rfl ?_
  refine r_aloadX hC 0 dL_law_408 rfl rfl ?_
  refine r_iload_n hC 3 dL_law_409 rfl rfl ?_
  refine r_iconst hC dL_law_410 ?_
  refine r_iadd hC dL_law_411 ?_
  obtain ⟨i_1, h⟩ := h
  refine r_sld hC hX hbl hbA i_1 dL_law_412 ?_
  refine r_aloadX hC 0 dL_law_413 rfl rfl ?_
  refine r_iload_n hC 3 dL_law_414 rfl rfl ?_
  refine r_iconst hC dL_law_415 ?_
  refine r_iadd hC dL_law_416 ?_
  obtain ⟨i_2, h⟩ := h
  refine r_sld hC hX hbl hbA i_2 dL_law_417 ?_
  refine r_callV (As := [vI (sxv xs (x3 + 1)), vI (sxv xs (x3 + 2))]) (st := []) hC cw_law_37 rfl q1.1 q1.2 rfl rfl (Nat.le_of_ble_eq_true rfl) ⟨Nat.le_of_ble_eq_true rfl, Nat.le_of_ble_eq_true rfl⟩ (by constructor <;> simp only [rmX11_as, room_1] <;> omega) dL_law_418 (fun hk => mX11_as Y hF _ _ _ _ _ _ (kqO hk q1) h) (fun v M_3 h => ?_)
  obtain ⟨r_4, rfl, h⟩ := h
  refine r_aload_n hC 2 dL_law_421 rfl rfl ?_
  refine r_aloadX hC 0 dL_law_422 rfl rfl ?_
  refine r_iload_n hC 3 dL_law_423 rfl rfl ?_
  refine r_iconst hC dL_law_424 ?_
  refine r_iadd hC dL_law_425 ?_
  obtain ⟨i_5, h⟩ := h
  refine r_sld hC hX hbl hbA i_5 dL_law_426 ?_
  refine r_aloadX hC 0 dL_law_427 rfl rfl ?_
  refine r_iload_n hC 3 dL_law_428 rfl rfl ?_
  refine r_iconst hC dL_law_429 ?_
  refine r_iadd hC dL_law_430 ?_
  obtain ⟨i_6, h⟩ := h
  refine r_sld hC hX hbl hbA i_6 dL_law_431 ?_
  refine r_callV (As := [vI (sxv xs (x3 + 1)), vI (sxv xs (x3 + 2))]) (st := [vI r_4]) hC cw_law_40 rfl q2.1 q2.2 rfl rfl (Nat.le_of_ble_eq_true rfl) ⟨Nat.le_of_ble_eq_true rfl, Nat.le_of_ble_eq_true rfl⟩ (by constructor <;> simp only [rmX11_as, rmX12_as, room_1] <;> omega) dL_law_432 (fun hk => mX12_as Y hF _ _ _ _ _ _ (kqO hk q2) h) (fun v M_7 h => ?_)
  obtain ⟨r_8, rfl, h⟩ := h
  refine r_icmp_eq hC 1535 rfl rfl dL_law_435 (by decide) (fun cq => ?_) (fun cq => ?_)
  · replace h := h.1 cq
    exact r_widen (n' := n + 100) (k' := k + 10240) (by simp only [rmX11_as, rmX12_as]; omega) (by simp only [rmX11_as, rmX12_as]; omega) (kk _ h)
  · replace h := h.2 cq
    refine r_iconst hC dL_law_438 ?_
    exact h.elim
theorem dL_law_440 : dec code 440 1 441 (.aload_n 1) := ⟨by decide +kernel, rfl⟩
theorem dL_law_441 : dec code 441 1 442 (.aload_n 0) := ⟨by decide +kernel, rfl⟩
theorem dL_law_442 : dec code 442 1 443 (.iload_n 3) := ⟨by decide +kernel, rfl⟩
theorem dL_law_443 : dec code 443 1 444 (.iconst 1) := ⟨by decide +kernel, rfl⟩
theorem dL_law_444 : dec code 444 1 445 (.iadd) := ⟨by decide +kernel, rfl⟩
theorem dL_law_445 : dec code 445 1 446 (.iaload) := ⟨by decide +kernel, rfl⟩
theorem dL_law_446 : dec code 446 1 447 (.aload_n 0) := ⟨by decide +kernel, rfl⟩
theorem dL_law_447 : dec code 447 1 448 (.iload_n 3) := ⟨by decide +kernel, rfl⟩
theorem dL_law_448 : dec code 448 1 449 (.iconst 2) := ⟨by decide +kernel, rfl⟩
theorem dL_law_449 : dec code 449 1 450 (.iadd) := ⟨by decide +kernel, rfl⟩
theorem dL_law_450 : dec code 450 1 451 (.iaload) := ⟨by decide +kernel, rfl⟩
theorem dL_law_451 : dec code 451 1 452 (.aload_n 0) := ⟨by decide +kernel, rfl⟩
theorem dL_law_452 : dec code 452 1 453 (.iload_n 3) := ⟨by decide +kernel, rfl⟩
theorem dL_law_453 : dec code 453 1 454 (.iconst 3) := ⟨by decide +kernel, rfl⟩
theorem dL_law_454 : dec code 454 1 455 (.iadd) := ⟨by decide +kernel, rfl⟩
theorem dL_law_455 : dec code 455 1 456 (.iaload) := ⟨by decide +kernel, rfl⟩
theorem dL_law_456 : dec code 456 3 459 (.invokevirtual 41) := ⟨by decide +kernel, rfl⟩
theorem dL_law_459 : dec code 459 1 460 (.aload_n 2) := ⟨by decide +kernel, rfl⟩
theorem dL_law_460 : dec code 460 1 461 (.aload_n 0) := ⟨by decide +kernel, rfl⟩
theorem dL_law_461 : dec code 461 1 462 (.iload_n 3) := ⟨by decide +kernel, rfl⟩
theorem dL_law_462 : dec code 462 1 463 (.iconst 1) := ⟨by decide +kernel, rfl⟩
theorem dL_law_463 : dec code 463 1 464 (.iadd) := ⟨by decide +kernel, rfl⟩
theorem dL_law_464 : dec code 464 1 465 (.iaload) := ⟨by decide +kernel, rfl⟩
theorem dL_law_465 : dec code 465 1 466 (.aload_n 0) := ⟨by decide +kernel, rfl⟩
theorem dL_law_466 : dec code 466 1 467 (.iload_n 3) := ⟨by decide +kernel, rfl⟩
theorem dL_law_467 : dec code 467 1 468 (.iconst 2) := ⟨by decide +kernel, rfl⟩
theorem dL_law_468 : dec code 468 1 469 (.iadd) := ⟨by decide +kernel, rfl⟩
theorem dL_law_469 : dec code 469 1 470 (.iaload) := ⟨by decide +kernel, rfl⟩
theorem dL_law_470 : dec code 470 1 471 (.aload_n 0) := ⟨by decide +kernel, rfl⟩
theorem dL_law_471 : dec code 471 1 472 (.iload_n 3) := ⟨by decide +kernel, rfl⟩
theorem dL_law_472 : dec code 472 1 473 (.iconst 3) := ⟨by decide +kernel, rfl⟩
theorem dL_law_473 : dec code 473 1 474 (.iadd) := ⟨by decide +kernel, rfl⟩
theorem dL_law_474 : dec code 474 1 475 (.iaload) := ⟨by decide +kernel, rfl⟩
theorem dL_law_475 : dec code 475 3 478 (.invokevirtual 44) := ⟨by decide +kernel, rfl⟩
theorem dL_law_478 : dec code 478 3 481 (.if_icmp .eq 1057) := ⟨by decide +kernel, rfl⟩
theorem dL_law_481 : dec code 481 1 482 (.iconst 0) := ⟨by decide +kernel, rfl⟩
theorem dL_law_482 : dec code 482 1 483 (.ireturn) := ⟨by decide +kernel, rfl⟩
set_option maxHeartbeats 4000000 in
set_option maxRecDepth 100000 in
theorem tL_c6 {X : Cx} {Y : Yx} {M0 : Mem} (hC : OKX X Y R_law code 4 (some .boolean) room_1) (hF : Y.2.2.2.2 = true) (hL : Lay M0) {b L : Nat} {xs : Nat → Int32} (hX : va_X b L xs X.2.2.2.2.1 X.2.2.2.2.1.heap) (hbl : b < X.2.2.2.2.1.heap.size) (hbA : ¬ frA Y b) {Qm : Option Value → Mem → Prop} {n k : Nat} {a1 a2 : Nat} (q1 : 0 < a1 ∧ M0 0 a1 = kO 11) (q2 : 0 < a2 ∧ M0 0 a2 = kO 12) (C : Mem → Prop) (x3 : Int) (hn : n + 100 ≤ 600000 ∧ k + 10240 ≤ 7302250) (kk : ∀ M : Mem, C M → WW X Y 4 room_1 Qm M0 (n + 100) (k + 10240) 1535 [(0, .ref b), (1, vR Y.1 a1), (2, vR Y.1 a2), (3, vI x3)] [] M) (M : Mem) (h : wL_c6 xs L a1 a2 C x3 M) : WW X Y 4 room_1 Qm M0 n k 440 [(0, .ref b), (1, vR Y.1 a1), (2, vR Y.1 a2), (3, vI x3)] [] M := by
  unfold wL_c6 at h
  refine r_aload_n hC 1 dL_law_440 rfl rfl ?_
  refine r_aloadX hC 0 dL_law_441 rfl rfl ?_
  refine r_iload_n hC 3 dL_law_442 rfl rfl ?_
  refine r_iconst hC dL_law_443 ?_
  refine r_iadd hC dL_law_444 ?_
  obtain ⟨i_1, h⟩ := h
  refine r_sld hC hX hbl hbA i_1 dL_law_445 ?_
  refine r_aloadX hC 0 dL_law_446 rfl rfl ?_
  refine r_iload_n hC 3 dL_law_447 rfl rfl ?_
  refine r_iconst hC dL_law_448 ?_
  refine r_iadd hC dL_law_449 ?_
  obtain ⟨i_2, h⟩ := h
  refine r_sld hC hX hbl hbA i_2 dL_law_450 ?_
  refine r_aloadX hC 0 dL_law_451 rfl rfl ?_
  refine r_iload_n hC 3 dL_law_452 rfl rfl ?_
  refine r_iconst hC dL_law_453 ?_
  refine r_iadd hC dL_law_454 ?_
  obtain ⟨i_3, h⟩ := h
  refine r_sld hC hX hbl hbA i_3 dL_law_455 ?_
  refine r_callV (As := [vI (sxv xs (x3 + 1)), vI (sxv xs (x3 + 2)), vI (sxv xs (x3 + 3))]) (st := []) hC cw_law_41 rfl q1.1 q1.2 rfl rfl (Nat.le_of_ble_eq_true rfl) ⟨Nat.le_of_ble_eq_true rfl, Nat.le_of_ble_eq_true rfl⟩ (by constructor <;> simp only [rmX11_must, room_1] <;> omega) dL_law_456 (fun hk => mX11_must Y hF _ _ _ _ _ _ _ (kqO hk q1) h) (fun v M_4 h => ?_)
  obtain ⟨r_5, rfl, h⟩ := h
  refine r_aload_n hC 2 dL_law_459 rfl rfl ?_
  refine r_aloadX hC 0 dL_law_460 rfl rfl ?_
  refine r_iload_n hC 3 dL_law_461 rfl rfl ?_
  refine r_iconst hC dL_law_462 ?_
  refine r_iadd hC dL_law_463 ?_
  obtain ⟨i_6, h⟩ := h
  refine r_sld hC hX hbl hbA i_6 dL_law_464 ?_
  refine r_aloadX hC 0 dL_law_465 rfl rfl ?_
  refine r_iload_n hC 3 dL_law_466 rfl rfl ?_
  refine r_iconst hC dL_law_467 ?_
  refine r_iadd hC dL_law_468 ?_
  obtain ⟨i_7, h⟩ := h
  refine r_sld hC hX hbl hbA i_7 dL_law_469 ?_
  refine r_aloadX hC 0 dL_law_470 rfl rfl ?_
  refine r_iload_n hC 3 dL_law_471 rfl rfl ?_
  refine r_iconst hC dL_law_472 ?_
  refine r_iadd hC dL_law_473 ?_
  obtain ⟨i_8, h⟩ := h
  refine r_sld hC hX hbl hbA i_8 dL_law_474 ?_
  refine r_callV (As := [vI (sxv xs (x3 + 1)), vI (sxv xs (x3 + 2)), vI (sxv xs (x3 + 3))]) (st := [vI r_5]) hC cw_law_44 rfl q2.1 q2.2 rfl rfl (Nat.le_of_ble_eq_true rfl) ⟨Nat.le_of_ble_eq_true rfl, Nat.le_of_ble_eq_true rfl⟩ (by constructor <;> simp only [rmX11_must, rmX12_must, room_1] <;> omega) dL_law_475 (fun hk => mX12_must Y hF _ _ _ _ _ _ _ (kqO hk q2) h) (fun v M_9 h => ?_)
  obtain ⟨r_10, rfl, h⟩ := h
  refine r_icmp_eq hC 1535 rfl rfl dL_law_478 (by decide) (fun cq => ?_) (fun cq => ?_)
  · replace h := h.1 cq
    exact r_widen (n' := n + 100) (k' := k + 10240) (by simp only [rmX11_must, rmX12_must]; omega) (by simp only [rmX11_must, rmX12_must]; omega) (kk _ h)
  · replace h := h.2 cq
    refine r_iconst hC dL_law_481 ?_
    exact h.elim
theorem dL_law_483 : dec code 483 1 484 (.aload_n 1) := ⟨by decide +kernel, rfl⟩
theorem dL_law_484 : dec code 484 1 485 (.aload_n 0) := ⟨by decide +kernel, rfl⟩
theorem dL_law_485 : dec code 485 1 486 (.iload_n 3) := ⟨by decide +kernel, rfl⟩
theorem dL_law_486 : dec code 486 1 487 (.iconst 1) := ⟨by decide +kernel, rfl⟩
theorem dL_law_487 : dec code 487 1 488 (.iadd) := ⟨by decide +kernel, rfl⟩
theorem dL_law_488 : dec code 488 1 489 (.iaload) := ⟨by decide +kernel, rfl⟩
theorem dL_law_489 : dec code 489 1 490 (.i2l) := ⟨by decide +kernel, rfl⟩
theorem dL_law_490 : dec code 490 2 492 (.bipush 32) := ⟨by decide +kernel, rfl⟩
theorem dL_law_492 : dec code 492 1 493 (.lshl) := ⟨by decide +kernel, rfl⟩
theorem dL_law_493 : dec code 493 1 494 (.aload_n 0) := ⟨by decide +kernel, rfl⟩
theorem dL_law_494 : dec code 494 1 495 (.iload_n 3) := ⟨by decide +kernel, rfl⟩
theorem dL_law_495 : dec code 495 1 496 (.iconst 2) := ⟨by decide +kernel, rfl⟩
theorem dL_law_496 : dec code 496 1 497 (.iadd) := ⟨by decide +kernel, rfl⟩
theorem dL_law_497 : dec code 497 1 498 (.iaload) := ⟨by decide +kernel, rfl⟩
theorem dL_law_498 : dec code 498 1 499 (.i2l) := ⟨by decide +kernel, rfl⟩
theorem dL_law_499 : dec code 499 3 502 (.ldc2_w 45) := ⟨by decide +kernel, rfl⟩
theorem dL_law_502 : dec code 502 1 503 (.land) := ⟨by decide +kernel, rfl⟩
theorem dL_law_503 : dec code 503 1 504 (.lor) := ⟨by decide +kernel, rfl⟩
theorem dL_law_504 : dec code 504 1 505 (.aload_n 0) := ⟨by decide +kernel, rfl⟩
theorem dL_law_505 : dec code 505 1 506 (.iload_n 3) := ⟨by decide +kernel, rfl⟩
theorem dL_law_506 : dec code 506 1 507 (.iconst 3) := ⟨by decide +kernel, rfl⟩
theorem dL_law_507 : dec code 507 1 508 (.iadd) := ⟨by decide +kernel, rfl⟩
theorem dL_law_508 : dec code 508 1 509 (.iaload) := ⟨by decide +kernel, rfl⟩
theorem dL_law_509 : dec code 509 3 512 (.invokevirtual 47) := ⟨by decide +kernel, rfl⟩
theorem dL_law_512 : dec code 512 1 513 (.aload_n 2) := ⟨by decide +kernel, rfl⟩
theorem dL_law_513 : dec code 513 1 514 (.aload_n 0) := ⟨by decide +kernel, rfl⟩
theorem dL_law_514 : dec code 514 1 515 (.iload_n 3) := ⟨by decide +kernel, rfl⟩
theorem dL_law_515 : dec code 515 1 516 (.iconst 1) := ⟨by decide +kernel, rfl⟩
theorem dL_law_516 : dec code 516 1 517 (.iadd) := ⟨by decide +kernel, rfl⟩
theorem dL_law_517 : dec code 517 1 518 (.iaload) := ⟨by decide +kernel, rfl⟩
theorem dL_law_518 : dec code 518 1 519 (.i2l) := ⟨by decide +kernel, rfl⟩
theorem dL_law_519 : dec code 519 2 521 (.bipush 32) := ⟨by decide +kernel, rfl⟩
theorem dL_law_521 : dec code 521 1 522 (.lshl) := ⟨by decide +kernel, rfl⟩
theorem dL_law_522 : dec code 522 1 523 (.aload_n 0) := ⟨by decide +kernel, rfl⟩
theorem dL_law_523 : dec code 523 1 524 (.iload_n 3) := ⟨by decide +kernel, rfl⟩
theorem dL_law_524 : dec code 524 1 525 (.iconst 2) := ⟨by decide +kernel, rfl⟩
theorem dL_law_525 : dec code 525 1 526 (.iadd) := ⟨by decide +kernel, rfl⟩
theorem dL_law_526 : dec code 526 1 527 (.iaload) := ⟨by decide +kernel, rfl⟩
theorem dL_law_527 : dec code 527 1 528 (.i2l) := ⟨by decide +kernel, rfl⟩
theorem dL_law_528 : dec code 528 3 531 (.ldc2_w 45) := ⟨by decide +kernel, rfl⟩
theorem dL_law_531 : dec code 531 1 532 (.land) := ⟨by decide +kernel, rfl⟩
theorem dL_law_532 : dec code 532 1 533 (.lor) := ⟨by decide +kernel, rfl⟩
theorem dL_law_533 : dec code 533 1 534 (.aload_n 0) := ⟨by decide +kernel, rfl⟩
theorem dL_law_534 : dec code 534 1 535 (.iload_n 3) := ⟨by decide +kernel, rfl⟩
theorem dL_law_535 : dec code 535 1 536 (.iconst 3) := ⟨by decide +kernel, rfl⟩
theorem dL_law_536 : dec code 536 1 537 (.iadd) := ⟨by decide +kernel, rfl⟩
theorem dL_law_537 : dec code 537 1 538 (.iaload) := ⟨by decide +kernel, rfl⟩
theorem dL_law_538 : dec code 538 3 541 (.invokevirtual 51) := ⟨by decide +kernel, rfl⟩
theorem dL_law_541 : dec code 541 3 544 (.if_icmp .eq 994) := ⟨by decide +kernel, rfl⟩
theorem dL_law_544 : dec code 544 1 545 (.iconst 0) := ⟨by decide +kernel, rfl⟩
theorem dL_law_545 : dec code 545 1 546 (.ireturn) := ⟨by decide +kernel, rfl⟩
set_option maxHeartbeats 4000000 in
set_option maxRecDepth 100000 in
theorem tL_c7 {X : Cx} {Y : Yx} {M0 : Mem} (hC : OKX X Y R_law code 4 (some .boolean) room_1) (hF : Y.2.2.2.2 = true) (hL : Lay M0) {b L : Nat} {xs : Nat → Int32} (hX : va_X b L xs X.2.2.2.2.1 X.2.2.2.2.1.heap) (hbl : b < X.2.2.2.2.1.heap.size) (hbA : ¬ frA Y b) {Qm : Option Value → Mem → Prop} {n k : Nat} {a1 a2 : Nat} (q1 : 0 < a1 ∧ M0 0 a1 = kO 11) (q2 : 0 < a2 ∧ M0 0 a2 = kO 12) (C : Mem → Prop) (x3 : Int) (hn : n + 100 ≤ 600000 ∧ k + 10240 ≤ 7302250) (kk : ∀ M : Mem, C M → WW X Y 4 room_1 Qm M0 (n + 100) (k + 10240) 1535 [(0, .ref b), (1, vR Y.1 a1), (2, vR Y.1 a2), (3, vI x3)] [] M) (M : Mem) (h : wL_c7 xs L a1 a2 C x3 M) : WW X Y 4 room_1 Qm M0 n k 483 [(0, .ref b), (1, vR Y.1 a1), (2, vR Y.1 a2), (3, vI x3)] [] M := by
  unfold wL_c7 at h
  refine r_aload_n hC 1 dL_law_483 rfl rfl ?_
  refine r_aloadX hC 0 dL_law_484 rfl rfl ?_
  refine r_iload_n hC 3 dL_law_485 rfl rfl ?_
  refine r_iconst hC dL_law_486 ?_
  refine r_iadd hC dL_law_487 ?_
  obtain ⟨i_1, h⟩ := h
  refine r_sld hC hX hbl hbA i_1 dL_law_488 ?_
  refine r_i2l hC dL_law_489 ?_
  refine r_bipush hC (by decide +kernel) dL_law_490 ?_
  refine r_lshl hC dL_law_492 ?_
  refine r_aloadX hC 0 dL_law_493 rfl rfl ?_
  refine r_iload_n hC 3 dL_law_494 rfl rfl ?_
  refine r_iconst hC dL_law_495 ?_
  refine r_iadd hC dL_law_496 ?_
  obtain ⟨i_2, h⟩ := h
  refine r_sld hC hX hbl hbA i_2 dL_law_497 ?_
  refine r_i2l hC dL_law_498 ?_
  refine r_ldc2 hC kl__law_45 dL_law_499 ?_
  refine r_land hC dL_law_502 ?_
  refine r_lor hC dL_law_503 ?_
  refine r_aloadX hC 0 dL_law_504 rfl rfl ?_
  refine r_iload_n hC 3 dL_law_505 rfl rfl ?_
  refine r_iconst hC dL_law_506 ?_
  refine r_iadd hC dL_law_507 ?_
  obtain ⟨i_3, h⟩ := h
  refine r_sld hC hX hbl hbA i_3 dL_law_508 ?_
  refine r_callV (As := [vL (lOr (lShl (bm (sxv xs (x3 + 1))) 32) (lAnd (bm (sxv xs (x3 + 2))) 4294967295)), vI (sxv xs (x3 + 3))]) (st := []) hC cw_law_47 rfl q1.1 q1.2 rfl rfl (Nat.le_of_ble_eq_true rfl) ⟨Nat.le_of_ble_eq_true rfl, Nat.le_of_ble_eq_true rfl⟩ (by constructor <;> simp only [rmX11_feed, room_1] <;> omega) dL_law_509 (fun hk => mX11_feed Y hF _ _ _ _ _ _ (kqO hk q1) h) (fun v M_4 h => ?_)
  obtain ⟨r_5, rfl, h⟩ := h
  refine r_aload_n hC 2 dL_law_512 rfl rfl ?_
  refine r_aloadX hC 0 dL_law_513 rfl rfl ?_
  refine r_iload_n hC 3 dL_law_514 rfl rfl ?_
  refine r_iconst hC dL_law_515 ?_
  refine r_iadd hC dL_law_516 ?_
  obtain ⟨i_6, h⟩ := h
  refine r_sld hC hX hbl hbA i_6 dL_law_517 ?_
  refine r_i2l hC dL_law_518 ?_
  refine r_bipush hC (by decide +kernel) dL_law_519 ?_
  refine r_lshl hC dL_law_521 ?_
  refine r_aloadX hC 0 dL_law_522 rfl rfl ?_
  refine r_iload_n hC 3 dL_law_523 rfl rfl ?_
  refine r_iconst hC dL_law_524 ?_
  refine r_iadd hC dL_law_525 ?_
  obtain ⟨i_7, h⟩ := h
  refine r_sld hC hX hbl hbA i_7 dL_law_526 ?_
  refine r_i2l hC dL_law_527 ?_
  refine r_ldc2 hC kl__law_45 dL_law_528 ?_
  refine r_land hC dL_law_531 ?_
  refine r_lor hC dL_law_532 ?_
  refine r_aloadX hC 0 dL_law_533 rfl rfl ?_
  refine r_iload_n hC 3 dL_law_534 rfl rfl ?_
  refine r_iconst hC dL_law_535 ?_
  refine r_iadd hC dL_law_536 ?_
  obtain ⟨i_8, h⟩ := h
  refine r_sld hC hX hbl hbA i_8 dL_law_537 ?_
  refine r_callV (As := [vL (lOr (lShl (bm (sxv xs (x3 + 1))) 32) (lAnd (bm (sxv xs (x3 + 2))) 4294967295)), vI (sxv xs (x3 + 3))]) (st := [vI r_5]) hC cw_law_51 rfl q2.1 q2.2 rfl rfl (Nat.le_of_ble_eq_true rfl) ⟨Nat.le_of_ble_eq_true rfl, Nat.le_of_ble_eq_true rfl⟩ (by constructor <;> simp only [rmX11_feed, rmX12_feed, room_1] <;> omega) dL_law_538 (fun hk => mX12_feed Y hF _ _ _ _ _ _ (kqO hk q2) h) (fun v M_9 h => ?_)
  obtain ⟨r_10, rfl, h⟩ := h
  refine r_icmp_eq hC 1535 rfl rfl dL_law_541 (by decide) (fun cq => ?_) (fun cq => ?_)
  · replace h := h.1 cq
    exact r_widen (n' := n + 100) (k' := k + 10240) (by simp only [rmX11_feed, rmX12_feed]; omega) (by simp only [rmX11_feed, rmX12_feed]; omega) (kk _ h)
  · replace h := h.2 cq
    refine r_iconst hC dL_law_544 ?_
    exact h.elim
theorem dL_law_546 : dec code 546 1 547 (.aload_n 1) := ⟨by decide +kernel, rfl⟩
theorem dL_law_547 : dec code 547 1 548 (.aload_n 0) := ⟨by decide +kernel, rfl⟩
theorem dL_law_548 : dec code 548 1 549 (.iload_n 3) := ⟨by decide +kernel, rfl⟩
theorem dL_law_549 : dec code 549 1 550 (.iconst 1) := ⟨by decide +kernel, rfl⟩
theorem dL_law_550 : dec code 550 1 551 (.iadd) := ⟨by decide +kernel, rfl⟩
theorem dL_law_551 : dec code 551 1 552 (.iaload) := ⟨by decide +kernel, rfl⟩
theorem dL_law_552 : dec code 552 3 555 (.invokevirtual 52) := ⟨by decide +kernel, rfl⟩
theorem dL_law_555 : dec code 555 1 556 (.aload_n 2) := ⟨by decide +kernel, rfl⟩
theorem dL_law_556 : dec code 556 1 557 (.aload_n 0) := ⟨by decide +kernel, rfl⟩
theorem dL_law_557 : dec code 557 1 558 (.iload_n 3) := ⟨by decide +kernel, rfl⟩
theorem dL_law_558 : dec code 558 1 559 (.iconst 1) := ⟨by decide +kernel, rfl⟩
theorem dL_law_559 : dec code 559 1 560 (.iadd) := ⟨by decide +kernel, rfl⟩
theorem dL_law_560 : dec code 560 1 561 (.iaload) := ⟨by decide +kernel, rfl⟩
theorem dL_law_561 : dec code 561 3 564 (.invokevirtual 56) := ⟨by decide +kernel, rfl⟩
theorem dL_law_564 : dec code 564 3 567 (.if_icmp .eq 971) := ⟨by decide +kernel, rfl⟩
theorem dL_law_567 : dec code 567 1 568 (.iconst 0) := ⟨by decide +kernel, rfl⟩
theorem dL_law_568 : dec code 568 1 569 (.ireturn) := ⟨by decide +kernel, rfl⟩
set_option maxHeartbeats 4000000 in
set_option maxRecDepth 100000 in
theorem tL_c8 {X : Cx} {Y : Yx} {M0 : Mem} (hC : OKX X Y R_law code 4 (some .boolean) room_1) (hF : Y.2.2.2.2 = true) (hL : Lay M0) {b L : Nat} {xs : Nat → Int32} (hX : va_X b L xs X.2.2.2.2.1 X.2.2.2.2.1.heap) (hbl : b < X.2.2.2.2.1.heap.size) (hbA : ¬ frA Y b) {Qm : Option Value → Mem → Prop} {n k : Nat} {a1 a2 : Nat} (q1 : 0 < a1 ∧ M0 0 a1 = kO 11) (q2 : 0 < a2 ∧ M0 0 a2 = kO 12) (C : Mem → Prop) (x3 : Int) (hn : n + 100 ≤ 600000 ∧ k + 10240 ≤ 7302250) (kk : ∀ M : Mem, C M → WW X Y 4 room_1 Qm M0 (n + 100) (k + 10240) 1535 [(0, .ref b), (1, vR Y.1 a1), (2, vR Y.1 a2), (3, vI x3)] [] M) (M : Mem) (h : wL_c8 xs L a1 a2 C x3 M) : WW X Y 4 room_1 Qm M0 n k 546 [(0, .ref b), (1, vR Y.1 a1), (2, vR Y.1 a2), (3, vI x3)] [] M := by
  unfold wL_c8 at h
  refine r_aload_n hC 1 dL_law_546 rfl rfl ?_
  refine r_aloadX hC 0 dL_law_547 rfl rfl ?_
  refine r_iload_n hC 3 dL_law_548 rfl rfl ?_
  refine r_iconst hC dL_law_549 ?_
  refine r_iadd hC dL_law_550 ?_
  obtain ⟨i_1, h⟩ := h
  refine r_sld hC hX hbl hbA i_1 dL_law_551 ?_
  refine r_callV (As := [vI (sxv xs (x3 + 1))]) (st := []) hC cw_law_52 rfl q1.1 q1.2 rfl rfl (Nat.le_of_ble_eq_true rfl) ⟨Nat.le_of_ble_eq_true rfl, Nat.le_of_ble_eq_true rfl⟩ (by constructor <;> simp only [rmX11_text, room_1] <;> omega) dL_law_552 (fun hk => mX11_text Y hF _ _ _ _ _ (kqO hk q1) h) (fun v M_2 h => ?_)
  obtain ⟨r_3, rfl, h⟩ := h
  refine r_aload_n hC 2 dL_law_555 rfl rfl ?_
  refine r_aloadX hC 0 dL_law_556 rfl rfl ?_
  refine r_iload_n hC 3 dL_law_557 rfl rfl ?_
  refine r_iconst hC dL_law_558 ?_
  refine r_iadd hC dL_law_559 ?_
  obtain ⟨i_4, h⟩ := h
  refine r_sld hC hX hbl hbA i_4 dL_law_560 ?_
  refine r_callV (As := [vI (sxv xs (x3 + 1))]) (st := [vI r_3]) hC cw_law_56 rfl q2.1 q2.2 rfl rfl (Nat.le_of_ble_eq_true rfl) ⟨Nat.le_of_ble_eq_true rfl, Nat.le_of_ble_eq_true rfl⟩ (by constructor <;> simp only [rmX11_text, rmX12_text, room_1] <;> omega) dL_law_561 (fun hk => mX12_text Y hF _ _ _ _ _ (kqO hk q2) h) (fun v M_5 h => ?_)
  obtain ⟨r_6, rfl, h⟩ := h
  refine r_icmp_eq hC 1535 rfl rfl dL_law_564 (by decide) (fun cq => ?_) (fun cq => ?_)
  · replace h := h.1 cq
    exact r_widen (n' := n + 100) (k' := k + 10240) (by simp only [rmX11_text, rmX12_text]; omega) (by simp only [rmX11_text, rmX12_text]; omega) (kk _ h)
  · replace h := h.2 cq
    refine r_iconst hC dL_law_567 ?_
    exact h.elim
theorem dL_law_569 : dec code 569 1 570 (.aload_n 1) := ⟨by decide +kernel, rfl⟩
theorem dL_law_570 : dec code 570 1 571 (.aload_n 0) := ⟨by decide +kernel, rfl⟩
theorem dL_law_571 : dec code 571 1 572 (.iload_n 3) := ⟨by decide +kernel, rfl⟩
theorem dL_law_572 : dec code 572 1 573 (.iconst 1) := ⟨by decide +kernel, rfl⟩
theorem dL_law_573 : dec code 573 1 574 (.iadd) := ⟨by decide +kernel, rfl⟩
theorem dL_law_574 : dec code 574 1 575 (.iaload) := ⟨by decide +kernel, rfl⟩
theorem dL_law_575 : dec code 575 1 576 (.aload_n 0) := ⟨by decide +kernel, rfl⟩
theorem dL_law_576 : dec code 576 1 577 (.iload_n 3) := ⟨by decide +kernel, rfl⟩
theorem dL_law_577 : dec code 577 1 578 (.iconst 2) := ⟨by decide +kernel, rfl⟩
theorem dL_law_578 : dec code 578 1 579 (.iadd) := ⟨by decide +kernel, rfl⟩
theorem dL_law_579 : dec code 579 1 580 (.iaload) := ⟨by decide +kernel, rfl⟩
theorem dL_law_580 : dec code 580 1 581 (.aload_n 0) := ⟨by decide +kernel, rfl⟩
theorem dL_law_581 : dec code 581 1 582 (.iload_n 3) := ⟨by decide +kernel, rfl⟩
theorem dL_law_582 : dec code 582 1 583 (.iconst 3) := ⟨by decide +kernel, rfl⟩
theorem dL_law_583 : dec code 583 1 584 (.iadd) := ⟨by decide +kernel, rfl⟩
theorem dL_law_584 : dec code 584 1 585 (.iaload) := ⟨by decide +kernel, rfl⟩
theorem dL_law_585 : dec code 585 3 588 (.invokevirtual 57) := ⟨by decide +kernel, rfl⟩
theorem dL_law_588 : dec code 588 1 589 (.aload_n 2) := ⟨by decide +kernel, rfl⟩
theorem dL_law_589 : dec code 589 1 590 (.aload_n 0) := ⟨by decide +kernel, rfl⟩
theorem dL_law_590 : dec code 590 1 591 (.iload_n 3) := ⟨by decide +kernel, rfl⟩
theorem dL_law_591 : dec code 591 1 592 (.iconst 1) := ⟨by decide +kernel, rfl⟩
theorem dL_law_592 : dec code 592 1 593 (.iadd) := ⟨by decide +kernel, rfl⟩
theorem dL_law_593 : dec code 593 1 594 (.iaload) := ⟨by decide +kernel, rfl⟩
theorem dL_law_594 : dec code 594 1 595 (.aload_n 0) := ⟨by decide +kernel, rfl⟩
theorem dL_law_595 : dec code 595 1 596 (.iload_n 3) := ⟨by decide +kernel, rfl⟩
theorem dL_law_596 : dec code 596 1 597 (.iconst 2) := ⟨by decide +kernel, rfl⟩
theorem dL_law_597 : dec code 597 1 598 (.iadd) := ⟨by decide +kernel, rfl⟩
theorem dL_law_598 : dec code 598 1 599 (.iaload) := ⟨by decide +kernel, rfl⟩
theorem dL_law_599 : dec code 599 1 600 (.aload_n 0) := ⟨by decide +kernel, rfl⟩
theorem dL_law_600 : dec code 600 1 601 (.iload_n 3) := ⟨by decide +kernel, rfl⟩
theorem dL_law_601 : dec code 601 1 602 (.iconst 3) := ⟨by decide +kernel, rfl⟩
theorem dL_law_602 : dec code 602 1 603 (.iadd) := ⟨by decide +kernel, rfl⟩
theorem dL_law_603 : dec code 603 1 604 (.iaload) := ⟨by decide +kernel, rfl⟩
theorem dL_law_604 : dec code 604 3 607 (.invokevirtual 61) := ⟨by decide +kernel, rfl⟩
theorem dL_law_607 : dec code 607 1 608 (.lcmp) := ⟨by decide +kernel, rfl⟩
theorem dL_law_608 : dec code 608 3 611 (.ifCond .eq 927) := ⟨by decide +kernel, rfl⟩
theorem dL_law_611 : dec code 611 1 612 (.iconst 0) := ⟨by decide +kernel, rfl⟩
theorem dL_law_612 : dec code 612 1 613 (.ireturn) := ⟨by decide +kernel, rfl⟩
set_option maxHeartbeats 4000000 in
set_option maxRecDepth 100000 in
theorem tL_c9 {X : Cx} {Y : Yx} {M0 : Mem} (hC : OKX X Y R_law code 4 (some .boolean) room_1) (hF : Y.2.2.2.2 = true) (hL : Lay M0) {b L : Nat} {xs : Nat → Int32} (hX : va_X b L xs X.2.2.2.2.1 X.2.2.2.2.1.heap) (hbl : b < X.2.2.2.2.1.heap.size) (hbA : ¬ frA Y b) {Qm : Option Value → Mem → Prop} {n k : Nat} {a1 a2 : Nat} (q1 : 0 < a1 ∧ M0 0 a1 = kO 11) (q2 : 0 < a2 ∧ M0 0 a2 = kO 12) (C : Mem → Prop) (x3 : Int) (hn : n + 100 ≤ 600000 ∧ k + 10240 ≤ 7302250) (kk : ∀ M : Mem, C M → WW X Y 4 room_1 Qm M0 (n + 100) (k + 10240) 1535 [(0, .ref b), (1, vR Y.1 a1), (2, vR Y.1 a2), (3, vI x3)] [] M) (M : Mem) (h : wL_c9 xs L a1 a2 C x3 M) : WW X Y 4 room_1 Qm M0 n k 569 [(0, .ref b), (1, vR Y.1 a1), (2, vR Y.1 a2), (3, vI x3)] [] M := by
  unfold wL_c9 at h
  refine r_aload_n hC 1 dL_law_569 rfl rfl ?_
  refine r_aloadX hC 0 dL_law_570 rfl rfl ?_
  refine r_iload_n hC 3 dL_law_571 rfl rfl ?_
  refine r_iconst hC dL_law_572 ?_
  refine r_iadd hC dL_law_573 ?_
  obtain ⟨i_1, h⟩ := h
  refine r_sld hC hX hbl hbA i_1 dL_law_574 ?_
  refine r_aloadX hC 0 dL_law_575 rfl rfl ?_
  refine r_iload_n hC 3 dL_law_576 rfl rfl ?_
  refine r_iconst hC dL_law_577 ?_
  refine r_iadd hC dL_law_578 ?_
  obtain ⟨i_2, h⟩ := h
  refine r_sld hC hX hbl hbA i_2 dL_law_579 ?_
  refine r_aloadX hC 0 dL_law_580 rfl rfl ?_
  refine r_iload_n hC 3 dL_law_581 rfl rfl ?_
  refine r_iconst hC dL_law_582 ?_
  refine r_iadd hC dL_law_583 ?_
  obtain ⟨i_3, h⟩ := h
  refine r_sld hC hX hbl hbA i_3 dL_law_584 ?_
  refine r_callV (As := [vI (sxv xs (x3 + 1)), vI (sxv xs (x3 + 2)), vI (sxv xs (x3 + 3))]) (st := []) hC cw_law_57 rfl q1.1 q1.2 rfl rfl (Nat.le_of_ble_eq_true rfl) ⟨Nat.le_of_ble_eq_true rfl, Nat.le_of_ble_eq_true rfl⟩ (by constructor <;> simp only [rmX11_worth, room_1] <;> omega) dL_law_585 (fun hk => mX11_worth Y hF _ _ _ _ _ _ _ (kqO hk q1) h) (fun v M_4 h => ?_)
  obtain ⟨r_5, rfl, h⟩ := h
  refine r_aload_n hC 2 dL_law_588 rfl rfl ?_
  refine r_aloadX hC 0 dL_law_589 rfl rfl ?_
  refine r_iload_n hC 3 dL_law_590 rfl rfl ?_
  refine r_iconst hC dL_law_591 ?_
  refine r_iadd hC dL_law_592 ?_
  obtain ⟨i_6, h⟩ := h
  refine r_sld hC hX hbl hbA i_6 dL_law_593 ?_
  refine r_aloadX hC 0 dL_law_594 rfl rfl ?_
  refine r_iload_n hC 3 dL_law_595 rfl rfl ?_
  refine r_iconst hC dL_law_596 ?_
  refine r_iadd hC dL_law_597 ?_
  obtain ⟨i_7, h⟩ := h
  refine r_sld hC hX hbl hbA i_7 dL_law_598 ?_
  refine r_aloadX hC 0 dL_law_599 rfl rfl ?_
  refine r_iload_n hC 3 dL_law_600 rfl rfl ?_
  refine r_iconst hC dL_law_601 ?_
  refine r_iadd hC dL_law_602 ?_
  obtain ⟨i_8, h⟩ := h
  refine r_sld hC hX hbl hbA i_8 dL_law_603 ?_
  refine r_callV (As := [vI (sxv xs (x3 + 1)), vI (sxv xs (x3 + 2)), vI (sxv xs (x3 + 3))]) (st := [vL r_5]) hC cw_law_61 rfl q2.1 q2.2 rfl rfl (Nat.le_of_ble_eq_true rfl) ⟨Nat.le_of_ble_eq_true rfl, Nat.le_of_ble_eq_true rfl⟩ (by constructor <;> simp only [rmX11_worth, rmX12_worth, room_1] <;> omega) dL_law_604 (fun hk => mX12_worth Y hF _ _ _ _ _ _ _ (kqO hk q2) h) (fun v M_9 h => ?_)
  obtain ⟨r_10, rfl, h⟩ := h
  refine r_lcmp hC dL_law_607 ?_
  refine r_if_eq hC 1535 rfl dL_law_608 (by decide) (fun cq => ?_) (fun cq => ?_)
  · replace h := h.1 cq
    exact r_widen (n' := n + 100) (k' := k + 10240) (by simp only [rmX11_worth, rmX12_worth]; omega) (by simp only [rmX11_worth, rmX12_worth]; omega) (kk _ h)
  · replace h := h.2 cq
    refine r_iconst hC dL_law_611 ?_
    exact h.elim
