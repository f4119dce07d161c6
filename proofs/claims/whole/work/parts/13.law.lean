set_option maxRecDepth 100000 in
set_option maxHeartbeats 4000000 in
theorem tL_law_L18 {sp : Nat × (Nat → Int32)} {K : aH → Option (Bool × aH)} (hK : ∀ (hk : aH) (r : Bool) (h2 : aH), K hk = some (r, h2) → Rn sp mL_law 1127 [.null, .null, .null, .null] [] hk (some (.int (bi r))) h2) : ∀ (n : Nat) (h : aH) (x3 : Int32) (r : Bool) (h2 : aH), fL_law_L18 sp K n h x3 = some (r, h2) → Rn sp mL_law 18 [.ref 73, .ref 0, .ref 54, .int x3] [] h (some (.int (bi r))) h2 := by
  intro n
  induction n with
  | zero =>
    intro h x3 r h2 H
    rw [fL_law_L18] at H
    cases H
  | succ n ih =>
    intro h x3 r h2 H
    rw [fL_law_L18] at H
    refine R_iload_n dL_law_18 rfl rfl ?_
    refine R_aload_n dL_law_19 rfl rfl ?_
    refine R_slen dL_law_20 rfl ?_
    refine R_iconst dL_law_21 (v := 5) (by decide) ?_
    refine R_isub dL_law_22 ?_
    rcases it_split H with ⟨c1, H⟩ | ⟨c1, H⟩
    · refine R_icmp_gt_t dL_law_23 (tgt := 1127) (by decide) c1 ?_
      refine R_null (i := 0) (ls2 := [.null, .ref 0, .ref 54, .int x3]) rfl ?_
      refine R_null (i := 1) (ls2 := [.null, .null, .ref 54, .int x3]) rfl ?_
      refine R_null (i := 2) (ls2 := [.null, .null, .null, .int x3]) rfl ?_
      refine R_null (i := 3) (ls2 := [.null, .null, .null, .null]) rfl ?_
      exact hK _ _ _ H
    · refine R_icmp_gt_f dL_law_23 (tgt := 1127) (by decide) c1 ?_
      refine R_aload_n dL_law_26 rfl rfl ?_
      refine R_iload_n dL_law_27 rfl rfl ?_
      obtain ⟨c2, H⟩ := it_some H
      refine R_sld dL_law_28 rfl (ck_in c2) ?_
      refine R_bipush dL_law_29 (v := 31) (by decide) ?_
      refine R_iand dL_law_31 ?_
      rcases it_split H with ⟨c3, H⟩ | ⟨c3, H⟩
      · refine R_tableIn dL_law_32 (by rw [c3]; decide) (by rw [c3]; decide) (off := 140) (by rw [c3]; decide) (tgt := 172) (by decide) ?_
        refine R_aload_n dL_law_172 rfl rfl ?_
        refine R_aload_n dL_law_173 rfl rfl ?_
        refine R_iload_n dL_law_174 rfl rfl ?_
        refine R_iconst dL_law_175 (v := 1) (by decide) ?_
        refine R_iadd dL_law_176 ?_
        obtain ⟨c4, H⟩ := it_some H
        refine R_sld dL_law_177 rfl (ck_in c4) ?_
        obtain ⟨r7, h6, e5, H⟩ := bn2_some H
        refine R_cV dL_law_178 lvL_13 ⟨Nat.le_of_ble_eq_true rfl, Nat.le_of_ble_eq_true rfl⟩ (r := 0) rfl (av := [.int (sp.2 (tn (x3 + 1)))]) (st := []) rfl rfl (Nat.le_of_ble_eq_true rfl) (tX7_feed e5) ?_
        refine R_aload_n dL_law_181 rfl rfl ?_
        refine R_aload_n dL_law_182 rfl rfl ?_
        refine R_iload_n dL_law_183 rfl rfl ?_
        refine R_iconst dL_law_184 (v := 1) (by decide) ?_
        refine R_iadd dL_law_185 ?_
        refine R_sld dL_law_186 rfl (ck_in c4) ?_
        obtain ⟨r10, h9, e8, H⟩ := bn2_some H
        refine R_cV dL_law_187 lvL_17 ⟨Nat.le_of_ble_eq_true rfl, Nat.le_of_ble_eq_true rfl⟩ (r := 54) rfl (av := [.int (sp.2 (tn (x3 + 1)))]) (st := [.int r7]) rfl rfl (Nat.le_of_ble_eq_true rfl) (tX8_feed e8) ?_
        rcases it_split H with ⟨c11, H⟩ | ⟨c11, H⟩
        · refine R_icmp_eq_t dL_law_190 (tgt := 1121) (by decide) c11 ?_
          refine R_iincW dL_law_1121 rfl (v := x3 + 5) rfl (by decide) rfl (ls2 := [.ref 73, .ref 0, .ref 54, .int (x3 + 5)]) rfl ?_
          refine R_goto dL_law_1124 (tgt := 18) (by decide) ?_
          exact ih _ _ _ _ H
        · refine R_icmp_eq_f dL_law_190 (tgt := 1121) (by decide) c11 ?_
          refine R_iconst dL_law_193 (v := 0) (by decide) ?_
          obtain ⟨rfl, rfl⟩ := so2 H
          exact R_retI dL_law_194 rfl (Or.inr ⟨rfl, bi_01 _⟩)
      · rcases it_split H with ⟨c12, H⟩ | ⟨c12, H⟩
        · refine R_tableIn dL_law_32 (by rw [c12]; decide) (by rw [c12]; decide) (off := 163) (by rw [c12]; decide) (tgt := 195) (by decide) ?_
          refine R_aload_n dL_law_195 rfl rfl ?_
          obtain ⟨r15, h14, e13, H⟩ := bn2_some H
          refine R_cV dL_law_196 lvL_18 ⟨Nat.le_of_ble_eq_true rfl, Nat.le_of_ble_eq_true rfl⟩ (r := 0) rfl (av := []) (st := []) rfl rfl (Nat.le_of_ble_eq_true rfl) (tX7_valley e13) ?_
          refine R_aload_n dL_law_199 rfl rfl ?_
          obtain ⟨r18, h17, e16, H⟩ := bn2_some H
          refine R_cV dL_law_200 lvL_22 ⟨Nat.le_of_ble_eq_true rfl, Nat.le_of_ble_eq_true rfl⟩ (r := 54) rfl (av := []) (st := [.int r15]) rfl rfl (Nat.le_of_ble_eq_true rfl) (tX8_valley e16) ?_
          rcases it_split H with ⟨c19, H⟩ | ⟨c19, H⟩
          · refine R_icmp_eq_t dL_law_203 (tgt := 1121) (by decide) c19 ?_
            refine R_iincW dL_law_1121 rfl (v := x3 + 5) rfl (by decide) rfl (ls2 := [.ref 73, .ref 0, .ref 54, .int (x3 + 5)]) rfl ?_
            refine R_goto dL_law_1124 (tgt := 18) (by decide) ?_
            exact ih _ _ _ _ H
          · refine R_icmp_eq_f dL_law_203 (tgt := 1121) (by decide) c19 ?_
            refine R_iconst dL_law_206 (v := 0) (by decide) ?_
            obtain ⟨rfl, rfl⟩ := so2 H
            exact R_retI dL_law_207 rfl (Or.inr ⟨rfl, bi_01 _⟩)
        · rcases it_split H with ⟨c20, H⟩ | ⟨c20, H⟩
          · refine R_tableIn dL_law_32 (by rw [c20]; decide) (by rw [c20]; decide) (off := 176) (by rw [c20]; decide) (tgt := 208) (by decide) ?_
            refine R_aload_n dL_law_208 rfl rfl ?_
            obtain ⟨r22, e21, H⟩ := bn_some H
            refine R_cV dL_law_209 lvL_23 ⟨Nat.le_of_ble_eq_true rfl, Nat.le_of_ble_eq_true rfl⟩ (r := 0) rfl (av := []) (st := []) rfl rfl (Nat.le_of_ble_eq_true rfl) (tX7_fault e21) ?_
            refine R_aload_n dL_law_212 rfl rfl ?_
            obtain ⟨r24, e23, H⟩ := bn_some H
            refine R_cV dL_law_213 lvL_26 ⟨Nat.le_of_ble_eq_true rfl, Nat.le_of_ble_eq_true rfl⟩ (r := 54) rfl (av := []) (st := [.int r22]) rfl rfl (Nat.le_of_ble_eq_true rfl) (tX8_fault e23) ?_
            rcases it_split H with ⟨c25, H⟩ | ⟨c25, H⟩
            · refine R_icmp_eq_t dL_law_216 (tgt := 1121) (by decide) c25 ?_
              refine R_iincW dL_law_1121 rfl (v := x3 + 5) rfl (by decide) rfl (ls2 := [.ref 73, .ref 0, .ref 54, .int (x3 + 5)]) rfl ?_
              refine R_goto dL_law_1124 (tgt := 18) (by decide) ?_
              exact ih _ _ _ _ H
            · refine R_icmp_eq_f dL_law_216 (tgt := 1121) (by decide) c25 ?_
              refine R_iconst dL_law_219 (v := 0) (by decide) ?_
              obtain ⟨rfl, rfl⟩ := so2 H
              exact R_retI dL_law_220 rfl (Or.inr ⟨rfl, bi_01 _⟩)
          · rcases it_split H with ⟨c26, H⟩ | ⟨c26, H⟩
            · refine R_tableIn dL_law_32 (by rw [c26]; decide) (by rw [c26]; decide) (off := 189) (by rw [c26]; decide) (tgt := 221) (by decide) ?_
              refine R_aload_n dL_law_221 rfl rfl ?_
              refine R_aload_n dL_law_222 rfl rfl ?_
              refine R_iload_n dL_law_223 rfl rfl ?_
              refine R_iconst dL_law_224 (v := 1) (by decide) ?_
              refine R_iadd dL_law_225 ?_
              obtain ⟨c27, H⟩ := it_some H
              refine R_sld dL_law_226 rfl (ck_in c27) ?_
              obtain ⟨r29, e28, H⟩ := bn_some H
              refine R_cV dL_law_227 lvL_27 ⟨Nat.le_of_ble_eq_true rfl, Nat.le_of_ble_eq_true rfl⟩ (r := 0) rfl (av := [.int (sp.2 (tn (x3 + 1)))]) (st := []) rfl rfl (Nat.le_of_ble_eq_true rfl) (tX7_told e28) ?_
              refine R_aload_n dL_law_230 rfl rfl ?_
              refine R_aload_n dL_law_231 rfl rfl ?_
              refine R_iload_n dL_law_232 rfl rfl ?_
              refine R_iconst dL_law_233 (v := 1) (by decide) ?_
              refine R_iadd dL_law_234 ?_
              refine R_sld dL_law_235 rfl (ck_in c27) ?_
              obtain ⟨r31, e30, H⟩ := bn_some H
              refine R_cV dL_law_236 lvL_30 ⟨Nat.le_of_ble_eq_true rfl, Nat.le_of_ble_eq_true rfl⟩ (r := 54) rfl (av := [.int (sp.2 (tn (x3 + 1)))]) (st := [.int r29]) rfl rfl (Nat.le_of_ble_eq_true rfl) (tX8_told e30) ?_
              rcases it_split H with ⟨c32, H⟩ | ⟨c32, H⟩
              · refine R_icmp_eq_t dL_law_239 (tgt := 1121) (by decide) c32 ?_
                refine R_iincW dL_law_1121 rfl (v := x3 + 5) rfl (by decide) rfl (ls2 := [.ref 73, .ref 0, .ref 54, .int (x3 + 5)]) rfl ?_
                refine R_goto dL_law_1124 (tgt := 18) (by decide) ?_
                exact ih _ _ _ _ H
              · refine R_icmp_eq_f dL_law_239 (tgt := 1121) (by decide) c32 ?_
                refine R_iconst dL_law_242 (v := 0) (by decide) ?_
                obtain ⟨rfl, rfl⟩ := so2 H
                exact R_retI dL_law_243 rfl (Or.inr ⟨rfl, bi_01 _⟩)
            · rcases it_split H with ⟨c33, H⟩ | ⟨c33, H⟩
              · refine R_tableIn dL_law_32 (by rw [c33]; decide) (by rw [c33]; decide) (off := 212) (by rw [c33]; decide) (tgt := 244) (by decide) ?_
                refine R_aload_n dL_law_244 rfl rfl ?_
                refine R_aload_n dL_law_245 rfl rfl ?_
                refine R_iload_n dL_law_246 rfl rfl ?_
                refine R_iconst dL_law_247 (v := 1) (by decide) ?_
                refine R_iadd dL_law_248 ?_
                obtain ⟨c34, H⟩ := it_some H
                refine R_sld dL_law_249 rfl (ck_in c34) ?_
                refine R_aload_n dL_law_250 rfl rfl ?_
                refine R_iload_n dL_law_251 rfl rfl ?_
                refine R_iconst dL_law_252 (v := 2) (by decide) ?_
                refine R_iadd dL_law_253 ?_
                obtain ⟨c35, H⟩ := it_some H
                refine R_sld dL_law_254 rfl (ck_in c35) ?_
                obtain ⟨r37, e36, H⟩ := bn_some H
                refine R_cV dL_law_255 lvL_31 ⟨Nat.le_of_ble_eq_true rfl, Nat.le_of_ble_eq_true rfl⟩ (r := 0) rfl (av := [.int (sp.2 (tn (x3 + 1))), .int (sp.2 (tn (x3 + 2)))]) (st := []) rfl rfl (Nat.le_of_ble_eq_true rfl) (tX7_weather e36) ?_
                refine R_aload_n dL_law_258 rfl rfl ?_
                refine R_aload_n dL_law_259 rfl rfl ?_
                refine R_iload_n dL_law_260 rfl rfl ?_
                refine R_iconst dL_law_261 (v := 1) (by decide) ?_
                refine R_iadd dL_law_262 ?_
                refine R_sld dL_law_263 rfl (ck_in c34) ?_
                refine R_aload_n dL_law_264 rfl rfl ?_
                refine R_iload_n dL_law_265 rfl rfl ?_
                refine R_iconst dL_law_266 (v := 2) (by decide) ?_
                refine R_iadd dL_law_267 ?_
                refine R_sld dL_law_268 rfl (ck_in c35) ?_
                obtain ⟨r39, e38, H⟩ := bn_some H
                refine R_cV dL_law_269 lvL_35 ⟨Nat.le_of_ble_eq_true rfl, Nat.le_of_ble_eq_true rfl⟩ (r := 54) rfl (av := [.int (sp.2 (tn (x3 + 1))), .int (sp.2 (tn (x3 + 2)))]) (st := [.int r37]) rfl rfl (Nat.le_of_ble_eq_true rfl) (tX8_weather e38) ?_
                rcases it_split H with ⟨c40, H⟩ | ⟨c40, H⟩
                · refine R_icmp_eq_t dL_law_272 (tgt := 1121) (by decide) c40 ?_
                  refine R_iincW dL_law_1121 rfl (v := x3 + 5) rfl (by decide) rfl (ls2 := [.ref 73, .ref 0, .ref 54, .int (x3 + 5)]) rfl ?_
                  refine R_goto dL_law_1124 (tgt := 18) (by decide) ?_
                  exact ih _ _ _ _ H
                · refine R_icmp_eq_f dL_law_272 (tgt := 1121) (by decide) c40 ?_
                  refine R_iconst dL_law_275 (v := 0) (by decide) ?_
                  obtain ⟨rfl, rfl⟩ := so2 H
                  exact R_retI dL_law_276 rfl (Or.inr ⟨rfl, bi_01 _⟩)
              · rcases it_split H with ⟨c41, H⟩ | ⟨c41, H⟩
                · refine R_tableIn dL_law_32 (by rw [c41]; decide) (by rw [c41]; decide) (off := 245) (by rw [c41]; decide) (tgt := 277) (by decide) ?_
                  refine R_aload_n dL_law_277 rfl rfl ?_
                  refine R_aload_n dL_law_278 rfl rfl ?_
                  refine R_iload_n dL_law_279 rfl rfl ?_
                  refine R_iconst dL_law_280 (v := 1) (by decide) ?_
                  refine R_iadd dL_law_281 ?_
                  obtain ⟨c42, H⟩ := it_some H
                  refine R_sld dL_law_282 rfl (ck_in c42) ?_
                  refine R_aload_n dL_law_283 rfl rfl ?_
                  refine R_iload_n dL_law_284 rfl rfl ?_
                  refine R_iconst dL_law_285 (v := 2) (by decide) ?_
                  refine R_iadd dL_law_286 ?_
                  obtain ⟨c43, H⟩ := it_some H
                  refine R_sld dL_law_287 rfl (ck_in c43) ?_
                  obtain ⟨r45, e44, H⟩ := bn_some H
                  refine R_cV dL_law_288 lvL_36 ⟨Nat.le_of_ble_eq_true rfl, Nat.le_of_ble_eq_true rfl⟩ (r := 0) rfl (av := [.int (sp.2 (tn (x3 + 1))), .int (sp.2 (tn (x3 + 2)))]) (st := []) rfl rfl (Nat.le_of_ble_eq_true rfl) (tX7_hand e44) ?_
                  refine R_aload_n dL_law_291 rfl rfl ?_
                  refine R_aload_n dL_law_292 rfl rfl ?_
                  refine R_iload_n dL_law_293 rfl rfl ?_
                  refine R_iconst dL_law_294 (v := 1) (by decide) ?_
                  refine R_iadd dL_law_295 ?_
                  refine R_sld dL_law_296 rfl (ck_in c42) ?_
                  refine R_aload_n dL_law_297 rfl rfl ?_
                  refine R_iload_n dL_law_298 rfl rfl ?_
                  refine R_iconst dL_law_299 (v := 2) (by decide) ?_
                  refine R_iadd dL_law_300 ?_
                  refine R_sld dL_law_301 rfl (ck_in c43) ?_
                  obtain ⟨r47, e46, H⟩ := bn_some H
                  refine R_cV dL_law_302 lvL_39 ⟨Nat.le_of_ble_eq_true rfl, Nat.le_of_ble_eq_true rfl⟩ (r := 54) rfl (av := [.int (sp.2 (tn (x3 + 1))), .int (sp.2 (tn (x3 + 2)))]) (st := [.int r45]) rfl rfl (Nat.le_of_ble_eq_true rfl) (tX8_hand e46) ?_
                  rcases it_split H with ⟨c48, H⟩ | ⟨c48, H⟩
                  · refine R_icmp_eq_t dL_law_305 (tgt := 1121) (by decide) c48 ?_
                    refine R_iincW dL_law_1121 rfl (v := x3 + 5) rfl (by decide) rfl (ls2 := [.ref 73, .ref 0, .ref 54, .int (x3 + 5)]) rfl ?_
                    refine R_goto dL_law_1124 (tgt := 18) (by decide) ?_
                    exact ih _ _ _ _ H
                  · refine R_icmp_eq_f dL_law_305 (tgt := 1121) (by decide) c48 ?_
                    refine R_iconst dL_law_308 (v := 0) (by decide) ?_
                    obtain ⟨rfl, rfl⟩ := so2 H
                    exact R_retI dL_law_309 rfl (Or.inr ⟨rfl, bi_01 _⟩)
                · rcases it_split H with ⟨c49, H⟩ | ⟨c49, H⟩
                  · refine R_tableIn dL_law_32 (by rw [c49]; decide) (by rw [c49]; decide) (off := 278) (by rw [c49]; decide) (tgt := 310) (by decide) ?_
                    refine R_aload_n dL_law_310 rfl rfl ?_
                    refine R_aload_n dL_law_311 rfl rfl ?_
                    refine R_iload_n dL_law_312 rfl rfl ?_
                    refine R_iconst dL_law_313 (v := 1) (by decide) ?_
                    refine R_iadd dL_law_314 ?_
                    obtain ⟨c50, H⟩ := it_some H
                    refine R_sld dL_law_315 rfl (ck_in c50) ?_
                    refine R_aload_n dL_law_316 rfl rfl ?_
                    refine R_iload_n dL_law_317 rfl rfl ?_
                    refine R_iconst dL_law_318 (v := 2) (by decide) ?_
                    refine R_iadd dL_law_319 ?_
                    obtain ⟨c51, H⟩ := it_some H
                    refine R_sld dL_law_320 rfl (ck_in c51) ?_
                    refine R_aload_n dL_law_321 rfl rfl ?_
                    refine R_iload_n dL_law_322 rfl rfl ?_
                    refine R_iconst dL_law_323 (v := 3) (by decide) ?_
                    refine R_iadd dL_law_324 ?_
                    obtain ⟨c52, H⟩ := it_some H
                    refine R_sld dL_law_325 rfl (ck_in c52) ?_
                    obtain ⟨r54, e53, H⟩ := bn_some H
                    refine R_cV dL_law_326 lvL_40 ⟨Nat.le_of_ble_eq_true rfl, Nat.le_of_ble_eq_true rfl⟩ (r := 0) rfl (av := [.int (sp.2 (tn (x3 + 1))), .int (sp.2 (tn (x3 + 2))), .int (sp.2 (tn (x3 + 3)))]) (st := []) rfl rfl (Nat.le_of_ble_eq_true rfl) (tX7_letter e53) ?_
                    refine R_aload_n dL_law_329 rfl rfl ?_
                    refine R_aload_n dL_law_330 rfl rfl ?_
                    refine R_iload_n dL_law_331 rfl rfl ?_
                    refine R_iconst dL_law_332 (v := 1) (by decide) ?_
                    refine R_iadd dL_law_333 ?_
                    refine R_sld dL_law_334 rfl (ck_in c50) ?_
                    refine R_aload_n dL_law_335 rfl rfl ?_
                    refine R_iload_n dL_law_336 rfl rfl ?_
                    refine R_iconst dL_law_337 (v := 2) (by decide) ?_
                    refine R_iadd dL_law_338 ?_
                    refine R_sld dL_law_339 rfl (ck_in c51) ?_
                    refine R_aload_n dL_law_340 rfl rfl ?_
                    refine R_iload_n dL_law_341 rfl rfl ?_
                    refine R_iconst dL_law_342 (v := 3) (by decide) ?_
                    refine R_iadd dL_law_343 ?_
                    refine R_sld dL_law_344 rfl (ck_in c52) ?_
                    obtain ⟨r56, e55, H⟩ := bn_some H
                    refine R_cV dL_law_345 lvL_44 ⟨Nat.le_of_ble_eq_true rfl, Nat.le_of_ble_eq_true rfl⟩ (r := 54) rfl (av := [.int (sp.2 (tn (x3 + 1))), .int (sp.2 (tn (x3 + 2))), .int (sp.2 (tn (x3 + 3)))]) (st := [.int r54]) rfl rfl (Nat.le_of_ble_eq_true rfl) (tX8_letter e55) ?_
                    rcases it_split H with ⟨c57, H⟩ | ⟨c57, H⟩
                    · refine R_icmp_eq_t dL_law_348 (tgt := 1121) (by decide) c57 ?_
                      refine R_iincW dL_law_1121 rfl (v := x3 + 5) rfl (by decide) rfl (ls2 := [.ref 73, .ref 0, .ref 54, .int (x3 + 5)]) rfl ?_
                      refine R_goto dL_law_1124 (tgt := 18) (by decide) ?_
                      exact ih _ _ _ _ H
                    · refine R_icmp_eq_f dL_law_348 (tgt := 1121) (by decide) c57 ?_
                      refine R_iconst dL_law_351 (v := 0) (by decide) ?_
                      obtain ⟨rfl, rfl⟩ := so2 H
                      exact R_retI dL_law_352 rfl (Or.inr ⟨rfl, bi_01 _⟩)
                  · rcases it_split H with ⟨c58, H⟩ | ⟨c58, H⟩
                    · refine R_tableIn dL_law_32 (by rw [c58]; decide) (by rw [c58]; decide) (off := 321) (by rw [c58]; decide) (tgt := 353) (by decide) ?_
                      refine R_aload_n dL_law_353 rfl rfl ?_
                      refine R_aload_n dL_law_354 rfl rfl ?_
                      refine R_iload_n dL_law_355 rfl rfl ?_
                      refine R_iconst dL_law_356 (v := 1) (by decide) ?_
                      refine R_iadd dL_law_357 ?_
                      obtain ⟨c59, H⟩ := it_some H
                      refine R_sld dL_law_358 rfl (ck_in c59) ?_
                      refine R_aload_n dL_law_359 rfl rfl ?_
                      refine R_iload_n dL_law_360 rfl rfl ?_
                      refine R_iconst dL_law_361 (v := 2) (by decide) ?_
                      refine R_iadd dL_law_362 ?_
                      obtain ⟨c60, H⟩ := it_some H
                      refine R_sld dL_law_363 rfl (ck_in c60) ?_
                      refine R_aload_n dL_law_364 rfl rfl ?_
                      refine R_iload_n dL_law_365 rfl rfl ?_
                      refine R_iconst dL_law_366 (v := 3) (by decide) ?_
                      refine R_iadd dL_law_367 ?_
                      obtain ⟨c61, H⟩ := it_some H
                      refine R_sld dL_law_368 rfl (ck_in c61) ?_
                      refine R_aload_n dL_law_369 rfl rfl ?_
                      refine R_iload_n dL_law_370 rfl rfl ?_
                      refine R_iconst dL_law_371 (v := 4) (by decide) ?_
                      refine R_iadd dL_law_372 ?_
                      obtain ⟨c62, H⟩ := it_some H
                      refine R_sld dL_law_373 rfl (ck_in c62) ?_
                      rcases it_split H with ⟨c63, H⟩ | ⟨c63, H⟩
                      · refine R_if_eq_t dL_law_374 (tgt := 381) (by decide) c63 ?_
                        refine R_iconst dL_law_381 (v := 0) (by decide) ?_
                        obtain ⟨r66, h65, e64, H⟩ := bn2_some H
                        refine R_cV dL_law_382 lvL_45 ⟨Nat.le_of_ble_eq_true rfl, Nat.le_of_ble_eq_true rfl⟩ (r := 0) rfl (av := [.int (sp.2 (tn (x3 + 1))), .int (sp.2 (tn (x3 + 2))), .int (sp.2 (tn (x3 + 3))), .int 0]) (st := []) rfl rfl (Nat.le_of_ble_eq_true rfl) (tX7_add e64) ?_
                        refine R_aload_n dL_law_385 rfl rfl ?_
                        refine R_aload_n dL_law_386 rfl rfl ?_
                        refine R_iload_n dL_law_387 rfl rfl ?_
                        refine R_iconst dL_law_388 (v := 1) (by decide) ?_
                        refine R_iadd dL_law_389 ?_
                        refine R_sld dL_law_390 rfl (ck_in c59) ?_
                        refine R_aload_n dL_law_391 rfl rfl ?_
                        refine R_iload_n dL_law_392 rfl rfl ?_
                        refine R_iconst dL_law_393 (v := 2) (by decide) ?_
                        refine R_iadd dL_law_394 ?_
                        refine R_sld dL_law_395 rfl (ck_in c60) ?_
                        refine R_aload_n dL_law_396 rfl rfl ?_
                        refine R_iload_n dL_law_397 rfl rfl ?_
                        refine R_iconst dL_law_398 (v := 3) (by decide) ?_
                        refine R_iadd dL_law_399 ?_
                        refine R_sld dL_law_400 rfl (ck_in c61) ?_
                        refine R_aload_n dL_law_401 rfl rfl ?_
                        refine R_iload_n dL_law_402 rfl rfl ?_
                        refine R_iconst dL_law_403 (v := 4) (by decide) ?_
                        refine R_iadd dL_law_404 ?_
                        refine R_sld dL_law_405 rfl (ck_in c62) ?_
                        refine R_if_eq_t dL_law_406 (tgt := 413) (by decide) c63 ?_
                        refine R_iconst dL_law_413 (v := 0) (by decide) ?_
                        obtain ⟨r69, h68, e67, H⟩ := bn2_some H
                        refine R_cV dL_law_414 lvL_49 ⟨Nat.le_of_ble_eq_true rfl, Nat.le_of_ble_eq_true rfl⟩ (r := 54) rfl (av := [.int (sp.2 (tn (x3 + 1))), .int (sp.2 (tn (x3 + 2))), .int (sp.2 (tn (x3 + 3))), .int 0]) (st := [.int r66]) rfl rfl (Nat.le_of_ble_eq_true rfl) (tX8_add e67) ?_
                        rcases it_split H with ⟨c70, H⟩ | ⟨c70, H⟩
                        · refine R_icmp_eq_t dL_law_417 (tgt := 1121) (by decide) c70 ?_
                          refine R_iincW dL_law_1121 rfl (v := x3 + 5) rfl (by decide) rfl (ls2 := [.ref 73, .ref 0, .ref 54, .int (x3 + 5)]) rfl ?_
                          refine R_goto dL_law_1124 (tgt := 18) (by decide) ?_
                          exact ih _ _ _ _ H
                        · refine R_icmp_eq_f dL_law_417 (tgt := 1121) (by decide) c70 ?_
                          refine R_iconst dL_law_420 (v := 0) (by decide) ?_
                          obtain ⟨rfl, rfl⟩ := so2 H
                          exact R_retI dL_law_421 rfl (Or.inr ⟨rfl, bi_01 _⟩)
                      · refine R_if_eq_f dL_law_374 (tgt := 381) (by decide) c63 ?_
                        refine R_iconst dL_law_377 (v := 1) (by decide) ?_
                        refine R_goto dL_law_378 (tgt := 382) (by decide) ?_
                        obtain ⟨r73, h72, e71, H⟩ := bn2_some H
                        refine R_cV dL_law_382 lvL_45 ⟨Nat.le_of_ble_eq_true rfl, Nat.le_of_ble_eq_true rfl⟩ (r := 0) rfl (av := [.int (sp.2 (tn (x3 + 1))), .int (sp.2 (tn (x3 + 2))), .int (sp.2 (tn (x3 + 3))), .int 1]) (st := []) rfl rfl (Nat.le_of_ble_eq_true rfl) (tX7_add e71) ?_
                        refine R_aload_n dL_law_385 rfl rfl ?_
                        refine R_aload_n dL_law_386 rfl rfl ?_
                        refine R_iload_n dL_law_387 rfl rfl ?_
                        refine R_iconst dL_law_388 (v := 1) (by decide) ?_
                        refine R_iadd dL_law_389 ?_
                        refine R_sld dL_law_390 rfl (ck_in c59) ?_
                        refine R_aload_n dL_law_391 rfl rfl ?_
                        refine R_iload_n dL_law_392 rfl rfl ?_
                        refine R_iconst dL_law_393 (v := 2) (by decide) ?_
                        refine R_iadd dL_law_394 ?_
                        refine R_sld dL_law_395 rfl (ck_in c60) ?_
                        refine R_aload_n dL_law_396 rfl rfl ?_
                        refine R_iload_n dL_law_397 rfl rfl ?_
                        refine R_iconst dL_law_398 (v := 3) (by decide) ?_
                        refine R_iadd dL_law_399 ?_
                        refine R_sld dL_law_400 rfl (ck_in c61) ?_
                        refine R_aload_n dL_law_401 rfl rfl ?_
                        refine R_iload_n dL_law_402 rfl rfl ?_
                        refine R_iconst dL_law_403 (v := 4) (by decide) ?_
                        refine R_iadd dL_law_404 ?_
                        refine R_sld dL_law_405 rfl (ck_in c62) ?_
                        refine R_if_eq_f dL_law_406 (tgt := 413) (by decide) c63 ?_
                        refine R_iconst dL_law_409 (v := 1) (by decide) ?_
                        refine R_goto dL_law_410 (tgt := 414) (by decide) ?_
                        obtain ⟨r76, h75, e74, H⟩ := bn2_some H
                        refine R_cV dL_law_414 lvL_49 ⟨Nat.le_of_ble_eq_true rfl, Nat.le_of_ble_eq_true rfl⟩ (r := 54) rfl (av := [.int (sp.2 (tn (x3 + 1))), .int (sp.2 (tn (x3 + 2))), .int (sp.2 (tn (x3 + 3))), .int 1]) (st := [.int r73]) rfl rfl (Nat.le_of_ble_eq_true rfl) (tX8_add e74) ?_
                        rcases it_split H with ⟨c77, H⟩ | ⟨c77, H⟩
                        · refine R_icmp_eq_t dL_law_417 (tgt := 1121) (by decide) c77 ?_
                          refine R_iincW dL_law_1121 rfl (v := x3 + 5) rfl (by decide) rfl (ls2 := [.ref 73, .ref 0, .ref 54, .int (x3 + 5)]) rfl ?_
                          refine R_goto dL_law_1124 (tgt := 18) (by decide) ?_
                          exact ih _ _ _ _ H
                        · refine R_icmp_eq_f dL_law_417 (tgt := 1121) (by decide) c77 ?_
                          refine R_iconst dL_law_420 (v := 0) (by decide) ?_
                          obtain ⟨rfl, rfl⟩ := so2 H
                          exact R_retI dL_law_421 rfl (Or.inr ⟨rfl, bi_01 _⟩)
                    · rcases it_split H with ⟨c78, H⟩ | ⟨c78, H⟩
                      · refine R_tableIn dL_law_32 (by rw [c78]; decide) (by rw [c78]; decide) (off := 390) (by rw [c78]; decide) (tgt := 422) (by decide) ?_
                        refine R_aload_n dL_law_422 rfl rfl ?_
                        refine R_aload_n dL_law_423 rfl rfl ?_
                        refine R_iload_n dL_law_424 rfl rfl ?_
                        refine R_iconst dL_law_425 (v := 1) (by decide) ?_
                        refine R_iadd dL_law_426 ?_
                        obtain ⟨c79, H⟩ := it_some H
                        refine R_sld dL_law_427 rfl (ck_in c79) ?_
                        obtain ⟨r82, h81, e80, H⟩ := bn2_some H
                        refine R_cV dL_law_428 lvL_50 ⟨Nat.le_of_ble_eq_true rfl, Nat.le_of_ble_eq_true rfl⟩ (r := 0) rfl (av := [.int (sp.2 (tn (x3 + 1)))]) (st := []) rfl rfl (Nat.le_of_ble_eq_true rfl) (tX7_blot e80) ?_
                        refine R_aload_n dL_law_431 rfl rfl ?_
                        refine R_aload_n dL_law_432 rfl rfl ?_
                        refine R_iload_n dL_law_433 rfl rfl ?_
                        refine R_iconst dL_law_434 (v := 1) (by decide) ?_
                        refine R_iadd dL_law_435 ?_
                        refine R_sld dL_law_436 rfl (ck_in c79) ?_
                        obtain ⟨r85, h84, e83, H⟩ := bn2_some H
                        refine R_cV dL_law_437 lvL_53 ⟨Nat.le_of_ble_eq_true rfl, Nat.le_of_ble_eq_true rfl⟩ (r := 54) rfl (av := [.int (sp.2 (tn (x3 + 1)))]) (st := [.int r82]) rfl rfl (Nat.le_of_ble_eq_true rfl) (tX8_blot e83) ?_
                        rcases it_split H with ⟨c86, H⟩ | ⟨c86, H⟩
                        · refine R_icmp_eq_t dL_law_440 (tgt := 1121) (by decide) c86 ?_
                          refine R_iincW dL_law_1121 rfl (v := x3 + 5) rfl (by decide) rfl (ls2 := [.ref 73, .ref 0, .ref 54, .int (x3 + 5)]) rfl ?_
                          refine R_goto dL_law_1124 (tgt := 18) (by decide) ?_
                          exact ih _ _ _ _ H
                        · refine R_icmp_eq_f dL_law_440 (tgt := 1121) (by decide) c86 ?_
                          refine R_iconst dL_law_443 (v := 0) (by decide) ?_
                          obtain ⟨rfl, rfl⟩ := so2 H
                          exact R_retI dL_law_444 rfl (Or.inr ⟨rfl, bi_01 _⟩)
                      · rcases it_split H with ⟨c87, H⟩ | ⟨c87, H⟩
                        · refine R_tableIn dL_law_32 (by rw [c87]; decide) (by rw [c87]; decide) (off := 413) (by rw [c87]; decide) (tgt := 445) (by decide) ?_
                          refine R_aload_n dL_law_445 rfl rfl ?_
                          refine R_aload_n dL_law_446 rfl rfl ?_
                          refine R_iload_n dL_law_447 rfl rfl ?_
                          refine R_iconst dL_law_448 (v := 1) (by decide) ?_
                          refine R_iadd dL_law_449 ?_
                          obtain ⟨c88, H⟩ := it_some H
                          refine R_sld dL_law_450 rfl (ck_in c88) ?_
                          obtain ⟨r91, h90, e89, H⟩ := bn2_some H
                          refine R_cV dL_law_451 lvL_54 ⟨Nat.le_of_ble_eq_true rfl, Nat.le_of_ble_eq_true rfl⟩ (r := 0) rfl (av := [.int (sp.2 (tn (x3 + 1)))]) (st := []) rfl rfl (Nat.le_of_ble_eq_true rfl) (tX7_bottle e89) ?_
                          refine R_aload_n dL_law_454 rfl rfl ?_
                          refine R_aload_n dL_law_455 rfl rfl ?_
                          refine R_iload_n dL_law_456 rfl rfl ?_
                          refine R_iconst dL_law_457 (v := 1) (by decide) ?_
                          refine R_iadd dL_law_458 ?_
                          refine R_sld dL_law_459 rfl (ck_in c88) ?_
                          obtain ⟨r94, h93, e92, H⟩ := bn2_some H
                          refine R_cV dL_law_460 lvL_57 ⟨Nat.le_of_ble_eq_true rfl, Nat.le_of_ble_eq_true rfl⟩ (r := 54) rfl (av := [.int (sp.2 (tn (x3 + 1)))]) (st := [.int r91]) rfl rfl (Nat.le_of_ble_eq_true rfl) (tX8_bottle e92) ?_
                          rcases it_split H with ⟨c95, H⟩ | ⟨c95, H⟩
                          · refine R_icmp_eq_t dL_law_463 (tgt := 1121) (by decide) c95 ?_
                            refine R_iincW dL_law_1121 rfl (v := x3 + 5) rfl (by decide) rfl (ls2 := [.ref 73, .ref 0, .ref 54, .int (x3 + 5)]) rfl ?_
                            refine R_goto dL_law_1124 (tgt := 18) (by decide) ?_
                            exact ih _ _ _ _ H
                          · refine R_icmp_eq_f dL_law_463 (tgt := 1121) (by decide) c95 ?_
                            refine R_iconst dL_law_466 (v := 0) (by decide) ?_
                            obtain ⟨rfl, rfl⟩ := so2 H
                            exact R_retI dL_law_467 rfl (Or.inr ⟨rfl, bi_01 _⟩)
                        · rcases it_split H with ⟨c96, H⟩ | ⟨c96, H⟩
                          · refine R_tableIn dL_law_32 (by rw [c96]; decide) (by rw [c96]; decide) (off := 436) (by rw [c96]; decide) (tgt := 468) (by decide) ?_
                            refine R_aload_n dL_law_468 rfl rfl ?_
                            refine R_aload_n dL_law_469 rfl rfl ?_
                            refine R_iload_n dL_law_470 rfl rfl ?_
                            refine R_iconst dL_law_471 (v := 1) (by decide) ?_
                            refine R_iadd dL_law_472 ?_
                            obtain ⟨c97, H⟩ := it_some H
                            refine R_sld dL_law_473 rfl (ck_in c97) ?_
                            obtain ⟨r100, h99, e98, H⟩ := bn2_some H
                            refine R_cV dL_law_474 lvL_58 ⟨Nat.le_of_ble_eq_true rfl, Nat.le_of_ble_eq_true rfl⟩ (r := 0) rfl (av := [.int (sp.2 (tn (x3 + 1)))]) (st := []) rfl rfl (Nat.le_of_ble_eq_true rfl) (tX7_drift e98) ?_
                            refine R_aload_n dL_law_477 rfl rfl ?_
                            refine R_aload_n dL_law_478 rfl rfl ?_
                            refine R_iload_n dL_law_479 rfl rfl ?_
                            refine R_iconst dL_law_480 (v := 1) (by decide) ?_
                            refine R_iadd dL_law_481 ?_
                            refine R_sld dL_law_482 rfl (ck_in c97) ?_
                            obtain ⟨r103, h102, e101, H⟩ := bn2_some H
                            refine R_cV dL_law_483 lvL_61 ⟨Nat.le_of_ble_eq_true rfl, Nat.le_of_ble_eq_true rfl⟩ (r := 54) rfl (av := [.int (sp.2 (tn (x3 + 1)))]) (st := [.int r100]) rfl rfl (Nat.le_of_ble_eq_true rfl) (tX8_drift e101) ?_
                            rcases it_split H with ⟨c104, H⟩ | ⟨c104, H⟩
                            · refine R_icmp_eq_t dL_law_486 (tgt := 1121) (by decide) c104 ?_
                              refine R_iincW dL_law_1121 rfl (v := x3 + 5) rfl (by decide) rfl (ls2 := [.ref 73, .ref 0, .ref 54, .int (x3 + 5)]) rfl ?_
                              refine R_goto dL_law_1124 (tgt := 18) (by decide) ?_
                              exact ih _ _ _ _ H
                            · refine R_icmp_eq_f dL_law_486 (tgt := 1121) (by decide) c104 ?_
                              refine R_iconst dL_law_489 (v := 0) (by decide) ?_
                              obtain ⟨rfl, rfl⟩ := so2 H
                              exact R_retI dL_law_490 rfl (Or.inr ⟨rfl, bi_01 _⟩)
                          · rcases it_split H with ⟨c105, H⟩ | ⟨c105, H⟩
                            · refine R_tableIn dL_law_32 (by rw [c105]; decide) (by rw [c105]; decide) (off := 459) (by rw [c105]; decide) (tgt := 491) (by decide) ?_
                              refine R_aload_n dL_law_491 rfl rfl ?_
                              refine R_aload_n dL_law_492 rfl rfl ?_
                              refine R_iload_n dL_law_493 rfl rfl ?_
                              refine R_iconst dL_law_494 (v := 1) (by decide) ?_
                              refine R_iadd dL_law_495 ?_
                              obtain ⟨c106, H⟩ := it_some H
                              refine R_sld dL_law_496 rfl (ck_in c106) ?_
                              obtain ⟨r109, h108, e107, H⟩ := bn2_some H
                              refine R_cV dL_law_497 lvL_62 ⟨Nat.le_of_ble_eq_true rfl, Nat.le_of_ble_eq_true rfl⟩ (r := 0) rfl (av := [.int (sp.2 (tn (x3 + 1)))]) (st := []) rfl rfl (Nat.le_of_ble_eq_true rfl) (tX7_undo e107) ?_
                              refine R_aload_n dL_law_500 rfl rfl ?_
                              refine R_aload_n dL_law_501 rfl rfl ?_
                              refine R_iload_n dL_law_502 rfl rfl ?_
                              refine R_iconst dL_law_503 (v := 1) (by decide) ?_
                              refine R_iadd dL_law_504 ?_
                              refine R_sld dL_law_505 rfl (ck_in c106) ?_
                              obtain ⟨r112, h111, e110, H⟩ := bn2_some H
                              refine R_cV dL_law_506 lvL_65 ⟨Nat.le_of_ble_eq_true rfl, Nat.le_of_ble_eq_true rfl⟩ (r := 54) rfl (av := [.int (sp.2 (tn (x3 + 1)))]) (st := [.int r109]) rfl rfl (Nat.le_of_ble_eq_true rfl) (tX8_undo e110) ?_
                              rcases it_split H with ⟨c113, H⟩ | ⟨c113, H⟩
                              · refine R_icmp_eq_t dL_law_509 (tgt := 1121) (by decide) c113 ?_
                                refine R_iincW dL_law_1121 rfl (v := x3 + 5) rfl (by decide) rfl (ls2 := [.ref 73, .ref 0, .ref 54, .int (x3 + 5)]) rfl ?_
                                refine R_goto dL_law_1124 (tgt := 18) (by decide) ?_
                                exact ih _ _ _ _ H
                              · refine R_icmp_eq_f dL_law_509 (tgt := 1121) (by decide) c113 ?_
                                refine R_iconst dL_law_512 (v := 0) (by decide) ?_
                                obtain ⟨rfl, rfl⟩ := so2 H
                                exact R_retI dL_law_513 rfl (Or.inr ⟨rfl, bi_01 _⟩)
                            · rcases it_split H with ⟨c114, H⟩ | ⟨c114, H⟩
                              · refine R_tableIn dL_law_32 (by rw [c114]; decide) (by rw [c114]; decide) (off := 482) (by rw [c114]; decide) (tgt := 514) (by decide) ?_
                                refine R_aload_n dL_law_514 rfl rfl ?_
                                refine R_aload_n dL_law_515 rfl rfl ?_
                                refine R_iload_n dL_law_516 rfl rfl ?_
                                refine R_iconst dL_law_517 (v := 1) (by decide) ?_
                                refine R_iadd dL_law_518 ?_
                                obtain ⟨c115, H⟩ := it_some H
                                refine R_sld dL_law_519 rfl (ck_in c115) ?_
                                refine R_aload_n dL_law_520 rfl rfl ?_
                                refine R_iload_n dL_law_521 rfl rfl ?_
                                refine R_iconst dL_law_522 (v := 2) (by decide) ?_
                                refine R_iadd dL_law_523 ?_
                                obtain ⟨c116, H⟩ := it_some H
                                refine R_sld dL_law_524 rfl (ck_in c116) ?_
                                obtain ⟨r118, e117, H⟩ := bn_some H
                                refine R_cV dL_law_525 lvL_66 ⟨Nat.le_of_ble_eq_true rfl, Nat.le_of_ble_eq_true rfl⟩ (r := 0) rfl (av := [.int (sp.2 (tn (x3 + 1))), .int (sp.2 (tn (x3 + 2)))]) (st := []) rfl rfl (Nat.le_of_ble_eq_true rfl) (tX7_look e117) ?_
                                refine R_aload_n dL_law_528 rfl rfl ?_
                                refine R_aload_n dL_law_529 rfl rfl ?_
                                refine R_iload_n dL_law_530 rfl rfl ?_
                                refine R_iconst dL_law_531 (v := 1) (by decide) ?_
                                refine R_iadd dL_law_532 ?_
                                refine R_sld dL_law_533 rfl (ck_in c115) ?_
                                refine R_aload_n dL_law_534 rfl rfl ?_
                                refine R_iload_n dL_law_535 rfl rfl ?_
                                refine R_iconst dL_law_536 (v := 2) (by decide) ?_
                                refine R_iadd dL_law_537 ?_
                                refine R_sld dL_law_538 rfl (ck_in c116) ?_
                                obtain ⟨r120, e119, H⟩ := bn_some H
                                refine R_cV dL_law_539 lvL_69 ⟨Nat.le_of_ble_eq_true rfl, Nat.le_of_ble_eq_true rfl⟩ (r := 54) rfl (av := [.int (sp.2 (tn (x3 + 1))), .int (sp.2 (tn (x3 + 2)))]) (st := [.int r118]) rfl rfl (Nat.le_of_ble_eq_true rfl) (tX8_look e119) ?_
                                rcases it_split H with ⟨c121, H⟩ | ⟨c121, H⟩
                                · refine R_icmp_eq_t dL_law_542 (tgt := 1121) (by decide) c121 ?_
                                  refine R_iincW dL_law_1121 rfl (v := x3 + 5) rfl (by decide) rfl (ls2 := [.ref 73, .ref 0, .ref 54, .int (x3 + 5)]) rfl ?_
                                  refine R_goto dL_law_1124 (tgt := 18) (by decide) ?_
                                  exact ih _ _ _ _ H
                                · refine R_icmp_eq_f dL_law_542 (tgt := 1121) (by decide) c121 ?_
                                  refine R_iconst dL_law_545 (v := 0) (by decide) ?_
                                  obtain ⟨rfl, rfl⟩ := so2 H
                                  exact R_retI dL_law_546 rfl (Or.inr ⟨rfl, bi_01 _⟩)
                              · rcases it_split H with ⟨c122, H⟩ | ⟨c122, H⟩
                                · refine R_tableIn dL_law_32 (by rw [c122]; decide) (by rw [c122]; decide) (off := 515) (by rw [c122]; decide) (tgt := 547) (by decide) ?_
                                  refine R_aload_n dL_law_547 rfl rfl ?_
                                  refine R_aload_n dL_law_548 rfl rfl ?_
                                  refine R_iload_n dL_law_549 rfl rfl ?_
                                  refine R_iconst dL_law_550 (v := 1) (by decide) ?_
                                  refine R_iadd dL_law_551 ?_
                                  obtain ⟨c123, H⟩ := it_some H
                                  refine R_sld dL_law_552 rfl (ck_in c123) ?_
                                  refine R_aload_n dL_law_553 rfl rfl ?_
                                  refine R_iload_n dL_law_554 rfl rfl ?_
                                  refine R_iconst dL_law_555 (v := 2) (by decide) ?_
                                  refine R_iadd dL_law_556 ?_
                                  obtain ⟨c124, H⟩ := it_some H
                                  refine R_sld dL_law_557 rfl (ck_in c124) ?_
                                  refine R_aload_n dL_law_558 rfl rfl ?_
                                  refine R_iload_n dL_law_559 rfl rfl ?_
                                  refine R_iconst dL_law_560 (v := 3) (by decide) ?_
                                  refine R_iadd dL_law_561 ?_
                                  obtain ⟨c125, H⟩ := it_some H
                                  refine R_sld dL_law_562 rfl (ck_in c125) ?_
                                  refine R_aload_n dL_law_563 rfl rfl ?_
                                  refine R_iload_n dL_law_564 rfl rfl ?_
                                  refine R_iconst dL_law_565 (v := 4) (by decide) ?_
                                  refine R_iadd dL_law_566 ?_
                                  obtain ⟨c126, H⟩ := it_some H
                                  refine R_sld dL_law_567 rfl (ck_in c126) ?_
                                  obtain ⟨r128, e127, H⟩ := bn_some H
                                  refine R_cV dL_law_568 lvL_70 ⟨Nat.le_of_ble_eq_true rfl, Nat.le_of_ble_eq_true rfl⟩ (r := 0) rfl (av := [.int (sp.2 (tn (x3 + 1))), .int (sp.2 (tn (x3 + 2))), .int (sp.2 (tn (x3 + 3))), .int (sp.2 (tn (x3 + 4)))]) (st := []) rfl rfl (Nat.le_of_ble_eq_true rfl) (tX7_written e127) ?_
                                  refine R_aload_n dL_law_571 rfl rfl ?_
                                  refine R_aload_n dL_law_572 rfl rfl ?_
                                  refine R_iload_n dL_law_573 rfl rfl ?_
                                  refine R_iconst dL_law_574 (v := 1) (by decide) ?_
                                  refine R_iadd dL_law_575 ?_
                                  refine R_sld dL_law_576 rfl (ck_in c123) ?_
                                  refine R_aload_n dL_law_577 rfl rfl ?_
                                  refine R_iload_n dL_law_578 rfl rfl ?_
                                  refine R_iconst dL_law_579 (v := 2) (by decide) ?_
                                  refine R_iadd dL_law_580 ?_
                                  refine R_sld dL_law_581 rfl (ck_in c124) ?_
                                  refine R_aload_n dL_law_582 rfl rfl ?_
                                  refine R_iload_n dL_law_583 rfl rfl ?_
                                  refine R_iconst dL_law_584 (v := 3) (by decide) ?_
                                  refine R_iadd dL_law_585 ?_
                                  refine R_sld dL_law_586 rfl (ck_in c125) ?_
                                  refine R_aload_n dL_law_587 rfl rfl ?_
                                  refine R_iload_n dL_law_588 rfl rfl ?_
                                  refine R_iconst dL_law_589 (v := 4) (by decide) ?_
                                  refine R_iadd dL_law_590 ?_
                                  refine R_sld dL_law_591 rfl (ck_in c126) ?_
                                  obtain ⟨r130, e129, H⟩ := bn_some H
                                  refine R_cV dL_law_592 lvL_74 ⟨Nat.le_of_ble_eq_true rfl, Nat.le_of_ble_eq_true rfl⟩ (r := 54) rfl (av := [.int (sp.2 (tn (x3 + 1))), .int (sp.2 (tn (x3 + 2))), .int (sp.2 (tn (x3 + 3))), .int (sp.2 (tn (x3 + 4)))]) (st := [.int r128]) rfl rfl (Nat.le_of_ble_eq_true rfl) (tX8_written e129) ?_
                                  rcases it_split H with ⟨c131, H⟩ | ⟨c131, H⟩
                                  · refine R_icmp_eq_t dL_law_595 (tgt := 1121) (by decide) c131 ?_
                                    refine R_iincW dL_law_1121 rfl (v := x3 + 5) rfl (by decide) rfl (ls2 := [.ref 73, .ref 0, .ref 54, .int (x3 + 5)]) rfl ?_
                                    refine R_goto dL_law_1124 (tgt := 18) (by decide) ?_
                                    exact ih _ _ _ _ H
                                  · refine R_icmp_eq_f dL_law_595 (tgt := 1121) (by decide) c131 ?_
                                    refine R_iconst dL_law_598 (v := 0) (by decide) ?_
                                    obtain ⟨rfl, rfl⟩ := so2 H
                                    exact R_retI dL_law_599 rfl (Or.inr ⟨rfl, bi_01 _⟩)
                                · rcases it_split H with ⟨c132, H⟩ | ⟨c132, H⟩
                                  · refine R_tableIn dL_law_32 (by rw [c132]; decide) (by rw [c132]; decide) (off := 568) (by rw [c132]; decide) (tgt := 600) (by decide) ?_
                                    refine R_aload_n dL_law_600 rfl rfl ?_
                                    refine R_aload_n dL_law_601 rfl rfl ?_
                                    refine R_iload_n dL_law_602 rfl rfl ?_
                                    refine R_iconst dL_law_603 (v := 1) (by decide) ?_
                                    refine R_iadd dL_law_604 ?_
                                    obtain ⟨c133, H⟩ := it_some H
                                    refine R_sld dL_law_605 rfl (ck_in c133) ?_
                                    refine R_aload_n dL_law_606 rfl rfl ?_
                                    refine R_iload_n dL_law_607 rfl rfl ?_
                                    refine R_iconst dL_law_608 (v := 2) (by decide) ?_
                                    refine R_iadd dL_law_609 ?_
                                    obtain ⟨c134, H⟩ := it_some H
                                    refine R_sld dL_law_610 rfl (ck_in c134) ?_
                                    obtain ⟨r136, e135, H⟩ := bn_some H
                                    refine R_cV dL_law_611 lvL_75 ⟨Nat.le_of_ble_eq_true rfl, Nat.le_of_ble_eq_true rfl⟩ (r := 0) rfl (av := [.int (sp.2 (tn (x3 + 1))), .int (sp.2 (tn (x3 + 2)))]) (st := []) rfl rfl (Nat.le_of_ble_eq_true rfl) (tX7_who e135) ?_
                                    refine R_aload_n dL_law_614 rfl rfl ?_
                                    refine R_aload_n dL_law_615 rfl rfl ?_
                                    refine R_iload_n dL_law_616 rfl rfl ?_
                                    refine R_iconst dL_law_617 (v := 1) (by decide) ?_
                                    refine R_iadd dL_law_618 ?_
                                    refine R_sld dL_law_619 rfl (ck_in c133) ?_
                                    refine R_aload_n dL_law_620 rfl rfl ?_
                                    refine R_iload_n dL_law_621 rfl rfl ?_
                                    refine R_iconst dL_law_622 (v := 2) (by decide) ?_
                                    refine R_iadd dL_law_623 ?_
                                    refine R_sld dL_law_624 rfl (ck_in c134) ?_
                                    obtain ⟨r138, e137, H⟩ := bn_some H
                                    refine R_cV dL_law_625 lvL_78 ⟨Nat.le_of_ble_eq_true rfl, Nat.le_of_ble_eq_true rfl⟩ (r := 54) rfl (av := [.int (sp.2 (tn (x3 + 1))), .int (sp.2 (tn (x3 + 2)))]) (st := [.int r136]) rfl rfl (Nat.le_of_ble_eq_true rfl) (tX8_who e137) ?_
                                    rcases it_split H with ⟨c139, H⟩ | ⟨c139, H⟩
                                    · refine R_icmp_eq_t dL_law_628 (tgt := 1121) (by decide) c139 ?_
                                      refine R_iincW dL_law_1121 rfl (v := x3 + 5) rfl (by decide) rfl (ls2 := [.ref 73, .ref 0, .ref 54, .int (x3 + 5)]) rfl ?_
                                      refine R_goto dL_law_1124 (tgt := 18) (by decide) ?_
                                      exact ih _ _ _ _ H
                                    · refine R_icmp_eq_f dL_law_628 (tgt := 1121) (by decide) c139 ?_
                                      refine R_iconst dL_law_631 (v := 0) (by decide) ?_
                                      obtain ⟨rfl, rfl⟩ := so2 H
                                      exact R_retI dL_law_632 rfl (Or.inr ⟨rfl, bi_01 _⟩)
                                  · rcases it_split H with ⟨c140, H⟩ | ⟨c140, H⟩
                                    · refine R_tableIn dL_law_32 (by rw [c140]; decide) (by rw [c140]; decide) (off := 601) (by rw [c140]; decide) (tgt := 633) (by decide) ?_
                                      refine R_aload_n dL_law_633 rfl rfl ?_
                                      refine R_aload_n dL_law_634 rfl rfl ?_
                                      refine R_iload_n dL_law_635 rfl rfl ?_
                                      refine R_iconst dL_law_636 (v := 1) (by decide) ?_
                                      refine R_iadd dL_law_637 ?_
                                      obtain ⟨c141, H⟩ := it_some H
                                      refine R_sld dL_law_638 rfl (ck_in c141) ?_
                                      refine R_aload_n dL_law_639 rfl rfl ?_
                                      refine R_iload_n dL_law_640 rfl rfl ?_
                                      refine R_iconst dL_law_641 (v := 2) (by decide) ?_
                                      refine R_iadd dL_law_642 ?_
                                      obtain ⟨c142, H⟩ := it_some H
                                      refine R_sld dL_law_643 rfl (ck_in c142) ?_
                                      refine R_aload_n dL_law_644 rfl rfl ?_
                                      refine R_iload_n dL_law_645 rfl rfl ?_
                                      refine R_iconst dL_law_646 (v := 3) (by decide) ?_
                                      refine R_iadd dL_law_647 ?_
                                      obtain ⟨c143, H⟩ := it_some H
                                      refine R_sld dL_law_648 rfl (ck_in c143) ?_
                                      obtain ⟨r145, e144, H⟩ := bn_some H
                                      refine R_cV dL_law_649 lvL_79 ⟨Nat.le_of_ble_eq_true rfl, Nat.le_of_ble_eq_true rfl⟩ (r := 0) rfl (av := [.int (sp.2 (tn (x3 + 1))), .int (sp.2 (tn (x3 + 2))), .int (sp.2 (tn (x3 + 3)))]) (st := []) rfl rfl (Nat.le_of_ble_eq_true rfl) (tX7_dated e144) ?_
                                      refine R_aload_n dL_law_652 rfl rfl ?_
                                      refine R_aload_n dL_law_653 rfl rfl ?_
                                      refine R_iload_n dL_law_654 rfl rfl ?_
                                      refine R_iconst dL_law_655 (v := 1) (by decide) ?_
                                      refine R_iadd dL_law_656 ?_
                                      refine R_sld dL_law_657 rfl (ck_in c141) ?_
                                      refine R_aload_n dL_law_658 rfl rfl ?_
                                      refine R_iload_n dL_law_659 rfl rfl ?_
                                      refine R_iconst dL_law_660 (v := 2) (by decide) ?_
                                      refine R_iadd dL_law_661 ?_
                                      refine R_sld dL_law_662 rfl (ck_in c142) ?_
                                      refine R_aload_n dL_law_663 rfl rfl ?_
                                      refine R_iload_n dL_law_664 rfl rfl ?_
                                      refine R_iconst dL_law_665 (v := 3) (by decide) ?_
                                      refine R_iadd dL_law_666 ?_
                                      refine R_sld dL_law_667 rfl (ck_in c143) ?_
                                      obtain ⟨r147, e146, H⟩ := bn_some H
                                      refine R_cV dL_law_668 lvL_82 ⟨Nat.le_of_ble_eq_true rfl, Nat.le_of_ble_eq_true rfl⟩ (r := 54) rfl (av := [.int (sp.2 (tn (x3 + 1))), .int (sp.2 (tn (x3 + 2))), .int (sp.2 (tn (x3 + 3)))]) (st := [.int r145]) rfl rfl (Nat.le_of_ble_eq_true rfl) (tX8_dated e146) ?_
                                      rcases it_split H with ⟨c148, H⟩ | ⟨c148, H⟩
                                      · refine R_icmp_eq_t dL_law_671 (tgt := 1121) (by decide) c148 ?_
                                        refine R_iincW dL_law_1121 rfl (v := x3 + 5) rfl (by decide) rfl (ls2 := [.ref 73, .ref 0, .ref 54, .int (x3 + 5)]) rfl ?_
                                        refine R_goto dL_law_1124 (tgt := 18) (by decide) ?_
                                        exact ih _ _ _ _ H
                                      · refine R_icmp_eq_f dL_law_671 (tgt := 1121) (by decide) c148 ?_
                                        refine R_iconst dL_law_674 (v := 0) (by decide) ?_
                                        obtain ⟨rfl, rfl⟩ := so2 H
                                        exact R_retI dL_law_675 rfl (Or.inr ⟨rfl, bi_01 _⟩)
                                    · rcases it_split H with ⟨c149, H⟩ | ⟨c149, H⟩
                                      · refine R_tableIn dL_law_32 (by rw [c149]; decide) (by rw [c149]; decide) (off := 644) (by rw [c149]; decide) (tgt := 676) (by decide) ?_
                                        refine R_aload_n dL_law_676 rfl rfl ?_
                                        refine R_aload_n dL_law_677 rfl rfl ?_
                                        refine R_iload_n dL_law_678 rfl rfl ?_
                                        refine R_iconst dL_law_679 (v := 1) (by decide) ?_
                                        refine R_iadd dL_law_680 ?_
                                        obtain ⟨c150, H⟩ := it_some H
                                        refine R_sld dL_law_681 rfl (ck_in c150) ?_
                                        refine R_aload_n dL_law_682 rfl rfl ?_
                                        refine R_iload_n dL_law_683 rfl rfl ?_
                                        refine R_iconst dL_law_684 (v := 2) (by decide) ?_
                                        refine R_iadd dL_law_685 ?_
                                        obtain ⟨c151, H⟩ := it_some H
                                        refine R_sld dL_law_686 rfl (ck_in c151) ?_
                                        refine R_aload_n dL_law_687 rfl rfl ?_
                                        refine R_iload_n dL_law_688 rfl rfl ?_
                                        refine R_iconst dL_law_689 (v := 3) (by decide) ?_
                                        refine R_iadd dL_law_690 ?_
                                        obtain ⟨c152, H⟩ := it_some H
                                        refine R_sld dL_law_691 rfl (ck_in c152) ?_
                                        obtain ⟨r154, e153, H⟩ := bn_some H
                                        refine R_cV dL_law_692 lvL_83 ⟨Nat.le_of_ble_eq_true rfl, Nat.le_of_ble_eq_true rfl⟩ (r := 0) rfl (av := [.int (sp.2 (tn (x3 + 1))), .int (sp.2 (tn (x3 + 2))), .int (sp.2 (tn (x3 + 3)))]) (st := []) rfl rfl (Nat.le_of_ble_eq_true rfl) (tX7_addedAt e153) ?_
                                        refine R_aload_n dL_law_695 rfl rfl ?_
                                        refine R_aload_n dL_law_696 rfl rfl ?_
                                        refine R_iload_n dL_law_697 rfl rfl ?_
                                        refine R_iconst dL_law_698 (v := 1) (by decide) ?_
                                        refine R_iadd dL_law_699 ?_
                                        refine R_sld dL_law_700 rfl (ck_in c150) ?_
                                        refine R_aload_n dL_law_701 rfl rfl ?_
                                        refine R_iload_n dL_law_702 rfl rfl ?_
                                        refine R_iconst dL_law_703 (v := 2) (by decide) ?_
                                        refine R_iadd dL_law_704 ?_
                                        refine R_sld dL_law_705 rfl (ck_in c151) ?_
                                        refine R_aload_n dL_law_706 rfl rfl ?_
                                        refine R_iload_n dL_law_707 rfl rfl ?_
                                        refine R_iconst dL_law_708 (v := 3) (by decide) ?_
                                        refine R_iadd dL_law_709 ?_
                                        refine R_sld dL_law_710 rfl (ck_in c152) ?_
                                        obtain ⟨r156, e155, H⟩ := bn_some H
                                        refine R_cV dL_law_711 lvL_86 ⟨Nat.le_of_ble_eq_true rfl, Nat.le_of_ble_eq_true rfl⟩ (r := 54) rfl (av := [.int (sp.2 (tn (x3 + 1))), .int (sp.2 (tn (x3 + 2))), .int (sp.2 (tn (x3 + 3)))]) (st := [.int r154]) rfl rfl (Nat.le_of_ble_eq_true rfl) (tX8_addedAt e155) ?_
                                        rcases it_split H with ⟨c157, H⟩ | ⟨c157, H⟩
                                        · refine R_icmp_eq_t dL_law_714 (tgt := 1121) (by decide) c157 ?_
                                          refine R_iincW dL_law_1121 rfl (v := x3 + 5) rfl (by decide) rfl (ls2 := [.ref 73, .ref 0, .ref 54, .int (x3 + 5)]) rfl ?_
                                          refine R_goto dL_law_1124 (tgt := 18) (by decide) ?_
                                          exact ih _ _ _ _ H
                                        · refine R_icmp_eq_f dL_law_714 (tgt := 1121) (by decide) c157 ?_
                                          refine R_iconst dL_law_717 (v := 0) (by decide) ?_
                                          obtain ⟨rfl, rfl⟩ := so2 H
                                          exact R_retI dL_law_718 rfl (Or.inr ⟨rfl, bi_01 _⟩)
                                      · rcases it_split H with ⟨c158, H⟩ | ⟨c158, H⟩
                                        · refine R_tableIn dL_law_32 (by rw [c158]; decide) (by rw [c158]; decide) (off := 687) (by rw [c158]; decide) (tgt := 719) (by decide) ?_
                                          refine R_aload_n dL_law_719 rfl rfl ?_
                                          refine R_aload_n dL_law_720 rfl rfl ?_
                                          refine R_iload_n dL_law_721 rfl rfl ?_
                                          refine R_iconst dL_law_722 (v := 1) (by decide) ?_
                                          refine R_iadd dL_law_723 ?_
                                          obtain ⟨c159, H⟩ := it_some H
                                          refine R_sld dL_law_724 rfl (ck_in c159) ?_
                                          refine R_aload_n dL_law_725 rfl rfl ?_
                                          refine R_iload_n dL_law_726 rfl rfl ?_
                                          refine R_iconst dL_law_727 (v := 2) (by decide) ?_
                                          refine R_iadd dL_law_728 ?_
                                          obtain ⟨c160, H⟩ := it_some H
                                          refine R_sld dL_law_729 rfl (ck_in c160) ?_
                                          obtain ⟨r163, h162, e161, H⟩ := bn2_some H
                                          refine R_cV dL_law_730 lvL_87 ⟨Nat.le_of_ble_eq_true rfl, Nat.le_of_ble_eq_true rfl⟩ (r := 0) rfl (av := [.int (sp.2 (tn (x3 + 1))), .int (sp.2 (tn (x3 + 2)))]) (st := []) rfl rfl (Nat.le_of_ble_eq_true rfl) (tX7_next e161) ?_
                                          refine R_aload_n dL_law_733 rfl rfl ?_
                                          refine R_aload_n dL_law_734 rfl rfl ?_
                                          refine R_iload_n dL_law_735 rfl rfl ?_
                                          refine R_iconst dL_law_736 (v := 1) (by decide) ?_
                                          refine R_iadd dL_law_737 ?_
                                          refine R_sld dL_law_738 rfl (ck_in c159) ?_
                                          refine R_aload_n dL_law_739 rfl rfl ?_
                                          refine R_iload_n dL_law_740 rfl rfl ?_
                                          refine R_iconst dL_law_741 (v := 2) (by decide) ?_
                                          refine R_iadd dL_law_742 ?_
                                          refine R_sld dL_law_743 rfl (ck_in c160) ?_
                                          obtain ⟨r166, h165, e164, H⟩ := bn2_some H
                                          refine R_cV dL_law_744 lvL_90 ⟨Nat.le_of_ble_eq_true rfl, Nat.le_of_ble_eq_true rfl⟩ (r := 54) rfl (av := [.int (sp.2 (tn (x3 + 1))), .int (sp.2 (tn (x3 + 2)))]) (st := [.int r163]) rfl rfl (Nat.le_of_ble_eq_true rfl) (tX8_next e164) ?_
                                          rcases it_split H with ⟨c167, H⟩ | ⟨c167, H⟩
                                          · refine R_icmp_eq_t dL_law_747 (tgt := 1121) (by decide) c167 ?_
                                            refine R_iincW dL_law_1121 rfl (v := x3 + 5) rfl (by decide) rfl (ls2 := [.ref 73, .ref 0, .ref 54, .int (x3 + 5)]) rfl ?_
                                            refine R_goto dL_law_1124 (tgt := 18) (by decide) ?_
                                            exact ih _ _ _ _ H
                                          · refine R_icmp_eq_f dL_law_747 (tgt := 1121) (by decide) c167 ?_
                                            refine R_iconst dL_law_750 (v := 0) (by decide) ?_
                                            obtain ⟨rfl, rfl⟩ := so2 H
                                            exact R_retI dL_law_751 rfl (Or.inr ⟨rfl, bi_01 _⟩)
                                        · rcases it_split H with ⟨c168, H⟩ | ⟨c168, H⟩
                                          · refine R_tableIn dL_law_32 (by rw [c168]; decide) (by rw [c168]; decide) (off := 720) (by rw [c168]; decide) (tgt := 752) (by decide) ?_
                                            refine R_aload_n dL_law_752 rfl rfl ?_
                                            refine R_aload_n dL_law_753 rfl rfl ?_
                                            refine R_iload_n dL_law_754 rfl rfl ?_
                                            refine R_iconst dL_law_755 (v := 1) (by decide) ?_
                                            refine R_iadd dL_law_756 ?_
                                            obtain ⟨c169, H⟩ := it_some H
                                            refine R_sld dL_law_757 rfl (ck_in c169) ?_
                                            refine R_aload_n dL_law_758 rfl rfl ?_
                                            refine R_iload_n dL_law_759 rfl rfl ?_
                                            refine R_iconst dL_law_760 (v := 2) (by decide) ?_
                                            refine R_iadd dL_law_761 ?_
                                            obtain ⟨c170, H⟩ := it_some H
                                            refine R_sld dL_law_762 rfl (ck_in c170) ?_
                                            refine R_aload_n dL_law_763 rfl rfl ?_
                                            refine R_iload_n dL_law_764 rfl rfl ?_
                                            refine R_iconst dL_law_765 (v := 3) (by decide) ?_
                                            refine R_iadd dL_law_766 ?_
                                            obtain ⟨c171, H⟩ := it_some H
                                            refine R_sld dL_law_767 rfl (ck_in c171) ?_
                                            obtain ⟨r173, e172, H⟩ := bn_some H
                                            refine R_cV dL_law_768 lvL_91 ⟨Nat.le_of_ble_eq_true rfl, Nat.le_of_ble_eq_true rfl⟩ (r := 0) rfl (av := [.int (sp.2 (tn (x3 + 1))), .int (sp.2 (tn (x3 + 2))), .int (sp.2 (tn (x3 + 3)))]) (st := []) rfl rfl (Nat.le_of_ble_eq_true rfl) (tX7_soonest e172) ?_
                                            refine R_aload_n dL_law_771 rfl rfl ?_
                                            refine R_aload_n dL_law_772 rfl rfl ?_
                                            refine R_iload_n dL_law_773 rfl rfl ?_
                                            refine R_iconst dL_law_774 (v := 1) (by decide) ?_
                                            refine R_iadd dL_law_775 ?_
                                            refine R_sld dL_law_776 rfl (ck_in c169) ?_
                                            refine R_aload_n dL_law_777 rfl rfl ?_
                                            refine R_iload_n dL_law_778 rfl rfl ?_
                                            refine R_iconst dL_law_779 (v := 2) (by decide) ?_
                                            refine R_iadd dL_law_780 ?_
                                            refine R_sld dL_law_781 rfl (ck_in c170) ?_
                                            refine R_aload_n dL_law_782 rfl rfl ?_
                                            refine R_iload_n dL_law_783 rfl rfl ?_
                                            refine R_iconst dL_law_784 (v := 3) (by decide) ?_
                                            refine R_iadd dL_law_785 ?_
                                            refine R_sld dL_law_786 rfl (ck_in c171) ?_
                                            obtain ⟨r175, e174, H⟩ := bn_some H
                                            refine R_cV dL_law_787 lvL_94 ⟨Nat.le_of_ble_eq_true rfl, Nat.le_of_ble_eq_true rfl⟩ (r := 54) rfl (av := [.int (sp.2 (tn (x3 + 1))), .int (sp.2 (tn (x3 + 2))), .int (sp.2 (tn (x3 + 3)))]) (st := [.int r173]) rfl rfl (Nat.le_of_ble_eq_true rfl) (tX8_soonest e174) ?_
                                            rcases it_split H with ⟨c176, H⟩ | ⟨c176, H⟩
                                            · refine R_icmp_eq_t dL_law_790 (tgt := 1121) (by decide) c176 ?_
                                              refine R_iincW dL_law_1121 rfl (v := x3 + 5) rfl (by decide) rfl (ls2 := [.ref 73, .ref 0, .ref 54, .int (x3 + 5)]) rfl ?_
                                              refine R_goto dL_law_1124 (tgt := 18) (by decide) ?_
                                              exact ih _ _ _ _ H
                                            · refine R_icmp_eq_f dL_law_790 (tgt := 1121) (by decide) c176 ?_
                                              refine R_iconst dL_law_793 (v := 0) (by decide) ?_
                                              obtain ⟨rfl, rfl⟩ := so2 H
                                              exact R_retI dL_law_794 rfl (Or.inr ⟨rfl, bi_01 _⟩)
                                          · rcases it_split H with ⟨c177, H⟩ | ⟨c177, H⟩
                                            · refine R_tableIn dL_law_32 (by rw [c177]; decide) (by rw [c177]; decide) (off := 763) (by rw [c177]; decide) (tgt := 795) (by decide) ?_
                                              refine R_aload_n dL_law_795 rfl rfl ?_
                                              refine R_aload_n dL_law_796 rfl rfl ?_
                                              refine R_iload_n dL_law_797 rfl rfl ?_
                                              refine R_iconst dL_law_798 (v := 1) (by decide) ?_
                                              refine R_iadd dL_law_799 ?_
                                              obtain ⟨c178, H⟩ := it_some H
                                              refine R_sld dL_law_800 rfl (ck_in c178) ?_
                                              refine R_aload_n dL_law_801 rfl rfl ?_
                                              refine R_iload_n dL_law_802 rfl rfl ?_
                                              refine R_iconst dL_law_803 (v := 2) (by decide) ?_
                                              refine R_iadd dL_law_804 ?_
                                              obtain ⟨c179, H⟩ := it_some H
                                              refine R_sld dL_law_805 rfl (ck_in c179) ?_
                                              obtain ⟨r181, e180, H⟩ := bn_some H
                                              refine R_cV dL_law_806 lvL_95 ⟨Nat.le_of_ble_eq_true rfl, Nat.le_of_ble_eq_true rfl⟩ (r := 0) rfl (av := [.int (sp.2 (tn (x3 + 1))), .int (sp.2 (tn (x3 + 2)))]) (st := []) rfl rfl (Nat.le_of_ble_eq_true rfl) (tX7_likely e180) ?_
                                              refine R_aload_n dL_law_809 rfl rfl ?_
                                              refine R_aload_n dL_law_810 rfl rfl ?_
                                              refine R_iload_n dL_law_811 rfl rfl ?_
                                              refine R_iconst dL_law_812 (v := 1) (by decide) ?_
                                              refine R_iadd dL_law_813 ?_
                                              refine R_sld dL_law_814 rfl (ck_in c178) ?_
                                              refine R_aload_n dL_law_815 rfl rfl ?_
                                              refine R_iload_n dL_law_816 rfl rfl ?_
                                              refine R_iconst dL_law_817 (v := 2) (by decide) ?_
                                              refine R_iadd dL_law_818 ?_
                                              refine R_sld dL_law_819 rfl (ck_in c179) ?_
                                              obtain ⟨r183, e182, H⟩ := bn_some H
                                              refine R_cV dL_law_820 lvL_98 ⟨Nat.le_of_ble_eq_true rfl, Nat.le_of_ble_eq_true rfl⟩ (r := 54) rfl (av := [.int (sp.2 (tn (x3 + 1))), .int (sp.2 (tn (x3 + 2)))]) (st := [.int r181]) rfl rfl (Nat.le_of_ble_eq_true rfl) (tX8_likely e182) ?_
                                              rcases it_split H with ⟨c184, H⟩ | ⟨c184, H⟩
                                              · refine R_icmp_eq_t dL_law_823 (tgt := 1121) (by decide) c184 ?_
                                                refine R_iincW dL_law_1121 rfl (v := x3 + 5) rfl (by decide) rfl (ls2 := [.ref 73, .ref 0, .ref 54, .int (x3 + 5)]) rfl ?_
                                                refine R_goto dL_law_1124 (tgt := 18) (by decide) ?_
                                                exact ih _ _ _ _ H
                                              · refine R_icmp_eq_f dL_law_823 (tgt := 1121) (by decide) c184 ?_
                                                refine R_iconst dL_law_826 (v := 0) (by decide) ?_
                                                obtain ⟨rfl, rfl⟩ := so2 H
                                                exact R_retI dL_law_827 rfl (Or.inr ⟨rfl, bi_01 _⟩)
                                            · rcases it_split H with ⟨c185, H⟩ | ⟨c185, H⟩
                                              · refine R_tableIn dL_law_32 (by rw [c185]; decide) (by rw [c185]; decide) (off := 796) (by rw [c185]; decide) (tgt := 828) (by decide) ?_
                                                refine R_aload_n dL_law_828 rfl rfl ?_
                                                refine R_aload_n dL_law_829 rfl rfl ?_
                                                refine R_iload_n dL_law_830 rfl rfl ?_
                                                refine R_iconst dL_law_831 (v := 1) (by decide) ?_
                                                refine R_iadd dL_law_832 ?_
                                                obtain ⟨c186, H⟩ := it_some H
                                                refine R_sld dL_law_833 rfl (ck_in c186) ?_
                                                obtain ⟨r189, h188, e187, H⟩ := bn2_some H
                                                refine R_cV dL_law_834 lvL_99 ⟨Nat.le_of_ble_eq_true rfl, Nat.le_of_ble_eq_true rfl⟩ (r := 0) rfl (av := [.int (sp.2 (tn (x3 + 1)))]) (st := []) rfl rfl (Nat.le_of_ble_eq_true rfl) (tX7_hands e187) ?_
                                                refine R_aload_n dL_law_837 rfl rfl ?_
                                                refine R_aload_n dL_law_838 rfl rfl ?_
                                                refine R_iload_n dL_law_839 rfl rfl ?_
                                                refine R_iconst dL_law_840 (v := 1) (by decide) ?_
                                                refine R_iadd dL_law_841 ?_
                                                refine R_sld dL_law_842 rfl (ck_in c186) ?_
                                                obtain ⟨r192, h191, e190, H⟩ := bn2_some H
                                                refine R_cV dL_law_843 lvL_102 ⟨Nat.le_of_ble_eq_true rfl, Nat.le_of_ble_eq_true rfl⟩ (r := 54) rfl (av := [.int (sp.2 (tn (x3 + 1)))]) (st := [.int r189]) rfl rfl (Nat.le_of_ble_eq_true rfl) (tX8_hands e190) ?_
                                                rcases it_split H with ⟨c193, H⟩ | ⟨c193, H⟩
                                                · refine R_icmp_eq_t dL_law_846 (tgt := 1121) (by decide) c193 ?_
                                                  refine R_iincW dL_law_1121 rfl (v := x3 + 5) rfl (by decide) rfl (ls2 := [.ref 73, .ref 0, .ref 54, .int (x3 + 5)]) rfl ?_
                                                  refine R_goto dL_law_1124 (tgt := 18) (by decide) ?_
                                                  exact ih _ _ _ _ H
                                                · refine R_icmp_eq_f dL_law_846 (tgt := 1121) (by decide) c193 ?_
                                                  refine R_iconst dL_law_849 (v := 0) (by decide) ?_
                                                  obtain ⟨rfl, rfl⟩ := so2 H
                                                  exact R_retI dL_law_850 rfl (Or.inr ⟨rfl, bi_01 _⟩)
                                              · rcases it_split H with ⟨c194, H⟩ | ⟨c194, H⟩
                                                · refine R_tableIn dL_law_32 (by rw [c194]; decide) (by rw [c194]; decide) (off := 819) (by rw [c194]; decide) (tgt := 851) (by decide) ?_
                                                  refine R_aload_n dL_law_851 rfl rfl ?_
                                                  refine R_aload_n dL_law_852 rfl rfl ?_
                                                  refine R_iload_n dL_law_853 rfl rfl ?_
                                                  refine R_iconst dL_law_854 (v := 1) (by decide) ?_
                                                  refine R_iadd dL_law_855 ?_
                                                  obtain ⟨c195, H⟩ := it_some H
                                                  refine R_sld dL_law_856 rfl (ck_in c195) ?_
                                                  refine R_aload_n dL_law_857 rfl rfl ?_
                                                  refine R_iload_n dL_law_858 rfl rfl ?_
                                                  refine R_iconst dL_law_859 (v := 2) (by decide) ?_
                                                  refine R_iadd dL_law_860 ?_
                                                  obtain ⟨c196, H⟩ := it_some H
                                                  refine R_sld dL_law_861 rfl (ck_in c196) ?_
                                                  obtain ⟨r198, e197, H⟩ := bn_some H
                                                  refine R_cV dL_law_862 lvL_103 ⟨Nat.le_of_ble_eq_true rfl, Nat.le_of_ble_eq_true rfl⟩ (r := 0) rfl (av := [.int (sp.2 (tn (x3 + 1))), .int (sp.2 (tn (x3 + 2)))]) (st := []) rfl rfl (Nat.le_of_ble_eq_true rfl) (tX7_forged e197) ?_
                                                  refine R_aload_n dL_law_865 rfl rfl ?_
                                                  refine R_aload_n dL_law_866 rfl rfl ?_
                                                  refine R_iload_n dL_law_867 rfl rfl ?_
                                                  refine R_iconst dL_law_868 (v := 1) (by decide) ?_
                                                  refine R_iadd dL_law_869 ?_
                                                  refine R_sld dL_law_870 rfl (ck_in c195) ?_
                                                  refine R_aload_n dL_law_871 rfl rfl ?_
                                                  refine R_iload_n dL_law_872 rfl rfl ?_
                                                  refine R_iconst dL_law_873 (v := 2) (by decide) ?_
                                                  refine R_iadd dL_law_874 ?_
                                                  refine R_sld dL_law_875 rfl (ck_in c196) ?_
                                                  obtain ⟨r200, e199, H⟩ := bn_some H
                                                  refine R_cV dL_law_876 lvL_106 ⟨Nat.le_of_ble_eq_true rfl, Nat.le_of_ble_eq_true rfl⟩ (r := 54) rfl (av := [.int (sp.2 (tn (x3 + 1))), .int (sp.2 (tn (x3 + 2)))]) (st := [.int r198]) rfl rfl (Nat.le_of_ble_eq_true rfl) (tX8_forged e199) ?_
                                                  rcases it_split H with ⟨c201, H⟩ | ⟨c201, H⟩
                                                  · refine R_icmp_eq_t dL_law_879 (tgt := 1121) (by decide) c201 ?_
                                                    refine R_iincW dL_law_1121 rfl (v := x3 + 5) rfl (by decide) rfl (ls2 := [.ref 73, .ref 0, .ref 54, .int (x3 + 5)]) rfl ?_
                                                    refine R_goto dL_law_1124 (tgt := 18) (by decide) ?_
                                                    exact ih _ _ _ _ H
                                                  · refine R_icmp_eq_f dL_law_879 (tgt := 1121) (by decide) c201 ?_
                                                    refine R_iconst dL_law_882 (v := 0) (by decide) ?_
                                                    obtain ⟨rfl, rfl⟩ := so2 H
                                                    exact R_retI dL_law_883 rfl (Or.inr ⟨rfl, bi_01 _⟩)
                                                · rcases it_split H with ⟨c202, H⟩ | ⟨c202, H⟩
                                                  · refine R_tableIn dL_law_32 (by rw [c202]; decide) (by rw [c202]; decide) (off := 852) (by rw [c202]; decide) (tgt := 884) (by decide) ?_
                                                    refine R_aload_n dL_law_884 rfl rfl ?_
                                                    refine R_aload_n dL_law_885 rfl rfl ?_
                                                    refine R_iload_n dL_law_886 rfl rfl ?_
                                                    refine R_iconst dL_law_887 (v := 1) (by decide) ?_
                                                    refine R_iadd dL_law_888 ?_
                                                    obtain ⟨c203, H⟩ := it_some H
                                                    refine R_sld dL_law_889 rfl (ck_in c203) ?_
                                                    refine R_aload_n dL_law_890 rfl rfl ?_
                                                    refine R_iload_n dL_law_891 rfl rfl ?_
                                                    refine R_iconst dL_law_892 (v := 2) (by decide) ?_
                                                    refine R_iadd dL_law_893 ?_
                                                    obtain ⟨c204, H⟩ := it_some H
                                                    refine R_sld dL_law_894 rfl (ck_in c204) ?_
                                                    refine R_aload_n dL_law_895 rfl rfl ?_
                                                    refine R_iload_n dL_law_896 rfl rfl ?_
                                                    refine R_iconst dL_law_897 (v := 3) (by decide) ?_
                                                    refine R_iadd dL_law_898 ?_
                                                    obtain ⟨c205, H⟩ := it_some H
                                                    refine R_sld dL_law_899 rfl (ck_in c205) ?_
                                                    obtain ⟨r207, e206, H⟩ := bn_some H
                                                    refine R_cV dL_law_900 lvL_107 ⟨Nat.le_of_ble_eq_true rfl, Nat.le_of_ble_eq_true rfl⟩ (r := 0) rfl (av := [.int (sp.2 (tn (x3 + 1))), .int (sp.2 (tn (x3 + 2))), .int (sp.2 (tn (x3 + 3)))]) (st := []) rfl rfl (Nat.le_of_ble_eq_true rfl) (tX7_air e206) ?_
                                                    refine R_aload_n dL_law_903 rfl rfl ?_
                                                    refine R_aload_n dL_law_904 rfl rfl ?_
                                                    refine R_iload_n dL_law_905 rfl rfl ?_
                                                    refine R_iconst dL_law_906 (v := 1) (by decide) ?_
                                                    refine R_iadd dL_law_907 ?_
                                                    refine R_sld dL_law_908 rfl (ck_in c203) ?_
                                                    refine R_aload_n dL_law_909 rfl rfl ?_
                                                    refine R_iload_n dL_law_910 rfl rfl ?_
                                                    refine R_iconst dL_law_911 (v := 2) (by decide) ?_
                                                    refine R_iadd dL_law_912 ?_
                                                    refine R_sld dL_law_913 rfl (ck_in c204) ?_
                                                    refine R_aload_n dL_law_914 rfl rfl ?_
                                                    refine R_iload_n dL_law_915 rfl rfl ?_
                                                    refine R_iconst dL_law_916 (v := 3) (by decide) ?_
                                                    refine R_iadd dL_law_917 ?_
                                                    refine R_sld dL_law_918 rfl (ck_in c205) ?_
                                                    obtain ⟨r209, e208, H⟩ := bn_some H
                                                    refine R_cV dL_law_919 lvL_110 ⟨Nat.le_of_ble_eq_true rfl, Nat.le_of_ble_eq_true rfl⟩ (r := 54) rfl (av := [.int (sp.2 (tn (x3 + 1))), .int (sp.2 (tn (x3 + 2))), .int (sp.2 (tn (x3 + 3)))]) (st := [.int r207]) rfl rfl (Nat.le_of_ble_eq_true rfl) (tX8_air e208) ?_
                                                    rcases it_split H with ⟨c210, H⟩ | ⟨c210, H⟩
                                                    · refine R_icmp_eq_t dL_law_922 (tgt := 1121) (by decide) c210 ?_
                                                      refine R_iincW dL_law_1121 rfl (v := x3 + 5) rfl (by decide) rfl (ls2 := [.ref 73, .ref 0, .ref 54, .int (x3 + 5)]) rfl ?_
                                                      refine R_goto dL_law_1124 (tgt := 18) (by decide) ?_
                                                      exact ih _ _ _ _ H
                                                    · refine R_icmp_eq_f dL_law_922 (tgt := 1121) (by decide) c210 ?_
                                                      refine R_iconst dL_law_925 (v := 0) (by decide) ?_
                                                      obtain ⟨rfl, rfl⟩ := so2 H
                                                      exact R_retI dL_law_926 rfl (Or.inr ⟨rfl, bi_01 _⟩)
                                                  · rcases it_split H with ⟨c211, H⟩ | ⟨c211, H⟩
                                                    · refine R_tableIn dL_law_32 (by rw [c211]; decide) (by rw [c211]; decide) (off := 895) (by rw [c211]; decide) (tgt := 927) (by decide) ?_
                                                      refine R_aload_n dL_law_927 rfl rfl ?_
                                                      refine R_aload_n dL_law_928 rfl rfl ?_
                                                      refine R_iload_n dL_law_929 rfl rfl ?_
                                                      refine R_iconst dL_law_930 (v := 1) (by decide) ?_
                                                      refine R_iadd dL_law_931 ?_
                                                      obtain ⟨c212, H⟩ := it_some H
                                                      refine R_sld dL_law_932 rfl (ck_in c212) ?_
                                                      obtain ⟨r214, e213, H⟩ := bn_some H
                                                      refine R_cV dL_law_933 lvL_111 ⟨Nat.le_of_ble_eq_true rfl, Nat.le_of_ble_eq_true rfl⟩ (r := 0) rfl (av := [.int (sp.2 (tn (x3 + 1)))]) (st := []) rfl rfl (Nat.le_of_ble_eq_true rfl) (tX7_rain e213) ?_
                                                      refine R_aload_n dL_law_936 rfl rfl ?_
                                                      refine R_aload_n dL_law_937 rfl rfl ?_
                                                      refine R_iload_n dL_law_938 rfl rfl ?_
                                                      refine R_iconst dL_law_939 (v := 1) (by decide) ?_
                                                      refine R_iadd dL_law_940 ?_
                                                      refine R_sld dL_law_941 rfl (ck_in c212) ?_
                                                      obtain ⟨r216, e215, H⟩ := bn_some H
                                                      refine R_cV dL_law_942 lvL_114 ⟨Nat.le_of_ble_eq_true rfl, Nat.le_of_ble_eq_true rfl⟩ (r := 54) rfl (av := [.int (sp.2 (tn (x3 + 1)))]) (st := [.int r214]) rfl rfl (Nat.le_of_ble_eq_true rfl) (tX8_rain e215) ?_
                                                      rcases it_split H with ⟨c217, H⟩ | ⟨c217, H⟩
                                                      · refine R_icmp_eq_t dL_law_945 (tgt := 1121) (by decide) c217 ?_
                                                        refine R_iincW dL_law_1121 rfl (v := x3 + 5) rfl (by decide) rfl (ls2 := [.ref 73, .ref 0, .ref 54, .int (x3 + 5)]) rfl ?_
                                                        refine R_goto dL_law_1124 (tgt := 18) (by decide) ?_
                                                        exact ih _ _ _ _ H
                                                      · refine R_icmp_eq_f dL_law_945 (tgt := 1121) (by decide) c217 ?_
                                                        refine R_iconst dL_law_948 (v := 0) (by decide) ?_
                                                        obtain ⟨rfl, rfl⟩ := so2 H
                                                        exact R_retI dL_law_949 rfl (Or.inr ⟨rfl, bi_01 _⟩)
                                                    · rcases it_split H with ⟨c218, H⟩ | ⟨c218, H⟩
                                                      · refine R_tableIn dL_law_32 (by rw [c218]; decide) (by rw [c218]; decide) (off := 918) (by rw [c218]; decide) (tgt := 950) (by decide) ?_
                                                        refine R_aload_n dL_law_950 rfl rfl ?_
                                                        refine R_aload_n dL_law_951 rfl rfl ?_
                                                        refine R_iload_n dL_law_952 rfl rfl ?_
                                                        refine R_iconst dL_law_953 (v := 1) (by decide) ?_
                                                        refine R_iadd dL_law_954 ?_
                                                        obtain ⟨c219, H⟩ := it_some H
                                                        refine R_sld dL_law_955 rfl (ck_in c219) ?_
                                                        refine R_aload_n dL_law_956 rfl rfl ?_
                                                        refine R_iload_n dL_law_957 rfl rfl ?_
                                                        refine R_iconst dL_law_958 (v := 2) (by decide) ?_
                                                        refine R_iadd dL_law_959 ?_
                                                        obtain ⟨c220, H⟩ := it_some H
                                                        refine R_sld dL_law_960 rfl (ck_in c220) ?_
                                                        obtain ⟨r223, h222, e221, H⟩ := bn2_some H
                                                        refine R_cV dL_law_961 lvL_115 ⟨Nat.le_of_ble_eq_true rfl, Nat.le_of_ble_eq_true rfl⟩ (r := 0) rfl (av := [.int (sp.2 (tn (x3 + 1))), .int (sp.2 (tn (x3 + 2)))]) (st := []) rfl rfl (Nat.le_of_ble_eq_true rfl) (tX7_measure e221) ?_
                                                        refine R_aload_n dL_law_964 rfl rfl ?_
                                                        refine R_aload_n dL_law_965 rfl rfl ?_
                                                        refine R_iload_n dL_law_966 rfl rfl ?_
                                                        refine R_iconst dL_law_967 (v := 1) (by decide) ?_
                                                        refine R_iadd dL_law_968 ?_
                                                        refine R_sld dL_law_969 rfl (ck_in c219) ?_
                                                        refine R_aload_n dL_law_970 rfl rfl ?_
                                                        refine R_iload_n dL_law_971 rfl rfl ?_
                                                        refine R_iconst dL_law_972 (v := 2) (by decide) ?_
                                                        refine R_iadd dL_law_973 ?_
                                                        refine R_sld dL_law_974 rfl (ck_in c220) ?_
                                                        obtain ⟨r226, h225, e224, H⟩ := bn2_some H
                                                        refine R_cV dL_law_975 lvL_118 ⟨Nat.le_of_ble_eq_true rfl, Nat.le_of_ble_eq_true rfl⟩ (r := 54) rfl (av := [.int (sp.2 (tn (x3 + 1))), .int (sp.2 (tn (x3 + 2)))]) (st := [.int r223]) rfl rfl (Nat.le_of_ble_eq_true rfl) (tX8_measure e224) ?_
                                                        rcases it_split H with ⟨c227, H⟩ | ⟨c227, H⟩
                                                        · refine R_icmp_eq_t dL_law_978 (tgt := 1121) (by decide) c227 ?_
                                                          refine R_iincW dL_law_1121 rfl (v := x3 + 5) rfl (by decide) rfl (ls2 := [.ref 73, .ref 0, .ref 54, .int (x3 + 5)]) rfl ?_
                                                          refine R_goto dL_law_1124 (tgt := 18) (by decide) ?_
                                                          exact ih _ _ _ _ H
                                                        · refine R_icmp_eq_f dL_law_978 (tgt := 1121) (by decide) c227 ?_
                                                          refine R_iconst dL_law_981 (v := 0) (by decide) ?_
                                                          obtain ⟨rfl, rfl⟩ := so2 H
                                                          exact R_retI dL_law_982 rfl (Or.inr ⟨rfl, bi_01 _⟩)
                                                      · rcases it_split H with ⟨c228, H⟩ | ⟨c228, H⟩
                                                        · refine R_tableIn dL_law_32 (by rw [c228]; decide) (by rw [c228]; decide) (off := 951) (by rw [c228]; decide) (tgt := 983) (by decide) ?_
                                                          refine R_aload_n dL_law_983 rfl rfl ?_
                                                          refine R_aload_n dL_law_984 rfl rfl ?_
                                                          refine R_iload_n dL_law_985 rfl rfl ?_
                                                          refine R_iconst dL_law_986 (v := 1) (by decide) ?_
                                                          refine R_iadd dL_law_987 ?_
                                                          obtain ⟨c229, H⟩ := it_some H
                                                          refine R_sld dL_law_988 rfl (ck_in c229) ?_
                                                          refine R_aload_n dL_law_989 rfl rfl ?_
                                                          refine R_iload_n dL_law_990 rfl rfl ?_
                                                          refine R_iconst dL_law_991 (v := 2) (by decide) ?_
                                                          refine R_iadd dL_law_992 ?_
                                                          obtain ⟨c230, H⟩ := it_some H
                                                          refine R_sld dL_law_993 rfl (ck_in c230) ?_
                                                          refine R_aload_n dL_law_994 rfl rfl ?_
                                                          refine R_iload_n dL_law_995 rfl rfl ?_
                                                          refine R_iconst dL_law_996 (v := 3) (by decide) ?_
                                                          refine R_iadd dL_law_997 ?_
                                                          obtain ⟨c231, H⟩ := it_some H
                                                          refine R_sld dL_law_998 rfl (ck_in c231) ?_
                                                          obtain ⟨r234, h233, e232, H⟩ := bn2_some H
                                                          refine R_cV dL_law_999 lvL_119 ⟨Nat.le_of_ble_eq_true rfl, Nat.le_of_ble_eq_true rfl⟩ (r := 0) rfl (av := [.int (sp.2 (tn (x3 + 1))), .int (sp.2 (tn (x3 + 2))), .int (sp.2 (tn (x3 + 3)))]) (st := []) rfl rfl (Nat.le_of_ble_eq_true rfl) (tX7_write e232) ?_
                                                          refine R_aload_n dL_law_1002 rfl rfl ?_
                                                          refine R_aload_n dL_law_1003 rfl rfl ?_
                                                          refine R_iload_n dL_law_1004 rfl rfl ?_
                                                          refine R_iconst dL_law_1005 (v := 1) (by decide) ?_
                                                          refine R_iadd dL_law_1006 ?_
                                                          refine R_sld dL_law_1007 rfl (ck_in c229) ?_
                                                          refine R_aload_n dL_law_1008 rfl rfl ?_
                                                          refine R_iload_n dL_law_1009 rfl rfl ?_
                                                          refine R_iconst dL_law_1010 (v := 2) (by decide) ?_
                                                          refine R_iadd dL_law_1011 ?_
                                                          refine R_sld dL_law_1012 rfl (ck_in c230) ?_
                                                          refine R_aload_n dL_law_1013 rfl rfl ?_
                                                          refine R_iload_n dL_law_1014 rfl rfl ?_
                                                          refine R_iconst dL_law_1015 (v := 3) (by decide) ?_
                                                          refine R_iadd dL_law_1016 ?_
                                                          refine R_sld dL_law_1017 rfl (ck_in c231) ?_
                                                          obtain ⟨r237, h236, e235, H⟩ := bn2_some H
                                                          refine R_cV dL_law_1018 lvL_122 ⟨Nat.le_of_ble_eq_true rfl, Nat.le_of_ble_eq_true rfl⟩ (r := 54) rfl (av := [.int (sp.2 (tn (x3 + 1))), .int (sp.2 (tn (x3 + 2))), .int (sp.2 (tn (x3 + 3)))]) (st := [.int r234]) rfl rfl (Nat.le_of_ble_eq_true rfl) (tX8_write e235) ?_
                                                          rcases it_split H with ⟨c238, H⟩ | ⟨c238, H⟩
                                                          · refine R_icmp_eq_t dL_law_1021 (tgt := 1121) (by decide) c238 ?_
                                                            refine R_iincW dL_law_1121 rfl (v := x3 + 5) rfl (by decide) rfl (ls2 := [.ref 73, .ref 0, .ref 54, .int (x3 + 5)]) rfl ?_
                                                            refine R_goto dL_law_1124 (tgt := 18) (by decide) ?_
                                                            exact ih _ _ _ _ H
                                                          · refine R_icmp_eq_f dL_law_1021 (tgt := 1121) (by decide) c238 ?_
                                                            refine R_iconst dL_law_1024 (v := 0) (by decide) ?_
                                                            obtain ⟨rfl, rfl⟩ := so2 H
                                                            exact R_retI dL_law_1025 rfl (Or.inr ⟨rfl, bi_01 _⟩)
                                                        · rcases it_split H with ⟨c239, H⟩ | ⟨c239, H⟩
                                                          · refine R_tableIn dL_law_32 (by rw [c239]; decide) (by rw [c239]; decide) (off := 994) (by rw [c239]; decide) (tgt := 1026) (by decide) ?_
                                                            refine R_aload_n dL_law_1026 rfl rfl ?_
                                                            obtain ⟨r241, e240, H⟩ := bn_some H
                                                            refine R_cV dL_law_1027 lvL_123 ⟨Nat.le_of_ble_eq_true rfl, Nat.le_of_ble_eq_true rfl⟩ (r := 0) rfl (av := []) (st := []) rfl rfl (Nat.le_of_ble_eq_true rfl) (tX7_judge e240) ?_
                                                            refine R_aload_n dL_law_1030 rfl rfl ?_
                                                            obtain ⟨r243, e242, H⟩ := bn_some H
                                                            refine R_cV dL_law_1031 lvL_126 ⟨Nat.le_of_ble_eq_true rfl, Nat.le_of_ble_eq_true rfl⟩ (r := 54) rfl (av := []) (st := [.int r241]) rfl rfl (Nat.le_of_ble_eq_true rfl) (tX8_judge e242) ?_
                                                            rcases it_split H with ⟨c244, H⟩ | ⟨c244, H⟩
                                                            · refine R_icmp_eq_t dL_law_1034 (tgt := 1121) (by decide) c244 ?_
                                                              refine R_iincW dL_law_1121 rfl (v := x3 + 5) rfl (by decide) rfl (ls2 := [.ref 73, .ref 0, .ref 54, .int (x3 + 5)]) rfl ?_
                                                              refine R_goto dL_law_1124 (tgt := 18) (by decide) ?_
                                                              exact ih _ _ _ _ H
                                                            · refine R_icmp_eq_f dL_law_1034 (tgt := 1121) (by decide) c244 ?_
                                                              refine R_iconst dL_law_1037 (v := 0) (by decide) ?_
                                                              obtain ⟨rfl, rfl⟩ := so2 H
                                                              exact R_retI dL_law_1038 rfl (Or.inr ⟨rfl, bi_01 _⟩)
                                                          · rcases it_split H with ⟨c245, H⟩ | ⟨c245, H⟩
                                                            · refine R_tableIn dL_law_32 (by rw [c245]; decide) (by rw [c245]; decide) (off := 1007) (by rw [c245]; decide) (tgt := 1039) (by decide) ?_
                                                              refine R_aload_n dL_law_1039 rfl rfl ?_
                                                              obtain ⟨r248, h247, e246, H⟩ := bn2_some H
                                                              refine R_cV dL_law_1040 lvL_127 ⟨Nat.le_of_ble_eq_true rfl, Nat.le_of_ble_eq_true rfl⟩ (r := 0) rfl (av := []) (st := []) rfl rfl (Nat.le_of_ble_eq_true rfl) (tX7_tear e246) ?_
                                                              refine R_aload_n dL_law_1043 rfl rfl ?_
                                                              obtain ⟨r251, h250, e249, H⟩ := bn2_some H
                                                              refine R_cV dL_law_1044 lvL_130 ⟨Nat.le_of_ble_eq_true rfl, Nat.le_of_ble_eq_true rfl⟩ (r := 54) rfl (av := []) (st := [.int r248]) rfl rfl (Nat.le_of_ble_eq_true rfl) (tX8_tear e249) ?_
                                                              rcases it_split H with ⟨c252, H⟩ | ⟨c252, H⟩
                                                              · refine R_icmp_eq_t dL_law_1047 (tgt := 1121) (by decide) c252 ?_
                                                                refine R_iincW dL_law_1121 rfl (v := x3 + 5) rfl (by decide) rfl (ls2 := [.ref 73, .ref 0, .ref 54, .int (x3 + 5)]) rfl ?_
                                                                refine R_goto dL_law_1124 (tgt := 18) (by decide) ?_
                                                                exact ih _ _ _ _ H
                                                              · refine R_icmp_eq_f dL_law_1047 (tgt := 1121) (by decide) c252 ?_
                                                                refine R_iconst dL_law_1050 (v := 0) (by decide) ?_
                                                                obtain ⟨rfl, rfl⟩ := so2 H
                                                                exact R_retI dL_law_1051 rfl (Or.inr ⟨rfl, bi_01 _⟩)
                                                            · rcases it_split H with ⟨c253, H⟩ | ⟨c253, H⟩
                                                              · refine R_tableIn dL_law_32 (by rw [c253]; decide) (by rw [c253]; decide) (off := 1020) (by rw [c253]; decide) (tgt := 1052) (by decide) ?_
                                                                refine R_aload_n dL_law_1052 rfl rfl ?_
                                                                refine R_aload_n dL_law_1053 rfl rfl ?_
                                                                refine R_iload_n dL_law_1054 rfl rfl ?_
                                                                refine R_iconst dL_law_1055 (v := 1) (by decide) ?_
                                                                refine R_iadd dL_law_1056 ?_
                                                                obtain ⟨c254, H⟩ := it_some H
                                                                refine R_sld dL_law_1057 rfl (ck_in c254) ?_
                                                                obtain ⟨r257, h256, e255, H⟩ := bn2_some H
                                                                refine R_cV dL_law_1058 lvL_131 ⟨Nat.le_of_ble_eq_true rfl, Nat.le_of_ble_eq_true rfl⟩ (r := 0) rfl (av := [.int (sp.2 (tn (x3 + 1)))]) (st := []) rfl rfl (Nat.le_of_ble_eq_true rfl) (tX7_seed e255) ?_
                                                                refine R_aload_n dL_law_1061 rfl rfl ?_
                                                                refine R_aload_n dL_law_1062 rfl rfl ?_
                                                                refine R_iload_n dL_law_1063 rfl rfl ?_
                                                                refine R_iconst dL_law_1064 (v := 1) (by decide) ?_
                                                                refine R_iadd dL_law_1065 ?_
                                                                refine R_sld dL_law_1066 rfl (ck_in c254) ?_
                                                                obtain ⟨r260, h259, e258, H⟩ := bn2_some H
                                                                refine R_cV dL_law_1067 lvL_134 ⟨Nat.le_of_ble_eq_true rfl, Nat.le_of_ble_eq_true rfl⟩ (r := 54) rfl (av := [.int (sp.2 (tn (x3 + 1)))]) (st := [.int r257]) rfl rfl (Nat.le_of_ble_eq_true rfl) (tX8_seed e258) ?_
                                                                rcases it_split H with ⟨c261, H⟩ | ⟨c261, H⟩
                                                                · refine R_icmp_eq_t dL_law_1070 (tgt := 1121) (by decide) c261 ?_
                                                                  refine R_iincW dL_law_1121 rfl (v := x3 + 5) rfl (by decide) rfl (ls2 := [.ref 73, .ref 0, .ref 54, .int (x3 + 5)]) rfl ?_
                                                                  refine R_goto dL_law_1124 (tgt := 18) (by decide) ?_
                                                                  exact ih _ _ _ _ H
                                                                · refine R_icmp_eq_f dL_law_1070 (tgt := 1121) (by decide) c261 ?_
                                                                  refine R_iconst dL_law_1073 (v := 0) (by decide) ?_
                                                                  obtain ⟨rfl, rfl⟩ := so2 H
                                                                  exact R_retI dL_law_1074 rfl (Or.inr ⟨rfl, bi_01 _⟩)
                                                              · rcases it_split H with ⟨c262, H⟩ | ⟨c262, H⟩
                                                                · refine R_tableIn dL_law_32 (by rw [c262]; decide) (by rw [c262]; decide) (off := 1043) (by rw [c262]; decide) (tgt := 1075) (by decide) ?_
                                                                  refine R_aload_n dL_law_1075 rfl rfl ?_
                                                                  refine R_aload_n dL_law_1076 rfl rfl ?_
                                                                  refine R_iload_n dL_law_1077 rfl rfl ?_
                                                                  refine R_iconst dL_law_1078 (v := 1) (by decide) ?_
                                                                  refine R_iadd dL_law_1079 ?_
                                                                  obtain ⟨c263, H⟩ := it_some H
                                                                  refine R_sld dL_law_1080 rfl (ck_in c263) ?_
                                                                  obtain ⟨r266, h265, e264, H⟩ := bn2_some H
                                                                  refine R_cV dL_law_1081 lvL_135 ⟨Nat.le_of_ble_eq_true rfl, Nat.le_of_ble_eq_true rfl⟩ (r := 0) rfl (av := [.int (sp.2 (tn (x3 + 1)))]) (st := []) rfl rfl (Nat.le_of_ble_eq_true rfl) (tX7_keep e264) ?_
                                                                  refine R_aload_n dL_law_1084 rfl rfl ?_
                                                                  refine R_aload_n dL_law_1085 rfl rfl ?_
                                                                  refine R_iload_n dL_law_1086 rfl rfl ?_
                                                                  refine R_iconst dL_law_1087 (v := 1) (by decide) ?_
                                                                  refine R_iadd dL_law_1088 ?_
                                                                  refine R_sld dL_law_1089 rfl (ck_in c263) ?_
                                                                  obtain ⟨r269, h268, e267, H⟩ := bn2_some H
                                                                  refine R_cV dL_law_1090 lvL_138 ⟨Nat.le_of_ble_eq_true rfl, Nat.le_of_ble_eq_true rfl⟩ (r := 54) rfl (av := [.int (sp.2 (tn (x3 + 1)))]) (st := [.int r266]) rfl rfl (Nat.le_of_ble_eq_true rfl) (tX8_keep e267) ?_
                                                                  rcases it_split H with ⟨c270, H⟩ | ⟨c270, H⟩
                                                                  · refine R_icmp_eq_t dL_law_1093 (tgt := 1121) (by decide) c270 ?_
                                                                    refine R_iincW dL_law_1121 rfl (v := x3 + 5) rfl (by decide) rfl (ls2 := [.ref 73, .ref 0, .ref 54, .int (x3 + 5)]) rfl ?_
                                                                    refine R_goto dL_law_1124 (tgt := 18) (by decide) ?_
                                                                    exact ih _ _ _ _ H
                                                                  · refine R_icmp_eq_f dL_law_1093 (tgt := 1121) (by decide) c270 ?_
                                                                    refine R_iconst dL_law_1096 (v := 0) (by decide) ?_
                                                                    obtain ⟨rfl, rfl⟩ := so2 H
                                                                    exact R_retI dL_law_1097 rfl (Or.inr ⟨rfl, bi_01 _⟩)
                                                                · rcases it_split H with ⟨c271, H⟩ | ⟨c271, H⟩
                                                                  · refine R_tableIn dL_law_32 (by rw [c271]; decide) (by rw [c271]; decide) (off := 1066) (by rw [c271]; decide) (tgt := 1098) (by decide) ?_
                                                                    refine R_aload_n dL_law_1098 rfl rfl ?_
                                                                    refine R_aload_n dL_law_1099 rfl rfl ?_
                                                                    refine R_iload_n dL_law_1100 rfl rfl ?_
                                                                    refine R_iconst dL_law_1101 (v := 1) (by decide) ?_
                                                                    refine R_iadd dL_law_1102 ?_
                                                                    obtain ⟨c272, H⟩ := it_some H
                                                                    refine R_sld dL_law_1103 rfl (ck_in c272) ?_
                                                                    obtain ⟨r275, h274, e273, H⟩ := bn2_some H
                                                                    refine R_cV dL_law_1104 lvL_139 ⟨Nat.le_of_ble_eq_true rfl, Nat.le_of_ble_eq_true rfl⟩ (r := 0) rfl (av := [.int (sp.2 (tn (x3 + 1)))]) (st := []) rfl rfl (Nat.le_of_ble_eq_true rfl) (tX7_goBack e273) ?_
                                                                    refine R_aload_n dL_law_1107 rfl rfl ?_
                                                                    refine R_aload_n dL_law_1108 rfl rfl ?_
                                                                    refine R_iload_n dL_law_1109 rfl rfl ?_
                                                                    refine R_iconst dL_law_1110 (v := 1) (by decide) ?_
                                                                    refine R_iadd dL_law_1111 ?_
                                                                    refine R_sld dL_law_1112 rfl (ck_in c272) ?_
                                                                    obtain ⟨r278, h277, e276, H⟩ := bn2_some H
                                                                    refine R_cV dL_law_1113 lvL_142 ⟨Nat.le_of_ble_eq_true rfl, Nat.le_of_ble_eq_true rfl⟩ (r := 54) rfl (av := [.int (sp.2 (tn (x3 + 1)))]) (st := [.int r275]) rfl rfl (Nat.le_of_ble_eq_true rfl) (tX8_goBack e276) ?_
                                                                    rcases it_split H with ⟨c279, H⟩ | ⟨c279, H⟩
                                                                    · refine R_icmp_eq_t dL_law_1116 (tgt := 1121) (by decide) c279 ?_
                                                                      refine R_iincW dL_law_1121 rfl (v := x3 + 5) rfl (by decide) rfl (ls2 := [.ref 73, .ref 0, .ref 54, .int (x3 + 5)]) rfl ?_
                                                                      refine R_goto dL_law_1124 (tgt := 18) (by decide) ?_
                                                                      exact ih _ _ _ _ H
                                                                    · refine R_icmp_eq_f dL_law_1116 (tgt := 1121) (by decide) c279 ?_
                                                                      refine R_iconst dL_law_1119 (v := 0) (by decide) ?_
                                                                      obtain ⟨rfl, rfl⟩ := so2 H
                                                                      exact R_retI dL_law_1120 rfl (Or.inr ⟨rfl, bi_01 _⟩)
                                                                  · have nc3 : Int32.toInt ((sp.2 (tn x3)) &&& 31) ≠ 0 := ti_ne c3
                                                                    have nc12 : Int32.toInt ((sp.2 (tn x3)) &&& 31) ≠ 1 := ti_ne c12
                                                                    have nc20 : Int32.toInt ((sp.2 (tn x3)) &&& 31) ≠ 2 := ti_ne c20
                                                                    have nc26 : Int32.toInt ((sp.2 (tn x3)) &&& 31) ≠ 3 := ti_ne c26
                                                                    have nc33 : Int32.toInt ((sp.2 (tn x3)) &&& 31) ≠ 4 := ti_ne c33
                                                                    have nc41 : Int32.toInt ((sp.2 (tn x3)) &&& 31) ≠ 5 := ti_ne c41
                                                                    have nc49 : Int32.toInt ((sp.2 (tn x3)) &&& 31) ≠ 6 := ti_ne c49
                                                                    have nc58 : Int32.toInt ((sp.2 (tn x3)) &&& 31) ≠ 7 := ti_ne c58
                                                                    have nc78 : Int32.toInt ((sp.2 (tn x3)) &&& 31) ≠ 8 := ti_ne c78
                                                                    have nc87 : Int32.toInt ((sp.2 (tn x3)) &&& 31) ≠ 9 := ti_ne c87
                                                                    have nc96 : Int32.toInt ((sp.2 (tn x3)) &&& 31) ≠ 10 := ti_ne c96
                                                                    have nc105 : Int32.toInt ((sp.2 (tn x3)) &&& 31) ≠ 11 := ti_ne c105
                                                                    have nc114 : Int32.toInt ((sp.2 (tn x3)) &&& 31) ≠ 12 := ti_ne c114
                                                                    have nc122 : Int32.toInt ((sp.2 (tn x3)) &&& 31) ≠ 13 := ti_ne c122
                                                                    have nc132 : Int32.toInt ((sp.2 (tn x3)) &&& 31) ≠ 14 := ti_ne c132
                                                                    have nc140 : Int32.toInt ((sp.2 (tn x3)) &&& 31) ≠ 15 := ti_ne c140
                                                                    have nc149 : Int32.toInt ((sp.2 (tn x3)) &&& 31) ≠ 16 := ti_ne c149
                                                                    have nc158 : Int32.toInt ((sp.2 (tn x3)) &&& 31) ≠ 17 := ti_ne c158
                                                                    have nc168 : Int32.toInt ((sp.2 (tn x3)) &&& 31) ≠ 18 := ti_ne c168
                                                                    have nc177 : Int32.toInt ((sp.2 (tn x3)) &&& 31) ≠ 19 := ti_ne c177
                                                                    have nc185 : Int32.toInt ((sp.2 (tn x3)) &&& 31) ≠ 20 := ti_ne c185
                                                                    have nc194 : Int32.toInt ((sp.2 (tn x3)) &&& 31) ≠ 21 := ti_ne c194
                                                                    have nc202 : Int32.toInt ((sp.2 (tn x3)) &&& 31) ≠ 22 := ti_ne c202
                                                                    have nc211 : Int32.toInt ((sp.2 (tn x3)) &&& 31) ≠ 23 := ti_ne c211
                                                                    have nc218 : Int32.toInt ((sp.2 (tn x3)) &&& 31) ≠ 24 := ti_ne c218
                                                                    have nc228 : Int32.toInt ((sp.2 (tn x3)) &&& 31) ≠ 25 := ti_ne c228
                                                                    have nc239 : Int32.toInt ((sp.2 (tn x3)) &&& 31) ≠ 26 := ti_ne c239
                                                                    have nc245 : Int32.toInt ((sp.2 (tn x3)) &&& 31) ≠ 27 := ti_ne c245
                                                                    have nc253 : Int32.toInt ((sp.2 (tn x3)) &&& 31) ≠ 28 := ti_ne c253
                                                                    have nc262 : Int32.toInt ((sp.2 (tn x3)) &&& 31) ≠ 29 := ti_ne c262
                                                                    have nc271 : Int32.toInt ((sp.2 (tn x3)) &&& 31) ≠ 30 := ti_ne c271
                                                                    refine R_tableOut dL_law_32 (x := ((sp.2 (tn x3)) &&& 31)) (by omega) (tgt := 1121) (by decide) ?_
                                                                    refine R_iincW dL_law_1121 rfl (v := x3 + 5) rfl (by decide) rfl (ls2 := [.ref 73, .ref 0, .ref 54, .int (x3 + 5)]) rfl ?_
                                                                    refine R_goto dL_law_1124 (tgt := 18) (by decide) ?_
                                                                    exact ih _ _ _ _ H

set_option maxRecDepth 100000 in
set_option maxHeartbeats 4000000 in
theorem tL_law {sp : Nat × (Nat → Int32)} {h : aH} {r : Bool} {h2 : aH} (H : fL_law sp h = some (r, h2)) : Rn sp mL_law 16 [.ref 73, .ref 0, .ref 54, .null] [] h (some (.int (bi r))) h2 := by
  unfold fL_law at H
  refine R_iconst dL_law_16 (v := 0) (by decide) ?_
  refine R_istoreN dL_law_17 rfl (by decide) rfl (ls2 := [.ref 73, .ref 0, .ref 54, .int 0]) rfl ?_
  refine tL_law_L18 (fun h280 r h2 H => ?_) _ _ _ _ _ H
  refine R_iconst dL_law_1127 (v := 1) (by decide) ?_
  obtain ⟨rfl, rfl⟩ := so2 H
  exact R_retI dL_law_1128 rfl (Or.inr ⟨rfl, bi_01 _⟩)
