set_option maxHeartbeats 4000000 in
set_option maxRecDepth 100000 in
theorem lc_add {p : Program} {l : Launch} {e : Env} {s : State} {m : MethodId} {below : List Frame} {meth : Method} {c : Code} {D : va_G} {cI cJ cZ cV cR : ClassId} {b L : Nat} {xs : Nat → Int32} {A : Nat → Prop} {a a' : Nat → Nat} {o cells slots : Nat} {Q : State → Prop} (F : LF p l s m c D cI cJ cZ cV cR b L xs A) (hcl : cells + 3 ≤ room_1.cells) (hsl : slots + 346 ≤ room_1.slots) (i : Nat) (hi : i + 8 ≤ L) (C : CT) (VT : Nat → VRec) (RT : Nat → RRec) (M : MT) (th : Nat) (lds : Nat → Bool) (ov : Nat → Int64) (H : Heap) (locs : List Loc) (hR : Rel cI cZ C VT RT M) (hP : va_P D vwCl ((oW cJ o (ov) ++ kW cI cJ cZ cV cR a (C)) ++ mW cI cJ cZ a' (th) (lds) (M)) H) (hD : va_D A ((oW cJ o (ov) ++ kW cI cJ cZ cV cR a (C)) ++ mW cI cJ cZ a' (th) (lds) (M))) (hS : va_S A s.heap H locs) (ls : Array Slot) (hl : lv_has ls 8 [(0, .ref b), (1, .ref (a 0)), (2, .ref (a' 0)), (3, .ref o), (4, .int (nI (i)))]) (kk : ∀ (C : CT) (VT : Nat → VRec) (RT : Nat → RRec) (M : MT) (th : Nat) (lds : Nat → Bool) (ov : Nat → Int64) (H : Heap) (locs : List Loc), Rel cI cZ C VT RT M → va_P D vwCl ((oW cJ o (ov) ++ kW cI cJ cZ cV cR a (C)) ++ mW cI cJ cZ a' (th) (lds) (M)) H → va_D A ((oW cJ o (ov) ++ kW cI cJ cZ cV cR a (C)) ++ mW cI cJ cZ a' (th) (lds) (M)) → va_S A s.heap H locs → ∀ ls : Array Slot, lv_has ls 8 [(0, .ref b), (1, .ref (a 0)), (2, .ref (a' 0)), (3, .ref o), (4, .int (nI (i)))] → W p l e room_1 s m #[Value.ref b] below meth c H locs (cells + 3) (slots + 346) Q (F0 m 2089 ls [])) : W p l e room_1 s m #[Value.ref b] below meth c H locs (cells) (slots) Q (F0 m 156 ls []) := by
  obtain ⟨htr, hx, hb, hml, hown, hts, hX, hbl, hbA, hL, hA, hK, hYE, hc92⟩ := F
  have hKW : va_K D vwCl (tyW cI cJ cZ) s := hK.sub (tys' := tyW cI cJ cZ) [0, 1, 2] rfl
  refine lv_aload_n hx hb dL_law_156 rfl (lv_at hl 1 rfl) ?_
  refine lv_aload_n hx hb dL_law_157 rfl (lv_at hl 0 rfl) ?_
  refine lv_iload hx hb dL_law_158 (lv_at hl 4 rfl) ?_
  refine lv_iconst (v := nI (1)) hx hb dL_law_160 (by decide) ?_
  refine lv_iadd hx hb dL_law_161 (ww_top (y := nI (i + 1)) (nI_addn _ _) ?_)
  refine ws_sld (i := i + 1) hx hb hX hbl hbA hS (by omega) hL dL_law_162 ?_
  refine lv_i2l (v := (xs (i + 1)).toInt64) hx hb dL_law_163 rfl ?_
  refine lv_bipush (v := nI (32)) hx hb dL_law_164 (by decide) ?_
  refine lv_lshl (v := ((xs (i + 1)).toInt64 <<< ((nI (32)).toInt64 &&& 63))) hx hb dL_law_166 rfl ?_
  refine lv_aload_n hx hb dL_law_167 rfl (lv_at hl 0 rfl) ?_
  refine lv_iload hx hb dL_law_168 (lv_at hl 4 rfl) ?_
  refine lv_iconst (v := nI (2)) hx hb dL_law_170 (by decide) ?_
  refine lv_iadd hx hb dL_law_171 (ww_top (y := nI (i + 2)) (nI_addn _ _) ?_)
  refine ws_sld (i := i + 2) hx hb hX hbl hbA hS (by omega) hL dL_law_172 ?_
  refine lv_i2l (v := (xs (i + 2)).toInt64) hx hb dL_law_173 rfl ?_
  refine lv_ldc2 (v := 4294967295) hx hb hown hc92 dL_law_174 ?_
  refine lv_land hx hb dL_law_177 ?_
  refine lv_lor hx hb dL_law_178 (ww_topl (y := lgJ (xs (i + 1)) (xs (i + 2))) rfl ?_)
  refine lv_aload_n hx hb dL_law_179 rfl (lv_at hl 0 rfl) ?_
  refine lv_iload hx hb dL_law_180 (lv_at hl 4 rfl) ?_
  refine lv_iconst (v := nI (3)) hx hb dL_law_182 (by decide) ?_
  refine lv_iadd hx hb dL_law_183 (ww_top (y := nI (i + 3)) (nI_addn _ _) ?_)
  refine ws_sld (i := i + 3) hx hb hX hbl hbA hS (by omega) hL dL_law_184 ?_
  refine lv_i2l (v := (xs (i + 3)).toInt64) hx hb dL_law_185 rfl ?_
  refine lv_bipush (v := nI (32)) hx hb dL_law_186 (by decide) ?_
  refine lv_lshl (v := ((xs (i + 3)).toInt64 <<< ((nI (32)).toInt64 &&& 63))) hx hb dL_law_188 rfl ?_
  refine lv_aload_n hx hb dL_law_189 rfl (lv_at hl 0 rfl) ?_
  refine lv_iload hx hb dL_law_190 (lv_at hl 4 rfl) ?_
  refine lv_iconst (v := nI (4)) hx hb dL_law_192 (by decide) ?_
  refine lv_iadd hx hb dL_law_193 (ww_top (y := nI (i + 4)) (nI_addn _ _) ?_)
  refine ws_sld (i := i + 4) hx hb hX hbl hbA hS (by omega) hL dL_law_194 ?_
  refine lv_i2l (v := (xs (i + 4)).toInt64) hx hb dL_law_195 rfl ?_
  refine lv_ldc2 (v := 4294967295) hx hb hown hc92 dL_law_196 ?_
  refine lv_land hx hb dL_law_199 ?_
  refine lv_lor hx hb dL_law_200 (ww_topl (y := lgJ (xs (i + 3)) (xs (i + 4))) rfl ?_)
  refine lv_aload_n hx hb dL_law_201 rfl (lv_at hl 0 rfl) ?_
  refine lv_iload hx hb dL_law_202 (lv_at hl 4 rfl) ?_
  refine lv_iconst (v := nI (5)) hx hb dL_law_204 (by decide) ?_
  refine lv_iadd hx hb dL_law_205 (ww_top (y := nI (i + 5)) (nI_addn _ _) ?_)
  refine ws_sld (i := i + 5) hx hb hX hbl hbA hS (by omega) hL dL_law_206 ?_
  refine lv_i2l (v := (xs (i + 5)).toInt64) hx hb dL_law_207 rfl ?_
  refine lv_bipush (v := nI (32)) hx hb dL_law_208 (by decide) ?_
  refine lv_lshl (v := ((xs (i + 5)).toInt64 <<< ((nI (32)).toInt64 &&& 63))) hx hb dL_law_210 rfl ?_
  refine lv_aload_n hx hb dL_law_211 rfl (lv_at hl 0 rfl) ?_
  refine lv_iload hx hb dL_law_212 (lv_at hl 4 rfl) ?_
  refine lv_bipush (v := nI (6)) hx hb dL_law_214 (by decide) ?_
  refine lv_iadd hx hb dL_law_216 (ww_top (y := nI (i + 6)) (nI_addn _ _) ?_)
  refine ws_sld (i := i + 6) hx hb hX hbl hbA hS (by omega) hL dL_law_217 ?_
  refine lv_i2l (v := (xs (i + 6)).toInt64) hx hb dL_law_218 rfl ?_
  refine lv_ldc2 (v := 4294967295) hx hb hown hc92 dL_law_219 ?_
  refine lv_land hx hb dL_law_222 ?_
  refine lv_lor hx hb dL_law_223 (ww_topl (y := lgJ (xs (i + 5)) (xs (i + 6))) rfl ?_)
  have hP := fr_as (fr_comm hP)
  have hD := fd_as (fd_comm hD)
  refine wf_VWi (rest := []) (X := mW cI cJ cZ a' (th) (lds) (M) ++ oW cJ o (ov)) (wf := kW cI cJ cZ cV cR a) ⟨hx, hb, hml, hown, hts⟩ (c_X5_add l D cI cJ cZ cV cR a C hR.1 (lgJ (xs (i + 1)) (xs (i + 2))) (lgJ (xs (i + 3)) (xs (i + 4))) (lgJ (xs (i + 5)) (xs (i + 6)))  H.size) (cwV 3 hts gL_law_X5_add rfl rfl rfl (by decide +kernel) ⟨Nat.le_of_ble_eq_true rfl, Nat.le_of_ble_eq_true rfl⟩) hP hK hD hS hA 0 rfl rfl rfl hl.1 rfl (Nat.le_of_ble_eq_true rfl) dL_law_224 ⟨by omega, by omega⟩ (fun rr u hu H locs hP hD hS => ?_)
  obtain ⟨hrr, hu⟩ := hu
  have hJ := rel_add hR (lgJ (xs (i + 1)) (xs (i + 2))) (lgJ (xs (i + 3)) (xs (i + 4))) (lgJ (xs (i + 5)) (xs (i + 6)))
  have hR1 := hJ.2
  rw [← hu] at hR1
  have hrr := hrr.trans hJ.1
  have hP : va_P D vwCl ((oW cJ o (ov) ++ kW cI cJ cZ cV cR a (u)) ++ mW cI cJ cZ a' (th) (lds) (M)) H := fr_comm (fr_sa hP)
  have hD : va_D A ((oW cJ o (ov) ++ kW cI cJ cZ cV cR a (u)) ++ mW cI cJ cZ a' (th) (lds) (M)) := fd_comm (fd_sa hD)
  refine lv_aload_n hx hb dL_law_227 rfl (lv_at hl 2 rfl) ?_
  refine lv_aload_n hx hb dL_law_228 rfl (lv_at hl 0 rfl) ?_
  refine lv_iload hx hb dL_law_229 (lv_at hl 4 rfl) ?_
  refine lv_iconst (v := nI (1)) hx hb dL_law_231 (by decide) ?_
  refine lv_iadd hx hb dL_law_232 (ww_top (y := nI (i + 1)) (nI_addn _ _) ?_)
  refine ws_sld (i := i + 1) hx hb hX hbl hbA hS (by omega) hL dL_law_233 ?_
  refine lv_i2l (v := (xs (i + 1)).toInt64) hx hb dL_law_234 rfl ?_
  refine lv_bipush (v := nI (32)) hx hb dL_law_235 (by decide) ?_
  refine lv_lshl (v := ((xs (i + 1)).toInt64 <<< ((nI (32)).toInt64 &&& 63))) hx hb dL_law_237 rfl ?_
  refine lv_aload_n hx hb dL_law_238 rfl (lv_at hl 0 rfl) ?_
  refine lv_iload hx hb dL_law_239 (lv_at hl 4 rfl) ?_
  refine lv_iconst (v := nI (2)) hx hb dL_law_241 (by decide) ?_
  refine lv_iadd hx hb dL_law_242 (ww_top (y := nI (i + 2)) (nI_addn _ _) ?_)
  refine ws_sld (i := i + 2) hx hb hX hbl hbA hS (by omega) hL dL_law_243 ?_
  refine lv_i2l (v := (xs (i + 2)).toInt64) hx hb dL_law_244 rfl ?_
  refine lv_ldc2 (v := 4294967295) hx hb hown hc92 dL_law_245 ?_
  refine lv_land hx hb dL_law_248 ?_
  refine lv_lor hx hb dL_law_249 (ww_topl (y := lgJ (xs (i + 1)) (xs (i + 2))) rfl ?_)
  refine lv_aload_n hx hb dL_law_250 rfl (lv_at hl 0 rfl) ?_
  refine lv_iload hx hb dL_law_251 (lv_at hl 4 rfl) ?_
  refine lv_iconst (v := nI (3)) hx hb dL_law_253 (by decide) ?_
  refine lv_iadd hx hb dL_law_254 (ww_top (y := nI (i + 3)) (nI_addn _ _) ?_)
  refine ws_sld (i := i + 3) hx hb hX hbl hbA hS (by omega) hL dL_law_255 ?_
  refine lv_i2l (v := (xs (i + 3)).toInt64) hx hb dL_law_256 rfl ?_
  refine lv_bipush (v := nI (32)) hx hb dL_law_257 (by decide) ?_
  refine lv_lshl (v := ((xs (i + 3)).toInt64 <<< ((nI (32)).toInt64 &&& 63))) hx hb dL_law_259 rfl ?_
  refine lv_aload_n hx hb dL_law_260 rfl (lv_at hl 0 rfl) ?_
  refine lv_iload hx hb dL_law_261 (lv_at hl 4 rfl) ?_
  refine lv_iconst (v := nI (4)) hx hb dL_law_263 (by decide) ?_
  refine lv_iadd hx hb dL_law_264 (ww_top (y := nI (i + 4)) (nI_addn _ _) ?_)
  refine ws_sld (i := i + 4) hx hb hX hbl hbA hS (by omega) hL dL_law_265 ?_
  refine lv_i2l (v := (xs (i + 4)).toInt64) hx hb dL_law_266 rfl ?_
  refine lv_ldc2 (v := 4294967295) hx hb hown hc92 dL_law_267 ?_
  refine lv_land hx hb dL_law_270 ?_
  refine lv_lor hx hb dL_law_271 (ww_topl (y := lgJ (xs (i + 3)) (xs (i + 4))) rfl ?_)
  refine lv_aload_n hx hb dL_law_272 rfl (lv_at hl 0 rfl) ?_
  refine lv_iload hx hb dL_law_273 (lv_at hl 4 rfl) ?_
  refine lv_iconst (v := nI (5)) hx hb dL_law_275 (by decide) ?_
  refine lv_iadd hx hb dL_law_276 (ww_top (y := nI (i + 5)) (nI_addn _ _) ?_)
  refine ws_sld (i := i + 5) hx hb hX hbl hbA hS (by omega) hL dL_law_277 ?_
  refine lv_i2l (v := (xs (i + 5)).toInt64) hx hb dL_law_278 rfl ?_
  refine lv_bipush (v := nI (32)) hx hb dL_law_279 (by decide) ?_
  refine lv_lshl (v := ((xs (i + 5)).toInt64 <<< ((nI (32)).toInt64 &&& 63))) hx hb dL_law_281 rfl ?_
  refine lv_aload_n hx hb dL_law_282 rfl (lv_at hl 0 rfl) ?_
  refine lv_iload hx hb dL_law_283 (lv_at hl 4 rfl) ?_
  refine lv_bipush (v := nI (6)) hx hb dL_law_285 (by decide) ?_
  refine lv_iadd hx hb dL_law_287 (ww_top (y := nI (i + 6)) (nI_addn _ _) ?_)
  refine ws_sld (i := i + 6) hx hb hX hbl hbA hS (by omega) hL dL_law_288 ?_
  refine lv_i2l (v := (xs (i + 6)).toInt64) hx hb dL_law_289 rfl ?_
  refine lv_ldc2 (v := 4294967295) hx hb hown hc92 dL_law_290 ?_
  refine lv_land hx hb dL_law_293 ?_
  refine lv_lor hx hb dL_law_294 (ww_topl (y := lgJ (xs (i + 5)) (xs (i + 6))) rfl ?_)
  refine wf_VWi (rest := [.int (rr)]) (X := oW cJ o (ov) ++ kW cI cJ cZ cV cR a (u)) (wf := mWu cI cJ cZ a') ⟨hx, hb, hml, hown, hts⟩ (c_X6_add l D cI cJ cZ a' (th) (lds) (M) hR.2.1 (lgJ (xs (i + 1)) (xs (i + 2))) (lgJ (xs (i + 3)) (xs (i + 4))) (lgJ (xs (i + 5)) (xs (i + 6)))  H.size) (cwV 3 hts gL_law_X6_add rfl rfl rfl (by decide +kernel) ⟨Nat.le_of_ble_eq_true rfl, Nat.le_of_ble_eq_true rfl⟩) hP hKW hD hS hA 0 rfl rfl rfl hl.1 rfl (Nat.le_of_ble_eq_true rfl) dL_law_295 ⟨by omega, by omega⟩ (fun rr2 u2 hu2 H locs hP hD hS => ?_)
  obtain ⟨hr2, hu2⟩ := hu2
  have hth : u2.1 = 0 := by rw [hu2]
  have hM1 : u2.2.2 = addM M (lgJ (xs (i + 1)) (xs (i + 2))) (lgJ (xs (i + 3)) (xs (i + 4))) (lgJ (xs (i + 5)) (xs (i + 6))) := by rw [hu2]
  have hP : va_P D vwCl ((oW cJ o (ov) ++ kW cI cJ cZ cV cR a (u)) ++ mW cI cJ cZ a' (u2.1) (u2.2.1) (u2.2.2)) H := hP
  have hD : va_D A ((oW cJ o (ov) ++ kW cI cJ cZ cV cR a (u)) ++ mW cI cJ cZ a' (u2.1) (u2.2.1) (u2.2.2)) := hD
  rw [hth, hM1] at hP hD
  refine lv_icmp_eq (tgt := 2089) hx hb dL_law_298 (by decide) (fun c9 => ?_) (fun c9 => absurd (hrr.trans hr2.symm) c9)
  refine W.widen (k := cells + 3) (n := slots + 346) (by omega) (by omega) ?_
  exact kk _ _ _ _ _ _ _ _ _ hR1 hP hD hS ls (lv_sub hl [0, 1, 2, 3, 4] rfl)
set_option maxHeartbeats 4000000 in
set_option maxRecDepth 100000 in
theorem lc_drop {p : Program} {l : Launch} {e : Env} {s : State} {m : MethodId} {below : List Frame} {meth : Method} {c : Code} {D : va_G} {cI cJ cZ cV cR : ClassId} {b L : Nat} {xs : Nat → Int32} {A : Nat → Prop} {a a' : Nat → Nat} {o cells slots : Nat} {Q : State → Prop} (F : LF p l s m c D cI cJ cZ cV cR b L xs A) (hcl : cells + 3 ≤ room_1.cells) (hsl : slots + 346 ≤ room_1.slots) (i : Nat) (hi : i + 8 ≤ L) (C : CT) (VT : Nat → VRec) (RT : Nat → RRec) (M : MT) (th : Nat) (lds : Nat → Bool) (ov : Nat → Int64) (H : Heap) (locs : List Loc) (hR : Rel cI cZ C VT RT M) (hP : va_P D vwCl ((oW cJ o (ov) ++ kW cI cJ cZ cV cR a (C)) ++ mW cI cJ cZ a' (th) (lds) (M)) H) (hD : va_D A ((oW cJ o (ov) ++ kW cI cJ cZ cV cR a (C)) ++ mW cI cJ cZ a' (th) (lds) (M))) (hS : va_S A s.heap H locs) (ls : Array Slot) (hl : lv_has ls 8 [(0, .ref b), (1, .ref (a 0)), (2, .ref (a' 0)), (3, .ref o), (4, .int (nI (i)))]) (kk : ∀ (C : CT) (VT : Nat → VRec) (RT : Nat → RRec) (M : MT) (th : Nat) (lds : Nat → Bool) (ov : Nat → Int64) (H : Heap) (locs : List Loc), Rel cI cZ C VT RT M → va_P D vwCl ((oW cJ o (ov) ++ kW cI cJ cZ cV cR a (C)) ++ mW cI cJ cZ a' (th) (lds) (M)) H → va_D A ((oW cJ o (ov) ++ kW cI cJ cZ cV cR a (C)) ++ mW cI cJ cZ a' (th) (lds) (M)) → va_S A s.heap H locs → ∀ ls : Array Slot, lv_has ls 8 [(0, .ref b), (1, .ref (a 0)), (2, .ref (a' 0)), (3, .ref o), (4, .int (nI (i)))] → W p l e room_1 s m #[Value.ref b] below meth c H locs (cells + 3) (slots + 346) Q (F0 m 2089 ls [])) : W p l e room_1 s m #[Value.ref b] below meth c H locs (cells) (slots) Q (F0 m 303 ls []) := by
  obtain ⟨htr, hx, hb, hml, hown, hts, hX, hbl, hbA, hL, hA, hK, hYE, hc92⟩ := F
  have hKW : va_K D vwCl (tyW cI cJ cZ) s := hK.sub (tys' := tyW cI cJ cZ) [0, 1, 2] rfl
  refine lv_aload_n hx hb dL_law_303 rfl (lv_at hl 1 rfl) ?_
  refine lv_aload_n hx hb dL_law_304 rfl (lv_at hl 0 rfl) ?_
  refine lv_iload hx hb dL_law_305 (lv_at hl 4 rfl) ?_
  refine lv_iconst (v := nI (1)) hx hb dL_law_307 (by decide) ?_
  refine lv_iadd hx hb dL_law_308 (ww_top (y := nI (i + 1)) (nI_addn _ _) ?_)
  refine ws_sld (i := i + 1) hx hb hX hbl hbA hS (by omega) hL dL_law_309 ?_
  refine lv_aload_n hx hb dL_law_310 rfl (lv_at hl 3 rfl) ?_
  have hP := fr_comm hP
  have hD := fd_comm hD
  refine wf_SWi (rest := []) (X := mW cI cJ cZ a' (th) (lds) (M)) (wf := fun u : (Nat → Int64) × CT => oW cJ o u.1 ++ kW cI cJ cZ cV cR a u.2) ⟨hx, hb, hml, hown, hts⟩ (w_L_drop l htr D cI cJ cZ cV cR a C VT RT hR.ci o ov (xs (i + 1)) H.size) (vx_cwSW 3 hts gL_law_L_drop rfl rfl rfl (by decide +kernel) ⟨Nat.le_of_ble_eq_true rfl, Nat.le_of_ble_eq_true rfl⟩) hP hK hD hS hA hYE rfl hl.1 rfl (Nat.le_of_ble_eq_true rfl) dL_law_311 ⟨by omega, by omega⟩ (fun rr u hu H locs hP hD hS => ?_)
  obtain ⟨hrr, hout, VT1, RT1, hR1⟩ := J_drop hR hu
  subst hrr
  have hP : va_P D vwCl ((oW cJ o (u.1) ++ kW cI cJ cZ cV cR a (u.2)) ++ mW cI cJ cZ a' (th) (lds) (M)) H := fr_comm hP
  have hD : va_D A ((oW cJ o (u.1) ++ kW cI cJ cZ cV cR a (u.2)) ++ mW cI cJ cZ a' (th) (lds) (M)) := fd_comm hD
  refine lv_istore (lv' := [(5, .int (nI (dropT M (xs (i + 1))))), (0, .ref (b)), (1, .ref (a 0)), (2, .ref (a' 0)), (3, .ref (o)), (4, .int (nI (i)))]) hx hb dL_law_314 hl (by decide) rfl (fun ls hl => ?_)
  refine lv_aload_n hx hb dL_law_316 rfl (lv_at hl 3 rfl) ?_
  refine lv_aload_n hx hb dL_law_317 rfl (lv_at hl 1 rfl) ?_
  refine lv_iload hx hb dL_law_318 (lv_at hl 5 rfl) ?_
  refine lv_iconst (v := nI (1)) hx hb dL_law_320 (by decide) ?_
  refine lv_iadd hx hb dL_law_321 (ww_top (y := nI (i + 1)) (nI_addn _ _) ?_)
  refine ws_sld (i := i + 1) hx hb hX hbl hbA hS (by omega) hL dL_law_322 ?_
  refine wf_VWi (rest := []) (X := oW cJ o (u.1) ++ kW cI cJ cZ cV cR a (u.2)) (wf := mWu cI cJ cZ a') ⟨hx, hb, hml, hown, hts⟩ (c_X6_drop l D cI cJ cZ a' (th) (lds) (M) hR.2.1 (xs (i + 1))  H.size) (cwV 1 hts gL_law_X6_drop rfl rfl rfl (by decide +kernel) ⟨Nat.le_of_ble_eq_true rfl, Nat.le_of_ble_eq_true rfl⟩) hP hKW hD hS hA 0 rfl rfl rfl hl.1 rfl (Nat.le_of_ble_eq_true rfl) dL_law_323 ⟨by omega, by omega⟩ (fun rr2 u2 hu2 H locs hP hD hS => ?_)
  obtain ⟨hr2, hth, hM1⟩ := hu2
  have hP : va_P D vwCl ((oW cJ o (u.1) ++ kW cI cJ cZ cV cR a (u.2)) ++ mW cI cJ cZ a' (u2.1) (u2.2.1) (u2.2.2)) H := hP
  have hD : va_D A ((oW cJ o (u.1) ++ kW cI cJ cZ cV cR a (u.2)) ++ mW cI cJ cZ a' (u2.1) (u2.2.1) (u2.2.2)) := hD
  rw [hth, hM1] at hP hD
  subst hr2
  refine lv_istore (lv' := [(6, .int (bI (dropR M (xs (i + 1))))), (5, .int (nI (dropT M (xs (i + 1))))), (0, .ref (b)), (1, .ref (a 0)), (2, .ref (a' 0)), (3, .ref (o)), (4, .int (nI (i)))]) hx hb dL_law_326 hl (by decide) rfl (fun ls hl => ?_)
  refine lv_aload_n hx hb dL_law_328 rfl (lv_at hl 4 rfl) ?_
  refine wc_Vi (As := []) (rest := []) ⟨hx, hb, hml, hown, hts⟩ (c_X6_thrown l D cI cJ cZ a' (dropT M (xs (i + 1))) (u2.2.1) (dropM M (xs (i + 1))) hR1.2.1) (cwV 0 hts gL_law_X6_thrown rfl rfl rfl (by decide +kernel) ⟨Nat.le_of_ble_eq_true rfl, Nat.le_of_ble_eq_true rfl⟩) (fr_r hP) hKW 0 rfl rfl rfl hl.1 rfl (Nat.le_of_ble_eq_true rfl) dL_law_329 ⟨by omega, by omega⟩ (fun rr9 hr9 => ?_)
  subst hr9
  refine lv_iload hx hb dL_law_332 (lv_at hl 1 rfl) ?_
  refine lv_icmp_eq (tgt := 339) hx hb dL_law_334 (by decide) (fun c9 => ?_) (fun c9 => absurd rfl c9)
  refine lv_iload hx hb dL_law_339 (lv_at hl 1 rfl) ?_
  refine wn_if_ne (a := dropT M (xs (i + 1))) (tgt := 363) hx hb (nI_z (Nat.lt_trans (tb_dropT _ _) (by decide))) dL_law_341 (by decide) (fun c0 => ?_) (fun c0 => ?_)
  · refine lv_goto (tgt := 2089) hx hb dL_law_363 (by decide) ?_
    refine W.widen (k := cells + 3) (n := slots + 346) (by omega) (by omega) ?_
    exact kk _ _ _ _ _ _ _ _ _ hR1 hP hD hS ls (lv_sub hl [2, 3, 4, 5, 6] rfl)
  · refine lv_aload_n hx hb dL_law_344 rfl (lv_at hl 5 rfl) ?_
    refine lv_iconst (v := nI (0)) hx hb dL_law_345 (by decide) ?_
    refine wa_l (i := 0) (v := u.1 0) hx hb hK hP 0 1 rfl rfl rfl (by decide) (by decide) dL_law_346 ?_
    refine lv_iload hx hb dL_law_347 (lv_at hl 0 rfl) ?_
    refine wb_if_eq (tgt := 356) hx hb dL_law_349 (by decide) (fun cb => ?_) (fun cb => ?_)
    · refine lv_lconst (v := 0) hx hb dL_law_356 (by decide) ?_
      refine wl_eq (tgt := 363) hx hb dL_law_357 dL_law_358 (by decide) (fun c8 => ?_) (fun c8 => absurd ((hout c0).trans (if_neg (by rw [cb]; decide))) c8)
      refine lv_goto (tgt := 2089) hx hb dL_law_363 (by decide) ?_
      refine W.widen (k := cells + 3) (n := slots + 346) (by omega) (by omega) ?_
      exact kk _ _ _ _ _ _ _ _ _ hR1 hP hD hS ls (lv_sub hl [2, 3, 4, 5, 6] rfl)
    · refine lv_lconst (v := 1) hx hb dL_law_352 (by decide) ?_
      refine lv_goto (tgt := 357) hx hb dL_law_353 (by decide) ?_
      refine wl_eq (tgt := 363) hx hb dL_law_357 dL_law_358 (by decide) (fun c8 => ?_) (fun c8 => absurd ((hout c0).trans (if_pos cb)) c8)
      refine lv_goto (tgt := 2089) hx hb dL_law_363 (by decide) ?_
      refine W.widen (k := cells + 3) (n := slots + 346) (by omega) (by omega) ?_
      exact kk _ _ _ _ _ _ _ _ _ hR1 hP hD hS ls (lv_sub hl [2, 3, 4, 5, 6] rfl)
set_option maxHeartbeats 4000000 in
set_option maxRecDepth 100000 in
theorem lc_commit {p : Program} {l : Launch} {e : Env} {s : State} {m : MethodId} {below : List Frame} {meth : Method} {c : Code} {D : va_G} {cI cJ cZ cV cR : ClassId} {b L : Nat} {xs : Nat → Int32} {A : Nat → Prop} {a a' : Nat → Nat} {o cells slots : Nat} {Q : State → Prop} (F : LF p l s m c D cI cJ cZ cV cR b L xs A) (hcl : cells + 3 ≤ room_1.cells) (hsl : slots + 346 ≤ room_1.slots) (i : Nat) (hi : i + 8 ≤ L) (C : CT) (VT : Nat → VRec) (RT : Nat → RRec) (M : MT) (th : Nat) (lds : Nat → Bool) (ov : Nat → Int64) (H : Heap) (locs : List Loc) (hR : Rel cI cZ C VT RT M) (hP : va_P D vwCl ((oW cJ o (ov) ++ kW cI cJ cZ cV cR a (C)) ++ mW cI cJ cZ a' (th) (lds) (M)) H) (hD : va_D A ((oW cJ o (ov) ++ kW cI cJ cZ cV cR a (C)) ++ mW cI cJ cZ a' (th) (lds) (M))) (hS : va_S A s.heap H locs) (ls : Array Slot) (hl : lv_has ls 8 [(0, .ref b), (1, .ref (a 0)), (2, .ref (a' 0)), (3, .ref o), (4, .int (nI (i)))]) (kk : ∀ (C : CT) (VT : Nat → VRec) (RT : Nat → RRec) (M : MT) (th : Nat) (lds : Nat → Bool) (ov : Nat → Int64) (H : Heap) (locs : List Loc), Rel cI cZ C VT RT M → va_P D vwCl ((oW cJ o (ov) ++ kW cI cJ cZ cV cR a (C)) ++ mW cI cJ cZ a' (th) (lds) (M)) H → va_D A ((oW cJ o (ov) ++ kW cI cJ cZ cV cR a (C)) ++ mW cI cJ cZ a' (th) (lds) (M)) → va_S A s.heap H locs → ∀ ls : Array Slot, lv_has ls 8 [(0, .ref b), (1, .ref (a 0)), (2, .ref (a' 0)), (3, .ref o), (4, .int (nI (i)))] → W p l e room_1 s m #[Value.ref b] below meth c H locs (cells + 3) (slots + 346) Q (F0 m 2089 ls [])) : W p l e room_1 s m #[Value.ref b] below meth c H locs (cells) (slots) Q (F0 m 366 ls []) := by
  obtain ⟨htr, hx, hb, hml, hown, hts, hX, hbl, hbA, hL, hA, hK, hYE, hc92⟩ := F
  have hKW : va_K D vwCl (tyW cI cJ cZ) s := hK.sub (tys' := tyW cI cJ cZ) [0, 1, 2] rfl
  refine lv_aload_n hx hb dL_law_366 rfl (lv_at hl 1 rfl) ?_
  have hP := fr_as (fr_comm hP)
  have hD := fd_as (fd_comm hD)
  refine wf_VWi (rest := []) (X := mW cI cJ cZ a' (th) (lds) (M) ++ oW cJ o (ov)) (wf := kW cI cJ cZ cV cR a) ⟨hx, hb, hml, hown, hts⟩ (c_X5_commit l D cI cJ cZ cV cR a C hR.1   H.size) (cwV 0 hts gL_law_X5_commit rfl rfl rfl (by decide +kernel) ⟨Nat.le_of_ble_eq_true rfl, Nat.le_of_ble_eq_true rfl⟩) hP hK hD hS hA 0 rfl rfl rfl hl.1 rfl (Nat.le_of_ble_eq_true rfl) dL_law_367 ⟨by omega, by omega⟩ (fun rr u hu H locs hP hD hS => ?_)
  obtain ⟨hrr, hu⟩ := hu
  have hJ := rel_commit hR 
  have hR1 := hJ.2
  rw [← hu] at hR1
  have hrr := hrr.trans hJ.1
  have hP : va_P D vwCl ((oW cJ o (ov) ++ kW cI cJ cZ cV cR a (u)) ++ mW cI cJ cZ a' (th) (lds) (M)) H := fr_comm (fr_sa hP)
  have hD : va_D A ((oW cJ o (ov) ++ kW cI cJ cZ cV cR a (u)) ++ mW cI cJ cZ a' (th) (lds) (M)) := fd_comm (fd_sa hD)
  refine lv_aload_n hx hb dL_law_370 rfl (lv_at hl 2 rfl) ?_
  refine wf_VWi (rest := [.int (rr)]) (X := oW cJ o (ov) ++ kW cI cJ cZ cV cR a (u)) (wf := mWu cI cJ cZ a') ⟨hx, hb, hml, hown, hts⟩ (c_X6_commit l D cI cJ cZ a' (th) (lds) (M) hR.2.1   H.size) (cwV 0 hts gL_law_X6_commit rfl rfl rfl (by decide +kernel) ⟨Nat.le_of_ble_eq_true rfl, Nat.le_of_ble_eq_true rfl⟩) hP hKW hD hS hA 0 rfl rfl rfl hl.1 rfl (Nat.le_of_ble_eq_true rfl) dL_law_371 ⟨by omega, by omega⟩ (fun rr2 u2 hu2 H locs hP hD hS => ?_)
  obtain ⟨hr2, hu2⟩ := hu2
  have hth : u2.1 = 0 := by rw [hu2]
  have hM1 : u2.2.2 = commitM M  := by rw [hu2]
  have hP : va_P D vwCl ((oW cJ o (ov) ++ kW cI cJ cZ cV cR a (u)) ++ mW cI cJ cZ a' (u2.1) (u2.2.1) (u2.2.2)) H := hP
  have hD : va_D A ((oW cJ o (ov) ++ kW cI cJ cZ cV cR a (u)) ++ mW cI cJ cZ a' (u2.1) (u2.2.1) (u2.2.2)) := hD
  rw [hth, hM1] at hP hD
  refine lv_icmp_eq (tgt := 2089) hx hb dL_law_374 (by decide) (fun c9 => ?_) (fun c9 => absurd (hrr.trans hr2.symm) c9)
  refine W.widen (k := cells + 3) (n := slots + 346) (by omega) (by omega) ?_
  exact kk _ _ _ _ _ _ _ _ _ hR1 hP hD hS ls (lv_sub hl [0, 1, 2, 3, 4] rfl)
set_option maxHeartbeats 4000000 in
set_option maxRecDepth 100000 in
theorem lc_merge {p : Program} {l : Launch} {e : Env} {s : State} {m : MethodId} {below : List Frame} {meth : Method} {c : Code} {D : va_G} {cI cJ cZ cV cR : ClassId} {b L : Nat} {xs : Nat → Int32} {A : Nat → Prop} {a a' : Nat → Nat} {o cells slots : Nat} {Q : State → Prop} (F : LF p l s m c D cI cJ cZ cV cR b L xs A) (hcl : cells + 3 ≤ room_1.cells) (hsl : slots + 346 ≤ room_1.slots) (i : Nat) (hi : i + 8 ≤ L) (C : CT) (VT : Nat → VRec) (RT : Nat → RRec) (M : MT) (th : Nat) (lds : Nat → Bool) (ov : Nat → Int64) (H : Heap) (locs : List Loc) (hR : Rel cI cZ C VT RT M) (hP : va_P D vwCl ((oW cJ o (ov) ++ kW cI cJ cZ cV cR a (C)) ++ mW cI cJ cZ a' (th) (lds) (M)) H) (hD : va_D A ((oW cJ o (ov) ++ kW cI cJ cZ cV cR a (C)) ++ mW cI cJ cZ a' (th) (lds) (M))) (hS : va_S A s.heap H locs) (ls : Array Slot) (hl : lv_has ls 8 [(0, .ref b), (1, .ref (a 0)), (2, .ref (a' 0)), (3, .ref o), (4, .int (nI (i)))]) (kk : ∀ (C : CT) (VT : Nat → VRec) (RT : Nat → RRec) (M : MT) (th : Nat) (lds : Nat → Bool) (ov : Nat → Int64) (H : Heap) (locs : List Loc), Rel cI cZ C VT RT M → va_P D vwCl ((oW cJ o (ov) ++ kW cI cJ cZ cV cR a (C)) ++ mW cI cJ cZ a' (th) (lds) (M)) H → va_D A ((oW cJ o (ov) ++ kW cI cJ cZ cV cR a (C)) ++ mW cI cJ cZ a' (th) (lds) (M)) → va_S A s.heap H locs → ∀ ls : Array Slot, lv_has ls 8 [(0, .ref b), (1, .ref (a 0)), (2, .ref (a' 0)), (3, .ref o), (4, .int (nI (i)))] → W p l e room_1 s m #[Value.ref b] below meth c H locs (cells + 3) (slots + 346) Q (F0 m 2089 ls [])) : W p l e room_1 s m #[Value.ref b] below meth c H locs (cells) (slots) Q (F0 m 379 ls []) := by
  obtain ⟨htr, hx, hb, hml, hown, hts, hX, hbl, hbA, hL, hA, hK, hYE, hc92⟩ := F
  have hKW : va_K D vwCl (tyW cI cJ cZ) s := hK.sub (tys' := tyW cI cJ cZ) [0, 1, 2] rfl
  refine lv_aload_n hx hb dL_law_379 rfl (lv_at hl 1 rfl) ?_
  refine lv_aload_n hx hb dL_law_380 rfl (lv_at hl 0 rfl) ?_
  refine lv_iload hx hb dL_law_381 (lv_at hl 4 rfl) ?_
  refine lv_iconst (v := nI (1)) hx hb dL_law_383 (by decide) ?_
  refine lv_iadd hx hb dL_law_384 (ww_top (y := nI (i + 1)) (nI_addn _ _) ?_)
  refine ws_sld (i := i + 1) hx hb hX hbl hbA hS (by omega) hL dL_law_385 ?_
  have hP := fr_as (fr_comm hP)
  have hD := fd_as (fd_comm hD)
  refine wf_VWi (rest := []) (X := mW cI cJ cZ a' (th) (lds) (M) ++ oW cJ o (ov)) (wf := kW cI cJ cZ cV cR a) ⟨hx, hb, hml, hown, hts⟩ (c_X5_merge l D cI cJ cZ cV cR a C hR.1 (xs (i + 1))  H.size) (cwV 1 hts gL_law_X5_merge rfl rfl rfl (by decide +kernel) ⟨Nat.le_of_ble_eq_true rfl, Nat.le_of_ble_eq_true rfl⟩) hP hK hD hS hA 0 rfl rfl rfl hl.1 rfl (Nat.le_of_ble_eq_true rfl) dL_law_386 ⟨by omega, by omega⟩ (fun rr u hu H locs hP hD hS => ?_)
  obtain ⟨hrr, hu⟩ := hu
  have hJ := rel_merge hR (xs (i + 1))
  have hR1 := hJ.2
  rw [← hu] at hR1
  have hrr := hrr.trans hJ.1
  have hP : va_P D vwCl ((oW cJ o (ov) ++ kW cI cJ cZ cV cR a (u)) ++ mW cI cJ cZ a' (th) (lds) (M)) H := fr_comm (fr_sa hP)
  have hD : va_D A ((oW cJ o (ov) ++ kW cI cJ cZ cV cR a (u)) ++ mW cI cJ cZ a' (th) (lds) (M)) := fd_comm (fd_sa hD)
  refine lv_aload_n hx hb dL_law_389 rfl (lv_at hl 2 rfl) ?_
  refine lv_aload_n hx hb dL_law_390 rfl (lv_at hl 0 rfl) ?_
  refine lv_iload hx hb dL_law_391 (lv_at hl 4 rfl) ?_
  refine lv_iconst (v := nI (1)) hx hb dL_law_393 (by decide) ?_
  refine lv_iadd hx hb dL_law_394 (ww_top (y := nI (i + 1)) (nI_addn _ _) ?_)
  refine ws_sld (i := i + 1) hx hb hX hbl hbA hS (by omega) hL dL_law_395 ?_
  refine wf_VWi (rest := [.int (rr)]) (X := oW cJ o (ov) ++ kW cI cJ cZ cV cR a (u)) (wf := mWu cI cJ cZ a') ⟨hx, hb, hml, hown, hts⟩ (c_X6_merge l D cI cJ cZ a' (th) (lds) (M) hR.2.1 (xs (i + 1))  H.size) (cwV 1 hts gL_law_X6_merge rfl rfl rfl (by decide +kernel) ⟨Nat.le_of_ble_eq_true rfl, Nat.le_of_ble_eq_true rfl⟩) hP hKW hD hS hA 0 rfl rfl rfl hl.1 rfl (Nat.le_of_ble_eq_true rfl) dL_law_396 ⟨by omega, by omega⟩ (fun rr2 u2 hu2 H locs hP hD hS => ?_)
  obtain ⟨hr2, hth, hM1⟩ := hu2
  have hP : va_P D vwCl ((oW cJ o (ov) ++ kW cI cJ cZ cV cR a (u)) ++ mW cI cJ cZ a' (u2.1) (u2.2.1) (u2.2.2)) H := hP
  have hD : va_D A ((oW cJ o (ov) ++ kW cI cJ cZ cV cR a (u)) ++ mW cI cJ cZ a' (u2.1) (u2.2.1) (u2.2.2)) := hD
  rw [hth, hM1] at hP hD
  refine lv_icmp_eq (tgt := 2089) hx hb dL_law_399 (by decide) (fun c9 => ?_) (fun c9 => absurd (hrr.trans hr2.symm) c9)
  refine W.widen (k := cells + 3) (n := slots + 346) (by omega) (by omega) ?_
  exact kk _ _ _ _ _ _ _ _ _ hR1 hP hD hS ls (lv_sub hl [0, 1, 2, 3, 4] rfl)
set_option maxHeartbeats 4000000 in
set_option maxRecDepth 100000 in
theorem lc_object {p : Program} {l : Launch} {e : Env} {s : State} {m : MethodId} {below : List Frame} {meth : Method} {c : Code} {D : va_G} {cI cJ cZ cV cR : ClassId} {b L : Nat} {xs : Nat → Int32} {A : Nat → Prop} {a a' : Nat → Nat} {o cells slots : Nat} {Q : State → Prop} (F : LF p l s m c D cI cJ cZ cV cR b L xs A) (hcl : cells + 3 ≤ room_1.cells) (hsl : slots + 346 ≤ room_1.slots) (i : Nat) (hi : i + 8 ≤ L) (C : CT) (VT : Nat → VRec) (RT : Nat → RRec) (M : MT) (th : Nat) (lds : Nat → Bool) (ov : Nat → Int64) (H : Heap) (locs : List Loc) (hR : Rel cI cZ C VT RT M) (hP : va_P D vwCl ((oW cJ o (ov) ++ kW cI cJ cZ cV cR a (C)) ++ mW cI cJ cZ a' (th) (lds) (M)) H) (hD : va_D A ((oW cJ o (ov) ++ kW cI cJ cZ cV cR a (C)) ++ mW cI cJ cZ a' (th) (lds) (M))) (hS : va_S A s.heap H locs) (ls : Array Slot) (hl : lv_has ls 8 [(0, .ref b), (1, .ref (a 0)), (2, .ref (a' 0)), (3, .ref o), (4, .int (nI (i)))]) (kk : ∀ (C : CT) (VT : Nat → VRec) (RT : Nat → RRec) (M : MT) (th : Nat) (lds : Nat → Bool) (ov : Nat → Int64) (H : Heap) (locs : List Loc), Rel cI cZ C VT RT M → va_P D vwCl ((oW cJ o (ov) ++ kW cI cJ cZ cV cR a (C)) ++ mW cI cJ cZ a' (th) (lds) (M)) H → va_D A ((oW cJ o (ov) ++ kW cI cJ cZ cV cR a (C)) ++ mW cI cJ cZ a' (th) (lds) (M)) → va_S A s.heap H locs → ∀ ls : Array Slot, lv_has ls 8 [(0, .ref b), (1, .ref (a 0)), (2, .ref (a' 0)), (3, .ref o), (4, .int (nI (i)))] → W p l e room_1 s m #[Value.ref b] below meth c H locs (cells + 3) (slots + 346) Q (F0 m 2089 ls [])) : W p l e room_1 s m #[Value.ref b] below meth c H locs (cells) (slots) Q (F0 m 404 ls []) := by
  obtain ⟨htr, hx, hb, hml, hown, hts, hX, hbl, hbA, hL, hA, hK, hYE, hc92⟩ := F
  have hKW : va_K D vwCl (tyW cI cJ cZ) s := hK.sub (tys' := tyW cI cJ cZ) [0, 1, 2] rfl
  refine lv_aload_n hx hb dL_law_404 rfl (lv_at hl 1 rfl) ?_
  refine lv_aload_n hx hb dL_law_405 rfl (lv_at hl 0 rfl) ?_
  refine lv_iload hx hb dL_law_406 (lv_at hl 4 rfl) ?_
  refine lv_iconst (v := nI (1)) hx hb dL_law_408 (by decide) ?_
  refine lv_iadd hx hb dL_law_409 (ww_top (y := nI (i + 1)) (nI_addn _ _) ?_)
  refine ws_sld (i := i + 1) hx hb hX hbl hbA hS (by omega) hL dL_law_410 ?_
  refine lv_aload_n hx hb dL_law_411 rfl (lv_at hl 0 rfl) ?_
  refine lv_iload hx hb dL_law_412 (lv_at hl 4 rfl) ?_
  refine lv_iconst (v := nI (2)) hx hb dL_law_414 (by decide) ?_
  refine lv_iadd hx hb dL_law_415 (ww_top (y := nI (i + 2)) (nI_addn _ _) ?_)
  refine ws_sld (i := i + 2) hx hb hX hbl hbA hS (by omega) hL dL_law_416 ?_
  refine lv_aload_n hx hb dL_law_417 rfl (lv_at hl 3 rfl) ?_
  have hP := fr_comm hP
  have hD := fd_comm hD
  refine wf_SWi (rest := []) (X := mW cI cJ cZ a' (th) (lds) (M)) (wf := fun u : (Nat → Int64) × CT => oW cJ o u.1 ++ kW cI cJ cZ cV cR a u.2) ⟨hx, hb, hml, hown, hts⟩ (w_L_object l htr D cI cJ cZ cV cR a C VT RT hR.ci o ov (xs (i + 1)) (xs (i + 2)) H.size) (vx_cwSW 4 hts gL_law_L_object rfl rfl rfl (by decide +kernel) ⟨Nat.le_of_ble_eq_true rfl, Nat.le_of_ble_eq_true rfl⟩) hP hK hD hS hA hYE rfl hl.1 rfl (Nat.le_of_ble_eq_true rfl) dL_law_418 ⟨by omega, by omega⟩ (fun rr u hu H locs hP hD hS => ?_)
  obtain ⟨hrr, hout, VT1, RT1, hR1⟩ := J_object hR hu
  subst hrr
  have hP : va_P D vwCl ((oW cJ o (u.1) ++ kW cI cJ cZ cV cR a (u.2)) ++ mW cI cJ cZ a' (th) (lds) (M)) H := fr_comm hP
  have hD : va_D A ((oW cJ o (u.1) ++ kW cI cJ cZ cV cR a (u.2)) ++ mW cI cJ cZ a' (th) (lds) (M)) := fd_comm hD
  refine lv_istore (lv' := [(5, .int (nI (objT M (xs (i + 1)) (xs (i + 2))))), (0, .ref (b)), (1, .ref (a 0)), (2, .ref (a' 0)), (3, .ref (o)), (4, .int (nI (i)))]) hx hb dL_law_421 hl (by decide) rfl (fun ls hl => ?_)
  refine lv_aload_n hx hb dL_law_423 rfl (lv_at hl 3 rfl) ?_
  refine lv_aload_n hx hb dL_law_424 rfl (lv_at hl 1 rfl) ?_
  refine lv_iload hx hb dL_law_425 (lv_at hl 5 rfl) ?_
  refine lv_iconst (v := nI (1)) hx hb dL_law_427 (by decide) ?_
  refine lv_iadd hx hb dL_law_428 (ww_top (y := nI (i + 1)) (nI_addn _ _) ?_)
  refine ws_sld (i := i + 1) hx hb hX hbl hbA hS (by omega) hL dL_law_429 ?_
  refine lv_aload_n hx hb dL_law_430 rfl (lv_at hl 1 rfl) ?_
  refine lv_iload hx hb dL_law_431 (lv_at hl 5 rfl) ?_
  refine lv_iconst (v := nI (2)) hx hb dL_law_433 (by decide) ?_
  refine lv_iadd hx hb dL_law_434 (ww_top (y := nI (i + 2)) (nI_addn _ _) ?_)
  refine ws_sld (i := i + 2) hx hb hX hbl hbA hS (by omega) hL dL_law_435 ?_
  refine wf_VWl (rest := []) (X := oW cJ o (u.1) ++ kW cI cJ cZ cV cR a (u.2)) (wf := mWu cI cJ cZ a') ⟨hx, hb, hml, hown, hts⟩ (c_X6_object l D cI cJ cZ a' (th) (lds) (M) hR.2.1 (xs (i + 1)) (xs (i + 2))  H.size) (cwV 2 hts gL_law_X6_object rfl rfl rfl (by decide +kernel) ⟨Nat.le_of_ble_eq_true rfl, Nat.le_of_ble_eq_true rfl⟩) hP hKW hD hS hA 0 rfl rfl rfl hl.1 rfl (Nat.le_of_ble_eq_true rfl) dL_law_436 ⟨by omega, by omega⟩ (fun rr2 u2 hu2 H locs hP hD hS => ?_)
  obtain ⟨hr2, hth, hM1⟩ := hu2
  have hP : va_P D vwCl ((oW cJ o (u.1) ++ kW cI cJ cZ cV cR a (u.2)) ++ mW cI cJ cZ a' (u2.1) (u2.2.1) (u2.2.2)) H := hP
  have hD : va_D A ((oW cJ o (u.1) ++ kW cI cJ cZ cV cR a (u.2)) ++ mW cI cJ cZ a' (u2.1) (u2.2.1) (u2.2.2)) := hD
  rw [hth, hM1] at hP hD
  subst hr2
  refine lv_lstore (lv' := [(6, .long (objR M (xs (i + 1)) (xs (i + 2)))), (5, .int (nI (objT M (xs (i + 1)) (xs (i + 2))))), (0, .ref (b)), (1, .ref (a 0)), (2, .ref (a' 0)), (3, .ref (o)), (4, .int (nI (i)))]) hx hb dL_law_439 hl (by decide) rfl (fun ls hl => ?_)
  refine lv_aload_n hx hb dL_law_441 rfl (lv_at hl 4 rfl) ?_
  refine wc_Vi (As := []) (rest := []) ⟨hx, hb, hml, hown, hts⟩ (c_X6_thrown l D cI cJ cZ a' (objT M (xs (i + 1)) (xs (i + 2))) (u2.2.1) (M) hR1.2.1) (cwV 0 hts gL_law_X6_thrown rfl rfl rfl (by decide +kernel) ⟨Nat.le_of_ble_eq_true rfl, Nat.le_of_ble_eq_true rfl⟩) (fr_r hP) hKW 0 rfl rfl rfl hl.1 rfl (Nat.le_of_ble_eq_true rfl) dL_law_442 ⟨by omega, by omega⟩ (fun rr9 hr9 => ?_)
  subst hr9
  refine lv_iload hx hb dL_law_445 (lv_at hl 1 rfl) ?_
  refine lv_icmp_eq (tgt := 452) hx hb dL_law_447 (by decide) (fun c9 => ?_) (fun c9 => absurd rfl c9)
  refine lv_iload hx hb dL_law_452 (lv_at hl 1 rfl) ?_
  refine wn_if_ne (a := objT M (xs (i + 1)) (xs (i + 2))) (tgt := 468) hx hb (nI_z (Nat.lt_trans (tb_objT _ _ _) (by decide))) dL_law_454 (by decide) (fun c0 => ?_) (fun c0 => ?_)
  · refine lv_goto (tgt := 2089) hx hb dL_law_468 (by decide) ?_
    refine W.widen (k := cells + 3) (n := slots + 346) (by omega) (by omega) ?_
    exact kk _ _ _ _ _ _ _ _ _ hR1 hP hD hS ls (lv_sub hl [2, 3, 4, 5, 6] rfl)
  · refine lv_aload_n hx hb dL_law_457 rfl (lv_at hl 5 rfl) ?_
    refine lv_iconst (v := nI (0)) hx hb dL_law_458 (by decide) ?_
    refine wa_l (i := 0) (v := u.1 0) hx hb hK hP 0 1 rfl rfl rfl (by decide) (by decide) dL_law_459 ?_
    refine lv_lload hx hb dL_law_460 (lv_at hl 0 rfl) ?_
    refine wl_eq (tgt := 468) hx hb dL_law_462 dL_law_463 (by decide) (fun c8 => ?_) (fun c8 => absurd (hout c0) c8)
    refine lv_goto (tgt := 2089) hx hb dL_law_468 (by decide) ?_
    refine W.widen (k := cells + 3) (n := slots + 346) (by omega) (by omega) ?_
    exact kk _ _ _ _ _ _ _ _ _ hR1 hP hD hS ls (lv_sub hl [2, 3, 4, 5, 6] rfl)
set_option maxHeartbeats 4000000 in
set_option maxRecDepth 100000 in
theorem lc_segment {p : Program} {l : Launch} {e : Env} {s : State} {m : MethodId} {below : List Frame} {meth : Method} {c : Code} {D : va_G} {cI cJ cZ cV cR : ClassId} {b L : Nat} {xs : Nat → Int32} {A : Nat → Prop} {a a' : Nat → Nat} {o cells slots : Nat} {Q : State → Prop} (F : LF p l s m c D cI cJ cZ cV cR b L xs A) (hcl : cells + 3 ≤ room_1.cells) (hsl : slots + 346 ≤ room_1.slots) (i : Nat) (hi : i + 8 ≤ L) (C : CT) (VT : Nat → VRec) (RT : Nat → RRec) (M : MT) (th : Nat) (lds : Nat → Bool) (ov : Nat → Int64) (H : Heap) (locs : List Loc) (hR : Rel cI cZ C VT RT M) (hP : va_P D vwCl ((oW cJ o (ov) ++ kW cI cJ cZ cV cR a (C)) ++ mW cI cJ cZ a' (th) (lds) (M)) H) (hD : va_D A ((oW cJ o (ov) ++ kW cI cJ cZ cV cR a (C)) ++ mW cI cJ cZ a' (th) (lds) (M))) (hS : va_S A s.heap H locs) (ls : Array Slot) (hl : lv_has ls 8 [(0, .ref b), (1, .ref (a 0)), (2, .ref (a' 0)), (3, .ref o), (4, .int (nI (i)))]) (kk : ∀ (C : CT) (VT : Nat → VRec) (RT : Nat → RRec) (M : MT) (th : Nat) (lds : Nat → Bool) (ov : Nat → Int64) (H : Heap) (locs : List Loc), Rel cI cZ C VT RT M → va_P D vwCl ((oW cJ o (ov) ++ kW cI cJ cZ cV cR a (C)) ++ mW cI cJ cZ a' (th) (lds) (M)) H → va_D A ((oW cJ o (ov) ++ kW cI cJ cZ cV cR a (C)) ++ mW cI cJ cZ a' (th) (lds) (M)) → va_S A s.heap H locs → ∀ ls : Array Slot, lv_has ls 8 [(0, .ref b), (1, .ref (a 0)), (2, .ref (a' 0)), (3, .ref o), (4, .int (nI (i)))] → W p l e room_1 s m #[Value.ref b] below meth c H locs (cells + 3) (slots + 346) Q (F0 m 2089 ls [])) : W p l e room_1 s m #[Value.ref b] below meth c H locs (cells) (slots) Q (F0 m 471 ls []) := by
  obtain ⟨htr, hx, hb, hml, hown, hts, hX, hbl, hbA, hL, hA, hK, hYE, hc92⟩ := F
  have hKW : va_K D vwCl (tyW cI cJ cZ) s := hK.sub (tys' := tyW cI cJ cZ) [0, 1, 2] rfl
  refine lv_aload_n hx hb dL_law_471 rfl (lv_at hl 1 rfl) ?_
  refine lv_aload_n hx hb dL_law_472 rfl (lv_at hl 0 rfl) ?_
  refine lv_iload hx hb dL_law_473 (lv_at hl 4 rfl) ?_
  refine lv_iconst (v := nI (1)) hx hb dL_law_475 (by decide) ?_
  refine lv_iadd hx hb dL_law_476 (ww_top (y := nI (i + 1)) (nI_addn _ _) ?_)
  refine ws_sld (i := i + 1) hx hb hX hbl hbA hS (by omega) hL dL_law_477 ?_
  refine lv_aload_n hx hb dL_law_478 rfl (lv_at hl 0 rfl) ?_
  refine lv_iload hx hb dL_law_479 (lv_at hl 4 rfl) ?_
  refine lv_iconst (v := nI (2)) hx hb dL_law_481 (by decide) ?_
  refine lv_iadd hx hb dL_law_482 (ww_top (y := nI (i + 2)) (nI_addn _ _) ?_)
  refine ws_sld (i := i + 2) hx hb hX hbl hbA hS (by omega) hL dL_law_483 ?_
  refine lv_aload_n hx hb dL_law_484 rfl (lv_at hl 3 rfl) ?_
  have hP := fr_comm hP
  have hD := fd_comm hD
  refine wf_SWi (rest := []) (X := mW cI cJ cZ a' (th) (lds) (M)) (wf := fun u : (Nat → Int64) × CT => oW cJ o u.1 ++ kW cI cJ cZ cV cR a u.2) ⟨hx, hb, hml, hown, hts⟩ (w_L_segment l htr D cI cJ cZ cV cR a C VT RT hR.ci o ov (xs (i + 1)) (xs (i + 2)) H.size) (vx_cwSW 4 hts gL_law_L_segment rfl rfl rfl (by decide +kernel) ⟨Nat.le_of_ble_eq_true rfl, Nat.le_of_ble_eq_true rfl⟩) hP hK hD hS hA hYE rfl hl.1 rfl (Nat.le_of_ble_eq_true rfl) dL_law_485 ⟨by omega, by omega⟩ (fun rr u hu H locs hP hD hS => ?_)
  obtain ⟨hrr, hout, VT1, RT1, hR1⟩ := J_segment hR hu
  subst hrr
  have hP : va_P D vwCl ((oW cJ o (u.1) ++ kW cI cJ cZ cV cR a (u.2)) ++ mW cI cJ cZ a' (th) (lds) (M)) H := fr_comm hP
  have hD : va_D A ((oW cJ o (u.1) ++ kW cI cJ cZ cV cR a (u.2)) ++ mW cI cJ cZ a' (th) (lds) (M)) := fd_comm hD
  refine lv_istore (lv' := [(5, .int (nI (segT M (xs (i + 1)) (xs (i + 2))))), (0, .ref (b)), (1, .ref (a 0)), (2, .ref (a' 0)), (3, .ref (o)), (4, .int (nI (i)))]) hx hb dL_law_488 hl (by decide) rfl (fun ls hl => ?_)
  refine lv_aload_n hx hb dL_law_490 rfl (lv_at hl 3 rfl) ?_
  refine lv_aload_n hx hb dL_law_491 rfl (lv_at hl 1 rfl) ?_
  refine lv_iload hx hb dL_law_492 (lv_at hl 5 rfl) ?_
  refine lv_iconst (v := nI (1)) hx hb dL_law_494 (by decide) ?_
  refine lv_iadd hx hb dL_law_495 (ww_top (y := nI (i + 1)) (nI_addn _ _) ?_)
  refine ws_sld (i := i + 1) hx hb hX hbl hbA hS (by omega) hL dL_law_496 ?_
  refine lv_aload_n hx hb dL_law_497 rfl (lv_at hl 1 rfl) ?_
  refine lv_iload hx hb dL_law_498 (lv_at hl 5 rfl) ?_
  refine lv_iconst (v := nI (2)) hx hb dL_law_500 (by decide) ?_
  refine lv_iadd hx hb dL_law_501 (ww_top (y := nI (i + 2)) (nI_addn _ _) ?_)
  refine ws_sld (i := i + 2) hx hb hX hbl hbA hS (by omega) hL dL_law_502 ?_
  refine wf_VWi (rest := []) (X := oW cJ o (u.1) ++ kW cI cJ cZ cV cR a (u.2)) (wf := mWu cI cJ cZ a') ⟨hx, hb, hml, hown, hts⟩ (c_X6_segment l D cI cJ cZ a' (th) (lds) (M) hR.2.1 (xs (i + 1)) (xs (i + 2))  H.size) (cwV 2 hts gL_law_X6_segment rfl rfl rfl (by decide +kernel) ⟨Nat.le_of_ble_eq_true rfl, Nat.le_of_ble_eq_true rfl⟩) hP hKW hD hS hA 0 rfl rfl rfl hl.1 rfl (Nat.le_of_ble_eq_true rfl) dL_law_503 ⟨by omega, by omega⟩ (fun rr2 u2 hu2 H locs hP hD hS => ?_)
  obtain ⟨hr2, hth, hM1⟩ := hu2
  have hP : va_P D vwCl ((oW cJ o (u.1) ++ kW cI cJ cZ cV cR a (u.2)) ++ mW cI cJ cZ a' (u2.1) (u2.2.1) (u2.2.2)) H := hP
  have hD : va_D A ((oW cJ o (u.1) ++ kW cI cJ cZ cV cR a (u.2)) ++ mW cI cJ cZ a' (u2.1) (u2.2.1) (u2.2.2)) := hD
  rw [hth, hM1] at hP hD
  subst hr2
  refine lv_istore (lv' := [(6, .int (segR M (xs (i + 1)) (xs (i + 2)))), (5, .int (nI (segT M (xs (i + 1)) (xs (i + 2))))), (0, .ref (b)), (1, .ref (a 0)), (2, .ref (a' 0)), (3, .ref (o)), (4, .int (nI (i)))]) hx hb dL_law_506 hl (by decide) rfl (fun ls hl => ?_)
  refine lv_aload_n hx hb dL_law_508 rfl (lv_at hl 4 rfl) ?_
  refine wc_Vi (As := []) (rest := []) ⟨hx, hb, hml, hown, hts⟩ (c_X6_thrown l D cI cJ cZ a' (segT M (xs (i + 1)) (xs (i + 2))) (u2.2.1) (M) hR1.2.1) (cwV 0 hts gL_law_X6_thrown rfl rfl rfl (by decide +kernel) ⟨Nat.le_of_ble_eq_true rfl, Nat.le_of_ble_eq_true rfl⟩) (fr_r hP) hKW 0 rfl rfl rfl hl.1 rfl (Nat.le_of_ble_eq_true rfl) dL_law_509 ⟨by omega, by omega⟩ (fun rr9 hr9 => ?_)
  subst hr9
  refine lv_iload hx hb dL_law_512 (lv_at hl 1 rfl) ?_
  refine lv_icmp_eq (tgt := 519) hx hb dL_law_514 (by decide) (fun c9 => ?_) (fun c9 => absurd rfl c9)
  refine lv_iload hx hb dL_law_519 (lv_at hl 1 rfl) ?_
  refine wn_if_ne (a := segT M (xs (i + 1)) (xs (i + 2))) (tgt := 536) hx hb (nI_z (Nat.lt_trans (tb_segT _ _ _) (by decide))) dL_law_521 (by decide) (fun c0 => ?_) (fun c0 => ?_)
  · refine lv_goto (tgt := 2089) hx hb dL_law_536 (by decide) ?_
    refine W.widen (k := cells + 3) (n := slots + 346) (by omega) (by omega) ?_
    exact kk _ _ _ _ _ _ _ _ _ hR1 hP hD hS ls (lv_sub hl [2, 3, 4, 5, 6] rfl)
  · refine lv_aload_n hx hb dL_law_524 rfl (lv_at hl 5 rfl) ?_
    refine lv_iconst (v := nI (0)) hx hb dL_law_525 (by decide) ?_
    refine wa_l (i := 0) (v := u.1 0) hx hb hK hP 0 1 rfl rfl rfl (by decide) (by decide) dL_law_526 ?_
    refine lv_iload hx hb dL_law_527 (lv_at hl 0 rfl) ?_
    refine lv_i2l (v := (segR M (xs (i + 1)) (xs (i + 2))).toInt64) hx hb dL_law_529 rfl ?_
    refine wl_eq (tgt := 536) hx hb dL_law_530 dL_law_531 (by decide) (fun c8 => ?_) (fun c8 => absurd (hout c0) c8)
    refine lv_goto (tgt := 2089) hx hb dL_law_536 (by decide) ?_
    refine W.widen (k := cells + 3) (n := slots + 346) (by omega) (by omega) ?_
    exact kk _ _ _ _ _ _ _ _ _ hR1 hP hD hS ls (lv_sub hl [2, 3, 4, 5, 6] rfl)
set_option maxHeartbeats 4000000 in
set_option maxRecDepth 100000 in
theorem lc_view {p : Program} {l : Launch} {e : Env} {s : State} {m : MethodId} {below : List Frame} {meth : Method} {c : Code} {D : va_G} {cI cJ cZ cV cR : ClassId} {b L : Nat} {xs : Nat → Int32} {A : Nat → Prop} {a a' : Nat → Nat} {o cells slots : Nat} {Q : State → Prop} (F : LF p l s m c D cI cJ cZ cV cR b L xs A) (hcl : cells + 3 ≤ room_1.cells) (hsl : slots + 346 ≤ room_1.slots) (i : Nat) (hi : i + 8 ≤ L) (C : CT) (VT : Nat → VRec) (RT : Nat → RRec) (M : MT) (th : Nat) (lds : Nat → Bool) (ov : Nat → Int64) (H : Heap) (locs : List Loc) (hR : Rel cI cZ C VT RT M) (hP : va_P D vwCl ((oW cJ o (ov) ++ kW cI cJ cZ cV cR a (C)) ++ mW cI cJ cZ a' (th) (lds) (M)) H) (hD : va_D A ((oW cJ o (ov) ++ kW cI cJ cZ cV cR a (C)) ++ mW cI cJ cZ a' (th) (lds) (M))) (hS : va_S A s.heap H locs) (ls : Array Slot) (hl : lv_has ls 8 [(0, .ref b), (1, .ref (a 0)), (2, .ref (a' 0)), (3, .ref o), (4, .int (nI (i)))]) (kk : ∀ (C : CT) (VT : Nat → VRec) (RT : Nat → RRec) (M : MT) (th : Nat) (lds : Nat → Bool) (ov : Nat → Int64) (H : Heap) (locs : List Loc), Rel cI cZ C VT RT M → va_P D vwCl ((oW cJ o (ov) ++ kW cI cJ cZ cV cR a (C)) ++ mW cI cJ cZ a' (th) (lds) (M)) H → va_D A ((oW cJ o (ov) ++ kW cI cJ cZ cV cR a (C)) ++ mW cI cJ cZ a' (th) (lds) (M)) → va_S A s.heap H locs → ∀ ls : Array Slot, lv_has ls 8 [(0, .ref b), (1, .ref (a 0)), (2, .ref (a' 0)), (3, .ref o), (4, .int (nI (i)))] → W p l e room_1 s m #[Value.ref b] below meth c H locs (cells + 3) (slots + 346) Q (F0 m 2089 ls [])) : W p l e room_1 s m #[Value.ref b] below meth c H locs (cells) (slots) Q (F0 m 539 ls []) := by
  obtain ⟨htr, hx, hb, hml, hown, hts, hX, hbl, hbA, hL, hA, hK, hYE, hc92⟩ := F
  have hKW : va_K D vwCl (tyW cI cJ cZ) s := hK.sub (tys' := tyW cI cJ cZ) [0, 1, 2] rfl
  refine lv_aload_n hx hb dL_law_539 rfl (lv_at hl 1 rfl) ?_
  have hP := fr_as (fr_comm hP)
  have hD := fd_as (fd_comm hD)
  refine wf_VWi (rest := []) (X := mW cI cJ cZ a' (th) (lds) (M) ++ oW cJ o (ov)) (wf := kW cI cJ cZ cV cR a) ⟨hx, hb, hml, hown, hts⟩ (c_X5_view l D cI cJ cZ cV cR a C hR.1  (srs_lt hR) H.size) (cwV 0 hts gL_law_X5_view rfl rfl rfl (by decide +kernel) ⟨Nat.le_of_ble_eq_true rfl, Nat.le_of_ble_eq_true rfl⟩) hP hK hD hS hA 0 rfl rfl rfl hl.1 rfl (Nat.le_of_ble_eq_true rfl) dL_law_540 ⟨by omega, by omega⟩ (fun rr u hu H locs hP hD hS => ?_)
  obtain ⟨hrr, VT1, RT1, hR1⟩ := J_view hR hu
  have hP : va_P D vwCl ((oW cJ o (ov) ++ kW cI cJ cZ cV cR a (u)) ++ mW cI cJ cZ a' (th) (lds) (M)) H := fr_comm (fr_sa hP)
  have hD : va_D A ((oW cJ o (ov) ++ kW cI cJ cZ cV cR a (u)) ++ mW cI cJ cZ a' (th) (lds) (M)) := fd_comm (fd_sa hD)
  refine lv_aload_n hx hb dL_law_543 rfl (lv_at hl 2 rfl) ?_
  refine wf_VWi (rest := [.int (rr)]) (X := oW cJ o (ov) ++ kW cI cJ cZ cV cR a (u)) (wf := mWu cI cJ cZ a') ⟨hx, hb, hml, hown, hts⟩ (c_X6_view l D cI cJ cZ a' (th) (lds) (M) hR.2.1   H.size) (cwV 0 hts gL_law_X6_view rfl rfl rfl (by decide +kernel) ⟨Nat.le_of_ble_eq_true rfl, Nat.le_of_ble_eq_true rfl⟩) hP hKW hD hS hA 0 rfl rfl rfl hl.1 rfl (Nat.le_of_ble_eq_true rfl) dL_law_544 ⟨by omega, by omega⟩ (fun rr2 u2 hu2 H locs hP hD hS => ?_)
  obtain ⟨hr2, hth, hM1⟩ := hu2
  have hP : va_P D vwCl ((oW cJ o (ov) ++ kW cI cJ cZ cV cR a (u)) ++ mW cI cJ cZ a' (u2.1) (u2.2.1) (u2.2.2)) H := hP
  have hD : va_D A ((oW cJ o (ov) ++ kW cI cJ cZ cV cR a (u)) ++ mW cI cJ cZ a' (u2.1) (u2.2.1) (u2.2.2)) := hD
  rw [hth, hM1] at hP hD
  refine lv_icmp_eq (tgt := 2089) hx hb dL_law_547 (by decide) (fun c9 => ?_) (fun c9 => absurd (hrr.trans hr2.symm) c9)
  refine W.widen (k := cells + 3) (n := slots + 346) (by omega) (by omega) ?_
  exact kk _ _ _ _ _ _ _ _ _ hR1 hP hD hS ls (lv_sub hl [0, 1, 2, 3, 4] rfl)
set_option maxHeartbeats 4000000 in
set_option maxRecDepth 100000 in
theorem lc_letGo {p : Program} {l : Launch} {e : Env} {s : State} {m : MethodId} {below : List Frame} {meth : Method} {c : Code} {D : va_G} {cI cJ cZ cV cR : ClassId} {b L : Nat} {xs : Nat → Int32} {A : Nat → Prop} {a a' : Nat → Nat} {o cells slots : Nat} {Q : State → Prop} (F : LF p l s m c D cI cJ cZ cV cR b L xs A) (hcl : cells + 3 ≤ room_1.cells) (hsl : slots + 346 ≤ room_1.slots) (i : Nat) (hi : i + 8 ≤ L) (C : CT) (VT : Nat → VRec) (RT : Nat → RRec) (M : MT) (th : Nat) (lds : Nat → Bool) (ov : Nat → Int64) (H : Heap) (locs : List Loc) (hR : Rel cI cZ C VT RT M) (hP : va_P D vwCl ((oW cJ o (ov) ++ kW cI cJ cZ cV cR a (C)) ++ mW cI cJ cZ a' (th) (lds) (M)) H) (hD : va_D A ((oW cJ o (ov) ++ kW cI cJ cZ cV cR a (C)) ++ mW cI cJ cZ a' (th) (lds) (M))) (hS : va_S A s.heap H locs) (ls : Array Slot) (hl : lv_has ls 8 [(0, .ref b), (1, .ref (a 0)), (2, .ref (a' 0)), (3, .ref o), (4, .int (nI (i)))]) (kk : ∀ (C : CT) (VT : Nat → VRec) (RT : Nat → RRec) (M : MT) (th : Nat) (lds : Nat → Bool) (ov : Nat → Int64) (H : Heap) (locs : List Loc), Rel cI cZ C VT RT M → va_P D vwCl ((oW cJ o (ov) ++ kW cI cJ cZ cV cR a (C)) ++ mW cI cJ cZ a' (th) (lds) (M)) H → va_D A ((oW cJ o (ov) ++ kW cI cJ cZ cV cR a (C)) ++ mW cI cJ cZ a' (th) (lds) (M)) → va_S A s.heap H locs → ∀ ls : Array Slot, lv_has ls 8 [(0, .ref b), (1, .ref (a 0)), (2, .ref (a' 0)), (3, .ref o), (4, .int (nI (i)))] → W p l e room_1 s m #[Value.ref b] below meth c H locs (cells + 3) (slots + 346) Q (F0 m 2089 ls [])) : W p l e room_1 s m #[Value.ref b] below meth c H locs (cells) (slots) Q (F0 m 552 ls []) := by
  obtain ⟨htr, hx, hb, hml, hown, hts, hX, hbl, hbA, hL, hA, hK, hYE, hc92⟩ := F
  have hKW : va_K D vwCl (tyW cI cJ cZ) s := hK.sub (tys' := tyW cI cJ cZ) [0, 1, 2] rfl
  refine lv_aload_n hx hb dL_law_552 rfl (lv_at hl 1 rfl) ?_
  refine lv_aload_n hx hb dL_law_553 rfl (lv_at hl 0 rfl) ?_
  refine lv_iload hx hb dL_law_554 (lv_at hl 4 rfl) ?_
  refine lv_iconst (v := nI (1)) hx hb dL_law_556 (by decide) ?_
  refine lv_iadd hx hb dL_law_557 (ww_top (y := nI (i + 1)) (nI_addn _ _) ?_)
  refine ws_sld (i := i + 1) hx hb hX hbl hbA hS (by omega) hL dL_law_558 ?_
  refine lv_aload_n hx hb dL_law_559 rfl (lv_at hl 3 rfl) ?_
  have hP := fr_comm hP
  have hD := fd_comm hD
  refine wf_SWi (rest := []) (X := mW cI cJ cZ a' (th) (lds) (M)) (wf := fun u : (Nat → Int64) × CT => oW cJ o u.1 ++ kW cI cJ cZ cV cR a u.2) ⟨hx, hb, hml, hown, hts⟩ (w_L_letGo l htr D cI cJ cZ cV cR a C VT RT hR.ci o ov (xs (i + 1)) H.size) (vx_cwSW 3 hts gL_law_L_letGo rfl rfl rfl (by decide +kernel) ⟨Nat.le_of_ble_eq_true rfl, Nat.le_of_ble_eq_true rfl⟩) hP hK hD hS hA hYE rfl hl.1 rfl (Nat.le_of_ble_eq_true rfl) dL_law_560 ⟨by omega, by omega⟩ (fun rr u hu H locs hP hD hS => ?_)
  obtain ⟨hrr, hout, VT1, RT1, hR1⟩ := J_letGo hR hu
  subst hrr
  have hP : va_P D vwCl ((oW cJ o (u.1) ++ kW cI cJ cZ cV cR a (u.2)) ++ mW cI cJ cZ a' (th) (lds) (M)) H := fr_comm hP
  have hD : va_D A ((oW cJ o (u.1) ++ kW cI cJ cZ cV cR a (u.2)) ++ mW cI cJ cZ a' (th) (lds) (M)) := fd_comm hD
  refine lv_istore (lv' := [(5, .int (nI (letGoT M (xs (i + 1))))), (0, .ref (b)), (1, .ref (a 0)), (2, .ref (a' 0)), (3, .ref (o)), (4, .int (nI (i)))]) hx hb dL_law_563 hl (by decide) rfl (fun ls hl => ?_)
  refine lv_aload_n hx hb dL_law_565 rfl (lv_at hl 3 rfl) ?_
  refine lv_aload_n hx hb dL_law_566 rfl (lv_at hl 1 rfl) ?_
  refine lv_iload hx hb dL_law_567 (lv_at hl 5 rfl) ?_
  refine lv_iconst (v := nI (1)) hx hb dL_law_569 (by decide) ?_
  refine lv_iadd hx hb dL_law_570 (ww_top (y := nI (i + 1)) (nI_addn _ _) ?_)
  refine ws_sld (i := i + 1) hx hb hX hbl hbA hS (by omega) hL dL_law_571 ?_
  refine wf_VWi (rest := []) (X := oW cJ o (u.1) ++ kW cI cJ cZ cV cR a (u.2)) (wf := mWu cI cJ cZ a') ⟨hx, hb, hml, hown, hts⟩ (c_X6_letGo l D cI cJ cZ a' (th) (lds) (M) hR.2.1 (xs (i + 1))  H.size) (cwV 1 hts gL_law_X6_letGo rfl rfl rfl (by decide +kernel) ⟨Nat.le_of_ble_eq_true rfl, Nat.le_of_ble_eq_true rfl⟩) hP hKW hD hS hA 0 rfl rfl rfl hl.1 rfl (Nat.le_of_ble_eq_true rfl) dL_law_572 ⟨by omega, by omega⟩ (fun rr2 u2 hu2 H locs hP hD hS => ?_)
  obtain ⟨hr2, hth, hM1⟩ := hu2
  have hP : va_P D vwCl ((oW cJ o (u.1) ++ kW cI cJ cZ cV cR a (u.2)) ++ mW cI cJ cZ a' (u2.1) (u2.2.1) (u2.2.2)) H := hP
  have hD : va_D A ((oW cJ o (u.1) ++ kW cI cJ cZ cV cR a (u.2)) ++ mW cI cJ cZ a' (u2.1) (u2.2.1) (u2.2.2)) := hD
  rw [hth, hM1] at hP hD
  subst hr2
  refine lv_istore (lv' := [(6, .int (letGoR M (xs (i + 1)))), (5, .int (nI (letGoT M (xs (i + 1))))), (0, .ref (b)), (1, .ref (a 0)), (2, .ref (a' 0)), (3, .ref (o)), (4, .int (nI (i)))]) hx hb dL_law_575 hl (by decide) rfl (fun ls hl => ?_)
  refine lv_aload_n hx hb dL_law_577 rfl (lv_at hl 4 rfl) ?_
  refine wc_Vi (As := []) (rest := []) ⟨hx, hb, hml, hown, hts⟩ (c_X6_thrown l D cI cJ cZ a' (letGoT M (xs (i + 1))) (u2.2.1) (letGoM M (xs (i + 1))) hR1.2.1) (cwV 0 hts gL_law_X6_thrown rfl rfl rfl (by decide +kernel) ⟨Nat.le_of_ble_eq_true rfl, Nat.le_of_ble_eq_true rfl⟩) (fr_r hP) hKW 0 rfl rfl rfl hl.1 rfl (Nat.le_of_ble_eq_true rfl) dL_law_578 ⟨by omega, by omega⟩ (fun rr9 hr9 => ?_)
  subst hr9
  refine lv_iload hx hb dL_law_581 (lv_at hl 1 rfl) ?_
  refine lv_icmp_eq (tgt := 588) hx hb dL_law_583 (by decide) (fun c9 => ?_) (fun c9 => absurd rfl c9)
  refine lv_iload hx hb dL_law_588 (lv_at hl 1 rfl) ?_
  refine wn_if_ne (a := letGoT M (xs (i + 1))) (tgt := 605) hx hb (nI_z (Nat.lt_trans (tb_letGoT _ _) (by decide))) dL_law_590 (by decide) (fun c0 => ?_) (fun c0 => ?_)
  · refine lv_goto (tgt := 2089) hx hb dL_law_605 (by decide) ?_
    refine W.widen (k := cells + 3) (n := slots + 346) (by omega) (by omega) ?_
    exact kk _ _ _ _ _ _ _ _ _ hR1 hP hD hS ls (lv_sub hl [2, 3, 4, 5, 6] rfl)
  · refine lv_aload_n hx hb dL_law_593 rfl (lv_at hl 5 rfl) ?_
    refine lv_iconst (v := nI (0)) hx hb dL_law_594 (by decide) ?_
    refine wa_l (i := 0) (v := u.1 0) hx hb hK hP 0 1 rfl rfl rfl (by decide) (by decide) dL_law_595 ?_
    refine lv_iload hx hb dL_law_596 (lv_at hl 0 rfl) ?_
    refine lv_i2l (v := (letGoR M (xs (i + 1))).toInt64) hx hb dL_law_598 rfl ?_
    refine wl_eq (tgt := 605) hx hb dL_law_599 dL_law_600 (by decide) (fun c8 => ?_) (fun c8 => absurd (hout c0) c8)
    refine lv_goto (tgt := 2089) hx hb dL_law_605 (by decide) ?_
    refine W.widen (k := cells + 3) (n := slots + 346) (by omega) (by omega) ?_
    exact kk _ _ _ _ _ _ _ _ _ hR1 hP hD hS ls (lv_sub hl [2, 3, 4, 5, 6] rfl)
set_option maxHeartbeats 4000000 in
set_option maxRecDepth 100000 in
theorem lc_state {p : Program} {l : Launch} {e : Env} {s : State} {m : MethodId} {below : List Frame} {meth : Method} {c : Code} {D : va_G} {cI cJ cZ cV cR : ClassId} {b L : Nat} {xs : Nat → Int32} {A : Nat → Prop} {a a' : Nat → Nat} {o cells slots : Nat} {Q : State → Prop} (F : LF p l s m c D cI cJ cZ cV cR b L xs A) (hcl : cells + 3 ≤ room_1.cells) (hsl : slots + 346 ≤ room_1.slots) (i : Nat) (hi : i + 8 ≤ L) (C : CT) (VT : Nat → VRec) (RT : Nat → RRec) (M : MT) (th : Nat) (lds : Nat → Bool) (ov : Nat → Int64) (H : Heap) (locs : List Loc) (hR : Rel cI cZ C VT RT M) (hP : va_P D vwCl ((oW cJ o (ov) ++ kW cI cJ cZ cV cR a (C)) ++ mW cI cJ cZ a' (th) (lds) (M)) H) (hD : va_D A ((oW cJ o (ov) ++ kW cI cJ cZ cV cR a (C)) ++ mW cI cJ cZ a' (th) (lds) (M))) (hS : va_S A s.heap H locs) (ls : Array Slot) (hl : lv_has ls 8 [(0, .ref b), (1, .ref (a 0)), (2, .ref (a' 0)), (3, .ref o), (4, .int (nI (i)))]) (kk : ∀ (C : CT) (VT : Nat → VRec) (RT : Nat → RRec) (M : MT) (th : Nat) (lds : Nat → Bool) (ov : Nat → Int64) (H : Heap) (locs : List Loc), Rel cI cZ C VT RT M → va_P D vwCl ((oW cJ o (ov) ++ kW cI cJ cZ cV cR a (C)) ++ mW cI cJ cZ a' (th) (lds) (M)) H → va_D A ((oW cJ o (ov) ++ kW cI cJ cZ cV cR a (C)) ++ mW cI cJ cZ a' (th) (lds) (M)) → va_S A s.heap H locs → ∀ ls : Array Slot, lv_has ls 8 [(0, .ref b), (1, .ref (a 0)), (2, .ref (a' 0)), (3, .ref o), (4, .int (nI (i)))] → W p l e room_1 s m #[Value.ref b] below meth c H locs (cells + 3) (slots + 346) Q (F0 m 2089 ls [])) : W p l e room_1 s m #[Value.ref b] below meth c H locs (cells) (slots) Q (F0 m 608 ls []) := by
  obtain ⟨htr, hx, hb, hml, hown, hts, hX, hbl, hbA, hL, hA, hK, hYE, hc92⟩ := F
  have hKW : va_K D vwCl (tyW cI cJ cZ) s := hK.sub (tys' := tyW cI cJ cZ) [0, 1, 2] rfl
  refine lv_aload_n hx hb dL_law_608 rfl (lv_at hl 1 rfl) ?_
  refine lv_aload_n hx hb dL_law_609 rfl (lv_at hl 0 rfl) ?_
  refine lv_iload hx hb dL_law_610 (lv_at hl 4 rfl) ?_
  refine lv_iconst (v := nI (1)) hx hb dL_law_612 (by decide) ?_
  refine lv_iadd hx hb dL_law_613 (ww_top (y := nI (i + 1)) (nI_addn _ _) ?_)
  refine ws_sld (i := i + 1) hx hb hX hbl hbA hS (by omega) hL dL_law_614 ?_
  refine lv_aload_n hx hb dL_law_615 rfl (lv_at hl 3 rfl) ?_
  have hP := fr_comm hP
  have hD := fd_comm hD
  refine wf_SWi (rest := []) (X := mW cI cJ cZ a' (th) (lds) (M)) (wf := fun u : (Nat → Int64) × CT => oW cJ o u.1 ++ kW cI cJ cZ cV cR a u.2) ⟨hx, hb, hml, hown, hts⟩ (w_L_state l htr D cI cJ cZ cV cR a C VT RT hR.ci o ov (xs (i + 1)) H.size) (vx_cwSW 3 hts gL_law_L_state rfl rfl rfl (by decide +kernel) ⟨Nat.le_of_ble_eq_true rfl, Nat.le_of_ble_eq_true rfl⟩) hP hK hD hS hA hYE rfl hl.1 rfl (Nat.le_of_ble_eq_true rfl) dL_law_616 ⟨by omega, by omega⟩ (fun rr u hu H locs hP hD hS => ?_)
  obtain ⟨hrr, hout, VT1, RT1, hR1⟩ := J_state hR hu
  subst hrr
  have hP : va_P D vwCl ((oW cJ o (u.1) ++ kW cI cJ cZ cV cR a (u.2)) ++ mW cI cJ cZ a' (th) (lds) (M)) H := fr_comm hP
  have hD : va_D A ((oW cJ o (u.1) ++ kW cI cJ cZ cV cR a (u.2)) ++ mW cI cJ cZ a' (th) (lds) (M)) := fd_comm hD
  refine lv_istore (lv' := [(5, .int (nI (vT M (xs (i + 1))))), (0, .ref (b)), (1, .ref (a 0)), (2, .ref (a' 0)), (3, .ref (o)), (4, .int (nI (i)))]) hx hb dL_law_619 hl (by decide) rfl (fun ls hl => ?_)
  refine lv_aload_n hx hb dL_law_621 rfl (lv_at hl 3 rfl) ?_
  refine lv_aload_n hx hb dL_law_622 rfl (lv_at hl 1 rfl) ?_
  refine lv_iload hx hb dL_law_623 (lv_at hl 5 rfl) ?_
  refine lv_iconst (v := nI (1)) hx hb dL_law_625 (by decide) ?_
  refine lv_iadd hx hb dL_law_626 (ww_top (y := nI (i + 1)) (nI_addn _ _) ?_)
  refine ws_sld (i := i + 1) hx hb hX hbl hbA hS (by omega) hL dL_law_627 ?_
  refine wf_VWi (rest := []) (X := oW cJ o (u.1) ++ kW cI cJ cZ cV cR a (u.2)) (wf := mWu cI cJ cZ a') ⟨hx, hb, hml, hown, hts⟩ (c_X6_state l D cI cJ cZ a' (th) (lds) (M) hR.2.1 (xs (i + 1))  H.size) (cwV 1 hts gL_law_X6_state rfl rfl rfl (by decide +kernel) ⟨Nat.le_of_ble_eq_true rfl, Nat.le_of_ble_eq_true rfl⟩) hP hKW hD hS hA 0 rfl rfl rfl hl.1 rfl (Nat.le_of_ble_eq_true rfl) dL_law_628 ⟨by omega, by omega⟩ (fun rr2 u2 hu2 H locs hP hD hS => ?_)
  obtain ⟨hr2, hth, hM1⟩ := hu2
  have hP : va_P D vwCl ((oW cJ o (u.1) ++ kW cI cJ cZ cV cR a (u.2)) ++ mW cI cJ cZ a' (u2.1) (u2.2.1) (u2.2.2)) H := hP
  have hD : va_D A ((oW cJ o (u.1) ++ kW cI cJ cZ cV cR a (u.2)) ++ mW cI cJ cZ a' (u2.1) (u2.2.1) (u2.2.2)) := hD
  rw [hth, hM1] at hP hD
  subst hr2
  refine lv_istore (lv' := [(6, .int (stateR M (xs (i + 1)))), (5, .int (nI (vT M (xs (i + 1))))), (0, .ref (b)), (1, .ref (a 0)), (2, .ref (a' 0)), (3, .ref (o)), (4, .int (nI (i)))]) hx hb dL_law_631 hl (by decide) rfl (fun ls hl => ?_)
  refine lv_aload_n hx hb dL_law_633 rfl (lv_at hl 4 rfl) ?_
  refine wc_Vi (As := []) (rest := []) ⟨hx, hb, hml, hown, hts⟩ (c_X6_thrown l D cI cJ cZ a' (vT M (xs (i + 1))) (u2.2.1) (M) hR1.2.1) (cwV 0 hts gL_law_X6_thrown rfl rfl rfl (by decide +kernel) ⟨Nat.le_of_ble_eq_true rfl, Nat.le_of_ble_eq_true rfl⟩) (fr_r hP) hKW 0 rfl rfl rfl hl.1 rfl (Nat.le_of_ble_eq_true rfl) dL_law_634 ⟨by omega, by omega⟩ (fun rr9 hr9 => ?_)
  subst hr9
  refine lv_iload hx hb dL_law_637 (lv_at hl 1 rfl) ?_
  refine lv_icmp_eq (tgt := 644) hx hb dL_law_639 (by decide) (fun c9 => ?_) (fun c9 => absurd rfl c9)
  refine lv_iload hx hb dL_law_644 (lv_at hl 1 rfl) ?_
  refine wn_if_ne (a := vT M (xs (i + 1))) (tgt := 661) hx hb (nI_z (Nat.lt_trans (tb_vT _ _) (by decide))) dL_law_646 (by decide) (fun c0 => ?_) (fun c0 => ?_)
  · refine lv_goto (tgt := 2089) hx hb dL_law_661 (by decide) ?_
    refine W.widen (k := cells + 3) (n := slots + 346) (by omega) (by omega) ?_
    exact kk _ _ _ _ _ _ _ _ _ hR1 hP hD hS ls (lv_sub hl [2, 3, 4, 5, 6] rfl)
  · refine lv_aload_n hx hb dL_law_649 rfl (lv_at hl 5 rfl) ?_
    refine lv_iconst (v := nI (0)) hx hb dL_law_650 (by decide) ?_
    refine wa_l (i := 0) (v := u.1 0) hx hb hK hP 0 1 rfl rfl rfl (by decide) (by decide) dL_law_651 ?_
    refine lv_iload hx hb dL_law_652 (lv_at hl 0 rfl) ?_
    refine lv_i2l (v := (stateR M (xs (i + 1))).toInt64) hx hb dL_law_654 rfl ?_
    refine wl_eq (tgt := 661) hx hb dL_law_655 dL_law_656 (by decide) (fun c8 => ?_) (fun c8 => absurd (hout c0) c8)
    refine lv_goto (tgt := 2089) hx hb dL_law_661 (by decide) ?_
    refine W.widen (k := cells + 3) (n := slots + 346) (by omega) (by omega) ?_
    exact kk _ _ _ _ _ _ _ _ _ hR1 hP hD hS ls (lv_sub hl [2, 3, 4, 5, 6] rfl)
