set_option maxHeartbeats 4000000 in
set_option maxRecDepth 100000 in
theorem law_0 {p : Program} {l : Launch} {e : Env} {s : State} {m : MethodId} {below : List Frame} {meth : Method} {c : Code} {b L : Nat} {xs : Nat → Int32} {dC : Nat → ClassId} {dI : Nat → Nat → Nat} {cyB cyI cyJ cyZ cyO : ClassId} {adK adV : Nat → Nat} (C0 : lw_At p s m meth c b L xs) (hL : L ≤ 3072) (hKN : KN (dC, dI) (kT cyB cyI cyJ cyZ cyO) s) (hZ : ZS adK adV (fun q : Nat => s.heap.size ≤ q) s s.heap) {oX oM : Nat} {i t : Int32} {WX WM : va_W} {cells slots : Nat} (hXI : XI cyB cyI cyJ cyZ cyO oX t WX) (hMI : MI cyB cyI cyJ cyZ cyO oM t WM) (hi0 : 0 ≤ i.toInt) (hi6 : i.toInt + 6 ≤ L) (hc : cells + 8 ≤ 600000) (hs : slots + 773 ≤ 7302250) {H : Heap} {locs : List Loc} (hP : va_P (dC, dI) vwCl (WX ++ WM) H) (hD : va_D (fun q : Nat => s.heap.size ≤ q) (WX ++ WM)) (hS : va_S (fun q : Nat => s.heap.size ≤ q) s.heap H locs) {ls : Array Slot} (hl : lv_has ls 4 [(3, .int i), (2, .ref oM), (1, .ref oX), (0, .ref b)]) (kk : ∀ (t : Int32) (WX WM : va_W) (H : Heap) (locs : List Loc), XI cyB cyI cyJ cyZ cyO oX t WX → MI cyB cyI cyJ cyZ cyO oM t WM → va_P (dC, dI) vwCl (WX ++ WM) H → va_D (fun q : Nat => s.heap.size ≤ q) (WX ++ WM) → va_S (fun q : Nat => s.heap.size ≤ q) s.heap H locs → W p l e room_1 s m #[Value.ref b] below meth c H locs (cells + 8) (slots + 773) (lw_Z below #[Value.ref b] s) (F0 m 1548 ls [])) : W p l e room_1 s m #[Value.ref b] below meth c H locs cells slots (lw_Z below #[Value.ref b] s) (F0 m 256 ls []) := by
  obtain ⟨hx, hb, hr, hml, hown, hts, hX, hbl, hlocks, hgv⟩ := id C0
  have hA : ∀ q : Nat, s.heap.size ≤ q → (fun q : Nat => s.heap.size ≤ q) q := fun _ h => h
  have hbA : ¬ (fun q : Nat => s.heap.size ≤ q) b := Nat.not_le.mpr hbl
  have hfix : CallFix p m c code 4 s #[Value.ref b] lw_tbl R_law := ⟨hx, hb, hml, hown, hts⟩
  refine lv_aload_n hx hb dL_law_256 rfl (lv_at hl 2 rfl) ?_
  refine lv_aload_n hx hb dL_law_257 rfl (lv_at hl 3 rfl) ?_
  refine lv_iload_n hx hb dL_law_258 rfl (lv_at hl 0 rfl) ?_
  refine lv_iconst (v := 1) hx hb dL_law_259 (by decide) ?_
  refine lv_iadd hx hb dL_law_260 ?_
  refine lv_topi (fun z1 ez1 => ?_)
  have tz1 : z1.toInt = i.toInt + 1 := ti_add ez1 rfl (by decide) (by omega) (by omega)
  refine va_sld hx hb hX hbl hbA hS (vp_i rfl (by omega) (by omega)) dL_law_261 ?_
  refine lv_topi (fun v2 ev2 => ?_)
  clear ev2
  refine lv_aload_n hx hb dL_law_262 rfl (lv_at hl 3 rfl) ?_
  refine lv_iload_n hx hb dL_law_263 rfl (lv_at hl 0 rfl) ?_
  refine lv_iconst (v := 2) hx hb dL_law_264 (by decide) ?_
  refine lv_iadd hx hb dL_law_265 ?_
  refine lv_topi (fun z3 ez3 => ?_)
  have tz3 : z3.toInt = i.toInt + 2 := ti_add ez3 rfl (by decide) (by omega) (by omega)
  refine va_sld hx hb hX hbl hbA hS (vp_i rfl (by omega) (by omega)) dL_law_266 ?_
  refine lv_topi (fun v4 ev4 => ?_)
  clear ev4
  refine lv_aload_n hx hb dL_law_267 rfl (lv_at hl 3 rfl) ?_
  refine lv_iload_n hx hb dL_law_268 rfl (lv_at hl 0 rfl) ?_
  refine lv_iconst (v := 3) hx hb dL_law_269 (by decide) ?_
  refine lv_iadd hx hb dL_law_270 ?_
  refine lv_topi (fun z5 ez5 => ?_)
  have tz5 : z5.toInt = i.toInt + 3 := ti_add ez5 rfl (by decide) (by omega) (by omega)
  refine va_sld hx hb hX hbl hbA hS (vp_i rfl (by omega) (by omega)) dL_law_271 ?_
  refine lv_topi (fun v6 ev6 => ?_)
  clear ev6
  refine lv_aload_n hx hb dL_law_272 rfl (lv_at hl 3 rfl) ?_
  refine lv_iload_n hx hb dL_law_273 rfl (lv_at hl 0 rfl) ?_
  refine lv_iconst (v := 4) hx hb dL_law_274 (by decide) ?_
  refine lv_iadd hx hb dL_law_275 ?_
  refine lv_topi (fun z7 ez7 => ?_)
  have tz7 : z7.toInt = i.toInt + 4 := ti_add ez7 rfl (by decide) (by omega) (by omega)
  refine va_sld hx hb hX hbl hbA hS (vp_i rfl (by omega) (by omega)) dL_law_276 ?_
  refine lv_topi (fun v8 ev8 => ?_)
  clear ev8
  refine lv_aload_n hx hb dL_law_277 rfl (lv_at hl 3 rfl) ?_
  refine lv_iload_n hx hb dL_law_278 rfl (lv_at hl 0 rfl) ?_
  refine lv_iconst (v := 5) hx hb dL_law_279 (by decide) ?_
  refine lv_iadd hx hb dL_law_280 ?_
  refine lv_topi (fun z9 ez9 => ?_)
  have tz9 : z9.toInt = i.toInt + 5 := ti_add ez9 rfl (by decide) (by omega) (by omega)
  refine va_sld hx hb hX hbl hbA hS (vp_i rfl (by omega) (by omega)) dL_law_281 ?_
  refine lv_topi (fun v10 ev10 => ?_)
  clear ev10
  refine lw_i (va_runV (As := [.int v2, .int v4, .int v6, .int v8, .int v10]) (rest := []) hfix (cx_feed l dC dI cyB cyI cyJ cyZ cyO adK adV oX t WX hXI v2 v4 v6 v8 v10 _) (cwV 5 hts (gi_V tw_0 tw_1 tw_2 tw_3 tb_k_X_feed gd_k_X_feed) rfl rfl rfl (by decide +kernel) ⟨Nat.le_of_ble_eq_true rfl, Nat.le_of_ble_eq_true rfl⟩) (g_preW hZ hS hA hKN hP hD 6 (XI.recv hXI) rfl) rfl rfl hl.1 rfl (lv_room (Nat.le_of_ble_eq_true rfl)) dL_law_282 ⟨lw_rc (by omega), lw_rs (by omega)⟩) hP hD hS hA (fun r11 W1 H locs q1 hP hD hS => ?_)
  refine lv_pop hx hb dL_law_285 rfl ?_
  refine lv_aload_n hx hb dL_law_286 rfl (lv_at hl 1 rfl) ?_
  refine lv_aload_n hx hb dL_law_287 rfl (lv_at hl 3 rfl) ?_
  refine lv_iload_n hx hb dL_law_288 rfl (lv_at hl 0 rfl) ?_
  refine lv_iconst (v := 1) hx hb dL_law_289 (by decide) ?_
  refine lv_iadd hx hb dL_law_290 ?_
  refine lv_topi (fun z12 ez12 => ?_)
  have tz12 : z12.toInt = i.toInt + 1 := ti_add ez12 rfl (by decide) (by omega) (by omega)
  refine va_sld hx hb hX hbl hbA hS (vp_i rfl (by omega) (by omega)) dL_law_291 ?_
  refine lv_topi (fun v13 ev13 => ?_)
  clear ev13
  refine lv_aload_n hx hb dL_law_292 rfl (lv_at hl 3 rfl) ?_
  refine lv_iload_n hx hb dL_law_293 rfl (lv_at hl 0 rfl) ?_
  refine lv_iconst (v := 2) hx hb dL_law_294 (by decide) ?_
  refine lv_iadd hx hb dL_law_295 ?_
  refine lv_topi (fun z14 ez14 => ?_)
  have tz14 : z14.toInt = i.toInt + 2 := ti_add ez14 rfl (by decide) (by omega) (by omega)
  refine va_sld hx hb hX hbl hbA hS (vp_i rfl (by omega) (by omega)) dL_law_296 ?_
  refine lv_topi (fun v15 ev15 => ?_)
  clear ev15
  refine lv_aload_n hx hb dL_law_297 rfl (lv_at hl 3 rfl) ?_
  refine lv_iload_n hx hb dL_law_298 rfl (lv_at hl 0 rfl) ?_
  refine lv_iconst (v := 3) hx hb dL_law_299 (by decide) ?_
  refine lv_iadd hx hb dL_law_300 ?_
  refine lv_topi (fun z16 ez16 => ?_)
  have tz16 : z16.toInt = i.toInt + 3 := ti_add ez16 rfl (by decide) (by omega) (by omega)
  refine va_sld hx hb hX hbl hbA hS (vp_i rfl (by omega) (by omega)) dL_law_301 ?_
  refine lv_topi (fun v17 ev17 => ?_)
  clear ev17
  refine lv_aload_n hx hb dL_law_302 rfl (lv_at hl 3 rfl) ?_
  refine lv_iload_n hx hb dL_law_303 rfl (lv_at hl 0 rfl) ?_
  refine lv_iconst (v := 4) hx hb dL_law_304 (by decide) ?_
  refine lv_iadd hx hb dL_law_305 ?_
  refine lv_topi (fun z18 ez18 => ?_)
  have tz18 : z18.toInt = i.toInt + 4 := ti_add ez18 rfl (by decide) (by omega) (by omega)
  refine va_sld hx hb hX hbl hbA hS (vp_i rfl (by omega) (by omega)) dL_law_306 ?_
  refine lv_topi (fun v19 ev19 => ?_)
  clear ev19
  refine lv_aload_n hx hb dL_law_307 rfl (lv_at hl 3 rfl) ?_
  refine lv_iload_n hx hb dL_law_308 rfl (lv_at hl 0 rfl) ?_
  refine lv_iconst (v := 5) hx hb dL_law_309 (by decide) ?_
  refine lv_iadd hx hb dL_law_310 ?_
  refine lv_topi (fun z20 ez20 => ?_)
  have tz20 : z20.toInt = i.toInt + 5 := ti_add ez20 rfl (by decide) (by omega) (by omega)
  refine va_sld hx hb hX hbl hbA hS (vp_i rfl (by omega) (by omega)) dL_law_311 ?_
  refine lv_topi (fun v21 ev21 => ?_)
  clear ev21
  refine lw_i (va_runV (As := [.int v13, .int v15, .int v17, .int v19, .int v21]) (rest := []) hfix (cm_feed l dC dI cyB cyI cyJ cyZ cyO adK adV oM t WM hMI v13 v15 v17 v19 v21 _) (cwV 5 hts (gi_V tw_4 tw_5 tw_6 tw_7 tb_k_M_feed gd_k_M_feed) rfl rfl rfl (by decide +kernel) ⟨Nat.le_of_ble_eq_true rfl, Nat.le_of_ble_eq_true rfl⟩) (g_preW hZ hS hA hKN hP hD 7 (MI.recv hMI) rfl) rfl rfl hl.1 rfl (lv_room (Nat.le_of_ble_eq_true rfl)) dL_law_312 ⟨lw_rc (by omega), lw_rs (by omega)⟩) hP hD hS hA (fun r22 W2 H locs q2 hP hD hS => ?_)
  refine lv_pop hx hb dL_law_315 rfl ?_
  refine lv_goto (tgt := 1548) hx hb dL_law_316 (by decide) ?_
  refine W.widen (k := cells + 8) (n := slots + 773) (by omega) (by omega) ?_
  exact kk t W1 W2 H locs q1 q2 hP hD hS
set_option maxHeartbeats 4000000 in
set_option maxRecDepth 100000 in
theorem law_1 {p : Program} {l : Launch} {e : Env} {s : State} {m : MethodId} {below : List Frame} {meth : Method} {c : Code} {b L : Nat} {xs : Nat → Int32} {dC : Nat → ClassId} {dI : Nat → Nat → Nat} {cyB cyI cyJ cyZ cyO : ClassId} {adK adV : Nat → Nat} (C0 : lw_At p s m meth c b L xs) (hL : L ≤ 3072) (hKN : KN (dC, dI) (kT cyB cyI cyJ cyZ cyO) s) (hZ : ZS adK adV (fun q : Nat => s.heap.size ≤ q) s s.heap) {oX oM : Nat} {i t : Int32} {WX WM : va_W} {cells slots : Nat} (hXI : XI cyB cyI cyJ cyZ cyO oX t WX) (hMI : MI cyB cyI cyJ cyZ cyO oM t WM) (hi0 : 0 ≤ i.toInt) (hi6 : i.toInt + 6 ≤ L) (hc : cells + 8 ≤ 600000) (hs : slots + 773 ≤ 7302250) {H : Heap} {locs : List Loc} (hP : va_P (dC, dI) vwCl (WX ++ WM) H) (hD : va_D (fun q : Nat => s.heap.size ≤ q) (WX ++ WM)) (hS : va_S (fun q : Nat => s.heap.size ≤ q) s.heap H locs) {ls : Array Slot} (hl : lv_has ls 4 [(3, .int i), (2, .ref oM), (1, .ref oX), (0, .ref b)]) (kk : ∀ (t : Int32) (WX WM : va_W) (H : Heap) (locs : List Loc), XI cyB cyI cyJ cyZ cyO oX t WX → MI cyB cyI cyJ cyZ cyO oM t WM → va_P (dC, dI) vwCl (WX ++ WM) H → va_D (fun q : Nat => s.heap.size ≤ q) (WX ++ WM) → va_S (fun q : Nat => s.heap.size ≤ q) s.heap H locs → W p l e room_1 s m #[Value.ref b] below meth c H locs (cells + 8) (slots + 773) (lw_Z below #[Value.ref b] s) (F0 m 1548 ls [])) : W p l e room_1 s m #[Value.ref b] below meth c H locs cells slots (lw_Z below #[Value.ref b] s) (F0 m 319 ls []) := by
  obtain ⟨hx, hb, hr, hml, hown, hts, hX, hbl, hlocks, hgv⟩ := id C0
  have hA : ∀ q : Nat, s.heap.size ≤ q → (fun q : Nat => s.heap.size ≤ q) q := fun _ h => h
  have hbA : ¬ (fun q : Nat => s.heap.size ≤ q) b := Nat.not_le.mpr hbl
  have hfix : CallFix p m c code 4 s #[Value.ref b] lw_tbl R_law := ⟨hx, hb, hml, hown, hts⟩
  refine lv_aload_n hx hb dL_law_319 rfl (lv_at hl 2 rfl) ?_
  refine lv_aload_n hx hb dL_law_320 rfl (lv_at hl 3 rfl) ?_
  refine lv_iload_n hx hb dL_law_321 rfl (lv_at hl 0 rfl) ?_
  refine lv_iconst (v := 1) hx hb dL_law_322 (by decide) ?_
  refine lv_iadd hx hb dL_law_323 ?_
  refine lv_topi (fun z1 ez1 => ?_)
  have tz1 : z1.toInt = i.toInt + 1 := ti_add ez1 rfl (by decide) (by omega) (by omega)
  refine va_sld hx hb hX hbl hbA hS (vp_i rfl (by omega) (by omega)) dL_law_324 ?_
  refine lv_topi (fun v2 ev2 => ?_)
  clear ev2
  refine lw_i (va_runV (As := [.int v2]) (rest := []) hfix (cx_end l dC dI cyB cyI cyJ cyZ cyO adK adV oX t WX hXI v2 _) (cwV 1 hts (gi_V tw_8 tw_9 tw_10 tw_3 tb_k_X_end gd_k_X_end) rfl rfl rfl (by decide +kernel) ⟨Nat.le_of_ble_eq_true rfl, Nat.le_of_ble_eq_true rfl⟩) (g_preW hZ hS hA hKN hP hD 6 (XI.recv hXI) rfl) rfl rfl hl.1 rfl (lv_room (Nat.le_of_ble_eq_true rfl)) dL_law_325 ⟨lw_rc (by omega), lw_rs (by omega)⟩) hP hD hS hA (fun r3 W1 H locs q1 hP hD hS => ?_)
  refine lv_pop hx hb dL_law_328 rfl ?_
  refine lv_aload_n hx hb dL_law_329 rfl (lv_at hl 1 rfl) ?_
  refine lv_aload_n hx hb dL_law_330 rfl (lv_at hl 3 rfl) ?_
  refine lv_iload_n hx hb dL_law_331 rfl (lv_at hl 0 rfl) ?_
  refine lv_iconst (v := 1) hx hb dL_law_332 (by decide) ?_
  refine lv_iadd hx hb dL_law_333 ?_
  refine lv_topi (fun z4 ez4 => ?_)
  have tz4 : z4.toInt = i.toInt + 1 := ti_add ez4 rfl (by decide) (by omega) (by omega)
  refine va_sld hx hb hX hbl hbA hS (vp_i rfl (by omega) (by omega)) dL_law_334 ?_
  refine lv_topi (fun v5 ev5 => ?_)
  clear ev5
  refine lw_i (va_runV (As := [.int v5]) (rest := []) hfix (cm_end l dC dI cyB cyI cyJ cyZ cyO adK adV oM t WM hMI v5 _) (cwV 1 hts (gi_V tw_11 tw_12 tw_13 tw_7 tb_k_M_end gd_k_M_end) rfl rfl rfl (by decide +kernel) ⟨Nat.le_of_ble_eq_true rfl, Nat.le_of_ble_eq_true rfl⟩) (g_preW hZ hS hA hKN hP hD 7 (MI.recv hMI) rfl) rfl rfl hl.1 rfl (lv_room (Nat.le_of_ble_eq_true rfl)) dL_law_335 ⟨lw_rc (by omega), lw_rs (by omega)⟩) hP hD hS hA (fun r6 W2 H locs q2 hP hD hS => ?_)
  refine lv_pop hx hb dL_law_338 rfl ?_
  refine lv_goto (tgt := 1548) hx hb dL_law_339 (by decide) ?_
  refine W.widen (k := cells + 8) (n := slots + 773) (by omega) (by omega) ?_
  exact kk t W1 W2 H locs q1 q2 hP hD hS
set_option maxHeartbeats 4000000 in
set_option maxRecDepth 100000 in
theorem law_2 {p : Program} {l : Launch} {e : Env} {s : State} {m : MethodId} {below : List Frame} {meth : Method} {c : Code} {b L : Nat} {xs : Nat → Int32} {dC : Nat → ClassId} {dI : Nat → Nat → Nat} {cyB cyI cyJ cyZ cyO : ClassId} {adK adV : Nat → Nat} (C0 : lw_At p s m meth c b L xs) (hL : L ≤ 3072) (hKN : KN (dC, dI) (kT cyB cyI cyJ cyZ cyO) s) (hZ : ZS adK adV (fun q : Nat => s.heap.size ≤ q) s s.heap) {oX oM : Nat} {i t : Int32} {WX WM : va_W} {cells slots : Nat} (hXI : XI cyB cyI cyJ cyZ cyO oX t WX) (hMI : MI cyB cyI cyJ cyZ cyO oM t WM) (hi0 : 0 ≤ i.toInt) (hi6 : i.toInt + 6 ≤ L) (hc : cells + 8 ≤ 600000) (hs : slots + 773 ≤ 7302250) {H : Heap} {locs : List Loc} (hP : va_P (dC, dI) vwCl (WX ++ WM) H) (hD : va_D (fun q : Nat => s.heap.size ≤ q) (WX ++ WM)) (hS : va_S (fun q : Nat => s.heap.size ≤ q) s.heap H locs) {ls : Array Slot} (hl : lv_has ls 4 [(3, .int i), (2, .ref oM), (1, .ref oX), (0, .ref b)]) (kk : ∀ (t : Int32) (WX WM : va_W) (H : Heap) (locs : List Loc), XI cyB cyI cyJ cyZ cyO oX t WX → MI cyB cyI cyJ cyZ cyO oM t WM → va_P (dC, dI) vwCl (WX ++ WM) H → va_D (fun q : Nat => s.heap.size ≤ q) (WX ++ WM) → va_S (fun q : Nat => s.heap.size ≤ q) s.heap H locs → W p l e room_1 s m #[Value.ref b] below meth c H locs (cells + 8) (slots + 773) (lw_Z below #[Value.ref b] s) (F0 m 1548 ls [])) : W p l e room_1 s m #[Value.ref b] below meth c H locs cells slots (lw_Z below #[Value.ref b] s) (F0 m 342 ls []) := by
  obtain ⟨hx, hb, hr, hml, hown, hts, hX, hbl, hlocks, hgv⟩ := id C0
  have hA : ∀ q : Nat, s.heap.size ≤ q → (fun q : Nat => s.heap.size ≤ q) q := fun _ h => h
  have hbA : ¬ (fun q : Nat => s.heap.size ≤ q) b := Nat.not_le.mpr hbl
  have hfix : CallFix p m c code 4 s #[Value.ref b] lw_tbl R_law := ⟨hx, hb, hml, hown, hts⟩
  refine lv_aload_n hx hb dL_law_342 rfl (lv_at hl 2 rfl) ?_
  refine lw_i (va_runV (As := []) (rest := []) hfix (cx_chain l dC dI cyB cyI cyJ cyZ cyO adK adV oX t WX hXI _) (cwV 0 hts (gi_V tw_14 tw_15 tw_16 tw_3 tb_k_X_chain gd_k_X_chain) rfl rfl rfl (by decide +kernel) ⟨Nat.le_of_ble_eq_true rfl, Nat.le_of_ble_eq_true rfl⟩) (g_preW hZ hS hA hKN hP hD 6 (XI.recv hXI) rfl) rfl rfl hl.1 rfl (lv_room (Nat.le_of_ble_eq_true rfl)) dL_law_343 ⟨lw_rc (by omega), lw_rs (by omega)⟩) hP hD hS hA (fun r1 W1 H locs q1 hP hD hS => ?_)
  refine lv_pop hx hb dL_law_346 rfl ?_
  refine lv_aload_n hx hb dL_law_347 rfl (lv_at hl 1 rfl) ?_
  refine lw_i (va_runV (As := []) (rest := []) hfix (cm_chain l dC dI cyB cyI cyJ cyZ cyO adK adV oM t WM hMI _) (cwV 0 hts (gi_V tw_17 tw_18 tw_19 tw_7 tb_k_M_chain gd_k_M_chain) rfl rfl rfl (by decide +kernel) ⟨Nat.le_of_ble_eq_true rfl, Nat.le_of_ble_eq_true rfl⟩) (g_preW hZ hS hA hKN hP hD 7 (MI.recv hMI) rfl) rfl rfl hl.1 rfl (lv_room (Nat.le_of_ble_eq_true rfl)) dL_law_348 ⟨lw_rc (by omega), lw_rs (by omega)⟩) hP hD hS hA (fun r2 W2 H locs q2 hP hD hS => ?_)
  refine lv_pop hx hb dL_law_351 rfl ?_
  refine lv_goto (tgt := 1548) hx hb dL_law_352 (by decide) ?_
  refine W.widen (k := cells + 8) (n := slots + 773) (by omega) (by omega) ?_
  exact kk t W1 W2 H locs q1 q2 hP hD hS
set_option maxHeartbeats 4000000 in
set_option maxRecDepth 100000 in
theorem law_3 {p : Program} {l : Launch} {e : Env} {s : State} {m : MethodId} {below : List Frame} {meth : Method} {c : Code} {b L : Nat} {xs : Nat → Int32} {dC : Nat → ClassId} {dI : Nat → Nat → Nat} {cyB cyI cyJ cyZ cyO : ClassId} {adK adV : Nat → Nat} (C0 : lw_At p s m meth c b L xs) (hL : L ≤ 3072) (hKN : KN (dC, dI) (kT cyB cyI cyJ cyZ cyO) s) (hZ : ZS adK adV (fun q : Nat => s.heap.size ≤ q) s s.heap) {oX oM : Nat} {i t : Int32} {WX WM : va_W} {cells slots : Nat} (hXI : XI cyB cyI cyJ cyZ cyO oX t WX) (hMI : MI cyB cyI cyJ cyZ cyO oM t WM) (hi0 : 0 ≤ i.toInt) (hi6 : i.toInt + 6 ≤ L) (hc : cells + 8 ≤ 600000) (hs : slots + 773 ≤ 7302250) {H : Heap} {locs : List Loc} (hP : va_P (dC, dI) vwCl (WX ++ WM) H) (hD : va_D (fun q : Nat => s.heap.size ≤ q) (WX ++ WM)) (hS : va_S (fun q : Nat => s.heap.size ≤ q) s.heap H locs) {ls : Array Slot} (hl : lv_has ls 4 [(3, .int i), (2, .ref oM), (1, .ref oX), (0, .ref b)]) (kk : ∀ (t : Int32) (WX WM : va_W) (H : Heap) (locs : List Loc), XI cyB cyI cyJ cyZ cyO oX t WX → MI cyB cyI cyJ cyZ cyO oM t WM → va_P (dC, dI) vwCl (WX ++ WM) H → va_D (fun q : Nat => s.heap.size ≤ q) (WX ++ WM) → va_S (fun q : Nat => s.heap.size ≤ q) s.heap H locs → W p l e room_1 s m #[Value.ref b] below meth c H locs (cells + 8) (slots + 773) (lw_Z below #[Value.ref b] s) (F0 m 1548 ls [])) : W p l e room_1 s m #[Value.ref b] below meth c H locs cells slots (lw_Z below #[Value.ref b] s) (F0 m 355 ls []) := by
  obtain ⟨hx, hb, hr, hml, hown, hts, hX, hbl, hlocks, hgv⟩ := id C0
  have hA : ∀ q : Nat, s.heap.size ≤ q → (fun q : Nat => s.heap.size ≤ q) q := fun _ h => h
  have hbA : ¬ (fun q : Nat => s.heap.size ≤ q) b := Nat.not_le.mpr hbl
  have hfix : CallFix p m c code 4 s #[Value.ref b] lw_tbl R_law := ⟨hx, hb, hml, hown, hts⟩
  refine lv_aload_n hx hb dL_law_355 rfl (lv_at hl 2 rfl) ?_
  refine lv_aload_n hx hb dL_law_356 rfl (lv_at hl 3 rfl) ?_
  refine lv_iload_n hx hb dL_law_357 rfl (lv_at hl 0 rfl) ?_
  refine lv_iconst (v := 1) hx hb dL_law_358 (by decide) ?_
  refine lv_iadd hx hb dL_law_359 ?_
  refine lv_topi (fun z1 ez1 => ?_)
  have tz1 : z1.toInt = i.toInt + 1 := ti_add ez1 rfl (by decide) (by omega) (by omega)
  refine va_sld hx hb hX hbl hbA hS (vp_i rfl (by omega) (by omega)) dL_law_360 ?_
  refine lv_topi (fun v2 ev2 => ?_)
  clear ev2
  refine lw_i (va_runV (As := [.int v2]) (rest := []) hfix (cx_fault l dC dI cyB cyI cyJ cyZ cyO adK adV oX t WX hXI v2 _) (cwV 1 hts (gi_V tw_20 tw_21 tw_22 tw_3 tb_k_X_fault gd_k_X_fault) rfl rfl rfl (by decide +kernel) ⟨Nat.le_of_ble_eq_true rfl, Nat.le_of_ble_eq_true rfl⟩) (g_preW hZ hS hA hKN hP hD 6 (XI.recv hXI) rfl) rfl rfl hl.1 rfl (lv_room (Nat.le_of_ble_eq_true rfl)) dL_law_361 ⟨lw_rc (by omega), lw_rs (by omega)⟩) hP hD hS hA (fun r3 W1 H locs q1 hP hD hS => ?_)
  refine lv_pop hx hb dL_law_364 rfl ?_
  refine lv_aload_n hx hb dL_law_365 rfl (lv_at hl 1 rfl) ?_
  refine lv_aload_n hx hb dL_law_366 rfl (lv_at hl 3 rfl) ?_
  refine lv_iload_n hx hb dL_law_367 rfl (lv_at hl 0 rfl) ?_
  refine lv_iconst (v := 1) hx hb dL_law_368 (by decide) ?_
  refine lv_iadd hx hb dL_law_369 ?_
  refine lv_topi (fun z4 ez4 => ?_)
  have tz4 : z4.toInt = i.toInt + 1 := ti_add ez4 rfl (by decide) (by omega) (by omega)
  refine va_sld hx hb hX hbl hbA hS (vp_i rfl (by omega) (by omega)) dL_law_370 ?_
  refine lv_topi (fun v5 ev5 => ?_)
  clear ev5
  refine lw_i (va_runV (As := [.int v5]) (rest := []) hfix (cm_fault l dC dI cyB cyI cyJ cyZ cyO adK adV oM t WM hMI v5 _) (cwV 1 hts (gi_V tw_23 tw_24 tw_25 tw_7 tb_k_M_fault gd_k_M_fault) rfl rfl rfl (by decide +kernel) ⟨Nat.le_of_ble_eq_true rfl, Nat.le_of_ble_eq_true rfl⟩) (g_preW hZ hS hA hKN hP hD 7 (MI.recv hMI) rfl) rfl rfl hl.1 rfl (lv_room (Nat.le_of_ble_eq_true rfl)) dL_law_371 ⟨lw_rc (by omega), lw_rs (by omega)⟩) hP hD hS hA (fun r6 W2 H locs q2 hP hD hS => ?_)
  refine lv_pop hx hb dL_law_374 rfl ?_
  refine lv_goto (tgt := 1548) hx hb dL_law_375 (by decide) ?_
  refine W.widen (k := cells + 8) (n := slots + 773) (by omega) (by omega) ?_
  exact kk t W1 W2 H locs q1 q2 hP hD hS
set_option maxHeartbeats 4000000 in
set_option maxRecDepth 100000 in
theorem law_4 {p : Program} {l : Launch} {e : Env} {s : State} {m : MethodId} {below : List Frame} {meth : Method} {c : Code} {b L : Nat} {xs : Nat → Int32} {dC : Nat → ClassId} {dI : Nat → Nat → Nat} {cyB cyI cyJ cyZ cyO : ClassId} {adK adV : Nat → Nat} (C0 : lw_At p s m meth c b L xs) (hL : L ≤ 3072) (hKN : KN (dC, dI) (kT cyB cyI cyJ cyZ cyO) s) (hZ : ZS adK adV (fun q : Nat => s.heap.size ≤ q) s s.heap) {oX oM : Nat} {i t : Int32} {WX WM : va_W} {cells slots : Nat} (hXI : XI cyB cyI cyJ cyZ cyO oX t WX) (hMI : MI cyB cyI cyJ cyZ cyO oM t WM) (hi0 : 0 ≤ i.toInt) (hi6 : i.toInt + 6 ≤ L) (hc : cells + 8 ≤ 600000) (hs : slots + 773 ≤ 7302250) {H : Heap} {locs : List Loc} (hP : va_P (dC, dI) vwCl (WX ++ WM) H) (hD : va_D (fun q : Nat => s.heap.size ≤ q) (WX ++ WM)) (hS : va_S (fun q : Nat => s.heap.size ≤ q) s.heap H locs) {ls : Array Slot} (hl : lv_has ls 4 [(3, .int i), (2, .ref oM), (1, .ref oX), (0, .ref b)]) (kk : ∀ (t : Int32) (WX WM : va_W) (H : Heap) (locs : List Loc), XI cyB cyI cyJ cyZ cyO oX t WX → MI cyB cyI cyJ cyZ cyO oM t WM → va_P (dC, dI) vwCl (WX ++ WM) H → va_D (fun q : Nat => s.heap.size ≤ q) (WX ++ WM) → va_S (fun q : Nat => s.heap.size ≤ q) s.heap H locs → W p l e room_1 s m #[Value.ref b] below meth c H locs (cells + 8) (slots + 773) (lw_Z below #[Value.ref b] s) (F0 m 1548 ls [])) : W p l e room_1 s m #[Value.ref b] below meth c H locs cells slots (lw_Z below #[Value.ref b] s) (F0 m 378 ls []) := by
  obtain ⟨hx, hb, hr, hml, hown, hts, hX, hbl, hlocks, hgv⟩ := id C0
  have hA : ∀ q : Nat, s.heap.size ≤ q → (fun q : Nat => s.heap.size ≤ q) q := fun _ h => h
  have hbA : ¬ (fun q : Nat => s.heap.size ≤ q) b := Nat.not_le.mpr hbl
  have hfix : CallFix p m c code 4 s #[Value.ref b] lw_tbl R_law := ⟨hx, hb, hml, hown, hts⟩
  refine lv_aload_n hx hb dL_law_378 rfl (lv_at hl 2 rfl) ?_
  refine lv_aload_n hx hb dL_law_379 rfl (lv_at hl 3 rfl) ?_
  refine lv_iload_n hx hb dL_law_380 rfl (lv_at hl 0 rfl) ?_
  refine lv_iconst (v := 1) hx hb dL_law_381 (by decide) ?_
  refine lv_iadd hx hb dL_law_382 ?_
  refine lv_topi (fun z1 ez1 => ?_)
  have tz1 : z1.toInt = i.toInt + 1 := ti_add ez1 rfl (by decide) (by omega) (by omega)
  refine va_sld hx hb hX hbl hbA hS (vp_i rfl (by omega) (by omega)) dL_law_383 ?_
  refine lv_topi (fun v2 ev2 => ?_)
  clear ev2
  refine lw_i (va_runV (As := [.int v2]) (rest := []) hfix (cx_row l dC dI cyB cyI cyJ cyZ cyO adK adV oX t WX hXI v2 _) (cwV 1 hts (gi_V tw_26 tw_27 tw_28 tw_3 tb_k_X_row gd_k_X_row) rfl rfl rfl (by decide +kernel) ⟨Nat.le_of_ble_eq_true rfl, Nat.le_of_ble_eq_true rfl⟩) (g_preW hZ hS hA hKN hP hD 6 (XI.recv hXI) rfl) rfl rfl hl.1 rfl (lv_room (Nat.le_of_ble_eq_true rfl)) dL_law_384 ⟨lw_rc (by omega), lw_rs (by omega)⟩) hP hD hS hA (fun r3 W1 H locs q1 hP hD hS => ?_)
  refine lv_pop hx hb dL_law_387 rfl ?_
  refine lv_aload_n hx hb dL_law_388 rfl (lv_at hl 1 rfl) ?_
  refine lv_aload_n hx hb dL_law_389 rfl (lv_at hl 3 rfl) ?_
  refine lv_iload_n hx hb dL_law_390 rfl (lv_at hl 0 rfl) ?_
  refine lv_iconst (v := 1) hx hb dL_law_391 (by decide) ?_
  refine lv_iadd hx hb dL_law_392 ?_
  refine lv_topi (fun z4 ez4 => ?_)
  have tz4 : z4.toInt = i.toInt + 1 := ti_add ez4 rfl (by decide) (by omega) (by omega)
  refine va_sld hx hb hX hbl hbA hS (vp_i rfl (by omega) (by omega)) dL_law_393 ?_
  refine lv_topi (fun v5 ev5 => ?_)
  clear ev5
  refine lw_i (va_runV (As := [.int v5]) (rest := []) hfix (cm_row l dC dI cyB cyI cyJ cyZ cyO adK adV oM t WM hMI v5 _) (cwV 1 hts (gi_V tw_29 tw_30 tw_31 tw_7 tb_k_M_row gd_k_M_row) rfl rfl rfl (by decide +kernel) ⟨Nat.le_of_ble_eq_true rfl, Nat.le_of_ble_eq_true rfl⟩) (g_preW hZ hS hA hKN hP hD 7 (MI.recv hMI) rfl) rfl rfl hl.1 rfl (lv_room (Nat.le_of_ble_eq_true rfl)) dL_law_394 ⟨lw_rc (by omega), lw_rs (by omega)⟩) hP hD hS hA (fun r6 W2 H locs q2 hP hD hS => ?_)
  refine lv_pop hx hb dL_law_397 rfl ?_
  refine lv_goto (tgt := 1548) hx hb dL_law_398 (by decide) ?_
  refine W.widen (k := cells + 8) (n := slots + 773) (by omega) (by omega) ?_
  exact kk t W1 W2 H locs q1 q2 hP hD hS
set_option maxHeartbeats 4000000 in
set_option maxRecDepth 100000 in
theorem law_5 {p : Program} {l : Launch} {e : Env} {s : State} {m : MethodId} {below : List Frame} {meth : Method} {c : Code} {b L : Nat} {xs : Nat → Int32} {dC : Nat → ClassId} {dI : Nat → Nat → Nat} {cyB cyI cyJ cyZ cyO : ClassId} {adK adV : Nat → Nat} (C0 : lw_At p s m meth c b L xs) (hL : L ≤ 3072) (hKN : KN (dC, dI) (kT cyB cyI cyJ cyZ cyO) s) (hZ : ZS adK adV (fun q : Nat => s.heap.size ≤ q) s s.heap) {oX oM : Nat} {i t : Int32} {WX WM : va_W} {cells slots : Nat} (hXI : XI cyB cyI cyJ cyZ cyO oX t WX) (hMI : MI cyB cyI cyJ cyZ cyO oM t WM) (hi0 : 0 ≤ i.toInt) (hi6 : i.toInt + 6 ≤ L) (hc : cells + 8 ≤ 600000) (hs : slots + 773 ≤ 7302250) {H : Heap} {locs : List Loc} (hP : va_P (dC, dI) vwCl (WX ++ WM) H) (hD : va_D (fun q : Nat => s.heap.size ≤ q) (WX ++ WM)) (hS : va_S (fun q : Nat => s.heap.size ≤ q) s.heap H locs) {ls : Array Slot} (hl : lv_has ls 4 [(3, .int i), (2, .ref oM), (1, .ref oX), (0, .ref b)]) (kk : ∀ (t : Int32) (WX WM : va_W) (H : Heap) (locs : List Loc), XI cyB cyI cyJ cyZ cyO oX t WX → MI cyB cyI cyJ cyZ cyO oM t WM → va_P (dC, dI) vwCl (WX ++ WM) H → va_D (fun q : Nat => s.heap.size ≤ q) (WX ++ WM) → va_S (fun q : Nat => s.heap.size ≤ q) s.heap H locs → W p l e room_1 s m #[Value.ref b] below meth c H locs (cells + 8) (slots + 773) (lw_Z below #[Value.ref b] s) (F0 m 1548 ls [])) : W p l e room_1 s m #[Value.ref b] below meth c H locs cells slots (lw_Z below #[Value.ref b] s) (F0 m 401 ls []) := by
  obtain ⟨hx, hb, hr, hml, hown, hts, hX, hbl, hlocks, hgv⟩ := id C0
  have hA : ∀ q : Nat, s.heap.size ≤ q → (fun q : Nat => s.heap.size ≤ q) q := fun _ h => h
  have hbA : ¬ (fun q : Nat => s.heap.size ≤ q) b := Nat.not_le.mpr hbl
  have hfix : CallFix p m c code 4 s #[Value.ref b] lw_tbl R_law := ⟨hx, hb, hml, hown, hts⟩
  refine lv_aload_n hx hb dL_law_401 rfl (lv_at hl 2 rfl) ?_
  refine lv_aload_n hx hb dL_law_402 rfl (lv_at hl 3 rfl) ?_
  refine lv_iload_n hx hb dL_law_403 rfl (lv_at hl 0 rfl) ?_
  refine lv_iconst (v := 1) hx hb dL_law_404 (by decide) ?_
  refine lv_iadd hx hb dL_law_405 ?_
  refine lv_topi (fun z1 ez1 => ?_)
  have tz1 : z1.toInt = i.toInt + 1 := ti_add ez1 rfl (by decide) (by omega) (by omega)
  refine va_sld hx hb hX hbl hbA hS (vp_i rfl (by omega) (by omega)) dL_law_406 ?_
  refine lv_topi (fun v2 ev2 => ?_)
  clear ev2
  refine lv_aload_n hx hb dL_law_407 rfl (lv_at hl 3 rfl) ?_
  refine lv_iload_n hx hb dL_law_408 rfl (lv_at hl 0 rfl) ?_
  refine lv_iconst (v := 2) hx hb dL_law_409 (by decide) ?_
  refine lv_iadd hx hb dL_law_410 ?_
  refine lv_topi (fun z3 ez3 => ?_)
  have tz3 : z3.toInt = i.toInt + 2 := ti_add ez3 rfl (by decide) (by omega) (by omega)
  refine va_sld hx hb hX hbl hbA hS (vp_i rfl (by omega) (by omega)) dL_law_411 ?_
  refine lv_topi (fun v4 ev4 => ?_)
  clear ev4
  refine lw_i (va_runV (As := [.int v2, .int v4]) (rest := []) hfix (cx_node l dC dI cyB cyI cyJ cyZ cyO adK adV oX t WX hXI v2 v4 _) (cwV 2 hts (gi_V tw_32 tw_33 tw_34 tw_3 tb_k_X_node gd_k_X_node) rfl rfl rfl (by decide +kernel) ⟨Nat.le_of_ble_eq_true rfl, Nat.le_of_ble_eq_true rfl⟩) (g_preW hZ hS hA hKN hP hD 6 (XI.recv hXI) rfl) rfl rfl hl.1 rfl (lv_room (Nat.le_of_ble_eq_true rfl)) dL_law_412 ⟨lw_rc (by omega), lw_rs (by omega)⟩) hP hD hS hA (fun r5 W1 H locs q1 hP hD hS => ?_)
  refine lv_pop hx hb dL_law_415 rfl ?_
  refine lv_aload_n hx hb dL_law_416 rfl (lv_at hl 1 rfl) ?_
  refine lv_aload_n hx hb dL_law_417 rfl (lv_at hl 3 rfl) ?_
  refine lv_iload_n hx hb dL_law_418 rfl (lv_at hl 0 rfl) ?_
  refine lv_iconst (v := 1) hx hb dL_law_419 (by decide) ?_
  refine lv_iadd hx hb dL_law_420 ?_
  refine lv_topi (fun z6 ez6 => ?_)
  have tz6 : z6.toInt = i.toInt + 1 := ti_add ez6 rfl (by decide) (by omega) (by omega)
  refine va_sld hx hb hX hbl hbA hS (vp_i rfl (by omega) (by omega)) dL_law_421 ?_
  refine lv_topi (fun v7 ev7 => ?_)
  clear ev7
  refine lv_aload_n hx hb dL_law_422 rfl (lv_at hl 3 rfl) ?_
  refine lv_iload_n hx hb dL_law_423 rfl (lv_at hl 0 rfl) ?_
  refine lv_iconst (v := 2) hx hb dL_law_424 (by decide) ?_
  refine lv_iadd hx hb dL_law_425 ?_
  refine lv_topi (fun z8 ez8 => ?_)
  have tz8 : z8.toInt = i.toInt + 2 := ti_add ez8 rfl (by decide) (by omega) (by omega)
  refine va_sld hx hb hX hbl hbA hS (vp_i rfl (by omega) (by omega)) dL_law_426 ?_
  refine lv_topi (fun v9 ev9 => ?_)
  clear ev9
  refine lw_i (va_runV (As := [.int v7, .int v9]) (rest := []) hfix (cm_node l dC dI cyB cyI cyJ cyZ cyO adK adV oM t WM hMI v7 v9 _) (cwV 2 hts (gi_V tw_35 tw_36 tw_37 tw_7 tb_k_M_node gd_k_M_node) rfl rfl rfl (by decide +kernel) ⟨Nat.le_of_ble_eq_true rfl, Nat.le_of_ble_eq_true rfl⟩) (g_preW hZ hS hA hKN hP hD 7 (MI.recv hMI) rfl) rfl rfl hl.1 rfl (lv_room (Nat.le_of_ble_eq_true rfl)) dL_law_427 ⟨lw_rc (by omega), lw_rs (by omega)⟩) hP hD hS hA (fun r10 W2 H locs q2 hP hD hS => ?_)
  refine lv_pop hx hb dL_law_430 rfl ?_
  refine lv_goto (tgt := 1548) hx hb dL_law_431 (by decide) ?_
  refine W.widen (k := cells + 8) (n := slots + 773) (by omega) (by omega) ?_
  exact kk t W1 W2 H locs q1 q2 hP hD hS
set_option maxHeartbeats 4000000 in
set_option maxRecDepth 100000 in
theorem law_6 {p : Program} {l : Launch} {e : Env} {s : State} {m : MethodId} {below : List Frame} {meth : Method} {c : Code} {b L : Nat} {xs : Nat → Int32} {dC : Nat → ClassId} {dI : Nat → Nat → Nat} {cyB cyI cyJ cyZ cyO : ClassId} {adK adV : Nat → Nat} (C0 : lw_At p s m meth c b L xs) (hL : L ≤ 3072) (hKN : KN (dC, dI) (kT cyB cyI cyJ cyZ cyO) s) (hZ : ZS adK adV (fun q : Nat => s.heap.size ≤ q) s s.heap) {oX oM : Nat} {i t : Int32} {WX WM : va_W} {cells slots : Nat} (hXI : XI cyB cyI cyJ cyZ cyO oX t WX) (hMI : MI cyB cyI cyJ cyZ cyO oM t WM) (hi0 : 0 ≤ i.toInt) (hi6 : i.toInt + 6 ≤ L) (hc : cells + 8 ≤ 600000) (hs : slots + 773 ≤ 7302250) {H : Heap} {locs : List Loc} (hP : va_P (dC, dI) vwCl (WX ++ WM) H) (hD : va_D (fun q : Nat => s.heap.size ≤ q) (WX ++ WM)) (hS : va_S (fun q : Nat => s.heap.size ≤ q) s.heap H locs) {ls : Array Slot} (hl : lv_has ls 4 [(3, .int i), (2, .ref oM), (1, .ref oX), (0, .ref b)]) (kk : ∀ (t : Int32) (WX WM : va_W) (H : Heap) (locs : List Loc), XI cyB cyI cyJ cyZ cyO oX t WX → MI cyB cyI cyJ cyZ cyO oM t WM → va_P (dC, dI) vwCl (WX ++ WM) H → va_D (fun q : Nat => s.heap.size ≤ q) (WX ++ WM) → va_S (fun q : Nat => s.heap.size ≤ q) s.heap H locs → W p l e room_1 s m #[Value.ref b] below meth c H locs (cells + 8) (slots + 773) (lw_Z below #[Value.ref b] s) (F0 m 1548 ls [])) : W p l e room_1 s m #[Value.ref b] below meth c H locs cells slots (lw_Z below #[Value.ref b] s) (F0 m 434 ls []) := by
  obtain ⟨hx, hb, hr, hml, hown, hts, hX, hbl, hlocks, hgv⟩ := id C0
  have hA : ∀ q : Nat, s.heap.size ≤ q → (fun q : Nat => s.heap.size ≤ q) q := fun _ h => h
  have hbA : ¬ (fun q : Nat => s.heap.size ≤ q) b := Nat.not_le.mpr hbl
  have hfix : CallFix p m c code 4 s #[Value.ref b] lw_tbl R_law := ⟨hx, hb, hml, hown, hts⟩
  refine lv_aload_n hx hb dL_law_434 rfl (lv_at hl 2 rfl) ?_
  refine lv_aload_n hx hb dL_law_435 rfl (lv_at hl 3 rfl) ?_
  refine lv_iload_n hx hb dL_law_436 rfl (lv_at hl 0 rfl) ?_
  refine lv_iconst (v := 1) hx hb dL_law_437 (by decide) ?_
  refine lv_iadd hx hb dL_law_438 ?_
  refine lv_topi (fun z1 ez1 => ?_)
  have tz1 : z1.toInt = i.toInt + 1 := ti_add ez1 rfl (by decide) (by omega) (by omega)
  refine va_sld hx hb hX hbl hbA hS (vp_i rfl (by omega) (by omega)) dL_law_439 ?_
  refine lv_topi (fun v2 ev2 => ?_)
  clear ev2
  refine lv_aload_n hx hb dL_law_440 rfl (lv_at hl 3 rfl) ?_
  refine lv_iload_n hx hb dL_law_441 rfl (lv_at hl 0 rfl) ?_
  refine lv_iconst (v := 2) hx hb dL_law_442 (by decide) ?_
  refine lv_iadd hx hb dL_law_443 ?_
  refine lv_topi (fun z3 ez3 => ?_)
  have tz3 : z3.toInt = i.toInt + 2 := ti_add ez3 rfl (by decide) (by omega) (by omega)
  refine va_sld hx hb hX hbl hbA hS (vp_i rfl (by omega) (by omega)) dL_law_444 ?_
  refine lv_topi (fun v4 ev4 => ?_)
  clear ev4
  refine lw_i (va_runV (As := [.int v2, .int v4]) (rest := []) hfix (cx_under l dC dI cyB cyI cyJ cyZ cyO adK adV oX t WX hXI v2 v4 _) (cwV 2 hts (gi_V tw_38 tw_39 tw_40 tw_3 tb_k_X_under gd_k_X_under) rfl rfl rfl (by decide +kernel) ⟨Nat.le_of_ble_eq_true rfl, Nat.le_of_ble_eq_true rfl⟩) (g_preW hZ hS hA hKN hP hD 6 (XI.recv hXI) rfl) rfl rfl hl.1 rfl (lv_room (Nat.le_of_ble_eq_true rfl)) dL_law_445 ⟨lw_rc (by omega), lw_rs (by omega)⟩) hP hD hS hA (fun r5 W1 H locs q1 hP hD hS => ?_)
  refine lv_pop hx hb dL_law_448 rfl ?_
  refine lv_aload_n hx hb dL_law_449 rfl (lv_at hl 1 rfl) ?_
  refine lv_aload_n hx hb dL_law_450 rfl (lv_at hl 3 rfl) ?_
  refine lv_iload_n hx hb dL_law_451 rfl (lv_at hl 0 rfl) ?_
  refine lv_iconst (v := 1) hx hb dL_law_452 (by decide) ?_
  refine lv_iadd hx hb dL_law_453 ?_
  refine lv_topi (fun z6 ez6 => ?_)
  have tz6 : z6.toInt = i.toInt + 1 := ti_add ez6 rfl (by decide) (by omega) (by omega)
  refine va_sld hx hb hX hbl hbA hS (vp_i rfl (by omega) (by omega)) dL_law_454 ?_
  refine lv_topi (fun v7 ev7 => ?_)
  clear ev7
  refine lv_aload_n hx hb dL_law_455 rfl (lv_at hl 3 rfl) ?_
  refine lv_iload_n hx hb dL_law_456 rfl (lv_at hl 0 rfl) ?_
  refine lv_iconst (v := 2) hx hb dL_law_457 (by decide) ?_
  refine lv_iadd hx hb dL_law_458 ?_
  refine lv_topi (fun z8 ez8 => ?_)
  have tz8 : z8.toInt = i.toInt + 2 := ti_add ez8 rfl (by decide) (by omega) (by omega)
  refine va_sld hx hb hX hbl hbA hS (vp_i rfl (by omega) (by omega)) dL_law_459 ?_
  refine lv_topi (fun v9 ev9 => ?_)
  clear ev9
  refine lw_i (va_runV (As := [.int v7, .int v9]) (rest := []) hfix (cm_under l dC dI cyB cyI cyJ cyZ cyO adK adV oM t WM hMI v7 v9 _) (cwV 2 hts (gi_V tw_41 tw_42 tw_43 tw_7 tb_k_M_under gd_k_M_under) rfl rfl rfl (by decide +kernel) ⟨Nat.le_of_ble_eq_true rfl, Nat.le_of_ble_eq_true rfl⟩) (g_preW hZ hS hA hKN hP hD 7 (MI.recv hMI) rfl) rfl rfl hl.1 rfl (lv_room (Nat.le_of_ble_eq_true rfl)) dL_law_460 ⟨lw_rc (by omega), lw_rs (by omega)⟩) hP hD hS hA (fun r10 W2 H locs q2 hP hD hS => ?_)
  refine lv_pop hx hb dL_law_463 rfl ?_
  refine lv_goto (tgt := 1548) hx hb dL_law_464 (by decide) ?_
  refine W.widen (k := cells + 8) (n := slots + 773) (by omega) (by omega) ?_
  exact kk t W1 W2 H locs q1 q2 hP hD hS
set_option maxHeartbeats 4000000 in
set_option maxRecDepth 100000 in
theorem law_7 {p : Program} {l : Launch} {e : Env} {s : State} {m : MethodId} {below : List Frame} {meth : Method} {c : Code} {b L : Nat} {xs : Nat → Int32} {dC : Nat → ClassId} {dI : Nat → Nat → Nat} {cyB cyI cyJ cyZ cyO : ClassId} {adK adV : Nat → Nat} (C0 : lw_At p s m meth c b L xs) (hL : L ≤ 3072) (hKN : KN (dC, dI) (kT cyB cyI cyJ cyZ cyO) s) (hZ : ZS adK adV (fun q : Nat => s.heap.size ≤ q) s s.heap) {oX oM : Nat} {i t : Int32} {WX WM : va_W} {cells slots : Nat} (hXI : XI cyB cyI cyJ cyZ cyO oX t WX) (hMI : MI cyB cyI cyJ cyZ cyO oM t WM) (hi0 : 0 ≤ i.toInt) (hi6 : i.toInt + 6 ≤ L) (hc : cells + 8 ≤ 600000) (hs : slots + 773 ≤ 7302250) {H : Heap} {locs : List Loc} (hP : va_P (dC, dI) vwCl (WX ++ WM) H) (hD : va_D (fun q : Nat => s.heap.size ≤ q) (WX ++ WM)) (hS : va_S (fun q : Nat => s.heap.size ≤ q) s.heap H locs) {ls : Array Slot} (hl : lv_has ls 4 [(3, .int i), (2, .ref oM), (1, .ref oX), (0, .ref b)]) (kk : ∀ (t : Int32) (WX WM : va_W) (H : Heap) (locs : List Loc), XI cyB cyI cyJ cyZ cyO oX t WX → MI cyB cyI cyJ cyZ cyO oM t WM → va_P (dC, dI) vwCl (WX ++ WM) H → va_D (fun q : Nat => s.heap.size ≤ q) (WX ++ WM) → va_S (fun q : Nat => s.heap.size ≤ q) s.heap H locs → W p l e room_1 s m #[Value.ref b] below meth c H locs (cells + 8) (slots + 773) (lw_Z below #[Value.ref b] s) (F0 m 1548 ls [])) : W p l e room_1 s m #[Value.ref b] below meth c H locs cells slots (lw_Z below #[Value.ref b] s) (F0 m 467 ls []) := by
  obtain ⟨hx, hb, hr, hml, hown, hts, hX, hbl, hlocks, hgv⟩ := id C0
  have hA : ∀ q : Nat, s.heap.size ≤ q → (fun q : Nat => s.heap.size ≤ q) q := fun _ h => h
  have hbA : ¬ (fun q : Nat => s.heap.size ≤ q) b := Nat.not_le.mpr hbl
  have hfix : CallFix p m c code 4 s #[Value.ref b] lw_tbl R_law := ⟨hx, hb, hml, hown, hts⟩
  refine lv_aload_n hx hb dL_law_467 rfl (lv_at hl 2 rfl) ?_
  refine lv_aload_n hx hb dL_law_468 rfl (lv_at hl 3 rfl) ?_
  refine lv_iload_n hx hb dL_law_469 rfl (lv_at hl 0 rfl) ?_
  refine lv_iconst (v := 1) hx hb dL_law_470 (by decide) ?_
  refine lv_iadd hx hb dL_law_471 ?_
  refine lv_topi (fun z1 ez1 => ?_)
  have tz1 : z1.toInt = i.toInt + 1 := ti_add ez1 rfl (by decide) (by omega) (by omega)
  refine va_sld hx hb hX hbl hbA hS (vp_i rfl (by omega) (by omega)) dL_law_472 ?_
  refine lv_topi (fun v2 ev2 => ?_)
  clear ev2
  refine lv_aload_n hx hb dL_law_473 rfl (lv_at hl 3 rfl) ?_
  refine lv_iload_n hx hb dL_law_474 rfl (lv_at hl 0 rfl) ?_
  refine lv_iconst (v := 2) hx hb dL_law_475 (by decide) ?_
  refine lv_iadd hx hb dL_law_476 ?_
  refine lv_topi (fun z3 ez3 => ?_)
  have tz3 : z3.toInt = i.toInt + 2 := ti_add ez3 rfl (by decide) (by omega) (by omega)
  refine va_sld hx hb hX hbl hbA hS (vp_i rfl (by omega) (by omega)) dL_law_477 ?_
  refine lv_topi (fun v4 ev4 => ?_)
  clear ev4
  refine lw_i (va_runV (As := [.int v2, .int v4]) (rest := []) hfix (cx_due l dC dI cyB cyI cyJ cyZ cyO adK adV oX t WX hXI v2 v4 _) (cwV 2 hts (gi_V tw_44 tw_45 tw_46 tw_3 tb_k_X_due gd_k_X_due) rfl rfl rfl (by decide +kernel) ⟨Nat.le_of_ble_eq_true rfl, Nat.le_of_ble_eq_true rfl⟩) (g_preW hZ hS hA hKN hP hD 6 (XI.recv hXI) rfl) rfl rfl hl.1 rfl (lv_room (Nat.le_of_ble_eq_true rfl)) dL_law_478 ⟨lw_rc (by omega), lw_rs (by omega)⟩) hP hD hS hA (fun r5 W1 H locs q1 hP hD hS => ?_)
  refine lv_pop hx hb dL_law_481 rfl ?_
  refine lv_aload_n hx hb dL_law_482 rfl (lv_at hl 1 rfl) ?_
  refine lv_aload_n hx hb dL_law_483 rfl (lv_at hl 3 rfl) ?_
  refine lv_iload_n hx hb dL_law_484 rfl (lv_at hl 0 rfl) ?_
  refine lv_iconst (v := 1) hx hb dL_law_485 (by decide) ?_
  refine lv_iadd hx hb dL_law_486 ?_
  refine lv_topi (fun z6 ez6 => ?_)
  have tz6 : z6.toInt = i.toInt + 1 := ti_add ez6 rfl (by decide) (by omega) (by omega)
  refine va_sld hx hb hX hbl hbA hS (vp_i rfl (by omega) (by omega)) dL_law_487 ?_
  refine lv_topi (fun v7 ev7 => ?_)
  clear ev7
  refine lv_aload_n hx hb dL_law_488 rfl (lv_at hl 3 rfl) ?_
  refine lv_iload_n hx hb dL_law_489 rfl (lv_at hl 0 rfl) ?_
  refine lv_iconst (v := 2) hx hb dL_law_490 (by decide) ?_
  refine lv_iadd hx hb dL_law_491 ?_
  refine lv_topi (fun z8 ez8 => ?_)
  have tz8 : z8.toInt = i.toInt + 2 := ti_add ez8 rfl (by decide) (by omega) (by omega)
  refine va_sld hx hb hX hbl hbA hS (vp_i rfl (by omega) (by omega)) dL_law_492 ?_
  refine lv_topi (fun v9 ev9 => ?_)
  clear ev9
  refine lw_i (va_runV (As := [.int v7, .int v9]) (rest := []) hfix (cm_due l dC dI cyB cyI cyJ cyZ cyO adK adV oM t WM hMI v7 v9 _) (cwV 2 hts (gi_V tw_47 tw_48 tw_49 tw_7 tb_k_M_due gd_k_M_due) rfl rfl rfl (by decide +kernel) ⟨Nat.le_of_ble_eq_true rfl, Nat.le_of_ble_eq_true rfl⟩) (g_preW hZ hS hA hKN hP hD 7 (MI.recv hMI) rfl) rfl rfl hl.1 rfl (lv_room (Nat.le_of_ble_eq_true rfl)) dL_law_493 ⟨lw_rc (by omega), lw_rs (by omega)⟩) hP hD hS hA (fun r10 W2 H locs q2 hP hD hS => ?_)
  refine lv_pop hx hb dL_law_496 rfl ?_
  refine lv_goto (tgt := 1548) hx hb dL_law_497 (by decide) ?_
  refine W.widen (k := cells + 8) (n := slots + 773) (by omega) (by omega) ?_
  exact kk t W1 W2 H locs q1 q2 hP hD hS
set_option maxHeartbeats 4000000 in
set_option maxRecDepth 100000 in
theorem law_8 {p : Program} {l : Launch} {e : Env} {s : State} {m : MethodId} {below : List Frame} {meth : Method} {c : Code} {b L : Nat} {xs : Nat → Int32} {dC : Nat → ClassId} {dI : Nat → Nat → Nat} {cyB cyI cyJ cyZ cyO : ClassId} {adK adV : Nat → Nat} (C0 : lw_At p s m meth c b L xs) (hL : L ≤ 3072) (hKN : KN (dC, dI) (kT cyB cyI cyJ cyZ cyO) s) (hZ : ZS adK adV (fun q : Nat => s.heap.size ≤ q) s s.heap) {oX oM : Nat} {i t : Int32} {WX WM : va_W} {cells slots : Nat} (hXI : XI cyB cyI cyJ cyZ cyO oX t WX) (hMI : MI cyB cyI cyJ cyZ cyO oM t WM) (hi0 : 0 ≤ i.toInt) (hi6 : i.toInt + 6 ≤ L) (hc : cells + 8 ≤ 600000) (hs : slots + 773 ≤ 7302250) {H : Heap} {locs : List Loc} (hP : va_P (dC, dI) vwCl (WX ++ WM) H) (hD : va_D (fun q : Nat => s.heap.size ≤ q) (WX ++ WM)) (hS : va_S (fun q : Nat => s.heap.size ≤ q) s.heap H locs) {ls : Array Slot} (hl : lv_has ls 4 [(3, .int i), (2, .ref oM), (1, .ref oX), (0, .ref b)]) (kk : ∀ (t : Int32) (WX WM : va_W) (H : Heap) (locs : List Loc), XI cyB cyI cyJ cyZ cyO oX t WX → MI cyB cyI cyJ cyZ cyO oM t WM → va_P (dC, dI) vwCl (WX ++ WM) H → va_D (fun q : Nat => s.heap.size ≤ q) (WX ++ WM) → va_S (fun q : Nat => s.heap.size ≤ q) s.heap H locs → W p l e room_1 s m #[Value.ref b] below meth c H locs (cells + 8) (slots + 773) (lw_Z below #[Value.ref b] s) (F0 m 1548 ls [])) : W p l e room_1 s m #[Value.ref b] below meth c H locs cells slots (lw_Z below #[Value.ref b] s) (F0 m 500 ls []) := by
  obtain ⟨hx, hb, hr, hml, hown, hts, hX, hbl, hlocks, hgv⟩ := id C0
  have hA : ∀ q : Nat, s.heap.size ≤ q → (fun q : Nat => s.heap.size ≤ q) q := fun _ h => h
  have hbA : ¬ (fun q : Nat => s.heap.size ≤ q) b := Nat.not_le.mpr hbl
  have hfix : CallFix p m c code 4 s #[Value.ref b] lw_tbl R_law := ⟨hx, hb, hml, hown, hts⟩
  refine lv_aload_n hx hb dL_law_500 rfl (lv_at hl 2 rfl) ?_
  refine lv_aload_n hx hb dL_law_501 rfl (lv_at hl 3 rfl) ?_
  refine lv_iload_n hx hb dL_law_502 rfl (lv_at hl 0 rfl) ?_
  refine lv_iconst (v := 1) hx hb dL_law_503 (by decide) ?_
  refine lv_iadd hx hb dL_law_504 ?_
  refine lv_topi (fun z1 ez1 => ?_)
  have tz1 : z1.toInt = i.toInt + 1 := ti_add ez1 rfl (by decide) (by omega) (by omega)
  refine va_sld hx hb hX hbl hbA hS (vp_i rfl (by omega) (by omega)) dL_law_505 ?_
  refine lv_topi (fun v2 ev2 => ?_)
  clear ev2
  refine lv_aload_n hx hb dL_law_506 rfl (lv_at hl 3 rfl) ?_
  refine lv_iload_n hx hb dL_law_507 rfl (lv_at hl 0 rfl) ?_
  refine lv_iconst (v := 2) hx hb dL_law_508 (by decide) ?_
  refine lv_iadd hx hb dL_law_509 ?_
  refine lv_topi (fun z3 ez3 => ?_)
  have tz3 : z3.toInt = i.toInt + 2 := ti_add ez3 rfl (by decide) (by omega) (by omega)
  refine va_sld hx hb hX hbl hbA hS (vp_i rfl (by omega) (by omega)) dL_law_510 ?_
  refine lv_topi (fun v4 ev4 => ?_)
  clear ev4
  refine lw_i (va_runV (As := [.int v2, .int v4]) (rest := []) hfix (cx_wrote l dC dI cyB cyI cyJ cyZ cyO adK adV oX t WX hXI v2 v4 _) (cwV 2 hts (gi_V tw_50 tw_51 tw_52 tw_3 tb_k_X_wrote gd_k_X_wrote) rfl rfl rfl (by decide +kernel) ⟨Nat.le_of_ble_eq_true rfl, Nat.le_of_ble_eq_true rfl⟩) (g_preW hZ hS hA hKN hP hD 6 (XI.recv hXI) rfl) rfl rfl hl.1 rfl (lv_room (Nat.le_of_ble_eq_true rfl)) dL_law_511 ⟨lw_rc (by omega), lw_rs (by omega)⟩) hP hD hS hA (fun r5 W1 H locs q1 hP hD hS => ?_)
  refine lv_pop hx hb dL_law_514 rfl ?_
  refine lv_aload_n hx hb dL_law_515 rfl (lv_at hl 1 rfl) ?_
  refine lv_aload_n hx hb dL_law_516 rfl (lv_at hl 3 rfl) ?_
  refine lv_iload_n hx hb dL_law_517 rfl (lv_at hl 0 rfl) ?_
  refine lv_iconst (v := 1) hx hb dL_law_518 (by decide) ?_
  refine lv_iadd hx hb dL_law_519 ?_
  refine lv_topi (fun z6 ez6 => ?_)
  have tz6 : z6.toInt = i.toInt + 1 := ti_add ez6 rfl (by decide) (by omega) (by omega)
  refine va_sld hx hb hX hbl hbA hS (vp_i rfl (by omega) (by omega)) dL_law_520 ?_
  refine lv_topi (fun v7 ev7 => ?_)
  clear ev7
  refine lv_aload_n hx hb dL_law_521 rfl (lv_at hl 3 rfl) ?_
  refine lv_iload_n hx hb dL_law_522 rfl (lv_at hl 0 rfl) ?_
  refine lv_iconst (v := 2) hx hb dL_law_523 (by decide) ?_
  refine lv_iadd hx hb dL_law_524 ?_
  refine lv_topi (fun z8 ez8 => ?_)
  have tz8 : z8.toInt = i.toInt + 2 := ti_add ez8 rfl (by decide) (by omega) (by omega)
  refine va_sld hx hb hX hbl hbA hS (vp_i rfl (by omega) (by omega)) dL_law_525 ?_
  refine lv_topi (fun v9 ev9 => ?_)
  clear ev9
  refine lw_i (va_runV (As := [.int v7, .int v9]) (rest := []) hfix (cm_wrote l dC dI cyB cyI cyJ cyZ cyO adK adV oM t WM hMI v7 v9 _) (cwV 2 hts (gi_V tw_53 tw_54 tw_55 tw_7 tb_k_M_wrote gd_k_M_wrote) rfl rfl rfl (by decide +kernel) ⟨Nat.le_of_ble_eq_true rfl, Nat.le_of_ble_eq_true rfl⟩) (g_preW hZ hS hA hKN hP hD 7 (MI.recv hMI) rfl) rfl rfl hl.1 rfl (lv_room (Nat.le_of_ble_eq_true rfl)) dL_law_526 ⟨lw_rc (by omega), lw_rs (by omega)⟩) hP hD hS hA (fun r10 W2 H locs q2 hP hD hS => ?_)
  refine lv_pop hx hb dL_law_529 rfl ?_
  refine lv_goto (tgt := 1548) hx hb dL_law_530 (by decide) ?_
  refine W.widen (k := cells + 8) (n := slots + 773) (by omega) (by omega) ?_
  exact kk t W1 W2 H locs q1 q2 hP hD hS
set_option maxHeartbeats 4000000 in
set_option maxRecDepth 100000 in
theorem law_9 {p : Program} {l : Launch} {e : Env} {s : State} {m : MethodId} {below : List Frame} {meth : Method} {c : Code} {b L : Nat} {xs : Nat → Int32} {dC : Nat → ClassId} {dI : Nat → Nat → Nat} {cyB cyI cyJ cyZ cyO : ClassId} {adK adV : Nat → Nat} (C0 : lw_At p s m meth c b L xs) (hL : L ≤ 3072) (hKN : KN (dC, dI) (kT cyB cyI cyJ cyZ cyO) s) (hZ : ZS adK adV (fun q : Nat => s.heap.size ≤ q) s s.heap) {oX oM : Nat} {i t : Int32} {WX WM : va_W} {cells slots : Nat} (hXI : XI cyB cyI cyJ cyZ cyO oX t WX) (hMI : MI cyB cyI cyJ cyZ cyO oM t WM) (hi0 : 0 ≤ i.toInt) (hi6 : i.toInt + 6 ≤ L) (hc : cells + 8 ≤ 600000) (hs : slots + 773 ≤ 7302250) {H : Heap} {locs : List Loc} (hP : va_P (dC, dI) vwCl (WX ++ WM) H) (hD : va_D (fun q : Nat => s.heap.size ≤ q) (WX ++ WM)) (hS : va_S (fun q : Nat => s.heap.size ≤ q) s.heap H locs) {ls : Array Slot} (hl : lv_has ls 4 [(3, .int i), (2, .ref oM), (1, .ref oX), (0, .ref b)]) (kk : ∀ (t : Int32) (WX WM : va_W) (H : Heap) (locs : List Loc), XI cyB cyI cyJ cyZ cyO oX t WX → MI cyB cyI cyJ cyZ cyO oM t WM → va_P (dC, dI) vwCl (WX ++ WM) H → va_D (fun q : Nat => s.heap.size ≤ q) (WX ++ WM) → va_S (fun q : Nat => s.heap.size ≤ q) s.heap H locs → W p l e room_1 s m #[Value.ref b] below meth c H locs (cells + 8) (slots + 773) (lw_Z below #[Value.ref b] s) (F0 m 1548 ls [])) : W p l e room_1 s m #[Value.ref b] below meth c H locs cells slots (lw_Z below #[Value.ref b] s) (F0 m 533 ls []) := by
  obtain ⟨hx, hb, hr, hml, hown, hts, hX, hbl, hlocks, hgv⟩ := id C0
  have hA : ∀ q : Nat, s.heap.size ≤ q → (fun q : Nat => s.heap.size ≤ q) q := fun _ h => h
  have hbA : ¬ (fun q : Nat => s.heap.size ≤ q) b := Nat.not_le.mpr hbl
  have hfix : CallFix p m c code 4 s #[Value.ref b] lw_tbl R_law := ⟨hx, hb, hml, hown, hts⟩
  refine lv_aload_n hx hb dL_law_533 rfl (lv_at hl 2 rfl) ?_
  refine lv_aload_n hx hb dL_law_534 rfl (lv_at hl 3 rfl) ?_
  refine lv_iload_n hx hb dL_law_535 rfl (lv_at hl 0 rfl) ?_
  refine lv_iconst (v := 1) hx hb dL_law_536 (by decide) ?_
  refine lv_iadd hx hb dL_law_537 ?_
  refine lv_topi (fun z1 ez1 => ?_)
  have tz1 : z1.toInt = i.toInt + 1 := ti_add ez1 rfl (by decide) (by omega) (by omega)
  refine va_sld hx hb hX hbl hbA hS (vp_i rfl (by omega) (by omega)) dL_law_538 ?_
  refine lv_topi (fun v2 ev2 => ?_)
  clear ev2
  refine lv_aload_n hx hb dL_law_539 rfl (lv_at hl 3 rfl) ?_
  refine lv_iload_n hx hb dL_law_540 rfl (lv_at hl 0 rfl) ?_
  refine lv_iconst (v := 2) hx hb dL_law_541 (by decide) ?_
  refine lv_iadd hx hb dL_law_542 ?_
  refine lv_topi (fun z3 ez3 => ?_)
  have tz3 : z3.toInt = i.toInt + 2 := ti_add ez3 rfl (by decide) (by omega) (by omega)
  refine va_sld hx hb hX hbl hbA hS (vp_i rfl (by omega) (by omega)) dL_law_543 ?_
  refine lv_topi (fun v4 ev4 => ?_)
  clear ev4
  rcases xi_cases hXI with hV | hV | hV
  · skip
    refine lw_i (va_runV (As := [.int v2, .int v4]) (rest := []) hfix (cx_write_n l dC dI cyB cyI cyJ cyZ cyO adK adV oX t WX hV v2 v4 _) (cwV 2 hts (gi_V tw_56 tw_57 tw_58 tw_3 tb_k_X_write_n gd_k_X_write_n) rfl rfl rfl (by decide +kernel) ⟨Nat.le_of_ble_eq_true rfl, Nat.le_of_ble_eq_true rfl⟩) (g_preW hZ hS hA hKN hP hD 6 (XI.recv hXI) rfl) rfl rfl hl.1 rfl (lv_room (Nat.le_of_ble_eq_true rfl)) dL_law_544 ⟨lw_rc (by omega), lw_rs (by omega)⟩) hP hD hS hA (fun r5 W1 H locs q1 hP hD hS => ?_)
    refine lv_pop hx hb dL_law_547 rfl ?_
    refine lv_aload_n hx hb dL_law_548 rfl (lv_at hl 1 rfl) ?_
    refine lv_aload_n hx hb dL_law_549 rfl (lv_at hl 3 rfl) ?_
    refine lv_iload_n hx hb dL_law_550 rfl (lv_at hl 0 rfl) ?_
    refine lv_iconst (v := 1) hx hb dL_law_551 (by decide) ?_
    refine lv_iadd hx hb dL_law_552 ?_
    refine lv_topi (fun z6 ez6 => ?_)
    have tz6 : z6.toInt = i.toInt + 1 := ti_add ez6 rfl (by decide) (by omega) (by omega)
    refine va_sld hx hb hX hbl hbA hS (vp_i rfl (by omega) (by omega)) dL_law_553 ?_
    refine lv_topi (fun v7 ev7 => ?_)
    clear ev7
    refine lv_aload_n hx hb dL_law_554 rfl (lv_at hl 3 rfl) ?_
    refine lv_iload_n hx hb dL_law_555 rfl (lv_at hl 0 rfl) ?_
    refine lv_iconst (v := 2) hx hb dL_law_556 (by decide) ?_
    refine lv_iadd hx hb dL_law_557 ?_
    refine lv_topi (fun z8 ez8 => ?_)
    have tz8 : z8.toInt = i.toInt + 2 := ti_add ez8 rfl (by decide) (by omega) (by omega)
    refine va_sld hx hb hX hbl hbA hS (vp_i rfl (by omega) (by omega)) dL_law_558 ?_
    refine lv_topi (fun v9 ev9 => ?_)
    clear ev9
    refine lw_i (va_runV (As := [.int v7, .int v9]) (rest := []) hfix (cm_write l dC dI cyB cyI cyJ cyZ cyO adK adV oM t WM hMI v7 v9 _) (cwV 2 hts (gi_V tw_59 tw_60 tw_61 tw_7 tb_k_M_write gd_k_M_write) rfl rfl rfl (by decide +kernel) ⟨Nat.le_of_ble_eq_true rfl, Nat.le_of_ble_eq_true rfl⟩) (g_preW hZ hS hA hKN hP hD 7 (MI.recv hMI) rfl) rfl rfl hl.1 rfl (lv_room (Nat.le_of_ble_eq_true rfl)) dL_law_559 ⟨lw_rc (by omega), lw_rs (by omega)⟩) hP hD hS hA (fun r10 W2 H locs q2 hP hD hS => ?_)
    refine lv_pop hx hb dL_law_562 rfl ?_
    refine lv_goto (tgt := 1548) hx hb dL_law_563 (by decide) ?_
    refine W.widen (k := cells + 8) (n := slots + 773) (by omega) (by omega) ?_
    exact kk t W1 W2 H locs q1 q2 hP hD hS
  · skip
    refine lw_i (va_runV (As := [.int v2, .int v4]) (rest := []) hfix (cx_write_o l dC dI cyB cyI cyJ cyZ cyO adK adV oX t WX hV v2 v4 _) (cwV 2 hts (gi_V tw_56 tw_57 tw_58 tw_3 tb_k_X_write_o gd_k_X_write_o) rfl rfl rfl (by decide +kernel) ⟨Nat.le_of_ble_eq_true rfl, Nat.le_of_ble_eq_true rfl⟩) (g_preW hZ hS hA hKN hP hD 6 (XI.recv hXI) rfl) rfl rfl hl.1 rfl (lv_room (Nat.le_of_ble_eq_true rfl)) dL_law_544 ⟨lw_rc (by omega), lw_rs (by omega)⟩) hP hD hS hA (fun r11 W1 H locs q1 hP hD hS => ?_)
    refine lv_pop hx hb dL_law_547 rfl ?_
    refine lv_aload_n hx hb dL_law_548 rfl (lv_at hl 1 rfl) ?_
    refine lv_aload_n hx hb dL_law_549 rfl (lv_at hl 3 rfl) ?_
    refine lv_iload_n hx hb dL_law_550 rfl (lv_at hl 0 rfl) ?_
    refine lv_iconst (v := 1) hx hb dL_law_551 (by decide) ?_
    refine lv_iadd hx hb dL_law_552 ?_
    refine lv_topi (fun z12 ez12 => ?_)
    have tz12 : z12.toInt = i.toInt + 1 := ti_add ez12 rfl (by decide) (by omega) (by omega)
    refine va_sld hx hb hX hbl hbA hS (vp_i rfl (by omega) (by omega)) dL_law_553 ?_
    refine lv_topi (fun v13 ev13 => ?_)
    clear ev13
    refine lv_aload_n hx hb dL_law_554 rfl (lv_at hl 3 rfl) ?_
    refine lv_iload_n hx hb dL_law_555 rfl (lv_at hl 0 rfl) ?_
    refine lv_iconst (v := 2) hx hb dL_law_556 (by decide) ?_
    refine lv_iadd hx hb dL_law_557 ?_
    refine lv_topi (fun z14 ez14 => ?_)
    have tz14 : z14.toInt = i.toInt + 2 := ti_add ez14 rfl (by decide) (by omega) (by omega)
    refine va_sld hx hb hX hbl hbA hS (vp_i rfl (by omega) (by omega)) dL_law_558 ?_
    refine lv_topi (fun v15 ev15 => ?_)
    clear ev15
    refine lw_i (va_runV (As := [.int v13, .int v15]) (rest := []) hfix (cm_write l dC dI cyB cyI cyJ cyZ cyO adK adV oM t WM hMI v13 v15 _) (cwV 2 hts (gi_V tw_59 tw_60 tw_61 tw_7 tb_k_M_write gd_k_M_write) rfl rfl rfl (by decide +kernel) ⟨Nat.le_of_ble_eq_true rfl, Nat.le_of_ble_eq_true rfl⟩) (g_preW hZ hS hA hKN hP hD 7 (MI.recv hMI) rfl) rfl rfl hl.1 rfl (lv_room (Nat.le_of_ble_eq_true rfl)) dL_law_559 ⟨lw_rc (by omega), lw_rs (by omega)⟩) hP hD hS hA (fun r16 W2 H locs q2 hP hD hS => ?_)
    refine lv_pop hx hb dL_law_562 rfl ?_
    refine lv_goto (tgt := 1548) hx hb dL_law_563 (by decide) ?_
    refine W.widen (k := cells + 8) (n := slots + 773) (by omega) (by omega) ?_
    exact kk t W1 W2 H locs q1 q2 hP hD hS
  · skip
    refine lw_i (va_runV (As := [.int v2, .int v4]) (rest := []) hfix (cx_write_a l dC dI cyB cyI cyJ cyZ cyO adK adV oX t WX hV v2 v4 _) (cwV 2 hts (gi_V tw_56 tw_57 tw_58 tw_3 tb_k_X_write_a gd_k_X_write_a) rfl rfl rfl (by decide +kernel) ⟨Nat.le_of_ble_eq_true rfl, Nat.le_of_ble_eq_true rfl⟩) (g_preW hZ hS hA hKN hP hD 6 (XI.recv hXI) rfl) rfl rfl hl.1 rfl (lv_room (Nat.le_of_ble_eq_true rfl)) dL_law_544 ⟨lw_rc (by omega), lw_rs (by omega)⟩) hP hD hS hA (fun r17 W1 H locs q1 hP hD hS => ?_)
    refine lv_pop hx hb dL_law_547 rfl ?_
    refine lv_aload_n hx hb dL_law_548 rfl (lv_at hl 1 rfl) ?_
    refine lv_aload_n hx hb dL_law_549 rfl (lv_at hl 3 rfl) ?_
    refine lv_iload_n hx hb dL_law_550 rfl (lv_at hl 0 rfl) ?_
    refine lv_iconst (v := 1) hx hb dL_law_551 (by decide) ?_
    refine lv_iadd hx hb dL_law_552 ?_
    refine lv_topi (fun z18 ez18 => ?_)
    have tz18 : z18.toInt = i.toInt + 1 := ti_add ez18 rfl (by decide) (by omega) (by omega)
    refine va_sld hx hb hX hbl hbA hS (vp_i rfl (by omega) (by omega)) dL_law_553 ?_
    refine lv_topi (fun v19 ev19 => ?_)
    clear ev19
    refine lv_aload_n hx hb dL_law_554 rfl (lv_at hl 3 rfl) ?_
    refine lv_iload_n hx hb dL_law_555 rfl (lv_at hl 0 rfl) ?_
    refine lv_iconst (v := 2) hx hb dL_law_556 (by decide) ?_
    refine lv_iadd hx hb dL_law_557 ?_
    refine lv_topi (fun z20 ez20 => ?_)
    have tz20 : z20.toInt = i.toInt + 2 := ti_add ez20 rfl (by decide) (by omega) (by omega)
    refine va_sld hx hb hX hbl hbA hS (vp_i rfl (by omega) (by omega)) dL_law_558 ?_
    refine lv_topi (fun v21 ev21 => ?_)
    clear ev21
    refine lw_i (va_runV (As := [.int v19, .int v21]) (rest := []) hfix (cm_write l dC dI cyB cyI cyJ cyZ cyO adK adV oM t WM hMI v19 v21 _) (cwV 2 hts (gi_V tw_59 tw_60 tw_61 tw_7 tb_k_M_write gd_k_M_write) rfl rfl rfl (by decide +kernel) ⟨Nat.le_of_ble_eq_true rfl, Nat.le_of_ble_eq_true rfl⟩) (g_preW hZ hS hA hKN hP hD 7 (MI.recv hMI) rfl) rfl rfl hl.1 rfl (lv_room (Nat.le_of_ble_eq_true rfl)) dL_law_559 ⟨lw_rc (by omega), lw_rs (by omega)⟩) hP hD hS hA (fun r22 W2 H locs q2 hP hD hS => ?_)
    refine lv_pop hx hb dL_law_562 rfl ?_
    refine lv_goto (tgt := 1548) hx hb dL_law_563 (by decide) ?_
    refine W.widen (k := cells + 8) (n := slots + 773) (by omega) (by omega) ?_
    exact kk t W1 W2 H locs q1 q2 hP hD hS
set_option maxHeartbeats 4000000 in
set_option maxRecDepth 100000 in
theorem law_10 {p : Program} {l : Launch} {e : Env} {s : State} {m : MethodId} {below : List Frame} {meth : Method} {c : Code} {b L : Nat} {xs : Nat → Int32} {dC : Nat → ClassId} {dI : Nat → Nat → Nat} {cyB cyI cyJ cyZ cyO : ClassId} {adK adV : Nat → Nat} (C0 : lw_At p s m meth c b L xs) (hL : L ≤ 3072) (hKN : KN (dC, dI) (kT cyB cyI cyJ cyZ cyO) s) (hZ : ZS adK adV (fun q : Nat => s.heap.size ≤ q) s s.heap) {oX oM : Nat} {i t : Int32} {WX WM : va_W} {cells slots : Nat} (hXI : XI cyB cyI cyJ cyZ cyO oX t WX) (hMI : MI cyB cyI cyJ cyZ cyO oM t WM) (hi0 : 0 ≤ i.toInt) (hi6 : i.toInt + 6 ≤ L) (hc : cells + 8 ≤ 600000) (hs : slots + 773 ≤ 7302250) {H : Heap} {locs : List Loc} (hP : va_P (dC, dI) vwCl (WX ++ WM) H) (hD : va_D (fun q : Nat => s.heap.size ≤ q) (WX ++ WM)) (hS : va_S (fun q : Nat => s.heap.size ≤ q) s.heap H locs) {ls : Array Slot} (hl : lv_has ls 4 [(3, .int i), (2, .ref oM), (1, .ref oX), (0, .ref b)]) (kk : ∀ (t : Int32) (WX WM : va_W) (H : Heap) (locs : List Loc), XI cyB cyI cyJ cyZ cyO oX t WX → MI cyB cyI cyJ cyZ cyO oM t WM → va_P (dC, dI) vwCl (WX ++ WM) H → va_D (fun q : Nat => s.heap.size ≤ q) (WX ++ WM) → va_S (fun q : Nat => s.heap.size ≤ q) s.heap H locs → W p l e room_1 s m #[Value.ref b] below meth c H locs (cells + 8) (slots + 773) (lw_Z below #[Value.ref b] s) (F0 m 1548 ls [])) : W p l e room_1 s m #[Value.ref b] below meth c H locs cells slots (lw_Z below #[Value.ref b] s) (F0 m 566 ls []) := by
  obtain ⟨hx, hb, hr, hml, hown, hts, hX, hbl, hlocks, hgv⟩ := id C0
  have hA : ∀ q : Nat, s.heap.size ≤ q → (fun q : Nat => s.heap.size ≤ q) q := fun _ h => h
  have hbA : ¬ (fun q : Nat => s.heap.size ≤ q) b := Nat.not_le.mpr hbl
  have hfix : CallFix p m c code 4 s #[Value.ref b] lw_tbl R_law := ⟨hx, hb, hml, hown, hts⟩
  refine lv_aload_n hx hb dL_law_566 rfl (lv_at hl 2 rfl) ?_
  rcases xi_cases hXI with hV | hV | hV
  · skip
    refine lw_i (va_runV (As := []) (rest := []) hfix (cx_tick_n l dC dI cyB cyI cyJ cyZ cyO adK adV oX t WX hV _) (cwV 0 hts (gi_V tw_62 tw_63 tw_64 tw_3 tb_k_X_tick_n gd_k_X_tick_n) rfl rfl rfl (by decide +kernel) ⟨Nat.le_of_ble_eq_true rfl, Nat.le_of_ble_eq_true rfl⟩) (g_preW hZ hS hA hKN hP hD 6 (XI.recv hXI) rfl) rfl rfl hl.1 rfl (lv_room (Nat.le_of_ble_eq_true rfl)) dL_law_567 ⟨lw_rc (by omega), lw_rs (by omega)⟩) hP hD hS hA (fun r1 W1 H locs q1 hP hD hS => ?_)
    refine lv_pop hx hb dL_law_570 rfl ?_
    refine lv_aload_n hx hb dL_law_571 rfl (lv_at hl 1 rfl) ?_
    refine lw_i (va_runV (As := []) (rest := []) hfix (cm_tick l dC dI cyB cyI cyJ cyZ cyO adK adV oM t WM hMI _) (cwV 0 hts (gi_V tw_65 tw_66 tw_67 tw_7 tb_k_M_tick gd_k_M_tick) rfl rfl rfl (by decide +kernel) ⟨Nat.le_of_ble_eq_true rfl, Nat.le_of_ble_eq_true rfl⟩) (g_preW hZ hS hA hKN hP hD 7 (MI.recv hMI) rfl) rfl rfl hl.1 rfl (lv_room (Nat.le_of_ble_eq_true rfl)) dL_law_572 ⟨lw_rc (by omega), lw_rs (by omega)⟩) hP hD hS hA (fun r2 W2 H locs q2 hP hD hS => ?_)
    refine lv_pop hx hb dL_law_575 rfl ?_
    refine lv_goto (tgt := 1548) hx hb dL_law_576 (by decide) ?_
    refine W.widen (k := cells + 8) (n := slots + 773) (by omega) (by omega) ?_
    exact kk t W1 W2 H locs q1 q2 hP hD hS
  · skip
    refine lw_i (va_runV (As := []) (rest := []) hfix (cx_tick_o l dC dI cyB cyI cyJ cyZ cyO adK adV oX t WX hV _) (cwV 0 hts (gi_V tw_62 tw_63 tw_64 tw_3 tb_k_X_tick_o gd_k_X_tick_o) rfl rfl rfl (by decide +kernel) ⟨Nat.le_of_ble_eq_true rfl, Nat.le_of_ble_eq_true rfl⟩) (g_preW hZ hS hA hKN hP hD 6 (XI.recv hXI) rfl) rfl rfl hl.1 rfl (lv_room (Nat.le_of_ble_eq_true rfl)) dL_law_567 ⟨lw_rc (by omega), lw_rs (by omega)⟩) hP hD hS hA (fun r3 W1 H locs q1 hP hD hS => ?_)
    refine lv_pop hx hb dL_law_570 rfl ?_
    refine lv_aload_n hx hb dL_law_571 rfl (lv_at hl 1 rfl) ?_
    refine lw_i (va_runV (As := []) (rest := []) hfix (cm_tick l dC dI cyB cyI cyJ cyZ cyO adK adV oM t WM hMI _) (cwV 0 hts (gi_V tw_65 tw_66 tw_67 tw_7 tb_k_M_tick gd_k_M_tick) rfl rfl rfl (by decide +kernel) ⟨Nat.le_of_ble_eq_true rfl, Nat.le_of_ble_eq_true rfl⟩) (g_preW hZ hS hA hKN hP hD 7 (MI.recv hMI) rfl) rfl rfl hl.1 rfl (lv_room (Nat.le_of_ble_eq_true rfl)) dL_law_572 ⟨lw_rc (by omega), lw_rs (by omega)⟩) hP hD hS hA (fun r4 W2 H locs q2 hP hD hS => ?_)
    refine lv_pop hx hb dL_law_575 rfl ?_
    refine lv_goto (tgt := 1548) hx hb dL_law_576 (by decide) ?_
    refine W.widen (k := cells + 8) (n := slots + 773) (by omega) (by omega) ?_
    exact kk t W1 W2 H locs q1 q2 hP hD hS
  · skip
    refine lw_i (va_runV (As := []) (rest := []) hfix (cx_tick_a l dC dI cyB cyI cyJ cyZ cyO adK adV oX t WX hV _) (cwV 0 hts (gi_V tw_62 tw_63 tw_64 tw_3 tb_k_X_tick_a gd_k_X_tick_a) rfl rfl rfl (by decide +kernel) ⟨Nat.le_of_ble_eq_true rfl, Nat.le_of_ble_eq_true rfl⟩) (g_preW hZ hS hA hKN hP hD 6 (XI.recv hXI) rfl) rfl rfl hl.1 rfl (lv_room (Nat.le_of_ble_eq_true rfl)) dL_law_567 ⟨lw_rc (by omega), lw_rs (by omega)⟩) hP hD hS hA (fun r5 W1 H locs q1 hP hD hS => ?_)
    refine lv_pop hx hb dL_law_570 rfl ?_
    refine lv_aload_n hx hb dL_law_571 rfl (lv_at hl 1 rfl) ?_
    refine lw_i (va_runV (As := []) (rest := []) hfix (cm_tick l dC dI cyB cyI cyJ cyZ cyO adK adV oM t WM hMI _) (cwV 0 hts (gi_V tw_65 tw_66 tw_67 tw_7 tb_k_M_tick gd_k_M_tick) rfl rfl rfl (by decide +kernel) ⟨Nat.le_of_ble_eq_true rfl, Nat.le_of_ble_eq_true rfl⟩) (g_preW hZ hS hA hKN hP hD 7 (MI.recv hMI) rfl) rfl rfl hl.1 rfl (lv_room (Nat.le_of_ble_eq_true rfl)) dL_law_572 ⟨lw_rc (by omega), lw_rs (by omega)⟩) hP hD hS hA (fun r6 W2 H locs q2 hP hD hS => ?_)
    refine lv_pop hx hb dL_law_575 rfl ?_
    refine lv_goto (tgt := 1548) hx hb dL_law_576 (by decide) ?_
    refine W.widen (k := cells + 8) (n := slots + 773) (by omega) (by omega) ?_
    exact kk t W1 W2 H locs q1 q2 hP hD hS
set_option maxHeartbeats 4000000 in
set_option maxRecDepth 100000 in
theorem law_11 {p : Program} {l : Launch} {e : Env} {s : State} {m : MethodId} {below : List Frame} {meth : Method} {c : Code} {b L : Nat} {xs : Nat → Int32} {dC : Nat → ClassId} {dI : Nat → Nat → Nat} {cyB cyI cyJ cyZ cyO : ClassId} {adK adV : Nat → Nat} (C0 : lw_At p s m meth c b L xs) (hL : L ≤ 3072) (hKN : KN (dC, dI) (kT cyB cyI cyJ cyZ cyO) s) (hZ : ZS adK adV (fun q : Nat => s.heap.size ≤ q) s s.heap) {oX oM : Nat} {i t : Int32} {WX WM : va_W} {cells slots : Nat} (hXI : XI cyB cyI cyJ cyZ cyO oX t WX) (hMI : MI cyB cyI cyJ cyZ cyO oM t WM) (hi0 : 0 ≤ i.toInt) (hi6 : i.toInt + 6 ≤ L) (hc : cells + 8 ≤ 600000) (hs : slots + 773 ≤ 7302250) {H : Heap} {locs : List Loc} (hP : va_P (dC, dI) vwCl (WX ++ WM) H) (hD : va_D (fun q : Nat => s.heap.size ≤ q) (WX ++ WM)) (hS : va_S (fun q : Nat => s.heap.size ≤ q) s.heap H locs) {ls : Array Slot} (hl : lv_has ls 4 [(3, .int i), (2, .ref oM), (1, .ref oX), (0, .ref b)]) (kk : ∀ (t : Int32) (WX WM : va_W) (H : Heap) (locs : List Loc), XI cyB cyI cyJ cyZ cyO oX t WX → MI cyB cyI cyJ cyZ cyO oM t WM → va_P (dC, dI) vwCl (WX ++ WM) H → va_D (fun q : Nat => s.heap.size ≤ q) (WX ++ WM) → va_S (fun q : Nat => s.heap.size ≤ q) s.heap H locs → W p l e room_1 s m #[Value.ref b] below meth c H locs (cells + 8) (slots + 773) (lw_Z below #[Value.ref b] s) (F0 m 1548 ls [])) : W p l e room_1 s m #[Value.ref b] below meth c H locs cells slots (lw_Z below #[Value.ref b] s) (F0 m 579 ls []) := by
  obtain ⟨hx, hb, hr, hml, hown, hts, hX, hbl, hlocks, hgv⟩ := id C0
  have hA : ∀ q : Nat, s.heap.size ≤ q → (fun q : Nat => s.heap.size ≤ q) q := fun _ h => h
  have hbA : ¬ (fun q : Nat => s.heap.size ≤ q) b := Nat.not_le.mpr hbl
  have hfix : CallFix p m c code 4 s #[Value.ref b] lw_tbl R_law := ⟨hx, hb, hml, hown, hts⟩
  refine lv_aload_n hx hb dL_law_579 rfl (lv_at hl 2 rfl) ?_
  refine lv_aload_n hx hb dL_law_580 rfl (lv_at hl 3 rfl) ?_
  refine lv_iload_n hx hb dL_law_581 rfl (lv_at hl 0 rfl) ?_
  refine lv_iconst (v := 1) hx hb dL_law_582 (by decide) ?_
  refine lv_iadd hx hb dL_law_583 ?_
  refine lv_topi (fun z1 ez1 => ?_)
  have tz1 : z1.toInt = i.toInt + 1 := ti_add ez1 rfl (by decide) (by omega) (by omega)
  refine va_sld hx hb hX hbl hbA hS (vp_i rfl (by omega) (by omega)) dL_law_584 ?_
  refine lv_topi (fun v2 ev2 => ?_)
  clear ev2
  rcases xi_cases hXI with hV | hV | hV
  · skip
    refine lw_i (va_runV (As := [.int v2]) (rest := []) hfix (cx_lose_n l dC dI cyB cyI cyJ cyZ cyO adK adV oX t WX hV v2 _) (cwV 1 hts (gi_V tw_68 tw_69 tw_70 tw_3 tb_k_X_lose_n gd_k_X_lose_n) rfl rfl rfl (by decide +kernel) ⟨Nat.le_of_ble_eq_true rfl, Nat.le_of_ble_eq_true rfl⟩) (g_preW hZ hS hA hKN hP hD 6 (XI.recv hXI) rfl) rfl rfl hl.1 rfl (lv_room (Nat.le_of_ble_eq_true rfl)) dL_law_585 ⟨lw_rc (by omega), lw_rs (by omega)⟩) hP hD hS hA (fun r3 W1 H locs q1 hP hD hS => ?_)
    refine lv_pop hx hb dL_law_588 rfl ?_
    refine lv_aload_n hx hb dL_law_589 rfl (lv_at hl 1 rfl) ?_
    refine lv_aload_n hx hb dL_law_590 rfl (lv_at hl 3 rfl) ?_
    refine lv_iload_n hx hb dL_law_591 rfl (lv_at hl 0 rfl) ?_
    refine lv_iconst (v := 1) hx hb dL_law_592 (by decide) ?_
    refine lv_iadd hx hb dL_law_593 ?_
    refine lv_topi (fun z4 ez4 => ?_)
    have tz4 : z4.toInt = i.toInt + 1 := ti_add ez4 rfl (by decide) (by omega) (by omega)
    refine va_sld hx hb hX hbl hbA hS (vp_i rfl (by omega) (by omega)) dL_law_594 ?_
    refine lv_topi (fun v5 ev5 => ?_)
    clear ev5
    refine lw_i (va_runV (As := [.int v5]) (rest := []) hfix (cm_lose l dC dI cyB cyI cyJ cyZ cyO adK adV oM t WM hMI v5 _) (cwV 1 hts (gi_V tw_71 tw_72 tw_73 tw_7 tb_k_M_lose gd_k_M_lose) rfl rfl rfl (by decide +kernel) ⟨Nat.le_of_ble_eq_true rfl, Nat.le_of_ble_eq_true rfl⟩) (g_preW hZ hS hA hKN hP hD 7 (MI.recv hMI) rfl) rfl rfl hl.1 rfl (lv_room (Nat.le_of_ble_eq_true rfl)) dL_law_595 ⟨lw_rc (by omega), lw_rs (by omega)⟩) hP hD hS hA (fun r6 W2 H locs q2 hP hD hS => ?_)
    refine lv_pop hx hb dL_law_598 rfl ?_
    refine lv_goto (tgt := 1548) hx hb dL_law_599 (by decide) ?_
    refine W.widen (k := cells + 8) (n := slots + 773) (by omega) (by omega) ?_
    exact kk t W1 W2 H locs q1 q2 hP hD hS
  · skip
    refine lw_i (va_runV (As := [.int v2]) (rest := []) hfix (cx_lose_o l dC dI cyB cyI cyJ cyZ cyO adK adV oX t WX hV v2 _) (cwV 1 hts (gi_V tw_68 tw_69 tw_70 tw_3 tb_k_X_lose_o gd_k_X_lose_o) rfl rfl rfl (by decide +kernel) ⟨Nat.le_of_ble_eq_true rfl, Nat.le_of_ble_eq_true rfl⟩) (g_preW hZ hS hA hKN hP hD 6 (XI.recv hXI) rfl) rfl rfl hl.1 rfl (lv_room (Nat.le_of_ble_eq_true rfl)) dL_law_585 ⟨lw_rc (by omega), lw_rs (by omega)⟩) hP hD hS hA (fun r7 W1 H locs q1 hP hD hS => ?_)
    refine lv_pop hx hb dL_law_588 rfl ?_
    refine lv_aload_n hx hb dL_law_589 rfl (lv_at hl 1 rfl) ?_
    refine lv_aload_n hx hb dL_law_590 rfl (lv_at hl 3 rfl) ?_
    refine lv_iload_n hx hb dL_law_591 rfl (lv_at hl 0 rfl) ?_
    refine lv_iconst (v := 1) hx hb dL_law_592 (by decide) ?_
    refine lv_iadd hx hb dL_law_593 ?_
    refine lv_topi (fun z8 ez8 => ?_)
    have tz8 : z8.toInt = i.toInt + 1 := ti_add ez8 rfl (by decide) (by omega) (by omega)
    refine va_sld hx hb hX hbl hbA hS (vp_i rfl (by omega) (by omega)) dL_law_594 ?_
    refine lv_topi (fun v9 ev9 => ?_)
    clear ev9
    refine lw_i (va_runV (As := [.int v9]) (rest := []) hfix (cm_lose l dC dI cyB cyI cyJ cyZ cyO adK adV oM t WM hMI v9 _) (cwV 1 hts (gi_V tw_71 tw_72 tw_73 tw_7 tb_k_M_lose gd_k_M_lose) rfl rfl rfl (by decide +kernel) ⟨Nat.le_of_ble_eq_true rfl, Nat.le_of_ble_eq_true rfl⟩) (g_preW hZ hS hA hKN hP hD 7 (MI.recv hMI) rfl) rfl rfl hl.1 rfl (lv_room (Nat.le_of_ble_eq_true rfl)) dL_law_595 ⟨lw_rc (by omega), lw_rs (by omega)⟩) hP hD hS hA (fun r10 W2 H locs q2 hP hD hS => ?_)
    refine lv_pop hx hb dL_law_598 rfl ?_
    refine lv_goto (tgt := 1548) hx hb dL_law_599 (by decide) ?_
    refine W.widen (k := cells + 8) (n := slots + 773) (by omega) (by omega) ?_
    exact kk t W1 W2 H locs q1 q2 hP hD hS
  · skip
    refine lw_i (va_runV (As := [.int v2]) (rest := []) hfix (cx_lose_a l dC dI cyB cyI cyJ cyZ cyO adK adV oX t WX hV v2 _) (cwV 1 hts (gi_V tw_68 tw_69 tw_70 tw_3 tb_k_X_lose_a gd_k_X_lose_a) rfl rfl rfl (by decide +kernel) ⟨Nat.le_of_ble_eq_true rfl, Nat.le_of_ble_eq_true rfl⟩) (g_preW hZ hS hA hKN hP hD 6 (XI.recv hXI) rfl) rfl rfl hl.1 rfl (lv_room (Nat.le_of_ble_eq_true rfl)) dL_law_585 ⟨lw_rc (by omega), lw_rs (by omega)⟩) hP hD hS hA (fun r11 W1 H locs q1 hP hD hS => ?_)
    refine lv_pop hx hb dL_law_588 rfl ?_
    refine lv_aload_n hx hb dL_law_589 rfl (lv_at hl 1 rfl) ?_
    refine lv_aload_n hx hb dL_law_590 rfl (lv_at hl 3 rfl) ?_
    refine lv_iload_n hx hb dL_law_591 rfl (lv_at hl 0 rfl) ?_
    refine lv_iconst (v := 1) hx hb dL_law_592 (by decide) ?_
    refine lv_iadd hx hb dL_law_593 ?_
    refine lv_topi (fun z12 ez12 => ?_)
    have tz12 : z12.toInt = i.toInt + 1 := ti_add ez12 rfl (by decide) (by omega) (by omega)
    refine va_sld hx hb hX hbl hbA hS (vp_i rfl (by omega) (by omega)) dL_law_594 ?_
    refine lv_topi (fun v13 ev13 => ?_)
    clear ev13
    refine lw_i (va_runV (As := [.int v13]) (rest := []) hfix (cm_lose l dC dI cyB cyI cyJ cyZ cyO adK adV oM t WM hMI v13 _) (cwV 1 hts (gi_V tw_71 tw_72 tw_73 tw_7 tb_k_M_lose gd_k_M_lose) rfl rfl rfl (by decide +kernel) ⟨Nat.le_of_ble_eq_true rfl, Nat.le_of_ble_eq_true rfl⟩) (g_preW hZ hS hA hKN hP hD 7 (MI.recv hMI) rfl) rfl rfl hl.1 rfl (lv_room (Nat.le_of_ble_eq_true rfl)) dL_law_595 ⟨lw_rc (by omega), lw_rs (by omega)⟩) hP hD hS hA (fun r14 W2 H locs q2 hP hD hS => ?_)
    refine lv_pop hx hb dL_law_598 rfl ?_
    refine lv_goto (tgt := 1548) hx hb dL_law_599 (by decide) ?_
    refine W.widen (k := cells + 8) (n := slots + 773) (by omega) (by omega) ?_
    exact kk t W1 W2 H locs q1 q2 hP hD hS
set_option maxHeartbeats 4000000 in
set_option maxRecDepth 100000 in
theorem law_12 {p : Program} {l : Launch} {e : Env} {s : State} {m : MethodId} {below : List Frame} {meth : Method} {c : Code} {b L : Nat} {xs : Nat → Int32} {dC : Nat → ClassId} {dI : Nat → Nat → Nat} {cyB cyI cyJ cyZ cyO : ClassId} {adK adV : Nat → Nat} (C0 : lw_At p s m meth c b L xs) (hL : L ≤ 3072) (hKN : KN (dC, dI) (kT cyB cyI cyJ cyZ cyO) s) (hZ : ZS adK adV (fun q : Nat => s.heap.size ≤ q) s s.heap) {oX oM : Nat} {i t : Int32} {WX WM : va_W} {cells slots : Nat} (hXI : XI cyB cyI cyJ cyZ cyO oX t WX) (hMI : MI cyB cyI cyJ cyZ cyO oM t WM) (hi0 : 0 ≤ i.toInt) (hi6 : i.toInt + 6 ≤ L) (hc : cells + 8 ≤ 600000) (hs : slots + 773 ≤ 7302250) {H : Heap} {locs : List Loc} (hP : va_P (dC, dI) vwCl (WX ++ WM) H) (hD : va_D (fun q : Nat => s.heap.size ≤ q) (WX ++ WM)) (hS : va_S (fun q : Nat => s.heap.size ≤ q) s.heap H locs) {ls : Array Slot} (hl : lv_has ls 4 [(3, .int i), (2, .ref oM), (1, .ref oX), (0, .ref b)]) (kk : ∀ (t : Int32) (WX WM : va_W) (H : Heap) (locs : List Loc), XI cyB cyI cyJ cyZ cyO oX t WX → MI cyB cyI cyJ cyZ cyO oM t WM → va_P (dC, dI) vwCl (WX ++ WM) H → va_D (fun q : Nat => s.heap.size ≤ q) (WX ++ WM) → va_S (fun q : Nat => s.heap.size ≤ q) s.heap H locs → W p l e room_1 s m #[Value.ref b] below meth c H locs (cells + 8) (slots + 773) (lw_Z below #[Value.ref b] s) (F0 m 1548 ls [])) : W p l e room_1 s m #[Value.ref b] below meth c H locs cells slots (lw_Z below #[Value.ref b] s) (F0 m 602 ls []) := by
  obtain ⟨hx, hb, hr, hml, hown, hts, hX, hbl, hlocks, hgv⟩ := id C0
  have hA : ∀ q : Nat, s.heap.size ≤ q → (fun q : Nat => s.heap.size ≤ q) q := fun _ h => h
  have hbA : ¬ (fun q : Nat => s.heap.size ≤ q) b := Nat.not_le.mpr hbl
  have hfix : CallFix p m c code 4 s #[Value.ref b] lw_tbl R_law := ⟨hx, hb, hml, hown, hts⟩
  refine lv_aload_n hx hb dL_law_602 rfl (lv_at hl 2 rfl) ?_
  refine lv_aload_n hx hb dL_law_603 rfl (lv_at hl 3 rfl) ?_
  refine lv_iload_n hx hb dL_law_604 rfl (lv_at hl 0 rfl) ?_
  refine lv_iconst (v := 1) hx hb dL_law_605 (by decide) ?_
  refine lv_iadd hx hb dL_law_606 ?_
  refine lv_topi (fun z1 ez1 => ?_)
  have tz1 : z1.toInt = i.toInt + 1 := ti_add ez1 rfl (by decide) (by omega) (by omega)
  refine va_sld hx hb hX hbl hbA hS (vp_i rfl (by omega) (by omega)) dL_law_607 ?_
  refine lv_topi (fun v2 ev2 => ?_)
  clear ev2
  rcases xi_cases hXI with hV | hV | hV
  · skip
    refine lw_i (va_runV (As := [.int v2]) (rest := []) hfix (cx_join_n l dC dI cyB cyI cyJ cyZ cyO adK adV oX t WX hV v2 _) (cwV 1 hts (gi_V tw_74 tw_75 tw_76 tw_3 tb_k_X_join_n gd_k_X_join_n) rfl rfl rfl (by decide +kernel) ⟨Nat.le_of_ble_eq_true rfl, Nat.le_of_ble_eq_true rfl⟩) (g_preW hZ hS hA hKN hP hD 6 (XI.recv hXI) rfl) rfl rfl hl.1 rfl (lv_room (Nat.le_of_ble_eq_true rfl)) dL_law_608 ⟨lw_rc (by omega), lw_rs (by omega)⟩) hP hD hS hA (fun r3 W1 H locs q1 hP hD hS => ?_)
    refine lv_pop hx hb dL_law_611 rfl ?_
    refine lv_aload_n hx hb dL_law_612 rfl (lv_at hl 1 rfl) ?_
    refine lv_aload_n hx hb dL_law_613 rfl (lv_at hl 3 rfl) ?_
    refine lv_iload_n hx hb dL_law_614 rfl (lv_at hl 0 rfl) ?_
    refine lv_iconst (v := 1) hx hb dL_law_615 (by decide) ?_
    refine lv_iadd hx hb dL_law_616 ?_
    refine lv_topi (fun z4 ez4 => ?_)
    have tz4 : z4.toInt = i.toInt + 1 := ti_add ez4 rfl (by decide) (by omega) (by omega)
    refine va_sld hx hb hX hbl hbA hS (vp_i rfl (by omega) (by omega)) dL_law_617 ?_
    refine lv_topi (fun v5 ev5 => ?_)
    clear ev5
    refine lw_i (va_runV (As := [.int v5]) (rest := []) hfix (cm_join l dC dI cyB cyI cyJ cyZ cyO adK adV oM t WM hMI v5 _) (cwV 1 hts (gi_V tw_77 tw_78 tw_79 tw_7 tb_k_M_join gd_k_M_join) rfl rfl rfl (by decide +kernel) ⟨Nat.le_of_ble_eq_true rfl, Nat.le_of_ble_eq_true rfl⟩) (g_preW hZ hS hA hKN hP hD 7 (MI.recv hMI) rfl) rfl rfl hl.1 rfl (lv_room (Nat.le_of_ble_eq_true rfl)) dL_law_618 ⟨lw_rc (by omega), lw_rs (by omega)⟩) hP hD hS hA (fun r6 W2 H locs q2 hP hD hS => ?_)
    refine lv_pop hx hb dL_law_621 rfl ?_
    refine lv_goto (tgt := 1548) hx hb dL_law_622 (by decide) ?_
    refine W.widen (k := cells + 8) (n := slots + 773) (by omega) (by omega) ?_
    exact kk t W1 W2 H locs q1 q2 hP hD hS
  · skip
    refine lw_i (va_runV (As := [.int v2]) (rest := []) hfix (cx_join_o l dC dI cyB cyI cyJ cyZ cyO adK adV oX t WX hV v2 _) (cwV 1 hts (gi_V tw_74 tw_75 tw_76 tw_3 tb_k_X_join_o gd_k_X_join_o) rfl rfl rfl (by decide +kernel) ⟨Nat.le_of_ble_eq_true rfl, Nat.le_of_ble_eq_true rfl⟩) (g_preW hZ hS hA hKN hP hD 6 (XI.recv hXI) rfl) rfl rfl hl.1 rfl (lv_room (Nat.le_of_ble_eq_true rfl)) dL_law_608 ⟨lw_rc (by omega), lw_rs (by omega)⟩) hP hD hS hA (fun r7 W1 H locs q1 hP hD hS => ?_)
    refine lv_pop hx hb dL_law_611 rfl ?_
    refine lv_aload_n hx hb dL_law_612 rfl (lv_at hl 1 rfl) ?_
    refine lv_aload_n hx hb dL_law_613 rfl (lv_at hl 3 rfl) ?_
    refine lv_iload_n hx hb dL_law_614 rfl (lv_at hl 0 rfl) ?_
    refine lv_iconst (v := 1) hx hb dL_law_615 (by decide) ?_
    refine lv_iadd hx hb dL_law_616 ?_
    refine lv_topi (fun z8 ez8 => ?_)
    have tz8 : z8.toInt = i.toInt + 1 := ti_add ez8 rfl (by decide) (by omega) (by omega)
    refine va_sld hx hb hX hbl hbA hS (vp_i rfl (by omega) (by omega)) dL_law_617 ?_
    refine lv_topi (fun v9 ev9 => ?_)
    clear ev9
    refine lw_i (va_runV (As := [.int v9]) (rest := []) hfix (cm_join l dC dI cyB cyI cyJ cyZ cyO adK adV oM t WM hMI v9 _) (cwV 1 hts (gi_V tw_77 tw_78 tw_79 tw_7 tb_k_M_join gd_k_M_join) rfl rfl rfl (by decide +kernel) ⟨Nat.le_of_ble_eq_true rfl, Nat.le_of_ble_eq_true rfl⟩) (g_preW hZ hS hA hKN hP hD 7 (MI.recv hMI) rfl) rfl rfl hl.1 rfl (lv_room (Nat.le_of_ble_eq_true rfl)) dL_law_618 ⟨lw_rc (by omega), lw_rs (by omega)⟩) hP hD hS hA (fun r10 W2 H locs q2 hP hD hS => ?_)
    refine lv_pop hx hb dL_law_621 rfl ?_
    refine lv_goto (tgt := 1548) hx hb dL_law_622 (by decide) ?_
    refine W.widen (k := cells + 8) (n := slots + 773) (by omega) (by omega) ?_
    exact kk t W1 W2 H locs q1 q2 hP hD hS
  · skip
    refine lw_i (va_runV (As := [.int v2]) (rest := []) hfix (cx_join_a l dC dI cyB cyI cyJ cyZ cyO adK adV oX t WX hV v2 _) (cwV 1 hts (gi_V tw_74 tw_75 tw_76 tw_3 tb_k_X_join_a gd_k_X_join_a) rfl rfl rfl (by decide +kernel) ⟨Nat.le_of_ble_eq_true rfl, Nat.le_of_ble_eq_true rfl⟩) (g_preW hZ hS hA hKN hP hD 6 (XI.recv hXI) rfl) rfl rfl hl.1 rfl (lv_room (Nat.le_of_ble_eq_true rfl)) dL_law_608 ⟨lw_rc (by omega), lw_rs (by omega)⟩) hP hD hS hA (fun r11 W1 H locs q1 hP hD hS => ?_)
    refine lv_pop hx hb dL_law_611 rfl ?_
    refine lv_aload_n hx hb dL_law_612 rfl (lv_at hl 1 rfl) ?_
    refine lv_aload_n hx hb dL_law_613 rfl (lv_at hl 3 rfl) ?_
    refine lv_iload_n hx hb dL_law_614 rfl (lv_at hl 0 rfl) ?_
    refine lv_iconst (v := 1) hx hb dL_law_615 (by decide) ?_
    refine lv_iadd hx hb dL_law_616 ?_
    refine lv_topi (fun z12 ez12 => ?_)
    have tz12 : z12.toInt = i.toInt + 1 := ti_add ez12 rfl (by decide) (by omega) (by omega)
    refine va_sld hx hb hX hbl hbA hS (vp_i rfl (by omega) (by omega)) dL_law_617 ?_
    refine lv_topi (fun v13 ev13 => ?_)
    clear ev13
    refine lw_i (va_runV (As := [.int v13]) (rest := []) hfix (cm_join l dC dI cyB cyI cyJ cyZ cyO adK adV oM t WM hMI v13 _) (cwV 1 hts (gi_V tw_77 tw_78 tw_79 tw_7 tb_k_M_join gd_k_M_join) rfl rfl rfl (by decide +kernel) ⟨Nat.le_of_ble_eq_true rfl, Nat.le_of_ble_eq_true rfl⟩) (g_preW hZ hS hA hKN hP hD 7 (MI.recv hMI) rfl) rfl rfl hl.1 rfl (lv_room (Nat.le_of_ble_eq_true rfl)) dL_law_618 ⟨lw_rc (by omega), lw_rs (by omega)⟩) hP hD hS hA (fun r14 W2 H locs q2 hP hD hS => ?_)
    refine lv_pop hx hb dL_law_621 rfl ?_
    refine lv_goto (tgt := 1548) hx hb dL_law_622 (by decide) ?_
    refine W.widen (k := cells + 8) (n := slots + 773) (by omega) (by omega) ?_
    exact kk t W1 W2 H locs q1 q2 hP hD hS
