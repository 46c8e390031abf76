set_option maxHeartbeats 4000000 in
set_option maxRecDepth 100000 in
theorem law_39 {p : Program} {l : Launch} {e : Env} {s : State} {m : MethodId} {below : List Frame} {meth : Method} {c : Code} {b L : Nat} {xs : Nat → Int32} {dC : Nat → ClassId} {dI : Nat → Nat → Nat} {cyB cyI cyJ cyZ cyO : ClassId} {adK adV : Nat → Nat} (C0 : lw_At p s m meth c b L xs) (hL : L ≤ 3072) (hKN : KN (dC, dI) (kT cyB cyI cyJ cyZ cyO) s) (hZ : ZS adK adV (fun q : Nat => s.heap.size ≤ q) s s.heap) {oX oM : Nat} {i t : Int32} {WX WM : va_W} {cells slots : Nat} (hXI : XI cyB cyI cyJ cyZ cyO oX t WX) (hMI : MI cyB cyI cyJ cyZ cyO oM t WM) (hi0 : 0 ≤ i.toInt) (hi6 : i.toInt + 6 ≤ L) (hc : cells + 8 ≤ 600000) (hs : slots + 773 ≤ 7302250) {H : Heap} {locs : List Loc} (hP : va_P (dC, dI) vwCl (WX ++ WM) H) (hD : va_D (fun q : Nat => s.heap.size ≤ q) (WX ++ WM)) (hS : va_S (fun q : Nat => s.heap.size ≤ q) s.heap H locs) {ls : Array Slot} (hl : lv_has ls 4 [(3, .int i), (2, .ref oM), (1, .ref oX), (0, .ref b)]) (kk : ∀ (t : Int32) (WX WM : va_W) (H : Heap) (locs : List Loc), XI cyB cyI cyJ cyZ cyO oX t WX → MI cyB cyI cyJ cyZ cyO oM t WM → va_P (dC, dI) vwCl (WX ++ WM) H → va_D (fun q : Nat => s.heap.size ≤ q) (WX ++ WM) → va_S (fun q : Nat => s.heap.size ≤ q) s.heap H locs → W p l e room_1 s m #[Value.ref b] below meth c H locs (cells + 8) (slots + 773) (lw_Z below #[Value.ref b] s) (F0 m 1548 ls [])) : W p l e room_1 s m #[Value.ref b] below meth c H locs cells slots (lw_Z below #[Value.ref b] s) (F0 m 1203 ls []) := by
  obtain ⟨hx, hb, hr, hml, hown, hts, hX, hbl, hlocks, hgv⟩ := id C0
  have hA : ∀ q : Nat, s.heap.size ≤ q → (fun q : Nat => s.heap.size ≤ q) q := fun _ h => h
  have hbA : ¬ (fun q : Nat => s.heap.size ≤ q) b := Nat.not_le.mpr hbl
  have hfix : CallFix p m c code 4 s #[Value.ref b] lw_tbl R_law := ⟨hx, hb, hml, hown, hts⟩
  refine lv_aload_n hx hb dL_law_1203 rfl (lv_at hl 2 rfl) ?_
  refine lw_i (va_runV (As := []) (rest := []) hfix (cx_idle l dC dI cyB cyI cyJ cyZ cyO adK adV oX t WX hXI _) (cwV 0 hts (gi_V tw_236 tw_237 tw_238 tw_3 tb_k_X_idle gd_k_X_idle) rfl rfl rfl (by decide +kernel) ⟨Nat.le_of_ble_eq_true rfl, Nat.le_of_ble_eq_true rfl⟩) (g_preW hZ hS hA hKN hP hD 6 (XI.recv hXI) rfl) rfl rfl hl.1 rfl (lv_room (Nat.le_of_ble_eq_true rfl)) dL_law_1204 ⟨lw_rc (by omega), lw_rs (by omega)⟩) hP hD hS hA (fun r1 W1 H locs q1 hP hD hS => ?_)
  refine lv_pop hx hb dL_law_1207 rfl ?_
  refine lv_aload_n hx hb dL_law_1208 rfl (lv_at hl 1 rfl) ?_
  refine lw_i (va_runV (As := []) (rest := []) hfix (cm_idle l dC dI cyB cyI cyJ cyZ cyO adK adV oM t WM hMI _) (cwV 0 hts (gi_V tw_239 tw_240 tw_241 tw_7 tb_k_M_idle gd_k_M_idle) rfl rfl rfl (by decide +kernel) ⟨Nat.le_of_ble_eq_true rfl, Nat.le_of_ble_eq_true rfl⟩) (g_preW hZ hS hA hKN hP hD 7 (MI.recv hMI) rfl) rfl rfl hl.1 rfl (lv_room (Nat.le_of_ble_eq_true rfl)) dL_law_1209 ⟨lw_rc (by omega), lw_rs (by omega)⟩) hP hD hS hA (fun r2 W2 H locs q2 hP hD hS => ?_)
  refine lv_pop hx hb dL_law_1212 rfl ?_
  refine lv_goto (tgt := 1548) hx hb dL_law_1213 (by decide) ?_
  refine W.widen (k := cells + 8) (n := slots + 773) (by omega) (by omega) ?_
  exact kk t W1 W2 H locs q1 q2 hP hD hS
set_option maxHeartbeats 4000000 in
set_option maxRecDepth 100000 in
theorem law_40 {p : Program} {l : Launch} {e : Env} {s : State} {m : MethodId} {below : List Frame} {meth : Method} {c : Code} {b L : Nat} {xs : Nat → Int32} {dC : Nat → ClassId} {dI : Nat → Nat → Nat} {cyB cyI cyJ cyZ cyO : ClassId} {adK adV : Nat → Nat} (C0 : lw_At p s m meth c b L xs) (hL : L ≤ 3072) (hKN : KN (dC, dI) (kT cyB cyI cyJ cyZ cyO) s) (hZ : ZS adK adV (fun q : Nat => s.heap.size ≤ q) s s.heap) {oX oM : Nat} {i t : Int32} {WX WM : va_W} {cells slots : Nat} (hXI : XI cyB cyI cyJ cyZ cyO oX t WX) (hMI : MI cyB cyI cyJ cyZ cyO oM t WM) (hi0 : 0 ≤ i.toInt) (hi6 : i.toInt + 6 ≤ L) (hc : cells + 8 ≤ 600000) (hs : slots + 773 ≤ 7302250) {H : Heap} {locs : List Loc} (hP : va_P (dC, dI) vwCl (WX ++ WM) H) (hD : va_D (fun q : Nat => s.heap.size ≤ q) (WX ++ WM)) (hS : va_S (fun q : Nat => s.heap.size ≤ q) s.heap H locs) {ls : Array Slot} (hl : lv_has ls 4 [(3, .int i), (2, .ref oM), (1, .ref oX), (0, .ref b)]) (kk : ∀ (t : Int32) (WX WM : va_W) (H : Heap) (locs : List Loc), XI cyB cyI cyJ cyZ cyO oX t WX → MI cyB cyI cyJ cyZ cyO oM t WM → va_P (dC, dI) vwCl (WX ++ WM) H → va_D (fun q : Nat => s.heap.size ≤ q) (WX ++ WM) → va_S (fun q : Nat => s.heap.size ≤ q) s.heap H locs → W p l e room_1 s m #[Value.ref b] below meth c H locs (cells + 8) (slots + 773) (lw_Z below #[Value.ref b] s) (F0 m 1548 ls [])) : W p l e room_1 s m #[Value.ref b] below meth c H locs cells slots (lw_Z below #[Value.ref b] s) (F0 m 1216 ls []) := by
  obtain ⟨hx, hb, hr, hml, hown, hts, hX, hbl, hlocks, hgv⟩ := id C0
  have hA : ∀ q : Nat, s.heap.size ≤ q → (fun q : Nat => s.heap.size ≤ q) q := fun _ h => h
  have hbA : ¬ (fun q : Nat => s.heap.size ≤ q) b := Nat.not_le.mpr hbl
  have hfix : CallFix p m c code 4 s #[Value.ref b] lw_tbl R_law := ⟨hx, hb, hml, hown, hts⟩
  refine lv_aload_n hx hb dL_law_1216 rfl (lv_at hl 2 rfl) ?_
  refine lv_aload_n hx hb dL_law_1217 rfl (lv_at hl 3 rfl) ?_
  refine lv_iload_n hx hb dL_law_1218 rfl (lv_at hl 0 rfl) ?_
  refine lv_iconst (v := 1) hx hb dL_law_1219 (by decide) ?_
  refine lv_iadd hx hb dL_law_1220 ?_
  refine lv_topi (fun z1 ez1 => ?_)
  have tz1 : z1.toInt = i.toInt + 1 := ti_add ez1 rfl (by decide) (by omega) (by omega)
  refine va_sld hx hb hX hbl hbA hS (vp_i rfl (by omega) (by omega)) dL_law_1221 ?_
  refine lv_topi (fun v2 ev2 => ?_)
  clear ev2
  refine lw_i (va_runV (As := [.int v2]) (rest := []) hfix (cx_law l dC dI cyB cyI cyJ cyZ cyO adK adV oX t WX hXI v2 _) (cwV 1 hts (gi_V tw_242 tw_243 tw_244 tw_3 tb_k_X_law gd_k_X_law) rfl rfl rfl (by decide +kernel) ⟨Nat.le_of_ble_eq_true rfl, Nat.le_of_ble_eq_true rfl⟩) (g_preW hZ hS hA hKN hP hD 6 (XI.recv hXI) rfl) rfl rfl hl.1 rfl (lv_room (Nat.le_of_ble_eq_true rfl)) dL_law_1222 ⟨lw_rc (by omega), lw_rs (by omega)⟩) hP hD hS hA (fun r3 W1 H locs q1 hP hD hS => ?_)
  refine lv_pop hx hb dL_law_1225 rfl ?_
  refine lv_aload_n hx hb dL_law_1226 rfl (lv_at hl 1 rfl) ?_
  refine lv_aload_n hx hb dL_law_1227 rfl (lv_at hl 3 rfl) ?_
  refine lv_iload_n hx hb dL_law_1228 rfl (lv_at hl 0 rfl) ?_
  refine lv_iconst (v := 1) hx hb dL_law_1229 (by decide) ?_
  refine lv_iadd hx hb dL_law_1230 ?_
  refine lv_topi (fun z4 ez4 => ?_)
  have tz4 : z4.toInt = i.toInt + 1 := ti_add ez4 rfl (by decide) (by omega) (by omega)
  refine va_sld hx hb hX hbl hbA hS (vp_i rfl (by omega) (by omega)) dL_law_1231 ?_
  refine lv_topi (fun v5 ev5 => ?_)
  clear ev5
  refine lw_i (va_runV (As := [.int v5]) (rest := []) hfix (cm_law l dC dI cyB cyI cyJ cyZ cyO adK adV oM t WM hMI v5 _) (cwV 1 hts (gi_V tw_245 tw_246 tw_247 tw_7 tb_k_M_law gd_k_M_law) rfl rfl rfl (by decide +kernel) ⟨Nat.le_of_ble_eq_true rfl, Nat.le_of_ble_eq_true rfl⟩) (g_preW hZ hS hA hKN hP hD 7 (MI.recv hMI) rfl) rfl rfl hl.1 rfl (lv_room (Nat.le_of_ble_eq_true rfl)) dL_law_1232 ⟨lw_rc (by omega), lw_rs (by omega)⟩) hP hD hS hA (fun r6 W2 H locs q2 hP hD hS => ?_)
  refine lv_pop hx hb dL_law_1235 rfl ?_
  refine lv_goto (tgt := 1548) hx hb dL_law_1236 (by decide) ?_
  refine W.widen (k := cells + 8) (n := slots + 773) (by omega) (by omega) ?_
  exact kk t W1 W2 H locs q1 q2 hP hD hS
set_option maxHeartbeats 4000000 in
set_option maxRecDepth 100000 in
theorem law_41 {p : Program} {l : Launch} {e : Env} {s : State} {m : MethodId} {below : List Frame} {meth : Method} {c : Code} {b L : Nat} {xs : Nat → Int32} {dC : Nat → ClassId} {dI : Nat → Nat → Nat} {cyB cyI cyJ cyZ cyO : ClassId} {adK adV : Nat → Nat} (C0 : lw_At p s m meth c b L xs) (hL : L ≤ 3072) (hKN : KN (dC, dI) (kT cyB cyI cyJ cyZ cyO) s) (hZ : ZS adK adV (fun q : Nat => s.heap.size ≤ q) s s.heap) {oX oM : Nat} {i t : Int32} {WX WM : va_W} {cells slots : Nat} (hXI : XI cyB cyI cyJ cyZ cyO oX t WX) (hMI : MI cyB cyI cyJ cyZ cyO oM t WM) (hi0 : 0 ≤ i.toInt) (hi6 : i.toInt + 6 ≤ L) (hc : cells + 8 ≤ 600000) (hs : slots + 773 ≤ 7302250) {H : Heap} {locs : List Loc} (hP : va_P (dC, dI) vwCl (WX ++ WM) H) (hD : va_D (fun q : Nat => s.heap.size ≤ q) (WX ++ WM)) (hS : va_S (fun q : Nat => s.heap.size ≤ q) s.heap H locs) {ls : Array Slot} (hl : lv_has ls 4 [(3, .int i), (2, .ref oM), (1, .ref oX), (0, .ref b)]) (kk : ∀ (t : Int32) (WX WM : va_W) (H : Heap) (locs : List Loc), XI cyB cyI cyJ cyZ cyO oX t WX → MI cyB cyI cyJ cyZ cyO oM t WM → va_P (dC, dI) vwCl (WX ++ WM) H → va_D (fun q : Nat => s.heap.size ≤ q) (WX ++ WM) → va_S (fun q : Nat => s.heap.size ≤ q) s.heap H locs → W p l e room_1 s m #[Value.ref b] below meth c H locs (cells + 8) (slots + 773) (lw_Z below #[Value.ref b] s) (F0 m 1548 ls [])) : W p l e room_1 s m #[Value.ref b] below meth c H locs cells slots (lw_Z below #[Value.ref b] s) (F0 m 1239 ls []) := by
  obtain ⟨hx, hb, hr, hml, hown, hts, hX, hbl, hlocks, hgv⟩ := id C0
  have hA : ∀ q : Nat, s.heap.size ≤ q → (fun q : Nat => s.heap.size ≤ q) q := fun _ h => h
  have hbA : ¬ (fun q : Nat => s.heap.size ≤ q) b := Nat.not_le.mpr hbl
  have hfix : CallFix p m c code 4 s #[Value.ref b] lw_tbl R_law := ⟨hx, hb, hml, hown, hts⟩
  refine lv_aload_n hx hb dL_law_1239 rfl (lv_at hl 2 rfl) ?_
  refine lv_aload_n hx hb dL_law_1240 rfl (lv_at hl 3 rfl) ?_
  refine lv_iload_n hx hb dL_law_1241 rfl (lv_at hl 0 rfl) ?_
  refine lv_iconst (v := 1) hx hb dL_law_1242 (by decide) ?_
  refine lv_iadd hx hb dL_law_1243 ?_
  refine lv_topi (fun z1 ez1 => ?_)
  have tz1 : z1.toInt = i.toInt + 1 := ti_add ez1 rfl (by decide) (by omega) (by omega)
  refine va_sld hx hb hX hbl hbA hS (vp_i rfl (by omega) (by omega)) dL_law_1244 ?_
  refine lv_topi (fun v2 ev2 => ?_)
  clear ev2
  refine lv_aload_n hx hb dL_law_1245 rfl (lv_at hl 3 rfl) ?_
  refine lv_iload_n hx hb dL_law_1246 rfl (lv_at hl 0 rfl) ?_
  refine lv_iconst (v := 2) hx hb dL_law_1247 (by decide) ?_
  refine lv_iadd hx hb dL_law_1248 ?_
  refine lv_topi (fun z3 ez3 => ?_)
  have tz3 : z3.toInt = i.toInt + 2 := ti_add ez3 rfl (by decide) (by omega) (by omega)
  refine va_sld hx hb hX hbl hbA hS (vp_i rfl (by omega) (by omega)) dL_law_1249 ?_
  refine lv_topi (fun v4 ev4 => ?_)
  clear ev4
  refine lw_i (va_runV (As := [.int v2, .int v4]) (rest := []) hfix (cx_odds l dC dI cyB cyI cyJ cyZ cyO adK adV oX t WX hXI v2 v4 _) (cwV 2 hts (gi_V tw_248 tw_249 tw_250 tw_3 tb_k_X_odds gd_k_X_odds) rfl rfl rfl (by decide +kernel) ⟨Nat.le_of_ble_eq_true rfl, Nat.le_of_ble_eq_true rfl⟩) (g_preW hZ hS hA hKN hP hD 6 (XI.recv hXI) rfl) rfl rfl hl.1 rfl (lv_room (Nat.le_of_ble_eq_true rfl)) dL_law_1250 ⟨lw_rc (by omega), lw_rs (by omega)⟩) hP hD hS hA (fun r5 W1 H locs q1 hP hD hS => ?_)
  refine lv_pop hx hb dL_law_1253 rfl ?_
  refine lv_aload_n hx hb dL_law_1254 rfl (lv_at hl 1 rfl) ?_
  refine lv_aload_n hx hb dL_law_1255 rfl (lv_at hl 3 rfl) ?_
  refine lv_iload_n hx hb dL_law_1256 rfl (lv_at hl 0 rfl) ?_
  refine lv_iconst (v := 1) hx hb dL_law_1257 (by decide) ?_
  refine lv_iadd hx hb dL_law_1258 ?_
  refine lv_topi (fun z6 ez6 => ?_)
  have tz6 : z6.toInt = i.toInt + 1 := ti_add ez6 rfl (by decide) (by omega) (by omega)
  refine va_sld hx hb hX hbl hbA hS (vp_i rfl (by omega) (by omega)) dL_law_1259 ?_
  refine lv_topi (fun v7 ev7 => ?_)
  clear ev7
  refine lv_aload_n hx hb dL_law_1260 rfl (lv_at hl 3 rfl) ?_
  refine lv_iload_n hx hb dL_law_1261 rfl (lv_at hl 0 rfl) ?_
  refine lv_iconst (v := 2) hx hb dL_law_1262 (by decide) ?_
  refine lv_iadd hx hb dL_law_1263 ?_
  refine lv_topi (fun z8 ez8 => ?_)
  have tz8 : z8.toInt = i.toInt + 2 := ti_add ez8 rfl (by decide) (by omega) (by omega)
  refine va_sld hx hb hX hbl hbA hS (vp_i rfl (by omega) (by omega)) dL_law_1264 ?_
  refine lv_topi (fun v9 ev9 => ?_)
  clear ev9
  refine lw_i (va_runV (As := [.int v7, .int v9]) (rest := []) hfix (cm_odds l dC dI cyB cyI cyJ cyZ cyO adK adV oM t WM hMI v7 v9 _) (cwV 2 hts (gi_V tw_251 tw_252 tw_253 tw_7 tb_k_M_odds gd_k_M_odds) rfl rfl rfl (by decide +kernel) ⟨Nat.le_of_ble_eq_true rfl, Nat.le_of_ble_eq_true rfl⟩) (g_preW hZ hS hA hKN hP hD 7 (MI.recv hMI) rfl) rfl rfl hl.1 rfl (lv_room (Nat.le_of_ble_eq_true rfl)) dL_law_1265 ⟨lw_rc (by omega), lw_rs (by omega)⟩) hP hD hS hA (fun r10 W2 H locs q2 hP hD hS => ?_)
  refine lv_pop hx hb dL_law_1268 rfl ?_
  refine lv_goto (tgt := 1548) hx hb dL_law_1269 (by decide) ?_
  refine W.widen (k := cells + 8) (n := slots + 773) (by omega) (by omega) ?_
  exact kk t W1 W2 H locs q1 q2 hP hD hS
set_option maxHeartbeats 4000000 in
set_option maxRecDepth 100000 in
theorem law_42 {p : Program} {l : Launch} {e : Env} {s : State} {m : MethodId} {below : List Frame} {meth : Method} {c : Code} {b L : Nat} {xs : Nat → Int32} {dC : Nat → ClassId} {dI : Nat → Nat → Nat} {cyB cyI cyJ cyZ cyO : ClassId} {adK adV : Nat → Nat} (C0 : lw_At p s m meth c b L xs) (hL : L ≤ 3072) (hKN : KN (dC, dI) (kT cyB cyI cyJ cyZ cyO) s) (hZ : ZS adK adV (fun q : Nat => s.heap.size ≤ q) s s.heap) {oX oM : Nat} {i t : Int32} {WX WM : va_W} {cells slots : Nat} (hXI : XI cyB cyI cyJ cyZ cyO oX t WX) (hMI : MI cyB cyI cyJ cyZ cyO oM t WM) (hi0 : 0 ≤ i.toInt) (hi6 : i.toInt + 6 ≤ L) (hc : cells + 8 ≤ 600000) (hs : slots + 773 ≤ 7302250) {H : Heap} {locs : List Loc} (hP : va_P (dC, dI) vwCl (WX ++ WM) H) (hD : va_D (fun q : Nat => s.heap.size ≤ q) (WX ++ WM)) (hS : va_S (fun q : Nat => s.heap.size ≤ q) s.heap H locs) {ls : Array Slot} (hl : lv_has ls 4 [(3, .int i), (2, .ref oM), (1, .ref oX), (0, .ref b)]) (kk : ∀ (t : Int32) (WX WM : va_W) (H : Heap) (locs : List Loc), XI cyB cyI cyJ cyZ cyO oX t WX → MI cyB cyI cyJ cyZ cyO oM t WM → va_P (dC, dI) vwCl (WX ++ WM) H → va_D (fun q : Nat => s.heap.size ≤ q) (WX ++ WM) → va_S (fun q : Nat => s.heap.size ≤ q) s.heap H locs → W p l e room_1 s m #[Value.ref b] below meth c H locs (cells + 8) (slots + 773) (lw_Z below #[Value.ref b] s) (F0 m 1548 ls [])) : W p l e room_1 s m #[Value.ref b] below meth c H locs cells slots (lw_Z below #[Value.ref b] s) (F0 m 1272 ls []) := by
  obtain ⟨hx, hb, hr, hml, hown, hts, hX, hbl, hlocks, hgv⟩ := id C0
  have hA : ∀ q : Nat, s.heap.size ≤ q → (fun q : Nat => s.heap.size ≤ q) q := fun _ h => h
  have hbA : ¬ (fun q : Nat => s.heap.size ≤ q) b := Nat.not_le.mpr hbl
  have hfix : CallFix p m c code 4 s #[Value.ref b] lw_tbl R_law := ⟨hx, hb, hml, hown, hts⟩
  refine lv_aload_n hx hb dL_law_1272 rfl (lv_at hl 2 rfl) ?_
  refine lv_aload_n hx hb dL_law_1273 rfl (lv_at hl 3 rfl) ?_
  refine lv_iload_n hx hb dL_law_1274 rfl (lv_at hl 0 rfl) ?_
  refine lv_iconst (v := 1) hx hb dL_law_1275 (by decide) ?_
  refine lv_iadd hx hb dL_law_1276 ?_
  refine lv_topi (fun z1 ez1 => ?_)
  have tz1 : z1.toInt = i.toInt + 1 := ti_add ez1 rfl (by decide) (by omega) (by omega)
  refine va_sld hx hb hX hbl hbA hS (vp_i rfl (by omega) (by omega)) dL_law_1277 ?_
  refine lv_topi (fun v2 ev2 => ?_)
  clear ev2
  refine lw_i (va_runV (As := [.int v2]) (rest := []) hfix (cx_lies l dC dI cyB cyI cyJ cyZ cyO adK adV oX t WX hXI v2 _) (cwV 1 hts (gi_V tw_254 tw_255 tw_256 tw_3 tb_k_X_lies gd_k_X_lies) rfl rfl rfl (by decide +kernel) ⟨Nat.le_of_ble_eq_true rfl, Nat.le_of_ble_eq_true rfl⟩) (g_preW hZ hS hA hKN hP hD 6 (XI.recv hXI) rfl) rfl rfl hl.1 rfl (lv_room (Nat.le_of_ble_eq_true rfl)) dL_law_1278 ⟨lw_rc (by omega), lw_rs (by omega)⟩) hP hD hS hA (fun r3 W1 H locs q1 hP hD hS => ?_)
  refine lv_pop hx hb dL_law_1281 rfl ?_
  refine lv_aload_n hx hb dL_law_1282 rfl (lv_at hl 1 rfl) ?_
  refine lv_aload_n hx hb dL_law_1283 rfl (lv_at hl 3 rfl) ?_
  refine lv_iload_n hx hb dL_law_1284 rfl (lv_at hl 0 rfl) ?_
  refine lv_iconst (v := 1) hx hb dL_law_1285 (by decide) ?_
  refine lv_iadd hx hb dL_law_1286 ?_
  refine lv_topi (fun z4 ez4 => ?_)
  have tz4 : z4.toInt = i.toInt + 1 := ti_add ez4 rfl (by decide) (by omega) (by omega)
  refine va_sld hx hb hX hbl hbA hS (vp_i rfl (by omega) (by omega)) dL_law_1287 ?_
  refine lv_topi (fun v5 ev5 => ?_)
  clear ev5
  refine lw_i (va_runV (As := [.int v5]) (rest := []) hfix (cm_lies l dC dI cyB cyI cyJ cyZ cyO adK adV oM t WM hMI v5 _) (cwV 1 hts (gi_V tw_257 tw_258 tw_259 tw_7 tb_k_M_lies gd_k_M_lies) rfl rfl rfl (by decide +kernel) ⟨Nat.le_of_ble_eq_true rfl, Nat.le_of_ble_eq_true rfl⟩) (g_preW hZ hS hA hKN hP hD 7 (MI.recv hMI) rfl) rfl rfl hl.1 rfl (lv_room (Nat.le_of_ble_eq_true rfl)) dL_law_1288 ⟨lw_rc (by omega), lw_rs (by omega)⟩) hP hD hS hA (fun r6 W2 H locs q2 hP hD hS => ?_)
  refine lv_pop hx hb dL_law_1291 rfl ?_
  refine lv_goto (tgt := 1548) hx hb dL_law_1292 (by decide) ?_
  refine W.widen (k := cells + 8) (n := slots + 773) (by omega) (by omega) ?_
  exact kk t W1 W2 H locs q1 q2 hP hD hS
set_option maxHeartbeats 4000000 in
set_option maxRecDepth 100000 in
theorem law_43 {p : Program} {l : Launch} {e : Env} {s : State} {m : MethodId} {below : List Frame} {meth : Method} {c : Code} {b L : Nat} {xs : Nat → Int32} {dC : Nat → ClassId} {dI : Nat → Nat → Nat} {cyB cyI cyJ cyZ cyO : ClassId} {adK adV : Nat → Nat} (C0 : lw_At p s m meth c b L xs) (hL : L ≤ 3072) (hKN : KN (dC, dI) (kT cyB cyI cyJ cyZ cyO) s) (hZ : ZS adK adV (fun q : Nat => s.heap.size ≤ q) s s.heap) {oX oM : Nat} {i t : Int32} {WX WM : va_W} {cells slots : Nat} (hXI : XI cyB cyI cyJ cyZ cyO oX t WX) (hMI : MI cyB cyI cyJ cyZ cyO oM t WM) (hi0 : 0 ≤ i.toInt) (hi6 : i.toInt + 6 ≤ L) (hc : cells + 8 ≤ 600000) (hs : slots + 773 ≤ 7302250) {H : Heap} {locs : List Loc} (hP : va_P (dC, dI) vwCl (WX ++ WM) H) (hD : va_D (fun q : Nat => s.heap.size ≤ q) (WX ++ WM)) (hS : va_S (fun q : Nat => s.heap.size ≤ q) s.heap H locs) {ls : Array Slot} (hl : lv_has ls 4 [(3, .int i), (2, .ref oM), (1, .ref oX), (0, .ref b)]) (kk : ∀ (t : Int32) (WX WM : va_W) (H : Heap) (locs : List Loc), XI cyB cyI cyJ cyZ cyO oX t WX → MI cyB cyI cyJ cyZ cyO oM t WM → va_P (dC, dI) vwCl (WX ++ WM) H → va_D (fun q : Nat => s.heap.size ≤ q) (WX ++ WM) → va_S (fun q : Nat => s.heap.size ≤ q) s.heap H locs → W p l e room_1 s m #[Value.ref b] below meth c H locs (cells + 8) (slots + 773) (lw_Z below #[Value.ref b] s) (F0 m 1548 ls [])) : W p l e room_1 s m #[Value.ref b] below meth c H locs cells slots (lw_Z below #[Value.ref b] s) (F0 m 1295 ls []) := by
  obtain ⟨hx, hb, hr, hml, hown, hts, hX, hbl, hlocks, hgv⟩ := id C0
  have hA : ∀ q : Nat, s.heap.size ≤ q → (fun q : Nat => s.heap.size ≤ q) q := fun _ h => h
  have hbA : ¬ (fun q : Nat => s.heap.size ≤ q) b := Nat.not_le.mpr hbl
  have hfix : CallFix p m c code 4 s #[Value.ref b] lw_tbl R_law := ⟨hx, hb, hml, hown, hts⟩
  refine lv_aload_n hx hb dL_law_1295 rfl (lv_at hl 2 rfl) ?_
  refine lv_aload_n hx hb dL_law_1296 rfl (lv_at hl 3 rfl) ?_
  refine lv_iload_n hx hb dL_law_1297 rfl (lv_at hl 0 rfl) ?_
  refine lv_iconst (v := 1) hx hb dL_law_1298 (by decide) ?_
  refine lv_iadd hx hb dL_law_1299 ?_
  refine lv_topi (fun z1 ez1 => ?_)
  have tz1 : z1.toInt = i.toInt + 1 := ti_add ez1 rfl (by decide) (by omega) (by omega)
  refine va_sld hx hb hX hbl hbA hS (vp_i rfl (by omega) (by omega)) dL_law_1300 ?_
  refine lv_topi (fun v2 ev2 => ?_)
  clear ev2
  refine lv_aload_n hx hb dL_law_1301 rfl (lv_at hl 3 rfl) ?_
  refine lv_iload_n hx hb dL_law_1302 rfl (lv_at hl 0 rfl) ?_
  refine lv_iconst (v := 2) hx hb dL_law_1303 (by decide) ?_
  refine lv_iadd hx hb dL_law_1304 ?_
  refine lv_topi (fun z3 ez3 => ?_)
  have tz3 : z3.toInt = i.toInt + 2 := ti_add ez3 rfl (by decide) (by omega) (by omega)
  refine va_sld hx hb hX hbl hbA hS (vp_i rfl (by omega) (by omega)) dL_law_1305 ?_
  refine lv_topi (fun v4 ev4 => ?_)
  clear ev4
  refine lv_if_eq (tgt := 1313) hx hb dL_law_1306 (by decide) (fun c1306 => ?_) (fun c1306 => ?_)
  · skip
    refine lv_iconst (v := 0) hx hb dL_law_1313 (by decide) ?_
    refine lw_i (va_runV (As := [.int v2, .int 0]) (rest := []) hfix (cx_seen l dC dI cyB cyI cyJ cyZ cyO adK adV oX t WX hXI v2 0 _) (cwV 2 hts (gi_V tw_260 tw_261 tw_262 tw_3 tb_k_X_seen gd_k_X_seen) rfl rfl rfl (by decide +kernel) ⟨Nat.le_of_ble_eq_true rfl, Nat.le_of_ble_eq_true rfl⟩) (g_preW hZ hS hA hKN hP hD 6 (XI.recv hXI) rfl) rfl rfl hl.1 rfl (lv_room (Nat.le_of_ble_eq_true rfl)) dL_law_1314 ⟨lw_rc (by omega), lw_rs (by omega)⟩) hP hD hS hA (fun r5 W1 H locs q1 hP hD hS => ?_)
    refine lv_pop hx hb dL_law_1317 rfl ?_
    refine lv_aload_n hx hb dL_law_1318 rfl (lv_at hl 1 rfl) ?_
    refine lv_aload_n hx hb dL_law_1319 rfl (lv_at hl 3 rfl) ?_
    refine lv_iload_n hx hb dL_law_1320 rfl (lv_at hl 0 rfl) ?_
    refine lv_iconst (v := 1) hx hb dL_law_1321 (by decide) ?_
    refine lv_iadd hx hb dL_law_1322 ?_
    refine lv_topi (fun z6 ez6 => ?_)
    have tz6 : z6.toInt = i.toInt + 1 := ti_add ez6 rfl (by decide) (by omega) (by omega)
    refine va_sld hx hb hX hbl hbA hS (vp_i rfl (by omega) (by omega)) dL_law_1323 ?_
    refine lv_topi (fun v7 ev7 => ?_)
    clear ev7
    refine lv_aload_n hx hb dL_law_1324 rfl (lv_at hl 3 rfl) ?_
    refine lv_iload_n hx hb dL_law_1325 rfl (lv_at hl 0 rfl) ?_
    refine lv_iconst (v := 2) hx hb dL_law_1326 (by decide) ?_
    refine lv_iadd hx hb dL_law_1327 ?_
    refine lv_topi (fun z8 ez8 => ?_)
    have tz8 : z8.toInt = i.toInt + 2 := ti_add ez8 rfl (by decide) (by omega) (by omega)
    refine va_sld hx hb hX hbl hbA hS (vp_i rfl (by omega) (by omega)) dL_law_1328 ?_
    refine lv_topi (fun v9 ev9 => ?_)
    clear ev9
    refine lv_if_eq (tgt := 1336) hx hb dL_law_1329 (by decide) (fun c1329 => ?_) (fun c1329 => ?_)
    · skip
      refine lv_iconst (v := 0) hx hb dL_law_1336 (by decide) ?_
      refine lw_i (va_runV (As := [.int v7, .int 0]) (rest := []) hfix (cm_seen l dC dI cyB cyI cyJ cyZ cyO adK adV oM t WM hMI v7 0 _) (cwV 2 hts (gi_V tw_263 tw_264 tw_265 tw_7 tb_k_M_seen gd_k_M_seen) rfl rfl rfl (by decide +kernel) ⟨Nat.le_of_ble_eq_true rfl, Nat.le_of_ble_eq_true rfl⟩) (g_preW hZ hS hA hKN hP hD 7 (MI.recv hMI) rfl) rfl rfl hl.1 rfl (lv_room (Nat.le_of_ble_eq_true rfl)) dL_law_1337 ⟨lw_rc (by omega), lw_rs (by omega)⟩) hP hD hS hA (fun r10 W2 H locs q2 hP hD hS => ?_)
      refine lv_pop hx hb dL_law_1340 rfl ?_
      refine lv_goto (tgt := 1548) hx hb dL_law_1341 (by decide) ?_
      refine W.widen (k := cells + 8) (n := slots + 773) (by omega) (by omega) ?_
      exact kk t W1 W2 H locs q1 q2 hP hD hS
    · skip
      refine lv_iconst (v := 1) hx hb dL_law_1332 (by decide) ?_
      refine lv_goto (tgt := 1337) hx hb dL_law_1333 (by decide) ?_
      refine lw_i (va_runV (As := [.int v7, .int 1]) (rest := []) hfix (cm_seen l dC dI cyB cyI cyJ cyZ cyO adK adV oM t WM hMI v7 1 _) (cwV 2 hts (gi_V tw_263 tw_264 tw_265 tw_7 tb_k_M_seen gd_k_M_seen) rfl rfl rfl (by decide +kernel) ⟨Nat.le_of_ble_eq_true rfl, Nat.le_of_ble_eq_true rfl⟩) (g_preW hZ hS hA hKN hP hD 7 (MI.recv hMI) rfl) rfl rfl hl.1 rfl (lv_room (Nat.le_of_ble_eq_true rfl)) dL_law_1337 ⟨lw_rc (by omega), lw_rs (by omega)⟩) hP hD hS hA (fun r11 W2 H locs q2 hP hD hS => ?_)
      refine lv_pop hx hb dL_law_1340 rfl ?_
      refine lv_goto (tgt := 1548) hx hb dL_law_1341 (by decide) ?_
      refine W.widen (k := cells + 8) (n := slots + 773) (by omega) (by omega) ?_
      exact kk t W1 W2 H locs q1 q2 hP hD hS
  · skip
    refine lv_iconst (v := 1) hx hb dL_law_1309 (by decide) ?_
    refine lv_goto (tgt := 1314) hx hb dL_law_1310 (by decide) ?_
    refine lw_i (va_runV (As := [.int v2, .int 1]) (rest := []) hfix (cx_seen l dC dI cyB cyI cyJ cyZ cyO adK adV oX t WX hXI v2 1 _) (cwV 2 hts (gi_V tw_260 tw_261 tw_262 tw_3 tb_k_X_seen gd_k_X_seen) rfl rfl rfl (by decide +kernel) ⟨Nat.le_of_ble_eq_true rfl, Nat.le_of_ble_eq_true rfl⟩) (g_preW hZ hS hA hKN hP hD 6 (XI.recv hXI) rfl) rfl rfl hl.1 rfl (lv_room (Nat.le_of_ble_eq_true rfl)) dL_law_1314 ⟨lw_rc (by omega), lw_rs (by omega)⟩) hP hD hS hA (fun r12 W1 H locs q1 hP hD hS => ?_)
    refine lv_pop hx hb dL_law_1317 rfl ?_
    refine lv_aload_n hx hb dL_law_1318 rfl (lv_at hl 1 rfl) ?_
    refine lv_aload_n hx hb dL_law_1319 rfl (lv_at hl 3 rfl) ?_
    refine lv_iload_n hx hb dL_law_1320 rfl (lv_at hl 0 rfl) ?_
    refine lv_iconst (v := 1) hx hb dL_law_1321 (by decide) ?_
    refine lv_iadd hx hb dL_law_1322 ?_
    refine lv_topi (fun z13 ez13 => ?_)
    have tz13 : z13.toInt = i.toInt + 1 := ti_add ez13 rfl (by decide) (by omega) (by omega)
    refine va_sld hx hb hX hbl hbA hS (vp_i rfl (by omega) (by omega)) dL_law_1323 ?_
    refine lv_topi (fun v14 ev14 => ?_)
    clear ev14
    refine lv_aload_n hx hb dL_law_1324 rfl (lv_at hl 3 rfl) ?_
    refine lv_iload_n hx hb dL_law_1325 rfl (lv_at hl 0 rfl) ?_
    refine lv_iconst (v := 2) hx hb dL_law_1326 (by decide) ?_
    refine lv_iadd hx hb dL_law_1327 ?_
    refine lv_topi (fun z15 ez15 => ?_)
    have tz15 : z15.toInt = i.toInt + 2 := ti_add ez15 rfl (by decide) (by omega) (by omega)
    refine va_sld hx hb hX hbl hbA hS (vp_i rfl (by omega) (by omega)) dL_law_1328 ?_
    refine lv_topi (fun v16 ev16 => ?_)
    clear ev16
    refine lv_if_eq (tgt := 1336) hx hb dL_law_1329 (by decide) (fun c1329 => ?_) (fun c1329 => ?_)
    · skip
      refine lv_iconst (v := 0) hx hb dL_law_1336 (by decide) ?_
      refine lw_i (va_runV (As := [.int v14, .int 0]) (rest := []) hfix (cm_seen l dC dI cyB cyI cyJ cyZ cyO adK adV oM t WM hMI v14 0 _) (cwV 2 hts (gi_V tw_263 tw_264 tw_265 tw_7 tb_k_M_seen gd_k_M_seen) rfl rfl rfl (by decide +kernel) ⟨Nat.le_of_ble_eq_true rfl, Nat.le_of_ble_eq_true rfl⟩) (g_preW hZ hS hA hKN hP hD 7 (MI.recv hMI) rfl) rfl rfl hl.1 rfl (lv_room (Nat.le_of_ble_eq_true rfl)) dL_law_1337 ⟨lw_rc (by omega), lw_rs (by omega)⟩) hP hD hS hA (fun r17 W2 H locs q2 hP hD hS => ?_)
      refine lv_pop hx hb dL_law_1340 rfl ?_
      refine lv_goto (tgt := 1548) hx hb dL_law_1341 (by decide) ?_
      refine W.widen (k := cells + 8) (n := slots + 773) (by omega) (by omega) ?_
      exact kk t W1 W2 H locs q1 q2 hP hD hS
    · skip
      refine lv_iconst (v := 1) hx hb dL_law_1332 (by decide) ?_
      refine lv_goto (tgt := 1337) hx hb dL_law_1333 (by decide) ?_
      refine lw_i (va_runV (As := [.int v14, .int 1]) (rest := []) hfix (cm_seen l dC dI cyB cyI cyJ cyZ cyO adK adV oM t WM hMI v14 1 _) (cwV 2 hts (gi_V tw_263 tw_264 tw_265 tw_7 tb_k_M_seen gd_k_M_seen) rfl rfl rfl (by decide +kernel) ⟨Nat.le_of_ble_eq_true rfl, Nat.le_of_ble_eq_true rfl⟩) (g_preW hZ hS hA hKN hP hD 7 (MI.recv hMI) rfl) rfl rfl hl.1 rfl (lv_room (Nat.le_of_ble_eq_true rfl)) dL_law_1337 ⟨lw_rc (by omega), lw_rs (by omega)⟩) hP hD hS hA (fun r18 W2 H locs q2 hP hD hS => ?_)
      refine lv_pop hx hb dL_law_1340 rfl ?_
      refine lv_goto (tgt := 1548) hx hb dL_law_1341 (by decide) ?_
      refine W.widen (k := cells + 8) (n := slots + 773) (by omega) (by omega) ?_
      exact kk t W1 W2 H locs q1 q2 hP hD hS
set_option maxHeartbeats 4000000 in
set_option maxRecDepth 100000 in
theorem law_44 {p : Program} {l : Launch} {e : Env} {s : State} {m : MethodId} {below : List Frame} {meth : Method} {c : Code} {b L : Nat} {xs : Nat → Int32} {dC : Nat → ClassId} {dI : Nat → Nat → Nat} {cyB cyI cyJ cyZ cyO : ClassId} {adK adV : Nat → Nat} (C0 : lw_At p s m meth c b L xs) (hL : L ≤ 3072) (hKN : KN (dC, dI) (kT cyB cyI cyJ cyZ cyO) s) (hZ : ZS adK adV (fun q : Nat => s.heap.size ≤ q) s s.heap) {oX oM : Nat} {i t : Int32} {WX WM : va_W} {cells slots : Nat} (hXI : XI cyB cyI cyJ cyZ cyO oX t WX) (hMI : MI cyB cyI cyJ cyZ cyO oM t WM) (hi0 : 0 ≤ i.toInt) (hi6 : i.toInt + 6 ≤ L) (hc : cells + 8 ≤ 600000) (hs : slots + 773 ≤ 7302250) {H : Heap} {locs : List Loc} (hP : va_P (dC, dI) vwCl (WX ++ WM) H) (hD : va_D (fun q : Nat => s.heap.size ≤ q) (WX ++ WM)) (hS : va_S (fun q : Nat => s.heap.size ≤ q) s.heap H locs) {ls : Array Slot} (hl : lv_has ls 4 [(3, .int i), (2, .ref oM), (1, .ref oX), (0, .ref b)]) (kk : ∀ (t : Int32) (WX WM : va_W) (H : Heap) (locs : List Loc), XI cyB cyI cyJ cyZ cyO oX t WX → MI cyB cyI cyJ cyZ cyO oM t WM → va_P (dC, dI) vwCl (WX ++ WM) H → va_D (fun q : Nat => s.heap.size ≤ q) (WX ++ WM) → va_S (fun q : Nat => s.heap.size ≤ q) s.heap H locs → W p l e room_1 s m #[Value.ref b] below meth c H locs (cells + 8) (slots + 773) (lw_Z below #[Value.ref b] s) (F0 m 1548 ls [])) : W p l e room_1 s m #[Value.ref b] below meth c H locs cells slots (lw_Z below #[Value.ref b] s) (F0 m 1344 ls []) := by
  obtain ⟨hx, hb, hr, hml, hown, hts, hX, hbl, hlocks, hgv⟩ := id C0
  have hA : ∀ q : Nat, s.heap.size ≤ q → (fun q : Nat => s.heap.size ≤ q) q := fun _ h => h
  have hbA : ¬ (fun q : Nat => s.heap.size ≤ q) b := Nat.not_le.mpr hbl
  have hfix : CallFix p m c code 4 s #[Value.ref b] lw_tbl R_law := ⟨hx, hb, hml, hown, hts⟩
  refine lv_aload_n hx hb dL_law_1344 rfl (lv_at hl 2 rfl) ?_
  refine lv_aload_n hx hb dL_law_1345 rfl (lv_at hl 3 rfl) ?_
  refine lv_iload_n hx hb dL_law_1346 rfl (lv_at hl 0 rfl) ?_
  refine lv_iconst (v := 1) hx hb dL_law_1347 (by decide) ?_
  refine lv_iadd hx hb dL_law_1348 ?_
  refine lv_topi (fun z1 ez1 => ?_)
  have tz1 : z1.toInt = i.toInt + 1 := ti_add ez1 rfl (by decide) (by omega) (by omega)
  refine va_sld hx hb hX hbl hbA hS (vp_i rfl (by omega) (by omega)) dL_law_1349 ?_
  refine lv_topi (fun v2 ev2 => ?_)
  clear ev2
  refine lw_i (va_runV (As := [.int v2]) (rest := []) hfix (cx_untell l dC dI cyB cyI cyJ cyZ cyO adK adV oX t WX hXI v2 _) (cwV 1 hts (gi_V tw_266 tw_267 tw_268 tw_3 tb_k_X_untell gd_k_X_untell) rfl rfl rfl (by decide +kernel) ⟨Nat.le_of_ble_eq_true rfl, Nat.le_of_ble_eq_true rfl⟩) (g_preW hZ hS hA hKN hP hD 6 (XI.recv hXI) rfl) rfl rfl hl.1 rfl (lv_room (Nat.le_of_ble_eq_true rfl)) dL_law_1350 ⟨lw_rc (by omega), lw_rs (by omega)⟩) hP hD hS hA (fun r3 W1 H locs q1 hP hD hS => ?_)
  refine lv_pop hx hb dL_law_1353 rfl ?_
  refine lv_aload_n hx hb dL_law_1354 rfl (lv_at hl 1 rfl) ?_
  refine lv_aload_n hx hb dL_law_1355 rfl (lv_at hl 3 rfl) ?_
  refine lv_iload_n hx hb dL_law_1356 rfl (lv_at hl 0 rfl) ?_
  refine lv_iconst (v := 1) hx hb dL_law_1357 (by decide) ?_
  refine lv_iadd hx hb dL_law_1358 ?_
  refine lv_topi (fun z4 ez4 => ?_)
  have tz4 : z4.toInt = i.toInt + 1 := ti_add ez4 rfl (by decide) (by omega) (by omega)
  refine va_sld hx hb hX hbl hbA hS (vp_i rfl (by omega) (by omega)) dL_law_1359 ?_
  refine lv_topi (fun v5 ev5 => ?_)
  clear ev5
  refine lw_i (va_runV (As := [.int v5]) (rest := []) hfix (cm_untell l dC dI cyB cyI cyJ cyZ cyO adK adV oM t WM hMI v5 _) (cwV 1 hts (gi_V tw_269 tw_270 tw_271 tw_7 tb_k_M_untell gd_k_M_untell) rfl rfl rfl (by decide +kernel) ⟨Nat.le_of_ble_eq_true rfl, Nat.le_of_ble_eq_true rfl⟩) (g_preW hZ hS hA hKN hP hD 7 (MI.recv hMI) rfl) rfl rfl hl.1 rfl (lv_room (Nat.le_of_ble_eq_true rfl)) dL_law_1360 ⟨lw_rc (by omega), lw_rs (by omega)⟩) hP hD hS hA (fun r6 W2 H locs q2 hP hD hS => ?_)
  refine lv_pop hx hb dL_law_1363 rfl ?_
  refine lv_goto (tgt := 1548) hx hb dL_law_1364 (by decide) ?_
  refine W.widen (k := cells + 8) (n := slots + 773) (by omega) (by omega) ?_
  exact kk t W1 W2 H locs q1 q2 hP hD hS
set_option maxHeartbeats 4000000 in
set_option maxRecDepth 100000 in
theorem law_45 {p : Program} {l : Launch} {e : Env} {s : State} {m : MethodId} {below : List Frame} {meth : Method} {c : Code} {b L : Nat} {xs : Nat → Int32} {dC : Nat → ClassId} {dI : Nat → Nat → Nat} {cyB cyI cyJ cyZ cyO : ClassId} {adK adV : Nat → Nat} (C0 : lw_At p s m meth c b L xs) (hL : L ≤ 3072) (hKN : KN (dC, dI) (kT cyB cyI cyJ cyZ cyO) s) (hZ : ZS adK adV (fun q : Nat => s.heap.size ≤ q) s s.heap) {oX oM : Nat} {i t : Int32} {WX WM : va_W} {cells slots : Nat} (hXI : XI cyB cyI cyJ cyZ cyO oX t WX) (hMI : MI cyB cyI cyJ cyZ cyO oM t WM) (hi0 : 0 ≤ i.toInt) (hi6 : i.toInt + 6 ≤ L) (hc : cells + 8 ≤ 600000) (hs : slots + 773 ≤ 7302250) {H : Heap} {locs : List Loc} (hP : va_P (dC, dI) vwCl (WX ++ WM) H) (hD : va_D (fun q : Nat => s.heap.size ≤ q) (WX ++ WM)) (hS : va_S (fun q : Nat => s.heap.size ≤ q) s.heap H locs) {ls : Array Slot} (hl : lv_has ls 4 [(3, .int i), (2, .ref oM), (1, .ref oX), (0, .ref b)]) (kk : ∀ (t : Int32) (WX WM : va_W) (H : Heap) (locs : List Loc), XI cyB cyI cyJ cyZ cyO oX t WX → MI cyB cyI cyJ cyZ cyO oM t WM → va_P (dC, dI) vwCl (WX ++ WM) H → va_D (fun q : Nat => s.heap.size ≤ q) (WX ++ WM) → va_S (fun q : Nat => s.heap.size ≤ q) s.heap H locs → W p l e room_1 s m #[Value.ref b] below meth c H locs (cells + 8) (slots + 773) (lw_Z below #[Value.ref b] s) (F0 m 1548 ls [])) : W p l e room_1 s m #[Value.ref b] below meth c H locs cells slots (lw_Z below #[Value.ref b] s) (F0 m 1367 ls []) := by
  obtain ⟨hx, hb, hr, hml, hown, hts, hX, hbl, hlocks, hgv⟩ := id C0
  have hA : ∀ q : Nat, s.heap.size ≤ q → (fun q : Nat => s.heap.size ≤ q) q := fun _ h => h
  have hbA : ¬ (fun q : Nat => s.heap.size ≤ q) b := Nat.not_le.mpr hbl
  have hfix : CallFix p m c code 4 s #[Value.ref b] lw_tbl R_law := ⟨hx, hb, hml, hown, hts⟩
  refine lv_aload_n hx hb dL_law_1367 rfl (lv_at hl 2 rfl) ?_
  refine lv_aload_n hx hb dL_law_1368 rfl (lv_at hl 3 rfl) ?_
  refine lv_iload_n hx hb dL_law_1369 rfl (lv_at hl 0 rfl) ?_
  refine lv_iconst (v := 1) hx hb dL_law_1370 (by decide) ?_
  refine lv_iadd hx hb dL_law_1371 ?_
  refine lv_topi (fun z1 ez1 => ?_)
  have tz1 : z1.toInt = i.toInt + 1 := ti_add ez1 rfl (by decide) (by omega) (by omega)
  refine va_sld hx hb hX hbl hbA hS (vp_i rfl (by omega) (by omega)) dL_law_1372 ?_
  refine lv_topi (fun v2 ev2 => ?_)
  refine lw_i (va_runV (As := [.int v2]) (rest := []) hfix (cx_later l dC dI cyB cyI cyJ cyZ cyO adK adV oX t WX hXI v2 _) (cwV 1 hts (gi_V tw_272 tw_273 tw_274 tw_3 tb_k_X_later gd_k_X_later) rfl rfl rfl (by decide +kernel) ⟨Nat.le_of_ble_eq_true rfl, Nat.le_of_ble_eq_true rfl⟩) (g_preW hZ hS hA hKN hP hD 6 (XI.recv hXI) rfl) rfl rfl hl.1 rfl (lv_room (Nat.le_of_ble_eq_true rfl)) dL_law_1373 ⟨lw_rc (by omega), lw_rs (by omega)⟩) hP hD hS hA (fun r3 W1 H locs q1 hP hD hS => ?_)
  obtain ⟨t1, q1, p1⟩ := q1
  refine lv_aload_n hx hb dL_law_1376 rfl (lv_at hl 1 rfl) ?_
  refine lv_aload_n hx hb dL_law_1377 rfl (lv_at hl 3 rfl) ?_
  refine lv_iload_n hx hb dL_law_1378 rfl (lv_at hl 0 rfl) ?_
  refine lv_iconst (v := 1) hx hb dL_law_1379 (by decide) ?_
  refine lv_iadd hx hb dL_law_1380 ?_
  refine lv_topi (fun z4 ez4 => ?_)
  have tz4 : z4.toInt = i.toInt + 1 := ti_add ez4 rfl (by decide) (by omega) (by omega)
  refine va_sld hx hb hX hbl hbA hS (vp_i rfl (by omega) (by omega)) dL_law_1381 ?_
  refine lv_topi (fun v5 ev5 => ?_)
  refine lw_i (va_runV (As := [.int v5]) (rest := [.int r3]) hfix (cm_later l dC dI cyB cyI cyJ cyZ cyO adK adV oM t WM hMI v5 _) (cwV 1 hts (gi_V tw_275 tw_276 tw_277 tw_7 tb_k_M_later gd_k_M_later) rfl rfl rfl (by decide +kernel) ⟨Nat.le_of_ble_eq_true rfl, Nat.le_of_ble_eq_true rfl⟩) (g_preW hZ hS hA hKN hP hD 7 (MI.recv hMI) rfl) rfl rfl hl.1 rfl (lv_room (Nat.le_of_ble_eq_true rfl)) dL_law_1382 ⟨lw_rc (by omega), lw_rs (by omega)⟩) hP hD hS hA (fun r6 W2 H locs q2 hP hD hS => ?_)
  obtain ⟨t2, q2, p2⟩ := q2
  have hv : v2 = v5 := by rw [ev2, ev5, ez1, ez4]
  rw [hv] at p1
  have ht2 : t1 = t2 := Int32.toInt_inj.mp (by rcases p1 with h | h <;> rcases p2 with g | g <;> omega)
  have hr2 : r3 = r6 := Int32.toInt_inj.mp (by rcases p1 with h | h <;> rcases p2 with g | g <;> omega)
  subst ht2
  subst hr2
  refine lv_icmp_eq (tgt := 1548) hx hb dL_law_1385 (by decide) (fun _ => ?_) (fun h => absurd rfl h)
  refine W.widen (k := cells + 8) (n := slots + 773) (by omega) (by omega) ?_
  exact kk t1 W1 W2 H locs q1 q2 hP hD hS
set_option maxHeartbeats 4000000 in
set_option maxRecDepth 100000 in
theorem law_46 {p : Program} {l : Launch} {e : Env} {s : State} {m : MethodId} {below : List Frame} {meth : Method} {c : Code} {b L : Nat} {xs : Nat → Int32} {dC : Nat → ClassId} {dI : Nat → Nat → Nat} {cyB cyI cyJ cyZ cyO : ClassId} {adK adV : Nat → Nat} (C0 : lw_At p s m meth c b L xs) (hL : L ≤ 3072) (hKN : KN (dC, dI) (kT cyB cyI cyJ cyZ cyO) s) (hZ : ZS adK adV (fun q : Nat => s.heap.size ≤ q) s s.heap) {oX oM : Nat} {i t : Int32} {WX WM : va_W} {cells slots : Nat} (hXI : XI cyB cyI cyJ cyZ cyO oX t WX) (hMI : MI cyB cyI cyJ cyZ cyO oM t WM) (hi0 : 0 ≤ i.toInt) (hi6 : i.toInt + 6 ≤ L) (hc : cells + 8 ≤ 600000) (hs : slots + 773 ≤ 7302250) {H : Heap} {locs : List Loc} (hP : va_P (dC, dI) vwCl (WX ++ WM) H) (hD : va_D (fun q : Nat => s.heap.size ≤ q) (WX ++ WM)) (hS : va_S (fun q : Nat => s.heap.size ≤ q) s.heap H locs) {ls : Array Slot} (hl : lv_has ls 4 [(3, .int i), (2, .ref oM), (1, .ref oX), (0, .ref b)]) (kk : ∀ (t : Int32) (WX WM : va_W) (H : Heap) (locs : List Loc), XI cyB cyI cyJ cyZ cyO oX t WX → MI cyB cyI cyJ cyZ cyO oM t WM → va_P (dC, dI) vwCl (WX ++ WM) H → va_D (fun q : Nat => s.heap.size ≤ q) (WX ++ WM) → va_S (fun q : Nat => s.heap.size ≤ q) s.heap H locs → W p l e room_1 s m #[Value.ref b] below meth c H locs (cells + 8) (slots + 773) (lw_Z below #[Value.ref b] s) (F0 m 1548 ls [])) : W p l e room_1 s m #[Value.ref b] below meth c H locs cells slots (lw_Z below #[Value.ref b] s) (F0 m 1390 ls []) := by
  obtain ⟨hx, hb, hr, hml, hown, hts, hX, hbl, hlocks, hgv⟩ := id C0
  have hA : ∀ q : Nat, s.heap.size ≤ q → (fun q : Nat => s.heap.size ≤ q) q := fun _ h => h
  have hbA : ¬ (fun q : Nat => s.heap.size ≤ q) b := Nat.not_le.mpr hbl
  have hfix : CallFix p m c code 4 s #[Value.ref b] lw_tbl R_law := ⟨hx, hb, hml, hown, hts⟩
  refine lv_aload_n hx hb dL_law_1390 rfl (lv_at hl 2 rfl) ?_
  refine lv_aload_n hx hb dL_law_1391 rfl (lv_at hl 3 rfl) ?_
  refine lv_iload_n hx hb dL_law_1392 rfl (lv_at hl 0 rfl) ?_
  refine lv_iconst (v := 1) hx hb dL_law_1393 (by decide) ?_
  refine lv_iadd hx hb dL_law_1394 ?_
  refine lv_topi (fun z1 ez1 => ?_)
  have tz1 : z1.toInt = i.toInt + 1 := ti_add ez1 rfl (by decide) (by omega) (by omega)
  refine va_sld hx hb hX hbl hbA hS (vp_i rfl (by omega) (by omega)) dL_law_1395 ?_
  refine lv_topi (fun v2 ev2 => ?_)
  clear ev2
  refine lw_i (va_runV (As := [.int v2]) (rest := []) hfix (cx_fits l dC dI cyB cyI cyJ cyZ cyO adK adV oX t WX hXI v2 _) (cwV 1 hts (gi_V tw_278 tw_279 tw_280 tw_3 tb_k_X_fits gd_k_X_fits) rfl rfl rfl (by decide +kernel) ⟨Nat.le_of_ble_eq_true rfl, Nat.le_of_ble_eq_true rfl⟩) (g_preW hZ hS hA hKN hP hD 6 (XI.recv hXI) rfl) rfl rfl hl.1 rfl (lv_room (Nat.le_of_ble_eq_true rfl)) dL_law_1396 ⟨lw_rc (by omega), lw_rs (by omega)⟩) hP hD hS hA (fun r3 W1 H locs q1 hP hD hS => ?_)
  refine lv_pop hx hb dL_law_1399 rfl ?_
  refine lv_aload_n hx hb dL_law_1400 rfl (lv_at hl 1 rfl) ?_
  refine lv_aload_n hx hb dL_law_1401 rfl (lv_at hl 3 rfl) ?_
  refine lv_iload_n hx hb dL_law_1402 rfl (lv_at hl 0 rfl) ?_
  refine lv_iconst (v := 1) hx hb dL_law_1403 (by decide) ?_
  refine lv_iadd hx hb dL_law_1404 ?_
  refine lv_topi (fun z4 ez4 => ?_)
  have tz4 : z4.toInt = i.toInt + 1 := ti_add ez4 rfl (by decide) (by omega) (by omega)
  refine va_sld hx hb hX hbl hbA hS (vp_i rfl (by omega) (by omega)) dL_law_1405 ?_
  refine lv_topi (fun v5 ev5 => ?_)
  clear ev5
  refine lw_i (va_runV (As := [.int v5]) (rest := []) hfix (cm_fits l dC dI cyB cyI cyJ cyZ cyO adK adV oM t WM hMI v5 _) (cwV 1 hts (gi_V tw_281 tw_282 tw_283 tw_7 tb_k_M_fits gd_k_M_fits) rfl rfl rfl (by decide +kernel) ⟨Nat.le_of_ble_eq_true rfl, Nat.le_of_ble_eq_true rfl⟩) (g_preW hZ hS hA hKN hP hD 7 (MI.recv hMI) rfl) rfl rfl hl.1 rfl (lv_room (Nat.le_of_ble_eq_true rfl)) dL_law_1406 ⟨lw_rc (by omega), lw_rs (by omega)⟩) hP hD hS hA (fun r6 W2 H locs q2 hP hD hS => ?_)
  refine lv_pop hx hb dL_law_1409 rfl ?_
  refine lv_goto (tgt := 1548) hx hb dL_law_1410 (by decide) ?_
  refine W.widen (k := cells + 8) (n := slots + 773) (by omega) (by omega) ?_
  exact kk t W1 W2 H locs q1 q2 hP hD hS
set_option maxHeartbeats 4000000 in
set_option maxRecDepth 100000 in
theorem law_47 {p : Program} {l : Launch} {e : Env} {s : State} {m : MethodId} {below : List Frame} {meth : Method} {c : Code} {b L : Nat} {xs : Nat → Int32} {dC : Nat → ClassId} {dI : Nat → Nat → Nat} {cyB cyI cyJ cyZ cyO : ClassId} {adK adV : Nat → Nat} (C0 : lw_At p s m meth c b L xs) (hL : L ≤ 3072) (hKN : KN (dC, dI) (kT cyB cyI cyJ cyZ cyO) s) (hZ : ZS adK adV (fun q : Nat => s.heap.size ≤ q) s s.heap) {oX oM : Nat} {i t : Int32} {WX WM : va_W} {cells slots : Nat} (hXI : XI cyB cyI cyJ cyZ cyO oX t WX) (hMI : MI cyB cyI cyJ cyZ cyO oM t WM) (hi0 : 0 ≤ i.toInt) (hi6 : i.toInt + 6 ≤ L) (hc : cells + 8 ≤ 600000) (hs : slots + 773 ≤ 7302250) {H : Heap} {locs : List Loc} (hP : va_P (dC, dI) vwCl (WX ++ WM) H) (hD : va_D (fun q : Nat => s.heap.size ≤ q) (WX ++ WM)) (hS : va_S (fun q : Nat => s.heap.size ≤ q) s.heap H locs) {ls : Array Slot} (hl : lv_has ls 4 [(3, .int i), (2, .ref oM), (1, .ref oX), (0, .ref b)]) (kk : ∀ (t : Int32) (WX WM : va_W) (H : Heap) (locs : List Loc), XI cyB cyI cyJ cyZ cyO oX t WX → MI cyB cyI cyJ cyZ cyO oM t WM → va_P (dC, dI) vwCl (WX ++ WM) H → va_D (fun q : Nat => s.heap.size ≤ q) (WX ++ WM) → va_S (fun q : Nat => s.heap.size ≤ q) s.heap H locs → W p l e room_1 s m #[Value.ref b] below meth c H locs (cells + 8) (slots + 773) (lw_Z below #[Value.ref b] s) (F0 m 1548 ls [])) : W p l e room_1 s m #[Value.ref b] below meth c H locs cells slots (lw_Z below #[Value.ref b] s) (F0 m 1413 ls []) := by
  obtain ⟨hx, hb, hr, hml, hown, hts, hX, hbl, hlocks, hgv⟩ := id C0
  have hA : ∀ q : Nat, s.heap.size ≤ q → (fun q : Nat => s.heap.size ≤ q) q := fun _ h => h
  have hbA : ¬ (fun q : Nat => s.heap.size ≤ q) b := Nat.not_le.mpr hbl
  have hfix : CallFix p m c code 4 s #[Value.ref b] lw_tbl R_law := ⟨hx, hb, hml, hown, hts⟩
  refine lv_aload_n hx hb dL_law_1413 rfl (lv_at hl 2 rfl) ?_
  refine lv_aload_n hx hb dL_law_1414 rfl (lv_at hl 3 rfl) ?_
  refine lv_iload_n hx hb dL_law_1415 rfl (lv_at hl 0 rfl) ?_
  refine lv_iconst (v := 1) hx hb dL_law_1416 (by decide) ?_
  refine lv_iadd hx hb dL_law_1417 ?_
  refine lv_topi (fun z1 ez1 => ?_)
  have tz1 : z1.toInt = i.toInt + 1 := ti_add ez1 rfl (by decide) (by omega) (by omega)
  refine va_sld hx hb hX hbl hbA hS (vp_i rfl (by omega) (by omega)) dL_law_1418 ?_
  refine lv_topi (fun v2 ev2 => ?_)
  clear ev2
  refine lv_aload_n hx hb dL_law_1419 rfl (lv_at hl 3 rfl) ?_
  refine lv_iload_n hx hb dL_law_1420 rfl (lv_at hl 0 rfl) ?_
  refine lv_iconst (v := 2) hx hb dL_law_1421 (by decide) ?_
  refine lv_iadd hx hb dL_law_1422 ?_
  refine lv_topi (fun z3 ez3 => ?_)
  have tz3 : z3.toInt = i.toInt + 2 := ti_add ez3 rfl (by decide) (by omega) (by omega)
  refine va_sld hx hb hX hbl hbA hS (vp_i rfl (by omega) (by omega)) dL_law_1423 ?_
  refine lv_topi (fun v4 ev4 => ?_)
  clear ev4
  refine lw_i (va_runV (As := [.int v2, .int v4]) (rest := []) hfix (cx_culprit l dC dI cyB cyI cyJ cyZ cyO adK adV oX t WX hXI v2 v4 _) (cwV 2 hts (gi_V tw_284 tw_285 tw_286 tw_3 tb_k_X_culprit gd_k_X_culprit) rfl rfl rfl (by decide +kernel) ⟨Nat.le_of_ble_eq_true rfl, Nat.le_of_ble_eq_true rfl⟩) (g_preW hZ hS hA hKN hP hD 6 (XI.recv hXI) rfl) rfl rfl hl.1 rfl (lv_room (Nat.le_of_ble_eq_true rfl)) dL_law_1424 ⟨lw_rc (by omega), lw_rs (by omega)⟩) hP hD hS hA (fun r5 W1 H locs q1 hP hD hS => ?_)
  refine lv_pop hx hb dL_law_1427 rfl ?_
  refine lv_aload_n hx hb dL_law_1428 rfl (lv_at hl 1 rfl) ?_
  refine lv_aload_n hx hb dL_law_1429 rfl (lv_at hl 3 rfl) ?_
  refine lv_iload_n hx hb dL_law_1430 rfl (lv_at hl 0 rfl) ?_
  refine lv_iconst (v := 1) hx hb dL_law_1431 (by decide) ?_
  refine lv_iadd hx hb dL_law_1432 ?_
  refine lv_topi (fun z6 ez6 => ?_)
  have tz6 : z6.toInt = i.toInt + 1 := ti_add ez6 rfl (by decide) (by omega) (by omega)
  refine va_sld hx hb hX hbl hbA hS (vp_i rfl (by omega) (by omega)) dL_law_1433 ?_
  refine lv_topi (fun v7 ev7 => ?_)
  clear ev7
  refine lv_aload_n hx hb dL_law_1434 rfl (lv_at hl 3 rfl) ?_
  refine lv_iload_n hx hb dL_law_1435 rfl (lv_at hl 0 rfl) ?_
  refine lv_iconst (v := 2) hx hb dL_law_1436 (by decide) ?_
  refine lv_iadd hx hb dL_law_1437 ?_
  refine lv_topi (fun z8 ez8 => ?_)
  have tz8 : z8.toInt = i.toInt + 2 := ti_add ez8 rfl (by decide) (by omega) (by omega)
  refine va_sld hx hb hX hbl hbA hS (vp_i rfl (by omega) (by omega)) dL_law_1438 ?_
  refine lv_topi (fun v9 ev9 => ?_)
  clear ev9
  refine lw_i (va_runV (As := [.int v7, .int v9]) (rest := []) hfix (cm_culprit l dC dI cyB cyI cyJ cyZ cyO adK adV oM t WM hMI v7 v9 _) (cwV 2 hts (gi_V tw_287 tw_288 tw_289 tw_7 tb_k_M_culprit gd_k_M_culprit) rfl rfl rfl (by decide +kernel) ⟨Nat.le_of_ble_eq_true rfl, Nat.le_of_ble_eq_true rfl⟩) (g_preW hZ hS hA hKN hP hD 7 (MI.recv hMI) rfl) rfl rfl hl.1 rfl (lv_room (Nat.le_of_ble_eq_true rfl)) dL_law_1439 ⟨lw_rc (by omega), lw_rs (by omega)⟩) hP hD hS hA (fun r10 W2 H locs q2 hP hD hS => ?_)
  refine lv_pop hx hb dL_law_1442 rfl ?_
  refine lv_goto (tgt := 1548) hx hb dL_law_1443 (by decide) ?_
  refine W.widen (k := cells + 8) (n := slots + 773) (by omega) (by omega) ?_
  exact kk t W1 W2 H locs q1 q2 hP hD hS
set_option maxHeartbeats 4000000 in
set_option maxRecDepth 100000 in
theorem law_48 {p : Program} {l : Launch} {e : Env} {s : State} {m : MethodId} {below : List Frame} {meth : Method} {c : Code} {b L : Nat} {xs : Nat → Int32} {dC : Nat → ClassId} {dI : Nat → Nat → Nat} {cyB cyI cyJ cyZ cyO : ClassId} {adK adV : Nat → Nat} (C0 : lw_At p s m meth c b L xs) (hL : L ≤ 3072) (hKN : KN (dC, dI) (kT cyB cyI cyJ cyZ cyO) s) (hZ : ZS adK adV (fun q : Nat => s.heap.size ≤ q) s s.heap) {oX oM : Nat} {i t : Int32} {WX WM : va_W} {cells slots : Nat} (hXI : XI cyB cyI cyJ cyZ cyO oX t WX) (hMI : MI cyB cyI cyJ cyZ cyO oM t WM) (hi0 : 0 ≤ i.toInt) (hi6 : i.toInt + 6 ≤ L) (hc : cells + 8 ≤ 600000) (hs : slots + 773 ≤ 7302250) {H : Heap} {locs : List Loc} (hP : va_P (dC, dI) vwCl (WX ++ WM) H) (hD : va_D (fun q : Nat => s.heap.size ≤ q) (WX ++ WM)) (hS : va_S (fun q : Nat => s.heap.size ≤ q) s.heap H locs) {ls : Array Slot} (hl : lv_has ls 4 [(3, .int i), (2, .ref oM), (1, .ref oX), (0, .ref b)]) (kk : ∀ (t : Int32) (WX WM : va_W) (H : Heap) (locs : List Loc), XI cyB cyI cyJ cyZ cyO oX t WX → MI cyB cyI cyJ cyZ cyO oM t WM → va_P (dC, dI) vwCl (WX ++ WM) H → va_D (fun q : Nat => s.heap.size ≤ q) (WX ++ WM) → va_S (fun q : Nat => s.heap.size ≤ q) s.heap H locs → W p l e room_1 s m #[Value.ref b] below meth c H locs (cells + 8) (slots + 773) (lw_Z below #[Value.ref b] s) (F0 m 1548 ls [])) : W p l e room_1 s m #[Value.ref b] below meth c H locs cells slots (lw_Z below #[Value.ref b] s) (F0 m 1446 ls []) := by
  obtain ⟨hx, hb, hr, hml, hown, hts, hX, hbl, hlocks, hgv⟩ := id C0
  have hA : ∀ q : Nat, s.heap.size ≤ q → (fun q : Nat => s.heap.size ≤ q) q := fun _ h => h
  have hbA : ¬ (fun q : Nat => s.heap.size ≤ q) b := Nat.not_le.mpr hbl
  have hfix : CallFix p m c code 4 s #[Value.ref b] lw_tbl R_law := ⟨hx, hb, hml, hown, hts⟩
  refine lv_aload_n hx hb dL_law_1446 rfl (lv_at hl 2 rfl) ?_
  refine lv_aload_n hx hb dL_law_1447 rfl (lv_at hl 3 rfl) ?_
  refine lv_iload_n hx hb dL_law_1448 rfl (lv_at hl 0 rfl) ?_
  refine lv_iconst (v := 1) hx hb dL_law_1449 (by decide) ?_
  refine lv_iadd hx hb dL_law_1450 ?_
  refine lv_topi (fun z1 ez1 => ?_)
  have tz1 : z1.toInt = i.toInt + 1 := ti_add ez1 rfl (by decide) (by omega) (by omega)
  refine va_sld hx hb hX hbl hbA hS (vp_i rfl (by omega) (by omega)) dL_law_1451 ?_
  refine lv_topi (fun v2 ev2 => ?_)
  clear ev2
  refine lv_aload_n hx hb dL_law_1452 rfl (lv_at hl 3 rfl) ?_
  refine lv_iload_n hx hb dL_law_1453 rfl (lv_at hl 0 rfl) ?_
  refine lv_iconst (v := 2) hx hb dL_law_1454 (by decide) ?_
  refine lv_iadd hx hb dL_law_1455 ?_
  refine lv_topi (fun z3 ez3 => ?_)
  have tz3 : z3.toInt = i.toInt + 2 := ti_add ez3 rfl (by decide) (by omega) (by omega)
  refine va_sld hx hb hX hbl hbA hS (vp_i rfl (by omega) (by omega)) dL_law_1456 ?_
  refine lv_topi (fun v4 ev4 => ?_)
  clear ev4
  refine lw_i (va_runV (As := [.int v2, .int v4]) (rest := []) hfix (cx_ask l dC dI cyB cyI cyJ cyZ cyO adK adV oX t WX hXI v2 v4 _) (cwV 2 hts (gi_V tw_290 tw_291 tw_292 tw_3 tb_k_X_ask gd_k_X_ask) rfl rfl rfl (by decide +kernel) ⟨Nat.le_of_ble_eq_true rfl, Nat.le_of_ble_eq_true rfl⟩) (g_preW hZ hS hA hKN hP hD 6 (XI.recv hXI) rfl) rfl rfl hl.1 rfl (lv_room (Nat.le_of_ble_eq_true rfl)) dL_law_1457 ⟨lw_rc (by omega), lw_rs (by omega)⟩) hP hD hS hA (fun r5 W1 H locs q1 hP hD hS => ?_)
  refine lv_pop hx hb dL_law_1460 rfl ?_
  refine lv_aload_n hx hb dL_law_1461 rfl (lv_at hl 1 rfl) ?_
  refine lv_aload_n hx hb dL_law_1462 rfl (lv_at hl 3 rfl) ?_
  refine lv_iload_n hx hb dL_law_1463 rfl (lv_at hl 0 rfl) ?_
  refine lv_iconst (v := 1) hx hb dL_law_1464 (by decide) ?_
  refine lv_iadd hx hb dL_law_1465 ?_
  refine lv_topi (fun z6 ez6 => ?_)
  have tz6 : z6.toInt = i.toInt + 1 := ti_add ez6 rfl (by decide) (by omega) (by omega)
  refine va_sld hx hb hX hbl hbA hS (vp_i rfl (by omega) (by omega)) dL_law_1466 ?_
  refine lv_topi (fun v7 ev7 => ?_)
  clear ev7
  refine lv_aload_n hx hb dL_law_1467 rfl (lv_at hl 3 rfl) ?_
  refine lv_iload_n hx hb dL_law_1468 rfl (lv_at hl 0 rfl) ?_
  refine lv_iconst (v := 2) hx hb dL_law_1469 (by decide) ?_
  refine lv_iadd hx hb dL_law_1470 ?_
  refine lv_topi (fun z8 ez8 => ?_)
  have tz8 : z8.toInt = i.toInt + 2 := ti_add ez8 rfl (by decide) (by omega) (by omega)
  refine va_sld hx hb hX hbl hbA hS (vp_i rfl (by omega) (by omega)) dL_law_1471 ?_
  refine lv_topi (fun v9 ev9 => ?_)
  clear ev9
  refine lw_i (va_runV (As := [.int v7, .int v9]) (rest := []) hfix (cm_ask l dC dI cyB cyI cyJ cyZ cyO adK adV oM t WM hMI v7 v9 _) (cwV 2 hts (gi_V tw_293 tw_294 tw_295 tw_7 tb_k_M_ask gd_k_M_ask) rfl rfl rfl (by decide +kernel) ⟨Nat.le_of_ble_eq_true rfl, Nat.le_of_ble_eq_true rfl⟩) (g_preW hZ hS hA hKN hP hD 7 (MI.recv hMI) rfl) rfl rfl hl.1 rfl (lv_room (Nat.le_of_ble_eq_true rfl)) dL_law_1472 ⟨lw_rc (by omega), lw_rs (by omega)⟩) hP hD hS hA (fun r10 W2 H locs q2 hP hD hS => ?_)
  refine lv_pop hx hb dL_law_1475 rfl ?_
  refine lv_goto (tgt := 1548) hx hb dL_law_1476 (by decide) ?_
  refine W.widen (k := cells + 8) (n := slots + 773) (by omega) (by omega) ?_
  exact kk t W1 W2 H locs q1 q2 hP hD hS
set_option maxHeartbeats 4000000 in
set_option maxRecDepth 100000 in
theorem law_49 {p : Program} {l : Launch} {e : Env} {s : State} {m : MethodId} {below : List Frame} {meth : Method} {c : Code} {b L : Nat} {xs : Nat → Int32} {dC : Nat → ClassId} {dI : Nat → Nat → Nat} {cyB cyI cyJ cyZ cyO : ClassId} {adK adV : Nat → Nat} (C0 : lw_At p s m meth c b L xs) (hL : L ≤ 3072) (hKN : KN (dC, dI) (kT cyB cyI cyJ cyZ cyO) s) (hZ : ZS adK adV (fun q : Nat => s.heap.size ≤ q) s s.heap) {oX oM : Nat} {i t : Int32} {WX WM : va_W} {cells slots : Nat} (hXI : XI cyB cyI cyJ cyZ cyO oX t WX) (hMI : MI cyB cyI cyJ cyZ cyO oM t WM) (hi0 : 0 ≤ i.toInt) (hi6 : i.toInt + 6 ≤ L) (hc : cells + 8 ≤ 600000) (hs : slots + 773 ≤ 7302250) {H : Heap} {locs : List Loc} (hP : va_P (dC, dI) vwCl (WX ++ WM) H) (hD : va_D (fun q : Nat => s.heap.size ≤ q) (WX ++ WM)) (hS : va_S (fun q : Nat => s.heap.size ≤ q) s.heap H locs) {ls : Array Slot} (hl : lv_has ls 4 [(3, .int i), (2, .ref oM), (1, .ref oX), (0, .ref b)]) (kk : ∀ (t : Int32) (WX WM : va_W) (H : Heap) (locs : List Loc), XI cyB cyI cyJ cyZ cyO oX t WX → MI cyB cyI cyJ cyZ cyO oM t WM → va_P (dC, dI) vwCl (WX ++ WM) H → va_D (fun q : Nat => s.heap.size ≤ q) (WX ++ WM) → va_S (fun q : Nat => s.heap.size ≤ q) s.heap H locs → W p l e room_1 s m #[Value.ref b] below meth c H locs (cells + 8) (slots + 773) (lw_Z below #[Value.ref b] s) (F0 m 1548 ls [])) : W p l e room_1 s m #[Value.ref b] below meth c H locs cells slots (lw_Z below #[Value.ref b] s) (F0 m 1479 ls []) := by
  obtain ⟨hx, hb, hr, hml, hown, hts, hX, hbl, hlocks, hgv⟩ := id C0
  have hA : ∀ q : Nat, s.heap.size ≤ q → (fun q : Nat => s.heap.size ≤ q) q := fun _ h => h
  have hbA : ¬ (fun q : Nat => s.heap.size ≤ q) b := Nat.not_le.mpr hbl
  have hfix : CallFix p m c code 4 s #[Value.ref b] lw_tbl R_law := ⟨hx, hb, hml, hown, hts⟩
  refine lv_aload_n hx hb dL_law_1479 rfl (lv_at hl 2 rfl) ?_
  refine lv_aload_n hx hb dL_law_1480 rfl (lv_at hl 3 rfl) ?_
  refine lv_iload_n hx hb dL_law_1481 rfl (lv_at hl 0 rfl) ?_
  refine lv_iconst (v := 1) hx hb dL_law_1482 (by decide) ?_
  refine lv_iadd hx hb dL_law_1483 ?_
  refine lv_topi (fun z1 ez1 => ?_)
  have tz1 : z1.toInt = i.toInt + 1 := ti_add ez1 rfl (by decide) (by omega) (by omega)
  refine va_sld hx hb hX hbl hbA hS (vp_i rfl (by omega) (by omega)) dL_law_1484 ?_
  refine lv_topi (fun v2 ev2 => ?_)
  clear ev2
  rcases xb_cases v2 hXI with hV | hV | hV
  · skip
    refine lw_i (va_runV (As := [.int v2]) (rest := []) hfix (cx_image_n l dC dI cyB cyI cyJ cyZ cyO adK adV oX t WX v2 hV _) (cwV 1 hts (gi_V tw_296 tw_297 tw_298 tw_3 tb_k_X_image_n gd_k_X_image_n) rfl rfl rfl (by decide +kernel) ⟨Nat.le_of_ble_eq_true rfl, Nat.le_of_ble_eq_true rfl⟩) (g_preW hZ hS hA hKN hP hD 6 (XI.recv hXI) rfl) rfl rfl hl.1 rfl (lv_room (Nat.le_of_ble_eq_true rfl)) dL_law_1485 ⟨lw_rc (by omega), lw_rs (by omega)⟩) hP hD hS hA (fun r3 W1 H locs q1 hP hD hS => ?_)
    refine lv_pop hx hb dL_law_1488 rfl ?_
    refine lv_aload_n hx hb dL_law_1489 rfl (lv_at hl 1 rfl) ?_
    refine lv_aload_n hx hb dL_law_1490 rfl (lv_at hl 3 rfl) ?_
    refine lv_iload_n hx hb dL_law_1491 rfl (lv_at hl 0 rfl) ?_
    refine lv_iconst (v := 1) hx hb dL_law_1492 (by decide) ?_
    refine lv_iadd hx hb dL_law_1493 ?_
    refine lv_topi (fun z4 ez4 => ?_)
    have tz4 : z4.toInt = i.toInt + 1 := ti_add ez4 rfl (by decide) (by omega) (by omega)
    refine va_sld hx hb hX hbl hbA hS (vp_i rfl (by omega) (by omega)) dL_law_1494 ?_
    refine lv_topi (fun v5 ev5 => ?_)
    clear ev5
    refine lw_i (va_runV (As := [.int v5]) (rest := []) hfix (cm_image l dC dI cyB cyI cyJ cyZ cyO adK adV oM t WM hMI v5 _) (cwV 1 hts (gi_V tw_299 tw_300 tw_301 tw_7 tb_k_M_image gd_k_M_image) rfl rfl rfl (by decide +kernel) ⟨Nat.le_of_ble_eq_true rfl, Nat.le_of_ble_eq_true rfl⟩) (g_preW hZ hS hA hKN hP hD 7 (MI.recv hMI) rfl) rfl rfl hl.1 rfl (lv_room (Nat.le_of_ble_eq_true rfl)) dL_law_1495 ⟨lw_rc (by omega), lw_rs (by omega)⟩) hP hD hS hA (fun r6 W2 H locs q2 hP hD hS => ?_)
    refine lv_pop hx hb dL_law_1498 rfl ?_
    refine lv_goto (tgt := 1548) hx hb dL_law_1499 (by decide) ?_
    refine W.widen (k := cells + 8) (n := slots + 773) (by omega) (by omega) ?_
    exact kk t W1 W2 H locs q1 q2 hP hD hS
  · skip
    refine lw_i (va_runV (As := [.int v2]) (rest := []) hfix (cx_image_o l dC dI cyB cyI cyJ cyZ cyO adK adV oX t WX v2 hV _) (cwV 1 hts (gi_V tw_296 tw_297 tw_298 tw_3 tb_k_X_image_o gd_k_X_image_o) rfl rfl rfl (by decide +kernel) ⟨Nat.le_of_ble_eq_true rfl, Nat.le_of_ble_eq_true rfl⟩) (g_preW hZ hS hA hKN hP hD 6 (XI.recv hXI) rfl) rfl rfl hl.1 rfl (lv_room (Nat.le_of_ble_eq_true rfl)) dL_law_1485 ⟨lw_rc (by omega), lw_rs (by omega)⟩) hP hD hS hA (fun r7 W1 H locs q1 hP hD hS => ?_)
    refine lv_pop hx hb dL_law_1488 rfl ?_
    refine lv_aload_n hx hb dL_law_1489 rfl (lv_at hl 1 rfl) ?_
    refine lv_aload_n hx hb dL_law_1490 rfl (lv_at hl 3 rfl) ?_
    refine lv_iload_n hx hb dL_law_1491 rfl (lv_at hl 0 rfl) ?_
    refine lv_iconst (v := 1) hx hb dL_law_1492 (by decide) ?_
    refine lv_iadd hx hb dL_law_1493 ?_
    refine lv_topi (fun z8 ez8 => ?_)
    have tz8 : z8.toInt = i.toInt + 1 := ti_add ez8 rfl (by decide) (by omega) (by omega)
    refine va_sld hx hb hX hbl hbA hS (vp_i rfl (by omega) (by omega)) dL_law_1494 ?_
    refine lv_topi (fun v9 ev9 => ?_)
    clear ev9
    refine lw_i (va_runV (As := [.int v9]) (rest := []) hfix (cm_image l dC dI cyB cyI cyJ cyZ cyO adK adV oM t WM hMI v9 _) (cwV 1 hts (gi_V tw_299 tw_300 tw_301 tw_7 tb_k_M_image gd_k_M_image) rfl rfl rfl (by decide +kernel) ⟨Nat.le_of_ble_eq_true rfl, Nat.le_of_ble_eq_true rfl⟩) (g_preW hZ hS hA hKN hP hD 7 (MI.recv hMI) rfl) rfl rfl hl.1 rfl (lv_room (Nat.le_of_ble_eq_true rfl)) dL_law_1495 ⟨lw_rc (by omega), lw_rs (by omega)⟩) hP hD hS hA (fun r10 W2 H locs q2 hP hD hS => ?_)
    refine lv_pop hx hb dL_law_1498 rfl ?_
    refine lv_goto (tgt := 1548) hx hb dL_law_1499 (by decide) ?_
    refine W.widen (k := cells + 8) (n := slots + 773) (by omega) (by omega) ?_
    exact kk t W1 W2 H locs q1 q2 hP hD hS
  · skip
    refine lw_i (va_runV (As := [.int v2]) (rest := []) hfix (cx_image_a l dC dI cyB cyI cyJ cyZ cyO adK adV oX t WX v2 hV _) (cwV 1 hts (gi_V tw_296 tw_297 tw_298 tw_3 tb_k_X_image_a gd_k_X_image_a) rfl rfl rfl (by decide +kernel) ⟨Nat.le_of_ble_eq_true rfl, Nat.le_of_ble_eq_true rfl⟩) (g_preW hZ hS hA hKN hP hD 6 (XI.recv hXI) rfl) rfl rfl hl.1 rfl (lv_room (Nat.le_of_ble_eq_true rfl)) dL_law_1485 ⟨lw_rc (by omega), lw_rs (by omega)⟩) hP hD hS hA (fun r11 W1 H locs q1 hP hD hS => ?_)
    refine lv_pop hx hb dL_law_1488 rfl ?_
    refine lv_aload_n hx hb dL_law_1489 rfl (lv_at hl 1 rfl) ?_
    refine lv_aload_n hx hb dL_law_1490 rfl (lv_at hl 3 rfl) ?_
    refine lv_iload_n hx hb dL_law_1491 rfl (lv_at hl 0 rfl) ?_
    refine lv_iconst (v := 1) hx hb dL_law_1492 (by decide) ?_
    refine lv_iadd hx hb dL_law_1493 ?_
    refine lv_topi (fun z12 ez12 => ?_)
    have tz12 : z12.toInt = i.toInt + 1 := ti_add ez12 rfl (by decide) (by omega) (by omega)
    refine va_sld hx hb hX hbl hbA hS (vp_i rfl (by omega) (by omega)) dL_law_1494 ?_
    refine lv_topi (fun v13 ev13 => ?_)
    clear ev13
    refine lw_i (va_runV (As := [.int v13]) (rest := []) hfix (cm_image l dC dI cyB cyI cyJ cyZ cyO adK adV oM t WM hMI v13 _) (cwV 1 hts (gi_V tw_299 tw_300 tw_301 tw_7 tb_k_M_image gd_k_M_image) rfl rfl rfl (by decide +kernel) ⟨Nat.le_of_ble_eq_true rfl, Nat.le_of_ble_eq_true rfl⟩) (g_preW hZ hS hA hKN hP hD 7 (MI.recv hMI) rfl) rfl rfl hl.1 rfl (lv_room (Nat.le_of_ble_eq_true rfl)) dL_law_1495 ⟨lw_rc (by omega), lw_rs (by omega)⟩) hP hD hS hA (fun r14 W2 H locs q2 hP hD hS => ?_)
    refine lv_pop hx hb dL_law_1498 rfl ?_
    refine lv_goto (tgt := 1548) hx hb dL_law_1499 (by decide) ?_
    refine W.widen (k := cells + 8) (n := slots + 773) (by omega) (by omega) ?_
    exact kk t W1 W2 H locs q1 q2 hP hD hS
set_option maxHeartbeats 4000000 in
set_option maxRecDepth 100000 in
theorem law_50 {p : Program} {l : Launch} {e : Env} {s : State} {m : MethodId} {below : List Frame} {meth : Method} {c : Code} {b L : Nat} {xs : Nat → Int32} {dC : Nat → ClassId} {dI : Nat → Nat → Nat} {cyB cyI cyJ cyZ cyO : ClassId} {adK adV : Nat → Nat} (C0 : lw_At p s m meth c b L xs) (hL : L ≤ 3072) (hKN : KN (dC, dI) (kT cyB cyI cyJ cyZ cyO) s) (hZ : ZS adK adV (fun q : Nat => s.heap.size ≤ q) s s.heap) {oX oM : Nat} {i t : Int32} {WX WM : va_W} {cells slots : Nat} (hXI : XI cyB cyI cyJ cyZ cyO oX t WX) (hMI : MI cyB cyI cyJ cyZ cyO oM t WM) (hi0 : 0 ≤ i.toInt) (hi6 : i.toInt + 6 ≤ L) (hc : cells + 8 ≤ 600000) (hs : slots + 773 ≤ 7302250) {H : Heap} {locs : List Loc} (hP : va_P (dC, dI) vwCl (WX ++ WM) H) (hD : va_D (fun q : Nat => s.heap.size ≤ q) (WX ++ WM)) (hS : va_S (fun q : Nat => s.heap.size ≤ q) s.heap H locs) {ls : Array Slot} (hl : lv_has ls 4 [(3, .int i), (2, .ref oM), (1, .ref oX), (0, .ref b)]) (kk : ∀ (t : Int32) (WX WM : va_W) (H : Heap) (locs : List Loc), XI cyB cyI cyJ cyZ cyO oX t WX → MI cyB cyI cyJ cyZ cyO oM t WM → va_P (dC, dI) vwCl (WX ++ WM) H → va_D (fun q : Nat => s.heap.size ≤ q) (WX ++ WM) → va_S (fun q : Nat => s.heap.size ≤ q) s.heap H locs → W p l e room_1 s m #[Value.ref b] below meth c H locs (cells + 8) (slots + 773) (lw_Z below #[Value.ref b] s) (F0 m 1548 ls [])) : W p l e room_1 s m #[Value.ref b] below meth c H locs cells slots (lw_Z below #[Value.ref b] s) (F0 m 1502 ls []) := by
  obtain ⟨hx, hb, hr, hml, hown, hts, hX, hbl, hlocks, hgv⟩ := id C0
  have hA : ∀ q : Nat, s.heap.size ≤ q → (fun q : Nat => s.heap.size ≤ q) q := fun _ h => h
  have hbA : ¬ (fun q : Nat => s.heap.size ≤ q) b := Nat.not_le.mpr hbl
  have hfix : CallFix p m c code 4 s #[Value.ref b] lw_tbl R_law := ⟨hx, hb, hml, hown, hts⟩
  refine lv_aload_n hx hb dL_law_1502 rfl (lv_at hl 2 rfl) ?_
  refine lv_aload_n hx hb dL_law_1503 rfl (lv_at hl 3 rfl) ?_
  refine lv_iload_n hx hb dL_law_1504 rfl (lv_at hl 0 rfl) ?_
  refine lv_iconst (v := 1) hx hb dL_law_1505 (by decide) ?_
  refine lv_iadd hx hb dL_law_1506 ?_
  refine lv_topi (fun z1 ez1 => ?_)
  have tz1 : z1.toInt = i.toInt + 1 := ti_add ez1 rfl (by decide) (by omega) (by omega)
  refine va_sld hx hb hX hbl hbA hS (vp_i rfl (by omega) (by omega)) dL_law_1507 ?_
  refine lv_topi (fun v2 ev2 => ?_)
  clear ev2
  rcases xc_cases v2 hXI with hV | hV | hV
  · skip
    refine lw_i (va_runV (As := [.int v2]) (rest := []) hfix (cx_back_n l dC dI cyB cyI cyJ cyZ cyO adK adV oX t WX v2 hV _) (cwV 1 hts (gi_V tw_302 tw_303 tw_304 tw_3 tb_k_X_back_n gd_k_X_back_n) rfl rfl rfl (by decide +kernel) ⟨Nat.le_of_ble_eq_true rfl, Nat.le_of_ble_eq_true rfl⟩) (g_preW hZ hS hA hKN hP hD 6 (XI.recv hXI) rfl) rfl rfl hl.1 rfl (lv_room (Nat.le_of_ble_eq_true rfl)) dL_law_1508 ⟨lw_rc (by omega), lw_rs (by omega)⟩) hP hD hS hA (fun r3 W1 H locs q1 hP hD hS => ?_)
    refine lv_pop hx hb dL_law_1511 rfl ?_
    refine lv_aload_n hx hb dL_law_1512 rfl (lv_at hl 1 rfl) ?_
    refine lv_aload_n hx hb dL_law_1513 rfl (lv_at hl 3 rfl) ?_
    refine lv_iload_n hx hb dL_law_1514 rfl (lv_at hl 0 rfl) ?_
    refine lv_iconst (v := 1) hx hb dL_law_1515 (by decide) ?_
    refine lv_iadd hx hb dL_law_1516 ?_
    refine lv_topi (fun z4 ez4 => ?_)
    have tz4 : z4.toInt = i.toInt + 1 := ti_add ez4 rfl (by decide) (by omega) (by omega)
    refine va_sld hx hb hX hbl hbA hS (vp_i rfl (by omega) (by omega)) dL_law_1517 ?_
    refine lv_topi (fun v5 ev5 => ?_)
    clear ev5
    refine lw_i (va_runV (As := [.int v5]) (rest := []) hfix (cm_back l dC dI cyB cyI cyJ cyZ cyO adK adV oM t WM hMI v5 _) (cwV 1 hts (gi_V tw_305 tw_306 tw_307 tw_7 tb_k_M_back gd_k_M_back) rfl rfl rfl (by decide +kernel) ⟨Nat.le_of_ble_eq_true rfl, Nat.le_of_ble_eq_true rfl⟩) (g_preW hZ hS hA hKN hP hD 7 (MI.recv hMI) rfl) rfl rfl hl.1 rfl (lv_room (Nat.le_of_ble_eq_true rfl)) dL_law_1518 ⟨lw_rc (by omega), lw_rs (by omega)⟩) hP hD hS hA (fun r6 W2 H locs q2 hP hD hS => ?_)
    refine lv_pop hx hb dL_law_1521 rfl ?_
    refine lv_goto (tgt := 1548) hx hb dL_law_1522 (by decide) ?_
    refine W.widen (k := cells + 8) (n := slots + 773) (by omega) (by omega) ?_
    exact kk t W1 W2 H locs q1 q2 hP hD hS
  · skip
    refine lw_i (va_runV (As := [.int v2]) (rest := []) hfix (cx_back_o l dC dI cyB cyI cyJ cyZ cyO adK adV oX t WX v2 hV _) (cwV 1 hts (gi_V tw_302 tw_303 tw_304 tw_3 tb_k_X_back_o gd_k_X_back_o) rfl rfl rfl (by decide +kernel) ⟨Nat.le_of_ble_eq_true rfl, Nat.le_of_ble_eq_true rfl⟩) (g_preW hZ hS hA hKN hP hD 6 (XI.recv hXI) rfl) rfl rfl hl.1 rfl (lv_room (Nat.le_of_ble_eq_true rfl)) dL_law_1508 ⟨lw_rc (by omega), lw_rs (by omega)⟩) hP hD hS hA (fun r7 W1 H locs q1 hP hD hS => ?_)
    refine lv_pop hx hb dL_law_1511 rfl ?_
    refine lv_aload_n hx hb dL_law_1512 rfl (lv_at hl 1 rfl) ?_
    refine lv_aload_n hx hb dL_law_1513 rfl (lv_at hl 3 rfl) ?_
    refine lv_iload_n hx hb dL_law_1514 rfl (lv_at hl 0 rfl) ?_
    refine lv_iconst (v := 1) hx hb dL_law_1515 (by decide) ?_
    refine lv_iadd hx hb dL_law_1516 ?_
    refine lv_topi (fun z8 ez8 => ?_)
    have tz8 : z8.toInt = i.toInt + 1 := ti_add ez8 rfl (by decide) (by omega) (by omega)
    refine va_sld hx hb hX hbl hbA hS (vp_i rfl (by omega) (by omega)) dL_law_1517 ?_
    refine lv_topi (fun v9 ev9 => ?_)
    clear ev9
    refine lw_i (va_runV (As := [.int v9]) (rest := []) hfix (cm_back l dC dI cyB cyI cyJ cyZ cyO adK adV oM t WM hMI v9 _) (cwV 1 hts (gi_V tw_305 tw_306 tw_307 tw_7 tb_k_M_back gd_k_M_back) rfl rfl rfl (by decide +kernel) ⟨Nat.le_of_ble_eq_true rfl, Nat.le_of_ble_eq_true rfl⟩) (g_preW hZ hS hA hKN hP hD 7 (MI.recv hMI) rfl) rfl rfl hl.1 rfl (lv_room (Nat.le_of_ble_eq_true rfl)) dL_law_1518 ⟨lw_rc (by omega), lw_rs (by omega)⟩) hP hD hS hA (fun r10 W2 H locs q2 hP hD hS => ?_)
    refine lv_pop hx hb dL_law_1521 rfl ?_
    refine lv_goto (tgt := 1548) hx hb dL_law_1522 (by decide) ?_
    refine W.widen (k := cells + 8) (n := slots + 773) (by omega) (by omega) ?_
    exact kk t W1 W2 H locs q1 q2 hP hD hS
  · skip
    refine lw_i (va_runV (As := [.int v2]) (rest := []) hfix (cx_back_a l dC dI cyB cyI cyJ cyZ cyO adK adV oX t WX v2 hV _) (cwV 1 hts (gi_V tw_302 tw_303 tw_304 tw_3 tb_k_X_back_a gd_k_X_back_a) rfl rfl rfl (by decide +kernel) ⟨Nat.le_of_ble_eq_true rfl, Nat.le_of_ble_eq_true rfl⟩) (g_preW hZ hS hA hKN hP hD 6 (XI.recv hXI) rfl) rfl rfl hl.1 rfl (lv_room (Nat.le_of_ble_eq_true rfl)) dL_law_1508 ⟨lw_rc (by omega), lw_rs (by omega)⟩) hP hD hS hA (fun r11 W1 H locs q1 hP hD hS => ?_)
    refine lv_pop hx hb dL_law_1511 rfl ?_
    refine lv_aload_n hx hb dL_law_1512 rfl (lv_at hl 1 rfl) ?_
    refine lv_aload_n hx hb dL_law_1513 rfl (lv_at hl 3 rfl) ?_
    refine lv_iload_n hx hb dL_law_1514 rfl (lv_at hl 0 rfl) ?_
    refine lv_iconst (v := 1) hx hb dL_law_1515 (by decide) ?_
    refine lv_iadd hx hb dL_law_1516 ?_
    refine lv_topi (fun z12 ez12 => ?_)
    have tz12 : z12.toInt = i.toInt + 1 := ti_add ez12 rfl (by decide) (by omega) (by omega)
    refine va_sld hx hb hX hbl hbA hS (vp_i rfl (by omega) (by omega)) dL_law_1517 ?_
    refine lv_topi (fun v13 ev13 => ?_)
    clear ev13
    refine lw_i (va_runV (As := [.int v13]) (rest := []) hfix (cm_back l dC dI cyB cyI cyJ cyZ cyO adK adV oM t WM hMI v13 _) (cwV 1 hts (gi_V tw_305 tw_306 tw_307 tw_7 tb_k_M_back gd_k_M_back) rfl rfl rfl (by decide +kernel) ⟨Nat.le_of_ble_eq_true rfl, Nat.le_of_ble_eq_true rfl⟩) (g_preW hZ hS hA hKN hP hD 7 (MI.recv hMI) rfl) rfl rfl hl.1 rfl (lv_room (Nat.le_of_ble_eq_true rfl)) dL_law_1518 ⟨lw_rc (by omega), lw_rs (by omega)⟩) hP hD hS hA (fun r14 W2 H locs q2 hP hD hS => ?_)
    refine lv_pop hx hb dL_law_1521 rfl ?_
    refine lv_goto (tgt := 1548) hx hb dL_law_1522 (by decide) ?_
    refine W.widen (k := cells + 8) (n := slots + 773) (by omega) (by omega) ?_
    exact kk t W1 W2 H locs q1 q2 hP hD hS
set_option maxHeartbeats 4000000 in
set_option maxRecDepth 100000 in
theorem law_51 {p : Program} {l : Launch} {e : Env} {s : State} {m : MethodId} {below : List Frame} {meth : Method} {c : Code} {b L : Nat} {xs : Nat → Int32} {dC : Nat → ClassId} {dI : Nat → Nat → Nat} {cyB cyI cyJ cyZ cyO : ClassId} {adK adV : Nat → Nat} (C0 : lw_At p s m meth c b L xs) (hL : L ≤ 3072) (hKN : KN (dC, dI) (kT cyB cyI cyJ cyZ cyO) s) (hZ : ZS adK adV (fun q : Nat => s.heap.size ≤ q) s s.heap) {oX oM : Nat} {i t : Int32} {WX WM : va_W} {cells slots : Nat} (hXI : XI cyB cyI cyJ cyZ cyO oX t WX) (hMI : MI cyB cyI cyJ cyZ cyO oM t WM) (hi0 : 0 ≤ i.toInt) (hi6 : i.toInt + 6 ≤ L) (hc : cells + 8 ≤ 600000) (hs : slots + 773 ≤ 7302250) {H : Heap} {locs : List Loc} (hP : va_P (dC, dI) vwCl (WX ++ WM) H) (hD : va_D (fun q : Nat => s.heap.size ≤ q) (WX ++ WM)) (hS : va_S (fun q : Nat => s.heap.size ≤ q) s.heap H locs) {ls : Array Slot} (hl : lv_has ls 4 [(3, .int i), (2, .ref oM), (1, .ref oX), (0, .ref b)]) (kk : ∀ (t : Int32) (WX WM : va_W) (H : Heap) (locs : List Loc), XI cyB cyI cyJ cyZ cyO oX t WX → MI cyB cyI cyJ cyZ cyO oM t WM → va_P (dC, dI) vwCl (WX ++ WM) H → va_D (fun q : Nat => s.heap.size ≤ q) (WX ++ WM) → va_S (fun q : Nat => s.heap.size ≤ q) s.heap H locs → W p l e room_1 s m #[Value.ref b] below meth c H locs (cells + 8) (slots + 773) (lw_Z below #[Value.ref b] s) (F0 m 1548 ls [])) : W p l e room_1 s m #[Value.ref b] below meth c H locs cells slots (lw_Z below #[Value.ref b] s) (F0 m 1525 ls []) := by
  obtain ⟨hx, hb, hr, hml, hown, hts, hX, hbl, hlocks, hgv⟩ := id C0
  have hA : ∀ q : Nat, s.heap.size ≤ q → (fun q : Nat => s.heap.size ≤ q) q := fun _ h => h
  have hbA : ¬ (fun q : Nat => s.heap.size ≤ q) b := Nat.not_le.mpr hbl
  have hfix : CallFix p m c code 4 s #[Value.ref b] lw_tbl R_law := ⟨hx, hb, hml, hown, hts⟩
  refine lv_aload_n hx hb dL_law_1525 rfl (lv_at hl 2 rfl) ?_
  refine lv_aload_n hx hb dL_law_1526 rfl (lv_at hl 3 rfl) ?_
  refine lv_iload_n hx hb dL_law_1527 rfl (lv_at hl 0 rfl) ?_
  refine lv_iconst (v := 1) hx hb dL_law_1528 (by decide) ?_
  refine lv_iadd hx hb dL_law_1529 ?_
  refine lv_topi (fun z1 ez1 => ?_)
  have tz1 : z1.toInt = i.toInt + 1 := ti_add ez1 rfl (by decide) (by omega) (by omega)
  refine va_sld hx hb hX hbl hbA hS (vp_i rfl (by omega) (by omega)) dL_law_1530 ?_
  refine lv_topi (fun v2 ev2 => ?_)
  clear ev2
  refine lw_i (va_runV (As := [.int v2]) (rest := []) hfix (cx_about l dC dI cyB cyI cyJ cyZ cyO adK adV oX t WX hXI v2 _) (cwV 1 hts (gi_V tw_308 tw_309 tw_310 tw_3 tb_k_X_about gd_k_X_about) rfl rfl rfl (by decide +kernel) ⟨Nat.le_of_ble_eq_true rfl, Nat.le_of_ble_eq_true rfl⟩) (g_preW hZ hS hA hKN hP hD 6 (XI.recv hXI) rfl) rfl rfl hl.1 rfl (lv_room (Nat.le_of_ble_eq_true rfl)) dL_law_1531 ⟨lw_rc (by omega), lw_rs (by omega)⟩) hP hD hS hA (fun r3 W1 H locs q1 hP hD hS => ?_)
  refine lv_pop hx hb dL_law_1534 rfl ?_
  refine lv_aload_n hx hb dL_law_1535 rfl (lv_at hl 1 rfl) ?_
  refine lv_aload_n hx hb dL_law_1536 rfl (lv_at hl 3 rfl) ?_
  refine lv_iload_n hx hb dL_law_1537 rfl (lv_at hl 0 rfl) ?_
  refine lv_iconst (v := 1) hx hb dL_law_1538 (by decide) ?_
  refine lv_iadd hx hb dL_law_1539 ?_
  refine lv_topi (fun z4 ez4 => ?_)
  have tz4 : z4.toInt = i.toInt + 1 := ti_add ez4 rfl (by decide) (by omega) (by omega)
  refine va_sld hx hb hX hbl hbA hS (vp_i rfl (by omega) (by omega)) dL_law_1540 ?_
  refine lv_topi (fun v5 ev5 => ?_)
  clear ev5
  refine lw_i (va_runV (As := [.int v5]) (rest := []) hfix (cm_about l dC dI cyB cyI cyJ cyZ cyO adK adV oM t WM hMI v5 _) (cwV 1 hts (gi_V tw_311 tw_312 tw_313 tw_7 tb_k_M_about gd_k_M_about) rfl rfl rfl (by decide +kernel) ⟨Nat.le_of_ble_eq_true rfl, Nat.le_of_ble_eq_true rfl⟩) (g_preW hZ hS hA hKN hP hD 7 (MI.recv hMI) rfl) rfl rfl hl.1 rfl (lv_room (Nat.le_of_ble_eq_true rfl)) dL_law_1541 ⟨lw_rc (by omega), lw_rs (by omega)⟩) hP hD hS hA (fun r6 W2 H locs q2 hP hD hS => ?_)
  refine lv_pop hx hb dL_law_1544 rfl ?_
  refine lv_goto (tgt := 1548) hx hb dL_law_1545 (by decide) ?_
  refine W.widen (k := cells + 8) (n := slots + 773) (by omega) (by omega) ?_
  exact kk t W1 W2 H locs q1 q2 hP hD hS
