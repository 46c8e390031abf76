set_option maxHeartbeats 4000000 in
set_option maxRecDepth 100000 in
theorem law_26 {p : Program} {l : Launch} {e : Env} {s : State} {m : MethodId} {below : List Frame} {meth : Method} {c : Code} {b L : Nat} {xs : Nat → Int32} {dC : Nat → ClassId} {dI : Nat → Nat → Nat} {cyB cyI cyJ cyZ cyO : ClassId} {adK adV : Nat → Nat} (C0 : lw_At p s m meth c b L xs) (hL : L ≤ 3072) (hKN : KN (dC, dI) (kT cyB cyI cyJ cyZ cyO) s) (hZ : ZS adK adV (fun q : Nat => s.heap.size ≤ q) s s.heap) {oX oM : Nat} {i t : Int32} {WX WM : va_W} {cells slots : Nat} (hXI : XI cyB cyI cyJ cyZ cyO oX t WX) (hMI : MI cyB cyI cyJ cyZ cyO oM t WM) (hi0 : 0 ≤ i.toInt) (hi6 : i.toInt + 6 ≤ L) (hc : cells + 8 ≤ 600000) (hs : slots + 773 ≤ 7302250) {H : Heap} {locs : List Loc} (hP : va_P (dC, dI) vwCl (WX ++ WM) H) (hD : va_D (fun q : Nat => s.heap.size ≤ q) (WX ++ WM)) (hS : va_S (fun q : Nat => s.heap.size ≤ q) s.heap H locs) {ls : Array Slot} (hl : lv_has ls 4 [(3, .int i), (2, .ref oM), (1, .ref oX), (0, .ref b)]) (kk : ∀ (t : Int32) (WX WM : va_W) (H : Heap) (locs : List Loc), XI cyB cyI cyJ cyZ cyO oX t WX → MI cyB cyI cyJ cyZ cyO oM t WM → va_P (dC, dI) vwCl (WX ++ WM) H → va_D (fun q : Nat => s.heap.size ≤ q) (WX ++ WM) → va_S (fun q : Nat => s.heap.size ≤ q) s.heap H locs → W p l e room_1 s m #[Value.ref b] below meth c H locs (cells + 8) (slots + 773) (lw_Z below #[Value.ref b] s) (F0 m 1548 ls [])) : W p l e room_1 s m #[Value.ref b] below meth c H locs cells slots (lw_Z below #[Value.ref b] s) (F0 m 964 ls []) := by
  obtain ⟨hx, hb, hr, hml, hown, hts, hX, hbl, hlocks, hgv⟩ := id C0
  have hA : ∀ q : Nat, s.heap.size ≤ q → (fun q : Nat => s.heap.size ≤ q) q := fun _ h => h
  have hbA : ¬ (fun q : Nat => s.heap.size ≤ q) b := Nat.not_le.mpr hbl
  have hfix : CallFix p m c code 4 s #[Value.ref b] lw_tbl R_law := ⟨hx, hb, hml, hown, hts⟩
  refine lv_aload_n hx hb dL_law_964 rfl (lv_at hl 2 rfl) ?_
  refine lw_i (va_runV (As := []) (rest := []) hfix (cx_safe l dC dI cyB cyI cyJ cyZ cyO adK adV oX t WX hXI _) (cwV 0 hts (gi_V tw_158 tw_159 tw_160 tw_3 tb_k_X_safe gd_k_X_safe) rfl rfl rfl (by decide +kernel) ⟨Nat.le_of_ble_eq_true rfl, Nat.le_of_ble_eq_true rfl⟩) (g_preW hZ hS hA hKN hP hD 6 (XI.recv hXI) rfl) rfl rfl hl.1 rfl (lv_room (Nat.le_of_ble_eq_true rfl)) dL_law_965 ⟨lw_rc (by omega), lw_rs (by omega)⟩) hP hD hS hA (fun r1 W1 H locs q1 hP hD hS => ?_)
  refine lv_pop hx hb dL_law_968 rfl ?_
  refine lv_aload_n hx hb dL_law_969 rfl (lv_at hl 1 rfl) ?_
  refine lw_i (va_runV (As := []) (rest := []) hfix (cm_safe l dC dI cyB cyI cyJ cyZ cyO adK adV oM t WM hMI _) (cwV 0 hts (gi_V tw_161 tw_162 tw_163 tw_7 tb_k_M_safe gd_k_M_safe) rfl rfl rfl (by decide +kernel) ⟨Nat.le_of_ble_eq_true rfl, Nat.le_of_ble_eq_true rfl⟩) (g_preW hZ hS hA hKN hP hD 7 (MI.recv hMI) rfl) rfl rfl hl.1 rfl (lv_room (Nat.le_of_ble_eq_true rfl)) dL_law_970 ⟨lw_rc (by omega), lw_rs (by omega)⟩) hP hD hS hA (fun r2 W2 H locs q2 hP hD hS => ?_)
  refine lv_pop hx hb dL_law_973 rfl ?_
  refine lv_goto (tgt := 1548) hx hb dL_law_974 (by decide) ?_
  refine W.widen (k := cells + 8) (n := slots + 773) (by omega) (by omega) ?_
  exact kk t W1 W2 H locs q1 q2 hP hD hS
set_option maxHeartbeats 4000000 in
set_option maxRecDepth 100000 in
theorem law_27 {p : Program} {l : Launch} {e : Env} {s : State} {m : MethodId} {below : List Frame} {meth : Method} {c : Code} {b L : Nat} {xs : Nat → Int32} {dC : Nat → ClassId} {dI : Nat → Nat → Nat} {cyB cyI cyJ cyZ cyO : ClassId} {adK adV : Nat → Nat} (C0 : lw_At p s m meth c b L xs) (hL : L ≤ 3072) (hKN : KN (dC, dI) (kT cyB cyI cyJ cyZ cyO) s) (hZ : ZS adK adV (fun q : Nat => s.heap.size ≤ q) s s.heap) {oX oM : Nat} {i t : Int32} {WX WM : va_W} {cells slots : Nat} (hXI : XI cyB cyI cyJ cyZ cyO oX t WX) (hMI : MI cyB cyI cyJ cyZ cyO oM t WM) (hi0 : 0 ≤ i.toInt) (hi6 : i.toInt + 6 ≤ L) (hc : cells + 8 ≤ 600000) (hs : slots + 773 ≤ 7302250) {H : Heap} {locs : List Loc} (hP : va_P (dC, dI) vwCl (WX ++ WM) H) (hD : va_D (fun q : Nat => s.heap.size ≤ q) (WX ++ WM)) (hS : va_S (fun q : Nat => s.heap.size ≤ q) s.heap H locs) {ls : Array Slot} (hl : lv_has ls 4 [(3, .int i), (2, .ref oM), (1, .ref oX), (0, .ref b)]) (kk : ∀ (t : Int32) (WX WM : va_W) (H : Heap) (locs : List Loc), XI cyB cyI cyJ cyZ cyO oX t WX → MI cyB cyI cyJ cyZ cyO oM t WM → va_P (dC, dI) vwCl (WX ++ WM) H → va_D (fun q : Nat => s.heap.size ≤ q) (WX ++ WM) → va_S (fun q : Nat => s.heap.size ≤ q) s.heap H locs → W p l e room_1 s m #[Value.ref b] below meth c H locs (cells + 8) (slots + 773) (lw_Z below #[Value.ref b] s) (F0 m 1548 ls [])) : W p l e room_1 s m #[Value.ref b] below meth c H locs cells slots (lw_Z below #[Value.ref b] s) (F0 m 977 ls []) := by
  obtain ⟨hx, hb, hr, hml, hown, hts, hX, hbl, hlocks, hgv⟩ := id C0
  have hA : ∀ q : Nat, s.heap.size ≤ q → (fun q : Nat => s.heap.size ≤ q) q := fun _ h => h
  have hbA : ¬ (fun q : Nat => s.heap.size ≤ q) b := Nat.not_le.mpr hbl
  have hfix : CallFix p m c code 4 s #[Value.ref b] lw_tbl R_law := ⟨hx, hb, hml, hown, hts⟩
  refine lv_aload_n hx hb dL_law_977 rfl (lv_at hl 2 rfl) ?_
  refine lw_i (va_runV (As := []) (rest := []) hfix (cx_answered l dC dI cyB cyI cyJ cyZ cyO adK adV oX t WX hXI _) (cwV 0 hts (gi_V tw_164 tw_165 tw_166 tw_3 tb_k_X_answered gd_k_X_answered) rfl rfl rfl (by decide +kernel) ⟨Nat.le_of_ble_eq_true rfl, Nat.le_of_ble_eq_true rfl⟩) (g_preW hZ hS hA hKN hP hD 6 (XI.recv hXI) rfl) rfl rfl hl.1 rfl (lv_room (Nat.le_of_ble_eq_true rfl)) dL_law_978 ⟨lw_rc (by omega), lw_rs (by omega)⟩) hP hD hS hA (fun r1 W1 H locs q1 hP hD hS => ?_)
  refine lv_pop hx hb dL_law_981 rfl ?_
  refine lv_aload_n hx hb dL_law_982 rfl (lv_at hl 1 rfl) ?_
  refine lw_i (va_runV (As := []) (rest := []) hfix (cm_answered l dC dI cyB cyI cyJ cyZ cyO adK adV oM t WM hMI _) (cwV 0 hts (gi_V tw_167 tw_168 tw_169 tw_7 tb_k_M_answered gd_k_M_answered) rfl rfl rfl (by decide +kernel) ⟨Nat.le_of_ble_eq_true rfl, Nat.le_of_ble_eq_true rfl⟩) (g_preW hZ hS hA hKN hP hD 7 (MI.recv hMI) rfl) rfl rfl hl.1 rfl (lv_room (Nat.le_of_ble_eq_true rfl)) dL_law_983 ⟨lw_rc (by omega), lw_rs (by omega)⟩) hP hD hS hA (fun r2 W2 H locs q2 hP hD hS => ?_)
  refine lv_pop hx hb dL_law_986 rfl ?_
  refine lv_goto (tgt := 1548) hx hb dL_law_987 (by decide) ?_
  refine W.widen (k := cells + 8) (n := slots + 773) (by omega) (by omega) ?_
  exact kk t W1 W2 H locs q1 q2 hP hD hS
set_option maxHeartbeats 4000000 in
set_option maxRecDepth 100000 in
theorem law_28 {p : Program} {l : Launch} {e : Env} {s : State} {m : MethodId} {below : List Frame} {meth : Method} {c : Code} {b L : Nat} {xs : Nat → Int32} {dC : Nat → ClassId} {dI : Nat → Nat → Nat} {cyB cyI cyJ cyZ cyO : ClassId} {adK adV : Nat → Nat} (C0 : lw_At p s m meth c b L xs) (hL : L ≤ 3072) (hKN : KN (dC, dI) (kT cyB cyI cyJ cyZ cyO) s) (hZ : ZS adK adV (fun q : Nat => s.heap.size ≤ q) s s.heap) {oX oM : Nat} {i t : Int32} {WX WM : va_W} {cells slots : Nat} (hXI : XI cyB cyI cyJ cyZ cyO oX t WX) (hMI : MI cyB cyI cyJ cyZ cyO oM t WM) (hi0 : 0 ≤ i.toInt) (hi6 : i.toInt + 6 ≤ L) (hc : cells + 8 ≤ 600000) (hs : slots + 773 ≤ 7302250) {H : Heap} {locs : List Loc} (hP : va_P (dC, dI) vwCl (WX ++ WM) H) (hD : va_D (fun q : Nat => s.heap.size ≤ q) (WX ++ WM)) (hS : va_S (fun q : Nat => s.heap.size ≤ q) s.heap H locs) {ls : Array Slot} (hl : lv_has ls 4 [(3, .int i), (2, .ref oM), (1, .ref oX), (0, .ref b)]) (kk : ∀ (t : Int32) (WX WM : va_W) (H : Heap) (locs : List Loc), XI cyB cyI cyJ cyZ cyO oX t WX → MI cyB cyI cyJ cyZ cyO oM t WM → va_P (dC, dI) vwCl (WX ++ WM) H → va_D (fun q : Nat => s.heap.size ≤ q) (WX ++ WM) → va_S (fun q : Nat => s.heap.size ≤ q) s.heap H locs → W p l e room_1 s m #[Value.ref b] below meth c H locs (cells + 8) (slots + 773) (lw_Z below #[Value.ref b] s) (F0 m 1548 ls [])) : W p l e room_1 s m #[Value.ref b] below meth c H locs cells slots (lw_Z below #[Value.ref b] s) (F0 m 990 ls []) := by
  obtain ⟨hx, hb, hr, hml, hown, hts, hX, hbl, hlocks, hgv⟩ := id C0
  have hA : ∀ q : Nat, s.heap.size ≤ q → (fun q : Nat => s.heap.size ≤ q) q := fun _ h => h
  have hbA : ¬ (fun q : Nat => s.heap.size ≤ q) b := Nat.not_le.mpr hbl
  have hfix : CallFix p m c code 4 s #[Value.ref b] lw_tbl R_law := ⟨hx, hb, hml, hown, hts⟩
  refine lv_aload_n hx hb dL_law_990 rfl (lv_at hl 2 rfl) ?_
  refine lw_i (va_runV (As := []) (rest := []) hfix (cx_soonest l dC dI cyB cyI cyJ cyZ cyO adK adV oX t WX hXI _) (cwV 0 hts (gi_V tw_170 tw_171 tw_172 tw_3 tb_k_X_soonest gd_k_X_soonest) rfl rfl rfl (by decide +kernel) ⟨Nat.le_of_ble_eq_true rfl, Nat.le_of_ble_eq_true rfl⟩) (g_preW hZ hS hA hKN hP hD 6 (XI.recv hXI) rfl) rfl rfl hl.1 rfl (lv_room (Nat.le_of_ble_eq_true rfl)) dL_law_991 ⟨lw_rc (by omega), lw_rs (by omega)⟩) hP hD hS hA (fun r1 W1 H locs q1 hP hD hS => ?_)
  refine lv_pop hx hb dL_law_994 rfl ?_
  refine lv_aload_n hx hb dL_law_995 rfl (lv_at hl 1 rfl) ?_
  refine lw_i (va_runV (As := []) (rest := []) hfix (cm_soonest l dC dI cyB cyI cyJ cyZ cyO adK adV oM t WM hMI _) (cwV 0 hts (gi_V tw_173 tw_174 tw_175 tw_7 tb_k_M_soonest gd_k_M_soonest) rfl rfl rfl (by decide +kernel) ⟨Nat.le_of_ble_eq_true rfl, Nat.le_of_ble_eq_true rfl⟩) (g_preW hZ hS hA hKN hP hD 7 (MI.recv hMI) rfl) rfl rfl hl.1 rfl (lv_room (Nat.le_of_ble_eq_true rfl)) dL_law_996 ⟨lw_rc (by omega), lw_rs (by omega)⟩) hP hD hS hA (fun r2 W2 H locs q2 hP hD hS => ?_)
  refine lv_pop hx hb dL_law_999 rfl ?_
  refine lv_goto (tgt := 1548) hx hb dL_law_1000 (by decide) ?_
  refine W.widen (k := cells + 8) (n := slots + 773) (by omega) (by omega) ?_
  exact kk t W1 W2 H locs q1 q2 hP hD hS
set_option maxHeartbeats 4000000 in
set_option maxRecDepth 100000 in
theorem law_29 {p : Program} {l : Launch} {e : Env} {s : State} {m : MethodId} {below : List Frame} {meth : Method} {c : Code} {b L : Nat} {xs : Nat → Int32} {dC : Nat → ClassId} {dI : Nat → Nat → Nat} {cyB cyI cyJ cyZ cyO : ClassId} {adK adV : Nat → Nat} (C0 : lw_At p s m meth c b L xs) (hL : L ≤ 3072) (hKN : KN (dC, dI) (kT cyB cyI cyJ cyZ cyO) s) (hZ : ZS adK adV (fun q : Nat => s.heap.size ≤ q) s s.heap) {oX oM : Nat} {i t : Int32} {WX WM : va_W} {cells slots : Nat} (hXI : XI cyB cyI cyJ cyZ cyO oX t WX) (hMI : MI cyB cyI cyJ cyZ cyO oM t WM) (hi0 : 0 ≤ i.toInt) (hi6 : i.toInt + 6 ≤ L) (hc : cells + 8 ≤ 600000) (hs : slots + 773 ≤ 7302250) {H : Heap} {locs : List Loc} (hP : va_P (dC, dI) vwCl (WX ++ WM) H) (hD : va_D (fun q : Nat => s.heap.size ≤ q) (WX ++ WM)) (hS : va_S (fun q : Nat => s.heap.size ≤ q) s.heap H locs) {ls : Array Slot} (hl : lv_has ls 4 [(3, .int i), (2, .ref oM), (1, .ref oX), (0, .ref b)]) (kk : ∀ (t : Int32) (WX WM : va_W) (H : Heap) (locs : List Loc), XI cyB cyI cyJ cyZ cyO oX t WX → MI cyB cyI cyJ cyZ cyO oM t WM → va_P (dC, dI) vwCl (WX ++ WM) H → va_D (fun q : Nat => s.heap.size ≤ q) (WX ++ WM) → va_S (fun q : Nat => s.heap.size ≤ q) s.heap H locs → W p l e room_1 s m #[Value.ref b] below meth c H locs (cells + 8) (slots + 773) (lw_Z below #[Value.ref b] s) (F0 m 1548 ls [])) : W p l e room_1 s m #[Value.ref b] below meth c H locs cells slots (lw_Z below #[Value.ref b] s) (F0 m 1003 ls []) := by
  obtain ⟨hx, hb, hr, hml, hown, hts, hX, hbl, hlocks, hgv⟩ := id C0
  have hA : ∀ q : Nat, s.heap.size ≤ q → (fun q : Nat => s.heap.size ≤ q) q := fun _ h => h
  have hbA : ¬ (fun q : Nat => s.heap.size ≤ q) b := Nat.not_le.mpr hbl
  have hfix : CallFix p m c code 4 s #[Value.ref b] lw_tbl R_law := ⟨hx, hb, hml, hown, hts⟩
  refine lv_aload_n hx hb dL_law_1003 rfl (lv_at hl 2 rfl) ?_
  refine lv_aload_n hx hb dL_law_1004 rfl (lv_at hl 3 rfl) ?_
  refine lv_iload_n hx hb dL_law_1005 rfl (lv_at hl 0 rfl) ?_
  refine lv_iconst (v := 1) hx hb dL_law_1006 (by decide) ?_
  refine lv_iadd hx hb dL_law_1007 ?_
  refine lv_topi (fun z1 ez1 => ?_)
  have tz1 : z1.toInt = i.toInt + 1 := ti_add ez1 rfl (by decide) (by omega) (by omega)
  refine va_sld hx hb hX hbl hbA hS (vp_i rfl (by omega) (by omega)) dL_law_1008 ?_
  refine lv_topi (fun v2 ev2 => ?_)
  clear ev2
  refine lw_i (va_runV (As := [.int v2]) (rest := []) hfix (cx_weed l dC dI cyB cyI cyJ cyZ cyO adK adV oX t WX hXI v2 _) (cwV 1 hts (gi_V tw_176 tw_177 tw_178 tw_3 tb_k_X_weed gd_k_X_weed) rfl rfl rfl (by decide +kernel) ⟨Nat.le_of_ble_eq_true rfl, Nat.le_of_ble_eq_true rfl⟩) (g_preW hZ hS hA hKN hP hD 6 (XI.recv hXI) rfl) rfl rfl hl.1 rfl (lv_room (Nat.le_of_ble_eq_true rfl)) dL_law_1009 ⟨lw_rc (by omega), lw_rs (by omega)⟩) hP hD hS hA (fun r3 W1 H locs q1 hP hD hS => ?_)
  refine lv_pop hx hb dL_law_1012 rfl ?_
  refine lv_aload_n hx hb dL_law_1013 rfl (lv_at hl 1 rfl) ?_
  refine lv_aload_n hx hb dL_law_1014 rfl (lv_at hl 3 rfl) ?_
  refine lv_iload_n hx hb dL_law_1015 rfl (lv_at hl 0 rfl) ?_
  refine lv_iconst (v := 1) hx hb dL_law_1016 (by decide) ?_
  refine lv_iadd hx hb dL_law_1017 ?_
  refine lv_topi (fun z4 ez4 => ?_)
  have tz4 : z4.toInt = i.toInt + 1 := ti_add ez4 rfl (by decide) (by omega) (by omega)
  refine va_sld hx hb hX hbl hbA hS (vp_i rfl (by omega) (by omega)) dL_law_1018 ?_
  refine lv_topi (fun v5 ev5 => ?_)
  clear ev5
  refine lw_i (va_runV (As := [.int v5]) (rest := []) hfix (cm_weed l dC dI cyB cyI cyJ cyZ cyO adK adV oM t WM hMI v5 _) (cwV 1 hts (gi_V tw_179 tw_180 tw_181 tw_7 tb_k_M_weed gd_k_M_weed) rfl rfl rfl (by decide +kernel) ⟨Nat.le_of_ble_eq_true rfl, Nat.le_of_ble_eq_true rfl⟩) (g_preW hZ hS hA hKN hP hD 7 (MI.recv hMI) rfl) rfl rfl hl.1 rfl (lv_room (Nat.le_of_ble_eq_true rfl)) dL_law_1019 ⟨lw_rc (by omega), lw_rs (by omega)⟩) hP hD hS hA (fun r6 W2 H locs q2 hP hD hS => ?_)
  refine lv_pop hx hb dL_law_1022 rfl ?_
  refine lv_goto (tgt := 1548) hx hb dL_law_1023 (by decide) ?_
  refine W.widen (k := cells + 8) (n := slots + 773) (by omega) (by omega) ?_
  exact kk t W1 W2 H locs q1 q2 hP hD hS
set_option maxHeartbeats 4000000 in
set_option maxRecDepth 100000 in
theorem law_30 {p : Program} {l : Launch} {e : Env} {s : State} {m : MethodId} {below : List Frame} {meth : Method} {c : Code} {b L : Nat} {xs : Nat → Int32} {dC : Nat → ClassId} {dI : Nat → Nat → Nat} {cyB cyI cyJ cyZ cyO : ClassId} {adK adV : Nat → Nat} (C0 : lw_At p s m meth c b L xs) (hL : L ≤ 3072) (hKN : KN (dC, dI) (kT cyB cyI cyJ cyZ cyO) s) (hZ : ZS adK adV (fun q : Nat => s.heap.size ≤ q) s s.heap) {oX oM : Nat} {i t : Int32} {WX WM : va_W} {cells slots : Nat} (hXI : XI cyB cyI cyJ cyZ cyO oX t WX) (hMI : MI cyB cyI cyJ cyZ cyO oM t WM) (hi0 : 0 ≤ i.toInt) (hi6 : i.toInt + 6 ≤ L) (hc : cells + 8 ≤ 600000) (hs : slots + 773 ≤ 7302250) {H : Heap} {locs : List Loc} (hP : va_P (dC, dI) vwCl (WX ++ WM) H) (hD : va_D (fun q : Nat => s.heap.size ≤ q) (WX ++ WM)) (hS : va_S (fun q : Nat => s.heap.size ≤ q) s.heap H locs) {ls : Array Slot} (hl : lv_has ls 4 [(3, .int i), (2, .ref oM), (1, .ref oX), (0, .ref b)]) (kk : ∀ (t : Int32) (WX WM : va_W) (H : Heap) (locs : List Loc), XI cyB cyI cyJ cyZ cyO oX t WX → MI cyB cyI cyJ cyZ cyO oM t WM → va_P (dC, dI) vwCl (WX ++ WM) H → va_D (fun q : Nat => s.heap.size ≤ q) (WX ++ WM) → va_S (fun q : Nat => s.heap.size ≤ q) s.heap H locs → W p l e room_1 s m #[Value.ref b] below meth c H locs (cells + 8) (slots + 773) (lw_Z below #[Value.ref b] s) (F0 m 1548 ls [])) : W p l e room_1 s m #[Value.ref b] below meth c H locs cells slots (lw_Z below #[Value.ref b] s) (F0 m 1026 ls []) := by
  obtain ⟨hx, hb, hr, hml, hown, hts, hX, hbl, hlocks, hgv⟩ := id C0
  have hA : ∀ q : Nat, s.heap.size ≤ q → (fun q : Nat => s.heap.size ≤ q) q := fun _ h => h
  have hbA : ¬ (fun q : Nat => s.heap.size ≤ q) b := Nat.not_le.mpr hbl
  have hfix : CallFix p m c code 4 s #[Value.ref b] lw_tbl R_law := ⟨hx, hb, hml, hown, hts⟩
  refine lv_aload_n hx hb dL_law_1026 rfl (lv_at hl 2 rfl) ?_
  refine lw_i (va_runV (As := []) (rest := []) hfix (cx_fullest l dC dI cyB cyI cyJ cyZ cyO adK adV oX t WX hXI _) (cwV 0 hts (gi_V tw_182 tw_183 tw_184 tw_3 tb_k_X_fullest gd_k_X_fullest) rfl rfl rfl (by decide +kernel) ⟨Nat.le_of_ble_eq_true rfl, Nat.le_of_ble_eq_true rfl⟩) (g_preW hZ hS hA hKN hP hD 6 (XI.recv hXI) rfl) rfl rfl hl.1 rfl (lv_room (Nat.le_of_ble_eq_true rfl)) dL_law_1027 ⟨lw_rc (by omega), lw_rs (by omega)⟩) hP hD hS hA (fun r1 W1 H locs q1 hP hD hS => ?_)
  refine lv_pop hx hb dL_law_1030 rfl ?_
  refine lv_aload_n hx hb dL_law_1031 rfl (lv_at hl 1 rfl) ?_
  refine lw_i (va_runV (As := []) (rest := []) hfix (cm_fullest l dC dI cyB cyI cyJ cyZ cyO adK adV oM t WM hMI _) (cwV 0 hts (gi_V tw_185 tw_186 tw_187 tw_7 tb_k_M_fullest gd_k_M_fullest) rfl rfl rfl (by decide +kernel) ⟨Nat.le_of_ble_eq_true rfl, Nat.le_of_ble_eq_true rfl⟩) (g_preW hZ hS hA hKN hP hD 7 (MI.recv hMI) rfl) rfl rfl hl.1 rfl (lv_room (Nat.le_of_ble_eq_true rfl)) dL_law_1032 ⟨lw_rc (by omega), lw_rs (by omega)⟩) hP hD hS hA (fun r2 W2 H locs q2 hP hD hS => ?_)
  refine lv_pop hx hb dL_law_1035 rfl ?_
  refine lv_goto (tgt := 1548) hx hb dL_law_1036 (by decide) ?_
  refine W.widen (k := cells + 8) (n := slots + 773) (by omega) (by omega) ?_
  exact kk t W1 W2 H locs q1 q2 hP hD hS
set_option maxHeartbeats 4000000 in
set_option maxRecDepth 100000 in
theorem law_31 {p : Program} {l : Launch} {e : Env} {s : State} {m : MethodId} {below : List Frame} {meth : Method} {c : Code} {b L : Nat} {xs : Nat → Int32} {dC : Nat → ClassId} {dI : Nat → Nat → Nat} {cyB cyI cyJ cyZ cyO : ClassId} {adK adV : Nat → Nat} (C0 : lw_At p s m meth c b L xs) (hL : L ≤ 3072) (hKN : KN (dC, dI) (kT cyB cyI cyJ cyZ cyO) s) (hZ : ZS adK adV (fun q : Nat => s.heap.size ≤ q) s s.heap) {oX oM : Nat} {i t : Int32} {WX WM : va_W} {cells slots : Nat} (hXI : XI cyB cyI cyJ cyZ cyO oX t WX) (hMI : MI cyB cyI cyJ cyZ cyO oM t WM) (hi0 : 0 ≤ i.toInt) (hi6 : i.toInt + 6 ≤ L) (hc : cells + 8 ≤ 600000) (hs : slots + 773 ≤ 7302250) {H : Heap} {locs : List Loc} (hP : va_P (dC, dI) vwCl (WX ++ WM) H) (hD : va_D (fun q : Nat => s.heap.size ≤ q) (WX ++ WM)) (hS : va_S (fun q : Nat => s.heap.size ≤ q) s.heap H locs) {ls : Array Slot} (hl : lv_has ls 4 [(3, .int i), (2, .ref oM), (1, .ref oX), (0, .ref b)]) (kk : ∀ (t : Int32) (WX WM : va_W) (H : Heap) (locs : List Loc), XI cyB cyI cyJ cyZ cyO oX t WX → MI cyB cyI cyJ cyZ cyO oM t WM → va_P (dC, dI) vwCl (WX ++ WM) H → va_D (fun q : Nat => s.heap.size ≤ q) (WX ++ WM) → va_S (fun q : Nat => s.heap.size ≤ q) s.heap H locs → W p l e room_1 s m #[Value.ref b] below meth c H locs (cells + 8) (slots + 773) (lw_Z below #[Value.ref b] s) (F0 m 1548 ls [])) : W p l e room_1 s m #[Value.ref b] below meth c H locs cells slots (lw_Z below #[Value.ref b] s) (F0 m 1039 ls []) := by
  obtain ⟨hx, hb, hr, hml, hown, hts, hX, hbl, hlocks, hgv⟩ := id C0
  have hA : ∀ q : Nat, s.heap.size ≤ q → (fun q : Nat => s.heap.size ≤ q) q := fun _ h => h
  have hbA : ¬ (fun q : Nat => s.heap.size ≤ q) b := Nat.not_le.mpr hbl
  have hfix : CallFix p m c code 4 s #[Value.ref b] lw_tbl R_law := ⟨hx, hb, hml, hown, hts⟩
  refine lv_aload_n hx hb dL_law_1039 rfl (lv_at hl 2 rfl) ?_
  refine lw_i (va_runV (As := []) (rest := []) hfix (cx_trip l dC dI cyB cyI cyJ cyZ cyO adK adV oX t WX hXI _) (cwV 0 hts (gi_V tw_188 tw_189 tw_190 tw_3 tb_k_X_trip gd_k_X_trip) rfl rfl rfl (by decide +kernel) ⟨Nat.le_of_ble_eq_true rfl, Nat.le_of_ble_eq_true rfl⟩) (g_preW hZ hS hA hKN hP hD 6 (XI.recv hXI) rfl) rfl rfl hl.1 rfl (lv_room (Nat.le_of_ble_eq_true rfl)) dL_law_1040 ⟨lw_rc (by omega), lw_rs (by omega)⟩) hP hD hS hA (fun r1 W1 H locs q1 hP hD hS => ?_)
  refine lv_pop hx hb dL_law_1043 rfl ?_
  refine lv_aload_n hx hb dL_law_1044 rfl (lv_at hl 1 rfl) ?_
  refine lw_i (va_runV (As := []) (rest := []) hfix (cm_trip l dC dI cyB cyI cyJ cyZ cyO adK adV oM t WM hMI _) (cwV 0 hts (gi_V tw_191 tw_192 tw_193 tw_7 tb_k_M_trip gd_k_M_trip) rfl rfl rfl (by decide +kernel) ⟨Nat.le_of_ble_eq_true rfl, Nat.le_of_ble_eq_true rfl⟩) (g_preW hZ hS hA hKN hP hD 7 (MI.recv hMI) rfl) rfl rfl hl.1 rfl (lv_room (Nat.le_of_ble_eq_true rfl)) dL_law_1045 ⟨lw_rc (by omega), lw_rs (by omega)⟩) hP hD hS hA (fun r2 W2 H locs q2 hP hD hS => ?_)
  refine lv_pop hx hb dL_law_1048 rfl ?_
  refine lv_goto (tgt := 1548) hx hb dL_law_1049 (by decide) ?_
  refine W.widen (k := cells + 8) (n := slots + 773) (by omega) (by omega) ?_
  exact kk t W1 W2 H locs q1 q2 hP hD hS
set_option maxHeartbeats 4000000 in
set_option maxRecDepth 100000 in
theorem law_32 {p : Program} {l : Launch} {e : Env} {s : State} {m : MethodId} {below : List Frame} {meth : Method} {c : Code} {b L : Nat} {xs : Nat → Int32} {dC : Nat → ClassId} {dI : Nat → Nat → Nat} {cyB cyI cyJ cyZ cyO : ClassId} {adK adV : Nat → Nat} (C0 : lw_At p s m meth c b L xs) (hL : L ≤ 3072) (hKN : KN (dC, dI) (kT cyB cyI cyJ cyZ cyO) s) (hZ : ZS adK adV (fun q : Nat => s.heap.size ≤ q) s s.heap) {oX oM : Nat} {i t : Int32} {WX WM : va_W} {cells slots : Nat} (hXI : XI cyB cyI cyJ cyZ cyO oX t WX) (hMI : MI cyB cyI cyJ cyZ cyO oM t WM) (hi0 : 0 ≤ i.toInt) (hi6 : i.toInt + 6 ≤ L) (hc : cells + 8 ≤ 600000) (hs : slots + 773 ≤ 7302250) {H : Heap} {locs : List Loc} (hP : va_P (dC, dI) vwCl (WX ++ WM) H) (hD : va_D (fun q : Nat => s.heap.size ≤ q) (WX ++ WM)) (hS : va_S (fun q : Nat => s.heap.size ≤ q) s.heap H locs) {ls : Array Slot} (hl : lv_has ls 4 [(3, .int i), (2, .ref oM), (1, .ref oX), (0, .ref b)]) (kk : ∀ (t : Int32) (WX WM : va_W) (H : Heap) (locs : List Loc), XI cyB cyI cyJ cyZ cyO oX t WX → MI cyB cyI cyJ cyZ cyO oM t WM → va_P (dC, dI) vwCl (WX ++ WM) H → va_D (fun q : Nat => s.heap.size ≤ q) (WX ++ WM) → va_S (fun q : Nat => s.heap.size ≤ q) s.heap H locs → W p l e room_1 s m #[Value.ref b] below meth c H locs (cells + 8) (slots + 773) (lw_Z below #[Value.ref b] s) (F0 m 1548 ls [])) : W p l e room_1 s m #[Value.ref b] below meth c H locs cells slots (lw_Z below #[Value.ref b] s) (F0 m 1052 ls []) := by
  obtain ⟨hx, hb, hr, hml, hown, hts, hX, hbl, hlocks, hgv⟩ := id C0
  have hA : ∀ q : Nat, s.heap.size ≤ q → (fun q : Nat => s.heap.size ≤ q) q := fun _ h => h
  have hbA : ¬ (fun q : Nat => s.heap.size ≤ q) b := Nat.not_le.mpr hbl
  have hfix : CallFix p m c code 4 s #[Value.ref b] lw_tbl R_law := ⟨hx, hb, hml, hown, hts⟩
  refine lv_aload_n hx hb dL_law_1052 rfl (lv_at hl 2 rfl) ?_
  refine lv_aload_n hx hb dL_law_1053 rfl (lv_at hl 3 rfl) ?_
  refine lv_iload_n hx hb dL_law_1054 rfl (lv_at hl 0 rfl) ?_
  refine lv_iconst (v := 1) hx hb dL_law_1055 (by decide) ?_
  refine lv_iadd hx hb dL_law_1056 ?_
  refine lv_topi (fun z1 ez1 => ?_)
  have tz1 : z1.toInt = i.toInt + 1 := ti_add ez1 rfl (by decide) (by omega) (by omega)
  refine va_sld hx hb hX hbl hbA hS (vp_i rfl (by omega) (by omega)) dL_law_1057 ?_
  refine lv_topi (fun v2 ev2 => ?_)
  clear ev2
  refine lw_i (va_runV (As := [.int v2]) (rest := []) hfix (cx_without l dC dI cyB cyI cyJ cyZ cyO adK adV oX t WX hXI v2 _) (cwV 1 hts (gi_V tw_194 tw_195 tw_196 tw_3 tb_k_X_without gd_k_X_without) rfl rfl rfl (by decide +kernel) ⟨Nat.le_of_ble_eq_true rfl, Nat.le_of_ble_eq_true rfl⟩) (g_preW hZ hS hA hKN hP hD 6 (XI.recv hXI) rfl) rfl rfl hl.1 rfl (lv_room (Nat.le_of_ble_eq_true rfl)) dL_law_1058 ⟨lw_rc (by omega), lw_rs (by omega)⟩) hP hD hS hA (fun r3 W1 H locs q1 hP hD hS => ?_)
  refine lv_pop hx hb dL_law_1061 rfl ?_
  refine lv_aload_n hx hb dL_law_1062 rfl (lv_at hl 1 rfl) ?_
  refine lv_aload_n hx hb dL_law_1063 rfl (lv_at hl 3 rfl) ?_
  refine lv_iload_n hx hb dL_law_1064 rfl (lv_at hl 0 rfl) ?_
  refine lv_iconst (v := 1) hx hb dL_law_1065 (by decide) ?_
  refine lv_iadd hx hb dL_law_1066 ?_
  refine lv_topi (fun z4 ez4 => ?_)
  have tz4 : z4.toInt = i.toInt + 1 := ti_add ez4 rfl (by decide) (by omega) (by omega)
  refine va_sld hx hb hX hbl hbA hS (vp_i rfl (by omega) (by omega)) dL_law_1067 ?_
  refine lv_topi (fun v5 ev5 => ?_)
  clear ev5
  refine lw_i (va_runV (As := [.int v5]) (rest := []) hfix (cm_without l dC dI cyB cyI cyJ cyZ cyO adK adV oM t WM hMI v5 _) (cwV 1 hts (gi_V tw_197 tw_198 tw_199 tw_7 tb_k_M_without gd_k_M_without) rfl rfl rfl (by decide +kernel) ⟨Nat.le_of_ble_eq_true rfl, Nat.le_of_ble_eq_true rfl⟩) (g_preW hZ hS hA hKN hP hD 7 (MI.recv hMI) rfl) rfl rfl hl.1 rfl (lv_room (Nat.le_of_ble_eq_true rfl)) dL_law_1068 ⟨lw_rc (by omega), lw_rs (by omega)⟩) hP hD hS hA (fun r6 W2 H locs q2 hP hD hS => ?_)
  refine lv_pop hx hb dL_law_1071 rfl ?_
  refine lv_goto (tgt := 1548) hx hb dL_law_1072 (by decide) ?_
  refine W.widen (k := cells + 8) (n := slots + 773) (by omega) (by omega) ?_
  exact kk t W1 W2 H locs q1 q2 hP hD hS
set_option maxHeartbeats 4000000 in
set_option maxRecDepth 100000 in
theorem law_33 {p : Program} {l : Launch} {e : Env} {s : State} {m : MethodId} {below : List Frame} {meth : Method} {c : Code} {b L : Nat} {xs : Nat → Int32} {dC : Nat → ClassId} {dI : Nat → Nat → Nat} {cyB cyI cyJ cyZ cyO : ClassId} {adK adV : Nat → Nat} (C0 : lw_At p s m meth c b L xs) (hL : L ≤ 3072) (hKN : KN (dC, dI) (kT cyB cyI cyJ cyZ cyO) s) (hZ : ZS adK adV (fun q : Nat => s.heap.size ≤ q) s s.heap) {oX oM : Nat} {i t : Int32} {WX WM : va_W} {cells slots : Nat} (hXI : XI cyB cyI cyJ cyZ cyO oX t WX) (hMI : MI cyB cyI cyJ cyZ cyO oM t WM) (hi0 : 0 ≤ i.toInt) (hi6 : i.toInt + 6 ≤ L) (hc : cells + 8 ≤ 600000) (hs : slots + 773 ≤ 7302250) {H : Heap} {locs : List Loc} (hP : va_P (dC, dI) vwCl (WX ++ WM) H) (hD : va_D (fun q : Nat => s.heap.size ≤ q) (WX ++ WM)) (hS : va_S (fun q : Nat => s.heap.size ≤ q) s.heap H locs) {ls : Array Slot} (hl : lv_has ls 4 [(3, .int i), (2, .ref oM), (1, .ref oX), (0, .ref b)]) (kk : ∀ (t : Int32) (WX WM : va_W) (H : Heap) (locs : List Loc), XI cyB cyI cyJ cyZ cyO oX t WX → MI cyB cyI cyJ cyZ cyO oM t WM → va_P (dC, dI) vwCl (WX ++ WM) H → va_D (fun q : Nat => s.heap.size ≤ q) (WX ++ WM) → va_S (fun q : Nat => s.heap.size ≤ q) s.heap H locs → W p l e room_1 s m #[Value.ref b] below meth c H locs (cells + 8) (slots + 773) (lw_Z below #[Value.ref b] s) (F0 m 1548 ls [])) : W p l e room_1 s m #[Value.ref b] below meth c H locs cells slots (lw_Z below #[Value.ref b] s) (F0 m 1075 ls []) := by
  obtain ⟨hx, hb, hr, hml, hown, hts, hX, hbl, hlocks, hgv⟩ := id C0
  have hA : ∀ q : Nat, s.heap.size ≤ q → (fun q : Nat => s.heap.size ≤ q) q := fun _ h => h
  have hbA : ¬ (fun q : Nat => s.heap.size ≤ q) b := Nat.not_le.mpr hbl
  have hfix : CallFix p m c code 4 s #[Value.ref b] lw_tbl R_law := ⟨hx, hb, hml, hown, hts⟩
  refine lv_aload_n hx hb dL_law_1075 rfl (lv_at hl 2 rfl) ?_
  refine lv_aload_n hx hb dL_law_1076 rfl (lv_at hl 3 rfl) ?_
  refine lv_iload_n hx hb dL_law_1077 rfl (lv_at hl 0 rfl) ?_
  refine lv_iconst (v := 1) hx hb dL_law_1078 (by decide) ?_
  refine lv_iadd hx hb dL_law_1079 ?_
  refine lv_topi (fun z1 ez1 => ?_)
  have tz1 : z1.toInt = i.toInt + 1 := ti_add ez1 rfl (by decide) (by omega) (by omega)
  refine va_sld hx hb hX hbl hbA hS (vp_i rfl (by omega) (by omega)) dL_law_1080 ?_
  refine lv_topi (fun v2 ev2 => ?_)
  clear ev2
  refine lw_i (va_runV (As := [.int v2]) (rest := []) hfix (cx_latest l dC dI cyB cyI cyJ cyZ cyO adK adV oX t WX hXI v2 _) (cwV 1 hts (gi_V tw_200 tw_201 tw_202 tw_3 tb_k_X_latest gd_k_X_latest) rfl rfl rfl (by decide +kernel) ⟨Nat.le_of_ble_eq_true rfl, Nat.le_of_ble_eq_true rfl⟩) (g_preW hZ hS hA hKN hP hD 6 (XI.recv hXI) rfl) rfl rfl hl.1 rfl (lv_room (Nat.le_of_ble_eq_true rfl)) dL_law_1081 ⟨lw_rc (by omega), lw_rs (by omega)⟩) hP hD hS hA (fun r3 W1 H locs q1 hP hD hS => ?_)
  refine lv_pop hx hb dL_law_1084 rfl ?_
  refine lv_aload_n hx hb dL_law_1085 rfl (lv_at hl 1 rfl) ?_
  refine lv_aload_n hx hb dL_law_1086 rfl (lv_at hl 3 rfl) ?_
  refine lv_iload_n hx hb dL_law_1087 rfl (lv_at hl 0 rfl) ?_
  refine lv_iconst (v := 1) hx hb dL_law_1088 (by decide) ?_
  refine lv_iadd hx hb dL_law_1089 ?_
  refine lv_topi (fun z4 ez4 => ?_)
  have tz4 : z4.toInt = i.toInt + 1 := ti_add ez4 rfl (by decide) (by omega) (by omega)
  refine va_sld hx hb hX hbl hbA hS (vp_i rfl (by omega) (by omega)) dL_law_1090 ?_
  refine lv_topi (fun v5 ev5 => ?_)
  clear ev5
  refine lw_i (va_runV (As := [.int v5]) (rest := []) hfix (cm_latest l dC dI cyB cyI cyJ cyZ cyO adK adV oM t WM hMI v5 _) (cwV 1 hts (gi_V tw_203 tw_204 tw_205 tw_7 tb_k_M_latest gd_k_M_latest) rfl rfl rfl (by decide +kernel) ⟨Nat.le_of_ble_eq_true rfl, Nat.le_of_ble_eq_true rfl⟩) (g_preW hZ hS hA hKN hP hD 7 (MI.recv hMI) rfl) rfl rfl hl.1 rfl (lv_room (Nat.le_of_ble_eq_true rfl)) dL_law_1091 ⟨lw_rc (by omega), lw_rs (by omega)⟩) hP hD hS hA (fun r6 W2 H locs q2 hP hD hS => ?_)
  refine lv_pop hx hb dL_law_1094 rfl ?_
  refine lv_goto (tgt := 1548) hx hb dL_law_1095 (by decide) ?_
  refine W.widen (k := cells + 8) (n := slots + 773) (by omega) (by omega) ?_
  exact kk t W1 W2 H locs q1 q2 hP hD hS
set_option maxHeartbeats 4000000 in
set_option maxRecDepth 100000 in
theorem law_34 {p : Program} {l : Launch} {e : Env} {s : State} {m : MethodId} {below : List Frame} {meth : Method} {c : Code} {b L : Nat} {xs : Nat → Int32} {dC : Nat → ClassId} {dI : Nat → Nat → Nat} {cyB cyI cyJ cyZ cyO : ClassId} {adK adV : Nat → Nat} (C0 : lw_At p s m meth c b L xs) (hL : L ≤ 3072) (hKN : KN (dC, dI) (kT cyB cyI cyJ cyZ cyO) s) (hZ : ZS adK adV (fun q : Nat => s.heap.size ≤ q) s s.heap) {oX oM : Nat} {i t : Int32} {WX WM : va_W} {cells slots : Nat} (hXI : XI cyB cyI cyJ cyZ cyO oX t WX) (hMI : MI cyB cyI cyJ cyZ cyO oM t WM) (hi0 : 0 ≤ i.toInt) (hi6 : i.toInt + 6 ≤ L) (hc : cells + 8 ≤ 600000) (hs : slots + 773 ≤ 7302250) {H : Heap} {locs : List Loc} (hP : va_P (dC, dI) vwCl (WX ++ WM) H) (hD : va_D (fun q : Nat => s.heap.size ≤ q) (WX ++ WM)) (hS : va_S (fun q : Nat => s.heap.size ≤ q) s.heap H locs) {ls : Array Slot} (hl : lv_has ls 4 [(3, .int i), (2, .ref oM), (1, .ref oX), (0, .ref b)]) (kk : ∀ (t : Int32) (WX WM : va_W) (H : Heap) (locs : List Loc), XI cyB cyI cyJ cyZ cyO oX t WX → MI cyB cyI cyJ cyZ cyO oM t WM → va_P (dC, dI) vwCl (WX ++ WM) H → va_D (fun q : Nat => s.heap.size ≤ q) (WX ++ WM) → va_S (fun q : Nat => s.heap.size ≤ q) s.heap H locs → W p l e room_1 s m #[Value.ref b] below meth c H locs (cells + 8) (slots + 773) (lw_Z below #[Value.ref b] s) (F0 m 1548 ls [])) : W p l e room_1 s m #[Value.ref b] below meth c H locs cells slots (lw_Z below #[Value.ref b] s) (F0 m 1098 ls []) := by
  obtain ⟨hx, hb, hr, hml, hown, hts, hX, hbl, hlocks, hgv⟩ := id C0
  have hA : ∀ q : Nat, s.heap.size ≤ q → (fun q : Nat => s.heap.size ≤ q) q := fun _ h => h
  have hbA : ¬ (fun q : Nat => s.heap.size ≤ q) b := Nat.not_le.mpr hbl
  have hfix : CallFix p m c code 4 s #[Value.ref b] lw_tbl R_law := ⟨hx, hb, hml, hown, hts⟩
  refine lv_aload_n hx hb dL_law_1098 rfl (lv_at hl 2 rfl) ?_
  refine lw_i (va_runV (As := []) (rest := []) hfix (cx_traffic l dC dI cyB cyI cyJ cyZ cyO adK adV oX t WX hXI _) (cwV 0 hts (gi_V tw_206 tw_207 tw_208 tw_3 tb_k_X_traffic gd_k_X_traffic) rfl rfl rfl (by decide +kernel) ⟨Nat.le_of_ble_eq_true rfl, Nat.le_of_ble_eq_true rfl⟩) (g_preW hZ hS hA hKN hP hD 6 (XI.recv hXI) rfl) rfl rfl hl.1 rfl (lv_room (Nat.le_of_ble_eq_true rfl)) dL_law_1099 ⟨lw_rc (by omega), lw_rs (by omega)⟩) hP hD hS hA (fun r1 W1 H locs q1 hP hD hS => ?_)
  refine lv_pop hx hb dL_law_1102 rfl ?_
  refine lv_aload_n hx hb dL_law_1103 rfl (lv_at hl 1 rfl) ?_
  refine lw_i (va_runV (As := []) (rest := []) hfix (cm_traffic l dC dI cyB cyI cyJ cyZ cyO adK adV oM t WM hMI _) (cwV 0 hts (gi_V tw_209 tw_210 tw_211 tw_7 tb_k_M_traffic gd_k_M_traffic) rfl rfl rfl (by decide +kernel) ⟨Nat.le_of_ble_eq_true rfl, Nat.le_of_ble_eq_true rfl⟩) (g_preW hZ hS hA hKN hP hD 7 (MI.recv hMI) rfl) rfl rfl hl.1 rfl (lv_room (Nat.le_of_ble_eq_true rfl)) dL_law_1104 ⟨lw_rc (by omega), lw_rs (by omega)⟩) hP hD hS hA (fun r2 W2 H locs q2 hP hD hS => ?_)
  refine lv_pop hx hb dL_law_1107 rfl ?_
  refine lv_goto (tgt := 1548) hx hb dL_law_1108 (by decide) ?_
  refine W.widen (k := cells + 8) (n := slots + 773) (by omega) (by omega) ?_
  exact kk t W1 W2 H locs q1 q2 hP hD hS
set_option maxHeartbeats 4000000 in
set_option maxRecDepth 100000 in
theorem law_35 {p : Program} {l : Launch} {e : Env} {s : State} {m : MethodId} {below : List Frame} {meth : Method} {c : Code} {b L : Nat} {xs : Nat → Int32} {dC : Nat → ClassId} {dI : Nat → Nat → Nat} {cyB cyI cyJ cyZ cyO : ClassId} {adK adV : Nat → Nat} (C0 : lw_At p s m meth c b L xs) (hL : L ≤ 3072) (hKN : KN (dC, dI) (kT cyB cyI cyJ cyZ cyO) s) (hZ : ZS adK adV (fun q : Nat => s.heap.size ≤ q) s s.heap) {oX oM : Nat} {i t : Int32} {WX WM : va_W} {cells slots : Nat} (hXI : XI cyB cyI cyJ cyZ cyO oX t WX) (hMI : MI cyB cyI cyJ cyZ cyO oM t WM) (hi0 : 0 ≤ i.toInt) (hi6 : i.toInt + 6 ≤ L) (hc : cells + 8 ≤ 600000) (hs : slots + 773 ≤ 7302250) {H : Heap} {locs : List Loc} (hP : va_P (dC, dI) vwCl (WX ++ WM) H) (hD : va_D (fun q : Nat => s.heap.size ≤ q) (WX ++ WM)) (hS : va_S (fun q : Nat => s.heap.size ≤ q) s.heap H locs) {ls : Array Slot} (hl : lv_has ls 4 [(3, .int i), (2, .ref oM), (1, .ref oX), (0, .ref b)]) (kk : ∀ (t : Int32) (WX WM : va_W) (H : Heap) (locs : List Loc), XI cyB cyI cyJ cyZ cyO oX t WX → MI cyB cyI cyJ cyZ cyO oM t WM → va_P (dC, dI) vwCl (WX ++ WM) H → va_D (fun q : Nat => s.heap.size ≤ q) (WX ++ WM) → va_S (fun q : Nat => s.heap.size ≤ q) s.heap H locs → W p l e room_1 s m #[Value.ref b] below meth c H locs (cells + 8) (slots + 773) (lw_Z below #[Value.ref b] s) (F0 m 1548 ls [])) : W p l e room_1 s m #[Value.ref b] below meth c H locs cells slots (lw_Z below #[Value.ref b] s) (F0 m 1111 ls []) := by
  obtain ⟨hx, hb, hr, hml, hown, hts, hX, hbl, hlocks, hgv⟩ := id C0
  have hA : ∀ q : Nat, s.heap.size ≤ q → (fun q : Nat => s.heap.size ≤ q) q := fun _ h => h
  have hbA : ¬ (fun q : Nat => s.heap.size ≤ q) b := Nat.not_le.mpr hbl
  have hfix : CallFix p m c code 4 s #[Value.ref b] lw_tbl R_law := ⟨hx, hb, hml, hown, hts⟩
  refine lv_aload_n hx hb dL_law_1111 rfl (lv_at hl 2 rfl) ?_
  refine lv_aload_n hx hb dL_law_1112 rfl (lv_at hl 3 rfl) ?_
  refine lv_iload_n hx hb dL_law_1113 rfl (lv_at hl 0 rfl) ?_
  refine lv_iconst (v := 1) hx hb dL_law_1114 (by decide) ?_
  refine lv_iadd hx hb dL_law_1115 ?_
  refine lv_topi (fun z1 ez1 => ?_)
  have tz1 : z1.toInt = i.toInt + 1 := ti_add ez1 rfl (by decide) (by omega) (by omega)
  refine va_sld hx hb hX hbl hbA hS (vp_i rfl (by omega) (by omega)) dL_law_1116 ?_
  refine lv_topi (fun v2 ev2 => ?_)
  clear ev2
  refine lw_i (va_runV (As := [.int v2]) (rest := []) hfix (cx_lag l dC dI cyB cyI cyJ cyZ cyO adK adV oX t WX hXI v2 _) (cwV 1 hts (gi_V tw_212 tw_213 tw_214 tw_3 tb_k_X_lag gd_k_X_lag) rfl rfl rfl (by decide +kernel) ⟨Nat.le_of_ble_eq_true rfl, Nat.le_of_ble_eq_true rfl⟩) (g_preW hZ hS hA hKN hP hD 6 (XI.recv hXI) rfl) rfl rfl hl.1 rfl (lv_room (Nat.le_of_ble_eq_true rfl)) dL_law_1117 ⟨lw_rc (by omega), lw_rs (by omega)⟩) hP hD hS hA (fun r3 W1 H locs q1 hP hD hS => ?_)
  refine lv_pop hx hb dL_law_1120 rfl ?_
  refine lv_aload_n hx hb dL_law_1121 rfl (lv_at hl 1 rfl) ?_
  refine lv_aload_n hx hb dL_law_1122 rfl (lv_at hl 3 rfl) ?_
  refine lv_iload_n hx hb dL_law_1123 rfl (lv_at hl 0 rfl) ?_
  refine lv_iconst (v := 1) hx hb dL_law_1124 (by decide) ?_
  refine lv_iadd hx hb dL_law_1125 ?_
  refine lv_topi (fun z4 ez4 => ?_)
  have tz4 : z4.toInt = i.toInt + 1 := ti_add ez4 rfl (by decide) (by omega) (by omega)
  refine va_sld hx hb hX hbl hbA hS (vp_i rfl (by omega) (by omega)) dL_law_1126 ?_
  refine lv_topi (fun v5 ev5 => ?_)
  clear ev5
  refine lw_i (va_runV (As := [.int v5]) (rest := []) hfix (cm_lag l dC dI cyB cyI cyJ cyZ cyO adK adV oM t WM hMI v5 _) (cwV 1 hts (gi_V tw_215 tw_216 tw_217 tw_7 tb_k_M_lag gd_k_M_lag) rfl rfl rfl (by decide +kernel) ⟨Nat.le_of_ble_eq_true rfl, Nat.le_of_ble_eq_true rfl⟩) (g_preW hZ hS hA hKN hP hD 7 (MI.recv hMI) rfl) rfl rfl hl.1 rfl (lv_room (Nat.le_of_ble_eq_true rfl)) dL_law_1127 ⟨lw_rc (by omega), lw_rs (by omega)⟩) hP hD hS hA (fun r6 W2 H locs q2 hP hD hS => ?_)
  refine lv_pop hx hb dL_law_1130 rfl ?_
  refine lv_goto (tgt := 1548) hx hb dL_law_1131 (by decide) ?_
  refine W.widen (k := cells + 8) (n := slots + 773) (by omega) (by omega) ?_
  exact kk t W1 W2 H locs q1 q2 hP hD hS
set_option maxHeartbeats 4000000 in
set_option maxRecDepth 100000 in
theorem law_36 {p : Program} {l : Launch} {e : Env} {s : State} {m : MethodId} {below : List Frame} {meth : Method} {c : Code} {b L : Nat} {xs : Nat → Int32} {dC : Nat → ClassId} {dI : Nat → Nat → Nat} {cyB cyI cyJ cyZ cyO : ClassId} {adK adV : Nat → Nat} (C0 : lw_At p s m meth c b L xs) (hL : L ≤ 3072) (hKN : KN (dC, dI) (kT cyB cyI cyJ cyZ cyO) s) (hZ : ZS adK adV (fun q : Nat => s.heap.size ≤ q) s s.heap) {oX oM : Nat} {i t : Int32} {WX WM : va_W} {cells slots : Nat} (hXI : XI cyB cyI cyJ cyZ cyO oX t WX) (hMI : MI cyB cyI cyJ cyZ cyO oM t WM) (hi0 : 0 ≤ i.toInt) (hi6 : i.toInt + 6 ≤ L) (hc : cells + 8 ≤ 600000) (hs : slots + 773 ≤ 7302250) {H : Heap} {locs : List Loc} (hP : va_P (dC, dI) vwCl (WX ++ WM) H) (hD : va_D (fun q : Nat => s.heap.size ≤ q) (WX ++ WM)) (hS : va_S (fun q : Nat => s.heap.size ≤ q) s.heap H locs) {ls : Array Slot} (hl : lv_has ls 4 [(3, .int i), (2, .ref oM), (1, .ref oX), (0, .ref b)]) (kk : ∀ (t : Int32) (WX WM : va_W) (H : Heap) (locs : List Loc), XI cyB cyI cyJ cyZ cyO oX t WX → MI cyB cyI cyJ cyZ cyO oM t WM → va_P (dC, dI) vwCl (WX ++ WM) H → va_D (fun q : Nat => s.heap.size ≤ q) (WX ++ WM) → va_S (fun q : Nat => s.heap.size ≤ q) s.heap H locs → W p l e room_1 s m #[Value.ref b] below meth c H locs (cells + 8) (slots + 773) (lw_Z below #[Value.ref b] s) (F0 m 1548 ls [])) : W p l e room_1 s m #[Value.ref b] below meth c H locs cells slots (lw_Z below #[Value.ref b] s) (F0 m 1134 ls []) := by
  obtain ⟨hx, hb, hr, hml, hown, hts, hX, hbl, hlocks, hgv⟩ := id C0
  have hA : ∀ q : Nat, s.heap.size ≤ q → (fun q : Nat => s.heap.size ≤ q) q := fun _ h => h
  have hbA : ¬ (fun q : Nat => s.heap.size ≤ q) b := Nat.not_le.mpr hbl
  have hfix : CallFix p m c code 4 s #[Value.ref b] lw_tbl R_law := ⟨hx, hb, hml, hown, hts⟩
  refine lv_aload_n hx hb dL_law_1134 rfl (lv_at hl 2 rfl) ?_
  refine lv_aload_n hx hb dL_law_1135 rfl (lv_at hl 3 rfl) ?_
  refine lv_iload_n hx hb dL_law_1136 rfl (lv_at hl 0 rfl) ?_
  refine lv_iconst (v := 1) hx hb dL_law_1137 (by decide) ?_
  refine lv_iadd hx hb dL_law_1138 ?_
  refine lv_topi (fun z1 ez1 => ?_)
  have tz1 : z1.toInt = i.toInt + 1 := ti_add ez1 rfl (by decide) (by omega) (by omega)
  refine va_sld hx hb hX hbl hbA hS (vp_i rfl (by omega) (by omega)) dL_law_1139 ?_
  refine lv_topi (fun v2 ev2 => ?_)
  clear ev2
  refine lw_i (va_runV (As := [.int v2]) (rest := []) hfix (cx_peak l dC dI cyB cyI cyJ cyZ cyO adK adV oX t WX hXI v2 _) (cwV 1 hts (gi_V tw_218 tw_219 tw_220 tw_3 tb_k_X_peak gd_k_X_peak) rfl rfl rfl (by decide +kernel) ⟨Nat.le_of_ble_eq_true rfl, Nat.le_of_ble_eq_true rfl⟩) (g_preW hZ hS hA hKN hP hD 6 (XI.recv hXI) rfl) rfl rfl hl.1 rfl (lv_room (Nat.le_of_ble_eq_true rfl)) dL_law_1140 ⟨lw_rc (by omega), lw_rs (by omega)⟩) hP hD hS hA (fun r3 W1 H locs q1 hP hD hS => ?_)
  refine lv_pop hx hb dL_law_1143 rfl ?_
  refine lv_aload_n hx hb dL_law_1144 rfl (lv_at hl 1 rfl) ?_
  refine lv_aload_n hx hb dL_law_1145 rfl (lv_at hl 3 rfl) ?_
  refine lv_iload_n hx hb dL_law_1146 rfl (lv_at hl 0 rfl) ?_
  refine lv_iconst (v := 1) hx hb dL_law_1147 (by decide) ?_
  refine lv_iadd hx hb dL_law_1148 ?_
  refine lv_topi (fun z4 ez4 => ?_)
  have tz4 : z4.toInt = i.toInt + 1 := ti_add ez4 rfl (by decide) (by omega) (by omega)
  refine va_sld hx hb hX hbl hbA hS (vp_i rfl (by omega) (by omega)) dL_law_1149 ?_
  refine lv_topi (fun v5 ev5 => ?_)
  clear ev5
  refine lw_i (va_runV (As := [.int v5]) (rest := []) hfix (cm_peak l dC dI cyB cyI cyJ cyZ cyO adK adV oM t WM hMI v5 _) (cwV 1 hts (gi_V tw_221 tw_222 tw_223 tw_7 tb_k_M_peak gd_k_M_peak) rfl rfl rfl (by decide +kernel) ⟨Nat.le_of_ble_eq_true rfl, Nat.le_of_ble_eq_true rfl⟩) (g_preW hZ hS hA hKN hP hD 7 (MI.recv hMI) rfl) rfl rfl hl.1 rfl (lv_room (Nat.le_of_ble_eq_true rfl)) dL_law_1150 ⟨lw_rc (by omega), lw_rs (by omega)⟩) hP hD hS hA (fun r6 W2 H locs q2 hP hD hS => ?_)
  refine lv_pop hx hb dL_law_1153 rfl ?_
  refine lv_goto (tgt := 1548) hx hb dL_law_1154 (by decide) ?_
  refine W.widen (k := cells + 8) (n := slots + 773) (by omega) (by omega) ?_
  exact kk t W1 W2 H locs q1 q2 hP hD hS
set_option maxHeartbeats 4000000 in
set_option maxRecDepth 100000 in
theorem law_37 {p : Program} {l : Launch} {e : Env} {s : State} {m : MethodId} {below : List Frame} {meth : Method} {c : Code} {b L : Nat} {xs : Nat → Int32} {dC : Nat → ClassId} {dI : Nat → Nat → Nat} {cyB cyI cyJ cyZ cyO : ClassId} {adK adV : Nat → Nat} (C0 : lw_At p s m meth c b L xs) (hL : L ≤ 3072) (hKN : KN (dC, dI) (kT cyB cyI cyJ cyZ cyO) s) (hZ : ZS adK adV (fun q : Nat => s.heap.size ≤ q) s s.heap) {oX oM : Nat} {i t : Int32} {WX WM : va_W} {cells slots : Nat} (hXI : XI cyB cyI cyJ cyZ cyO oX t WX) (hMI : MI cyB cyI cyJ cyZ cyO oM t WM) (hi0 : 0 ≤ i.toInt) (hi6 : i.toInt + 6 ≤ L) (hc : cells + 8 ≤ 600000) (hs : slots + 773 ≤ 7302250) {H : Heap} {locs : List Loc} (hP : va_P (dC, dI) vwCl (WX ++ WM) H) (hD : va_D (fun q : Nat => s.heap.size ≤ q) (WX ++ WM)) (hS : va_S (fun q : Nat => s.heap.size ≤ q) s.heap H locs) {ls : Array Slot} (hl : lv_has ls 4 [(3, .int i), (2, .ref oM), (1, .ref oX), (0, .ref b)]) (kk : ∀ (t : Int32) (WX WM : va_W) (H : Heap) (locs : List Loc), XI cyB cyI cyJ cyZ cyO oX t WX → MI cyB cyI cyJ cyZ cyO oM t WM → va_P (dC, dI) vwCl (WX ++ WM) H → va_D (fun q : Nat => s.heap.size ≤ q) (WX ++ WM) → va_S (fun q : Nat => s.heap.size ≤ q) s.heap H locs → W p l e room_1 s m #[Value.ref b] below meth c H locs (cells + 8) (slots + 773) (lw_Z below #[Value.ref b] s) (F0 m 1548 ls [])) : W p l e room_1 s m #[Value.ref b] below meth c H locs cells slots (lw_Z below #[Value.ref b] s) (F0 m 1157 ls []) := by
  obtain ⟨hx, hb, hr, hml, hown, hts, hX, hbl, hlocks, hgv⟩ := id C0
  have hA : ∀ q : Nat, s.heap.size ≤ q → (fun q : Nat => s.heap.size ≤ q) q := fun _ h => h
  have hbA : ¬ (fun q : Nat => s.heap.size ≤ q) b := Nat.not_le.mpr hbl
  have hfix : CallFix p m c code 4 s #[Value.ref b] lw_tbl R_law := ⟨hx, hb, hml, hown, hts⟩
  refine lv_aload_n hx hb dL_law_1157 rfl (lv_at hl 2 rfl) ?_
  refine lv_aload_n hx hb dL_law_1158 rfl (lv_at hl 3 rfl) ?_
  refine lv_iload_n hx hb dL_law_1159 rfl (lv_at hl 0 rfl) ?_
  refine lv_iconst (v := 1) hx hb dL_law_1160 (by decide) ?_
  refine lv_iadd hx hb dL_law_1161 ?_
  refine lv_topi (fun z1 ez1 => ?_)
  have tz1 : z1.toInt = i.toInt + 1 := ti_add ez1 rfl (by decide) (by omega) (by omega)
  refine va_sld hx hb hX hbl hbA hS (vp_i rfl (by omega) (by omega)) dL_law_1162 ?_
  refine lv_topi (fun v2 ev2 => ?_)
  clear ev2
  refine lw_i (va_runV (As := [.int v2]) (rest := []) hfix (cx_dirtiest l dC dI cyB cyI cyJ cyZ cyO adK adV oX t WX hXI v2 _) (cwV 1 hts (gi_V tw_224 tw_225 tw_226 tw_3 tb_k_X_dirtiest gd_k_X_dirtiest) rfl rfl rfl (by decide +kernel) ⟨Nat.le_of_ble_eq_true rfl, Nat.le_of_ble_eq_true rfl⟩) (g_preW hZ hS hA hKN hP hD 6 (XI.recv hXI) rfl) rfl rfl hl.1 rfl (lv_room (Nat.le_of_ble_eq_true rfl)) dL_law_1163 ⟨lw_rc (by omega), lw_rs (by omega)⟩) hP hD hS hA (fun r3 W1 H locs q1 hP hD hS => ?_)
  refine lv_pop hx hb dL_law_1166 rfl ?_
  refine lv_aload_n hx hb dL_law_1167 rfl (lv_at hl 1 rfl) ?_
  refine lv_aload_n hx hb dL_law_1168 rfl (lv_at hl 3 rfl) ?_
  refine lv_iload_n hx hb dL_law_1169 rfl (lv_at hl 0 rfl) ?_
  refine lv_iconst (v := 1) hx hb dL_law_1170 (by decide) ?_
  refine lv_iadd hx hb dL_law_1171 ?_
  refine lv_topi (fun z4 ez4 => ?_)
  have tz4 : z4.toInt = i.toInt + 1 := ti_add ez4 rfl (by decide) (by omega) (by omega)
  refine va_sld hx hb hX hbl hbA hS (vp_i rfl (by omega) (by omega)) dL_law_1172 ?_
  refine lv_topi (fun v5 ev5 => ?_)
  clear ev5
  refine lw_i (va_runV (As := [.int v5]) (rest := []) hfix (cm_dirtiest l dC dI cyB cyI cyJ cyZ cyO adK adV oM t WM hMI v5 _) (cwV 1 hts (gi_V tw_227 tw_228 tw_229 tw_7 tb_k_M_dirtiest gd_k_M_dirtiest) rfl rfl rfl (by decide +kernel) ⟨Nat.le_of_ble_eq_true rfl, Nat.le_of_ble_eq_true rfl⟩) (g_preW hZ hS hA hKN hP hD 7 (MI.recv hMI) rfl) rfl rfl hl.1 rfl (lv_room (Nat.le_of_ble_eq_true rfl)) dL_law_1173 ⟨lw_rc (by omega), lw_rs (by omega)⟩) hP hD hS hA (fun r6 W2 H locs q2 hP hD hS => ?_)
  refine lv_pop hx hb dL_law_1176 rfl ?_
  refine lv_goto (tgt := 1548) hx hb dL_law_1177 (by decide) ?_
  refine W.widen (k := cells + 8) (n := slots + 773) (by omega) (by omega) ?_
  exact kk t W1 W2 H locs q1 q2 hP hD hS
set_option maxHeartbeats 4000000 in
set_option maxRecDepth 100000 in
theorem law_38 {p : Program} {l : Launch} {e : Env} {s : State} {m : MethodId} {below : List Frame} {meth : Method} {c : Code} {b L : Nat} {xs : Nat → Int32} {dC : Nat → ClassId} {dI : Nat → Nat → Nat} {cyB cyI cyJ cyZ cyO : ClassId} {adK adV : Nat → Nat} (C0 : lw_At p s m meth c b L xs) (hL : L ≤ 3072) (hKN : KN (dC, dI) (kT cyB cyI cyJ cyZ cyO) s) (hZ : ZS adK adV (fun q : Nat => s.heap.size ≤ q) s s.heap) {oX oM : Nat} {i t : Int32} {WX WM : va_W} {cells slots : Nat} (hXI : XI cyB cyI cyJ cyZ cyO oX t WX) (hMI : MI cyB cyI cyJ cyZ cyO oM t WM) (hi0 : 0 ≤ i.toInt) (hi6 : i.toInt + 6 ≤ L) (hc : cells + 8 ≤ 600000) (hs : slots + 773 ≤ 7302250) {H : Heap} {locs : List Loc} (hP : va_P (dC, dI) vwCl (WX ++ WM) H) (hD : va_D (fun q : Nat => s.heap.size ≤ q) (WX ++ WM)) (hS : va_S (fun q : Nat => s.heap.size ≤ q) s.heap H locs) {ls : Array Slot} (hl : lv_has ls 4 [(3, .int i), (2, .ref oM), (1, .ref oX), (0, .ref b)]) (kk : ∀ (t : Int32) (WX WM : va_W) (H : Heap) (locs : List Loc), XI cyB cyI cyJ cyZ cyO oX t WX → MI cyB cyI cyJ cyZ cyO oM t WM → va_P (dC, dI) vwCl (WX ++ WM) H → va_D (fun q : Nat => s.heap.size ≤ q) (WX ++ WM) → va_S (fun q : Nat => s.heap.size ≤ q) s.heap H locs → W p l e room_1 s m #[Value.ref b] below meth c H locs (cells + 8) (slots + 773) (lw_Z below #[Value.ref b] s) (F0 m 1548 ls [])) : W p l e room_1 s m #[Value.ref b] below meth c H locs cells slots (lw_Z below #[Value.ref b] s) (F0 m 1180 ls []) := by
  obtain ⟨hx, hb, hr, hml, hown, hts, hX, hbl, hlocks, hgv⟩ := id C0
  have hA : ∀ q : Nat, s.heap.size ≤ q → (fun q : Nat => s.heap.size ≤ q) q := fun _ h => h
  have hbA : ¬ (fun q : Nat => s.heap.size ≤ q) b := Nat.not_le.mpr hbl
  have hfix : CallFix p m c code 4 s #[Value.ref b] lw_tbl R_law := ⟨hx, hb, hml, hown, hts⟩
  refine lv_aload_n hx hb dL_law_1180 rfl (lv_at hl 2 rfl) ?_
  refine lv_aload_n hx hb dL_law_1181 rfl (lv_at hl 3 rfl) ?_
  refine lv_iload_n hx hb dL_law_1182 rfl (lv_at hl 0 rfl) ?_
  refine lv_iconst (v := 1) hx hb dL_law_1183 (by decide) ?_
  refine lv_iadd hx hb dL_law_1184 ?_
  refine lv_topi (fun z1 ez1 => ?_)
  have tz1 : z1.toInt = i.toInt + 1 := ti_add ez1 rfl (by decide) (by omega) (by omega)
  refine va_sld hx hb hX hbl hbA hS (vp_i rfl (by omega) (by omega)) dL_law_1185 ?_
  refine lv_topi (fun v2 ev2 => ?_)
  clear ev2
  refine lw_i (va_runV (As := [.int v2]) (rest := []) hfix (cx_soonestOf l dC dI cyB cyI cyJ cyZ cyO adK adV oX t WX hXI v2 _) (cwV 1 hts (gi_V tw_230 tw_231 tw_232 tw_3 tb_k_X_soonestOf gd_k_X_soonestOf) rfl rfl rfl (by decide +kernel) ⟨Nat.le_of_ble_eq_true rfl, Nat.le_of_ble_eq_true rfl⟩) (g_preW hZ hS hA hKN hP hD 6 (XI.recv hXI) rfl) rfl rfl hl.1 rfl (lv_room (Nat.le_of_ble_eq_true rfl)) dL_law_1186 ⟨lw_rc (by omega), lw_rs (by omega)⟩) hP hD hS hA (fun r3 W1 H locs q1 hP hD hS => ?_)
  refine lv_pop hx hb dL_law_1189 rfl ?_
  refine lv_aload_n hx hb dL_law_1190 rfl (lv_at hl 1 rfl) ?_
  refine lv_aload_n hx hb dL_law_1191 rfl (lv_at hl 3 rfl) ?_
  refine lv_iload_n hx hb dL_law_1192 rfl (lv_at hl 0 rfl) ?_
  refine lv_iconst (v := 1) hx hb dL_law_1193 (by decide) ?_
  refine lv_iadd hx hb dL_law_1194 ?_
  refine lv_topi (fun z4 ez4 => ?_)
  have tz4 : z4.toInt = i.toInt + 1 := ti_add ez4 rfl (by decide) (by omega) (by omega)
  refine va_sld hx hb hX hbl hbA hS (vp_i rfl (by omega) (by omega)) dL_law_1195 ?_
  refine lv_topi (fun v5 ev5 => ?_)
  clear ev5
  refine lw_i (va_runV (As := [.int v5]) (rest := []) hfix (cm_soonestOf l dC dI cyB cyI cyJ cyZ cyO adK adV oM t WM hMI v5 _) (cwV 1 hts (gi_V tw_233 tw_234 tw_235 tw_7 tb_k_M_soonestOf gd_k_M_soonestOf) rfl rfl rfl (by decide +kernel) ⟨Nat.le_of_ble_eq_true rfl, Nat.le_of_ble_eq_true rfl⟩) (g_preW hZ hS hA hKN hP hD 7 (MI.recv hMI) rfl) rfl rfl hl.1 rfl (lv_room (Nat.le_of_ble_eq_true rfl)) dL_law_1196 ⟨lw_rc (by omega), lw_rs (by omega)⟩) hP hD hS hA (fun r6 W2 H locs q2 hP hD hS => ?_)
  refine lv_pop hx hb dL_law_1199 rfl ?_
  refine lv_goto (tgt := 1548) hx hb dL_law_1200 (by decide) ?_
  refine W.widen (k := cells + 8) (n := slots + 773) (by omega) (by omega) ?_
  exact kk t W1 W2 H locs q1 q2 hP hD hS
