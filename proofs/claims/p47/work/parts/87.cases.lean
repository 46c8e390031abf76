set_option maxHeartbeats 4000000 in
set_option maxRecDepth 100000 in
theorem law_13 {p : Program} {l : Launch} {e : Env} {s : State} {m : MethodId} {below : List Frame} {meth : Method} {c : Code} {b L : Nat} {xs : Nat → Int32} {dC : Nat → ClassId} {dI : Nat → Nat → Nat} {cyB cyI cyJ cyZ cyO : ClassId} {adK adV : Nat → Nat} (C0 : lw_At p s m meth c b L xs) (hL : L ≤ 3072) (hKN : KN (dC, dI) (kT cyB cyI cyJ cyZ cyO) s) (hZ : ZS adK adV (fun q : Nat => s.heap.size ≤ q) s s.heap) {oX oM : Nat} {i t : Int32} {WX WM : va_W} {cells slots : Nat} (hXI : XI cyB cyI cyJ cyZ cyO oX t WX) (hMI : MI cyB cyI cyJ cyZ cyO oM t WM) (hi0 : 0 ≤ i.toInt) (hi6 : i.toInt + 6 ≤ L) (hc : cells + 8 ≤ 600000) (hs : slots + 773 ≤ 7302250) {H : Heap} {locs : List Loc} (hP : va_P (dC, dI) vwCl (WX ++ WM) H) (hD : va_D (fun q : Nat => s.heap.size ≤ q) (WX ++ WM)) (hS : va_S (fun q : Nat => s.heap.size ≤ q) s.heap H locs) {ls : Array Slot} (hl : lv_has ls 4 [(3, .int i), (2, .ref oM), (1, .ref oX), (0, .ref b)]) (kk : ∀ (t : Int32) (WX WM : va_W) (H : Heap) (locs : List Loc), XI cyB cyI cyJ cyZ cyO oX t WX → MI cyB cyI cyJ cyZ cyO oM t WM → va_P (dC, dI) vwCl (WX ++ WM) H → va_D (fun q : Nat => s.heap.size ≤ q) (WX ++ WM) → va_S (fun q : Nat => s.heap.size ≤ q) s.heap H locs → W p l e room_1 s m #[Value.ref b] below meth c H locs (cells + 8) (slots + 773) (lw_Z below #[Value.ref b] s) (F0 m 1548 ls [])) : W p l e room_1 s m #[Value.ref b] below meth c H locs cells slots (lw_Z below #[Value.ref b] s) (F0 m 625 ls []) := by
  obtain ⟨hx, hb, hr, hml, hown, hts, hX, hbl, hlocks, hgv⟩ := id C0
  have hA : ∀ q : Nat, s.heap.size ≤ q → (fun q : Nat => s.heap.size ≤ q) q := fun _ h => h
  have hbA : ¬ (fun q : Nat => s.heap.size ≤ q) b := Nat.not_le.mpr hbl
  have hfix : CallFix p m c code 4 s #[Value.ref b] lw_tbl R_law := ⟨hx, hb, hml, hown, hts⟩
  refine lv_aload_n hx hb dL_law_625 rfl (lv_at hl 2 rfl) ?_
  refine lw_i (va_runV (As := []) (rest := []) hfix (cx_undo l dC dI cyB cyI cyJ cyZ cyO adK adV oX t WX hXI _) (cwV 0 hts (gi_V tw_80 tw_81 tw_82 tw_3 tb_k_X_undo gd_k_X_undo) rfl rfl rfl (by decide +kernel) ⟨Nat.le_of_ble_eq_true rfl, Nat.le_of_ble_eq_true rfl⟩) (g_preW hZ hS hA hKN hP hD 6 (XI.recv hXI) rfl) rfl rfl hl.1 rfl (lv_room (Nat.le_of_ble_eq_true rfl)) dL_law_626 ⟨lw_rc (by omega), lw_rs (by omega)⟩) hP hD hS hA (fun r1 W1 H locs q1 hP hD hS => ?_)
  refine lv_pop hx hb dL_law_629 rfl ?_
  refine lv_aload_n hx hb dL_law_630 rfl (lv_at hl 1 rfl) ?_
  refine lw_i (va_runV (As := []) (rest := []) hfix (cm_undo l dC dI cyB cyI cyJ cyZ cyO adK adV oM t WM hMI _) (cwV 0 hts (gi_V tw_83 tw_84 tw_85 tw_7 tb_k_M_undo gd_k_M_undo) rfl rfl rfl (by decide +kernel) ⟨Nat.le_of_ble_eq_true rfl, Nat.le_of_ble_eq_true rfl⟩) (g_preW hZ hS hA hKN hP hD 7 (MI.recv hMI) rfl) rfl rfl hl.1 rfl (lv_room (Nat.le_of_ble_eq_true rfl)) dL_law_631 ⟨lw_rc (by omega), lw_rs (by omega)⟩) hP hD hS hA (fun r2 W2 H locs q2 hP hD hS => ?_)
  refine lv_pop hx hb dL_law_634 rfl ?_
  refine lv_goto (tgt := 1548) hx hb dL_law_635 (by decide) ?_
  refine W.widen (k := cells + 8) (n := slots + 773) (by omega) (by omega) ?_
  exact kk t W1 W2 H locs q1 q2 hP hD hS
set_option maxHeartbeats 4000000 in
set_option maxRecDepth 100000 in
theorem law_14 {p : Program} {l : Launch} {e : Env} {s : State} {m : MethodId} {below : List Frame} {meth : Method} {c : Code} {b L : Nat} {xs : Nat → Int32} {dC : Nat → ClassId} {dI : Nat → Nat → Nat} {cyB cyI cyJ cyZ cyO : ClassId} {adK adV : Nat → Nat} (C0 : lw_At p s m meth c b L xs) (hL : L ≤ 3072) (hKN : KN (dC, dI) (kT cyB cyI cyJ cyZ cyO) s) (hZ : ZS adK adV (fun q : Nat => s.heap.size ≤ q) s s.heap) {oX oM : Nat} {i t : Int32} {WX WM : va_W} {cells slots : Nat} (hXI : XI cyB cyI cyJ cyZ cyO oX t WX) (hMI : MI cyB cyI cyJ cyZ cyO oM t WM) (hi0 : 0 ≤ i.toInt) (hi6 : i.toInt + 6 ≤ L) (hc : cells + 8 ≤ 600000) (hs : slots + 773 ≤ 7302250) {H : Heap} {locs : List Loc} (hP : va_P (dC, dI) vwCl (WX ++ WM) H) (hD : va_D (fun q : Nat => s.heap.size ≤ q) (WX ++ WM)) (hS : va_S (fun q : Nat => s.heap.size ≤ q) s.heap H locs) {ls : Array Slot} (hl : lv_has ls 4 [(3, .int i), (2, .ref oM), (1, .ref oX), (0, .ref b)]) (kk : ∀ (t : Int32) (WX WM : va_W) (H : Heap) (locs : List Loc), XI cyB cyI cyJ cyZ cyO oX t WX → MI cyB cyI cyJ cyZ cyO oM t WM → va_P (dC, dI) vwCl (WX ++ WM) H → va_D (fun q : Nat => s.heap.size ≤ q) (WX ++ WM) → va_S (fun q : Nat => s.heap.size ≤ q) s.heap H locs → W p l e room_1 s m #[Value.ref b] below meth c H locs (cells + 8) (slots + 773) (lw_Z below #[Value.ref b] s) (F0 m 1548 ls [])) : W p l e room_1 s m #[Value.ref b] below meth c H locs cells slots (lw_Z below #[Value.ref b] s) (F0 m 638 ls []) := by
  obtain ⟨hx, hb, hr, hml, hown, hts, hX, hbl, hlocks, hgv⟩ := id C0
  have hA : ∀ q : Nat, s.heap.size ≤ q → (fun q : Nat => s.heap.size ≤ q) q := fun _ h => h
  have hbA : ¬ (fun q : Nat => s.heap.size ≤ q) b := Nat.not_le.mpr hbl
  have hfix : CallFix p m c code 4 s #[Value.ref b] lw_tbl R_law := ⟨hx, hb, hml, hown, hts⟩
  refine lv_aload_n hx hb dL_law_638 rfl (lv_at hl 2 rfl) ?_
  refine lw_i (va_runV (As := []) (rest := []) hfix (cx_redo l dC dI cyB cyI cyJ cyZ cyO adK adV oX t WX hXI _) (cwV 0 hts (gi_V tw_86 tw_87 tw_88 tw_3 tb_k_X_redo gd_k_X_redo) rfl rfl rfl (by decide +kernel) ⟨Nat.le_of_ble_eq_true rfl, Nat.le_of_ble_eq_true rfl⟩) (g_preW hZ hS hA hKN hP hD 6 (XI.recv hXI) rfl) rfl rfl hl.1 rfl (lv_room (Nat.le_of_ble_eq_true rfl)) dL_law_639 ⟨lw_rc (by omega), lw_rs (by omega)⟩) hP hD hS hA (fun r1 W1 H locs q1 hP hD hS => ?_)
  refine lv_pop hx hb dL_law_642 rfl ?_
  refine lv_aload_n hx hb dL_law_643 rfl (lv_at hl 1 rfl) ?_
  refine lw_i (va_runV (As := []) (rest := []) hfix (cm_redo l dC dI cyB cyI cyJ cyZ cyO adK adV oM t WM hMI _) (cwV 0 hts (gi_V tw_89 tw_90 tw_91 tw_7 tb_k_M_redo gd_k_M_redo) rfl rfl rfl (by decide +kernel) ⟨Nat.le_of_ble_eq_true rfl, Nat.le_of_ble_eq_true rfl⟩) (g_preW hZ hS hA hKN hP hD 7 (MI.recv hMI) rfl) rfl rfl hl.1 rfl (lv_room (Nat.le_of_ble_eq_true rfl)) dL_law_644 ⟨lw_rc (by omega), lw_rs (by omega)⟩) hP hD hS hA (fun r2 W2 H locs q2 hP hD hS => ?_)
  refine lv_pop hx hb dL_law_647 rfl ?_
  refine lv_goto (tgt := 1548) hx hb dL_law_648 (by decide) ?_
  refine W.widen (k := cells + 8) (n := slots + 773) (by omega) (by omega) ?_
  exact kk t W1 W2 H locs q1 q2 hP hD hS
set_option maxHeartbeats 4000000 in
set_option maxRecDepth 100000 in
theorem law_15 {p : Program} {l : Launch} {e : Env} {s : State} {m : MethodId} {below : List Frame} {meth : Method} {c : Code} {b L : Nat} {xs : Nat → Int32} {dC : Nat → ClassId} {dI : Nat → Nat → Nat} {cyB cyI cyJ cyZ cyO : ClassId} {adK adV : Nat → Nat} (C0 : lw_At p s m meth c b L xs) (hL : L ≤ 3072) (hKN : KN (dC, dI) (kT cyB cyI cyJ cyZ cyO) s) (hZ : ZS adK adV (fun q : Nat => s.heap.size ≤ q) s s.heap) {oX oM : Nat} {i t : Int32} {WX WM : va_W} {cells slots : Nat} (hXI : XI cyB cyI cyJ cyZ cyO oX t WX) (hMI : MI cyB cyI cyJ cyZ cyO oM t WM) (hi0 : 0 ≤ i.toInt) (hi6 : i.toInt + 6 ≤ L) (hc : cells + 8 ≤ 600000) (hs : slots + 773 ≤ 7302250) {H : Heap} {locs : List Loc} (hP : va_P (dC, dI) vwCl (WX ++ WM) H) (hD : va_D (fun q : Nat => s.heap.size ≤ q) (WX ++ WM)) (hS : va_S (fun q : Nat => s.heap.size ≤ q) s.heap H locs) {ls : Array Slot} (hl : lv_has ls 4 [(3, .int i), (2, .ref oM), (1, .ref oX), (0, .ref b)]) (kk : ∀ (t : Int32) (WX WM : va_W) (H : Heap) (locs : List Loc), XI cyB cyI cyJ cyZ cyO oX t WX → MI cyB cyI cyJ cyZ cyO oM t WM → va_P (dC, dI) vwCl (WX ++ WM) H → va_D (fun q : Nat => s.heap.size ≤ q) (WX ++ WM) → va_S (fun q : Nat => s.heap.size ≤ q) s.heap H locs → W p l e room_1 s m #[Value.ref b] below meth c H locs (cells + 8) (slots + 773) (lw_Z below #[Value.ref b] s) (F0 m 1548 ls [])) : W p l e room_1 s m #[Value.ref b] below meth c H locs cells slots (lw_Z below #[Value.ref b] s) (F0 m 651 ls []) := by
  obtain ⟨hx, hb, hr, hml, hown, hts, hX, hbl, hlocks, hgv⟩ := id C0
  have hA : ∀ q : Nat, s.heap.size ≤ q → (fun q : Nat => s.heap.size ≤ q) q := fun _ h => h
  have hbA : ¬ (fun q : Nat => s.heap.size ≤ q) b := Nat.not_le.mpr hbl
  have hfix : CallFix p m c code 4 s #[Value.ref b] lw_tbl R_law := ⟨hx, hb, hml, hown, hts⟩
  refine lv_aload_n hx hb dL_law_651 rfl (lv_at hl 2 rfl) ?_
  refine lv_aload_n hx hb dL_law_652 rfl (lv_at hl 3 rfl) ?_
  refine lv_iload_n hx hb dL_law_653 rfl (lv_at hl 0 rfl) ?_
  refine lv_iconst (v := 1) hx hb dL_law_654 (by decide) ?_
  refine lv_iadd hx hb dL_law_655 ?_
  refine lv_topi (fun z1 ez1 => ?_)
  have tz1 : z1.toInt = i.toInt + 1 := ti_add ez1 rfl (by decide) (by omega) (by omega)
  refine va_sld hx hb hX hbl hbA hS (vp_i rfl (by omega) (by omega)) dL_law_656 ?_
  refine lv_topi (fun v2 ev2 => ?_)
  clear ev2
  refine lv_aload_n hx hb dL_law_657 rfl (lv_at hl 3 rfl) ?_
  refine lv_iload_n hx hb dL_law_658 rfl (lv_at hl 0 rfl) ?_
  refine lv_iconst (v := 2) hx hb dL_law_659 (by decide) ?_
  refine lv_iadd hx hb dL_law_660 ?_
  refine lv_topi (fun z3 ez3 => ?_)
  have tz3 : z3.toInt = i.toInt + 2 := ti_add ez3 rfl (by decide) (by omega) (by omega)
  refine va_sld hx hb hX hbl hbA hS (vp_i rfl (by omega) (by omega)) dL_law_661 ?_
  refine lv_topi (fun v4 ev4 => ?_)
  clear ev4
  refine lw_i (va_runV (As := [.int v2, .int v4]) (rest := []) hfix (cx_read l dC dI cyB cyI cyJ cyZ cyO adK adV oX t WX hXI v2 v4 _) (cwV 2 hts (gi_V tw_92 tw_93 tw_94 tw_3 tb_k_X_read gd_k_X_read) rfl rfl rfl (by decide +kernel) ⟨Nat.le_of_ble_eq_true rfl, Nat.le_of_ble_eq_true rfl⟩) (g_preW hZ hS hA hKN hP hD 6 (XI.recv hXI) rfl) rfl rfl hl.1 rfl (lv_room (Nat.le_of_ble_eq_true rfl)) dL_law_662 ⟨lw_rc (by omega), lw_rs (by omega)⟩) hP hD hS hA (fun r5 W1 H locs q1 hP hD hS => ?_)
  refine lv_pop hx hb dL_law_665 rfl ?_
  refine lv_aload_n hx hb dL_law_666 rfl (lv_at hl 1 rfl) ?_
  refine lv_aload_n hx hb dL_law_667 rfl (lv_at hl 3 rfl) ?_
  refine lv_iload_n hx hb dL_law_668 rfl (lv_at hl 0 rfl) ?_
  refine lv_iconst (v := 1) hx hb dL_law_669 (by decide) ?_
  refine lv_iadd hx hb dL_law_670 ?_
  refine lv_topi (fun z6 ez6 => ?_)
  have tz6 : z6.toInt = i.toInt + 1 := ti_add ez6 rfl (by decide) (by omega) (by omega)
  refine va_sld hx hb hX hbl hbA hS (vp_i rfl (by omega) (by omega)) dL_law_671 ?_
  refine lv_topi (fun v7 ev7 => ?_)
  clear ev7
  refine lv_aload_n hx hb dL_law_672 rfl (lv_at hl 3 rfl) ?_
  refine lv_iload_n hx hb dL_law_673 rfl (lv_at hl 0 rfl) ?_
  refine lv_iconst (v := 2) hx hb dL_law_674 (by decide) ?_
  refine lv_iadd hx hb dL_law_675 ?_
  refine lv_topi (fun z8 ez8 => ?_)
  have tz8 : z8.toInt = i.toInt + 2 := ti_add ez8 rfl (by decide) (by omega) (by omega)
  refine va_sld hx hb hX hbl hbA hS (vp_i rfl (by omega) (by omega)) dL_law_676 ?_
  refine lv_topi (fun v9 ev9 => ?_)
  clear ev9
  refine lw_i (va_runV (As := [.int v7, .int v9]) (rest := []) hfix (cm_read l dC dI cyB cyI cyJ cyZ cyO adK adV oM t WM hMI v7 v9 _) (cwV 2 hts (gi_V tw_95 tw_96 tw_97 tw_7 tb_k_M_read gd_k_M_read) rfl rfl rfl (by decide +kernel) ⟨Nat.le_of_ble_eq_true rfl, Nat.le_of_ble_eq_true rfl⟩) (g_preW hZ hS hA hKN hP hD 7 (MI.recv hMI) rfl) rfl rfl hl.1 rfl (lv_room (Nat.le_of_ble_eq_true rfl)) dL_law_677 ⟨lw_rc (by omega), lw_rs (by omega)⟩) hP hD hS hA (fun r10 W2 H locs q2 hP hD hS => ?_)
  refine lv_pop hx hb dL_law_680 rfl ?_
  refine lv_goto (tgt := 1548) hx hb dL_law_681 (by decide) ?_
  refine W.widen (k := cells + 8) (n := slots + 773) (by omega) (by omega) ?_
  exact kk t W1 W2 H locs q1 q2 hP hD hS
set_option maxHeartbeats 4000000 in
set_option maxRecDepth 100000 in
theorem law_16 {p : Program} {l : Launch} {e : Env} {s : State} {m : MethodId} {below : List Frame} {meth : Method} {c : Code} {b L : Nat} {xs : Nat → Int32} {dC : Nat → ClassId} {dI : Nat → Nat → Nat} {cyB cyI cyJ cyZ cyO : ClassId} {adK adV : Nat → Nat} (C0 : lw_At p s m meth c b L xs) (hL : L ≤ 3072) (hKN : KN (dC, dI) (kT cyB cyI cyJ cyZ cyO) s) (hZ : ZS adK adV (fun q : Nat => s.heap.size ≤ q) s s.heap) {oX oM : Nat} {i t : Int32} {WX WM : va_W} {cells slots : Nat} (hXI : XI cyB cyI cyJ cyZ cyO oX t WX) (hMI : MI cyB cyI cyJ cyZ cyO oM t WM) (hi0 : 0 ≤ i.toInt) (hi6 : i.toInt + 6 ≤ L) (hc : cells + 8 ≤ 600000) (hs : slots + 773 ≤ 7302250) {H : Heap} {locs : List Loc} (hP : va_P (dC, dI) vwCl (WX ++ WM) H) (hD : va_D (fun q : Nat => s.heap.size ≤ q) (WX ++ WM)) (hS : va_S (fun q : Nat => s.heap.size ≤ q) s.heap H locs) {ls : Array Slot} (hl : lv_has ls 4 [(3, .int i), (2, .ref oM), (1, .ref oX), (0, .ref b)]) (kk : ∀ (t : Int32) (WX WM : va_W) (H : Heap) (locs : List Loc), XI cyB cyI cyJ cyZ cyO oX t WX → MI cyB cyI cyJ cyZ cyO oM t WM → va_P (dC, dI) vwCl (WX ++ WM) H → va_D (fun q : Nat => s.heap.size ≤ q) (WX ++ WM) → va_S (fun q : Nat => s.heap.size ≤ q) s.heap H locs → W p l e room_1 s m #[Value.ref b] below meth c H locs (cells + 8) (slots + 773) (lw_Z below #[Value.ref b] s) (F0 m 1548 ls [])) : W p l e room_1 s m #[Value.ref b] below meth c H locs cells slots (lw_Z below #[Value.ref b] s) (F0 m 684 ls []) := by
  obtain ⟨hx, hb, hr, hml, hown, hts, hX, hbl, hlocks, hgv⟩ := id C0
  have hA : ∀ q : Nat, s.heap.size ≤ q → (fun q : Nat => s.heap.size ≤ q) q := fun _ h => h
  have hbA : ¬ (fun q : Nat => s.heap.size ≤ q) b := Nat.not_le.mpr hbl
  have hfix : CallFix p m c code 4 s #[Value.ref b] lw_tbl R_law := ⟨hx, hb, hml, hown, hts⟩
  refine lv_aload_n hx hb dL_law_684 rfl (lv_at hl 2 rfl) ?_
  refine lv_aload_n hx hb dL_law_685 rfl (lv_at hl 3 rfl) ?_
  refine lv_iload_n hx hb dL_law_686 rfl (lv_at hl 0 rfl) ?_
  refine lv_iconst (v := 1) hx hb dL_law_687 (by decide) ?_
  refine lv_iadd hx hb dL_law_688 ?_
  refine lv_topi (fun z1 ez1 => ?_)
  have tz1 : z1.toInt = i.toInt + 1 := ti_add ez1 rfl (by decide) (by omega) (by omega)
  refine va_sld hx hb hX hbl hbA hS (vp_i rfl (by omega) (by omega)) dL_law_689 ?_
  refine lv_topi (fun v2 ev2 => ?_)
  clear ev2
  refine lv_aload_n hx hb dL_law_690 rfl (lv_at hl 3 rfl) ?_
  refine lv_iload_n hx hb dL_law_691 rfl (lv_at hl 0 rfl) ?_
  refine lv_iconst (v := 2) hx hb dL_law_692 (by decide) ?_
  refine lv_iadd hx hb dL_law_693 ?_
  refine lv_topi (fun z3 ez3 => ?_)
  have tz3 : z3.toInt = i.toInt + 2 := ti_add ez3 rfl (by decide) (by omega) (by omega)
  refine va_sld hx hb hX hbl hbA hS (vp_i rfl (by omega) (by omega)) dL_law_694 ?_
  refine lv_topi (fun v4 ev4 => ?_)
  clear ev4
  refine lw_i (va_runV (As := [.int v2, .int v4]) (rest := []) hfix (cx_lazy l dC dI cyB cyI cyJ cyZ cyO adK adV oX t WX hXI v2 v4 _) (cwV 2 hts (gi_V tw_98 tw_99 tw_100 tw_3 tb_k_X_lazy gd_k_X_lazy) rfl rfl rfl (by decide +kernel) ⟨Nat.le_of_ble_eq_true rfl, Nat.le_of_ble_eq_true rfl⟩) (g_preW hZ hS hA hKN hP hD 6 (XI.recv hXI) rfl) rfl rfl hl.1 rfl (lv_room (Nat.le_of_ble_eq_true rfl)) dL_law_695 ⟨lw_rc (by omega), lw_rs (by omega)⟩) hP hD hS hA (fun r5 W1 H locs q1 hP hD hS => ?_)
  refine lv_pop hx hb dL_law_698 rfl ?_
  refine lv_aload_n hx hb dL_law_699 rfl (lv_at hl 1 rfl) ?_
  refine lv_aload_n hx hb dL_law_700 rfl (lv_at hl 3 rfl) ?_
  refine lv_iload_n hx hb dL_law_701 rfl (lv_at hl 0 rfl) ?_
  refine lv_iconst (v := 1) hx hb dL_law_702 (by decide) ?_
  refine lv_iadd hx hb dL_law_703 ?_
  refine lv_topi (fun z6 ez6 => ?_)
  have tz6 : z6.toInt = i.toInt + 1 := ti_add ez6 rfl (by decide) (by omega) (by omega)
  refine va_sld hx hb hX hbl hbA hS (vp_i rfl (by omega) (by omega)) dL_law_704 ?_
  refine lv_topi (fun v7 ev7 => ?_)
  clear ev7
  refine lv_aload_n hx hb dL_law_705 rfl (lv_at hl 3 rfl) ?_
  refine lv_iload_n hx hb dL_law_706 rfl (lv_at hl 0 rfl) ?_
  refine lv_iconst (v := 2) hx hb dL_law_707 (by decide) ?_
  refine lv_iadd hx hb dL_law_708 ?_
  refine lv_topi (fun z8 ez8 => ?_)
  have tz8 : z8.toInt = i.toInt + 2 := ti_add ez8 rfl (by decide) (by omega) (by omega)
  refine va_sld hx hb hX hbl hbA hS (vp_i rfl (by omega) (by omega)) dL_law_709 ?_
  refine lv_topi (fun v9 ev9 => ?_)
  clear ev9
  refine lw_i (va_runV (As := [.int v7, .int v9]) (rest := []) hfix (cm_lazy l dC dI cyB cyI cyJ cyZ cyO adK adV oM t WM hMI v7 v9 _) (cwV 2 hts (gi_V tw_101 tw_102 tw_103 tw_7 tb_k_M_lazy gd_k_M_lazy) rfl rfl rfl (by decide +kernel) ⟨Nat.le_of_ble_eq_true rfl, Nat.le_of_ble_eq_true rfl⟩) (g_preW hZ hS hA hKN hP hD 7 (MI.recv hMI) rfl) rfl rfl hl.1 rfl (lv_room (Nat.le_of_ble_eq_true rfl)) dL_law_710 ⟨lw_rc (by omega), lw_rs (by omega)⟩) hP hD hS hA (fun r10 W2 H locs q2 hP hD hS => ?_)
  refine lv_pop hx hb dL_law_713 rfl ?_
  refine lv_goto (tgt := 1548) hx hb dL_law_714 (by decide) ?_
  refine W.widen (k := cells + 8) (n := slots + 773) (by omega) (by omega) ?_
  exact kk t W1 W2 H locs q1 q2 hP hD hS
set_option maxHeartbeats 4000000 in
set_option maxRecDepth 100000 in
theorem law_17 {p : Program} {l : Launch} {e : Env} {s : State} {m : MethodId} {below : List Frame} {meth : Method} {c : Code} {b L : Nat} {xs : Nat → Int32} {dC : Nat → ClassId} {dI : Nat → Nat → Nat} {cyB cyI cyJ cyZ cyO : ClassId} {adK adV : Nat → Nat} (C0 : lw_At p s m meth c b L xs) (hL : L ≤ 3072) (hKN : KN (dC, dI) (kT cyB cyI cyJ cyZ cyO) s) (hZ : ZS adK adV (fun q : Nat => s.heap.size ≤ q) s s.heap) {oX oM : Nat} {i t : Int32} {WX WM : va_W} {cells slots : Nat} (hXI : XI cyB cyI cyJ cyZ cyO oX t WX) (hMI : MI cyB cyI cyJ cyZ cyO oM t WM) (hi0 : 0 ≤ i.toInt) (hi6 : i.toInt + 6 ≤ L) (hc : cells + 8 ≤ 600000) (hs : slots + 773 ≤ 7302250) {H : Heap} {locs : List Loc} (hP : va_P (dC, dI) vwCl (WX ++ WM) H) (hD : va_D (fun q : Nat => s.heap.size ≤ q) (WX ++ WM)) (hS : va_S (fun q : Nat => s.heap.size ≤ q) s.heap H locs) {ls : Array Slot} (hl : lv_has ls 4 [(3, .int i), (2, .ref oM), (1, .ref oX), (0, .ref b)]) (kk : ∀ (t : Int32) (WX WM : va_W) (H : Heap) (locs : List Loc), XI cyB cyI cyJ cyZ cyO oX t WX → MI cyB cyI cyJ cyZ cyO oM t WM → va_P (dC, dI) vwCl (WX ++ WM) H → va_D (fun q : Nat => s.heap.size ≤ q) (WX ++ WM) → va_S (fun q : Nat => s.heap.size ≤ q) s.heap H locs → W p l e room_1 s m #[Value.ref b] below meth c H locs (cells + 8) (slots + 773) (lw_Z below #[Value.ref b] s) (F0 m 1548 ls [])) : W p l e room_1 s m #[Value.ref b] below meth c H locs cells slots (lw_Z below #[Value.ref b] s) (F0 m 717 ls []) := by
  obtain ⟨hx, hb, hr, hml, hown, hts, hX, hbl, hlocks, hgv⟩ := id C0
  have hA : ∀ q : Nat, s.heap.size ≤ q → (fun q : Nat => s.heap.size ≤ q) q := fun _ h => h
  have hbA : ¬ (fun q : Nat => s.heap.size ≤ q) b := Nat.not_le.mpr hbl
  have hfix : CallFix p m c code 4 s #[Value.ref b] lw_tbl R_law := ⟨hx, hb, hml, hown, hts⟩
  refine lv_aload_n hx hb dL_law_717 rfl (lv_at hl 2 rfl) ?_
  refine lv_aload_n hx hb dL_law_718 rfl (lv_at hl 3 rfl) ?_
  refine lv_iload_n hx hb dL_law_719 rfl (lv_at hl 0 rfl) ?_
  refine lv_iconst (v := 1) hx hb dL_law_720 (by decide) ?_
  refine lv_iadd hx hb dL_law_721 ?_
  refine lv_topi (fun z1 ez1 => ?_)
  have tz1 : z1.toInt = i.toInt + 1 := ti_add ez1 rfl (by decide) (by omega) (by omega)
  refine va_sld hx hb hX hbl hbA hS (vp_i rfl (by omega) (by omega)) dL_law_722 ?_
  refine lv_topi (fun v2 ev2 => ?_)
  clear ev2
  refine lw_i (va_runV (As := [.int v2]) (rest := []) hfix (cx_askers l dC dI cyB cyI cyJ cyZ cyO adK adV oX t WX hXI v2 _) (cwV 1 hts (gi_V tw_104 tw_105 tw_106 tw_3 tb_k_X_askers gd_k_X_askers) rfl rfl rfl (by decide +kernel) ⟨Nat.le_of_ble_eq_true rfl, Nat.le_of_ble_eq_true rfl⟩) (g_preW hZ hS hA hKN hP hD 6 (XI.recv hXI) rfl) rfl rfl hl.1 rfl (lv_room (Nat.le_of_ble_eq_true rfl)) dL_law_723 ⟨lw_rc (by omega), lw_rs (by omega)⟩) hP hD hS hA (fun r3 W1 H locs q1 hP hD hS => ?_)
  refine lv_pop hx hb dL_law_726 rfl ?_
  refine lv_aload_n hx hb dL_law_727 rfl (lv_at hl 1 rfl) ?_
  refine lv_aload_n hx hb dL_law_728 rfl (lv_at hl 3 rfl) ?_
  refine lv_iload_n hx hb dL_law_729 rfl (lv_at hl 0 rfl) ?_
  refine lv_iconst (v := 1) hx hb dL_law_730 (by decide) ?_
  refine lv_iadd hx hb dL_law_731 ?_
  refine lv_topi (fun z4 ez4 => ?_)
  have tz4 : z4.toInt = i.toInt + 1 := ti_add ez4 rfl (by decide) (by omega) (by omega)
  refine va_sld hx hb hX hbl hbA hS (vp_i rfl (by omega) (by omega)) dL_law_732 ?_
  refine lv_topi (fun v5 ev5 => ?_)
  clear ev5
  refine lw_i (va_runV (As := [.int v5]) (rest := []) hfix (cm_askers l dC dI cyB cyI cyJ cyZ cyO adK adV oM t WM hMI v5 _) (cwV 1 hts (gi_V tw_107 tw_108 tw_109 tw_7 tb_k_M_askers gd_k_M_askers) rfl rfl rfl (by decide +kernel) ⟨Nat.le_of_ble_eq_true rfl, Nat.le_of_ble_eq_true rfl⟩) (g_preW hZ hS hA hKN hP hD 7 (MI.recv hMI) rfl) rfl rfl hl.1 rfl (lv_room (Nat.le_of_ble_eq_true rfl)) dL_law_733 ⟨lw_rc (by omega), lw_rs (by omega)⟩) hP hD hS hA (fun r6 W2 H locs q2 hP hD hS => ?_)
  refine lv_pop hx hb dL_law_736 rfl ?_
  refine lv_goto (tgt := 1548) hx hb dL_law_737 (by decide) ?_
  refine W.widen (k := cells + 8) (n := slots + 773) (by omega) (by omega) ?_
  exact kk t W1 W2 H locs q1 q2 hP hD hS
set_option maxHeartbeats 4000000 in
set_option maxRecDepth 100000 in
theorem law_18 {p : Program} {l : Launch} {e : Env} {s : State} {m : MethodId} {below : List Frame} {meth : Method} {c : Code} {b L : Nat} {xs : Nat → Int32} {dC : Nat → ClassId} {dI : Nat → Nat → Nat} {cyB cyI cyJ cyZ cyO : ClassId} {adK adV : Nat → Nat} (C0 : lw_At p s m meth c b L xs) (hL : L ≤ 3072) (hKN : KN (dC, dI) (kT cyB cyI cyJ cyZ cyO) s) (hZ : ZS adK adV (fun q : Nat => s.heap.size ≤ q) s s.heap) {oX oM : Nat} {i t : Int32} {WX WM : va_W} {cells slots : Nat} (hXI : XI cyB cyI cyJ cyZ cyO oX t WX) (hMI : MI cyB cyI cyJ cyZ cyO oM t WM) (hi0 : 0 ≤ i.toInt) (hi6 : i.toInt + 6 ≤ L) (hc : cells + 8 ≤ 600000) (hs : slots + 773 ≤ 7302250) {H : Heap} {locs : List Loc} (hP : va_P (dC, dI) vwCl (WX ++ WM) H) (hD : va_D (fun q : Nat => s.heap.size ≤ q) (WX ++ WM)) (hS : va_S (fun q : Nat => s.heap.size ≤ q) s.heap H locs) {ls : Array Slot} (hl : lv_has ls 4 [(3, .int i), (2, .ref oM), (1, .ref oX), (0, .ref b)]) (kk : ∀ (t : Int32) (WX WM : va_W) (H : Heap) (locs : List Loc), XI cyB cyI cyJ cyZ cyO oX t WX → MI cyB cyI cyJ cyZ cyO oM t WM → va_P (dC, dI) vwCl (WX ++ WM) H → va_D (fun q : Nat => s.heap.size ≤ q) (WX ++ WM) → va_S (fun q : Nat => s.heap.size ≤ q) s.heap H locs → W p l e room_1 s m #[Value.ref b] below meth c H locs (cells + 8) (slots + 773) (lw_Z below #[Value.ref b] s) (F0 m 1548 ls [])) : W p l e room_1 s m #[Value.ref b] below meth c H locs cells slots (lw_Z below #[Value.ref b] s) (F0 m 740 ls []) := by
  obtain ⟨hx, hb, hr, hml, hown, hts, hX, hbl, hlocks, hgv⟩ := id C0
  have hA : ∀ q : Nat, s.heap.size ≤ q → (fun q : Nat => s.heap.size ≤ q) q := fun _ h => h
  have hbA : ¬ (fun q : Nat => s.heap.size ≤ q) b := Nat.not_le.mpr hbl
  have hfix : CallFix p m c code 4 s #[Value.ref b] lw_tbl R_law := ⟨hx, hb, hml, hown, hts⟩
  refine lv_aload_n hx hb dL_law_740 rfl (lv_at hl 2 rfl) ?_
  refine lv_aload_n hx hb dL_law_741 rfl (lv_at hl 3 rfl) ?_
  refine lv_iload_n hx hb dL_law_742 rfl (lv_at hl 0 rfl) ?_
  refine lv_iconst (v := 1) hx hb dL_law_743 (by decide) ?_
  refine lv_iadd hx hb dL_law_744 ?_
  refine lv_topi (fun z1 ez1 => ?_)
  have tz1 : z1.toInt = i.toInt + 1 := ti_add ez1 rfl (by decide) (by omega) (by omega)
  refine va_sld hx hb hX hbl hbA hS (vp_i rfl (by omega) (by omega)) dL_law_745 ?_
  refine lv_topi (fun v2 ev2 => ?_)
  clear ev2
  refine lw_i (va_runV (As := [.int v2]) (rest := []) hfix (cx_stale l dC dI cyB cyI cyJ cyZ cyO adK adV oX t WX hXI v2 _) (cwV 1 hts (gi_V tw_110 tw_111 tw_112 tw_3 tb_k_X_stale gd_k_X_stale) rfl rfl rfl (by decide +kernel) ⟨Nat.le_of_ble_eq_true rfl, Nat.le_of_ble_eq_true rfl⟩) (g_preW hZ hS hA hKN hP hD 6 (XI.recv hXI) rfl) rfl rfl hl.1 rfl (lv_room (Nat.le_of_ble_eq_true rfl)) dL_law_746 ⟨lw_rc (by omega), lw_rs (by omega)⟩) hP hD hS hA (fun r3 W1 H locs q1 hP hD hS => ?_)
  refine lv_pop hx hb dL_law_749 rfl ?_
  refine lv_aload_n hx hb dL_law_750 rfl (lv_at hl 1 rfl) ?_
  refine lv_aload_n hx hb dL_law_751 rfl (lv_at hl 3 rfl) ?_
  refine lv_iload_n hx hb dL_law_752 rfl (lv_at hl 0 rfl) ?_
  refine lv_iconst (v := 1) hx hb dL_law_753 (by decide) ?_
  refine lv_iadd hx hb dL_law_754 ?_
  refine lv_topi (fun z4 ez4 => ?_)
  have tz4 : z4.toInt = i.toInt + 1 := ti_add ez4 rfl (by decide) (by omega) (by omega)
  refine va_sld hx hb hX hbl hbA hS (vp_i rfl (by omega) (by omega)) dL_law_755 ?_
  refine lv_topi (fun v5 ev5 => ?_)
  clear ev5
  refine lw_i (va_runV (As := [.int v5]) (rest := []) hfix (cm_stale l dC dI cyB cyI cyJ cyZ cyO adK adV oM t WM hMI v5 _) (cwV 1 hts (gi_V tw_113 tw_114 tw_115 tw_7 tb_k_M_stale gd_k_M_stale) rfl rfl rfl (by decide +kernel) ⟨Nat.le_of_ble_eq_true rfl, Nat.le_of_ble_eq_true rfl⟩) (g_preW hZ hS hA hKN hP hD 7 (MI.recv hMI) rfl) rfl rfl hl.1 rfl (lv_room (Nat.le_of_ble_eq_true rfl)) dL_law_756 ⟨lw_rc (by omega), lw_rs (by omega)⟩) hP hD hS hA (fun r6 W2 H locs q2 hP hD hS => ?_)
  refine lv_pop hx hb dL_law_759 rfl ?_
  refine lv_goto (tgt := 1548) hx hb dL_law_760 (by decide) ?_
  refine W.widen (k := cells + 8) (n := slots + 773) (by omega) (by omega) ?_
  exact kk t W1 W2 H locs q1 q2 hP hD hS
set_option maxHeartbeats 4000000 in
set_option maxRecDepth 100000 in
theorem law_19 {p : Program} {l : Launch} {e : Env} {s : State} {m : MethodId} {below : List Frame} {meth : Method} {c : Code} {b L : Nat} {xs : Nat → Int32} {dC : Nat → ClassId} {dI : Nat → Nat → Nat} {cyB cyI cyJ cyZ cyO : ClassId} {adK adV : Nat → Nat} (C0 : lw_At p s m meth c b L xs) (hL : L ≤ 3072) (hKN : KN (dC, dI) (kT cyB cyI cyJ cyZ cyO) s) (hZ : ZS adK adV (fun q : Nat => s.heap.size ≤ q) s s.heap) {oX oM : Nat} {i t : Int32} {WX WM : va_W} {cells slots : Nat} (hXI : XI cyB cyI cyJ cyZ cyO oX t WX) (hMI : MI cyB cyI cyJ cyZ cyO oM t WM) (hi0 : 0 ≤ i.toInt) (hi6 : i.toInt + 6 ≤ L) (hc : cells + 8 ≤ 600000) (hs : slots + 773 ≤ 7302250) {H : Heap} {locs : List Loc} (hP : va_P (dC, dI) vwCl (WX ++ WM) H) (hD : va_D (fun q : Nat => s.heap.size ≤ q) (WX ++ WM)) (hS : va_S (fun q : Nat => s.heap.size ≤ q) s.heap H locs) {ls : Array Slot} (hl : lv_has ls 4 [(3, .int i), (2, .ref oM), (1, .ref oX), (0, .ref b)]) (kk : ∀ (t : Int32) (WX WM : va_W) (H : Heap) (locs : List Loc), XI cyB cyI cyJ cyZ cyO oX t WX → MI cyB cyI cyJ cyZ cyO oM t WM → va_P (dC, dI) vwCl (WX ++ WM) H → va_D (fun q : Nat => s.heap.size ≤ q) (WX ++ WM) → va_S (fun q : Nat => s.heap.size ≤ q) s.heap H locs → W p l e room_1 s m #[Value.ref b] below meth c H locs (cells + 8) (slots + 773) (lw_Z below #[Value.ref b] s) (F0 m 1548 ls [])) : W p l e room_1 s m #[Value.ref b] below meth c H locs cells slots (lw_Z below #[Value.ref b] s) (F0 m 763 ls []) := by
  obtain ⟨hx, hb, hr, hml, hown, hts, hX, hbl, hlocks, hgv⟩ := id C0
  have hA : ∀ q : Nat, s.heap.size ≤ q → (fun q : Nat => s.heap.size ≤ q) q := fun _ h => h
  have hbA : ¬ (fun q : Nat => s.heap.size ≤ q) b := Nat.not_le.mpr hbl
  have hfix : CallFix p m c code 4 s #[Value.ref b] lw_tbl R_law := ⟨hx, hb, hml, hown, hts⟩
  refine lv_aload_n hx hb dL_law_763 rfl (lv_at hl 2 rfl) ?_
  refine lv_aload_n hx hb dL_law_764 rfl (lv_at hl 3 rfl) ?_
  refine lv_iload_n hx hb dL_law_765 rfl (lv_at hl 0 rfl) ?_
  refine lv_iconst (v := 1) hx hb dL_law_766 (by decide) ?_
  refine lv_iadd hx hb dL_law_767 ?_
  refine lv_topi (fun z1 ez1 => ?_)
  have tz1 : z1.toInt = i.toInt + 1 := ti_add ez1 rfl (by decide) (by omega) (by omega)
  refine va_sld hx hb hX hbl hbA hS (vp_i rfl (by omega) (by omega)) dL_law_768 ?_
  refine lv_topi (fun v2 ev2 => ?_)
  clear ev2
  refine lv_aload_n hx hb dL_law_769 rfl (lv_at hl 3 rfl) ?_
  refine lv_iload_n hx hb dL_law_770 rfl (lv_at hl 0 rfl) ?_
  refine lv_iconst (v := 2) hx hb dL_law_771 (by decide) ?_
  refine lv_iadd hx hb dL_law_772 ?_
  refine lv_topi (fun z3 ez3 => ?_)
  have tz3 : z3.toInt = i.toInt + 2 := ti_add ez3 rfl (by decide) (by omega) (by omega)
  refine va_sld hx hb hX hbl hbA hS (vp_i rfl (by omega) (by omega)) dL_law_773 ?_
  refine lv_topi (fun v4 ev4 => ?_)
  clear ev4
  refine lw_i (va_runV (As := [.int v2, .int v4]) (rest := []) hfix (cx_versions l dC dI cyB cyI cyJ cyZ cyO adK adV oX t WX hXI v2 v4 _) (cwV 2 hts (gi_V tw_116 tw_117 tw_118 tw_3 tb_k_X_versions gd_k_X_versions) rfl rfl rfl (by decide +kernel) ⟨Nat.le_of_ble_eq_true rfl, Nat.le_of_ble_eq_true rfl⟩) (g_preW hZ hS hA hKN hP hD 6 (XI.recv hXI) rfl) rfl rfl hl.1 rfl (lv_room (Nat.le_of_ble_eq_true rfl)) dL_law_774 ⟨lw_rc (by omega), lw_rs (by omega)⟩) hP hD hS hA (fun r5 W1 H locs q1 hP hD hS => ?_)
  refine lv_pop hx hb dL_law_777 rfl ?_
  refine lv_aload_n hx hb dL_law_778 rfl (lv_at hl 1 rfl) ?_
  refine lv_aload_n hx hb dL_law_779 rfl (lv_at hl 3 rfl) ?_
  refine lv_iload_n hx hb dL_law_780 rfl (lv_at hl 0 rfl) ?_
  refine lv_iconst (v := 1) hx hb dL_law_781 (by decide) ?_
  refine lv_iadd hx hb dL_law_782 ?_
  refine lv_topi (fun z6 ez6 => ?_)
  have tz6 : z6.toInt = i.toInt + 1 := ti_add ez6 rfl (by decide) (by omega) (by omega)
  refine va_sld hx hb hX hbl hbA hS (vp_i rfl (by omega) (by omega)) dL_law_783 ?_
  refine lv_topi (fun v7 ev7 => ?_)
  clear ev7
  refine lv_aload_n hx hb dL_law_784 rfl (lv_at hl 3 rfl) ?_
  refine lv_iload_n hx hb dL_law_785 rfl (lv_at hl 0 rfl) ?_
  refine lv_iconst (v := 2) hx hb dL_law_786 (by decide) ?_
  refine lv_iadd hx hb dL_law_787 ?_
  refine lv_topi (fun z8 ez8 => ?_)
  have tz8 : z8.toInt = i.toInt + 2 := ti_add ez8 rfl (by decide) (by omega) (by omega)
  refine va_sld hx hb hX hbl hbA hS (vp_i rfl (by omega) (by omega)) dL_law_788 ?_
  refine lv_topi (fun v9 ev9 => ?_)
  clear ev9
  refine lw_i (va_runV (As := [.int v7, .int v9]) (rest := []) hfix (cm_versions l dC dI cyB cyI cyJ cyZ cyO adK adV oM t WM hMI v7 v9 _) (cwV 2 hts (gi_V tw_119 tw_120 tw_121 tw_7 tb_k_M_versions gd_k_M_versions) rfl rfl rfl (by decide +kernel) ⟨Nat.le_of_ble_eq_true rfl, Nat.le_of_ble_eq_true rfl⟩) (g_preW hZ hS hA hKN hP hD 7 (MI.recv hMI) rfl) rfl rfl hl.1 rfl (lv_room (Nat.le_of_ble_eq_true rfl)) dL_law_789 ⟨lw_rc (by omega), lw_rs (by omega)⟩) hP hD hS hA (fun r10 W2 H locs q2 hP hD hS => ?_)
  refine lv_pop hx hb dL_law_792 rfl ?_
  refine lv_goto (tgt := 1548) hx hb dL_law_793 (by decide) ?_
  refine W.widen (k := cells + 8) (n := slots + 773) (by omega) (by omega) ?_
  exact kk t W1 W2 H locs q1 q2 hP hD hS
set_option maxHeartbeats 4000000 in
set_option maxRecDepth 100000 in
theorem law_20 {p : Program} {l : Launch} {e : Env} {s : State} {m : MethodId} {below : List Frame} {meth : Method} {c : Code} {b L : Nat} {xs : Nat → Int32} {dC : Nat → ClassId} {dI : Nat → Nat → Nat} {cyB cyI cyJ cyZ cyO : ClassId} {adK adV : Nat → Nat} (C0 : lw_At p s m meth c b L xs) (hL : L ≤ 3072) (hKN : KN (dC, dI) (kT cyB cyI cyJ cyZ cyO) s) (hZ : ZS adK adV (fun q : Nat => s.heap.size ≤ q) s s.heap) {oX oM : Nat} {i t : Int32} {WX WM : va_W} {cells slots : Nat} (hXI : XI cyB cyI cyJ cyZ cyO oX t WX) (hMI : MI cyB cyI cyJ cyZ cyO oM t WM) (hi0 : 0 ≤ i.toInt) (hi6 : i.toInt + 6 ≤ L) (hc : cells + 8 ≤ 600000) (hs : slots + 773 ≤ 7302250) {H : Heap} {locs : List Loc} (hP : va_P (dC, dI) vwCl (WX ++ WM) H) (hD : va_D (fun q : Nat => s.heap.size ≤ q) (WX ++ WM)) (hS : va_S (fun q : Nat => s.heap.size ≤ q) s.heap H locs) {ls : Array Slot} (hl : lv_has ls 4 [(3, .int i), (2, .ref oM), (1, .ref oX), (0, .ref b)]) (kk : ∀ (t : Int32) (WX WM : va_W) (H : Heap) (locs : List Loc), XI cyB cyI cyJ cyZ cyO oX t WX → MI cyB cyI cyJ cyZ cyO oM t WM → va_P (dC, dI) vwCl (WX ++ WM) H → va_D (fun q : Nat => s.heap.size ≤ q) (WX ++ WM) → va_S (fun q : Nat => s.heap.size ≤ q) s.heap H locs → W p l e room_1 s m #[Value.ref b] below meth c H locs (cells + 8) (slots + 773) (lw_Z below #[Value.ref b] s) (F0 m 1548 ls [])) : W p l e room_1 s m #[Value.ref b] below meth c H locs cells slots (lw_Z below #[Value.ref b] s) (F0 m 796 ls []) := by
  obtain ⟨hx, hb, hr, hml, hown, hts, hX, hbl, hlocks, hgv⟩ := id C0
  have hA : ∀ q : Nat, s.heap.size ≤ q → (fun q : Nat => s.heap.size ≤ q) q := fun _ h => h
  have hbA : ¬ (fun q : Nat => s.heap.size ≤ q) b := Nat.not_le.mpr hbl
  have hfix : CallFix p m c code 4 s #[Value.ref b] lw_tbl R_law := ⟨hx, hb, hml, hown, hts⟩
  refine lv_aload_n hx hb dL_law_796 rfl (lv_at hl 2 rfl) ?_
  refine lv_aload_n hx hb dL_law_797 rfl (lv_at hl 3 rfl) ?_
  refine lv_iload_n hx hb dL_law_798 rfl (lv_at hl 0 rfl) ?_
  refine lv_iconst (v := 1) hx hb dL_law_799 (by decide) ?_
  refine lv_iadd hx hb dL_law_800 ?_
  refine lv_topi (fun z1 ez1 => ?_)
  have tz1 : z1.toInt = i.toInt + 1 := ti_add ez1 rfl (by decide) (by omega) (by omega)
  refine va_sld hx hb hX hbl hbA hS (vp_i rfl (by omega) (by omega)) dL_law_801 ?_
  refine lv_topi (fun v2 ev2 => ?_)
  clear ev2
  refine lv_aload_n hx hb dL_law_802 rfl (lv_at hl 3 rfl) ?_
  refine lv_iload_n hx hb dL_law_803 rfl (lv_at hl 0 rfl) ?_
  refine lv_iconst (v := 2) hx hb dL_law_804 (by decide) ?_
  refine lv_iadd hx hb dL_law_805 ?_
  refine lv_topi (fun z3 ez3 => ?_)
  have tz3 : z3.toInt = i.toInt + 2 := ti_add ez3 rfl (by decide) (by omega) (by omega)
  refine va_sld hx hb hX hbl hbA hS (vp_i rfl (by omega) (by omega)) dL_law_806 ?_
  refine lv_topi (fun v4 ev4 => ?_)
  clear ev4
  refine lv_aload_n hx hb dL_law_807 rfl (lv_at hl 3 rfl) ?_
  refine lv_iload_n hx hb dL_law_808 rfl (lv_at hl 0 rfl) ?_
  refine lv_iconst (v := 3) hx hb dL_law_809 (by decide) ?_
  refine lv_iadd hx hb dL_law_810 ?_
  refine lv_topi (fun z5 ez5 => ?_)
  have tz5 : z5.toInt = i.toInt + 3 := ti_add ez5 rfl (by decide) (by omega) (by omega)
  refine va_sld hx hb hX hbl hbA hS (vp_i rfl (by omega) (by omega)) dL_law_811 ?_
  refine lv_topi (fun v6 ev6 => ?_)
  clear ev6
  refine lw_i (va_runV (As := [.int v2, .int v4, .int v6]) (rest := []) hfix (cx_version l dC dI cyB cyI cyJ cyZ cyO adK adV oX t WX hXI v2 v4 v6 _) (cwV 3 hts (gi_V tw_122 tw_123 tw_124 tw_3 tb_k_X_version gd_k_X_version) rfl rfl rfl (by decide +kernel) ⟨Nat.le_of_ble_eq_true rfl, Nat.le_of_ble_eq_true rfl⟩) (g_preW hZ hS hA hKN hP hD 6 (XI.recv hXI) rfl) rfl rfl hl.1 rfl (lv_room (Nat.le_of_ble_eq_true rfl)) dL_law_812 ⟨lw_rc (by omega), lw_rs (by omega)⟩) hP hD hS hA (fun r7 W1 H locs q1 hP hD hS => ?_)
  refine lv_pop hx hb dL_law_815 rfl ?_
  refine lv_aload_n hx hb dL_law_816 rfl (lv_at hl 1 rfl) ?_
  refine lv_aload_n hx hb dL_law_817 rfl (lv_at hl 3 rfl) ?_
  refine lv_iload_n hx hb dL_law_818 rfl (lv_at hl 0 rfl) ?_
  refine lv_iconst (v := 1) hx hb dL_law_819 (by decide) ?_
  refine lv_iadd hx hb dL_law_820 ?_
  refine lv_topi (fun z8 ez8 => ?_)
  have tz8 : z8.toInt = i.toInt + 1 := ti_add ez8 rfl (by decide) (by omega) (by omega)
  refine va_sld hx hb hX hbl hbA hS (vp_i rfl (by omega) (by omega)) dL_law_821 ?_
  refine lv_topi (fun v9 ev9 => ?_)
  clear ev9
  refine lv_aload_n hx hb dL_law_822 rfl (lv_at hl 3 rfl) ?_
  refine lv_iload_n hx hb dL_law_823 rfl (lv_at hl 0 rfl) ?_
  refine lv_iconst (v := 2) hx hb dL_law_824 (by decide) ?_
  refine lv_iadd hx hb dL_law_825 ?_
  refine lv_topi (fun z10 ez10 => ?_)
  have tz10 : z10.toInt = i.toInt + 2 := ti_add ez10 rfl (by decide) (by omega) (by omega)
  refine va_sld hx hb hX hbl hbA hS (vp_i rfl (by omega) (by omega)) dL_law_826 ?_
  refine lv_topi (fun v11 ev11 => ?_)
  clear ev11
  refine lv_aload_n hx hb dL_law_827 rfl (lv_at hl 3 rfl) ?_
  refine lv_iload_n hx hb dL_law_828 rfl (lv_at hl 0 rfl) ?_
  refine lv_iconst (v := 3) hx hb dL_law_829 (by decide) ?_
  refine lv_iadd hx hb dL_law_830 ?_
  refine lv_topi (fun z12 ez12 => ?_)
  have tz12 : z12.toInt = i.toInt + 3 := ti_add ez12 rfl (by decide) (by omega) (by omega)
  refine va_sld hx hb hX hbl hbA hS (vp_i rfl (by omega) (by omega)) dL_law_831 ?_
  refine lv_topi (fun v13 ev13 => ?_)
  clear ev13
  refine lw_i (va_runV (As := [.int v9, .int v11, .int v13]) (rest := []) hfix (cm_version l dC dI cyB cyI cyJ cyZ cyO adK adV oM t WM hMI v9 v11 v13 _) (cwV 3 hts (gi_V tw_125 tw_126 tw_127 tw_7 tb_k_M_version gd_k_M_version) rfl rfl rfl (by decide +kernel) ⟨Nat.le_of_ble_eq_true rfl, Nat.le_of_ble_eq_true rfl⟩) (g_preW hZ hS hA hKN hP hD 7 (MI.recv hMI) rfl) rfl rfl hl.1 rfl (lv_room (Nat.le_of_ble_eq_true rfl)) dL_law_832 ⟨lw_rc (by omega), lw_rs (by omega)⟩) hP hD hS hA (fun r14 W2 H locs q2 hP hD hS => ?_)
  refine lv_pop hx hb dL_law_835 rfl ?_
  refine lv_goto (tgt := 1548) hx hb dL_law_836 (by decide) ?_
  refine W.widen (k := cells + 8) (n := slots + 773) (by omega) (by omega) ?_
  exact kk t W1 W2 H locs q1 q2 hP hD hS
set_option maxHeartbeats 4000000 in
set_option maxRecDepth 100000 in
theorem law_21 {p : Program} {l : Launch} {e : Env} {s : State} {m : MethodId} {below : List Frame} {meth : Method} {c : Code} {b L : Nat} {xs : Nat → Int32} {dC : Nat → ClassId} {dI : Nat → Nat → Nat} {cyB cyI cyJ cyZ cyO : ClassId} {adK adV : Nat → Nat} (C0 : lw_At p s m meth c b L xs) (hL : L ≤ 3072) (hKN : KN (dC, dI) (kT cyB cyI cyJ cyZ cyO) s) (hZ : ZS adK adV (fun q : Nat => s.heap.size ≤ q) s s.heap) {oX oM : Nat} {i t : Int32} {WX WM : va_W} {cells slots : Nat} (hXI : XI cyB cyI cyJ cyZ cyO oX t WX) (hMI : MI cyB cyI cyJ cyZ cyO oM t WM) (hi0 : 0 ≤ i.toInt) (hi6 : i.toInt + 6 ≤ L) (hc : cells + 8 ≤ 600000) (hs : slots + 773 ≤ 7302250) {H : Heap} {locs : List Loc} (hP : va_P (dC, dI) vwCl (WX ++ WM) H) (hD : va_D (fun q : Nat => s.heap.size ≤ q) (WX ++ WM)) (hS : va_S (fun q : Nat => s.heap.size ≤ q) s.heap H locs) {ls : Array Slot} (hl : lv_has ls 4 [(3, .int i), (2, .ref oM), (1, .ref oX), (0, .ref b)]) (kk : ∀ (t : Int32) (WX WM : va_W) (H : Heap) (locs : List Loc), XI cyB cyI cyJ cyZ cyO oX t WX → MI cyB cyI cyJ cyZ cyO oM t WM → va_P (dC, dI) vwCl (WX ++ WM) H → va_D (fun q : Nat => s.heap.size ≤ q) (WX ++ WM) → va_S (fun q : Nat => s.heap.size ≤ q) s.heap H locs → W p l e room_1 s m #[Value.ref b] below meth c H locs (cells + 8) (slots + 773) (lw_Z below #[Value.ref b] s) (F0 m 1548 ls [])) : W p l e room_1 s m #[Value.ref b] below meth c H locs cells slots (lw_Z below #[Value.ref b] s) (F0 m 839 ls []) := by
  obtain ⟨hx, hb, hr, hml, hown, hts, hX, hbl, hlocks, hgv⟩ := id C0
  have hA : ∀ q : Nat, s.heap.size ≤ q → (fun q : Nat => s.heap.size ≤ q) q := fun _ h => h
  have hbA : ¬ (fun q : Nat => s.heap.size ≤ q) b := Nat.not_le.mpr hbl
  have hfix : CallFix p m c code 4 s #[Value.ref b] lw_tbl R_law := ⟨hx, hb, hml, hown, hts⟩
  refine lv_aload_n hx hb dL_law_839 rfl (lv_at hl 2 rfl) ?_
  refine lv_aload_n hx hb dL_law_840 rfl (lv_at hl 3 rfl) ?_
  refine lv_iload_n hx hb dL_law_841 rfl (lv_at hl 0 rfl) ?_
  refine lv_iconst (v := 1) hx hb dL_law_842 (by decide) ?_
  refine lv_iadd hx hb dL_law_843 ?_
  refine lv_topi (fun z1 ez1 => ?_)
  have tz1 : z1.toInt = i.toInt + 1 := ti_add ez1 rfl (by decide) (by omega) (by omega)
  refine va_sld hx hb hX hbl hbA hS (vp_i rfl (by omega) (by omega)) dL_law_844 ?_
  refine lv_topi (fun v2 ev2 => ?_)
  clear ev2
  refine lv_aload_n hx hb dL_law_845 rfl (lv_at hl 3 rfl) ?_
  refine lv_iload_n hx hb dL_law_846 rfl (lv_at hl 0 rfl) ?_
  refine lv_iconst (v := 2) hx hb dL_law_847 (by decide) ?_
  refine lv_iadd hx hb dL_law_848 ?_
  refine lv_topi (fun z3 ez3 => ?_)
  have tz3 : z3.toInt = i.toInt + 2 := ti_add ez3 rfl (by decide) (by omega) (by omega)
  refine va_sld hx hb hX hbl hbA hS (vp_i rfl (by omega) (by omega)) dL_law_849 ?_
  refine lv_topi (fun v4 ev4 => ?_)
  clear ev4
  refine lw_i (va_runV (As := [.int v2, .int v4]) (rest := []) hfix (cx_will l dC dI cyB cyI cyJ cyZ cyO adK adV oX t WX hXI v2 v4 _) (cwV 2 hts (gi_V tw_128 tw_129 tw_130 tw_3 tb_k_X_will gd_k_X_will) rfl rfl rfl (by decide +kernel) ⟨Nat.le_of_ble_eq_true rfl, Nat.le_of_ble_eq_true rfl⟩) (g_preW hZ hS hA hKN hP hD 6 (XI.recv hXI) rfl) rfl rfl hl.1 rfl (lv_room (Nat.le_of_ble_eq_true rfl)) dL_law_850 ⟨lw_rc (by omega), lw_rs (by omega)⟩) hP hD hS hA (fun r5 W1 H locs q1 hP hD hS => ?_)
  refine lv_pop hx hb dL_law_853 rfl ?_
  refine lv_aload_n hx hb dL_law_854 rfl (lv_at hl 1 rfl) ?_
  refine lv_aload_n hx hb dL_law_855 rfl (lv_at hl 3 rfl) ?_
  refine lv_iload_n hx hb dL_law_856 rfl (lv_at hl 0 rfl) ?_
  refine lv_iconst (v := 1) hx hb dL_law_857 (by decide) ?_
  refine lv_iadd hx hb dL_law_858 ?_
  refine lv_topi (fun z6 ez6 => ?_)
  have tz6 : z6.toInt = i.toInt + 1 := ti_add ez6 rfl (by decide) (by omega) (by omega)
  refine va_sld hx hb hX hbl hbA hS (vp_i rfl (by omega) (by omega)) dL_law_859 ?_
  refine lv_topi (fun v7 ev7 => ?_)
  clear ev7
  refine lv_aload_n hx hb dL_law_860 rfl (lv_at hl 3 rfl) ?_
  refine lv_iload_n hx hb dL_law_861 rfl (lv_at hl 0 rfl) ?_
  refine lv_iconst (v := 2) hx hb dL_law_862 (by decide) ?_
  refine lv_iadd hx hb dL_law_863 ?_
  refine lv_topi (fun z8 ez8 => ?_)
  have tz8 : z8.toInt = i.toInt + 2 := ti_add ez8 rfl (by decide) (by omega) (by omega)
  refine va_sld hx hb hX hbl hbA hS (vp_i rfl (by omega) (by omega)) dL_law_864 ?_
  refine lv_topi (fun v9 ev9 => ?_)
  clear ev9
  refine lw_i (va_runV (As := [.int v7, .int v9]) (rest := []) hfix (cm_will l dC dI cyB cyI cyJ cyZ cyO adK adV oM t WM hMI v7 v9 _) (cwV 2 hts (gi_V tw_131 tw_132 tw_133 tw_7 tb_k_M_will gd_k_M_will) rfl rfl rfl (by decide +kernel) ⟨Nat.le_of_ble_eq_true rfl, Nat.le_of_ble_eq_true rfl⟩) (g_preW hZ hS hA hKN hP hD 7 (MI.recv hMI) rfl) rfl rfl hl.1 rfl (lv_room (Nat.le_of_ble_eq_true rfl)) dL_law_865 ⟨lw_rc (by omega), lw_rs (by omega)⟩) hP hD hS hA (fun r10 W2 H locs q2 hP hD hS => ?_)
  refine lv_pop hx hb dL_law_868 rfl ?_
  refine lv_goto (tgt := 1548) hx hb dL_law_869 (by decide) ?_
  refine W.widen (k := cells + 8) (n := slots + 773) (by omega) (by omega) ?_
  exact kk t W1 W2 H locs q1 q2 hP hD hS
set_option maxHeartbeats 4000000 in
set_option maxRecDepth 100000 in
theorem law_22 {p : Program} {l : Launch} {e : Env} {s : State} {m : MethodId} {below : List Frame} {meth : Method} {c : Code} {b L : Nat} {xs : Nat → Int32} {dC : Nat → ClassId} {dI : Nat → Nat → Nat} {cyB cyI cyJ cyZ cyO : ClassId} {adK adV : Nat → Nat} (C0 : lw_At p s m meth c b L xs) (hL : L ≤ 3072) (hKN : KN (dC, dI) (kT cyB cyI cyJ cyZ cyO) s) (hZ : ZS adK adV (fun q : Nat => s.heap.size ≤ q) s s.heap) {oX oM : Nat} {i t : Int32} {WX WM : va_W} {cells slots : Nat} (hXI : XI cyB cyI cyJ cyZ cyO oX t WX) (hMI : MI cyB cyI cyJ cyZ cyO oM t WM) (hi0 : 0 ≤ i.toInt) (hi6 : i.toInt + 6 ≤ L) (hc : cells + 8 ≤ 600000) (hs : slots + 773 ≤ 7302250) {H : Heap} {locs : List Loc} (hP : va_P (dC, dI) vwCl (WX ++ WM) H) (hD : va_D (fun q : Nat => s.heap.size ≤ q) (WX ++ WM)) (hS : va_S (fun q : Nat => s.heap.size ≤ q) s.heap H locs) {ls : Array Slot} (hl : lv_has ls 4 [(3, .int i), (2, .ref oM), (1, .ref oX), (0, .ref b)]) (kk : ∀ (t : Int32) (WX WM : va_W) (H : Heap) (locs : List Loc), XI cyB cyI cyJ cyZ cyO oX t WX → MI cyB cyI cyJ cyZ cyO oM t WM → va_P (dC, dI) vwCl (WX ++ WM) H → va_D (fun q : Nat => s.heap.size ≤ q) (WX ++ WM) → va_S (fun q : Nat => s.heap.size ≤ q) s.heap H locs → W p l e room_1 s m #[Value.ref b] below meth c H locs (cells + 8) (slots + 773) (lw_Z below #[Value.ref b] s) (F0 m 1548 ls [])) : W p l e room_1 s m #[Value.ref b] below meth c H locs cells slots (lw_Z below #[Value.ref b] s) (F0 m 872 ls []) := by
  obtain ⟨hx, hb, hr, hml, hown, hts, hX, hbl, hlocks, hgv⟩ := id C0
  have hA : ∀ q : Nat, s.heap.size ≤ q → (fun q : Nat => s.heap.size ≤ q) q := fun _ h => h
  have hbA : ¬ (fun q : Nat => s.heap.size ≤ q) b := Nat.not_le.mpr hbl
  have hfix : CallFix p m c code 4 s #[Value.ref b] lw_tbl R_law := ⟨hx, hb, hml, hown, hts⟩
  refine lv_aload_n hx hb dL_law_872 rfl (lv_at hl 2 rfl) ?_
  refine lv_aload_n hx hb dL_law_873 rfl (lv_at hl 3 rfl) ?_
  refine lv_iload_n hx hb dL_law_874 rfl (lv_at hl 0 rfl) ?_
  refine lv_iconst (v := 1) hx hb dL_law_875 (by decide) ?_
  refine lv_iadd hx hb dL_law_876 ?_
  refine lv_topi (fun z1 ez1 => ?_)
  have tz1 : z1.toInt = i.toInt + 1 := ti_add ez1 rfl (by decide) (by omega) (by omega)
  refine va_sld hx hb hX hbl hbA hS (vp_i rfl (by omega) (by omega)) dL_law_877 ?_
  refine lv_topi (fun v2 ev2 => ?_)
  clear ev2
  refine lw_i (va_runV (As := [.int v2]) (rest := []) hfix (cx_when l dC dI cyB cyI cyJ cyZ cyO adK adV oX t WX hXI v2 _) (cwV 1 hts (gi_V tw_134 tw_135 tw_136 tw_3 tb_k_X_when gd_k_X_when) rfl rfl rfl (by decide +kernel) ⟨Nat.le_of_ble_eq_true rfl, Nat.le_of_ble_eq_true rfl⟩) (g_preW hZ hS hA hKN hP hD 6 (XI.recv hXI) rfl) rfl rfl hl.1 rfl (lv_room (Nat.le_of_ble_eq_true rfl)) dL_law_878 ⟨lw_rc (by omega), lw_rs (by omega)⟩) hP hD hS hA (fun r3 W1 H locs q1 hP hD hS => ?_)
  refine lv_pop hx hb dL_law_881 rfl ?_
  refine lv_aload_n hx hb dL_law_882 rfl (lv_at hl 1 rfl) ?_
  refine lv_aload_n hx hb dL_law_883 rfl (lv_at hl 3 rfl) ?_
  refine lv_iload_n hx hb dL_law_884 rfl (lv_at hl 0 rfl) ?_
  refine lv_iconst (v := 1) hx hb dL_law_885 (by decide) ?_
  refine lv_iadd hx hb dL_law_886 ?_
  refine lv_topi (fun z4 ez4 => ?_)
  have tz4 : z4.toInt = i.toInt + 1 := ti_add ez4 rfl (by decide) (by omega) (by omega)
  refine va_sld hx hb hX hbl hbA hS (vp_i rfl (by omega) (by omega)) dL_law_887 ?_
  refine lv_topi (fun v5 ev5 => ?_)
  clear ev5
  refine lw_i (va_runV (As := [.int v5]) (rest := []) hfix (cm_when l dC dI cyB cyI cyJ cyZ cyO adK adV oM t WM hMI v5 _) (cwV 1 hts (gi_V tw_137 tw_138 tw_139 tw_7 tb_k_M_when gd_k_M_when) rfl rfl rfl (by decide +kernel) ⟨Nat.le_of_ble_eq_true rfl, Nat.le_of_ble_eq_true rfl⟩) (g_preW hZ hS hA hKN hP hD 7 (MI.recv hMI) rfl) rfl rfl hl.1 rfl (lv_room (Nat.le_of_ble_eq_true rfl)) dL_law_888 ⟨lw_rc (by omega), lw_rs (by omega)⟩) hP hD hS hA (fun r6 W2 H locs q2 hP hD hS => ?_)
  refine lv_pop hx hb dL_law_891 rfl ?_
  refine lv_goto (tgt := 1548) hx hb dL_law_892 (by decide) ?_
  refine W.widen (k := cells + 8) (n := slots + 773) (by omega) (by omega) ?_
  exact kk t W1 W2 H locs q1 q2 hP hD hS
set_option maxHeartbeats 4000000 in
set_option maxRecDepth 100000 in
theorem law_23 {p : Program} {l : Launch} {e : Env} {s : State} {m : MethodId} {below : List Frame} {meth : Method} {c : Code} {b L : Nat} {xs : Nat → Int32} {dC : Nat → ClassId} {dI : Nat → Nat → Nat} {cyB cyI cyJ cyZ cyO : ClassId} {adK adV : Nat → Nat} (C0 : lw_At p s m meth c b L xs) (hL : L ≤ 3072) (hKN : KN (dC, dI) (kT cyB cyI cyJ cyZ cyO) s) (hZ : ZS adK adV (fun q : Nat => s.heap.size ≤ q) s s.heap) {oX oM : Nat} {i t : Int32} {WX WM : va_W} {cells slots : Nat} (hXI : XI cyB cyI cyJ cyZ cyO oX t WX) (hMI : MI cyB cyI cyJ cyZ cyO oM t WM) (hi0 : 0 ≤ i.toInt) (hi6 : i.toInt + 6 ≤ L) (hc : cells + 8 ≤ 600000) (hs : slots + 773 ≤ 7302250) {H : Heap} {locs : List Loc} (hP : va_P (dC, dI) vwCl (WX ++ WM) H) (hD : va_D (fun q : Nat => s.heap.size ≤ q) (WX ++ WM)) (hS : va_S (fun q : Nat => s.heap.size ≤ q) s.heap H locs) {ls : Array Slot} (hl : lv_has ls 4 [(3, .int i), (2, .ref oM), (1, .ref oX), (0, .ref b)]) (kk : ∀ (t : Int32) (WX WM : va_W) (H : Heap) (locs : List Loc), XI cyB cyI cyJ cyZ cyO oX t WX → MI cyB cyI cyJ cyZ cyO oM t WM → va_P (dC, dI) vwCl (WX ++ WM) H → va_D (fun q : Nat => s.heap.size ≤ q) (WX ++ WM) → va_S (fun q : Nat => s.heap.size ≤ q) s.heap H locs → W p l e room_1 s m #[Value.ref b] below meth c H locs (cells + 8) (slots + 773) (lw_Z below #[Value.ref b] s) (F0 m 1548 ls [])) : W p l e room_1 s m #[Value.ref b] below meth c H locs cells slots (lw_Z below #[Value.ref b] s) (F0 m 895 ls []) := by
  obtain ⟨hx, hb, hr, hml, hown, hts, hX, hbl, hlocks, hgv⟩ := id C0
  have hA : ∀ q : Nat, s.heap.size ≤ q → (fun q : Nat => s.heap.size ≤ q) q := fun _ h => h
  have hbA : ¬ (fun q : Nat => s.heap.size ≤ q) b := Nat.not_le.mpr hbl
  have hfix : CallFix p m c code 4 s #[Value.ref b] lw_tbl R_law := ⟨hx, hb, hml, hown, hts⟩
  refine lv_aload_n hx hb dL_law_895 rfl (lv_at hl 2 rfl) ?_
  refine lw_i (va_runV (As := []) (rest := []) hfix (cx_still l dC dI cyB cyI cyJ cyZ cyO adK adV oX t WX hXI _) (cwV 0 hts (gi_V tw_140 tw_141 tw_142 tw_3 tb_k_X_still gd_k_X_still) rfl rfl rfl (by decide +kernel) ⟨Nat.le_of_ble_eq_true rfl, Nat.le_of_ble_eq_true rfl⟩) (g_preW hZ hS hA hKN hP hD 6 (XI.recv hXI) rfl) rfl rfl hl.1 rfl (lv_room (Nat.le_of_ble_eq_true rfl)) dL_law_896 ⟨lw_rc (by omega), lw_rs (by omega)⟩) hP hD hS hA (fun r1 W1 H locs q1 hP hD hS => ?_)
  refine lv_pop hx hb dL_law_899 rfl ?_
  refine lv_aload_n hx hb dL_law_900 rfl (lv_at hl 1 rfl) ?_
  refine lw_i (va_runV (As := []) (rest := []) hfix (cm_still l dC dI cyB cyI cyJ cyZ cyO adK adV oM t WM hMI _) (cwV 0 hts (gi_V tw_143 tw_144 tw_145 tw_7 tb_k_M_still gd_k_M_still) rfl rfl rfl (by decide +kernel) ⟨Nat.le_of_ble_eq_true rfl, Nat.le_of_ble_eq_true rfl⟩) (g_preW hZ hS hA hKN hP hD 7 (MI.recv hMI) rfl) rfl rfl hl.1 rfl (lv_room (Nat.le_of_ble_eq_true rfl)) dL_law_901 ⟨lw_rc (by omega), lw_rs (by omega)⟩) hP hD hS hA (fun r2 W2 H locs q2 hP hD hS => ?_)
  refine lv_pop hx hb dL_law_904 rfl ?_
  refine lv_goto (tgt := 1548) hx hb dL_law_905 (by decide) ?_
  refine W.widen (k := cells + 8) (n := slots + 773) (by omega) (by omega) ?_
  exact kk t W1 W2 H locs q1 q2 hP hD hS
set_option maxHeartbeats 4000000 in
set_option maxRecDepth 100000 in
theorem law_24 {p : Program} {l : Launch} {e : Env} {s : State} {m : MethodId} {below : List Frame} {meth : Method} {c : Code} {b L : Nat} {xs : Nat → Int32} {dC : Nat → ClassId} {dI : Nat → Nat → Nat} {cyB cyI cyJ cyZ cyO : ClassId} {adK adV : Nat → Nat} (C0 : lw_At p s m meth c b L xs) (hL : L ≤ 3072) (hKN : KN (dC, dI) (kT cyB cyI cyJ cyZ cyO) s) (hZ : ZS adK adV (fun q : Nat => s.heap.size ≤ q) s s.heap) {oX oM : Nat} {i t : Int32} {WX WM : va_W} {cells slots : Nat} (hXI : XI cyB cyI cyJ cyZ cyO oX t WX) (hMI : MI cyB cyI cyJ cyZ cyO oM t WM) (hi0 : 0 ≤ i.toInt) (hi6 : i.toInt + 6 ≤ L) (hc : cells + 8 ≤ 600000) (hs : slots + 773 ≤ 7302250) {H : Heap} {locs : List Loc} (hP : va_P (dC, dI) vwCl (WX ++ WM) H) (hD : va_D (fun q : Nat => s.heap.size ≤ q) (WX ++ WM)) (hS : va_S (fun q : Nat => s.heap.size ≤ q) s.heap H locs) {ls : Array Slot} (hl : lv_has ls 4 [(3, .int i), (2, .ref oM), (1, .ref oX), (0, .ref b)]) (kk : ∀ (t : Int32) (WX WM : va_W) (H : Heap) (locs : List Loc), XI cyB cyI cyJ cyZ cyO oX t WX → MI cyB cyI cyJ cyZ cyO oM t WM → va_P (dC, dI) vwCl (WX ++ WM) H → va_D (fun q : Nat => s.heap.size ≤ q) (WX ++ WM) → va_S (fun q : Nat => s.heap.size ≤ q) s.heap H locs → W p l e room_1 s m #[Value.ref b] below meth c H locs (cells + 8) (slots + 773) (lw_Z below #[Value.ref b] s) (F0 m 1548 ls [])) : W p l e room_1 s m #[Value.ref b] below meth c H locs cells slots (lw_Z below #[Value.ref b] s) (F0 m 908 ls []) := by
  obtain ⟨hx, hb, hr, hml, hown, hts, hX, hbl, hlocks, hgv⟩ := id C0
  have hA : ∀ q : Nat, s.heap.size ≤ q → (fun q : Nat => s.heap.size ≤ q) q := fun _ h => h
  have hbA : ¬ (fun q : Nat => s.heap.size ≤ q) b := Nat.not_le.mpr hbl
  have hfix : CallFix p m c code 4 s #[Value.ref b] lw_tbl R_law := ⟨hx, hb, hml, hown, hts⟩
  refine lv_aload_n hx hb dL_law_908 rfl (lv_at hl 2 rfl) ?_
  refine lv_aload_n hx hb dL_law_909 rfl (lv_at hl 3 rfl) ?_
  refine lv_iload_n hx hb dL_law_910 rfl (lv_at hl 0 rfl) ?_
  refine lv_iconst (v := 1) hx hb dL_law_911 (by decide) ?_
  refine lv_iadd hx hb dL_law_912 ?_
  refine lv_topi (fun z1 ez1 => ?_)
  have tz1 : z1.toInt = i.toInt + 1 := ti_add ez1 rfl (by decide) (by omega) (by omega)
  refine va_sld hx hb hX hbl hbA hS (vp_i rfl (by omega) (by omega)) dL_law_913 ?_
  refine lv_topi (fun v2 ev2 => ?_)
  clear ev2
  refine lw_i (va_runV (As := [.int v2]) (rest := []) hfix (cx_drops l dC dI cyB cyI cyJ cyZ cyO adK adV oX t WX hXI v2 _) (cwV 1 hts (gi_V tw_146 tw_147 tw_148 tw_3 tb_k_X_drops gd_k_X_drops) rfl rfl rfl (by decide +kernel) ⟨Nat.le_of_ble_eq_true rfl, Nat.le_of_ble_eq_true rfl⟩) (g_preW hZ hS hA hKN hP hD 6 (XI.recv hXI) rfl) rfl rfl hl.1 rfl (lv_room (Nat.le_of_ble_eq_true rfl)) dL_law_914 ⟨lw_rc (by omega), lw_rs (by omega)⟩) hP hD hS hA (fun r3 W1 H locs q1 hP hD hS => ?_)
  refine lv_pop hx hb dL_law_917 rfl ?_
  refine lv_aload_n hx hb dL_law_918 rfl (lv_at hl 1 rfl) ?_
  refine lv_aload_n hx hb dL_law_919 rfl (lv_at hl 3 rfl) ?_
  refine lv_iload_n hx hb dL_law_920 rfl (lv_at hl 0 rfl) ?_
  refine lv_iconst (v := 1) hx hb dL_law_921 (by decide) ?_
  refine lv_iadd hx hb dL_law_922 ?_
  refine lv_topi (fun z4 ez4 => ?_)
  have tz4 : z4.toInt = i.toInt + 1 := ti_add ez4 rfl (by decide) (by omega) (by omega)
  refine va_sld hx hb hX hbl hbA hS (vp_i rfl (by omega) (by omega)) dL_law_923 ?_
  refine lv_topi (fun v5 ev5 => ?_)
  clear ev5
  refine lw_i (va_runV (As := [.int v5]) (rest := []) hfix (cm_drops l dC dI cyB cyI cyJ cyZ cyO adK adV oM t WM hMI v5 _) (cwV 1 hts (gi_V tw_149 tw_150 tw_151 tw_7 tb_k_M_drops gd_k_M_drops) rfl rfl rfl (by decide +kernel) ⟨Nat.le_of_ble_eq_true rfl, Nat.le_of_ble_eq_true rfl⟩) (g_preW hZ hS hA hKN hP hD 7 (MI.recv hMI) rfl) rfl rfl hl.1 rfl (lv_room (Nat.le_of_ble_eq_true rfl)) dL_law_924 ⟨lw_rc (by omega), lw_rs (by omega)⟩) hP hD hS hA (fun r6 W2 H locs q2 hP hD hS => ?_)
  refine lv_pop hx hb dL_law_927 rfl ?_
  refine lv_goto (tgt := 1548) hx hb dL_law_928 (by decide) ?_
  refine W.widen (k := cells + 8) (n := slots + 773) (by omega) (by omega) ?_
  exact kk t W1 W2 H locs q1 q2 hP hD hS
set_option maxHeartbeats 4000000 in
set_option maxRecDepth 100000 in
theorem law_25 {p : Program} {l : Launch} {e : Env} {s : State} {m : MethodId} {below : List Frame} {meth : Method} {c : Code} {b L : Nat} {xs : Nat → Int32} {dC : Nat → ClassId} {dI : Nat → Nat → Nat} {cyB cyI cyJ cyZ cyO : ClassId} {adK adV : Nat → Nat} (C0 : lw_At p s m meth c b L xs) (hL : L ≤ 3072) (hKN : KN (dC, dI) (kT cyB cyI cyJ cyZ cyO) s) (hZ : ZS adK adV (fun q : Nat => s.heap.size ≤ q) s s.heap) {oX oM : Nat} {i t : Int32} {WX WM : va_W} {cells slots : Nat} (hXI : XI cyB cyI cyJ cyZ cyO oX t WX) (hMI : MI cyB cyI cyJ cyZ cyO oM t WM) (hi0 : 0 ≤ i.toInt) (hi6 : i.toInt + 6 ≤ L) (hc : cells + 8 ≤ 600000) (hs : slots + 773 ≤ 7302250) {H : Heap} {locs : List Loc} (hP : va_P (dC, dI) vwCl (WX ++ WM) H) (hD : va_D (fun q : Nat => s.heap.size ≤ q) (WX ++ WM)) (hS : va_S (fun q : Nat => s.heap.size ≤ q) s.heap H locs) {ls : Array Slot} (hl : lv_has ls 4 [(3, .int i), (2, .ref oM), (1, .ref oX), (0, .ref b)]) (kk : ∀ (t : Int32) (WX WM : va_W) (H : Heap) (locs : List Loc), XI cyB cyI cyJ cyZ cyO oX t WX → MI cyB cyI cyJ cyZ cyO oM t WM → va_P (dC, dI) vwCl (WX ++ WM) H → va_D (fun q : Nat => s.heap.size ≤ q) (WX ++ WM) → va_S (fun q : Nat => s.heap.size ≤ q) s.heap H locs → W p l e room_1 s m #[Value.ref b] below meth c H locs (cells + 8) (slots + 773) (lw_Z below #[Value.ref b] s) (F0 m 1548 ls [])) : W p l e room_1 s m #[Value.ref b] below meth c H locs cells slots (lw_Z below #[Value.ref b] s) (F0 m 931 ls []) := by
  obtain ⟨hx, hb, hr, hml, hown, hts, hX, hbl, hlocks, hgv⟩ := id C0
  have hA : ∀ q : Nat, s.heap.size ≤ q → (fun q : Nat => s.heap.size ≤ q) q := fun _ h => h
  have hbA : ¬ (fun q : Nat => s.heap.size ≤ q) b := Nat.not_le.mpr hbl
  have hfix : CallFix p m c code 4 s #[Value.ref b] lw_tbl R_law := ⟨hx, hb, hml, hown, hts⟩
  refine lv_aload_n hx hb dL_law_931 rfl (lv_at hl 2 rfl) ?_
  refine lv_aload_n hx hb dL_law_932 rfl (lv_at hl 3 rfl) ?_
  refine lv_iload_n hx hb dL_law_933 rfl (lv_at hl 0 rfl) ?_
  refine lv_iconst (v := 1) hx hb dL_law_934 (by decide) ?_
  refine lv_iadd hx hb dL_law_935 ?_
  refine lv_topi (fun z1 ez1 => ?_)
  have tz1 : z1.toInt = i.toInt + 1 := ti_add ez1 rfl (by decide) (by omega) (by omega)
  refine va_sld hx hb hX hbl hbA hS (vp_i rfl (by omega) (by omega)) dL_law_936 ?_
  refine lv_topi (fun v2 ev2 => ?_)
  clear ev2
  refine lv_aload_n hx hb dL_law_937 rfl (lv_at hl 3 rfl) ?_
  refine lv_iload_n hx hb dL_law_938 rfl (lv_at hl 0 rfl) ?_
  refine lv_iconst (v := 2) hx hb dL_law_939 (by decide) ?_
  refine lv_iadd hx hb dL_law_940 ?_
  refine lv_topi (fun z3 ez3 => ?_)
  have tz3 : z3.toInt = i.toInt + 2 := ti_add ez3 rfl (by decide) (by omega) (by omega)
  refine va_sld hx hb hX hbl hbA hS (vp_i rfl (by omega) (by omega)) dL_law_941 ?_
  refine lv_topi (fun v4 ev4 => ?_)
  clear ev4
  refine lw_i (va_runV (As := [.int v2, .int v4]) (rest := []) hfix (cx_worst l dC dI cyB cyI cyJ cyZ cyO adK adV oX t WX hXI v2 v4 _) (cwV 2 hts (gi_V tw_152 tw_153 tw_154 tw_3 tb_k_X_worst gd_k_X_worst) rfl rfl rfl (by decide +kernel) ⟨Nat.le_of_ble_eq_true rfl, Nat.le_of_ble_eq_true rfl⟩) (g_preW hZ hS hA hKN hP hD 6 (XI.recv hXI) rfl) rfl rfl hl.1 rfl (lv_room (Nat.le_of_ble_eq_true rfl)) dL_law_942 ⟨lw_rc (by omega), lw_rs (by omega)⟩) hP hD hS hA (fun r5 W1 H locs q1 hP hD hS => ?_)
  refine lv_pop hx hb dL_law_945 rfl ?_
  refine lv_aload_n hx hb dL_law_946 rfl (lv_at hl 1 rfl) ?_
  refine lv_aload_n hx hb dL_law_947 rfl (lv_at hl 3 rfl) ?_
  refine lv_iload_n hx hb dL_law_948 rfl (lv_at hl 0 rfl) ?_
  refine lv_iconst (v := 1) hx hb dL_law_949 (by decide) ?_
  refine lv_iadd hx hb dL_law_950 ?_
  refine lv_topi (fun z6 ez6 => ?_)
  have tz6 : z6.toInt = i.toInt + 1 := ti_add ez6 rfl (by decide) (by omega) (by omega)
  refine va_sld hx hb hX hbl hbA hS (vp_i rfl (by omega) (by omega)) dL_law_951 ?_
  refine lv_topi (fun v7 ev7 => ?_)
  clear ev7
  refine lv_aload_n hx hb dL_law_952 rfl (lv_at hl 3 rfl) ?_
  refine lv_iload_n hx hb dL_law_953 rfl (lv_at hl 0 rfl) ?_
  refine lv_iconst (v := 2) hx hb dL_law_954 (by decide) ?_
  refine lv_iadd hx hb dL_law_955 ?_
  refine lv_topi (fun z8 ez8 => ?_)
  have tz8 : z8.toInt = i.toInt + 2 := ti_add ez8 rfl (by decide) (by omega) (by omega)
  refine va_sld hx hb hX hbl hbA hS (vp_i rfl (by omega) (by omega)) dL_law_956 ?_
  refine lv_topi (fun v9 ev9 => ?_)
  clear ev9
  refine lw_i (va_runV (As := [.int v7, .int v9]) (rest := []) hfix (cm_worst l dC dI cyB cyI cyJ cyZ cyO adK adV oM t WM hMI v7 v9 _) (cwV 2 hts (gi_V tw_155 tw_156 tw_157 tw_7 tb_k_M_worst gd_k_M_worst) rfl rfl rfl (by decide +kernel) ⟨Nat.le_of_ble_eq_true rfl, Nat.le_of_ble_eq_true rfl⟩) (g_preW hZ hS hA hKN hP hD 7 (MI.recv hMI) rfl) rfl rfl hl.1 rfl (lv_room (Nat.le_of_ble_eq_true rfl)) dL_law_957 ⟨lw_rc (by omega), lw_rs (by omega)⟩) hP hD hS hA (fun r10 W2 H locs q2 hP hD hS => ?_)
  refine lv_pop hx hb dL_law_960 rfl ?_
  refine lv_goto (tgt := 1548) hx hb dL_law_961 (by decide) ?_
  refine W.widen (k := cells + 8) (n := slots + 773) (by omega) (by omega) ?_
  exact kk t W1 W2 H locs q1 q2 hP hD hS
