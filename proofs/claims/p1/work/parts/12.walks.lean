def wo_c_C_fullest : List Cond := [.fieldLink RX6 110 "ReplicaChain" "now" "LReplicaChain$State;", .fieldLink RX6 157 "ReplicaChain$State" "size" "I"]
def wq_c_C_fullest : List Cond := .code yX6_fullest cX6_fullest 5 (some .int) :: (wo_c_C_fullest ++ (wsX50 ++ (wsX60 ++ [])))
theorem gd_c_C_fullest : Gd wq_c_C_fullest := gd_c (gd_a (gd_o (by decide +kernel)) (gd_a gd_u (gd_a gd_u gd_0)))
abbrev wc_c_C_fullest (cyB cyI cyJ cyZ cyO : ClassId) (h0 : Nat) (ad : Nat → Nat) (sd : Nat → Nat) : va_W := [(h0, .inr (6, [.ref (ad 0), .int 0, .ref (ad 2), .ref (ad 3), .ref (ad 4), .ref (ad 5), .ref (ad 6), .int 0, .int 0, .ref (ad 9), .ref (ad 10), .ref (ad 11), .ref (ad 12), .ref (ad 13), .int 0, .ref (ad 15), .int 0, .ref (ad 17), .ref (ad 18), .int 0])), (ad 9, .inr (5, [.ref (sd 0), .ref (sd 1), .ref (sd 2), .ref (sd 3), .ref (sd 4), .ref (sd 5), .ref (sd 6), .int 0, .int (-1), .int 0, .int 0, .int 0, .int 0]))]
set_option maxHeartbeats 4000000 in
set_option maxRecDepth 100000 in
theorem c_C_fullest (l : Launch) (dC : Nat → ClassId) (dI : Nat → Nat → Nat) (cyB cyI cyJ cyZ cyO : ClassId) (h0 : Nat) (ad : Nat → Nat) (sd : Nat → Nat) (sz : Nat) : Met l yX6_fullest wq_c_C_fullest ({ frames := 0, cells := 0, slots := 0, locals := 0 }) (va_Pc [.ref h0] (cB (dC, dI) (kT cyB cyI cyJ cyZ cyO) (wc_c_C_fullest cyB cyI cyJ cyZ cyO h0 ad sd) sz)) (va_Qi (fun (r : Int32) (_ : Unit) => r = -1) (fun (u : Unit) t => cE (dC, dI) (va_A (wc_c_C_fullest cyB cyI cyJ cyZ cyO h0 ad sd) sz) ([]) t.heap) (va_A (wc_c_C_fullest cyB cyI cyJ cyZ cyO h0 ad sd) sz)) 0 0 (va_A (wc_c_C_fullest cyB cyI cyJ cyZ cyO h0 ad sd) sz) := by
  refine Met.ofW (cc := cX6_fullest) (maxL := 5) (ret := (some .int)) (by decide) rfl ?_
  intro p e s m args below meth c s₁ B hml hv
  obtain ⟨rfl, hsz, hP, hKN, hD0⟩ := hv
  have hx := B.exec
  have hb := B.bytes
  have hr := B.returns
  have hts := atoms_spec (ws := wq_c_C_fullest) B.pre
  have hown : s.vm.findClass RX6 = some m.cls := findClass_of_methodNamed B.named
  have hlocks := B.notSynchronized
  have hK := hKN.1
  have hfix : CallFix p m c cX6_fullest 5 s [.ref h0].toArray wq_c_C_fullest RX6 := ⟨hx, hb, hml, hown, hts⟩
  have hi5 : ∀ w ∈ wsX50, w ∈ wq_c_C_fullest := (sb_c sb_l)
  have hi6 : ∀ w ∈ wsX60, w ∈ wq_c_C_fullest := (sb_c (sb_r sb_l))
  subst hsz
  have hD := hD0.self (sz := s.heap.size)
  generalize hAe : va_A (wc_c_C_fullest cyB cyI cyJ cyZ cyO h0 ad sd) s.heap.size = A at hD ⊢
  have hA : ∀ q : Nat, s.heap.size ≤ q → A q := fun q h => by rw [← hAe]; exact Or.inr h
  have hS : va_S A s.heap s.heap [] := va_S.rf
  have hl := lv_entry ([.ref h0]) (n := 5) (Nat.le_of_ble_eq_true rfl)
  rw [lg_entry_eq]
  generalize (lg_sl ([.ref h0]) ++ List.replicate (5 - (lg_sl ([.ref h0])).length) Slot.unset).toArray = ls at hl ⊢
  have hl : lv_has ls 5 [(0, .ref h0)] := hl
  refine lv_iconst (v := (-1)) hx hb dX6_fullest_0 (by decide) ?_
  refine lv_istore_n (lv' := [(1, .int (-1)), (0, .ref h0)]) hx hb dX6_fullest_1 rfl hl (by decide) rfl (fun ls hl => ?_)
  refine lv_iconst (v := (-1)) hx hb dX6_fullest_2 (by decide) ?_
  refine lv_istore_n (lv' := [(2, .int (-1)), (1, .int (-1)), (0, .ref h0)]) hx hb dX6_fullest_3 rfl hl (by decide) rfl (fun ls hl => ?_)
  refine lv_iconst (v := 0) hx hb dX6_fullest_4 (by decide) ?_
  refine lv_istore_n (lv' := [(3, .int 0), (2, .int (-1)), (1, .int (-1)), (0, .ref h0)]) hx hb dX6_fullest_5 rfl hl (by decide) rfl (fun ls hl => ?_)
  refine lv_iload_n hx hb dX6_fullest_6 rfl (lv_at hl 0 rfl) ?_
  refine lv_aload_n hx hb dX6_fullest_7 rfl (lv_at hl 3 rfl) ?_
  refine va_get (D := (dC, dI)) (ci := 6) (v := .ref (ad 9)) (C := RX6) (T := TX6) (N := 20) hx hb hts hi6 hown hK hP 0 rfl rfl 9 (by decide) (hts _ (ow_m (k := 0) rfl)) (fun _ h9 => h9) rfl dX6_fullest_8 ?_
  refine va_get (D := (dC, dI)) (ci := 5) (v := .int 0) (C := RX5) (T := TX5) (N := 13) hx hb hts hi5 hown hK hP 1 rfl rfl 7 (by decide) (hts _ (ow_m (k := 1) rfl)) (fun _ h9 => h9) rfl dX6_fullest_11 ?_
  refine lv_iconst (v := 1) hx hb dX6_fullest_14 (by decide) ?_
  refine lv_isub hx hb dX6_fullest_15 ?_
  refine tp_c (w := (-1)) (by decide) ?_
  refine lv_icmp_ge (tgt := 57) hx hb dX6_fullest_16 (by decide) (fun _ => ?_) (fun c969 => absurd (by decide) c969)
  refine lv_iload_n hx hb dX6_fullest_57 rfl (lv_at hl 2 rfl) ?_
  exact W.iret (v := (-1)) hx hb hr (fun t ht hW => ⟨⟨(-1), (), rfl, rfl, cE.nil⟩, hS.F ht⟩) hS.2.2 dX6_fullest_58
def wo_c_C_trip : List Cond := [.methodLink RX6 211 yX6_canGive, .instanceMethod yX6_canGive, .selects RX6 yX6_canGive yX6_canGive, .initialized RX6]
def wq_c_C_trip : List Cond := .code yX6_trip cX6_trip 2 (some .int) :: (wo_c_C_trip ++ (wq_k_X6_canGive ++ []))
theorem gd_c_C_trip : Gd wq_c_C_trip := gd_c (gd_a (gd_o (by decide +kernel)) (gd_a gd_k_X6_canGive gd_0))
abbrev wc_c_C_trip (cyB cyI cyJ cyZ cyO : ClassId) (h0 : Nat) (ad : Nat → Nat) (sd : Nat → Nat) : va_W := [(h0, .inr (6, [.ref (ad 0), .int 0, .ref (ad 2), .ref (ad 3), .ref (ad 4), .ref (ad 5), .ref (ad 6), .int 0, .int 0, .ref (ad 9), .ref (ad 10), .ref (ad 11), .ref (ad 12), .ref (ad 13), .int 0, .ref (ad 15), .int 0, .ref (ad 17), .ref (ad 18), .int 0])), (ad 9, .inr (5, [.ref (sd 0), .ref (sd 1), .ref (sd 2), .ref (sd 3), .ref (sd 4), .ref (sd 5), .ref (sd 6), .int 0, .int (-1), .int 0, .int 0, .int 0, .int 0]))]
set_option maxHeartbeats 4000000 in
set_option maxRecDepth 100000 in
theorem c_C_trip (l : Launch) (dC : Nat → ClassId) (dI : Nat → Nat → Nat) (cyB cyI cyJ cyZ cyO : ClassId) (h0 : Nat) (ad : Nat → Nat) (sd : Nat → Nat) (sz : Nat) : Met l yX6_trip wq_c_C_trip ({ frames := 1, cells := 0, slots := 0, locals := 20 }) (va_Pc [.ref h0] (cB (dC, dI) (kT cyB cyI cyJ cyZ cyO) (wc_c_C_trip cyB cyI cyJ cyZ cyO h0 ad sd) sz)) (va_Qi (fun (r : Int32) (_ : Unit) => r = -1) (fun (u : Unit) t => cE (dC, dI) (va_A (wc_c_C_trip cyB cyI cyJ cyZ cyO h0 ad sd) sz) ([]) t.heap) (va_A (wc_c_C_trip cyB cyI cyJ cyZ cyO h0 ad sd) sz)) 0 0 (va_A (wc_c_C_trip cyB cyI cyJ cyZ cyO h0 ad sd) sz) := by
  refine Met.ofW (cc := cX6_trip) (maxL := 2) (ret := (some .int)) (by decide) rfl ?_
  intro p e s m args below meth c s₁ B hml hv
  obtain ⟨rfl, hsz, hP, hKN, hD0⟩ := hv
  have hx := B.exec
  have hb := B.bytes
  have hr := B.returns
  have hts := atoms_spec (ws := wq_c_C_trip) B.pre
  have hown : s.vm.findClass RX6 = some m.cls := findClass_of_methodNamed B.named
  have hlocks := B.notSynchronized
  have hK := hKN.1
  have hfix : CallFix p m c cX6_trip 2 s [.ref h0].toArray wq_c_C_trip RX6 := ⟨hx, hb, hml, hown, hts⟩
  subst hsz
  have hD := hD0.self (sz := s.heap.size)
  generalize hAe : va_A (wc_c_C_trip cyB cyI cyJ cyZ cyO h0 ad sd) s.heap.size = A at hD ⊢
  have hA : ∀ q : Nat, s.heap.size ≤ q → A q := fun q h => by rw [← hAe]; exact Or.inr h
  have hS : va_S A s.heap s.heap [] := va_S.rf
  have hl := lv_entry ([.ref h0]) (n := 2) (Nat.le_of_ble_eq_true rfl)
  rw [lg_entry_eq]
  generalize (lg_sl ([.ref h0]) ++ List.replicate (2 - (lg_sl ([.ref h0])).length) Slot.unset).toArray = ls at hl ⊢
  have hl : lv_has ls 2 [(0, .ref h0)] := hl
  refine lv_aload_n hx hb dX6_trip_0 rfl (lv_at hl 0 rfl) ?_
  refine gf_i (wr := []) (va_runV (As := []) (rest := []) hfix (k_X6_canGive l dC dI cyB cyI cyJ cyZ cyO h0 ad sd _) (cwV 0 hts (gi_V (ow_m (k := 0) rfl) (ow_m (k := 1) rfl) (ow_m (k := 2) rfl) (ow_m (k := 3) rfl) (sb_c sb_l) gd_k_X6_canGive) rfl rfl rfl (by decide +kernel) ⟨Nat.le_of_ble_eq_true rfl, Nat.le_of_ble_eq_true rfl⟩) (g_preV hKN hP hD [0, 1] rfl (by decide) 0 6 rfl rfl) rfl rfl hl.1 rfl (lv_room (Nat.le_of_ble_eq_true rfl)) dX6_trip_1 ⟨Nat.le_of_ble_eq_true rfl, Nat.le_of_ble_eq_true rfl⟩) hP hD hS hA [0, 1] [] rfl rfl (by decide) (by decide) (fun r975 u976 H locs qu976 hP hD hS => ?_)
  have hP : va_P (dC, dI) vwCl [(h0, .inr (6, [.ref (ad 0), .int 0, .ref (ad 2), .ref (ad 3), .ref (ad 4), .ref (ad 5), .ref (ad 6), .int 0, .int 0, .ref (ad 9), .ref (ad 10), .ref (ad 11), .ref (ad 12), .ref (ad 13), .int 0, .ref (ad 15), .int 0, .ref (ad 17), .ref (ad 18), .int 0])), (ad 9, .inr (5, [.ref (sd 0), .ref (sd 1), .ref (sd 2), .ref (sd 3), .ref (sd 4), .ref (sd 5), .ref (sd 6), .int 0, .int (-1), .int 0, .int 0, .int 0, .int 0]))] H := hP
  have hD : va_D A [(h0, .inr (6, [.ref (ad 0), .int 0, .ref (ad 2), .ref (ad 3), .ref (ad 4), .ref (ad 5), .ref (ad 6), .int 0, .int 0, .ref (ad 9), .ref (ad 10), .ref (ad 11), .ref (ad 12), .ref (ad 13), .int 0, .ref (ad 15), .int 0, .ref (ad 17), .ref (ad 18), .int 0])), (ad 9, .inr (5, [.ref (sd 0), .ref (sd 1), .ref (sd 2), .ref (sd 3), .ref (sd 4), .ref (sd 5), .ref (sd 6), .int 0, .int (-1), .int 0, .int 0, .int 0, .int 0]))] := hD
  refine tp_c (w := 0) qu976 ?_
  refine lv_if_ne (tgt := 9) hx hb dX6_trip_4 (by decide) (fun c977 => absurd (by decide) c977) (fun _ => ?_)
  refine lv_iconst (v := (-1)) hx hb dX6_trip_7 (by decide) ?_
  exact W.iret (v := (-1)) hx hb hr (fun t ht hW => ⟨⟨(-1), (), rfl, rfl, cE.nil⟩, hS.F ht⟩) hS.2.2 dX6_trip_8
def wo_c_C_without : List Cond := [.methodLink RX6 211 yX6_canGive, .instanceMethod yX6_canGive, .selects RX6 yX6_canGive yX6_canGive, .initialized RX6]
def wq_c_C_without : List Cond := .code yX6_without cX6_without 3 (some .int) :: (wo_c_C_without ++ (wq_k_X6_canGive ++ []))
theorem gd_c_C_without : Gd wq_c_C_without := gd_c (gd_a (gd_o (by decide +kernel)) (gd_a gd_k_X6_canGive gd_0))
abbrev wc_c_C_without (cyB cyI cyJ cyZ cyO : ClassId) (h0 : Nat) (ad : Nat → Nat) (sd : Nat → Nat) (x1 : Int32) : va_W := [(h0, .inr (6, [.ref (ad 0), .int 0, .ref (ad 2), .ref (ad 3), .ref (ad 4), .ref (ad 5), .ref (ad 6), .int 0, .int 0, .ref (ad 9), .ref (ad 10), .ref (ad 11), .ref (ad 12), .ref (ad 13), .int 0, .ref (ad 15), .int 0, .ref (ad 17), .ref (ad 18), .int 0])), (ad 9, .inr (5, [.ref (sd 0), .ref (sd 1), .ref (sd 2), .ref (sd 3), .ref (sd 4), .ref (sd 5), .ref (sd 6), .int 0, .int (-1), .int 0, .int 0, .int 0, .int 0]))]
set_option maxHeartbeats 4000000 in
set_option maxRecDepth 100000 in
theorem c_C_without (l : Launch) (dC : Nat → ClassId) (dI : Nat → Nat → Nat) (cyB cyI cyJ cyZ cyO : ClassId) (h0 : Nat) (ad : Nat → Nat) (sd : Nat → Nat) (x1 : Int32) (sz : Nat) : Met l yX6_without wq_c_C_without ({ frames := 1, cells := 0, slots := 0, locals := 20 }) (va_Pc [.ref h0, .int x1] (cB (dC, dI) (kT cyB cyI cyJ cyZ cyO) (wc_c_C_without cyB cyI cyJ cyZ cyO h0 ad sd x1) sz)) (va_Qi (fun (r : Int32) (_ : Unit) => r = -1) (fun (u : Unit) t => cE (dC, dI) (va_A (wc_c_C_without cyB cyI cyJ cyZ cyO h0 ad sd x1) sz) ([]) t.heap) (va_A (wc_c_C_without cyB cyI cyJ cyZ cyO h0 ad sd x1) sz)) 0 0 (va_A (wc_c_C_without cyB cyI cyJ cyZ cyO h0 ad sd x1) sz) := by
  refine Met.ofW (cc := cX6_without) (maxL := 3) (ret := (some .int)) (by decide) rfl ?_
  intro p e s m args below meth c s₁ B hml hv
  obtain ⟨rfl, hsz, hP, hKN, hD0⟩ := hv
  have hx := B.exec
  have hb := B.bytes
  have hr := B.returns
  have hts := atoms_spec (ws := wq_c_C_without) B.pre
  have hown : s.vm.findClass RX6 = some m.cls := findClass_of_methodNamed B.named
  have hlocks := B.notSynchronized
  have hK := hKN.1
  have hfix : CallFix p m c cX6_without 3 s [.ref h0, .int x1].toArray wq_c_C_without RX6 := ⟨hx, hb, hml, hown, hts⟩
  subst hsz
  have hD := hD0.self (sz := s.heap.size)
  generalize hAe : va_A (wc_c_C_without cyB cyI cyJ cyZ cyO h0 ad sd x1) s.heap.size = A at hD ⊢
  have hA : ∀ q : Nat, s.heap.size ≤ q → A q := fun q h => by rw [← hAe]; exact Or.inr h
  have hS : va_S A s.heap s.heap [] := va_S.rf
  have hl := lv_entry ([.ref h0, .int x1]) (n := 3) (Nat.le_of_ble_eq_true rfl)
  rw [lg_entry_eq]
  generalize (lg_sl ([.ref h0, .int x1]) ++ List.replicate (3 - (lg_sl ([.ref h0, .int x1])).length) Slot.unset).toArray = ls at hl ⊢
  have hl : lv_has ls 3 [(0, .ref h0), (1, .int x1)] := hl
  refine lv_aload_n hx hb dX6_without_0 rfl (lv_at hl 0 rfl) ?_
  refine gf_i (wr := []) (va_runV (As := []) (rest := []) hfix (k_X6_canGive l dC dI cyB cyI cyJ cyZ cyO h0 ad sd _) (cwV 0 hts (gi_V (ow_m (k := 0) rfl) (ow_m (k := 1) rfl) (ow_m (k := 2) rfl) (ow_m (k := 3) rfl) (sb_c sb_l) gd_k_X6_canGive) rfl rfl rfl (by decide +kernel) ⟨Nat.le_of_ble_eq_true rfl, Nat.le_of_ble_eq_true rfl⟩) (g_preV hKN hP hD [0, 1] rfl (by decide) 0 6 rfl rfl) rfl rfl hl.1 rfl (lv_room (Nat.le_of_ble_eq_true rfl)) dX6_without_1 ⟨Nat.le_of_ble_eq_true rfl, Nat.le_of_ble_eq_true rfl⟩) hP hD hS hA [0, 1] [] rfl rfl (by decide) (by decide) (fun r983 u984 H locs qu984 hP hD hS => ?_)
  have hP : va_P (dC, dI) vwCl [(h0, .inr (6, [.ref (ad 0), .int 0, .ref (ad 2), .ref (ad 3), .ref (ad 4), .ref (ad 5), .ref (ad 6), .int 0, .int 0, .ref (ad 9), .ref (ad 10), .ref (ad 11), .ref (ad 12), .ref (ad 13), .int 0, .ref (ad 15), .int 0, .ref (ad 17), .ref (ad 18), .int 0])), (ad 9, .inr (5, [.ref (sd 0), .ref (sd 1), .ref (sd 2), .ref (sd 3), .ref (sd 4), .ref (sd 5), .ref (sd 6), .int 0, .int (-1), .int 0, .int 0, .int 0, .int 0]))] H := hP
  have hD : va_D A [(h0, .inr (6, [.ref (ad 0), .int 0, .ref (ad 2), .ref (ad 3), .ref (ad 4), .ref (ad 5), .ref (ad 6), .int 0, .int 0, .ref (ad 9), .ref (ad 10), .ref (ad 11), .ref (ad 12), .ref (ad 13), .int 0, .ref (ad 15), .int 0, .ref (ad 17), .ref (ad 18), .int 0])), (ad 9, .inr (5, [.ref (sd 0), .ref (sd 1), .ref (sd 2), .ref (sd 3), .ref (sd 4), .ref (sd 5), .ref (sd 6), .int 0, .int (-1), .int 0, .int 0, .int 0, .int 0]))] := hD
  refine tp_c (w := 0) qu984 ?_
  refine lv_if_eq (tgt := 26) hx hb dX6_without_4 (by decide) (fun _ => ?_) (fun c985 => absurd (by decide) c985)
  refine lv_iconst (v := (-1)) hx hb dX6_without_26 (by decide) ?_
  exact W.iret (v := (-1)) hx hb hr (fun t ht hW => ⟨⟨(-1), (), rfl, rfl, cE.nil⟩, hS.F ht⟩) hS.2.2 dX6_without_27
def wo_c_C_latest : List Cond := [.methodLink RX6 215 yX6_isKey, .instanceMethod yX6_isKey, .selects RX6 yX6_isKey yX6_isKey, .initialized RX6]
def wq_c_C_latest : List Cond := .code yX6_latest cX6_latest 2 (some .int) :: (wo_c_C_latest ++ (wq_k_X6_isKey ++ []))
theorem gd_c_C_latest : Gd wq_c_C_latest := gd_c (gd_a (gd_o (by decide +kernel)) (gd_a gd_k_X6_isKey gd_0))
abbrev wc_c_C_latest (cyB cyI cyJ cyZ cyO : ClassId) (h0 : Nat) (ad : Nat → Nat) (pd : Nat → Nat) (x1 : Int32) : va_W := [(h0, .inr (6, [.ref (ad 0), .int 0, .ref (ad 2), .ref (ad 3), .ref (ad 4), .ref (ad 5), .ref (ad 6), .int 0, .int 0, .ref (ad 9), .ref (ad 10), .ref (ad 11), .ref (ad 12), .ref (ad 13), .int 0, .ref (ad 15), .int 0, .ref (ad 17), .ref (ad 18), .int 0])), (ad 2, .inr (1, [.ref (pd 0), .ref (pd 1), .ref (pd 2), .ref (pd 3), .int 0, .int 0, .int 0, .int 0, .int 2, .int 0, .int 0]))]
set_option maxHeartbeats 4000000 in
set_option maxRecDepth 100000 in
theorem c_C_latest (l : Launch) (dC : Nat → ClassId) (dI : Nat → Nat → Nat) (cyB cyI cyJ cyZ cyO : ClassId) (h0 : Nat) (ad : Nat → Nat) (pd : Nat → Nat) (x1 : Int32) (sz : Nat) : Met l yX6_latest wq_c_C_latest ({ frames := 1, cells := 0, slots := 0, locals := 21 }) (va_Pc [.ref h0, .int x1] (cB (dC, dI) (kT cyB cyI cyJ cyZ cyO) (wc_c_C_latest cyB cyI cyJ cyZ cyO h0 ad pd x1) sz)) (va_Qi (fun (r : Int32) (_ : Unit) => r = -1) (fun (u : Unit) t => cE (dC, dI) (va_A (wc_c_C_latest cyB cyI cyJ cyZ cyO h0 ad pd x1) sz) ([]) t.heap) (va_A (wc_c_C_latest cyB cyI cyJ cyZ cyO h0 ad pd x1) sz)) 0 0 (va_A (wc_c_C_latest cyB cyI cyJ cyZ cyO h0 ad pd x1) sz) := by
  refine Met.ofW (cc := cX6_latest) (maxL := 2) (ret := (some .int)) (by decide) rfl ?_
  intro p e s m args below meth c s₁ B hml hv
  obtain ⟨rfl, hsz, hP, hKN, hD0⟩ := hv
  have hx := B.exec
  have hb := B.bytes
  have hr := B.returns
  have hts := atoms_spec (ws := wq_c_C_latest) B.pre
  have hown : s.vm.findClass RX6 = some m.cls := findClass_of_methodNamed B.named
  have hlocks := B.notSynchronized
  have hK := hKN.1
  have hfix : CallFix p m c cX6_latest 2 s [.ref h0, .int x1].toArray wq_c_C_latest RX6 := ⟨hx, hb, hml, hown, hts⟩
  subst hsz
  have hD := hD0.self (sz := s.heap.size)
  generalize hAe : va_A (wc_c_C_latest cyB cyI cyJ cyZ cyO h0 ad pd x1) s.heap.size = A at hD ⊢
  have hA : ∀ q : Nat, s.heap.size ≤ q → A q := fun q h => by rw [← hAe]; exact Or.inr h
  have hS : va_S A s.heap s.heap [] := va_S.rf
  have hl := lv_entry ([.ref h0, .int x1]) (n := 2) (Nat.le_of_ble_eq_true rfl)
  rw [lg_entry_eq]
  generalize (lg_sl ([.ref h0, .int x1]) ++ List.replicate (2 - (lg_sl ([.ref h0, .int x1])).length) Slot.unset).toArray = ls at hl ⊢
  have hl : lv_has ls 2 [(0, .ref h0), (1, .int x1)] := hl
  refine lv_aload_n hx hb dX6_latest_0 rfl (lv_at hl 0 rfl) ?_
  refine lv_iload_n hx hb dX6_latest_1 rfl (lv_at hl 1 rfl) ?_
  refine gf_i (wr := []) (va_runV (As := [.int x1]) (rest := []) hfix (k_X6_isKey l dC dI cyB cyI cyJ cyZ cyO h0 ad pd x1 _) (cwV 1 hts (gi_V (ow_m (k := 0) rfl) (ow_m (k := 1) rfl) (ow_m (k := 2) rfl) (ow_m (k := 3) rfl) (sb_c sb_l) gd_k_X6_isKey) rfl rfl rfl (by decide +kernel) ⟨Nat.le_of_ble_eq_true rfl, Nat.le_of_ble_eq_true rfl⟩) (g_preV hKN hP hD [0, 1] rfl (by decide) 0 6 rfl rfl) rfl rfl hl.1 rfl (lv_room (Nat.le_of_ble_eq_true rfl)) dX6_latest_2 ⟨Nat.le_of_ble_eq_true rfl, Nat.le_of_ble_eq_true rfl⟩) hP hD hS hA [0, 1] [] rfl rfl (by decide) (by decide) (fun r997 u998 H locs qu998 hP hD hS => ?_)
  have hP : va_P (dC, dI) vwCl [(h0, .inr (6, [.ref (ad 0), .int 0, .ref (ad 2), .ref (ad 3), .ref (ad 4), .ref (ad 5), .ref (ad 6), .int 0, .int 0, .ref (ad 9), .ref (ad 10), .ref (ad 11), .ref (ad 12), .ref (ad 13), .int 0, .ref (ad 15), .int 0, .ref (ad 17), .ref (ad 18), .int 0])), (ad 2, .inr (1, [.ref (pd 0), .ref (pd 1), .ref (pd 2), .ref (pd 3), .int 0, .int 0, .int 0, .int 0, .int 2, .int 0, .int 0]))] H := hP
  have hD : va_D A [(h0, .inr (6, [.ref (ad 0), .int 0, .ref (ad 2), .ref (ad 3), .ref (ad 4), .ref (ad 5), .ref (ad 6), .int 0, .int 0, .ref (ad 9), .ref (ad 10), .ref (ad 11), .ref (ad 12), .ref (ad 13), .int 0, .ref (ad 15), .int 0, .ref (ad 17), .ref (ad 18), .int 0])), (ad 2, .inr (1, [.ref (pd 0), .ref (pd 1), .ref (pd 2), .ref (pd 3), .int 0, .int 0, .int 0, .int 0, .int 2, .int 0, .int 0]))] := hD
  rcases qu998 with ⟨rfl, b999⟩ | ⟨rfl, b1000, b1001⟩
  · skip
    refine lv_if_eq (tgt := 18) hx hb dX6_latest_5 (by decide) (fun _ => ?_) (fun c1002 => absurd (by decide) c1002)
    refine lv_iconst (v := (-1)) hx hb dX6_latest_18 (by decide) ?_
    refine lv_goto (tgt := 37) hx hb dX6_latest_19 (by decide) ?_
    exact W.iret (v := (-1)) hx hb hr (fun t ht hW => ⟨⟨(-1), (), rfl, rfl, cE.nil⟩, hS.F ht⟩) hS.2.2 dX6_latest_37
  · skip
    refine lv_if_eq (tgt := 18) hx hb dX6_latest_5 (by decide) (fun _ => ?_) (fun c1003 => absurd (by decide) c1003)
    refine lv_iconst (v := (-1)) hx hb dX6_latest_18 (by decide) ?_
    refine lv_goto (tgt := 37) hx hb dX6_latest_19 (by decide) ?_
    exact W.iret (v := (-1)) hx hb hr (fun t ht hW => ⟨⟨(-1), (), rfl, rfl, cE.nil⟩, hS.F ht⟩) hS.2.2 dX6_latest_37
def wo_k_X5_allUnderWay_v2 : List Cond := [.fieldLink RX5 42 "ReplicaChain$State" "size" "I"]
def wq_k_X5_allUnderWay_v2 : List Cond := .code yX5_allUnderWay cX5_allUnderWay 3 (some .int) :: (wo_k_X5_allUnderWay_v2 ++ (wsX50 ++ []))
theorem gd_k_X5_allUnderWay_v2 : Gd wq_k_X5_allUnderWay_v2 := gd_c (gd_a (gd_o (by decide +kernel)) (gd_a gd_u gd_0))
abbrev wc_k_X5_allUnderWay_v2 (cyB cyI cyJ cyZ cyO : ClassId) (ad : Nat → Nat) (sd : Nat → Nat) : va_W := [(ad 9, .inr (5, [.ref (sd 0), .ref (sd 1), .ref (sd 2), .ref (sd 3), .ref (sd 4), .ref (sd 5), .ref (sd 6), .int 0, .int (-1), .int 0, .int 0, .int 0, .int 0]))]
set_option maxHeartbeats 4000000 in
set_option maxRecDepth 100000 in
theorem k_X5_allUnderWay_v2 (l : Launch) (dC : Nat → ClassId) (dI : Nat → Nat → Nat) (cyB cyI cyJ cyZ cyO : ClassId) (ad : Nat → Nat) (sd : Nat → Nat) (sz : Nat) : Met l yX5_allUnderWay wq_k_X5_allUnderWay_v2 ({ frames := 0, cells := 0, slots := 0, locals := 0 }) (va_Pc [.ref (ad 9)] (cB (dC, dI) (kT cyB cyI cyJ cyZ cyO) (wc_k_X5_allUnderWay_v2 cyB cyI cyJ cyZ cyO ad sd) sz)) (va_Qi (fun (r : Int32) _ => r = 0) (fun (u : Unit) t => cE (dC, dI) (va_A (wc_k_X5_allUnderWay_v2 cyB cyI cyJ cyZ cyO ad sd) sz) ([(ad 9, .inr (5, [.ref (sd 0), .ref (sd 1), .ref (sd 2), .ref (sd 3), .ref (sd 4), .ref (sd 5), .ref (sd 6), .int 0, .int (-1), .int 0, .int 0, .int 0, .int 0]))]) t.heap) (va_A (wc_k_X5_allUnderWay_v2 cyB cyI cyJ cyZ cyO ad sd) sz)) 0 0 (va_A (wc_k_X5_allUnderWay_v2 cyB cyI cyJ cyZ cyO ad sd) sz) := by
  refine Met.ofW (cc := cX5_allUnderWay) (maxL := 3) (ret := (some .int)) (by decide) rfl ?_
  intro p e s m args below meth c s₁ B hml hv
  obtain ⟨rfl, hsz, hP, hKN, hD0⟩ := hv
  have hx := B.exec
  have hb := B.bytes
  have hr := B.returns
  have hts := atoms_spec (ws := wq_k_X5_allUnderWay_v2) B.pre
  have hown : s.vm.findClass RX5 = some m.cls := findClass_of_methodNamed B.named
  have hlocks := B.notSynchronized
  have hK := hKN.1
  have hfix : CallFix p m c cX5_allUnderWay 3 s [.ref (ad 9)].toArray wq_k_X5_allUnderWay_v2 RX5 := ⟨hx, hb, hml, hown, hts⟩
  have hi5 : ∀ w ∈ wsX50, w ∈ wq_k_X5_allUnderWay_v2 := (sb_c sb_l)
  subst hsz
  have hD := hD0.self (sz := s.heap.size)
  generalize hAe : va_A (wc_k_X5_allUnderWay_v2 cyB cyI cyJ cyZ cyO ad sd) s.heap.size = A at hD ⊢
  have hA : ∀ q : Nat, s.heap.size ≤ q → A q := fun q h => by rw [← hAe]; exact Or.inr h
  have hS : va_S A s.heap s.heap [] := va_S.rf
  have hl := lv_entry ([.ref (ad 9)]) (n := 3) (Nat.le_of_ble_eq_true rfl)
  rw [lg_entry_eq]
  generalize (lg_sl ([.ref (ad 9)]) ++ List.replicate (3 - (lg_sl ([.ref (ad 9)])).length) Slot.unset).toArray = ls at hl ⊢
  have hl : lv_has ls 3 [(0, .ref (ad 9))] := hl
  refine lv_iconst (v := 0) hx hb dX5_allUnderWay_0 (by decide) ?_
  refine lv_istore_n (lv' := [(1, .int 0), (0, .ref (ad 9))]) hx hb dX5_allUnderWay_1 rfl hl (by decide) rfl (fun ls hl => ?_)
  refine lv_iconst (v := 0) hx hb dX5_allUnderWay_2 (by decide) ?_
  refine lv_istore_n (lv' := [(2, .int 0), (1, .int 0), (0, .ref (ad 9))]) hx hb dX5_allUnderWay_3 rfl hl (by decide) rfl (fun ls hl => ?_)
  refine lv_iload_n hx hb dX5_allUnderWay_4 rfl (lv_at hl 0 rfl) ?_
  refine lv_aload_n hx hb dX5_allUnderWay_5 rfl (lv_at hl 2 rfl) ?_
  refine va_get (D := (dC, dI)) (ci := 5) (v := .int 0) (C := RX5) (T := TX5) (N := 13) hx hb hts hi5 hown hK hP 0 rfl rfl 7 (by decide) (hts _ (ow_m (k := 0) rfl)) (fun _ h9 => h9) rfl dX5_allUnderWay_6 ?_
  refine lv_iconst (v := 1) hx hb dX5_allUnderWay_9 (by decide) ?_
  refine lv_isub hx hb dX5_allUnderWay_10 ?_
  refine tp_c (w := (-1)) (by decide) ?_
  refine lv_icmp_ge (tgt := 36) hx hb dX5_allUnderWay_11 (by decide) (fun _ => ?_) (fun c1005 => absurd (by decide) c1005)
  refine lv_iload_n hx hb dX5_allUnderWay_36 rfl (lv_at hl 1 rfl) ?_
  exact W.iret (v := 0) hx hb hr (fun t ht hW => ⟨⟨0, (), rfl, rfl, cE.of ht hP hD [0] (by decide) rfl⟩, hS.F ht⟩) hS.2.2 dX5_allUnderWay_37
def wo_c_C_traffic : List Cond := [.fieldLink RX6 110 "ReplicaChain" "now" "LReplicaChain$State;", .methodLink RX6 267 yX5_allUnderWay, .instanceMethod yX5_allUnderWay, .selects RX5 yX5_allUnderWay yX5_allUnderWay, .initialized RX5]
def wq_c_C_traffic : List Cond := .code yX6_traffic cX6_traffic 1 (some .int) :: (wo_c_C_traffic ++ (wq_k_X5_allUnderWay_v2 ++ (wsX60 ++ [])))
theorem gd_c_C_traffic : Gd wq_c_C_traffic := gd_c (gd_a (gd_o (by decide +kernel)) (gd_a gd_k_X5_allUnderWay_v2 (gd_a gd_u gd_0)))
abbrev wc_c_C_traffic (cyB cyI cyJ cyZ cyO : ClassId) (h0 : Nat) (ad : Nat → Nat) (sd : Nat → Nat) : va_W := [(h0, .inr (6, [.ref (ad 0), .int 0, .ref (ad 2), .ref (ad 3), .ref (ad 4), .ref (ad 5), .ref (ad 6), .int 0, .int 0, .ref (ad 9), .ref (ad 10), .ref (ad 11), .ref (ad 12), .ref (ad 13), .int 0, .ref (ad 15), .int 0, .ref (ad 17), .ref (ad 18), .int 0])), (ad 9, .inr (5, [.ref (sd 0), .ref (sd 1), .ref (sd 2), .ref (sd 3), .ref (sd 4), .ref (sd 5), .ref (sd 6), .int 0, .int (-1), .int 0, .int 0, .int 0, .int 0]))]
set_option maxHeartbeats 4000000 in
set_option maxRecDepth 100000 in
theorem c_C_traffic (l : Launch) (dC : Nat → ClassId) (dI : Nat → Nat → Nat) (cyB cyI cyJ cyZ cyO : ClassId) (h0 : Nat) (ad : Nat → Nat) (sd : Nat → Nat) (sz : Nat) : Met l yX6_traffic wq_c_C_traffic ({ frames := 1, cells := 0, slots := 0, locals := 22 }) (va_Pc [.ref h0] (cB (dC, dI) (kT cyB cyI cyJ cyZ cyO) (wc_c_C_traffic cyB cyI cyJ cyZ cyO h0 ad sd) sz)) (va_Qi (fun (r : Int32) (_ : Unit) => r = 0) (fun (u : Unit) t => cE (dC, dI) (va_A (wc_c_C_traffic cyB cyI cyJ cyZ cyO h0 ad sd) sz) ([]) t.heap) (va_A (wc_c_C_traffic cyB cyI cyJ cyZ cyO h0 ad sd) sz)) 0 0 (va_A (wc_c_C_traffic cyB cyI cyJ cyZ cyO h0 ad sd) sz) := by
  refine Met.ofW (cc := cX6_traffic) (maxL := 1) (ret := (some .int)) (by decide) rfl ?_
  intro p e s m args below meth c s₁ B hml hv
  obtain ⟨rfl, hsz, hP, hKN, hD0⟩ := hv
  have hx := B.exec
  have hb := B.bytes
  have hr := B.returns
  have hts := atoms_spec (ws := wq_c_C_traffic) B.pre
  have hown : s.vm.findClass RX6 = some m.cls := findClass_of_methodNamed B.named
  have hlocks := B.notSynchronized
  have hK := hKN.1
  have hfix : CallFix p m c cX6_traffic 1 s [.ref h0].toArray wq_c_C_traffic RX6 := ⟨hx, hb, hml, hown, hts⟩
  have hi6 : ∀ w ∈ wsX60, w ∈ wq_c_C_traffic := (sb_c (sb_r sb_l))
  subst hsz
  have hD := hD0.self (sz := s.heap.size)
  generalize hAe : va_A (wc_c_C_traffic cyB cyI cyJ cyZ cyO h0 ad sd) s.heap.size = A at hD ⊢
  have hA : ∀ q : Nat, s.heap.size ≤ q → A q := fun q h => by rw [← hAe]; exact Or.inr h
  have hS : va_S A s.heap s.heap [] := va_S.rf
  have hl := lv_entry ([.ref h0]) (n := 1) (Nat.le_of_ble_eq_true rfl)
  rw [lg_entry_eq]
  generalize (lg_sl ([.ref h0]) ++ List.replicate (1 - (lg_sl ([.ref h0])).length) Slot.unset).toArray = ls at hl ⊢
  have hl : lv_has ls 1 [(0, .ref h0)] := hl
  refine lv_aload_n hx hb dX6_traffic_0 rfl (lv_at hl 0 rfl) ?_
  refine va_get (D := (dC, dI)) (ci := 6) (v := .ref (ad 9)) (C := RX6) (T := TX6) (N := 20) hx hb hts hi6 hown hK hP 0 rfl rfl 9 (by decide) (hts _ (ow_m (k := 0) rfl)) (fun _ h9 => h9) rfl dX6_traffic_1 ?_
  refine gf_i (wr := [(h0, .inr (6, [.ref (ad 0), .int 0, .ref (ad 2), .ref (ad 3), .ref (ad 4), .ref (ad 5), .ref (ad 6), .int 0, .int 0, .ref (ad 9), .ref (ad 10), .ref (ad 11), .ref (ad 12), .ref (ad 13), .int 0, .ref (ad 15), .int 0, .ref (ad 17), .ref (ad 18), .int 0]))]) (va_runV (As := []) (rest := []) hfix (k_X5_allUnderWay_v2 l dC dI cyB cyI cyJ cyZ cyO ad sd _) (cwV 0 hts (gi_V (ow_m (k := 1) rfl) (ow_m (k := 2) rfl) (ow_m (k := 3) rfl) (ow_m (k := 4) rfl) (sb_c sb_l) gd_k_X5_allUnderWay_v2) rfl rfl rfl (by decide +kernel) ⟨Nat.le_of_ble_eq_true rfl, Nat.le_of_ble_eq_true rfl⟩) (g_preV hKN hP hD [1] rfl (by decide) 0 5 rfl rfl) rfl rfl hl.1 rfl (lv_room (Nat.le_of_ble_eq_true rfl)) dX6_traffic_4 ⟨Nat.le_of_ble_eq_true rfl, Nat.le_of_ble_eq_true rfl⟩) hP hD hS hA [1] [0] rfl rfl (by decide) (by decide) (fun r1009 u1010 H locs qu1010 hP hD hS => ?_)
  have hP : va_P (dC, dI) vwCl [(h0, .inr (6, [.ref (ad 0), .int 0, .ref (ad 2), .ref (ad 3), .ref (ad 4), .ref (ad 5), .ref (ad 6), .int 0, .int 0, .ref (ad 9), .ref (ad 10), .ref (ad 11), .ref (ad 12), .ref (ad 13), .int 0, .ref (ad 15), .int 0, .ref (ad 17), .ref (ad 18), .int 0])), (ad 9, .inr (5, [.ref (sd 0), .ref (sd 1), .ref (sd 2), .ref (sd 3), .ref (sd 4), .ref (sd 5), .ref (sd 6), .int 0, .int (-1), .int 0, .int 0, .int 0, .int 0]))] H := hP
  have hD : va_D A [(h0, .inr (6, [.ref (ad 0), .int 0, .ref (ad 2), .ref (ad 3), .ref (ad 4), .ref (ad 5), .ref (ad 6), .int 0, .int 0, .ref (ad 9), .ref (ad 10), .ref (ad 11), .ref (ad 12), .ref (ad 13), .int 0, .ref (ad 15), .int 0, .ref (ad 17), .ref (ad 18), .int 0])), (ad 9, .inr (5, [.ref (sd 0), .ref (sd 1), .ref (sd 2), .ref (sd 3), .ref (sd 4), .ref (sd 5), .ref (sd 6), .int 0, .int (-1), .int 0, .int 0, .int 0, .int 0]))] := hD
  refine tp_c (w := 0) qu1010 ?_
  exact W.iret (v := 0) hx hb hr (fun t ht hW => ⟨⟨0, (), rfl, rfl, cE.nil⟩, hS.F ht⟩) hS.2.2 dX6_traffic_7
def wo_c_C_lag : List Cond := [.methodLink RX6 239 yX6_isMember, .instanceMethod yX6_isMember, .selects RX6 yX6_isMember yX6_isMember, .initialized RX6]
def wq_c_C_lag : List Cond := .code yX6_lag cX6_lag 2 (some .int) :: (wo_c_C_lag ++ (wq_k_X6_isMember ++ []))
theorem gd_c_C_lag : Gd wq_c_C_lag := gd_c (gd_a (gd_o (by decide +kernel)) (gd_a gd_k_X6_isMember gd_0))
abbrev wc_c_C_lag (cyB cyI cyJ cyZ cyO : ClassId) (h0 : Nat) (ad : Nat → Nat) (pd : Nat → Nat) (x1 : Int32) : va_W := [(h0, .inr (6, [.ref (ad 0), .int 0, .ref (ad 2), .ref (ad 3), .ref (ad 4), .ref (ad 5), .ref (ad 6), .int 0, .int 0, .ref (ad 9), .ref (ad 10), .ref (ad 11), .ref (ad 12), .ref (ad 13), .int 0, .ref (ad 15), .int 0, .ref (ad 17), .ref (ad 18), .int 0])), (ad 2, .inr (1, [.ref (pd 0), .ref (pd 1), .ref (pd 2), .ref (pd 3), .int 0, .int 0, .int 0, .int 0, .int 2, .int 0, .int 0]))]
set_option maxHeartbeats 4000000 in
set_option maxRecDepth 100000 in
theorem c_C_lag (l : Launch) (dC : Nat → ClassId) (dI : Nat → Nat → Nat) (cyB cyI cyJ cyZ cyO : ClassId) (h0 : Nat) (ad : Nat → Nat) (pd : Nat → Nat) (x1 : Int32) (sz : Nat) : Met l yX6_lag wq_c_C_lag ({ frames := 2, cells := 0, slots := 0, locals := 42 }) (va_Pc [.ref h0, .int x1] (cB (dC, dI) (kT cyB cyI cyJ cyZ cyO) (wc_c_C_lag cyB cyI cyJ cyZ cyO h0 ad pd x1) sz)) (va_Qi (fun (r : Int32) (_ : Unit) => r = -1) (fun (u : Unit) t => cE (dC, dI) (va_A (wc_c_C_lag cyB cyI cyJ cyZ cyO h0 ad pd x1) sz) ([]) t.heap) (va_A (wc_c_C_lag cyB cyI cyJ cyZ cyO h0 ad pd x1) sz)) 0 0 (va_A (wc_c_C_lag cyB cyI cyJ cyZ cyO h0 ad pd x1) sz) := by
  refine Met.ofW (cc := cX6_lag) (maxL := 2) (ret := (some .int)) (by decide) rfl ?_
  intro p e s m args below meth c s₁ B hml hv
  obtain ⟨rfl, hsz, hP, hKN, hD0⟩ := hv
  have hx := B.exec
  have hb := B.bytes
  have hr := B.returns
  have hts := atoms_spec (ws := wq_c_C_lag) B.pre
  have hown : s.vm.findClass RX6 = some m.cls := findClass_of_methodNamed B.named
  have hlocks := B.notSynchronized
  have hK := hKN.1
  have hfix : CallFix p m c cX6_lag 2 s [.ref h0, .int x1].toArray wq_c_C_lag RX6 := ⟨hx, hb, hml, hown, hts⟩
  subst hsz
  have hD := hD0.self (sz := s.heap.size)
  generalize hAe : va_A (wc_c_C_lag cyB cyI cyJ cyZ cyO h0 ad pd x1) s.heap.size = A at hD ⊢
  have hA : ∀ q : Nat, s.heap.size ≤ q → A q := fun q h => by rw [← hAe]; exact Or.inr h
  have hS : va_S A s.heap s.heap [] := va_S.rf
  have hl := lv_entry ([.ref h0, .int x1]) (n := 2) (Nat.le_of_ble_eq_true rfl)
  rw [lg_entry_eq]
  generalize (lg_sl ([.ref h0, .int x1]) ++ List.replicate (2 - (lg_sl ([.ref h0, .int x1])).length) Slot.unset).toArray = ls at hl ⊢
  have hl : lv_has ls 2 [(0, .ref h0), (1, .int x1)] := hl
  refine lv_aload_n hx hb dX6_lag_0 rfl (lv_at hl 0 rfl) ?_
  refine lv_iload_n hx hb dX6_lag_1 rfl (lv_at hl 1 rfl) ?_
  refine gf_i (wr := []) (va_runV (As := [.int x1]) (rest := []) hfix (k_X6_isMember l dC dI cyB cyI cyJ cyZ cyO h0 ad pd x1 _) (cwV 1 hts (gi_V (ow_m (k := 0) rfl) (ow_m (k := 1) rfl) (ow_m (k := 2) rfl) (ow_m (k := 3) rfl) (sb_c sb_l) gd_k_X6_isMember) rfl rfl rfl (by decide +kernel) ⟨Nat.le_of_ble_eq_true rfl, Nat.le_of_ble_eq_true rfl⟩) (g_preV hKN hP hD [0, 1] rfl (by decide) 0 6 rfl rfl) rfl rfl hl.1 rfl (lv_room (Nat.le_of_ble_eq_true rfl)) dX6_lag_2 ⟨Nat.le_of_ble_eq_true rfl, Nat.le_of_ble_eq_true rfl⟩) hP hD hS hA [0, 1] [] rfl rfl (by decide) (by decide) (fun r1036 u1037 H locs qu1037 hP hD hS => ?_)
  have hP : va_P (dC, dI) vwCl [(h0, .inr (6, [.ref (ad 0), .int 0, .ref (ad 2), .ref (ad 3), .ref (ad 4), .ref (ad 5), .ref (ad 6), .int 0, .int 0, .ref (ad 9), .ref (ad 10), .ref (ad 11), .ref (ad 12), .ref (ad 13), .int 0, .ref (ad 15), .int 0, .ref (ad 17), .ref (ad 18), .int 0])), (ad 2, .inr (1, [.ref (pd 0), .ref (pd 1), .ref (pd 2), .ref (pd 3), .int 0, .int 0, .int 0, .int 0, .int 2, .int 0, .int 0]))] H := hP
  have hD : va_D A [(h0, .inr (6, [.ref (ad 0), .int 0, .ref (ad 2), .ref (ad 3), .ref (ad 4), .ref (ad 5), .ref (ad 6), .int 0, .int 0, .ref (ad 9), .ref (ad 10), .ref (ad 11), .ref (ad 12), .ref (ad 13), .int 0, .ref (ad 15), .int 0, .ref (ad 17), .ref (ad 18), .int 0])), (ad 2, .inr (1, [.ref (pd 0), .ref (pd 1), .ref (pd 2), .ref (pd 3), .int 0, .int 0, .int 0, .int 0, .int 2, .int 0, .int 0]))] := hD
  rcases qu1037 with ⟨rfl, b1038⟩ | ⟨rfl, b1039, b1040⟩
  · skip
    refine lv_if_eq (tgt := 28) hx hb dX6_lag_5 (by decide) (fun _ => ?_) (fun c1041 => absurd (by decide) c1041)
    refine lv_iconst (v := (-1)) hx hb dX6_lag_28 (by decide) ?_
    exact W.iret (v := (-1)) hx hb hr (fun t ht hW => ⟨⟨(-1), (), rfl, rfl, cE.nil⟩, hS.F ht⟩) hS.2.2 dX6_lag_29
  · skip
    refine lv_if_eq (tgt := 28) hx hb dX6_lag_5 (by decide) (fun _ => ?_) (fun c1042 => absurd (by decide) c1042)
    refine lv_iconst (v := (-1)) hx hb dX6_lag_28 (by decide) ?_
    exact W.iret (v := (-1)) hx hb hr (fun t ht hW => ⟨⟨(-1), (), rfl, rfl, cE.nil⟩, hS.F ht⟩) hS.2.2 dX6_lag_29
def wo_c_C_peak : List Cond := [.fieldLink RX6 110 "ReplicaChain" "now" "LReplicaChain$State;", .fieldLink RX6 157 "ReplicaChain$State" "size" "I"]
def wq_c_C_peak : List Cond := .code yX6_peak cX6_peak 5 (some .int) :: (wo_c_C_peak ++ (wsX50 ++ (wsX60 ++ [])))
theorem gd_c_C_peak : Gd wq_c_C_peak := gd_c (gd_a (gd_o (by decide +kernel)) (gd_a gd_u (gd_a gd_u gd_0)))
abbrev wc_c_C_peak (cyB cyI cyJ cyZ cyO : ClassId) (h0 : Nat) (ad : Nat → Nat) (sd : Nat → Nat) (x1 : Int32) : va_W := [(h0, .inr (6, [.ref (ad 0), .int 0, .ref (ad 2), .ref (ad 3), .ref (ad 4), .ref (ad 5), .ref (ad 6), .int 0, .int 0, .ref (ad 9), .ref (ad 10), .ref (ad 11), .ref (ad 12), .ref (ad 13), .int 0, .ref (ad 15), .int 0, .ref (ad 17), .ref (ad 18), .int 0])), (ad 9, .inr (5, [.ref (sd 0), .ref (sd 1), .ref (sd 2), .ref (sd 3), .ref (sd 4), .ref (sd 5), .ref (sd 6), .int 0, .int (-1), .int 0, .int 0, .int 0, .int 0]))]
set_option maxHeartbeats 4000000 in
set_option maxRecDepth 100000 in
theorem c_C_peak (l : Launch) (dC : Nat → ClassId) (dI : Nat → Nat → Nat) (cyB cyI cyJ cyZ cyO : ClassId) (h0 : Nat) (ad : Nat → Nat) (sd : Nat → Nat) (x1 : Int32) (sz : Nat) : Met l yX6_peak wq_c_C_peak ({ frames := 0, cells := 0, slots := 0, locals := 0 }) (va_Pc [.ref h0, .int x1] (cB (dC, dI) (kT cyB cyI cyJ cyZ cyO) (wc_c_C_peak cyB cyI cyJ cyZ cyO h0 ad sd x1) sz)) (va_Qi (fun (r : Int32) (_ : Unit) => r = -1) (fun (u : Unit) t => cE (dC, dI) (va_A (wc_c_C_peak cyB cyI cyJ cyZ cyO h0 ad sd x1) sz) ([]) t.heap) (va_A (wc_c_C_peak cyB cyI cyJ cyZ cyO h0 ad sd x1) sz)) 0 0 (va_A (wc_c_C_peak cyB cyI cyJ cyZ cyO h0 ad sd x1) sz) := by
  refine Met.ofW (cc := cX6_peak) (maxL := 5) (ret := (some .int)) (by decide) rfl ?_
  intro p e s m args below meth c s₁ B hml hv
  obtain ⟨rfl, hsz, hP, hKN, hD0⟩ := hv
  have hx := B.exec
  have hb := B.bytes
  have hr := B.returns
  have hts := atoms_spec (ws := wq_c_C_peak) B.pre
  have hown : s.vm.findClass RX6 = some m.cls := findClass_of_methodNamed B.named
  have hlocks := B.notSynchronized
  have hK := hKN.1
  have hfix : CallFix p m c cX6_peak 5 s [.ref h0, .int x1].toArray wq_c_C_peak RX6 := ⟨hx, hb, hml, hown, hts⟩
  have hi5 : ∀ w ∈ wsX50, w ∈ wq_c_C_peak := (sb_c sb_l)
  have hi6 : ∀ w ∈ wsX60, w ∈ wq_c_C_peak := (sb_c (sb_r sb_l))
  subst hsz
  have hD := hD0.self (sz := s.heap.size)
  generalize hAe : va_A (wc_c_C_peak cyB cyI cyJ cyZ cyO h0 ad sd x1) s.heap.size = A at hD ⊢
  have hA : ∀ q : Nat, s.heap.size ≤ q → A q := fun q h => by rw [← hAe]; exact Or.inr h
  have hS : va_S A s.heap s.heap [] := va_S.rf
  have hl := lv_entry ([.ref h0, .int x1]) (n := 5) (Nat.le_of_ble_eq_true rfl)
  rw [lg_entry_eq]
  generalize (lg_sl ([.ref h0, .int x1]) ++ List.replicate (5 - (lg_sl ([.ref h0, .int x1])).length) Slot.unset).toArray = ls at hl ⊢
  have hl : lv_has ls 5 [(0, .ref h0), (1, .int x1)] := hl
  refine lv_iload_n hx hb dX6_peak_0 rfl (lv_at hl 1 rfl) ?_
  refine lv_if_lt (tgt := 19) hx hb dX6_peak_1 (by decide) (fun c1046 => ?_) (fun c1046 => ?_)
  · have c1046 := i_lt (a := x1.toInt) (b := 0) c1046 rfl (by decide)
    refine lv_iconst (v := (-1)) hx hb dX6_peak_19 (by decide) ?_
    exact W.iret (v := (-1)) hx hb hr (fun t ht hW => ⟨⟨(-1), (), rfl, rfl, cE.nil⟩, hS.F ht⟩) hS.2.2 dX6_peak_20
  · have c1046 := i_nlt (a := x1.toInt) (b := 0) c1046 rfl (by decide)
    refine lv_iload_n hx hb dX6_peak_4 rfl (lv_at hl 1 rfl) ?_
    refine lv_iconst (v := 1) hx hb dX6_peak_5 (by decide) ?_
    refine lv_icmp_gt (tgt := 19) hx hb dX6_peak_6 (by decide) (fun c1047 => ?_) (fun c1047 => ?_)
    · have c1047 := i_lt (a := 1) (b := x1.toInt) c1047 (by decide) rfl
      refine lv_iconst (v := (-1)) hx hb dX6_peak_19 (by decide) ?_
      exact W.iret (v := (-1)) hx hb hr (fun t ht hW => ⟨⟨(-1), (), rfl, rfl, cE.nil⟩, hS.F ht⟩) hS.2.2 dX6_peak_20
    · have c1047 := i_nlt (a := 1) (b := x1.toInt) c1047 (by decide) rfl
      refine lv_aload_n hx hb dX6_peak_9 rfl (lv_at hl 0 rfl) ?_
      refine va_get (D := (dC, dI)) (ci := 6) (v := .ref (ad 9)) (C := RX6) (T := TX6) (N := 20) hx hb hts hi6 hown hK hP 0 rfl rfl 9 (by decide) (hts _ (ow_m (k := 0) rfl)) (fun _ h9 => h9) rfl dX6_peak_10 ?_
      refine va_get (D := (dC, dI)) (ci := 5) (v := .int 0) (C := RX5) (T := TX5) (N := 13) hx hb hts hi5 hown hK hP 1 rfl rfl 7 (by decide) (hts _ (ow_m (k := 1) rfl)) (fun _ h9 => h9) rfl dX6_peak_13 ?_
      refine lv_if_ne (tgt := 21) hx hb dX6_peak_16 (by decide) (fun c1048 => absurd (by decide) c1048) (fun _ => ?_)
      refine lv_iconst (v := (-1)) hx hb dX6_peak_19 (by decide) ?_
      exact W.iret (v := (-1)) hx hb hr (fun t ht hW => ⟨⟨(-1), (), rfl, rfl, cE.nil⟩, hS.F ht⟩) hS.2.2 dX6_peak_20
def wo_c_C_dirtiest : List Cond := [.fieldLink RX6 110 "ReplicaChain" "now" "LReplicaChain$State;", .fieldLink RX6 157 "ReplicaChain$State" "size" "I"]
def wq_c_C_dirtiest : List Cond := .code yX6_dirtiest cX6_dirtiest 8 (some .int) :: (wo_c_C_dirtiest ++ (wsX50 ++ (wsX60 ++ [])))
theorem gd_c_C_dirtiest : Gd wq_c_C_dirtiest := gd_c (gd_a (gd_o (by decide +kernel)) (gd_a gd_u (gd_a gd_u gd_0)))
abbrev wc_c_C_dirtiest (cyB cyI cyJ cyZ cyO : ClassId) (h0 : Nat) (ad : Nat → Nat) (sd : Nat → Nat) (x1 : Int32) : va_W := [(h0, .inr (6, [.ref (ad 0), .int 0, .ref (ad 2), .ref (ad 3), .ref (ad 4), .ref (ad 5), .ref (ad 6), .int 0, .int 0, .ref (ad 9), .ref (ad 10), .ref (ad 11), .ref (ad 12), .ref (ad 13), .int 0, .ref (ad 15), .int 0, .ref (ad 17), .ref (ad 18), .int 0])), (ad 9, .inr (5, [.ref (sd 0), .ref (sd 1), .ref (sd 2), .ref (sd 3), .ref (sd 4), .ref (sd 5), .ref (sd 6), .int 0, .int (-1), .int 0, .int 0, .int 0, .int 0]))]
set_option maxHeartbeats 4000000 in
set_option maxRecDepth 100000 in
theorem c_C_dirtiest (l : Launch) (dC : Nat → ClassId) (dI : Nat → Nat → Nat) (cyB cyI cyJ cyZ cyO : ClassId) (h0 : Nat) (ad : Nat → Nat) (sd : Nat → Nat) (x1 : Int32) (sz : Nat) : Met l yX6_dirtiest wq_c_C_dirtiest ({ frames := 0, cells := 0, slots := 0, locals := 0 }) (va_Pc [.ref h0, .int x1] (cB (dC, dI) (kT cyB cyI cyJ cyZ cyO) (wc_c_C_dirtiest cyB cyI cyJ cyZ cyO h0 ad sd x1) sz)) (va_Qi (fun (r : Int32) (_ : Unit) => r = -1) (fun (u : Unit) t => cE (dC, dI) (va_A (wc_c_C_dirtiest cyB cyI cyJ cyZ cyO h0 ad sd x1) sz) ([]) t.heap) (va_A (wc_c_C_dirtiest cyB cyI cyJ cyZ cyO h0 ad sd x1) sz)) 0 0 (va_A (wc_c_C_dirtiest cyB cyI cyJ cyZ cyO h0 ad sd x1) sz) := by
  refine Met.ofW (cc := cX6_dirtiest) (maxL := 8) (ret := (some .int)) (by decide) rfl ?_
  intro p e s m args below meth c s₁ B hml hv
  obtain ⟨rfl, hsz, hP, hKN, hD0⟩ := hv
  have hx := B.exec
  have hb := B.bytes
  have hr := B.returns
  have hts := atoms_spec (ws := wq_c_C_dirtiest) B.pre
  have hown : s.vm.findClass RX6 = some m.cls := findClass_of_methodNamed B.named
  have hlocks := B.notSynchronized
  have hK := hKN.1
  have hfix : CallFix p m c cX6_dirtiest 8 s [.ref h0, .int x1].toArray wq_c_C_dirtiest RX6 := ⟨hx, hb, hml, hown, hts⟩
  have hi5 : ∀ w ∈ wsX50, w ∈ wq_c_C_dirtiest := (sb_c sb_l)
  have hi6 : ∀ w ∈ wsX60, w ∈ wq_c_C_dirtiest := (sb_c (sb_r sb_l))
  subst hsz
  have hD := hD0.self (sz := s.heap.size)
  generalize hAe : va_A (wc_c_C_dirtiest cyB cyI cyJ cyZ cyO h0 ad sd x1) s.heap.size = A at hD ⊢
  have hA : ∀ q : Nat, s.heap.size ≤ q → A q := fun q h => by rw [← hAe]; exact Or.inr h
  have hS : va_S A s.heap s.heap [] := va_S.rf
  have hl := lv_entry ([.ref h0, .int x1]) (n := 8) (Nat.le_of_ble_eq_true rfl)
  rw [lg_entry_eq]
  generalize (lg_sl ([.ref h0, .int x1]) ++ List.replicate (8 - (lg_sl ([.ref h0, .int x1])).length) Slot.unset).toArray = ls at hl ⊢
  have hl : lv_has ls 8 [(0, .ref h0), (1, .int x1)] := hl
  refine lv_iconst (v := 0) hx hb dX6_dirtiest_0 (by decide) ?_
  refine lv_istore_n (lv' := [(2, .int 0), (0, .ref h0), (1, .int x1)]) hx hb dX6_dirtiest_1 rfl hl (by decide) rfl (fun ls hl => ?_)
  refine lv_iconst (v := (-1)) hx hb dX6_dirtiest_2 (by decide) ?_
  refine lv_istore_n (lv' := [(3, .int (-1)), (2, .int 0), (0, .ref h0), (1, .int x1)]) hx hb dX6_dirtiest_3 rfl hl (by decide) rfl (fun ls hl => ?_)
  refine lv_iconst (v := (-1)) hx hb dX6_dirtiest_4 (by decide) ?_
  refine lv_istore (lv' := [(4, .int (-1)), (3, .int (-1)), (2, .int 0), (0, .ref h0), (1, .int x1)]) hx hb dX6_dirtiest_5 hl (by decide) rfl (fun ls hl => ?_)
  refine lv_iconst (v := 0) hx hb dX6_dirtiest_7 (by decide) ?_
  refine lv_istore (lv' := [(5, .int 0), (4, .int (-1)), (3, .int (-1)), (2, .int 0), (0, .ref h0), (1, .int x1)]) hx hb dX6_dirtiest_8 hl (by decide) rfl (fun ls hl => ?_)
  refine lv_iload hx hb dX6_dirtiest_10 (lv_at hl 0 rfl) ?_
  refine lv_aload_n hx hb dX6_dirtiest_12 rfl (lv_at hl 4 rfl) ?_
  refine va_get (D := (dC, dI)) (ci := 6) (v := .ref (ad 9)) (C := RX6) (T := TX6) (N := 20) hx hb hts hi6 hown hK hP 0 rfl rfl 9 (by decide) (hts _ (ow_m (k := 0) rfl)) (fun _ h9 => h9) rfl dX6_dirtiest_13 ?_
  refine va_get (D := (dC, dI)) (ci := 5) (v := .int 0) (C := RX5) (T := TX5) (N := 13) hx hb hts hi5 hown hK hP 1 rfl rfl 7 (by decide) (hts _ (ow_m (k := 1) rfl)) (fun _ h9 => h9) rfl dX6_dirtiest_16 ?_
  refine lv_icmp_ge (tgt := 94) hx hb dX6_dirtiest_19 (by decide) (fun _ => ?_) (fun c1051 => absurd (by decide) c1051)
  refine lv_iload_n hx hb dX6_dirtiest_94 rfl (lv_at hl 3 rfl) ?_
  refine lv_if_ne (tgt := 102) hx hb dX6_dirtiest_95 (by decide) (fun c1052 => absurd (by decide) c1052) (fun _ => ?_)
  refine lv_iconst (v := (-1)) hx hb dX6_dirtiest_98 (by decide) ?_
  refine lv_goto (tgt := 110) hx hb dX6_dirtiest_99 (by decide) ?_
  exact W.iret (v := (-1)) hx hb hr (fun t ht hW => ⟨⟨(-1), (), rfl, rfl, cE.nil⟩, hS.F ht⟩) hS.2.2 dX6_dirtiest_110
def wo_c_C_soonestOf : List Cond := [.constant RX6 129 1000000, .fieldLink RX6 110 "ReplicaChain" "now" "LReplicaChain$State;", .fieldLink RX6 157 "ReplicaChain$State" "size" "I"]
def wq_c_C_soonestOf : List Cond := .code yX6_soonestOf cX6_soonestOf 7 (some .int) :: (wo_c_C_soonestOf ++ (wsX50 ++ (wsX60 ++ [])))
theorem gd_c_C_soonestOf : Gd wq_c_C_soonestOf := gd_c (gd_a (gd_o (by decide +kernel)) (gd_a gd_u (gd_a gd_u gd_0)))
abbrev wc_c_C_soonestOf (cyB cyI cyJ cyZ cyO : ClassId) (h0 : Nat) (ad : Nat → Nat) (sd : Nat → Nat) (x1 : Int32) : va_W := [(h0, .inr (6, [.ref (ad 0), .int 0, .ref (ad 2), .ref (ad 3), .ref (ad 4), .ref (ad 5), .ref (ad 6), .int 0, .int 0, .ref (ad 9), .ref (ad 10), .ref (ad 11), .ref (ad 12), .ref (ad 13), .int 0, .ref (ad 15), .int 0, .ref (ad 17), .ref (ad 18), .int 0])), (ad 9, .inr (5, [.ref (sd 0), .ref (sd 1), .ref (sd 2), .ref (sd 3), .ref (sd 4), .ref (sd 5), .ref (sd 6), .int 0, .int (-1), .int 0, .int 0, .int 0, .int 0]))]
set_option maxHeartbeats 4000000 in
set_option maxRecDepth 100000 in
theorem c_C_soonestOf (l : Launch) (dC : Nat → ClassId) (dI : Nat → Nat → Nat) (cyB cyI cyJ cyZ cyO : ClassId) (h0 : Nat) (ad : Nat → Nat) (sd : Nat → Nat) (x1 : Int32) (sz : Nat) : Met l yX6_soonestOf wq_c_C_soonestOf ({ frames := 0, cells := 0, slots := 0, locals := 0 }) (va_Pc [.ref h0, .int x1] (cB (dC, dI) (kT cyB cyI cyJ cyZ cyO) (wc_c_C_soonestOf cyB cyI cyJ cyZ cyO h0 ad sd x1) sz)) (va_Qi (fun (r : Int32) (_ : Unit) => r = -1) (fun (u : Unit) t => cE (dC, dI) (va_A (wc_c_C_soonestOf cyB cyI cyJ cyZ cyO h0 ad sd x1) sz) ([]) t.heap) (va_A (wc_c_C_soonestOf cyB cyI cyJ cyZ cyO h0 ad sd x1) sz)) 0 0 (va_A (wc_c_C_soonestOf cyB cyI cyJ cyZ cyO h0 ad sd x1) sz) := by
  refine Met.ofW (cc := cX6_soonestOf) (maxL := 7) (ret := (some .int)) (by decide) rfl ?_
  intro p e s m args below meth c s₁ B hml hv
  obtain ⟨rfl, hsz, hP, hKN, hD0⟩ := hv
  have hx := B.exec
  have hb := B.bytes
  have hr := B.returns
  have hts := atoms_spec (ws := wq_c_C_soonestOf) B.pre
  have hown : s.vm.findClass RX6 = some m.cls := findClass_of_methodNamed B.named
  have hlocks := B.notSynchronized
  have hK := hKN.1
  have hfix : CallFix p m c cX6_soonestOf 7 s [.ref h0, .int x1].toArray wq_c_C_soonestOf RX6 := ⟨hx, hb, hml, hown, hts⟩
  have hi5 : ∀ w ∈ wsX50, w ∈ wq_c_C_soonestOf := (sb_c sb_l)
  have hi6 : ∀ w ∈ wsX60, w ∈ wq_c_C_soonestOf := (sb_c (sb_r sb_l))
  subst hsz
  have hD := hD0.self (sz := s.heap.size)
  generalize hAe : va_A (wc_c_C_soonestOf cyB cyI cyJ cyZ cyO h0 ad sd x1) s.heap.size = A at hD ⊢
  have hA : ∀ q : Nat, s.heap.size ≤ q → A q := fun q h => by rw [← hAe]; exact Or.inr h
  have hS : va_S A s.heap s.heap [] := va_S.rf
  have hl := lv_entry ([.ref h0, .int x1]) (n := 7) (Nat.le_of_ble_eq_true rfl)
  rw [lg_entry_eq]
  generalize (lg_sl ([.ref h0, .int x1]) ++ List.replicate (7 - (lg_sl ([.ref h0, .int x1])).length) Slot.unset).toArray = ls at hl ⊢
  have hl : lv_has ls 7 [(0, .ref h0), (1, .int x1)] := hl
  refine lv_ldc (v := 1000000) hx hb hown (hts _ (ow_m (k := 0) rfl)) dX6_soonestOf_0 ?_
  refine lv_istore_n (lv' := [(2, .int 1000000), (0, .ref h0), (1, .int x1)]) hx hb dX6_soonestOf_2 rfl hl (by decide) rfl (fun ls hl => ?_)
  refine lv_iconst (v := (-1)) hx hb dX6_soonestOf_3 (by decide) ?_
  refine lv_istore_n (lv' := [(3, .int (-1)), (2, .int 1000000), (0, .ref h0), (1, .int x1)]) hx hb dX6_soonestOf_4 rfl hl (by decide) rfl (fun ls hl => ?_)
  refine lv_iconst (v := (-1)) hx hb dX6_soonestOf_5 (by decide) ?_
  refine lv_istore (lv' := [(4, .int (-1)), (3, .int (-1)), (2, .int 1000000), (0, .ref h0), (1, .int x1)]) hx hb dX6_soonestOf_6 hl (by decide) rfl (fun ls hl => ?_)
  refine lv_iconst (v := 0) hx hb dX6_soonestOf_8 (by decide) ?_
  refine lv_istore (lv' := [(5, .int 0), (4, .int (-1)), (3, .int (-1)), (2, .int 1000000), (0, .ref h0), (1, .int x1)]) hx hb dX6_soonestOf_9 hl (by decide) rfl (fun ls hl => ?_)
  refine lv_iload hx hb dX6_soonestOf_11 (lv_at hl 0 rfl) ?_
  refine lv_aload_n hx hb dX6_soonestOf_13 rfl (lv_at hl 4 rfl) ?_
  refine va_get (D := (dC, dI)) (ci := 6) (v := .ref (ad 9)) (C := RX6) (T := TX6) (N := 20) hx hb hts hi6 hown hK hP 0 rfl rfl 9 (by decide) (hts _ (ow_m (k := 1) rfl)) (fun _ h9 => h9) rfl dX6_soonestOf_14 ?_
  refine va_get (D := (dC, dI)) (ci := 5) (v := .int 0) (C := RX5) (T := TX5) (N := 13) hx hb hts hi5 hown hK hP 1 rfl rfl 7 (by decide) (hts _ (ow_m (k := 2) rfl)) (fun _ h9 => h9) rfl dX6_soonestOf_17 ?_
  refine lv_iconst (v := 1) hx hb dX6_soonestOf_20 (by decide) ?_
  refine lv_isub hx hb dX6_soonestOf_21 ?_
  refine tp_c (w := (-1)) (by decide) ?_
  refine lv_icmp_ge (tgt := 94) hx hb dX6_soonestOf_22 (by decide) (fun _ => ?_) (fun c1055 => absurd (by decide) c1055)
  refine lv_iload_n hx hb dX6_soonestOf_94 rfl (lv_at hl 2 rfl) ?_
  refine lv_iconst (v := (-1)) hx hb dX6_soonestOf_95 (by decide) ?_
  refine lv_icmp_ne (tgt := 103) hx hb dX6_soonestOf_96 (by decide) (fun c1056 => absurd (by decide) c1056) (fun _ => ?_)
  refine lv_iconst (v := (-1)) hx hb dX6_soonestOf_99 (by decide) ?_
  refine lv_goto (tgt := 111) hx hb dX6_soonestOf_100 (by decide) ?_
  exact W.iret (v := (-1)) hx hb hr (fun t ht hW => ⟨⟨(-1), (), rfl, rfl, cE.nil⟩, hS.F ht⟩) hS.2.2 dX6_soonestOf_111
def wo_c_C_idle : List Cond := [.fieldLink RX6 16 "ReplicaChain" "plan" "LReplicaChain$Plan;", .fieldLink RX6 179 "ReplicaChain$Plan" "nodeCount" "I", .fieldLink RX6 110 "ReplicaChain" "now" "LReplicaChain$State;", .methodLink RX6 270 yX5_memberBits, .instanceMethod yX5_memberBits, .selects RX5 yX5_memberBits yX5_memberBits, .initialized RX5]
def wq_c_C_idle : List Cond := .code yX6_idle cX6_idle 1 (some .int) :: (wo_c_C_idle ++ (wq_k_X5_memberBits ++ (wsX10 ++ (wsX60 ++ []))))
theorem gd_c_C_idle : Gd wq_c_C_idle := gd_c (gd_a (gd_o (by decide +kernel)) (gd_a gd_k_X5_memberBits (gd_a gd_u (gd_a gd_u gd_0))))
abbrev wc_c_C_idle (cyB cyI cyJ cyZ cyO : ClassId) (h0 : Nat) (ad : Nat → Nat) (pd : Nat → Nat) (sd : Nat → Nat) : va_W := [(h0, .inr (6, [.ref (ad 0), .int 0, .ref (ad 2), .ref (ad 3), .ref (ad 4), .ref (ad 5), .ref (ad 6), .int 0, .int 0, .ref (ad 9), .ref (ad 10), .ref (ad 11), .ref (ad 12), .ref (ad 13), .int 0, .ref (ad 15), .int 0, .ref (ad 17), .ref (ad 18), .int 0])), (ad 2, .inr (1, [.ref (pd 0), .ref (pd 1), .ref (pd 2), .ref (pd 3), .int 0, .int 0, .int 0, .int 0, .int 2, .int 0, .int 0])), (ad 9, .inr (5, [.ref (sd 0), .ref (sd 1), .ref (sd 2), .ref (sd 3), .ref (sd 4), .ref (sd 5), .ref (sd 6), .int 0, .int (-1), .int 0, .int 0, .int 0, .int 0]))]
set_option maxHeartbeats 4000000 in
set_option maxRecDepth 100000 in
theorem c_C_idle (l : Launch) (dC : Nat → ClassId) (dI : Nat → Nat → Nat) (cyB cyI cyJ cyZ cyO : ClassId) (h0 : Nat) (ad : Nat → Nat) (pd : Nat → Nat) (sd : Nat → Nat) (sz : Nat) : Met l yX6_idle wq_c_C_idle ({ frames := 1, cells := 0, slots := 0, locals := 22 }) (va_Pc [.ref h0] (cB (dC, dI) (kT cyB cyI cyJ cyZ cyO) (wc_c_C_idle cyB cyI cyJ cyZ cyO h0 ad pd sd) sz)) (va_Qi (fun (r : Int32) (_ : Unit) => r = 0) (fun (u : Unit) t => cE (dC, dI) (va_A (wc_c_C_idle cyB cyI cyJ cyZ cyO h0 ad pd sd) sz) ([]) t.heap) (va_A (wc_c_C_idle cyB cyI cyJ cyZ cyO h0 ad pd sd) sz)) 0 0 (va_A (wc_c_C_idle cyB cyI cyJ cyZ cyO h0 ad pd sd) sz) := by
  refine Met.ofW (cc := cX6_idle) (maxL := 1) (ret := (some .int)) (by decide) rfl ?_
  intro p e s m args below meth c s₁ B hml hv
  obtain ⟨rfl, hsz, hP, hKN, hD0⟩ := hv
  have hx := B.exec
  have hb := B.bytes
  have hr := B.returns
  have hts := atoms_spec (ws := wq_c_C_idle) B.pre
  have hown : s.vm.findClass RX6 = some m.cls := findClass_of_methodNamed B.named
  have hlocks := B.notSynchronized
  have hK := hKN.1
  have hfix : CallFix p m c cX6_idle 1 s [.ref h0].toArray wq_c_C_idle RX6 := ⟨hx, hb, hml, hown, hts⟩
  have hi1 : ∀ w ∈ wsX10, w ∈ wq_c_C_idle := (sb_c (sb_r sb_l))
  have hi6 : ∀ w ∈ wsX60, w ∈ wq_c_C_idle := (sb_c (sb_r (sb_r sb_l)))
  subst hsz
  have hD := hD0.self (sz := s.heap.size)
  generalize hAe : va_A (wc_c_C_idle cyB cyI cyJ cyZ cyO h0 ad pd sd) s.heap.size = A at hD ⊢
  have hA : ∀ q : Nat, s.heap.size ≤ q → A q := fun q h => by rw [← hAe]; exact Or.inr h
  have hS : va_S A s.heap s.heap [] := va_S.rf
  have hl := lv_entry ([.ref h0]) (n := 1) (Nat.le_of_ble_eq_true rfl)
  rw [lg_entry_eq]
  generalize (lg_sl ([.ref h0]) ++ List.replicate (1 - (lg_sl ([.ref h0])).length) Slot.unset).toArray = ls at hl ⊢
  have hl : lv_has ls 1 [(0, .ref h0)] := hl
  refine lv_iconst (v := 1) hx hb dX6_idle_0 (by decide) ?_
  refine lv_aload_n hx hb dX6_idle_1 rfl (lv_at hl 0 rfl) ?_
  refine va_get (D := (dC, dI)) (ci := 6) (v := .ref (ad 2)) (C := RX6) (T := TX6) (N := 20) hx hb hts hi6 hown hK hP 0 rfl rfl 2 (by decide) (hts _ (ow_m (k := 0) rfl)) (fun _ h9 => h9) rfl dX6_idle_2 ?_
  refine va_get (D := (dC, dI)) (ci := 1) (v := .int 0) (C := RX1) (T := TX1) (N := 11) hx hb hts hi1 hown hK hP 1 rfl rfl 5 (by decide) (hts _ (ow_m (k := 1) rfl)) (fun _ h9 => h9) rfl dX6_idle_5 ?_
  refine lv_ishl hx hb dX6_idle_8 ?_
  refine tp_c (w := 1) (by decide) ?_
  refine lv_iconst (v := 1) hx hb dX6_idle_9 (by decide) ?_
  refine lv_isub hx hb dX6_idle_10 ?_
  refine tp_c (w := 0) (by decide) ?_
  refine lv_aload_n hx hb dX6_idle_11 rfl (lv_at hl 0 rfl) ?_
  refine va_get (D := (dC, dI)) (ci := 6) (v := .ref (ad 9)) (C := RX6) (T := TX6) (N := 20) hx hb hts hi6 hown hK hP 0 rfl rfl 9 (by decide) (hts _ (ow_m (k := 2) rfl)) (fun _ h9 => h9) rfl dX6_idle_12 ?_
  refine gf_i (wr := [(h0, .inr (6, [.ref (ad 0), .int 0, .ref (ad 2), .ref (ad 3), .ref (ad 4), .ref (ad 5), .ref (ad 6), .int 0, .int 0, .ref (ad 9), .ref (ad 10), .ref (ad 11), .ref (ad 12), .ref (ad 13), .int 0, .ref (ad 15), .int 0, .ref (ad 17), .ref (ad 18), .int 0])), (ad 2, .inr (1, [.ref (pd 0), .ref (pd 1), .ref (pd 2), .ref (pd 3), .int 0, .int 0, .int 0, .int 0, .int 2, .int 0, .int 0]))]) (va_runV (As := []) (rest := [.int 0]) hfix (k_X5_memberBits l dC dI cyB cyI cyJ cyZ cyO ad sd _) (cwV 0 hts (gi_V (ow_m (k := 3) rfl) (ow_m (k := 4) rfl) (ow_m (k := 5) rfl) (ow_m (k := 6) rfl) (sb_c sb_l) gd_k_X5_memberBits) rfl rfl rfl (by decide +kernel) ⟨Nat.le_of_ble_eq_true rfl, Nat.le_of_ble_eq_true rfl⟩) (g_preV hKN hP hD [2] rfl (by decide) 0 5 rfl rfl) rfl rfl hl.1 rfl (lv_room (Nat.le_of_ble_eq_true rfl)) dX6_idle_15 ⟨Nat.le_of_ble_eq_true rfl, Nat.le_of_ble_eq_true rfl⟩) hP hD hS hA [2] [0, 1] rfl rfl (by decide) (by decide) (fun r1061 u1062 H locs qu1062 hP hD hS => ?_)
  have hP : va_P (dC, dI) vwCl [(h0, .inr (6, [.ref (ad 0), .int 0, .ref (ad 2), .ref (ad 3), .ref (ad 4), .ref (ad 5), .ref (ad 6), .int 0, .int 0, .ref (ad 9), .ref (ad 10), .ref (ad 11), .ref (ad 12), .ref (ad 13), .int 0, .ref (ad 15), .int 0, .ref (ad 17), .ref (ad 18), .int 0])), (ad 2, .inr (1, [.ref (pd 0), .ref (pd 1), .ref (pd 2), .ref (pd 3), .int 0, .int 0, .int 0, .int 0, .int 2, .int 0, .int 0])), (ad 9, .inr (5, [.ref (sd 0), .ref (sd 1), .ref (sd 2), .ref (sd 3), .ref (sd 4), .ref (sd 5), .ref (sd 6), .int 0, .int (-1), .int 0, .int 0, .int 0, .int 0]))] H := hP
  have hD : va_D A [(h0, .inr (6, [.ref (ad 0), .int 0, .ref (ad 2), .ref (ad 3), .ref (ad 4), .ref (ad 5), .ref (ad 6), .int 0, .int 0, .ref (ad 9), .ref (ad 10), .ref (ad 11), .ref (ad 12), .ref (ad 13), .int 0, .ref (ad 15), .int 0, .ref (ad 17), .ref (ad 18), .int 0])), (ad 2, .inr (1, [.ref (pd 0), .ref (pd 1), .ref (pd 2), .ref (pd 3), .int 0, .int 0, .int 0, .int 0, .int 2, .int 0, .int 0])), (ad 9, .inr (5, [.ref (sd 0), .ref (sd 1), .ref (sd 2), .ref (sd 3), .ref (sd 4), .ref (sd 5), .ref (sd 6), .int 0, .int (-1), .int 0, .int 0, .int 0, .int 0]))] := hD
  refine tp_c (w := 0) qu1062 ?_
  refine lv_iconst (v := (-1)) hx hb dX6_idle_18 (by decide) ?_
  refine lv_ixor hx hb dX6_idle_19 ?_
  refine tp_c (w := (-1)) (by decide) ?_
  refine lv_iand hx hb dX6_idle_20 ?_
  refine tp_c (w := 0) (by decide) ?_
  exact W.iret (v := 0) hx hb hr (fun t ht hW => ⟨⟨0, (), rfl, rfl, cE.nil⟩, hS.F ht⟩) hS.2.2 dX6_idle_21
def wo_c_C_law : List Cond := [.methodLink RX6 211 yX6_canGive, .instanceMethod yX6_canGive, .selects RX6 yX6_canGive yX6_canGive, .initialized RX6]
def wq_c_C_law : List Cond := .code yX6_law cX6_law 4 (some .int) :: (wo_c_C_law ++ (wq_k_X6_canGive ++ []))
theorem gd_c_C_law : Gd wq_c_C_law := gd_c (gd_a (gd_o (by decide +kernel)) (gd_a gd_k_X6_canGive gd_0))
abbrev wc_c_C_law (cyB cyI cyJ cyZ cyO : ClassId) (h0 : Nat) (ad : Nat → Nat) (sd : Nat → Nat) (x1 : Int32) : va_W := [(h0, .inr (6, [.ref (ad 0), .int 0, .ref (ad 2), .ref (ad 3), .ref (ad 4), .ref (ad 5), .ref (ad 6), .int 0, .int 0, .ref (ad 9), .ref (ad 10), .ref (ad 11), .ref (ad 12), .ref (ad 13), .int 0, .ref (ad 15), .int 0, .ref (ad 17), .ref (ad 18), .int 0])), (ad 9, .inr (5, [.ref (sd 0), .ref (sd 1), .ref (sd 2), .ref (sd 3), .ref (sd 4), .ref (sd 5), .ref (sd 6), .int 0, .int (-1), .int 0, .int 0, .int 0, .int 0]))]
set_option maxHeartbeats 4000000 in
set_option maxRecDepth 100000 in
theorem c_C_law (l : Launch) (dC : Nat → ClassId) (dI : Nat → Nat → Nat) (cyB cyI cyJ cyZ cyO : ClassId) (h0 : Nat) (ad : Nat → Nat) (sd : Nat → Nat) (x1 : Int32) (sz : Nat) : Met l yX6_law wq_c_C_law ({ frames := 1, cells := 0, slots := 0, locals := 20 }) (va_Pc [.ref h0, .int x1] (cB (dC, dI) (kT cyB cyI cyJ cyZ cyO) (wc_c_C_law cyB cyI cyJ cyZ cyO h0 ad sd x1) sz)) (va_Qi (fun (r : Int32) (_ : Unit) => r = -1) (fun (u : Unit) t => cE (dC, dI) (va_A (wc_c_C_law cyB cyI cyJ cyZ cyO h0 ad sd x1) sz) ([]) t.heap) (va_A (wc_c_C_law cyB cyI cyJ cyZ cyO h0 ad sd x1) sz)) 0 0 (va_A (wc_c_C_law cyB cyI cyJ cyZ cyO h0 ad sd x1) sz) := by
  refine Met.ofW (cc := cX6_law) (maxL := 4) (ret := (some .int)) (by decide) rfl ?_
  intro p e s m args below meth c s₁ B hml hv
  obtain ⟨rfl, hsz, hP, hKN, hD0⟩ := hv
  have hx := B.exec
  have hb := B.bytes
  have hr := B.returns
  have hts := atoms_spec (ws := wq_c_C_law) B.pre
  have hown : s.vm.findClass RX6 = some m.cls := findClass_of_methodNamed B.named
  have hlocks := B.notSynchronized
  have hK := hKN.1
  have hfix : CallFix p m c cX6_law 4 s [.ref h0, .int x1].toArray wq_c_C_law RX6 := ⟨hx, hb, hml, hown, hts⟩
  subst hsz
  have hD := hD0.self (sz := s.heap.size)
  generalize hAe : va_A (wc_c_C_law cyB cyI cyJ cyZ cyO h0 ad sd x1) s.heap.size = A at hD ⊢
  have hA : ∀ q : Nat, s.heap.size ≤ q → A q := fun q h => by rw [← hAe]; exact Or.inr h
  have hS : va_S A s.heap s.heap [] := va_S.rf
  have hl := lv_entry ([.ref h0, .int x1]) (n := 4) (Nat.le_of_ble_eq_true rfl)
  rw [lg_entry_eq]
  generalize (lg_sl ([.ref h0, .int x1]) ++ List.replicate (4 - (lg_sl ([.ref h0, .int x1])).length) Slot.unset).toArray = ls at hl ⊢
  have hl : lv_has ls 4 [(0, .ref h0), (1, .int x1)] := hl
  refine lv_iload_n hx hb dX6_law_0 rfl (lv_at hl 1 rfl) ?_
  refine lv_iconst (v := 1) hx hb dX6_law_1 (by decide) ?_
  refine lv_icmp_lt (tgt := 18) hx hb dX6_law_2 (by decide) (fun c1069 => ?_) (fun c1069 => ?_)
  · have c1069 := i_lt (a := x1.toInt) (b := 1) c1069 rfl (by decide)
    refine lv_iconst (v := (-1)) hx hb dX6_law_18 (by decide) ?_
    exact W.iret (v := (-1)) hx hb hr (fun t ht hW => ⟨⟨(-1), (), rfl, rfl, cE.nil⟩, hS.F ht⟩) hS.2.2 dX6_law_19
  · have c1069 := i_nlt (a := x1.toInt) (b := 1) c1069 rfl (by decide)
    refine lv_iload_n hx hb dX6_law_5 rfl (lv_at hl 1 rfl) ?_
    refine lv_bipush (v := 9) hx hb dX6_law_6 (by decide) ?_
    refine lv_icmp_gt (tgt := 18) hx hb dX6_law_8 (by decide) (fun c1070 => ?_) (fun c1070 => ?_)
    · have c1070 := i_lt (a := 9) (b := x1.toInt) c1070 (by decide) rfl
      refine lv_iconst (v := (-1)) hx hb dX6_law_18 (by decide) ?_
      exact W.iret (v := (-1)) hx hb hr (fun t ht hW => ⟨⟨(-1), (), rfl, rfl, cE.nil⟩, hS.F ht⟩) hS.2.2 dX6_law_19
    · have c1070 := i_nlt (a := 9) (b := x1.toInt) c1070 (by decide) rfl
      refine lv_aload_n hx hb dX6_law_11 rfl (lv_at hl 0 rfl) ?_
      refine gf_i (wr := []) (va_runV (As := []) (rest := []) hfix (k_X6_canGive l dC dI cyB cyI cyJ cyZ cyO h0 ad sd _) (cwV 0 hts (gi_V (ow_m (k := 0) rfl) (ow_m (k := 1) rfl) (ow_m (k := 2) rfl) (ow_m (k := 3) rfl) (sb_c sb_l) gd_k_X6_canGive) rfl rfl rfl (by decide +kernel) ⟨Nat.le_of_ble_eq_true rfl, Nat.le_of_ble_eq_true rfl⟩) (g_preV hKN hP hD [0, 1] rfl (by decide) 0 6 rfl rfl) rfl rfl hl.1 rfl (lv_room (Nat.le_of_ble_eq_true rfl)) dX6_law_12 ⟨Nat.le_of_ble_eq_true rfl, Nat.le_of_ble_eq_true rfl⟩) hP hD hS hA [0, 1] [] rfl rfl (by decide) (by decide) (fun r1072 u1073 H locs qu1073 hP hD hS => ?_)
      have hP : va_P (dC, dI) vwCl [(h0, .inr (6, [.ref (ad 0), .int 0, .ref (ad 2), .ref (ad 3), .ref (ad 4), .ref (ad 5), .ref (ad 6), .int 0, .int 0, .ref (ad 9), .ref (ad 10), .ref (ad 11), .ref (ad 12), .ref (ad 13), .int 0, .ref (ad 15), .int 0, .ref (ad 17), .ref (ad 18), .int 0])), (ad 9, .inr (5, [.ref (sd 0), .ref (sd 1), .ref (sd 2), .ref (sd 3), .ref (sd 4), .ref (sd 5), .ref (sd 6), .int 0, .int (-1), .int 0, .int 0, .int 0, .int 0]))] H := hP
      have hD : va_D A [(h0, .inr (6, [.ref (ad 0), .int 0, .ref (ad 2), .ref (ad 3), .ref (ad 4), .ref (ad 5), .ref (ad 6), .int 0, .int 0, .ref (ad 9), .ref (ad 10), .ref (ad 11), .ref (ad 12), .ref (ad 13), .int 0, .ref (ad 15), .int 0, .ref (ad 17), .ref (ad 18), .int 0])), (ad 9, .inr (5, [.ref (sd 0), .ref (sd 1), .ref (sd 2), .ref (sd 3), .ref (sd 4), .ref (sd 5), .ref (sd 6), .int 0, .int (-1), .int 0, .int 0, .int 0, .int 0]))] := hD
      refine tp_c (w := 0) qu1073 ?_
      refine lv_if_ne (tgt := 20) hx hb dX6_law_15 (by decide) (fun c1074 => absurd (by decide) c1074) (fun _ => ?_)
      refine lv_iconst (v := (-1)) hx hb dX6_law_18 (by decide) ?_
      exact W.iret (v := (-1)) hx hb hr (fun t ht hW => ⟨⟨(-1), (), rfl, rfl, cE.nil⟩, hS.F ht⟩) hS.2.2 dX6_law_19
def wo_k_X6_commonDivisor : List Cond := []
def wq_k_X6_commonDivisor : List Cond := .code yX6_commonDivisor cX6_commonDivisor 6 (some .int) :: (wo_k_X6_commonDivisor ++ [])
theorem gd_k_X6_commonDivisor : Gd wq_k_X6_commonDivisor := gd_c (gd_a (gd_o (by decide +kernel)) gd_0)
abbrev wc_k_X6_commonDivisor (cyB cyI cyJ cyZ cyO : ClassId) : va_W := []
set_option maxHeartbeats 4000000 in
set_option maxRecDepth 100000 in
theorem k_X6_commonDivisor (l : Launch) (dC : Nat → ClassId) (dI : Nat → Nat → Nat) (cyB cyI cyJ cyZ cyO : ClassId) (sz : Nat) : Met l yX6_commonDivisor wq_k_X6_commonDivisor ({ frames := 0, cells := 0, slots := 0, locals := 0 }) (va_Pc [.int 1, .int 1] (cB (dC, dI) (kT cyB cyI cyJ cyZ cyO) (wc_k_X6_commonDivisor cyB cyI cyJ cyZ cyO) sz)) (va_Qi (fun (r : Int32) _ => r = 1) (fun (u : Unit) t => cE (dC, dI) (va_A (wc_k_X6_commonDivisor cyB cyI cyJ cyZ cyO) sz) ([]) t.heap) (va_A (wc_k_X6_commonDivisor cyB cyI cyJ cyZ cyO) sz)) 0 0 (va_A (wc_k_X6_commonDivisor cyB cyI cyJ cyZ cyO) sz) := by
  refine Met.ofW (cc := cX6_commonDivisor) (maxL := 6) (ret := (some .int)) (by decide) rfl ?_
  intro p e s m args below meth c s₁ B hml hv
  obtain ⟨rfl, hsz, hP, hKN, hD0⟩ := hv
  have hx := B.exec
  have hb := B.bytes
  have hr := B.returns
  have hts := atoms_spec (ws := wq_k_X6_commonDivisor) B.pre
  have hown : s.vm.findClass RX6 = some m.cls := findClass_of_methodNamed B.named
  have hlocks := B.notSynchronized
  have hK := hKN.1
  have hfix : CallFix p m c cX6_commonDivisor 6 s [.int 1, .int 1].toArray wq_k_X6_commonDivisor RX6 := ⟨hx, hb, hml, hown, hts⟩
  subst hsz
  have hD := hD0.self (sz := s.heap.size)
  generalize hAe : va_A (wc_k_X6_commonDivisor cyB cyI cyJ cyZ cyO) s.heap.size = A at hD ⊢
  have hA : ∀ q : Nat, s.heap.size ≤ q → A q := fun q h => by rw [← hAe]; exact Or.inr h
  have hS : va_S A s.heap s.heap [] := va_S.rf
  have hl := lv_entry ([.int 1, .int 1]) (n := 6) (Nat.le_of_ble_eq_true rfl)
  rw [lg_entry_eq]
  generalize (lg_sl ([.int 1, .int 1]) ++ List.replicate (6 - (lg_sl ([.int 1, .int 1])).length) Slot.unset).toArray = ls at hl ⊢
  have hl : lv_has ls 6 [(0, .int 1), (1, .int 1)] := hl
  refine lv_iload_n hx hb dX6_commonDivisor_0 rfl (lv_at hl 0 rfl) ?_
  refine lv_istore_n (lv' := [(2, .int 1), (0, .int 1), (1, .int 1)]) hx hb dX6_commonDivisor_1 rfl hl (by decide) rfl (fun ls hl => ?_)
  refine lv_iload_n hx hb dX6_commonDivisor_2 rfl (lv_at hl 2 rfl) ?_
  refine lv_istore_n (lv' := [(3, .int 1), (2, .int 1), (0, .int 1), (1, .int 1)]) hx hb dX6_commonDivisor_3 rfl hl (by decide) rfl (fun ls hl => ?_)
  refine lv_iconst (v := 0) hx hb dX6_commonDivisor_4 (by decide) ?_
  refine lv_istore (lv' := [(4, .int 0), (3, .int 1), (2, .int 1), (0, .int 1), (1, .int 1)]) hx hb dX6_commonDivisor_5 hl (by decide) rfl (fun ls hl => ?_)
  refine lv_iload hx hb dX6_commonDivisor_7 (lv_at hl 0 rfl) ?_
  refine lv_bipush (v := 64) hx hb dX6_commonDivisor_9 (by decide) ?_
  refine lv_icmp_ge (tgt := 34) hx hb dX6_commonDivisor_11 (by decide) (fun c1084 => absurd c1084 (by decide)) (fun _ => ?_)
  refine lv_iload_n hx hb dX6_commonDivisor_14 rfl (lv_at hl 1 rfl) ?_
  refine lv_if_eq (tgt := 34) hx hb dX6_commonDivisor_15 (by decide) (fun c1085 => absurd c1085 (by decide)) (fun _ => ?_)
  refine lv_iload_n hx hb dX6_commonDivisor_18 rfl (lv_at hl 2 rfl) ?_
  refine lv_iload_n hx hb dX6_commonDivisor_19 rfl (lv_at hl 1 rfl) ?_
  refine lv_irem hx hb dX6_commonDivisor_20 (by decide) ?_
  refine tp_c (w := 0) (by decide) ?_
  refine lv_istore (lv' := [(5, .int 0), (4, .int 0), (3, .int 1), (2, .int 1), (0, .int 1), (1, .int 1)]) hx hb dX6_commonDivisor_21 hl (by decide) rfl (fun ls hl => ?_)
  refine lv_iload_n hx hb dX6_commonDivisor_23 rfl (lv_at hl 2 rfl) ?_
  refine lv_istore_n (lv' := [(2, .int 1), (5, .int 0), (4, .int 0), (3, .int 1), (0, .int 1), (1, .int 1)]) hx hb dX6_commonDivisor_24 rfl hl (by decide) rfl (fun ls hl => ?_)
  refine lv_iload hx hb dX6_commonDivisor_25 (lv_at hl 1 rfl) ?_
  refine lv_istore_n (lv' := [(3, .int 0), (2, .int 1), (5, .int 0), (4, .int 0), (0, .int 1), (1, .int 1)]) hx hb dX6_commonDivisor_27 rfl hl (by decide) rfl (fun ls hl => ?_)
  refine lv_iinc (v := 1) (lv' := [(4, .int 1), (3, .int 0), (2, .int 1), (5, .int 0), (0, .int 1), (1, .int 1)]) hx hb dX6_commonDivisor_28 hl (k := 3) rfl (by decide) (by decide) rfl (fun ls hl => ?_)
  refine lv_goto (tgt := 7) hx hb dX6_commonDivisor_31 (by decide) ?_
  refine lv_iload hx hb dX6_commonDivisor_7 (lv_at hl 0 rfl) ?_
  refine lv_bipush (v := 64) hx hb dX6_commonDivisor_9 (by decide) ?_
  refine lv_icmp_ge (tgt := 34) hx hb dX6_commonDivisor_11 (by decide) (fun c1086 => absurd c1086 (by decide)) (fun _ => ?_)
  refine lv_iload_n hx hb dX6_commonDivisor_14 rfl (lv_at hl 1 rfl) ?_
  refine lv_if_eq (tgt := 34) hx hb dX6_commonDivisor_15 (by decide) (fun _ => ?_) (fun c1087 => absurd (by decide) c1087)
  refine lv_iload_n hx hb dX6_commonDivisor_34 rfl (lv_at hl 2 rfl) ?_
  exact W.iret (v := 1) hx hb hr (fun t ht hW => ⟨⟨1, (), rfl, rfl, cE.of ht hP hD [] (by decide) rfl⟩, hS.F ht⟩) hS.2.2 dX6_commonDivisor_35
def wo_k_X6_canLoseBehind : List Cond := [.fieldLink RX6 110 "ReplicaChain" "now" "LReplicaChain$State;", .fieldLink RX6 176 "ReplicaChain$State" "copier" "I", .fieldLink RX6 157 "ReplicaChain$State" "size" "I"]
def wq_k_X6_canLoseBehind : List Cond := .code yX6_canLoseBehind cX6_canLoseBehind 3 (some .boolean) :: (wo_k_X6_canLoseBehind ++ (wsX50 ++ (wsX60 ++ [])))
theorem gd_k_X6_canLoseBehind : Gd wq_k_X6_canLoseBehind := gd_c (gd_a (gd_o (by decide +kernel)) (gd_a gd_u (gd_a gd_u gd_0)))
abbrev wc_k_X6_canLoseBehind (cyB cyI cyJ cyZ cyO : ClassId) (h0 : Nat) (ad : Nat → Nat) (sd : Nat → Nat) : va_W := [(h0, .inr (6, [.ref (ad 0), .int 0, .ref (ad 2), .ref (ad 3), .ref (ad 4), .ref (ad 5), .ref (ad 6), .int 0, .int 0, .ref (ad 9), .ref (ad 10), .ref (ad 11), .ref (ad 12), .ref (ad 13), .int 0, .ref (ad 15), .int 0, .ref (ad 17), .ref (ad 18), .int 0])), (ad 9, .inr (5, [.ref (sd 0), .ref (sd 1), .ref (sd 2), .ref (sd 3), .ref (sd 4), .ref (sd 5), .ref (sd 6), .int 0, .int (-1), .int 0, .int 0, .int 0, .int 0]))]
set_option maxHeartbeats 4000000 in
set_option maxRecDepth 100000 in
theorem k_X6_canLoseBehind (l : Launch) (dC : Nat → ClassId) (dI : Nat → Nat → Nat) (cyB cyI cyJ cyZ cyO : ClassId) (h0 : Nat) (ad : Nat → Nat) (sd : Nat → Nat) (sz : Nat) : Met l yX6_canLoseBehind wq_k_X6_canLoseBehind ({ frames := 0, cells := 0, slots := 0, locals := 0 }) (va_Pc [.ref h0, .int 1] (cB (dC, dI) (kT cyB cyI cyJ cyZ cyO) (wc_k_X6_canLoseBehind cyB cyI cyJ cyZ cyO h0 ad sd) sz)) (va_Qi (fun (r : Int32) _ => r = 0) (fun (u : Unit) t => cE (dC, dI) (va_A (wc_k_X6_canLoseBehind cyB cyI cyJ cyZ cyO h0 ad sd) sz) ([(h0, .inr (6, [.ref (ad 0), .int 0, .ref (ad 2), .ref (ad 3), .ref (ad 4), .ref (ad 5), .ref (ad 6), .int 0, .int 0, .ref (ad 9), .ref (ad 10), .ref (ad 11), .ref (ad 12), .ref (ad 13), .int 0, .ref (ad 15), .int 0, .ref (ad 17), .ref (ad 18), .int 0])), (ad 9, .inr (5, [.ref (sd 0), .ref (sd 1), .ref (sd 2), .ref (sd 3), .ref (sd 4), .ref (sd 5), .ref (sd 6), .int 0, .int (-1), .int 0, .int 0, .int 0, .int 0]))]) t.heap) (va_A (wc_k_X6_canLoseBehind cyB cyI cyJ cyZ cyO h0 ad sd) sz)) 0 0 (va_A (wc_k_X6_canLoseBehind cyB cyI cyJ cyZ cyO h0 ad sd) sz) := by
  refine Met.ofW (cc := cX6_canLoseBehind) (maxL := 3) (ret := (some .boolean)) (by decide) rfl ?_
  intro p e s m args below meth c s₁ B hml hv
  obtain ⟨rfl, hsz, hP, hKN, hD0⟩ := hv
  have hx := B.exec
  have hb := B.bytes
  have hr := B.returns
  have hts := atoms_spec (ws := wq_k_X6_canLoseBehind) B.pre
  have hown : s.vm.findClass RX6 = some m.cls := findClass_of_methodNamed B.named
  have hlocks := B.notSynchronized
  have hK := hKN.1
  have hfix : CallFix p m c cX6_canLoseBehind 3 s [.ref h0, .int 1].toArray wq_k_X6_canLoseBehind RX6 := ⟨hx, hb, hml, hown, hts⟩
  have hi5 : ∀ w ∈ wsX50, w ∈ wq_k_X6_canLoseBehind := (sb_c sb_l)
  have hi6 : ∀ w ∈ wsX60, w ∈ wq_k_X6_canLoseBehind := (sb_c (sb_r sb_l))
  subst hsz
  have hD := hD0.self (sz := s.heap.size)
  generalize hAe : va_A (wc_k_X6_canLoseBehind cyB cyI cyJ cyZ cyO h0 ad sd) s.heap.size = A at hD ⊢
  have hA : ∀ q : Nat, s.heap.size ≤ q → A q := fun q h => by rw [← hAe]; exact Or.inr h
  have hS : va_S A s.heap s.heap [] := va_S.rf
  have hl := lv_entry ([.ref h0, .int 1]) (n := 3) (Nat.le_of_ble_eq_true rfl)
  rw [lg_entry_eq]
  generalize (lg_sl ([.ref h0, .int 1]) ++ List.replicate (3 - (lg_sl ([.ref h0, .int 1])).length) Slot.unset).toArray = ls at hl ⊢
  have hl : lv_has ls 3 [(0, .ref h0), (1, .int 1)] := hl
  refine lv_aload_n hx hb dX6_canLoseBehind_0 rfl (lv_at hl 0 rfl) ?_
  refine va_get (D := (dC, dI)) (ci := 6) (v := .ref (ad 9)) (C := RX6) (T := TX6) (N := 20) hx hb hts hi6 hown hK hP 0 rfl rfl 9 (by decide) (hts _ (ow_m (k := 0) rfl)) (fun _ h9 => h9) rfl dX6_canLoseBehind_1 ?_
  refine va_get (D := (dC, dI)) (ci := 5) (v := .int (-1)) (C := RX5) (T := TX5) (N := 13) hx hb hts hi5 hown hK hP 1 rfl rfl 8 (by decide) (hts _ (ow_m (k := 1) rfl)) (fun _ h9 => h9) rfl dX6_canLoseBehind_4 ?_
  refine lv_iconst (v := (-1)) hx hb dX6_canLoseBehind_7 (by decide) ?_
  refine lv_icmp_eq (tgt := 26) hx hb dX6_canLoseBehind_8 (by decide) (fun _ => ?_) (fun c1095 => absurd (by decide) c1095)
  refine lv_iconst (v := 0) hx hb dX6_canLoseBehind_26 (by decide) ?_
  refine lv_istore_n (lv' := [(2, .int 0), (0, .ref h0), (1, .int 1)]) hx hb dX6_canLoseBehind_27 rfl hl (by decide) rfl (fun ls hl => ?_)
  refine lv_aload_n hx hb dX6_canLoseBehind_28 rfl (lv_at hl 1 rfl) ?_
  refine va_get (D := (dC, dI)) (ci := 6) (v := .ref (ad 9)) (C := RX6) (T := TX6) (N := 20) hx hb hts hi6 hown hK hP 0 rfl rfl 9 (by decide) (hts _ (ow_m (k := 0) rfl)) (fun _ h9 => h9) rfl dX6_canLoseBehind_29 ?_
  refine va_get (D := (dC, dI)) (ci := 5) (v := .int 0) (C := RX5) (T := TX5) (N := 13) hx hb hts hi5 hown hK hP 1 rfl rfl 7 (by decide) (hts _ (ow_m (k := 2) rfl)) (fun _ h9 => h9) rfl dX6_canLoseBehind_32 ?_
  refine lv_iload_n hx hb dX6_canLoseBehind_35 rfl (lv_at hl 0 rfl) ?_
  refine lv_if_eq (tgt := 43) hx hb dX6_canLoseBehind_36 (by decide) (fun _ => ?_) (fun c1096 => absurd (by decide) c1096)
  refine lv_iconst (v := 0) hx hb dX6_canLoseBehind_43 (by decide) ?_
  refine lv_iadd hx hb dX6_canLoseBehind_44 ?_
  refine tp_c (w := 0) (by decide) ?_
  refine lv_iconst (v := 2) hx hb dX6_canLoseBehind_45 (by decide) ?_
  refine lv_icmp_lt (tgt := 53) hx hb dX6_canLoseBehind_46 (by decide) (fun _ => ?_) (fun c1097 => absurd (by decide) c1097)
  refine lv_iconst (v := 0) hx hb dX6_canLoseBehind_53 (by decide) ?_
  exact W.zret (v := 0) hx hb hr (by decide) (fun t ht hW => ⟨⟨0, (), rfl, rfl, cE.of ht hP hD [0, 1] (by decide) rfl⟩, hS.F ht⟩) hS.2.2 dX6_canLoseBehind_54
def wo_k_X6_canLoseBehind_v2 : List Cond := [.fieldLink RX6 110 "ReplicaChain" "now" "LReplicaChain$State;", .fieldLink RX6 176 "ReplicaChain$State" "copier" "I", .fieldLink RX6 157 "ReplicaChain$State" "size" "I"]
def wq_k_X6_canLoseBehind_v2 : List Cond := .code yX6_canLoseBehind cX6_canLoseBehind 3 (some .boolean) :: (wo_k_X6_canLoseBehind_v2 ++ (wsX50 ++ (wsX60 ++ [])))
theorem gd_k_X6_canLoseBehind_v2 : Gd wq_k_X6_canLoseBehind_v2 := gd_c (gd_a (gd_o (by decide +kernel)) (gd_a gd_u (gd_a gd_u gd_0)))
abbrev wc_k_X6_canLoseBehind_v2 (cyB cyI cyJ cyZ cyO : ClassId) (h0 : Nat) (ad : Nat → Nat) (sd : Nat → Nat) : va_W := [(h0, .inr (6, [.ref (ad 0), .int 0, .ref (ad 2), .ref (ad 3), .ref (ad 4), .ref (ad 5), .ref (ad 6), .int 0, .int 0, .ref (ad 9), .ref (ad 10), .ref (ad 11), .ref (ad 12), .ref (ad 13), .int 0, .ref (ad 15), .int 0, .ref (ad 17), .ref (ad 18), .int 0])), (ad 9, .inr (5, [.ref (sd 0), .ref (sd 1), .ref (sd 2), .ref (sd 3), .ref (sd 4), .ref (sd 5), .ref (sd 6), .int 0, .int (-1), .int 0, .int 0, .int 0, .int 0]))]
set_option maxHeartbeats 4000000 in
set_option maxRecDepth 100000 in
theorem k_X6_canLoseBehind_v2 (l : Launch) (dC : Nat → ClassId) (dI : Nat → Nat → Nat) (cyB cyI cyJ cyZ cyO : ClassId) (h0 : Nat) (ad : Nat → Nat) (sd : Nat → Nat) (sz : Nat) : Met l yX6_canLoseBehind wq_k_X6_canLoseBehind_v2 ({ frames := 0, cells := 0, slots := 0, locals := 0 }) (va_Pc [.ref h0, .int 2] (cB (dC, dI) (kT cyB cyI cyJ cyZ cyO) (wc_k_X6_canLoseBehind_v2 cyB cyI cyJ cyZ cyO h0 ad sd) sz)) (va_Qi (fun (r : Int32) _ => r = 0) (fun (u : Unit) t => cE (dC, dI) (va_A (wc_k_X6_canLoseBehind_v2 cyB cyI cyJ cyZ cyO h0 ad sd) sz) ([(h0, .inr (6, [.ref (ad 0), .int 0, .ref (ad 2), .ref (ad 3), .ref (ad 4), .ref (ad 5), .ref (ad 6), .int 0, .int 0, .ref (ad 9), .ref (ad 10), .ref (ad 11), .ref (ad 12), .ref (ad 13), .int 0, .ref (ad 15), .int 0, .ref (ad 17), .ref (ad 18), .int 0])), (ad 9, .inr (5, [.ref (sd 0), .ref (sd 1), .ref (sd 2), .ref (sd 3), .ref (sd 4), .ref (sd 5), .ref (sd 6), .int 0, .int (-1), .int 0, .int 0, .int 0, .int 0]))]) t.heap) (va_A (wc_k_X6_canLoseBehind_v2 cyB cyI cyJ cyZ cyO h0 ad sd) sz)) 0 0 (va_A (wc_k_X6_canLoseBehind_v2 cyB cyI cyJ cyZ cyO h0 ad sd) sz) := by
  refine Met.ofW (cc := cX6_canLoseBehind) (maxL := 3) (ret := (some .boolean)) (by decide) rfl ?_
  intro p e s m args below meth c s₁ B hml hv
  obtain ⟨rfl, hsz, hP, hKN, hD0⟩ := hv
  have hx := B.exec
  have hb := B.bytes
  have hr := B.returns
  have hts := atoms_spec (ws := wq_k_X6_canLoseBehind_v2) B.pre
  have hown : s.vm.findClass RX6 = some m.cls := findClass_of_methodNamed B.named
  have hlocks := B.notSynchronized
  have hK := hKN.1
  have hfix : CallFix p m c cX6_canLoseBehind 3 s [.ref h0, .int 2].toArray wq_k_X6_canLoseBehind_v2 RX6 := ⟨hx, hb, hml, hown, hts⟩
  have hi5 : ∀ w ∈ wsX50, w ∈ wq_k_X6_canLoseBehind_v2 := (sb_c sb_l)
  have hi6 : ∀ w ∈ wsX60, w ∈ wq_k_X6_canLoseBehind_v2 := (sb_c (sb_r sb_l))
  subst hsz
  have hD := hD0.self (sz := s.heap.size)
  generalize hAe : va_A (wc_k_X6_canLoseBehind_v2 cyB cyI cyJ cyZ cyO h0 ad sd) s.heap.size = A at hD ⊢
  have hA : ∀ q : Nat, s.heap.size ≤ q → A q := fun q h => by rw [← hAe]; exact Or.inr h
  have hS : va_S A s.heap s.heap [] := va_S.rf
  have hl := lv_entry ([.ref h0, .int 2]) (n := 3) (Nat.le_of_ble_eq_true rfl)
  rw [lg_entry_eq]
  generalize (lg_sl ([.ref h0, .int 2]) ++ List.replicate (3 - (lg_sl ([.ref h0, .int 2])).length) Slot.unset).toArray = ls at hl ⊢
  have hl : lv_has ls 3 [(0, .ref h0), (1, .int 2)] := hl
  refine lv_aload_n hx hb dX6_canLoseBehind_0 rfl (lv_at hl 0 rfl) ?_
  refine va_get (D := (dC, dI)) (ci := 6) (v := .ref (ad 9)) (C := RX6) (T := TX6) (N := 20) hx hb hts hi6 hown hK hP 0 rfl rfl 9 (by decide) (hts _ (ow_m (k := 0) rfl)) (fun _ h9 => h9) rfl dX6_canLoseBehind_1 ?_
  refine va_get (D := (dC, dI)) (ci := 5) (v := .int (-1)) (C := RX5) (T := TX5) (N := 13) hx hb hts hi5 hown hK hP 1 rfl rfl 8 (by decide) (hts _ (ow_m (k := 1) rfl)) (fun _ h9 => h9) rfl dX6_canLoseBehind_4 ?_
  refine lv_iconst (v := (-1)) hx hb dX6_canLoseBehind_7 (by decide) ?_
  refine lv_icmp_eq (tgt := 26) hx hb dX6_canLoseBehind_8 (by decide) (fun _ => ?_) (fun c1113 => absurd (by decide) c1113)
  refine lv_iconst (v := 0) hx hb dX6_canLoseBehind_26 (by decide) ?_
  refine lv_istore_n (lv' := [(2, .int 0), (0, .ref h0), (1, .int 2)]) hx hb dX6_canLoseBehind_27 rfl hl (by decide) rfl (fun ls hl => ?_)
  refine lv_aload_n hx hb dX6_canLoseBehind_28 rfl (lv_at hl 1 rfl) ?_
  refine va_get (D := (dC, dI)) (ci := 6) (v := .ref (ad 9)) (C := RX6) (T := TX6) (N := 20) hx hb hts hi6 hown hK hP 0 rfl rfl 9 (by decide) (hts _ (ow_m (k := 0) rfl)) (fun _ h9 => h9) rfl dX6_canLoseBehind_29 ?_
  refine va_get (D := (dC, dI)) (ci := 5) (v := .int 0) (C := RX5) (T := TX5) (N := 13) hx hb hts hi5 hown hK hP 1 rfl rfl 7 (by decide) (hts _ (ow_m (k := 2) rfl)) (fun _ h9 => h9) rfl dX6_canLoseBehind_32 ?_
  refine lv_iload_n hx hb dX6_canLoseBehind_35 rfl (lv_at hl 0 rfl) ?_
  refine lv_if_eq (tgt := 43) hx hb dX6_canLoseBehind_36 (by decide) (fun _ => ?_) (fun c1114 => absurd (by decide) c1114)
  refine lv_iconst (v := 0) hx hb dX6_canLoseBehind_43 (by decide) ?_
  refine lv_iadd hx hb dX6_canLoseBehind_44 ?_
  refine tp_c (w := 0) (by decide) ?_
  refine lv_iconst (v := 2) hx hb dX6_canLoseBehind_45 (by decide) ?_
  refine lv_icmp_lt (tgt := 53) hx hb dX6_canLoseBehind_46 (by decide) (fun _ => ?_) (fun c1115 => absurd (by decide) c1115)
  refine lv_iconst (v := 0) hx hb dX6_canLoseBehind_53 (by decide) ?_
  exact W.zret (v := 0) hx hb hr (by decide) (fun t ht hW => ⟨⟨0, (), rfl, rfl, cE.of ht hP hD [0, 1] (by decide) rfl⟩, hS.F ht⟩) hS.2.2 dX6_canLoseBehind_54
def wo_k_X6_canLoseBehind_v3 : List Cond := [.fieldLink RX6 110 "ReplicaChain" "now" "LReplicaChain$State;", .fieldLink RX6 176 "ReplicaChain$State" "copier" "I", .fieldLink RX6 157 "ReplicaChain$State" "size" "I"]
def wq_k_X6_canLoseBehind_v3 : List Cond := .code yX6_canLoseBehind cX6_canLoseBehind 3 (some .boolean) :: (wo_k_X6_canLoseBehind_v3 ++ (wsX50 ++ (wsX60 ++ [])))
theorem gd_k_X6_canLoseBehind_v3 : Gd wq_k_X6_canLoseBehind_v3 := gd_c (gd_a (gd_o (by decide +kernel)) (gd_a gd_u (gd_a gd_u gd_0)))
abbrev wc_k_X6_canLoseBehind_v3 (cyB cyI cyJ cyZ cyO : ClassId) (h0 : Nat) (ad : Nat → Nat) (sd : Nat → Nat) : va_W := [(h0, .inr (6, [.ref (ad 0), .int 0, .ref (ad 2), .ref (ad 3), .ref (ad 4), .ref (ad 5), .ref (ad 6), .int 0, .int 0, .ref (ad 9), .ref (ad 10), .ref (ad 11), .ref (ad 12), .ref (ad 13), .int 0, .ref (ad 15), .int 0, .ref (ad 17), .ref (ad 18), .int 0])), (ad 9, .inr (5, [.ref (sd 0), .ref (sd 1), .ref (sd 2), .ref (sd 3), .ref (sd 4), .ref (sd 5), .ref (sd 6), .int 0, .int (-1), .int 0, .int 0, .int 0, .int 0]))]
set_option maxHeartbeats 4000000 in
set_option maxRecDepth 100000 in
theorem k_X6_canLoseBehind_v3 (l : Launch) (dC : Nat → ClassId) (dI : Nat → Nat → Nat) (cyB cyI cyJ cyZ cyO : ClassId) (h0 : Nat) (ad : Nat → Nat) (sd : Nat → Nat) (sz : Nat) : Met l yX6_canLoseBehind wq_k_X6_canLoseBehind_v3 ({ frames := 0, cells := 0, slots := 0, locals := 0 }) (va_Pc [.ref h0, .int 3] (cB (dC, dI) (kT cyB cyI cyJ cyZ cyO) (wc_k_X6_canLoseBehind_v3 cyB cyI cyJ cyZ cyO h0 ad sd) sz)) (va_Qi (fun (r : Int32) _ => r = 0) (fun (u : Unit) t => cE (dC, dI) (va_A (wc_k_X6_canLoseBehind_v3 cyB cyI cyJ cyZ cyO h0 ad sd) sz) ([(h0, .inr (6, [.ref (ad 0), .int 0, .ref (ad 2), .ref (ad 3), .ref (ad 4), .ref (ad 5), .ref (ad 6), .int 0, .int 0, .ref (ad 9), .ref (ad 10), .ref (ad 11), .ref (ad 12), .ref (ad 13), .int 0, .ref (ad 15), .int 0, .ref (ad 17), .ref (ad 18), .int 0])), (ad 9, .inr (5, [.ref (sd 0), .ref (sd 1), .ref (sd 2), .ref (sd 3), .ref (sd 4), .ref (sd 5), .ref (sd 6), .int 0, .int (-1), .int 0, .int 0, .int 0, .int 0]))]) t.heap) (va_A (wc_k_X6_canLoseBehind_v3 cyB cyI cyJ cyZ cyO h0 ad sd) sz)) 0 0 (va_A (wc_k_X6_canLoseBehind_v3 cyB cyI cyJ cyZ cyO h0 ad sd) sz) := by
  refine Met.ofW (cc := cX6_canLoseBehind) (maxL := 3) (ret := (some .boolean)) (by decide) rfl ?_
  intro p e s m args below meth c s₁ B hml hv
  obtain ⟨rfl, hsz, hP, hKN, hD0⟩ := hv
  have hx := B.exec
  have hb := B.bytes
  have hr := B.returns
  have hts := atoms_spec (ws := wq_k_X6_canLoseBehind_v3) B.pre
  have hown : s.vm.findClass RX6 = some m.cls := findClass_of_methodNamed B.named
  have hlocks := B.notSynchronized
  have hK := hKN.1
  have hfix : CallFix p m c cX6_canLoseBehind 3 s [.ref h0, .int 3].toArray wq_k_X6_canLoseBehind_v3 RX6 := ⟨hx, hb, hml, hown, hts⟩
  have hi5 : ∀ w ∈ wsX50, w ∈ wq_k_X6_canLoseBehind_v3 := (sb_c sb_l)
  have hi6 : ∀ w ∈ wsX60, w ∈ wq_k_X6_canLoseBehind_v3 := (sb_c (sb_r sb_l))
  subst hsz
  have hD := hD0.self (sz := s.heap.size)
  generalize hAe : va_A (wc_k_X6_canLoseBehind_v3 cyB cyI cyJ cyZ cyO h0 ad sd) s.heap.size = A at hD ⊢
  have hA : ∀ q : Nat, s.heap.size ≤ q → A q := fun q h => by rw [← hAe]; exact Or.inr h
  have hS : va_S A s.heap s.heap [] := va_S.rf
  have hl := lv_entry ([.ref h0, .int 3]) (n := 3) (Nat.le_of_ble_eq_true rfl)
  rw [lg_entry_eq]
  generalize (lg_sl ([.ref h0, .int 3]) ++ List.replicate (3 - (lg_sl ([.ref h0, .int 3])).length) Slot.unset).toArray = ls at hl ⊢
  have hl : lv_has ls 3 [(0, .ref h0), (1, .int 3)] := hl
  refine lv_aload_n hx hb dX6_canLoseBehind_0 rfl (lv_at hl 0 rfl) ?_
  refine va_get (D := (dC, dI)) (ci := 6) (v := .ref (ad 9)) (C := RX6) (T := TX6) (N := 20) hx hb hts hi6 hown hK hP 0 rfl rfl 9 (by decide) (hts _ (ow_m (k := 0) rfl)) (fun _ h9 => h9) rfl dX6_canLoseBehind_1 ?_
  refine va_get (D := (dC, dI)) (ci := 5) (v := .int (-1)) (C := RX5) (T := TX5) (N := 13) hx hb hts hi5 hown hK hP 1 rfl rfl 8 (by decide) (hts _ (ow_m (k := 1) rfl)) (fun _ h9 => h9) rfl dX6_canLoseBehind_4 ?_
  refine lv_iconst (v := (-1)) hx hb dX6_canLoseBehind_7 (by decide) ?_
  refine lv_icmp_eq (tgt := 26) hx hb dX6_canLoseBehind_8 (by decide) (fun _ => ?_) (fun c1131 => absurd (by decide) c1131)
  refine lv_iconst (v := 0) hx hb dX6_canLoseBehind_26 (by decide) ?_
  refine lv_istore_n (lv' := [(2, .int 0), (0, .ref h0), (1, .int 3)]) hx hb dX6_canLoseBehind_27 rfl hl (by decide) rfl (fun ls hl => ?_)
  refine lv_aload_n hx hb dX6_canLoseBehind_28 rfl (lv_at hl 1 rfl) ?_
  refine va_get (D := (dC, dI)) (ci := 6) (v := .ref (ad 9)) (C := RX6) (T := TX6) (N := 20) hx hb hts hi6 hown hK hP 0 rfl rfl 9 (by decide) (hts _ (ow_m (k := 0) rfl)) (fun _ h9 => h9) rfl dX6_canLoseBehind_29 ?_
  refine va_get (D := (dC, dI)) (ci := 5) (v := .int 0) (C := RX5) (T := TX5) (N := 13) hx hb hts hi5 hown hK hP 1 rfl rfl 7 (by decide) (hts _ (ow_m (k := 2) rfl)) (fun _ h9 => h9) rfl dX6_canLoseBehind_32 ?_
  refine lv_iload_n hx hb dX6_canLoseBehind_35 rfl (lv_at hl 0 rfl) ?_
  refine lv_if_eq (tgt := 43) hx hb dX6_canLoseBehind_36 (by decide) (fun _ => ?_) (fun c1132 => absurd (by decide) c1132)
  refine lv_iconst (v := 0) hx hb dX6_canLoseBehind_43 (by decide) ?_
  refine lv_iadd hx hb dX6_canLoseBehind_44 ?_
  refine tp_c (w := 0) (by decide) ?_
  refine lv_iconst (v := 2) hx hb dX6_canLoseBehind_45 (by decide) ?_
  refine lv_icmp_lt (tgt := 53) hx hb dX6_canLoseBehind_46 (by decide) (fun _ => ?_) (fun c1133 => absurd (by decide) c1133)
  refine lv_iconst (v := 0) hx hb dX6_canLoseBehind_53 (by decide) ?_
  exact W.zret (v := 0) hx hb hr (by decide) (fun t ht hW => ⟨⟨0, (), rfl, rfl, cE.of ht hP hD [0, 1] (by decide) rfl⟩, hS.F ht⟩) hS.2.2 dX6_canLoseBehind_54
def wo_k_X6_canLoseBehind_v4 : List Cond := [.fieldLink RX6 110 "ReplicaChain" "now" "LReplicaChain$State;", .fieldLink RX6 176 "ReplicaChain$State" "copier" "I", .fieldLink RX6 157 "ReplicaChain$State" "size" "I"]
def wq_k_X6_canLoseBehind_v4 : List Cond := .code yX6_canLoseBehind cX6_canLoseBehind 3 (some .boolean) :: (wo_k_X6_canLoseBehind_v4 ++ (wsX50 ++ (wsX60 ++ [])))
theorem gd_k_X6_canLoseBehind_v4 : Gd wq_k_X6_canLoseBehind_v4 := gd_c (gd_a (gd_o (by decide +kernel)) (gd_a gd_u (gd_a gd_u gd_0)))
abbrev wc_k_X6_canLoseBehind_v4 (cyB cyI cyJ cyZ cyO : ClassId) (h0 : Nat) (ad : Nat → Nat) (sd : Nat → Nat) : va_W := [(h0, .inr (6, [.ref (ad 0), .int 0, .ref (ad 2), .ref (ad 3), .ref (ad 4), .ref (ad 5), .ref (ad 6), .int 0, .int 0, .ref (ad 9), .ref (ad 10), .ref (ad 11), .ref (ad 12), .ref (ad 13), .int 0, .ref (ad 15), .int 0, .ref (ad 17), .ref (ad 18), .int 0])), (ad 9, .inr (5, [.ref (sd 0), .ref (sd 1), .ref (sd 2), .ref (sd 3), .ref (sd 4), .ref (sd 5), .ref (sd 6), .int 0, .int (-1), .int 0, .int 0, .int 0, .int 0]))]
set_option maxHeartbeats 4000000 in
set_option maxRecDepth 100000 in
theorem k_X6_canLoseBehind_v4 (l : Launch) (dC : Nat → ClassId) (dI : Nat → Nat → Nat) (cyB cyI cyJ cyZ cyO : ClassId) (h0 : Nat) (ad : Nat → Nat) (sd : Nat → Nat) (sz : Nat) : Met l yX6_canLoseBehind wq_k_X6_canLoseBehind_v4 ({ frames := 0, cells := 0, slots := 0, locals := 0 }) (va_Pc [.ref h0, .int 4] (cB (dC, dI) (kT cyB cyI cyJ cyZ cyO) (wc_k_X6_canLoseBehind_v4 cyB cyI cyJ cyZ cyO h0 ad sd) sz)) (va_Qi (fun (r : Int32) _ => r = 0) (fun (u : Unit) t => cE (dC, dI) (va_A (wc_k_X6_canLoseBehind_v4 cyB cyI cyJ cyZ cyO h0 ad sd) sz) ([(h0, .inr (6, [.ref (ad 0), .int 0, .ref (ad 2), .ref (ad 3), .ref (ad 4), .ref (ad 5), .ref (ad 6), .int 0, .int 0, .ref (ad 9), .ref (ad 10), .ref (ad 11), .ref (ad 12), .ref (ad 13), .int 0, .ref (ad 15), .int 0, .ref (ad 17), .ref (ad 18), .int 0])), (ad 9, .inr (5, [.ref (sd 0), .ref (sd 1), .ref (sd 2), .ref (sd 3), .ref (sd 4), .ref (sd 5), .ref (sd 6), .int 0, .int (-1), .int 0, .int 0, .int 0, .int 0]))]) t.heap) (va_A (wc_k_X6_canLoseBehind_v4 cyB cyI cyJ cyZ cyO h0 ad sd) sz)) 0 0 (va_A (wc_k_X6_canLoseBehind_v4 cyB cyI cyJ cyZ cyO h0 ad sd) sz) := by
  refine Met.ofW (cc := cX6_canLoseBehind) (maxL := 3) (ret := (some .boolean)) (by decide) rfl ?_
  intro p e s m args below meth c s₁ B hml hv
  obtain ⟨rfl, hsz, hP, hKN, hD0⟩ := hv
  have hx := B.exec
  have hb := B.bytes
  have hr := B.returns
  have hts := atoms_spec (ws := wq_k_X6_canLoseBehind_v4) B.pre
  have hown : s.vm.findClass RX6 = some m.cls := findClass_of_methodNamed B.named
  have hlocks := B.notSynchronized
  have hK := hKN.1
  have hfix : CallFix p m c cX6_canLoseBehind 3 s [.ref h0, .int 4].toArray wq_k_X6_canLoseBehind_v4 RX6 := ⟨hx, hb, hml, hown, hts⟩
  have hi5 : ∀ w ∈ wsX50, w ∈ wq_k_X6_canLoseBehind_v4 := (sb_c sb_l)
  have hi6 : ∀ w ∈ wsX60, w ∈ wq_k_X6_canLoseBehind_v4 := (sb_c (sb_r sb_l))
  subst hsz
  have hD := hD0.self (sz := s.heap.size)
  generalize hAe : va_A (wc_k_X6_canLoseBehind_v4 cyB cyI cyJ cyZ cyO h0 ad sd) s.heap.size = A at hD ⊢
  have hA : ∀ q : Nat, s.heap.size ≤ q → A q := fun q h => by rw [← hAe]; exact Or.inr h
  have hS : va_S A s.heap s.heap [] := va_S.rf
  have hl := lv_entry ([.ref h0, .int 4]) (n := 3) (Nat.le_of_ble_eq_true rfl)
  rw [lg_entry_eq]
  generalize (lg_sl ([.ref h0, .int 4]) ++ List.replicate (3 - (lg_sl ([.ref h0, .int 4])).length) Slot.unset).toArray = ls at hl ⊢
  have hl : lv_has ls 3 [(0, .ref h0), (1, .int 4)] := hl
  refine lv_aload_n hx hb dX6_canLoseBehind_0 rfl (lv_at hl 0 rfl) ?_
  refine va_get (D := (dC, dI)) (ci := 6) (v := .ref (ad 9)) (C := RX6) (T := TX6) (N := 20) hx hb hts hi6 hown hK hP 0 rfl rfl 9 (by decide) (hts _ (ow_m (k := 0) rfl)) (fun _ h9 => h9) rfl dX6_canLoseBehind_1 ?_
  refine va_get (D := (dC, dI)) (ci := 5) (v := .int (-1)) (C := RX5) (T := TX5) (N := 13) hx hb hts hi5 hown hK hP 1 rfl rfl 8 (by decide) (hts _ (ow_m (k := 1) rfl)) (fun _ h9 => h9) rfl dX6_canLoseBehind_4 ?_
  refine lv_iconst (v := (-1)) hx hb dX6_canLoseBehind_7 (by decide) ?_
  refine lv_icmp_eq (tgt := 26) hx hb dX6_canLoseBehind_8 (by decide) (fun _ => ?_) (fun c1149 => absurd (by decide) c1149)
  refine lv_iconst (v := 0) hx hb dX6_canLoseBehind_26 (by decide) ?_
  refine lv_istore_n (lv' := [(2, .int 0), (0, .ref h0), (1, .int 4)]) hx hb dX6_canLoseBehind_27 rfl hl (by decide) rfl (fun ls hl => ?_)
  refine lv_aload_n hx hb dX6_canLoseBehind_28 rfl (lv_at hl 1 rfl) ?_
  refine va_get (D := (dC, dI)) (ci := 6) (v := .ref (ad 9)) (C := RX6) (T := TX6) (N := 20) hx hb hts hi6 hown hK hP 0 rfl rfl 9 (by decide) (hts _ (ow_m (k := 0) rfl)) (fun _ h9 => h9) rfl dX6_canLoseBehind_29 ?_
  refine va_get (D := (dC, dI)) (ci := 5) (v := .int 0) (C := RX5) (T := TX5) (N := 13) hx hb hts hi5 hown hK hP 1 rfl rfl 7 (by decide) (hts _ (ow_m (k := 2) rfl)) (fun _ h9 => h9) rfl dX6_canLoseBehind_32 ?_
  refine lv_iload_n hx hb dX6_canLoseBehind_35 rfl (lv_at hl 0 rfl) ?_
  refine lv_if_eq (tgt := 43) hx hb dX6_canLoseBehind_36 (by decide) (fun _ => ?_) (fun c1150 => absurd (by decide) c1150)
  refine lv_iconst (v := 0) hx hb dX6_canLoseBehind_43 (by decide) ?_
  refine lv_iadd hx hb dX6_canLoseBehind_44 ?_
  refine tp_c (w := 0) (by decide) ?_
  refine lv_iconst (v := 2) hx hb dX6_canLoseBehind_45 (by decide) ?_
  refine lv_icmp_lt (tgt := 53) hx hb dX6_canLoseBehind_46 (by decide) (fun _ => ?_) (fun c1151 => absurd (by decide) c1151)
  refine lv_iconst (v := 0) hx hb dX6_canLoseBehind_53 (by decide) ?_
  exact W.zret (v := 0) hx hb hr (by decide) (fun t ht hW => ⟨⟨0, (), rfl, rfl, cE.of ht hP hD [0, 1] (by decide) rfl⟩, hS.F ht⟩) hS.2.2 dX6_canLoseBehind_54
def wo_c_C_odds : List Cond := [.methodLink RX6 314 yX6_commonDivisor, .static yX6_commonDivisor, .initialized RX6, .methodLink RX6 308 yX6_canLoseBehind, .instanceMethod yX6_canLoseBehind, .selects RX6 yX6_canLoseBehind yX6_canLoseBehind]
def wq_c_C_odds : List Cond := .code yX6_odds cX6_odds 6 (some .int) :: (wo_c_C_odds ++ (wq_k_X6_commonDivisor ++ (wq_k_X6_canLoseBehind ++ (wq_k_X6_canLoseBehind_v2 ++ (wq_k_X6_canLoseBehind_v3 ++ (wq_k_X6_canLoseBehind_v4 ++ []))))))
theorem gd_c_C_odds : Gd wq_c_C_odds := gd_c (gd_a (gd_o (by decide +kernel)) (gd_a gd_k_X6_commonDivisor (gd_a gd_k_X6_canLoseBehind (gd_a gd_k_X6_canLoseBehind_v2 (gd_a gd_k_X6_canLoseBehind_v3 (gd_a gd_k_X6_canLoseBehind_v4 gd_0))))))
abbrev wc_c_C_odds (cyB cyI cyJ cyZ cyO : ClassId) (h0 : Nat) (ad : Nat → Nat) (sd : Nat → Nat) (x1 : Int32) (x2 : Int32) : va_W := [(h0, .inr (6, [.ref (ad 0), .int 0, .ref (ad 2), .ref (ad 3), .ref (ad 4), .ref (ad 5), .ref (ad 6), .int 0, .int 0, .ref (ad 9), .ref (ad 10), .ref (ad 11), .ref (ad 12), .ref (ad 13), .int 0, .ref (ad 15), .int 0, .ref (ad 17), .ref (ad 18), .int 0])), (ad 9, .inr (5, [.ref (sd 0), .ref (sd 1), .ref (sd 2), .ref (sd 3), .ref (sd 4), .ref (sd 5), .ref (sd 6), .int 0, .int (-1), .int 0, .int 0, .int 0, .int 0]))]
set_option maxHeartbeats 4000000 in
set_option maxRecDepth 100000 in
theorem c_C_odds (l : Launch) (dC : Nat → ClassId) (dI : Nat → Nat → Nat) (cyB cyI cyJ cyZ cyO : ClassId) (h0 : Nat) (ad : Nat → Nat) (sd : Nat → Nat) (x1 : Int32) (x2 : Int32) (sz : Nat) : Met l yX6_odds wq_c_C_odds ({ frames := 1, cells := 0, slots := 0, locals := 25 }) (va_Pc [.ref h0, .int x1, .int x2] (cB (dC, dI) (kT cyB cyI cyJ cyZ cyO) (wc_c_C_odds cyB cyI cyJ cyZ cyO h0 ad sd x1 x2) sz)) (va_Qi (fun (r : Int32) (_ : Unit) => r = sp_odds x1 x2) (fun (u : Unit) t => cE (dC, dI) (va_A (wc_c_C_odds cyB cyI cyJ cyZ cyO h0 ad sd x1 x2) sz) ([]) t.heap) (va_A (wc_c_C_odds cyB cyI cyJ cyZ cyO h0 ad sd x1 x2) sz)) 0 0 (va_A (wc_c_C_odds cyB cyI cyJ cyZ cyO h0 ad sd x1 x2) sz) := by
  refine Met.ofW (cc := cX6_odds) (maxL := 6) (ret := (some .int)) (by decide) rfl ?_
  intro p e s m args below meth c s₁ B hml hv
  obtain ⟨rfl, hsz, hP, hKN, hD0⟩ := hv
  have hx := B.exec
  have hb := B.bytes
  have hr := B.returns
  have hts := atoms_spec (ws := wq_c_C_odds) B.pre
  have hown : s.vm.findClass RX6 = some m.cls := findClass_of_methodNamed B.named
  have hlocks := B.notSynchronized
  have hK := hKN.1
  have hfix : CallFix p m c cX6_odds 6 s [.ref h0, .int x1, .int x2].toArray wq_c_C_odds RX6 := ⟨hx, hb, hml, hown, hts⟩
  subst hsz
  have hD := hD0.self (sz := s.heap.size)
  generalize hAe : va_A (wc_c_C_odds cyB cyI cyJ cyZ cyO h0 ad sd x1 x2) s.heap.size = A at hD ⊢
  have hA : ∀ q : Nat, s.heap.size ≤ q → A q := fun q h => by rw [← hAe]; exact Or.inr h
  have hS : va_S A s.heap s.heap [] := va_S.rf
  have hl := lv_entry ([.ref h0, .int x1, .int x2]) (n := 6) (Nat.le_of_ble_eq_true rfl)
  rw [lg_entry_eq]
  generalize (lg_sl ([.ref h0, .int x1, .int x2]) ++ List.replicate (6 - (lg_sl ([.ref h0, .int x1, .int x2])).length) Slot.unset).toArray = ls at hl ⊢
  have hl : lv_has ls 6 [(0, .ref h0), (1, .int x1), (2, .int x2)] := hl
  refine lv_iload_n hx hb dX6_odds_0 rfl (lv_at hl 1 rfl) ?_
  refine lv_if_lt (tgt := 18) hx hb dX6_odds_1 (by decide) (fun c1164 => ?_) (fun c1164 => ?_)
  · have c1164 := i_lt (a := x1.toInt) (b := 0) c1164 rfl (by decide)
    refine lv_iconst (v := (-1)) hx hb dX6_odds_18 (by decide) ?_
    exact W.iret (v := (-1)) hx hb hr (fun t ht hW => ⟨⟨(-1), (), rfl, (by first | decide | (unfold sp_odds; (repeat' split) <;> first | rfl | omega)), cE.nil⟩, hS.F ht⟩) hS.2.2 dX6_odds_19
  · have c1164 := i_nlt (a := x1.toInt) (b := 0) c1164 rfl (by decide)
    refine lv_iload_n hx hb dX6_odds_4 rfl (lv_at hl 1 rfl) ?_
    refine lv_iconst (v := 4) hx hb dX6_odds_5 (by decide) ?_
    refine lv_icmp_gt (tgt := 18) hx hb dX6_odds_6 (by decide) (fun c1165 => ?_) (fun c1165 => ?_)
    · have c1165 := i_lt (a := 4) (b := x1.toInt) c1165 (by decide) rfl
      refine lv_iconst (v := (-1)) hx hb dX6_odds_18 (by decide) ?_
      exact W.iret (v := (-1)) hx hb hr (fun t ht hW => ⟨⟨(-1), (), rfl, (by first | decide | (unfold sp_odds; (repeat' split) <;> first | rfl | omega)), cE.nil⟩, hS.F ht⟩) hS.2.2 dX6_odds_19
    · have c1165 := i_nlt (a := 4) (b := x1.toInt) c1165 (by decide) rfl
      refine lv_iload_n hx hb dX6_odds_9 rfl (lv_at hl 2 rfl) ?_
      refine lv_if_lt (tgt := 18) hx hb dX6_odds_10 (by decide) (fun c1166 => ?_) (fun c1166 => ?_)
      · have c1166 := i_lt (a := x2.toInt) (b := 0) c1166 rfl (by decide)
        refine lv_iconst (v := (-1)) hx hb dX6_odds_18 (by decide) ?_
        exact W.iret (v := (-1)) hx hb hr (fun t ht hW => ⟨⟨(-1), (), rfl, (by first | decide | (unfold sp_odds; (repeat' split) <;> first | rfl | omega)), cE.nil⟩, hS.F ht⟩) hS.2.2 dX6_odds_19
      · have c1166 := i_nlt (a := x2.toInt) (b := 0) c1166 rfl (by decide)
        refine lv_iload_n hx hb dX6_odds_13 rfl (lv_at hl 2 rfl) ?_
        refine lv_iconst (v := 1) hx hb dX6_odds_14 (by decide) ?_
        refine lv_icmp_le (tgt := 20) hx hb dX6_odds_15 (by decide) (fun c1167 => ?_) (fun c1167 => ?_)
        · have c1167 := i_le (a := x2.toInt) (b := 1) c1167 rfl (by decide)
          refine lv_iconst (v := 1) hx hb dX6_odds_20 (by decide) ?_
          refine lv_istore_n (lv' := [(3, .int 1), (0, .ref h0), (1, .int x1), (2, .int x2)]) hx hb dX6_odds_21 rfl hl (by decide) rfl (fun ls hl => ?_)
          refine lv_iconst (v := 1) hx hb dX6_odds_22 (by decide) ?_
          refine lv_istore (lv' := [(4, .int 1), (3, .int 1), (0, .ref h0), (1, .int x1), (2, .int x2)]) hx hb dX6_odds_23 hl (by decide) rfl (fun ls hl => ?_)
          refine lv_iconst (v := 1) hx hb dX6_odds_25 (by decide) ?_
          refine lv_istore (lv' := [(5, .int 1), (4, .int 1), (3, .int 1), (0, .ref h0), (1, .int x1), (2, .int x2)]) hx hb dX6_odds_26 hl (by decide) rfl (fun ls hl => ?_)
          refine lv_iload hx hb dX6_odds_28 (lv_at hl 0 rfl) ?_
          refine lv_iload_n hx hb dX6_odds_30 rfl (lv_at hl 4 rfl) ?_
          refine lv_icmp_gt (tgt := 69) hx hb dX6_odds_31 (by decide) (fun c1168 => ?_) (fun c1168 => ?_)
          · have c1168 := i_lt (a := x1.toInt) (b := 1) c1168 rfl (by decide)
            refine lv_iload hx hb dX6_odds_69 (lv_at hl 1 rfl) ?_
            refine lv_iload_n hx hb dX6_odds_71 rfl (lv_at hl 2 rfl) ?_
            refine gf_i (wr := [(h0, .inr (6, [.ref (ad 0), .int 0, .ref (ad 2), .ref (ad 3), .ref (ad 4), .ref (ad 5), .ref (ad 6), .int 0, .int 0, .ref (ad 9), .ref (ad 10), .ref (ad 11), .ref (ad 12), .ref (ad 13), .int 0, .ref (ad 15), .int 0, .ref (ad 17), .ref (ad 18), .int 0])), (ad 9, .inr (5, [.ref (sd 0), .ref (sd 1), .ref (sd 2), .ref (sd 3), .ref (sd 4), .ref (sd 5), .ref (sd 6), .int 0, .int (-1), .int 0, .int 0, .int 0, .int 0]))]) (va_runS (As := [.int 1, .int 1]) (rest := []) hfix (k_X6_commonDivisor l dC dI cyB cyI cyJ cyZ cyO _) (va_cwS 2 hts (gi_S (ow_m (k := 0) rfl) (ow_m (k := 1) rfl) (ow_m (k := 2) rfl) (sb_c sb_l) gd_k_X6_commonDivisor) rfl rfl rfl (by decide +kernel) ⟨Nat.le_of_ble_eq_true rfl, Nat.le_of_ble_eq_true rfl⟩) (g_preS hKN hP hD [] rfl (by decide)) rfl rfl hl.1 rfl (lv_room (Nat.le_of_ble_eq_true rfl)) dX6_odds_72 ⟨Nat.le_of_ble_eq_true rfl, Nat.le_of_ble_eq_true rfl⟩) hP hD hS hA [] [0, 1] rfl rfl (by decide) (by decide) (fun r1173 u1174 H locs qu1174 hP hD hS => ?_)
            have hP : va_P (dC, dI) vwCl [(h0, .inr (6, [.ref (ad 0), .int 0, .ref (ad 2), .ref (ad 3), .ref (ad 4), .ref (ad 5), .ref (ad 6), .int 0, .int 0, .ref (ad 9), .ref (ad 10), .ref (ad 11), .ref (ad 12), .ref (ad 13), .int 0, .ref (ad 15), .int 0, .ref (ad 17), .ref (ad 18), .int 0])), (ad 9, .inr (5, [.ref (sd 0), .ref (sd 1), .ref (sd 2), .ref (sd 3), .ref (sd 4), .ref (sd 5), .ref (sd 6), .int 0, .int (-1), .int 0, .int 0, .int 0, .int 0]))] H := hP
            have hD : va_D A [(h0, .inr (6, [.ref (ad 0), .int 0, .ref (ad 2), .ref (ad 3), .ref (ad 4), .ref (ad 5), .ref (ad 6), .int 0, .int 0, .ref (ad 9), .ref (ad 10), .ref (ad 11), .ref (ad 12), .ref (ad 13), .int 0, .ref (ad 15), .int 0, .ref (ad 17), .ref (ad 18), .int 0])), (ad 9, .inr (5, [.ref (sd 0), .ref (sd 1), .ref (sd 2), .ref (sd 3), .ref (sd 4), .ref (sd 5), .ref (sd 6), .int 0, .int (-1), .int 0, .int 0, .int 0, .int 0]))] := hD
            refine tp_c (w := 1) qu1174 ?_
            refine lv_istore (lv' := [(5, .int 1), (4, .int 1), (3, .int 1), (0, .ref h0), (1, .int x1), (2, .int x2)]) hx hb dX6_odds_75 hl (by decide) rfl (fun ls hl => ?_)
            refine lv_iload hx hb dX6_odds_77 (lv_at hl 0 rfl) ?_
            refine lv_if_ne (tgt := 84) hx hb dX6_odds_79 (by decide) (fun _ => ?_) (fun c1175 => absurd c1175 (by decide))
            refine lv_iload_n hx hb dX6_odds_84 rfl (lv_at hl 5 rfl) ?_
            refine lv_if_ne (tgt := 95) hx hb dX6_odds_85 (by decide) (fun c1176 => ?_) (fun c1176 => ?_)
            · have c1176 := i_ne (a := x2.toInt) (b := 0) c1176 rfl (by decide)
              refine lv_iload hx hb dX6_odds_95 (lv_at hl 1 rfl) ?_
              refine lv_iload hx hb dX6_odds_97 (lv_at hl 0 rfl) ?_
              refine lv_idiv hx hb dX6_odds_99 (by decide) ?_
              refine tp_c (w := 1) (by decide) ?_
              exact W.iret (v := 1) hx hb hr (fun t ht hW => ⟨⟨1, (), rfl, (by first | decide | (unfold sp_odds; (repeat' split) <;> first | rfl | omega)), cE.nil⟩, hS.F ht⟩) hS.2.2 dX6_odds_100
            · have c1176 := i_eq (a := x2.toInt) (b := 0) c1176 rfl (by decide)
              refine lv_iload_n hx hb dX6_odds_88 rfl (lv_at hl 2 rfl) ?_
              refine lv_iload hx hb dX6_odds_89 (lv_at hl 0 rfl) ?_
              refine lv_idiv hx hb dX6_odds_91 (by decide) ?_
              refine tp_c (w := 1) (by decide) ?_
              refine lv_goto (tgt := 100) hx hb dX6_odds_92 (by decide) ?_
              exact W.iret (v := 1) hx hb hr (fun t ht hW => ⟨⟨1, (), rfl, (by first | decide | (unfold sp_odds; (repeat' split) <;> first | rfl | omega)), cE.nil⟩, hS.F ht⟩) hS.2.2 dX6_odds_100
          · have c1168 := i_nlt (a := x1.toInt) (b := 1) c1168 rfl (by decide)
            refine lv_aload_n hx hb dX6_odds_34 rfl (lv_at hl 3 rfl) ?_
            refine lv_iload hx hb dX6_odds_35 (lv_at hl 0 rfl) ?_
            refine gf_i (wr := []) (va_runV (As := [.int 1]) (rest := []) hfix (k_X6_canLoseBehind l dC dI cyB cyI cyJ cyZ cyO h0 ad sd _) (cwV 1 hts (gi_V (ow_m (k := 3) rfl) (ow_m (k := 4) rfl) (ow_m (k := 5) rfl) (ow_m (k := 2) rfl) (sb_c (sb_r sb_l)) gd_k_X6_canLoseBehind) rfl rfl rfl (by decide +kernel) ⟨Nat.le_of_ble_eq_true rfl, Nat.le_of_ble_eq_true rfl⟩) (g_preV hKN hP hD [0, 1] rfl (by decide) 0 6 rfl rfl) rfl rfl hl.1 rfl (lv_room (Nat.le_of_ble_eq_true rfl)) dX6_odds_37 ⟨Nat.le_of_ble_eq_true rfl, Nat.le_of_ble_eq_true rfl⟩) hP hD hS hA [0, 1] [] rfl rfl (by decide) (by decide) (fun r1180 u1181 H locs qu1181 hP hD hS => ?_)
            have hP : va_P (dC, dI) vwCl [(h0, .inr (6, [.ref (ad 0), .int 0, .ref (ad 2), .ref (ad 3), .ref (ad 4), .ref (ad 5), .ref (ad 6), .int 0, .int 0, .ref (ad 9), .ref (ad 10), .ref (ad 11), .ref (ad 12), .ref (ad 13), .int 0, .ref (ad 15), .int 0, .ref (ad 17), .ref (ad 18), .int 0])), (ad 9, .inr (5, [.ref (sd 0), .ref (sd 1), .ref (sd 2), .ref (sd 3), .ref (sd 4), .ref (sd 5), .ref (sd 6), .int 0, .int (-1), .int 0, .int 0, .int 0, .int 0]))] H := hP
            have hD : va_D A [(h0, .inr (6, [.ref (ad 0), .int 0, .ref (ad 2), .ref (ad 3), .ref (ad 4), .ref (ad 5), .ref (ad 6), .int 0, .int 0, .ref (ad 9), .ref (ad 10), .ref (ad 11), .ref (ad 12), .ref (ad 13), .int 0, .ref (ad 15), .int 0, .ref (ad 17), .ref (ad 18), .int 0])), (ad 9, .inr (5, [.ref (sd 0), .ref (sd 1), .ref (sd 2), .ref (sd 3), .ref (sd 4), .ref (sd 5), .ref (sd 6), .int 0, .int (-1), .int 0, .int 0, .int 0, .int 0]))] := hD
            refine tp_c (w := 0) qu1181 ?_
            refine lv_if_eq (tgt := 63) hx hb dX6_odds_40 (by decide) (fun _ => ?_) (fun c1182 => absurd (by decide) c1182)
            refine lv_iinc (v := 2) (lv' := [(5, .int 2), (4, .int 1), (3, .int 1), (0, .ref h0), (1, .int x1), (2, .int x2)]) hx hb dX6_odds_63 hl (k := 0) rfl (by decide) (by decide) rfl (fun ls hl => ?_)
            refine lv_goto (tgt := 28) hx hb dX6_odds_66 (by decide) ?_
            refine lv_iload hx hb dX6_odds_28 (lv_at hl 0 rfl) ?_
            refine lv_iload_n hx hb dX6_odds_30 rfl (lv_at hl 4 rfl) ?_
            refine lv_icmp_gt (tgt := 69) hx hb dX6_odds_31 (by decide) (fun c1183 => ?_) (fun c1183 => ?_)
            · have c1183 := i_lt (a := x1.toInt) (b := 2) c1183 rfl (by decide)
              refine lv_iload hx hb dX6_odds_69 (lv_at hl 1 rfl) ?_
              refine lv_iload_n hx hb dX6_odds_71 rfl (lv_at hl 2 rfl) ?_
              refine gf_i (wr := [(h0, .inr (6, [.ref (ad 0), .int 0, .ref (ad 2), .ref (ad 3), .ref (ad 4), .ref (ad 5), .ref (ad 6), .int 0, .int 0, .ref (ad 9), .ref (ad 10), .ref (ad 11), .ref (ad 12), .ref (ad 13), .int 0, .ref (ad 15), .int 0, .ref (ad 17), .ref (ad 18), .int 0])), (ad 9, .inr (5, [.ref (sd 0), .ref (sd 1), .ref (sd 2), .ref (sd 3), .ref (sd 4), .ref (sd 5), .ref (sd 6), .int 0, .int (-1), .int 0, .int 0, .int 0, .int 0]))]) (va_runS (As := [.int 1, .int 1]) (rest := []) hfix (k_X6_commonDivisor l dC dI cyB cyI cyJ cyZ cyO _) (va_cwS 2 hts (gi_S (ow_m (k := 0) rfl) (ow_m (k := 1) rfl) (ow_m (k := 2) rfl) (sb_c sb_l) gd_k_X6_commonDivisor) rfl rfl rfl (by decide +kernel) ⟨Nat.le_of_ble_eq_true rfl, Nat.le_of_ble_eq_true rfl⟩) (g_preS hKN hP hD [] rfl (by decide)) rfl rfl hl.1 rfl (lv_room (Nat.le_of_ble_eq_true rfl)) dX6_odds_72 ⟨Nat.le_of_ble_eq_true rfl, Nat.le_of_ble_eq_true rfl⟩) hP hD hS hA [] [0, 1] rfl rfl (by decide) (by decide) (fun r1188 u1189 H locs qu1189 hP hD hS => ?_)
              have hP : va_P (dC, dI) vwCl [(h0, .inr (6, [.ref (ad 0), .int 0, .ref (ad 2), .ref (ad 3), .ref (ad 4), .ref (ad 5), .ref (ad 6), .int 0, .int 0, .ref (ad 9), .ref (ad 10), .ref (ad 11), .ref (ad 12), .ref (ad 13), .int 0, .ref (ad 15), .int 0, .ref (ad 17), .ref (ad 18), .int 0])), (ad 9, .inr (5, [.ref (sd 0), .ref (sd 1), .ref (sd 2), .ref (sd 3), .ref (sd 4), .ref (sd 5), .ref (sd 6), .int 0, .int (-1), .int 0, .int 0, .int 0, .int 0]))] H := hP
              have hD : va_D A [(h0, .inr (6, [.ref (ad 0), .int 0, .ref (ad 2), .ref (ad 3), .ref (ad 4), .ref (ad 5), .ref (ad 6), .int 0, .int 0, .ref (ad 9), .ref (ad 10), .ref (ad 11), .ref (ad 12), .ref (ad 13), .int 0, .ref (ad 15), .int 0, .ref (ad 17), .ref (ad 18), .int 0])), (ad 9, .inr (5, [.ref (sd 0), .ref (sd 1), .ref (sd 2), .ref (sd 3), .ref (sd 4), .ref (sd 5), .ref (sd 6), .int 0, .int (-1), .int 0, .int 0, .int 0, .int 0]))] := hD
              refine tp_c (w := 1) qu1189 ?_
              refine lv_istore (lv' := [(5, .int 1), (4, .int 1), (3, .int 1), (0, .ref h0), (1, .int x1), (2, .int x2)]) hx hb dX6_odds_75 hl (by decide) rfl (fun ls hl => ?_)
              refine lv_iload hx hb dX6_odds_77 (lv_at hl 0 rfl) ?_
              refine lv_if_ne (tgt := 84) hx hb dX6_odds_79 (by decide) (fun _ => ?_) (fun c1190 => absurd c1190 (by decide))
              refine lv_iload_n hx hb dX6_odds_84 rfl (lv_at hl 5 rfl) ?_
              refine lv_if_ne (tgt := 95) hx hb dX6_odds_85 (by decide) (fun c1191 => ?_) (fun c1191 => ?_)
              · have c1191 := i_ne (a := x2.toInt) (b := 0) c1191 rfl (by decide)
                refine lv_iload hx hb dX6_odds_95 (lv_at hl 1 rfl) ?_
                refine lv_iload hx hb dX6_odds_97 (lv_at hl 0 rfl) ?_
                refine lv_idiv hx hb dX6_odds_99 (by decide) ?_
                refine tp_c (w := 1) (by decide) ?_
                exact W.iret (v := 1) hx hb hr (fun t ht hW => ⟨⟨1, (), rfl, (by first | decide | (unfold sp_odds; (repeat' split) <;> first | rfl | omega)), cE.nil⟩, hS.F ht⟩) hS.2.2 dX6_odds_100
              · have c1191 := i_eq (a := x2.toInt) (b := 0) c1191 rfl (by decide)
                refine lv_iload_n hx hb dX6_odds_88 rfl (lv_at hl 2 rfl) ?_
                refine lv_iload hx hb dX6_odds_89 (lv_at hl 0 rfl) ?_
                refine lv_idiv hx hb dX6_odds_91 (by decide) ?_
                refine tp_c (w := 1) (by decide) ?_
                refine lv_goto (tgt := 100) hx hb dX6_odds_92 (by decide) ?_
                exact W.iret (v := 1) hx hb hr (fun t ht hW => ⟨⟨1, (), rfl, (by first | decide | (unfold sp_odds; (repeat' split) <;> first | rfl | omega)), cE.nil⟩, hS.F ht⟩) hS.2.2 dX6_odds_100
            · have c1183 := i_nlt (a := x1.toInt) (b := 2) c1183 rfl (by decide)
              refine lv_aload_n hx hb dX6_odds_34 rfl (lv_at hl 3 rfl) ?_
              refine lv_iload hx hb dX6_odds_35 (lv_at hl 0 rfl) ?_
              refine gf_i (wr := []) (va_runV (As := [.int 2]) (rest := []) hfix (k_X6_canLoseBehind_v2 l dC dI cyB cyI cyJ cyZ cyO h0 ad sd _) (cwV 1 hts (gi_V (ow_m (k := 3) rfl) (ow_m (k := 4) rfl) (ow_m (k := 5) rfl) (ow_m (k := 2) rfl) (sb_c (sb_r (sb_r sb_l))) gd_k_X6_canLoseBehind_v2) rfl rfl rfl (by decide +kernel) ⟨Nat.le_of_ble_eq_true rfl, Nat.le_of_ble_eq_true rfl⟩) (g_preV hKN hP hD [0, 1] rfl (by decide) 0 6 rfl rfl) rfl rfl hl.1 rfl (lv_room (Nat.le_of_ble_eq_true rfl)) dX6_odds_37 ⟨Nat.le_of_ble_eq_true rfl, Nat.le_of_ble_eq_true rfl⟩) hP hD hS hA [0, 1] [] rfl rfl (by decide) (by decide) (fun r1195 u1196 H locs qu1196 hP hD hS => ?_)
              have hP : va_P (dC, dI) vwCl [(h0, .inr (6, [.ref (ad 0), .int 0, .ref (ad 2), .ref (ad 3), .ref (ad 4), .ref (ad 5), .ref (ad 6), .int 0, .int 0, .ref (ad 9), .ref (ad 10), .ref (ad 11), .ref (ad 12), .ref (ad 13), .int 0, .ref (ad 15), .int 0, .ref (ad 17), .ref (ad 18), .int 0])), (ad 9, .inr (5, [.ref (sd 0), .ref (sd 1), .ref (sd 2), .ref (sd 3), .ref (sd 4), .ref (sd 5), .ref (sd 6), .int 0, .int (-1), .int 0, .int 0, .int 0, .int 0]))] H := hP
              have hD : va_D A [(h0, .inr (6, [.ref (ad 0), .int 0, .ref (ad 2), .ref (ad 3), .ref (ad 4), .ref (ad 5), .ref (ad 6), .int 0, .int 0, .ref (ad 9), .ref (ad 10), .ref (ad 11), .ref (ad 12), .ref (ad 13), .int 0, .ref (ad 15), .int 0, .ref (ad 17), .ref (ad 18), .int 0])), (ad 9, .inr (5, [.ref (sd 0), .ref (sd 1), .ref (sd 2), .ref (sd 3), .ref (sd 4), .ref (sd 5), .ref (sd 6), .int 0, .int (-1), .int 0, .int 0, .int 0, .int 0]))] := hD
              refine tp_c (w := 0) qu1196 ?_
              refine lv_if_eq (tgt := 63) hx hb dX6_odds_40 (by decide) (fun _ => ?_) (fun c1197 => absurd (by decide) c1197)
              refine lv_iinc (v := 3) (lv' := [(5, .int 3), (4, .int 1), (3, .int 1), (0, .ref h0), (1, .int x1), (2, .int x2)]) hx hb dX6_odds_63 hl (k := 0) rfl (by decide) (by decide) rfl (fun ls hl => ?_)
              refine lv_goto (tgt := 28) hx hb dX6_odds_66 (by decide) ?_
              refine lv_iload hx hb dX6_odds_28 (lv_at hl 0 rfl) ?_
              refine lv_iload_n hx hb dX6_odds_30 rfl (lv_at hl 4 rfl) ?_
              refine lv_icmp_gt (tgt := 69) hx hb dX6_odds_31 (by decide) (fun c1198 => ?_) (fun c1198 => ?_)
              · have c1198 := i_lt (a := x1.toInt) (b := 3) c1198 rfl (by decide)
                refine lv_iload hx hb dX6_odds_69 (lv_at hl 1 rfl) ?_
                refine lv_iload_n hx hb dX6_odds_71 rfl (lv_at hl 2 rfl) ?_
                refine gf_i (wr := [(h0, .inr (6, [.ref (ad 0), .int 0, .ref (ad 2), .ref (ad 3), .ref (ad 4), .ref (ad 5), .ref (ad 6), .int 0, .int 0, .ref (ad 9), .ref (ad 10), .ref (ad 11), .ref (ad 12), .ref (ad 13), .int 0, .ref (ad 15), .int 0, .ref (ad 17), .ref (ad 18), .int 0])), (ad 9, .inr (5, [.ref (sd 0), .ref (sd 1), .ref (sd 2), .ref (sd 3), .ref (sd 4), .ref (sd 5), .ref (sd 6), .int 0, .int (-1), .int 0, .int 0, .int 0, .int 0]))]) (va_runS (As := [.int 1, .int 1]) (rest := []) hfix (k_X6_commonDivisor l dC dI cyB cyI cyJ cyZ cyO _) (va_cwS 2 hts (gi_S (ow_m (k := 0) rfl) (ow_m (k := 1) rfl) (ow_m (k := 2) rfl) (sb_c sb_l) gd_k_X6_commonDivisor) rfl rfl rfl (by decide +kernel) ⟨Nat.le_of_ble_eq_true rfl, Nat.le_of_ble_eq_true rfl⟩) (g_preS hKN hP hD [] rfl (by decide)) rfl rfl hl.1 rfl (lv_room (Nat.le_of_ble_eq_true rfl)) dX6_odds_72 ⟨Nat.le_of_ble_eq_true rfl, Nat.le_of_ble_eq_true rfl⟩) hP hD hS hA [] [0, 1] rfl rfl (by decide) (by decide) (fun r1203 u1204 H locs qu1204 hP hD hS => ?_)
                have hP : va_P (dC, dI) vwCl [(h0, .inr (6, [.ref (ad 0), .int 0, .ref (ad 2), .ref (ad 3), .ref (ad 4), .ref (ad 5), .ref (ad 6), .int 0, .int 0, .ref (ad 9), .ref (ad 10), .ref (ad 11), .ref (ad 12), .ref (ad 13), .int 0, .ref (ad 15), .int 0, .ref (ad 17), .ref (ad 18), .int 0])), (ad 9, .inr (5, [.ref (sd 0), .ref (sd 1), .ref (sd 2), .ref (sd 3), .ref (sd 4), .ref (sd 5), .ref (sd 6), .int 0, .int (-1), .int 0, .int 0, .int 0, .int 0]))] H := hP
                have hD : va_D A [(h0, .inr (6, [.ref (ad 0), .int 0, .ref (ad 2), .ref (ad 3), .ref (ad 4), .ref (ad 5), .ref (ad 6), .int 0, .int 0, .ref (ad 9), .ref (ad 10), .ref (ad 11), .ref (ad 12), .ref (ad 13), .int 0, .ref (ad 15), .int 0, .ref (ad 17), .ref (ad 18), .int 0])), (ad 9, .inr (5, [.ref (sd 0), .ref (sd 1), .ref (sd 2), .ref (sd 3), .ref (sd 4), .ref (sd 5), .ref (sd 6), .int 0, .int (-1), .int 0, .int 0, .int 0, .int 0]))] := hD
                refine tp_c (w := 1) qu1204 ?_
                refine lv_istore (lv' := [(5, .int 1), (4, .int 1), (3, .int 1), (0, .ref h0), (1, .int x1), (2, .int x2)]) hx hb dX6_odds_75 hl (by decide) rfl (fun ls hl => ?_)
                refine lv_iload hx hb dX6_odds_77 (lv_at hl 0 rfl) ?_
                refine lv_if_ne (tgt := 84) hx hb dX6_odds_79 (by decide) (fun _ => ?_) (fun c1205 => absurd c1205 (by decide))
                refine lv_iload_n hx hb dX6_odds_84 rfl (lv_at hl 5 rfl) ?_
                refine lv_if_ne (tgt := 95) hx hb dX6_odds_85 (by decide) (fun c1206 => ?_) (fun c1206 => ?_)
                · have c1206 := i_ne (a := x2.toInt) (b := 0) c1206 rfl (by decide)
                  refine lv_iload hx hb dX6_odds_95 (lv_at hl 1 rfl) ?_
                  refine lv_iload hx hb dX6_odds_97 (lv_at hl 0 rfl) ?_
                  refine lv_idiv hx hb dX6_odds_99 (by decide) ?_
                  refine tp_c (w := 1) (by decide) ?_
                  exact W.iret (v := 1) hx hb hr (fun t ht hW => ⟨⟨1, (), rfl, (by first | decide | (unfold sp_odds; (repeat' split) <;> first | rfl | omega)), cE.nil⟩, hS.F ht⟩) hS.2.2 dX6_odds_100
                · have c1206 := i_eq (a := x2.toInt) (b := 0) c1206 rfl (by decide)
                  refine lv_iload_n hx hb dX6_odds_88 rfl (lv_at hl 2 rfl) ?_
                  refine lv_iload hx hb dX6_odds_89 (lv_at hl 0 rfl) ?_
                  refine lv_idiv hx hb dX6_odds_91 (by decide) ?_
                  refine tp_c (w := 1) (by decide) ?_
                  refine lv_goto (tgt := 100) hx hb dX6_odds_92 (by decide) ?_
                  exact W.iret (v := 1) hx hb hr (fun t ht hW => ⟨⟨1, (), rfl, (by first | decide | (unfold sp_odds; (repeat' split) <;> first | rfl | omega)), cE.nil⟩, hS.F ht⟩) hS.2.2 dX6_odds_100
              · have c1198 := i_nlt (a := x1.toInt) (b := 3) c1198 rfl (by decide)
                refine lv_aload_n hx hb dX6_odds_34 rfl (lv_at hl 3 rfl) ?_
                refine lv_iload hx hb dX6_odds_35 (lv_at hl 0 rfl) ?_
                refine gf_i (wr := []) (va_runV (As := [.int 3]) (rest := []) hfix (k_X6_canLoseBehind_v3 l dC dI cyB cyI cyJ cyZ cyO h0 ad sd _) (cwV 1 hts (gi_V (ow_m (k := 3) rfl) (ow_m (k := 4) rfl) (ow_m (k := 5) rfl) (ow_m (k := 2) rfl) (sb_c (sb_r (sb_r (sb_r sb_l)))) gd_k_X6_canLoseBehind_v3) rfl rfl rfl (by decide +kernel) ⟨Nat.le_of_ble_eq_true rfl, Nat.le_of_ble_eq_true rfl⟩) (g_preV hKN hP hD [0, 1] rfl (by decide) 0 6 rfl rfl) rfl rfl hl.1 rfl (lv_room (Nat.le_of_ble_eq_true rfl)) dX6_odds_37 ⟨Nat.le_of_ble_eq_true rfl, Nat.le_of_ble_eq_true rfl⟩) hP hD hS hA [0, 1] [] rfl rfl (by decide) (by decide) (fun r1210 u1211 H locs qu1211 hP hD hS => ?_)
                have hP : va_P (dC, dI) vwCl [(h0, .inr (6, [.ref (ad 0), .int 0, .ref (ad 2), .ref (ad 3), .ref (ad 4), .ref (ad 5), .ref (ad 6), .int 0, .int 0, .ref (ad 9), .ref (ad 10), .ref (ad 11), .ref (ad 12), .ref (ad 13), .int 0, .ref (ad 15), .int 0, .ref (ad 17), .ref (ad 18), .int 0])), (ad 9, .inr (5, [.ref (sd 0), .ref (sd 1), .ref (sd 2), .ref (sd 3), .ref (sd 4), .ref (sd 5), .ref (sd 6), .int 0, .int (-1), .int 0, .int 0, .int 0, .int 0]))] H := hP
                have hD : va_D A [(h0, .inr (6, [.ref (ad 0), .int 0, .ref (ad 2), .ref (ad 3), .ref (ad 4), .ref (ad 5), .ref (ad 6), .int 0, .int 0, .ref (ad 9), .ref (ad 10), .ref (ad 11), .ref (ad 12), .ref (ad 13), .int 0, .ref (ad 15), .int 0, .ref (ad 17), .ref (ad 18), .int 0])), (ad 9, .inr (5, [.ref (sd 0), .ref (sd 1), .ref (sd 2), .ref (sd 3), .ref (sd 4), .ref (sd 5), .ref (sd 6), .int 0, .int (-1), .int 0, .int 0, .int 0, .int 0]))] := hD
                refine tp_c (w := 0) qu1211 ?_
                refine lv_if_eq (tgt := 63) hx hb dX6_odds_40 (by decide) (fun _ => ?_) (fun c1212 => absurd (by decide) c1212)
                refine lv_iinc (v := 4) (lv' := [(5, .int 4), (4, .int 1), (3, .int 1), (0, .ref h0), (1, .int x1), (2, .int x2)]) hx hb dX6_odds_63 hl (k := 0) rfl (by decide) (by decide) rfl (fun ls hl => ?_)
                refine lv_goto (tgt := 28) hx hb dX6_odds_66 (by decide) ?_
                refine lv_iload hx hb dX6_odds_28 (lv_at hl 0 rfl) ?_
                refine lv_iload_n hx hb dX6_odds_30 rfl (lv_at hl 4 rfl) ?_
                refine lv_icmp_gt (tgt := 69) hx hb dX6_odds_31 (by decide) (fun c1213 => ?_) (fun c1213 => ?_)
                · have c1213 := i_lt (a := x1.toInt) (b := 4) c1213 rfl (by decide)
                  refine lv_iload hx hb dX6_odds_69 (lv_at hl 1 rfl) ?_
                  refine lv_iload_n hx hb dX6_odds_71 rfl (lv_at hl 2 rfl) ?_
                  refine gf_i (wr := [(h0, .inr (6, [.ref (ad 0), .int 0, .ref (ad 2), .ref (ad 3), .ref (ad 4), .ref (ad 5), .ref (ad 6), .int 0, .int 0, .ref (ad 9), .ref (ad 10), .ref (ad 11), .ref (ad 12), .ref (ad 13), .int 0, .ref (ad 15), .int 0, .ref (ad 17), .ref (ad 18), .int 0])), (ad 9, .inr (5, [.ref (sd 0), .ref (sd 1), .ref (sd 2), .ref (sd 3), .ref (sd 4), .ref (sd 5), .ref (sd 6), .int 0, .int (-1), .int 0, .int 0, .int 0, .int 0]))]) (va_runS (As := [.int 1, .int 1]) (rest := []) hfix (k_X6_commonDivisor l dC dI cyB cyI cyJ cyZ cyO _) (va_cwS 2 hts (gi_S (ow_m (k := 0) rfl) (ow_m (k := 1) rfl) (ow_m (k := 2) rfl) (sb_c sb_l) gd_k_X6_commonDivisor) rfl rfl rfl (by decide +kernel) ⟨Nat.le_of_ble_eq_true rfl, Nat.le_of_ble_eq_true rfl⟩) (g_preS hKN hP hD [] rfl (by decide)) rfl rfl hl.1 rfl (lv_room (Nat.le_of_ble_eq_true rfl)) dX6_odds_72 ⟨Nat.le_of_ble_eq_true rfl, Nat.le_of_ble_eq_true rfl⟩) hP hD hS hA [] [0, 1] rfl rfl (by decide) (by decide) (fun r1218 u1219 H locs qu1219 hP hD hS => ?_)
                  have hP : va_P (dC, dI) vwCl [(h0, .inr (6, [.ref (ad 0), .int 0, .ref (ad 2), .ref (ad 3), .ref (ad 4), .ref (ad 5), .ref (ad 6), .int 0, .int 0, .ref (ad 9), .ref (ad 10), .ref (ad 11), .ref (ad 12), .ref (ad 13), .int 0, .ref (ad 15), .int 0, .ref (ad 17), .ref (ad 18), .int 0])), (ad 9, .inr (5, [.ref (sd 0), .ref (sd 1), .ref (sd 2), .ref (sd 3), .ref (sd 4), .ref (sd 5), .ref (sd 6), .int 0, .int (-1), .int 0, .int 0, .int 0, .int 0]))] H := hP
                  have hD : va_D A [(h0, .inr (6, [.ref (ad 0), .int 0, .ref (ad 2), .ref (ad 3), .ref (ad 4), .ref (ad 5), .ref (ad 6), .int 0, .int 0, .ref (ad 9), .ref (ad 10), .ref (ad 11), .ref (ad 12), .ref (ad 13), .int 0, .ref (ad 15), .int 0, .ref (ad 17), .ref (ad 18), .int 0])), (ad 9, .inr (5, [.ref (sd 0), .ref (sd 1), .ref (sd 2), .ref (sd 3), .ref (sd 4), .ref (sd 5), .ref (sd 6), .int 0, .int (-1), .int 0, .int 0, .int 0, .int 0]))] := hD
                  refine tp_c (w := 1) qu1219 ?_
                  refine lv_istore (lv' := [(5, .int 1), (4, .int 1), (3, .int 1), (0, .ref h0), (1, .int x1), (2, .int x2)]) hx hb dX6_odds_75 hl (by decide) rfl (fun ls hl => ?_)
                  refine lv_iload hx hb dX6_odds_77 (lv_at hl 0 rfl) ?_
                  refine lv_if_ne (tgt := 84) hx hb dX6_odds_79 (by decide) (fun _ => ?_) (fun c1220 => absurd c1220 (by decide))
                  refine lv_iload_n hx hb dX6_odds_84 rfl (lv_at hl 5 rfl) ?_
                  refine lv_if_ne (tgt := 95) hx hb dX6_odds_85 (by decide) (fun c1221 => ?_) (fun c1221 => ?_)
                  · have c1221 := i_ne (a := x2.toInt) (b := 0) c1221 rfl (by decide)
                    refine lv_iload hx hb dX6_odds_95 (lv_at hl 1 rfl) ?_
                    refine lv_iload hx hb dX6_odds_97 (lv_at hl 0 rfl) ?_
                    refine lv_idiv hx hb dX6_odds_99 (by decide) ?_
                    refine tp_c (w := 1) (by decide) ?_
                    exact W.iret (v := 1) hx hb hr (fun t ht hW => ⟨⟨1, (), rfl, (by first | decide | (unfold sp_odds; (repeat' split) <;> first | rfl | omega)), cE.nil⟩, hS.F ht⟩) hS.2.2 dX6_odds_100
                  · have c1221 := i_eq (a := x2.toInt) (b := 0) c1221 rfl (by decide)
                    refine lv_iload_n hx hb dX6_odds_88 rfl (lv_at hl 2 rfl) ?_
                    refine lv_iload hx hb dX6_odds_89 (lv_at hl 0 rfl) ?_
                    refine lv_idiv hx hb dX6_odds_91 (by decide) ?_
                    refine tp_c (w := 1) (by decide) ?_
                    refine lv_goto (tgt := 100) hx hb dX6_odds_92 (by decide) ?_
                    exact W.iret (v := 1) hx hb hr (fun t ht hW => ⟨⟨1, (), rfl, (by first | decide | (unfold sp_odds; (repeat' split) <;> first | rfl | omega)), cE.nil⟩, hS.F ht⟩) hS.2.2 dX6_odds_100
                · have c1213 := i_nlt (a := x1.toInt) (b := 4) c1213 rfl (by decide)
                  refine lv_aload_n hx hb dX6_odds_34 rfl (lv_at hl 3 rfl) ?_
                  refine lv_iload hx hb dX6_odds_35 (lv_at hl 0 rfl) ?_
                  refine gf_i (wr := []) (va_runV (As := [.int 4]) (rest := []) hfix (k_X6_canLoseBehind_v4 l dC dI cyB cyI cyJ cyZ cyO h0 ad sd _) (cwV 1 hts (gi_V (ow_m (k := 3) rfl) (ow_m (k := 4) rfl) (ow_m (k := 5) rfl) (ow_m (k := 2) rfl) (sb_c (sb_r (sb_r (sb_r (sb_r sb_l))))) gd_k_X6_canLoseBehind_v4) rfl rfl rfl (by decide +kernel) ⟨Nat.le_of_ble_eq_true rfl, Nat.le_of_ble_eq_true rfl⟩) (g_preV hKN hP hD [0, 1] rfl (by decide) 0 6 rfl rfl) rfl rfl hl.1 rfl (lv_room (Nat.le_of_ble_eq_true rfl)) dX6_odds_37 ⟨Nat.le_of_ble_eq_true rfl, Nat.le_of_ble_eq_true rfl⟩) hP hD hS hA [0, 1] [] rfl rfl (by decide) (by decide) (fun r1225 u1226 H locs qu1226 hP hD hS => ?_)
                  have hP : va_P (dC, dI) vwCl [(h0, .inr (6, [.ref (ad 0), .int 0, .ref (ad 2), .ref (ad 3), .ref (ad 4), .ref (ad 5), .ref (ad 6), .int 0, .int 0, .ref (ad 9), .ref (ad 10), .ref (ad 11), .ref (ad 12), .ref (ad 13), .int 0, .ref (ad 15), .int 0, .ref (ad 17), .ref (ad 18), .int 0])), (ad 9, .inr (5, [.ref (sd 0), .ref (sd 1), .ref (sd 2), .ref (sd 3), .ref (sd 4), .ref (sd 5), .ref (sd 6), .int 0, .int (-1), .int 0, .int 0, .int 0, .int 0]))] H := hP
                  have hD : va_D A [(h0, .inr (6, [.ref (ad 0), .int 0, .ref (ad 2), .ref (ad 3), .ref (ad 4), .ref (ad 5), .ref (ad 6), .int 0, .int 0, .ref (ad 9), .ref (ad 10), .ref (ad 11), .ref (ad 12), .ref (ad 13), .int 0, .ref (ad 15), .int 0, .ref (ad 17), .ref (ad 18), .int 0])), (ad 9, .inr (5, [.ref (sd 0), .ref (sd 1), .ref (sd 2), .ref (sd 3), .ref (sd 4), .ref (sd 5), .ref (sd 6), .int 0, .int (-1), .int 0, .int 0, .int 0, .int 0]))] := hD
                  refine tp_c (w := 0) qu1226 ?_
                  refine lv_if_eq (tgt := 63) hx hb dX6_odds_40 (by decide) (fun _ => ?_) (fun c1227 => absurd (by decide) c1227)
                  refine lv_iinc (v := 5) (lv' := [(5, .int 5), (4, .int 1), (3, .int 1), (0, .ref h0), (1, .int x1), (2, .int x2)]) hx hb dX6_odds_63 hl (k := 0) rfl (by decide) (by decide) rfl (fun ls hl => ?_)
                  refine lv_goto (tgt := 28) hx hb dX6_odds_66 (by decide) ?_
                  refine lv_iload hx hb dX6_odds_28 (lv_at hl 0 rfl) ?_
                  refine lv_iload_n hx hb dX6_odds_30 rfl (lv_at hl 4 rfl) ?_
                  refine lv_icmp_gt (tgt := 69) hx hb dX6_odds_31 (by decide) (fun c1228 => ?_) (fun c1228 => ?_)
                  · have c1228 := i_lt (a := x1.toInt) (b := 5) c1228 rfl (by decide)
                    refine lv_iload hx hb dX6_odds_69 (lv_at hl 1 rfl) ?_
                    refine lv_iload_n hx hb dX6_odds_71 rfl (lv_at hl 2 rfl) ?_
                    refine gf_i (wr := [(h0, .inr (6, [.ref (ad 0), .int 0, .ref (ad 2), .ref (ad 3), .ref (ad 4), .ref (ad 5), .ref (ad 6), .int 0, .int 0, .ref (ad 9), .ref (ad 10), .ref (ad 11), .ref (ad 12), .ref (ad 13), .int 0, .ref (ad 15), .int 0, .ref (ad 17), .ref (ad 18), .int 0])), (ad 9, .inr (5, [.ref (sd 0), .ref (sd 1), .ref (sd 2), .ref (sd 3), .ref (sd 4), .ref (sd 5), .ref (sd 6), .int 0, .int (-1), .int 0, .int 0, .int 0, .int 0]))]) (va_runS (As := [.int 1, .int 1]) (rest := []) hfix (k_X6_commonDivisor l dC dI cyB cyI cyJ cyZ cyO _) (va_cwS 2 hts (gi_S (ow_m (k := 0) rfl) (ow_m (k := 1) rfl) (ow_m (k := 2) rfl) (sb_c sb_l) gd_k_X6_commonDivisor) rfl rfl rfl (by decide +kernel) ⟨Nat.le_of_ble_eq_true rfl, Nat.le_of_ble_eq_true rfl⟩) (g_preS hKN hP hD [] rfl (by decide)) rfl rfl hl.1 rfl (lv_room (Nat.le_of_ble_eq_true rfl)) dX6_odds_72 ⟨Nat.le_of_ble_eq_true rfl, Nat.le_of_ble_eq_true rfl⟩) hP hD hS hA [] [0, 1] rfl rfl (by decide) (by decide) (fun r1233 u1234 H locs qu1234 hP hD hS => ?_)
                    have hP : va_P (dC, dI) vwCl [(h0, .inr (6, [.ref (ad 0), .int 0, .ref (ad 2), .ref (ad 3), .ref (ad 4), .ref (ad 5), .ref (ad 6), .int 0, .int 0, .ref (ad 9), .ref (ad 10), .ref (ad 11), .ref (ad 12), .ref (ad 13), .int 0, .ref (ad 15), .int 0, .ref (ad 17), .ref (ad 18), .int 0])), (ad 9, .inr (5, [.ref (sd 0), .ref (sd 1), .ref (sd 2), .ref (sd 3), .ref (sd 4), .ref (sd 5), .ref (sd 6), .int 0, .int (-1), .int 0, .int 0, .int 0, .int 0]))] H := hP
                    have hD : va_D A [(h0, .inr (6, [.ref (ad 0), .int 0, .ref (ad 2), .ref (ad 3), .ref (ad 4), .ref (ad 5), .ref (ad 6), .int 0, .int 0, .ref (ad 9), .ref (ad 10), .ref (ad 11), .ref (ad 12), .ref (ad 13), .int 0, .ref (ad 15), .int 0, .ref (ad 17), .ref (ad 18), .int 0])), (ad 9, .inr (5, [.ref (sd 0), .ref (sd 1), .ref (sd 2), .ref (sd 3), .ref (sd 4), .ref (sd 5), .ref (sd 6), .int 0, .int (-1), .int 0, .int 0, .int 0, .int 0]))] := hD
                    refine tp_c (w := 1) qu1234 ?_
                    refine lv_istore (lv' := [(5, .int 1), (4, .int 1), (3, .int 1), (0, .ref h0), (1, .int x1), (2, .int x2)]) hx hb dX6_odds_75 hl (by decide) rfl (fun ls hl => ?_)
                    refine lv_iload hx hb dX6_odds_77 (lv_at hl 0 rfl) ?_
                    refine lv_if_ne (tgt := 84) hx hb dX6_odds_79 (by decide) (fun _ => ?_) (fun c1235 => absurd c1235 (by decide))
                    refine lv_iload_n hx hb dX6_odds_84 rfl (lv_at hl 5 rfl) ?_
                    refine lv_if_ne (tgt := 95) hx hb dX6_odds_85 (by decide) (fun c1236 => ?_) (fun c1236 => ?_)
                    · have c1236 := i_ne (a := x2.toInt) (b := 0) c1236 rfl (by decide)
                      refine lv_iload hx hb dX6_odds_95 (lv_at hl 1 rfl) ?_
                      refine lv_iload hx hb dX6_odds_97 (lv_at hl 0 rfl) ?_
                      refine lv_idiv hx hb dX6_odds_99 (by decide) ?_
                      refine tp_c (w := 1) (by decide) ?_
                      exact W.iret (v := 1) hx hb hr (fun t ht hW => ⟨⟨1, (), rfl, (by first | decide | (unfold sp_odds; (repeat' split) <;> first | rfl | omega)), cE.nil⟩, hS.F ht⟩) hS.2.2 dX6_odds_100
                    · have c1236 := i_eq (a := x2.toInt) (b := 0) c1236 rfl (by decide)
                      refine lv_iload_n hx hb dX6_odds_88 rfl (lv_at hl 2 rfl) ?_
                      refine lv_iload hx hb dX6_odds_89 (lv_at hl 0 rfl) ?_
                      refine lv_idiv hx hb dX6_odds_91 (by decide) ?_
                      refine tp_c (w := 1) (by decide) ?_
                      refine lv_goto (tgt := 100) hx hb dX6_odds_92 (by decide) ?_
                      exact W.iret (v := 1) hx hb hr (fun t ht hW => ⟨⟨1, (), rfl, (by first | decide | (unfold sp_odds; (repeat' split) <;> first | rfl | omega)), cE.nil⟩, hS.F ht⟩) hS.2.2 dX6_odds_100
                  · have c1228 := i_nlt (a := x1.toInt) (b := 5) c1228 rfl (by decide)
                    exfalso; omega
        · have c1167 := i_nle (a := x2.toInt) (b := 1) c1167 rfl (by decide)
          refine lv_iconst (v := (-1)) hx hb dX6_odds_18 (by decide) ?_
          exact W.iret (v := (-1)) hx hb hr (fun t ht hW => ⟨⟨(-1), (), rfl, (by first | decide | (unfold sp_odds; (repeat' split) <;> first | rfl | omega)), cE.nil⟩, hS.F ht⟩) hS.2.2 dX6_odds_19
def wo_c_C_lies : List Cond := [.fieldLink RX6 116 "ReplicaChain" "lyingCount" "I"]
def wq_c_C_lies : List Cond := .code yX6_lies cX6_lies 2 (some .int) :: (wo_c_C_lies ++ (wsX60 ++ []))
theorem gd_c_C_lies : Gd wq_c_C_lies := gd_c (gd_a (gd_o (by decide +kernel)) (gd_a gd_u gd_0))
abbrev wc_c_C_lies (cyB cyI cyJ cyZ cyO : ClassId) (h0 : Nat) (ad : Nat → Nat) (x1 : Int32) : va_W := [(h0, .inr (6, [.ref (ad 0), .int 0, .ref (ad 2), .ref (ad 3), .ref (ad 4), .ref (ad 5), .ref (ad 6), .int 0, .int 0, .ref (ad 9), .ref (ad 10), .ref (ad 11), .ref (ad 12), .ref (ad 13), .int 0, .ref (ad 15), .int 0, .ref (ad 17), .ref (ad 18), .int 0]))]
set_option maxHeartbeats 4000000 in
set_option maxRecDepth 100000 in
theorem c_C_lies (l : Launch) (dC : Nat → ClassId) (dI : Nat → Nat → Nat) (cyB cyI cyJ cyZ cyO : ClassId) (h0 : Nat) (ad : Nat → Nat) (x1 : Int32) (sz : Nat) : Met l yX6_lies wq_c_C_lies ({ frames := 0, cells := 0, slots := 0, locals := 0 }) (va_Pc [.ref h0, .int x1] (cB (dC, dI) (kT cyB cyI cyJ cyZ cyO) (wc_c_C_lies cyB cyI cyJ cyZ cyO h0 ad x1) sz)) (va_Qi (fun (r : Int32) (_ : Unit) => r = -2) (fun (u : Unit) t => cE (dC, dI) (va_A (wc_c_C_lies cyB cyI cyJ cyZ cyO h0 ad x1) sz) ([]) t.heap) (va_A (wc_c_C_lies cyB cyI cyJ cyZ cyO h0 ad x1) sz)) 0 0 (va_A (wc_c_C_lies cyB cyI cyJ cyZ cyO h0 ad x1) sz) := by
  refine Met.ofW (cc := cX6_lies) (maxL := 2) (ret := (some .int)) (by decide) rfl ?_
  intro p e s m args below meth c s₁ B hml hv
  obtain ⟨rfl, hsz, hP, hKN, hD0⟩ := hv
  have hx := B.exec
  have hb := B.bytes
  have hr := B.returns
  have hts := atoms_spec (ws := wq_c_C_lies) B.pre
  have hown : s.vm.findClass RX6 = some m.cls := findClass_of_methodNamed B.named
  have hlocks := B.notSynchronized
  have hK := hKN.1
  have hfix : CallFix p m c cX6_lies 2 s [.ref h0, .int x1].toArray wq_c_C_lies RX6 := ⟨hx, hb, hml, hown, hts⟩
  have hi6 : ∀ w ∈ wsX60, w ∈ wq_c_C_lies := (sb_c sb_l)
  subst hsz
  have hD := hD0.self (sz := s.heap.size)
  generalize hAe : va_A (wc_c_C_lies cyB cyI cyJ cyZ cyO h0 ad x1) s.heap.size = A at hD ⊢
  have hA : ∀ q : Nat, s.heap.size ≤ q → A q := fun q h => by rw [← hAe]; exact Or.inr h
  have hS : va_S A s.heap s.heap [] := va_S.rf
  have hl := lv_entry ([.ref h0, .int x1]) (n := 2) (Nat.le_of_ble_eq_true rfl)
  rw [lg_entry_eq]
  generalize (lg_sl ([.ref h0, .int x1]) ++ List.replicate (2 - (lg_sl ([.ref h0, .int x1])).length) Slot.unset).toArray = ls at hl ⊢
  have hl : lv_has ls 2 [(0, .ref h0), (1, .int x1)] := hl
  refine lv_iload_n hx hb dX6_lies_0 rfl (lv_at hl 1 rfl) ?_
  refine lv_if_lt (tgt := 12) hx hb dX6_lies_1 (by decide) (fun c1239 => ?_) (fun c1239 => ?_)
  · have c1239 := i_lt (a := x1.toInt) (b := 0) c1239 rfl (by decide)
    refine lv_bipush (v := (-2)) hx hb dX6_lies_12 (by decide) ?_
    refine lv_goto (tgt := 23) hx hb dX6_lies_14 (by decide) ?_
    exact W.iret (v := (-2)) hx hb hr (fun t ht hW => ⟨⟨(-2), (), rfl, rfl, cE.nil⟩, hS.F ht⟩) hS.2.2 dX6_lies_23
  · have c1239 := i_nlt (a := x1.toInt) (b := 0) c1239 rfl (by decide)
    refine lv_iload_n hx hb dX6_lies_4 rfl (lv_at hl 1 rfl) ?_
    refine lv_aload_n hx hb dX6_lies_5 rfl (lv_at hl 0 rfl) ?_
    refine va_get (D := (dC, dI)) (ci := 6) (v := .int 0) (C := RX6) (T := TX6) (N := 20) hx hb hts hi6 hown hK hP 0 rfl rfl 14 (by decide) (hts _ (ow_m (k := 0) rfl)) (fun _ h9 => h9) rfl dX6_lies_6 ?_
    refine lv_icmp_lt (tgt := 17) hx hb dX6_lies_9 (by decide) (fun c1240 => ?_) (fun c1240 => ?_)
    · have c1240 := i_lt (a := x1.toInt) (b := 0) c1240 rfl (by decide)
      exfalso; omega
    · have c1240 := i_nlt (a := x1.toInt) (b := 0) c1240 rfl (by decide)
      refine lv_bipush (v := (-2)) hx hb dX6_lies_12 (by decide) ?_
      refine lv_goto (tgt := 23) hx hb dX6_lies_14 (by decide) ?_
      exact W.iret (v := (-2)) hx hb hr (fun t ht hW => ⟨⟨(-2), (), rfl, rfl, cE.nil⟩, hS.F ht⟩) hS.2.2 dX6_lies_23
def wo_c_C_seen : List Cond := [.fieldLink RX6 16 "ReplicaChain" "plan" "LReplicaChain$Plan;", .fieldLink RX6 94 "ReplicaChain$Plan" "memberCount" "I"]
def wq_c_C_seen : List Cond := .code yX6_seen cX6_seen 3 (some .int) :: (wo_c_C_seen ++ (wsX10 ++ (wsX60 ++ [])))
theorem gd_c_C_seen : Gd wq_c_C_seen := gd_c (gd_a (gd_o (by decide +kernel)) (gd_a gd_u (gd_a gd_u gd_0)))
abbrev wc_c_C_seen (cyB cyI cyJ cyZ cyO : ClassId) (h0 : Nat) (ad : Nat → Nat) (pd : Nat → Nat) (x1 : Int32) (x2 : Int32) : va_W := [(h0, .inr (6, [.ref (ad 0), .int 0, .ref (ad 2), .ref (ad 3), .ref (ad 4), .ref (ad 5), .ref (ad 6), .int 0, .int 0, .ref (ad 9), .ref (ad 10), .ref (ad 11), .ref (ad 12), .ref (ad 13), .int 0, .ref (ad 15), .int 0, .ref (ad 17), .ref (ad 18), .int 0])), (ad 2, .inr (1, [.ref (pd 0), .ref (pd 1), .ref (pd 2), .ref (pd 3), .int 0, .int 0, .int 0, .int 0, .int 2, .int 0, .int 0]))]
set_option maxHeartbeats 4000000 in
set_option maxRecDepth 100000 in
theorem c_C_seen (l : Launch) (dC : Nat → ClassId) (dI : Nat → Nat → Nat) (cyB cyI cyJ cyZ cyO : ClassId) (h0 : Nat) (ad : Nat → Nat) (pd : Nat → Nat) (x1 : Int32) (x2 : Int32) (sz : Nat) : Met l yX6_seen wq_c_C_seen ({ frames := 0, cells := 0, slots := 0, locals := 0 }) (va_Pc [.ref h0, .int x1, .int x2] (cB (dC, dI) (kT cyB cyI cyJ cyZ cyO) (wc_c_C_seen cyB cyI cyJ cyZ cyO h0 ad pd x1 x2) sz)) (va_Qi (fun (r : Int32) (_ : Unit) => r = -1) (fun (u : Unit) t => cE (dC, dI) (va_A (wc_c_C_seen cyB cyI cyJ cyZ cyO h0 ad pd x1 x2) sz) ([]) t.heap) (va_A (wc_c_C_seen cyB cyI cyJ cyZ cyO h0 ad pd x1 x2) sz)) 0 0 (va_A (wc_c_C_seen cyB cyI cyJ cyZ cyO h0 ad pd x1 x2) sz) := by
  refine Met.ofW (cc := cX6_seen) (maxL := 3) (ret := (some .int)) (by decide) rfl ?_
  intro p e s m args below meth c s₁ B hml hv
  obtain ⟨rfl, hsz, hP, hKN, hD0⟩ := hv
  have hx := B.exec
  have hb := B.bytes
  have hr := B.returns
  have hts := atoms_spec (ws := wq_c_C_seen) B.pre
  have hown : s.vm.findClass RX6 = some m.cls := findClass_of_methodNamed B.named
  have hlocks := B.notSynchronized
  have hK := hKN.1
  have hfix : CallFix p m c cX6_seen 3 s [.ref h0, .int x1, .int x2].toArray wq_c_C_seen RX6 := ⟨hx, hb, hml, hown, hts⟩
  have hi1 : ∀ w ∈ wsX10, w ∈ wq_c_C_seen := (sb_c sb_l)
  have hi6 : ∀ w ∈ wsX60, w ∈ wq_c_C_seen := (sb_c (sb_r sb_l))
  subst hsz
  have hD := hD0.self (sz := s.heap.size)
  generalize hAe : va_A (wc_c_C_seen cyB cyI cyJ cyZ cyO h0 ad pd x1 x2) s.heap.size = A at hD ⊢
  have hA : ∀ q : Nat, s.heap.size ≤ q → A q := fun q h => by rw [← hAe]; exact Or.inr h
  have hS : va_S A s.heap s.heap [] := va_S.rf
  have hl := lv_entry ([.ref h0, .int x1, .int x2]) (n := 3) (Nat.le_of_ble_eq_true rfl)
  rw [lg_entry_eq]
  generalize (lg_sl ([.ref h0, .int x1, .int x2]) ++ List.replicate (3 - (lg_sl ([.ref h0, .int x1, .int x2])).length) Slot.unset).toArray = ls at hl ⊢
  have hl : lv_has ls 3 [(0, .ref h0), (1, .int x1), (2, .int x2)] := hl
  refine lv_iload_n hx hb dX6_seen_0 rfl (lv_at hl 1 rfl) ?_
  refine lv_if_lt (tgt := 20) hx hb dX6_seen_1 (by decide) (fun c1244 => ?_) (fun c1244 => ?_)
  · have c1244 := i_lt (a := x1.toInt) (b := 0) c1244 rfl (by decide)
    refine lv_iconst (v := (-1)) hx hb dX6_seen_20 (by decide) ?_
    exact W.iret (v := (-1)) hx hb hr (fun t ht hW => ⟨⟨(-1), (), rfl, rfl, cE.nil⟩, hS.F ht⟩) hS.2.2 dX6_seen_21
  · have c1244 := i_nlt (a := x1.toInt) (b := 0) c1244 rfl (by decide)
    refine lv_iload_n hx hb dX6_seen_4 rfl (lv_at hl 1 rfl) ?_
    refine lv_bipush (v := 60) hx hb dX6_seen_5 (by decide) ?_
    refine lv_icmp_gt (tgt := 20) hx hb dX6_seen_7 (by decide) (fun c1245 => ?_) (fun c1245 => ?_)
    · have c1245 := i_lt (a := 60) (b := x1.toInt) c1245 (by decide) rfl
      refine lv_iconst (v := (-1)) hx hb dX6_seen_20 (by decide) ?_
      exact W.iret (v := (-1)) hx hb hr (fun t ht hW => ⟨⟨(-1), (), rfl, rfl, cE.nil⟩, hS.F ht⟩) hS.2.2 dX6_seen_21
    · have c1245 := i_nlt (a := 60) (b := x1.toInt) c1245 (by decide) rfl
      refine lv_aload_n hx hb dX6_seen_10 rfl (lv_at hl 0 rfl) ?_
      refine va_get (D := (dC, dI)) (ci := 6) (v := .ref (ad 2)) (C := RX6) (T := TX6) (N := 20) hx hb hts hi6 hown hK hP 0 rfl rfl 2 (by decide) (hts _ (ow_m (k := 0) rfl)) (fun _ h9 => h9) rfl dX6_seen_11 ?_
      refine va_get (D := (dC, dI)) (ci := 1) (v := .int 0) (C := RX1) (T := TX1) (N := 11) hx hb hts hi1 hown hK hP 1 rfl rfl 4 (by decide) (hts _ (ow_m (k := 1) rfl)) (fun _ h9 => h9) rfl dX6_seen_14 ?_
      refine lv_if_ne (tgt := 22) hx hb dX6_seen_17 (by decide) (fun c1246 => absurd (by decide) c1246) (fun _ => ?_)
      refine lv_iconst (v := (-1)) hx hb dX6_seen_20 (by decide) ?_
      exact W.iret (v := (-1)) hx hb hr (fun t ht hW => ⟨⟨(-1), (), rfl, rfl, cE.nil⟩, hS.F ht⟩) hS.2.2 dX6_seen_21
def wo_k_X4_takeBack : List Cond := [.fieldLink RX4 25 "ReplicaChain$Sightings" "count" "I"]
def wq_k_X4_takeBack : List Cond := .code yX4_takeBack cX4_takeBack 3 (some .boolean) :: (wo_k_X4_takeBack ++ (wsX40 ++ []))
theorem gd_k_X4_takeBack : Gd wq_k_X4_takeBack := gd_c (gd_a (gd_o (by decide +kernel)) (gd_a gd_u gd_0))
abbrev wc_k_X4_takeBack (cyB cyI cyJ cyZ cyO : ClassId) (ad : Nat → Nat) (gd : Nat → Nat) (a1 : Int32) : va_W := [(ad 17, .inr (4, [.ref (gd 0), .ref (gd 1), .ref (gd 2), .ref (gd 3), .int 0]))]
set_option maxHeartbeats 4000000 in
set_option maxRecDepth 100000 in
theorem k_X4_takeBack (l : Launch) (dC : Nat → ClassId) (dI : Nat → Nat → Nat) (cyB cyI cyJ cyZ cyO : ClassId) (ad : Nat → Nat) (gd : Nat → Nat) (a1 : Int32) (sz : Nat) : Met l yX4_takeBack wq_k_X4_takeBack ({ frames := 0, cells := 0, slots := 0, locals := 0 }) (va_Pc [.ref (ad 17), .int a1, .int 0] (cB (dC, dI) (kT cyB cyI cyJ cyZ cyO) (wc_k_X4_takeBack cyB cyI cyJ cyZ cyO ad gd a1) sz)) (va_Qi (fun (r : Int32) _ => (r = 0 ∧ a1.toInt < 0) ∨ (r = 0 ∧ 0 ≤ a1.toInt ∧ 0 ≤ a1.toInt)) (fun (u : Unit) t => cE (dC, dI) (va_A (wc_k_X4_takeBack cyB cyI cyJ cyZ cyO ad gd a1) sz) ([(ad 17, .inr (4, [.ref (gd 0), .ref (gd 1), .ref (gd 2), .ref (gd 3), .int 0]))]) t.heap) (va_A (wc_k_X4_takeBack cyB cyI cyJ cyZ cyO ad gd a1) sz)) 0 0 (va_A (wc_k_X4_takeBack cyB cyI cyJ cyZ cyO ad gd a1) sz) := by
  refine Met.ofW (cc := cX4_takeBack) (maxL := 3) (ret := (some .boolean)) (by decide) rfl ?_
  intro p e s m args below meth c s₁ B hml hv
  obtain ⟨rfl, hsz, hP, hKN, hD0⟩ := hv
  have hx := B.exec
  have hb := B.bytes
  have hr := B.returns
  have hts := atoms_spec (ws := wq_k_X4_takeBack) B.pre
  have hown : s.vm.findClass RX4 = some m.cls := findClass_of_methodNamed B.named
  have hlocks := B.notSynchronized
  have hK := hKN.1
  have hfix : CallFix p m c cX4_takeBack 3 s [.ref (ad 17), .int a1, .int 0].toArray wq_k_X4_takeBack RX4 := ⟨hx, hb, hml, hown, hts⟩
  have hi4 : ∀ w ∈ wsX40, w ∈ wq_k_X4_takeBack := (sb_c sb_l)
  subst hsz
  have hD := hD0.self (sz := s.heap.size)
  generalize hAe : va_A (wc_k_X4_takeBack cyB cyI cyJ cyZ cyO ad gd a1) s.heap.size = A at hD ⊢
  have hA : ∀ q : Nat, s.heap.size ≤ q → A q := fun q h => by rw [← hAe]; exact Or.inr h
  have hS : va_S A s.heap s.heap [] := va_S.rf
  have hl := lv_entry ([.ref (ad 17), .int a1, .int 0]) (n := 3) (Nat.le_of_ble_eq_true rfl)
  rw [lg_entry_eq]
  generalize (lg_sl ([.ref (ad 17), .int a1, .int 0]) ++ List.replicate (3 - (lg_sl ([.ref (ad 17), .int a1, .int 0])).length) Slot.unset).toArray = ls at hl ⊢
  have hl : lv_has ls 3 [(0, .ref (ad 17)), (1, .int a1), (2, .int 0)] := hl
  refine lv_iload_n hx hb dX4_takeBack_0 rfl (lv_at hl 1 rfl) ?_
  refine lv_if_lt (tgt := 22) hx hb dX4_takeBack_1 (by decide) (fun c1249 => ?_) (fun c1249 => ?_)
  · have c1249 := i_lt (a := a1.toInt) (b := 0) c1249 rfl (by decide)
    refine lv_iconst (v := 0) hx hb dX4_takeBack_22 (by decide) ?_
    exact W.zret (v := 0) hx hb hr (by decide) (fun t ht hW => ⟨⟨0, (), rfl, (Or.inl ⟨rfl, c1249⟩), cE.of ht hP hD [0] (by decide) rfl⟩, hS.F ht⟩) hS.2.2 dX4_takeBack_23
  · have c1249 := i_nlt (a := a1.toInt) (b := 0) c1249 rfl (by decide)
    refine lv_iload_n hx hb dX4_takeBack_4 rfl (lv_at hl 1 rfl) ?_
    refine lv_aload_n hx hb dX4_takeBack_5 rfl (lv_at hl 0 rfl) ?_
    refine va_get (D := (dC, dI)) (ci := 4) (v := .int 0) (C := RX4) (T := TX4) (N := 5) hx hb hts hi4 hown hK hP 0 rfl rfl 4 (by decide) (hts _ (ow_m (k := 0) rfl)) (fun _ h9 => h9) rfl dX4_takeBack_6 ?_
    refine lv_icmp_ge (tgt := 22) hx hb dX4_takeBack_9 (by decide) (fun c1250 => ?_) (fun c1250 => ?_)
    · have c1250 := i_le (a := 0) (b := a1.toInt) c1250 (by decide) rfl
      refine lv_iconst (v := 0) hx hb dX4_takeBack_22 (by decide) ?_
      exact W.zret (v := 0) hx hb hr (by decide) (fun t ht hW => ⟨⟨0, (), rfl, (Or.inr ⟨rfl, c1249, c1250⟩), cE.of ht hP hD [0] (by decide) rfl⟩, hS.F ht⟩) hS.2.2 dX4_takeBack_23
    · have c1250 := i_nle (a := 0) (b := a1.toInt) c1250 (by decide) rfl
      exfalso; omega
def wo_c_C_untell : List Cond := [.fieldLink RX6 69 "ReplicaChain" "sightings" "LReplicaChain$Sightings;", .fieldLink RX6 317 "ReplicaChain" "time" "I", .methodLink RX6 324 yX4_takeBack, .instanceMethod yX4_takeBack, .selects RX4 yX4_takeBack yX4_takeBack, .initialized RX4]
def wq_c_C_untell : List Cond := .code yX6_untell cX6_untell 2 (some .boolean) :: (wo_c_C_untell ++ (wq_k_X4_takeBack ++ (wsX60 ++ [])))
theorem gd_c_C_untell : Gd wq_c_C_untell := gd_c (gd_a (gd_o (by decide +kernel)) (gd_a gd_k_X4_takeBack (gd_a gd_u gd_0)))
abbrev wc_c_C_untell (cyB cyI cyJ cyZ cyO : ClassId) (h0 : Nat) (ad : Nat → Nat) (gd : Nat → Nat) (x1 : Int32) : va_W := [(h0, .inr (6, [.ref (ad 0), .int 0, .ref (ad 2), .ref (ad 3), .ref (ad 4), .ref (ad 5), .ref (ad 6), .int 0, .int 0, .ref (ad 9), .ref (ad 10), .ref (ad 11), .ref (ad 12), .ref (ad 13), .int 0, .ref (ad 15), .int 0, .ref (ad 17), .ref (ad 18), .int 0])), (ad 17, .inr (4, [.ref (gd 0), .ref (gd 1), .ref (gd 2), .ref (gd 3), .int 0]))]
set_option maxHeartbeats 4000000 in
set_option maxRecDepth 100000 in
theorem c_C_untell (l : Launch) (dC : Nat → ClassId) (dI : Nat → Nat → Nat) (cyB cyI cyJ cyZ cyO : ClassId) (h0 : Nat) (ad : Nat → Nat) (gd : Nat → Nat) (x1 : Int32) (sz : Nat) : Met l yX6_untell wq_c_C_untell ({ frames := 1, cells := 0, slots := 0, locals := 22 }) (va_Pc [.ref h0, .int x1] (cB (dC, dI) (kT cyB cyI cyJ cyZ cyO) (wc_c_C_untell cyB cyI cyJ cyZ cyO h0 ad gd x1) sz)) (va_Qi (fun (r : Int32) (_ : Unit) => r = 0) (fun (u : Unit) t => cE (dC, dI) (va_A (wc_c_C_untell cyB cyI cyJ cyZ cyO h0 ad gd x1) sz) ([]) t.heap) (va_A (wc_c_C_untell cyB cyI cyJ cyZ cyO h0 ad gd x1) sz)) 0 0 (va_A (wc_c_C_untell cyB cyI cyJ cyZ cyO h0 ad gd x1) sz) := by
  refine Met.ofW (cc := cX6_untell) (maxL := 2) (ret := (some .boolean)) (by decide) rfl ?_
  intro p e s m args below meth c s₁ B hml hv
  obtain ⟨rfl, hsz, hP, hKN, hD0⟩ := hv
  have hx := B.exec
  have hb := B.bytes
  have hr := B.returns
  have hts := atoms_spec (ws := wq_c_C_untell) B.pre
  have hown : s.vm.findClass RX6 = some m.cls := findClass_of_methodNamed B.named
  have hlocks := B.notSynchronized
  have hK := hKN.1
  have hfix : CallFix p m c cX6_untell 2 s [.ref h0, .int x1].toArray wq_c_C_untell RX6 := ⟨hx, hb, hml, hown, hts⟩
  have hi6 : ∀ w ∈ wsX60, w ∈ wq_c_C_untell := (sb_c (sb_r sb_l))
  subst hsz
  have hD := hD0.self (sz := s.heap.size)
  generalize hAe : va_A (wc_c_C_untell cyB cyI cyJ cyZ cyO h0 ad gd x1) s.heap.size = A at hD ⊢
  have hA : ∀ q : Nat, s.heap.size ≤ q → A q := fun q h => by rw [← hAe]; exact Or.inr h
  have hS : va_S A s.heap s.heap [] := va_S.rf
  have hl := lv_entry ([.ref h0, .int x1]) (n := 2) (Nat.le_of_ble_eq_true rfl)
  rw [lg_entry_eq]
  generalize (lg_sl ([.ref h0, .int x1]) ++ List.replicate (2 - (lg_sl ([.ref h0, .int x1])).length) Slot.unset).toArray = ls at hl ⊢
  have hl : lv_has ls 2 [(0, .ref h0), (1, .int x1)] := hl
  refine lv_aload_n hx hb dX6_untell_0 rfl (lv_at hl 0 rfl) ?_
  refine va_get (D := (dC, dI)) (ci := 6) (v := .ref (ad 17)) (C := RX6) (T := TX6) (N := 20) hx hb hts hi6 hown hK hP 0 rfl rfl 17 (by decide) (hts _ (ow_m (k := 0) rfl)) (fun _ h9 => h9) rfl dX6_untell_1 ?_
  refine lv_iload_n hx hb dX6_untell_4 rfl (lv_at hl 1 rfl) ?_
  refine lv_aload_n hx hb dX6_untell_5 rfl (lv_at hl 0 rfl) ?_
  refine va_get (D := (dC, dI)) (ci := 6) (v := .int 0) (C := RX6) (T := TX6) (N := 20) hx hb hts hi6 hown hK hP 0 rfl rfl 19 (by decide) (hts _ (ow_m (k := 1) rfl)) (fun _ h9 => h9) rfl dX6_untell_6 ?_
  refine gf_i (wr := [(h0, .inr (6, [.ref (ad 0), .int 0, .ref (ad 2), .ref (ad 3), .ref (ad 4), .ref (ad 5), .ref (ad 6), .int 0, .int 0, .ref (ad 9), .ref (ad 10), .ref (ad 11), .ref (ad 12), .ref (ad 13), .int 0, .ref (ad 15), .int 0, .ref (ad 17), .ref (ad 18), .int 0]))]) (va_runV (As := [.int x1, .int 0]) (rest := []) hfix (k_X4_takeBack l dC dI cyB cyI cyJ cyZ cyO ad gd x1 _) (cwV 2 hts (gi_V (ow_m (k := 2) rfl) (ow_m (k := 3) rfl) (ow_m (k := 4) rfl) (ow_m (k := 5) rfl) (sb_c sb_l) gd_k_X4_takeBack) rfl rfl rfl (by decide +kernel) ⟨Nat.le_of_ble_eq_true rfl, Nat.le_of_ble_eq_true rfl⟩) (g_preV hKN hP hD [1] rfl (by decide) 0 4 rfl rfl) rfl rfl hl.1 rfl (lv_room (Nat.le_of_ble_eq_true rfl)) dX6_untell_9 ⟨Nat.le_of_ble_eq_true rfl, Nat.le_of_ble_eq_true rfl⟩) hP hD hS hA [1] [0] rfl rfl (by decide) (by decide) (fun r1258 u1259 H locs qu1259 hP hD hS => ?_)
  have hP : va_P (dC, dI) vwCl [(h0, .inr (6, [.ref (ad 0), .int 0, .ref (ad 2), .ref (ad 3), .ref (ad 4), .ref (ad 5), .ref (ad 6), .int 0, .int 0, .ref (ad 9), .ref (ad 10), .ref (ad 11), .ref (ad 12), .ref (ad 13), .int 0, .ref (ad 15), .int 0, .ref (ad 17), .ref (ad 18), .int 0])), (ad 17, .inr (4, [.ref (gd 0), .ref (gd 1), .ref (gd 2), .ref (gd 3), .int 0]))] H := hP
  have hD : va_D A [(h0, .inr (6, [.ref (ad 0), .int 0, .ref (ad 2), .ref (ad 3), .ref (ad 4), .ref (ad 5), .ref (ad 6), .int 0, .int 0, .ref (ad 9), .ref (ad 10), .ref (ad 11), .ref (ad 12), .ref (ad 13), .int 0, .ref (ad 15), .int 0, .ref (ad 17), .ref (ad 18), .int 0])), (ad 17, .inr (4, [.ref (gd 0), .ref (gd 1), .ref (gd 2), .ref (gd 3), .int 0]))] := hD
  rcases qu1259 with ⟨rfl, b1260⟩ | ⟨rfl, b1261, b1262⟩
  · skip
    exact W.zret (v := 0) hx hb hr (by decide) (fun t ht hW => ⟨⟨0, (), rfl, rfl, cE.nil⟩, hS.F ht⟩) hS.2.2 dX6_untell_12
  · skip
    exact W.zret (v := 0) hx hb hr (by decide) (fun t ht hW => ⟨⟨0, (), rfl, rfl, cE.nil⟩, hS.F ht⟩) hS.2.2 dX6_untell_12
def wo_c_C_later : List Cond := [.fieldLink RX6 317 "ReplicaChain" "time" "I", .constant RX6 327 100000]
def wq_c_C_later : List Cond := .code yX6_later cX6_later 2 (some .int) :: (wo_c_C_later ++ (wsX60 ++ []))
theorem gd_c_C_later : Gd wq_c_C_later := gd_c (gd_a (gd_o (by decide +kernel)) (gd_a gd_u gd_0))
abbrev wc_c_C_later (cyB cyI cyJ cyZ cyO : ClassId) (h0 : Nat) (ad : Nat → Nat) (x1 : Int32) : va_W := [(h0, .inr (6, [.ref (ad 0), .int 0, .ref (ad 2), .ref (ad 3), .ref (ad 4), .ref (ad 5), .ref (ad 6), .int 0, .int 0, .ref (ad 9), .ref (ad 10), .ref (ad 11), .ref (ad 12), .ref (ad 13), .int 0, .ref (ad 15), .int 0, .ref (ad 17), .ref (ad 18), .int 0]))]
set_option maxHeartbeats 4000000 in
set_option maxRecDepth 100000 in
theorem c_C_later (l : Launch) (dC : Nat → ClassId) (dI : Nat → Nat → Nat) (cyB cyI cyJ cyZ cyO : ClassId) (h0 : Nat) (ad : Nat → Nat) (x1 : Int32) (sz : Nat) : Met l yX6_later wq_c_C_later ({ frames := 0, cells := 0, slots := 0, locals := 0 }) (va_Pc [.ref h0, .int x1] (cB (dC, dI) (kT cyB cyI cyJ cyZ cyO) (wc_c_C_later cyB cyI cyJ cyZ cyO h0 ad x1) sz)) (va_Qi (fun (r : Int32) (_ : Unit) => r = sp_later x1) (fun (u : Unit) t => cE (dC, dI) (va_A (wc_c_C_later cyB cyI cyJ cyZ cyO h0 ad x1) sz) ([]) t.heap) (va_A (wc_c_C_later cyB cyI cyJ cyZ cyO h0 ad x1) sz)) 0 0 (va_A (wc_c_C_later cyB cyI cyJ cyZ cyO h0 ad x1) sz) := by
  refine Met.ofW (cc := cX6_later) (maxL := 2) (ret := (some .int)) (by decide) rfl ?_
  intro p e s m args below meth c s₁ B hml hv
  obtain ⟨rfl, hsz, hP, hKN, hD0⟩ := hv
  have hx := B.exec
  have hb := B.bytes
  have hr := B.returns
  have hts := atoms_spec (ws := wq_c_C_later) B.pre
  have hown : s.vm.findClass RX6 = some m.cls := findClass_of_methodNamed B.named
  have hlocks := B.notSynchronized
  have hK := hKN.1
  have hfix : CallFix p m c cX6_later 2 s [.ref h0, .int x1].toArray wq_c_C_later RX6 := ⟨hx, hb, hml, hown, hts⟩
  have hi6 : ∀ w ∈ wsX60, w ∈ wq_c_C_later := (sb_c sb_l)
  subst hsz
  have hD := hD0.self (sz := s.heap.size)
  generalize hAe : va_A (wc_c_C_later cyB cyI cyJ cyZ cyO h0 ad x1) s.heap.size = A at hD ⊢
  have hA : ∀ q : Nat, s.heap.size ≤ q → A q := fun q h => by rw [← hAe]; exact Or.inr h
  have hS : va_S A s.heap s.heap [] := va_S.rf
  have hl := lv_entry ([.ref h0, .int x1]) (n := 2) (Nat.le_of_ble_eq_true rfl)
  rw [lg_entry_eq]
  generalize (lg_sl ([.ref h0, .int x1]) ++ List.replicate (2 - (lg_sl ([.ref h0, .int x1])).length) Slot.unset).toArray = ls at hl ⊢
  have hl : lv_has ls 2 [(0, .ref h0), (1, .int x1)] := hl
  refine lv_iload_n hx hb dX6_later_0 rfl (lv_at hl 1 rfl) ?_
  refine lv_if_lt (tgt := 23) hx hb dX6_later_1 (by decide) (fun c1266 => ?_) (fun c1266 => ?_)
  · have c1266 := i_lt (a := x1.toInt) (b := 0) c1266 rfl (by decide)
    refine lv_iconst (v := (-1)) hx hb dX6_later_23 (by decide) ?_
    exact W.iret (v := (-1)) hx hb hr (fun t ht hW => ⟨⟨(-1), (), rfl, (by first | decide | (unfold sp_later; (repeat' split) <;> first | rfl | omega)), cE.nil⟩, hS.F ht⟩) hS.2.2 dX6_later_24
  · have c1266 := i_nlt (a := x1.toInt) (b := 0) c1266 rfl (by decide)
    refine lv_iload_n hx hb dX6_later_4 rfl (lv_at hl 1 rfl) ?_
    refine lv_sipush (v := 1000) hx hb dX6_later_5 (by decide) ?_
    refine lv_icmp_gt (tgt := 23) hx hb dX6_later_8 (by decide) (fun c1267 => ?_) (fun c1267 => ?_)
    · have c1267 := i_lt (a := 1000) (b := x1.toInt) c1267 (by decide) rfl
      refine lv_iconst (v := (-1)) hx hb dX6_later_23 (by decide) ?_
      exact W.iret (v := (-1)) hx hb hr (fun t ht hW => ⟨⟨(-1), (), rfl, (by first | decide | (unfold sp_later; (repeat' split) <;> first | rfl | omega)), cE.nil⟩, hS.F ht⟩) hS.2.2 dX6_later_24
    · have c1267 := i_nlt (a := 1000) (b := x1.toInt) c1267 (by decide) rfl
      refine lv_aload_n hx hb dX6_later_11 rfl (lv_at hl 0 rfl) ?_
      refine va_get (D := (dC, dI)) (ci := 6) (v := .int 0) (C := RX6) (T := TX6) (N := 20) hx hb hts hi6 hown hK hP 0 rfl rfl 19 (by decide) (hts _ (ow_m (k := 0) rfl)) (fun _ h9 => h9) rfl dX6_later_12 ?_
      refine lv_iload_n hx hb dX6_later_15 rfl (lv_at hl 1 rfl) ?_
      refine lv_iadd hx hb dX6_later_16 ?_
      refine tp_c (w := x1) (Int32.zero_add  x1) ?_
      refine lv_ldcw (v := 100000) hx hb hown (hts _ (ow_m (k := 1) rfl)) dX6_later_17 ?_
      refine lv_icmp_le (tgt := 25) hx hb dX6_later_20 (by decide) (fun c1268 => ?_) (fun c1268 => ?_)
      · have c1268 := i_le (a := x1.toInt) (b := 100000) c1268 rfl (by decide)
        refine lv_aload_n hx hb dX6_later_25 rfl (lv_at hl 0 rfl) ?_
        refine lv_dup hx hb dX6_later_26 rfl ?_
        refine va_get (D := (dC, dI)) (ci := 6) (v := .int 0) (C := RX6) (T := TX6) (N := 20) hx hb hts hi6 hown hK hP 0 rfl rfl 19 (by decide) (hts _ (ow_m (k := 0) rfl)) (fun _ h9 => h9) rfl dX6_later_27 ?_
        refine lv_iload_n hx hb dX6_later_30 rfl (lv_at hl 1 rfl) ?_
        refine lv_iadd hx hb dX6_later_31 ?_
        refine tp_c (w := x1) (Int32.zero_add  x1) ?_
        refine va_put (D := (dC, dI)) (ci := 6) (v := .int x1) (ty := .int) (C := RX6) (T := TX6) (N := 20) hx hb hts hi6 tyX6 tyX6_ok nmX6 hown hK hP hD hS 0 rfl rfl 19 (by decide) (hts _ (ow_m (k := 0) rfl)) (fun _ h9 => h9) rfl (by decide +kernel) rfl rfl (Nat.le_of_ble_eq_true rfl) dX6_later_32 (fun H locs hP hD hS => ?_)
        have hP : va_P (dC, dI) vwCl [(h0, .inr (6, [.ref (ad 0), .int 0, .ref (ad 2), .ref (ad 3), .ref (ad 4), .ref (ad 5), .ref (ad 6), .int 0, .int 0, .ref (ad 9), .ref (ad 10), .ref (ad 11), .ref (ad 12), .ref (ad 13), .int 0, .ref (ad 15), .int 0, .ref (ad 17), .ref (ad 18), .int x1]))] H := hP
        have hD : va_D A [(h0, .inr (6, [.ref (ad 0), .int 0, .ref (ad 2), .ref (ad 3), .ref (ad 4), .ref (ad 5), .ref (ad 6), .int 0, .int 0, .ref (ad 9), .ref (ad 10), .ref (ad 11), .ref (ad 12), .ref (ad 13), .int 0, .ref (ad 15), .int 0, .ref (ad 17), .ref (ad 18), .int x1]))] := hD
        refine lv_aload_n hx hb dX6_later_35 rfl (lv_at hl 0 rfl) ?_
        refine va_get (D := (dC, dI)) (ci := 6) (v := .int x1) (C := RX6) (T := TX6) (N := 20) hx hb hts hi6 hown hK hP 0 rfl rfl 19 (by decide) (hts _ (ow_m (k := 0) rfl)) (fun _ h9 => h9) rfl dX6_later_36 ?_
        exact W.iret (v := x1) hx hb hr (fun t ht hW => ⟨⟨x1, (), rfl, (by first | decide | (unfold sp_later; (repeat' split) <;> first | rfl | omega)), cE.nil⟩, hS.F ht⟩) hS.2.2 dX6_later_39
      · have c1268 := i_nle (a := x1.toInt) (b := 100000) c1268 rfl (by decide)
        exfalso; omega
def wo_k_X6_scenarios_v2 : List Cond := [.fieldLink RX6 16 "ReplicaChain" "plan" "LReplicaChain$Plan;", .fieldLink RX6 94 "ReplicaChain$Plan" "memberCount" "I"]
def wq_k_X6_scenarios_v2 : List Cond := .code yX6_scenarios cX6_scenarios 1 (some .int) :: (wo_k_X6_scenarios_v2 ++ (wsX10 ++ (wsX60 ++ [])))
theorem gd_k_X6_scenarios_v2 : Gd wq_k_X6_scenarios_v2 := gd_c (gd_a (gd_o (by decide +kernel)) (gd_a gd_u (gd_a gd_u gd_0)))
abbrev wc_k_X6_scenarios_v2 (cyB cyI cyJ cyZ cyO : ClassId) (h0 : Nat) (ad : Nat → Nat) (pd : Nat → Nat) : va_W := [(h0, .inr (6, [.ref (ad 0), .int 0, .ref (ad 2), .ref (ad 3), .ref (ad 4), .ref (ad 5), .ref (ad 6), .int 0, .int 0, .ref (ad 9), .ref (ad 10), .ref (ad 11), .ref (ad 12), .ref (ad 13), .int 0, .ref (ad 15), .int 0, .ref (ad 17), .ref (ad 18), .int 0])), (ad 2, .inr (1, [.ref (pd 0), .ref (pd 1), .ref (pd 2), .ref (pd 3), .int 0, .int 0, .int 0, .int 0, .int 2, .int 0, .int 0]))]
set_option maxHeartbeats 4000000 in
set_option maxRecDepth 100000 in
theorem k_X6_scenarios_v2 (l : Launch) (dC : Nat → ClassId) (dI : Nat → Nat → Nat) (cyB cyI cyJ cyZ cyO : ClassId) (h0 : Nat) (ad : Nat → Nat) (pd : Nat → Nat) (sz : Nat) : Met l yX6_scenarios wq_k_X6_scenarios_v2 ({ frames := 0, cells := 0, slots := 0, locals := 0 }) (va_Pc [.ref h0] (cB (dC, dI) (kT cyB cyI cyJ cyZ cyO) (wc_k_X6_scenarios_v2 cyB cyI cyJ cyZ cyO h0 ad pd) sz)) (va_Qi (fun (r : Int32) _ => r = 0) (fun (u : Unit) t => cE (dC, dI) (va_A (wc_k_X6_scenarios_v2 cyB cyI cyJ cyZ cyO h0 ad pd) sz) ([(h0, .inr (6, [.ref (ad 0), .int 0, .ref (ad 2), .ref (ad 3), .ref (ad 4), .ref (ad 5), .ref (ad 6), .int 0, .int 0, .ref (ad 9), .ref (ad 10), .ref (ad 11), .ref (ad 12), .ref (ad 13), .int 0, .ref (ad 15), .int 0, .ref (ad 17), .ref (ad 18), .int 0])), (ad 2, .inr (1, [.ref (pd 0), .ref (pd 1), .ref (pd 2), .ref (pd 3), .int 0, .int 0, .int 0, .int 0, .int 2, .int 0, .int 0]))]) t.heap) (va_A (wc_k_X6_scenarios_v2 cyB cyI cyJ cyZ cyO h0 ad pd) sz)) 0 0 (va_A (wc_k_X6_scenarios_v2 cyB cyI cyJ cyZ cyO h0 ad pd) sz) := by
  refine Met.ofW (cc := cX6_scenarios) (maxL := 1) (ret := (some .int)) (by decide) rfl ?_
  intro p e s m args below meth c s₁ B hml hv
  obtain ⟨rfl, hsz, hP, hKN, hD0⟩ := hv
  have hx := B.exec
  have hb := B.bytes
  have hr := B.returns
  have hts := atoms_spec (ws := wq_k_X6_scenarios_v2) B.pre
  have hown : s.vm.findClass RX6 = some m.cls := findClass_of_methodNamed B.named
  have hlocks := B.notSynchronized
  have hK := hKN.1
  have hfix : CallFix p m c cX6_scenarios 1 s [.ref h0].toArray wq_k_X6_scenarios_v2 RX6 := ⟨hx, hb, hml, hown, hts⟩
  have hi1 : ∀ w ∈ wsX10, w ∈ wq_k_X6_scenarios_v2 := (sb_c sb_l)
  have hi6 : ∀ w ∈ wsX60, w ∈ wq_k_X6_scenarios_v2 := (sb_c (sb_r sb_l))
  subst hsz
  have hD := hD0.self (sz := s.heap.size)
  generalize hAe : va_A (wc_k_X6_scenarios_v2 cyB cyI cyJ cyZ cyO h0 ad pd) s.heap.size = A at hD ⊢
  have hA : ∀ q : Nat, s.heap.size ≤ q → A q := fun q h => by rw [← hAe]; exact Or.inr h
  have hS : va_S A s.heap s.heap [] := va_S.rf
  have hl := lv_entry ([.ref h0]) (n := 1) (Nat.le_of_ble_eq_true rfl)
  rw [lg_entry_eq]
  generalize (lg_sl ([.ref h0]) ++ List.replicate (1 - (lg_sl ([.ref h0])).length) Slot.unset).toArray = ls at hl ⊢
  have hl : lv_has ls 1 [(0, .ref h0)] := hl
  refine lv_aload_n hx hb dX6_scenarios_0 rfl (lv_at hl 0 rfl) ?_
  refine va_get (D := (dC, dI)) (ci := 6) (v := .ref (ad 2)) (C := RX6) (T := TX6) (N := 20) hx hb hts hi6 hown hK hP 0 rfl rfl 2 (by decide) (hts _ (ow_m (k := 0) rfl)) (fun _ h9 => h9) rfl dX6_scenarios_1 ?_
  refine va_get (D := (dC, dI)) (ci := 1) (v := .int 0) (C := RX1) (T := TX1) (N := 11) hx hb hts hi1 hown hK hP 1 rfl rfl 4 (by decide) (hts _ (ow_m (k := 1) rfl)) (fun _ h9 => h9) rfl dX6_scenarios_4 ?_
  refine lv_iconst (v := 2) hx hb dX6_scenarios_7 (by decide) ?_
  refine lv_icmp_ge (tgt := 21) hx hb dX6_scenarios_8 (by decide) (fun c1270 => absurd c1270 (by decide)) (fun _ => ?_)
  refine lv_aload_n hx hb dX6_scenarios_11 rfl (lv_at hl 0 rfl) ?_
  refine va_get (D := (dC, dI)) (ci := 6) (v := .ref (ad 2)) (C := RX6) (T := TX6) (N := 20) hx hb hts hi6 hown hK hP 0 rfl rfl 2 (by decide) (hts _ (ow_m (k := 0) rfl)) (fun _ h9 => h9) rfl dX6_scenarios_12 ?_
  refine va_get (D := (dC, dI)) (ci := 1) (v := .int 0) (C := RX1) (T := TX1) (N := 11) hx hb hts hi1 hown hK hP 1 rfl rfl 4 (by decide) (hts _ (ow_m (k := 1) rfl)) (fun _ h9 => h9) rfl dX6_scenarios_15 ?_
  refine lv_goto (tgt := 30) hx hb dX6_scenarios_18 (by decide) ?_
  exact W.iret (v := 0) hx hb hr (fun t ht hW => ⟨⟨0, (), rfl, rfl, cE.of ht hP hD [0, 1] (by decide) rfl⟩, hS.F ht⟩) hS.2.2 dX6_scenarios_30
def wo_k_X6_fitsAnsweredBy : List Cond := [.methodLink RX6 122 yX6_scenarios, .instanceMethod yX6_scenarios, .selects RX6 yX6_scenarios yX6_scenarios, .initialized RX6]
def wq_k_X6_fitsAnsweredBy : List Cond := .code yX6_fitsAnsweredBy cX6_fitsAnsweredBy 5 (some .int) :: (wo_k_X6_fitsAnsweredBy ++ (wq_k_X6_scenarios_v2 ++ []))
theorem gd_k_X6_fitsAnsweredBy : Gd wq_k_X6_fitsAnsweredBy := gd_c (gd_a (gd_o (by decide +kernel)) (gd_a gd_k_X6_scenarios_v2 gd_0))
abbrev wc_k_X6_fitsAnsweredBy (cyB cyI cyJ cyZ cyO : ClassId) (h0 : Nat) (ad : Nat → Nat) (pd : Nat → Nat) (a2 : Int32) : va_W := [(h0, .inr (6, [.ref (ad 0), .int 0, .ref (ad 2), .ref (ad 3), .ref (ad 4), .ref (ad 5), .ref (ad 6), .int 0, .int 0, .ref (ad 9), .ref (ad 10), .ref (ad 11), .ref (ad 12), .ref (ad 13), .int 0, .ref (ad 15), .int 0, .ref (ad 17), .ref (ad 18), .int 0])), (ad 2, .inr (1, [.ref (pd 0), .ref (pd 1), .ref (pd 2), .ref (pd 3), .int 0, .int 0, .int 0, .int 0, .int 2, .int 0, .int 0]))]
set_option maxHeartbeats 4000000 in
set_option maxRecDepth 100000 in
theorem k_X6_fitsAnsweredBy (l : Launch) (dC : Nat → ClassId) (dI : Nat → Nat → Nat) (cyB cyI cyJ cyZ cyO : ClassId) (h0 : Nat) (ad : Nat → Nat) (pd : Nat → Nat) (a2 : Int32) (sz : Nat) : Met l yX6_fitsAnsweredBy wq_k_X6_fitsAnsweredBy ({ frames := 1, cells := 0, slots := 0, locals := 20 }) (va_Pc [.ref h0, .int 1000000, .int a2] (cB (dC, dI) (kT cyB cyI cyJ cyZ cyO) (wc_k_X6_fitsAnsweredBy cyB cyI cyJ cyZ cyO h0 ad pd a2) sz)) (va_Qi (fun (r : Int32) _ => r = 0) (fun (u : Unit) t => cE (dC, dI) (va_A (wc_k_X6_fitsAnsweredBy cyB cyI cyJ cyZ cyO h0 ad pd a2) sz) ([(h0, .inr (6, [.ref (ad 0), .int 0, .ref (ad 2), .ref (ad 3), .ref (ad 4), .ref (ad 5), .ref (ad 6), .int 0, .int 0, .ref (ad 9), .ref (ad 10), .ref (ad 11), .ref (ad 12), .ref (ad 13), .int 0, .ref (ad 15), .int 0, .ref (ad 17), .ref (ad 18), .int 0])), (ad 2, .inr (1, [.ref (pd 0), .ref (pd 1), .ref (pd 2), .ref (pd 3), .int 0, .int 0, .int 0, .int 0, .int 2, .int 0, .int 0]))]) t.heap) (va_A (wc_k_X6_fitsAnsweredBy cyB cyI cyJ cyZ cyO h0 ad pd a2) sz)) 0 0 (va_A (wc_k_X6_fitsAnsweredBy cyB cyI cyJ cyZ cyO h0 ad pd a2) sz) := by
  refine Met.ofW (cc := cX6_fitsAnsweredBy) (maxL := 5) (ret := (some .int)) (by decide) rfl ?_
  intro p e s m args below meth c s₁ B hml hv
  obtain ⟨rfl, hsz, hP, hKN, hD0⟩ := hv
  have hx := B.exec
  have hb := B.bytes
  have hr := B.returns
  have hts := atoms_spec (ws := wq_k_X6_fitsAnsweredBy) B.pre
  have hown : s.vm.findClass RX6 = some m.cls := findClass_of_methodNamed B.named
  have hlocks := B.notSynchronized
  have hK := hKN.1
  have hfix : CallFix p m c cX6_fitsAnsweredBy 5 s [.ref h0, .int 1000000, .int a2].toArray wq_k_X6_fitsAnsweredBy RX6 := ⟨hx, hb, hml, hown, hts⟩
  subst hsz
  have hD := hD0.self (sz := s.heap.size)
  generalize hAe : va_A (wc_k_X6_fitsAnsweredBy cyB cyI cyJ cyZ cyO h0 ad pd a2) s.heap.size = A at hD ⊢
  have hA : ∀ q : Nat, s.heap.size ≤ q → A q := fun q h => by rw [← hAe]; exact Or.inr h
  have hS : va_S A s.heap s.heap [] := va_S.rf
  have hl := lv_entry ([.ref h0, .int 1000000, .int a2]) (n := 5) (Nat.le_of_ble_eq_true rfl)
  rw [lg_entry_eq]
  generalize (lg_sl ([.ref h0, .int 1000000, .int a2]) ++ List.replicate (5 - (lg_sl ([.ref h0, .int 1000000, .int a2])).length) Slot.unset).toArray = ls at hl ⊢
  have hl : lv_has ls 5 [(0, .ref h0), (1, .int 1000000), (2, .int a2)] := hl
  refine lv_iconst (v := 0) hx hb dX6_fitsAnsweredBy_0 (by decide) ?_
  refine lv_istore_n (lv' := [(3, .int 0), (0, .ref h0), (1, .int 1000000), (2, .int a2)]) hx hb dX6_fitsAnsweredBy_1 rfl hl (by decide) rfl (fun ls hl => ?_)
  refine lv_iconst (v := 0) hx hb dX6_fitsAnsweredBy_2 (by decide) ?_
  refine lv_istore (lv' := [(4, .int 0), (3, .int 0), (0, .ref h0), (1, .int 1000000), (2, .int a2)]) hx hb dX6_fitsAnsweredBy_3 hl (by decide) rfl (fun ls hl => ?_)
  refine lv_iload hx hb dX6_fitsAnsweredBy_5 (lv_at hl 0 rfl) ?_
  refine lv_aload_n hx hb dX6_fitsAnsweredBy_7 rfl (lv_at hl 2 rfl) ?_
  refine gf_i (wr := []) (va_runV (As := []) (rest := [.int 0]) hfix (k_X6_scenarios_v2 l dC dI cyB cyI cyJ cyZ cyO h0 ad pd _) (cwV 0 hts (gi_V (ow_m (k := 0) rfl) (ow_m (k := 1) rfl) (ow_m (k := 2) rfl) (ow_m (k := 3) rfl) (sb_c sb_l) gd_k_X6_scenarios_v2) rfl rfl rfl (by decide +kernel) ⟨Nat.le_of_ble_eq_true rfl, Nat.le_of_ble_eq_true rfl⟩) (g_preV hKN hP hD [0, 1] rfl (by decide) 0 6 rfl rfl) rfl rfl hl.1 rfl (lv_room (Nat.le_of_ble_eq_true rfl)) dX6_fitsAnsweredBy_8 ⟨Nat.le_of_ble_eq_true rfl, Nat.le_of_ble_eq_true rfl⟩) hP hD hS hA [0, 1] [] rfl rfl (by decide) (by decide) (fun r1275 u1276 H locs qu1276 hP hD hS => ?_)
  have hP : va_P (dC, dI) vwCl [(h0, .inr (6, [.ref (ad 0), .int 0, .ref (ad 2), .ref (ad 3), .ref (ad 4), .ref (ad 5), .ref (ad 6), .int 0, .int 0, .ref (ad 9), .ref (ad 10), .ref (ad 11), .ref (ad 12), .ref (ad 13), .int 0, .ref (ad 15), .int 0, .ref (ad 17), .ref (ad 18), .int 0])), (ad 2, .inr (1, [.ref (pd 0), .ref (pd 1), .ref (pd 2), .ref (pd 3), .int 0, .int 0, .int 0, .int 0, .int 2, .int 0, .int 0]))] H := hP
  have hD : va_D A [(h0, .inr (6, [.ref (ad 0), .int 0, .ref (ad 2), .ref (ad 3), .ref (ad 4), .ref (ad 5), .ref (ad 6), .int 0, .int 0, .ref (ad 9), .ref (ad 10), .ref (ad 11), .ref (ad 12), .ref (ad 13), .int 0, .ref (ad 15), .int 0, .ref (ad 17), .ref (ad 18), .int 0])), (ad 2, .inr (1, [.ref (pd 0), .ref (pd 1), .ref (pd 2), .ref (pd 3), .int 0, .int 0, .int 0, .int 0, .int 2, .int 0, .int 0]))] := hD
  refine tp_c (w := 0) qu1276 ?_
  refine lv_icmp_ge (tgt := 52) hx hb dX6_fitsAnsweredBy_11 (by decide) (fun _ => ?_) (fun c1277 => absurd (by decide) c1277)
  refine lv_iload_n hx hb dX6_fitsAnsweredBy_52 rfl (lv_at hl 1 rfl) ?_
  exact W.iret (v := 0) hx hb hr (fun t ht hW => ⟨⟨0, (), rfl, rfl, cE.of ht hP hD [0, 1] (by decide) rfl⟩, hS.F ht⟩) hS.2.2 dX6_fitsAnsweredBy_53
def wo_c_C_fits : List Cond := [.constant RX6 129 1000000, .methodLink RX6 328 yX6_fitsAnsweredBy, .instanceMethod yX6_fitsAnsweredBy, .selects RX6 yX6_fitsAnsweredBy yX6_fitsAnsweredBy, .initialized RX6]
def wq_c_C_fits : List Cond := .code yX6_fits cX6_fits 2 (some .int) :: (wo_c_C_fits ++ (wq_k_X6_fitsAnsweredBy ++ []))
theorem gd_c_C_fits : Gd wq_c_C_fits := gd_c (gd_a (gd_o (by decide +kernel)) (gd_a gd_k_X6_fitsAnsweredBy gd_0))
abbrev wc_c_C_fits (cyB cyI cyJ cyZ cyO : ClassId) (h0 : Nat) (ad : Nat → Nat) (pd : Nat → Nat) (x1 : Int32) : va_W := [(h0, .inr (6, [.ref (ad 0), .int 0, .ref (ad 2), .ref (ad 3), .ref (ad 4), .ref (ad 5), .ref (ad 6), .int 0, .int 0, .ref (ad 9), .ref (ad 10), .ref (ad 11), .ref (ad 12), .ref (ad 13), .int 0, .ref (ad 15), .int 0, .ref (ad 17), .ref (ad 18), .int 0])), (ad 2, .inr (1, [.ref (pd 0), .ref (pd 1), .ref (pd 2), .ref (pd 3), .int 0, .int 0, .int 0, .int 0, .int 2, .int 0, .int 0]))]
set_option maxHeartbeats 4000000 in
set_option maxRecDepth 100000 in
theorem c_C_fits (l : Launch) (dC : Nat → ClassId) (dI : Nat → Nat → Nat) (cyB cyI cyJ cyZ cyO : ClassId) (h0 : Nat) (ad : Nat → Nat) (pd : Nat → Nat) (x1 : Int32) (sz : Nat) : Met l yX6_fits wq_c_C_fits ({ frames := 2, cells := 0, slots := 0, locals := 44 }) (va_Pc [.ref h0, .int x1] (cB (dC, dI) (kT cyB cyI cyJ cyZ cyO) (wc_c_C_fits cyB cyI cyJ cyZ cyO h0 ad pd x1) sz)) (va_Qi (fun (r : Int32) (_ : Unit) => r = 0) (fun (u : Unit) t => cE (dC, dI) (va_A (wc_c_C_fits cyB cyI cyJ cyZ cyO h0 ad pd x1) sz) ([]) t.heap) (va_A (wc_c_C_fits cyB cyI cyJ cyZ cyO h0 ad pd x1) sz)) 0 0 (va_A (wc_c_C_fits cyB cyI cyJ cyZ cyO h0 ad pd x1) sz) := by
  refine Met.ofW (cc := cX6_fits) (maxL := 2) (ret := (some .int)) (by decide) rfl ?_
  intro p e s m args below meth c s₁ B hml hv
  obtain ⟨rfl, hsz, hP, hKN, hD0⟩ := hv
  have hx := B.exec
  have hb := B.bytes
  have hr := B.returns
  have hts := atoms_spec (ws := wq_c_C_fits) B.pre
  have hown : s.vm.findClass RX6 = some m.cls := findClass_of_methodNamed B.named
  have hlocks := B.notSynchronized
  have hK := hKN.1
  have hfix : CallFix p m c cX6_fits 2 s [.ref h0, .int x1].toArray wq_c_C_fits RX6 := ⟨hx, hb, hml, hown, hts⟩
  subst hsz
  have hD := hD0.self (sz := s.heap.size)
  generalize hAe : va_A (wc_c_C_fits cyB cyI cyJ cyZ cyO h0 ad pd x1) s.heap.size = A at hD ⊢
  have hA : ∀ q : Nat, s.heap.size ≤ q → A q := fun q h => by rw [← hAe]; exact Or.inr h
  have hS : va_S A s.heap s.heap [] := va_S.rf
  have hl := lv_entry ([.ref h0, .int x1]) (n := 2) (Nat.le_of_ble_eq_true rfl)
  rw [lg_entry_eq]
  generalize (lg_sl ([.ref h0, .int x1]) ++ List.replicate (2 - (lg_sl ([.ref h0, .int x1])).length) Slot.unset).toArray = ls at hl ⊢
  have hl : lv_has ls 2 [(0, .ref h0), (1, .int x1)] := hl
  refine lv_aload_n hx hb dX6_fits_0 rfl (lv_at hl 0 rfl) ?_
  refine lv_ldc (v := 1000000) hx hb hown (hts _ (ow_m (k := 0) rfl)) dX6_fits_1 ?_
  refine lv_iload_n hx hb dX6_fits_3 rfl (lv_at hl 1 rfl) ?_
  refine gf_i (wr := []) (va_runV (As := [.int 1000000, .int x1]) (rest := []) hfix (k_X6_fitsAnsweredBy l dC dI cyB cyI cyJ cyZ cyO h0 ad pd x1 _) (cwV 2 hts (gi_V (ow_m (k := 1) rfl) (ow_m (k := 2) rfl) (ow_m (k := 3) rfl) (ow_m (k := 4) rfl) (sb_c sb_l) gd_k_X6_fitsAnsweredBy) rfl rfl rfl (by decide +kernel) ⟨Nat.le_of_ble_eq_true rfl, Nat.le_of_ble_eq_true rfl⟩) (g_preV hKN hP hD [0, 1] rfl (by decide) 0 6 rfl rfl) rfl rfl hl.1 rfl (lv_room (Nat.le_of_ble_eq_true rfl)) dX6_fits_4 ⟨Nat.le_of_ble_eq_true rfl, Nat.le_of_ble_eq_true rfl⟩) hP hD hS hA [0, 1] [] rfl rfl (by decide) (by decide) (fun r1284 u1285 H locs qu1285 hP hD hS => ?_)
  have hP : va_P (dC, dI) vwCl [(h0, .inr (6, [.ref (ad 0), .int 0, .ref (ad 2), .ref (ad 3), .ref (ad 4), .ref (ad 5), .ref (ad 6), .int 0, .int 0, .ref (ad 9), .ref (ad 10), .ref (ad 11), .ref (ad 12), .ref (ad 13), .int 0, .ref (ad 15), .int 0, .ref (ad 17), .ref (ad 18), .int 0])), (ad 2, .inr (1, [.ref (pd 0), .ref (pd 1), .ref (pd 2), .ref (pd 3), .int 0, .int 0, .int 0, .int 0, .int 2, .int 0, .int 0]))] H := hP
  have hD : va_D A [(h0, .inr (6, [.ref (ad 0), .int 0, .ref (ad 2), .ref (ad 3), .ref (ad 4), .ref (ad 5), .ref (ad 6), .int 0, .int 0, .ref (ad 9), .ref (ad 10), .ref (ad 11), .ref (ad 12), .ref (ad 13), .int 0, .ref (ad 15), .int 0, .ref (ad 17), .ref (ad 18), .int 0])), (ad 2, .inr (1, [.ref (pd 0), .ref (pd 1), .ref (pd 2), .ref (pd 3), .int 0, .int 0, .int 0, .int 0, .int 2, .int 0, .int 0]))] := hD
  refine tp_c (w := 0) qu1285 ?_
  exact W.iret (v := 0) hx hb hr (fun t ht hW => ⟨⟨0, (), rfl, rfl, cE.nil⟩, hS.F ht⟩) hS.2.2 dX6_fits_7
def wo_c_C_culprit : List Cond := [.methodLink RX6 122 yX6_scenarios, .instanceMethod yX6_scenarios, .selects RX6 yX6_scenarios yX6_scenarios, .initialized RX6]
def wq_c_C_culprit : List Cond := .code yX6_culprit cX6_culprit 5 (some .int) :: (wo_c_C_culprit ++ (wq_k_X6_scenarios_v2 ++ []))
theorem gd_c_C_culprit : Gd wq_c_C_culprit := gd_c (gd_a (gd_o (by decide +kernel)) (gd_a gd_k_X6_scenarios_v2 gd_0))
abbrev wc_c_C_culprit (cyB cyI cyJ cyZ cyO : ClassId) (h0 : Nat) (ad : Nat → Nat) (pd : Nat → Nat) (x1 : Int32) (x2 : Int32) : va_W := [(h0, .inr (6, [.ref (ad 0), .int 0, .ref (ad 2), .ref (ad 3), .ref (ad 4), .ref (ad 5), .ref (ad 6), .int 0, .int 0, .ref (ad 9), .ref (ad 10), .ref (ad 11), .ref (ad 12), .ref (ad 13), .int 0, .ref (ad 15), .int 0, .ref (ad 17), .ref (ad 18), .int 0])), (ad 2, .inr (1, [.ref (pd 0), .ref (pd 1), .ref (pd 2), .ref (pd 3), .int 0, .int 0, .int 0, .int 0, .int 2, .int 0, .int 0]))]
set_option maxHeartbeats 4000000 in
set_option maxRecDepth 100000 in
theorem c_C_culprit (l : Launch) (dC : Nat → ClassId) (dI : Nat → Nat → Nat) (cyB cyI cyJ cyZ cyO : ClassId) (h0 : Nat) (ad : Nat → Nat) (pd : Nat → Nat) (x1 : Int32) (x2 : Int32) (sz : Nat) : Met l yX6_culprit wq_c_C_culprit ({ frames := 1, cells := 0, slots := 0, locals := 20 }) (va_Pc [.ref h0, .int x1, .int x2] (cB (dC, dI) (kT cyB cyI cyJ cyZ cyO) (wc_c_C_culprit cyB cyI cyJ cyZ cyO h0 ad pd x1 x2) sz)) (va_Qi (fun (r : Int32) (_ : Unit) => r = -2) (fun (u : Unit) t => cE (dC, dI) (va_A (wc_c_C_culprit cyB cyI cyJ cyZ cyO h0 ad pd x1 x2) sz) ([]) t.heap) (va_A (wc_c_C_culprit cyB cyI cyJ cyZ cyO h0 ad pd x1 x2) sz)) 0 0 (va_A (wc_c_C_culprit cyB cyI cyJ cyZ cyO h0 ad pd x1 x2) sz) := by
  refine Met.ofW (cc := cX6_culprit) (maxL := 5) (ret := (some .int)) (by decide) rfl ?_
  intro p e s m args below meth c s₁ B hml hv
  obtain ⟨rfl, hsz, hP, hKN, hD0⟩ := hv
  have hx := B.exec
  have hb := B.bytes
  have hr := B.returns
  have hts := atoms_spec (ws := wq_c_C_culprit) B.pre
  have hown : s.vm.findClass RX6 = some m.cls := findClass_of_methodNamed B.named
  have hlocks := B.notSynchronized
  have hK := hKN.1
  have hfix : CallFix p m c cX6_culprit 5 s [.ref h0, .int x1, .int x2].toArray wq_c_C_culprit RX6 := ⟨hx, hb, hml, hown, hts⟩
  subst hsz
  have hD := hD0.self (sz := s.heap.size)
  generalize hAe : va_A (wc_c_C_culprit cyB cyI cyJ cyZ cyO h0 ad pd x1 x2) s.heap.size = A at hD ⊢
  have hA : ∀ q : Nat, s.heap.size ≤ q → A q := fun q h => by rw [← hAe]; exact Or.inr h
  have hS : va_S A s.heap s.heap [] := va_S.rf
  have hl := lv_entry ([.ref h0, .int x1, .int x2]) (n := 5) (Nat.le_of_ble_eq_true rfl)
  rw [lg_entry_eq]
  generalize (lg_sl ([.ref h0, .int x1, .int x2]) ++ List.replicate (5 - (lg_sl ([.ref h0, .int x1, .int x2])).length) Slot.unset).toArray = ls at hl ⊢
  have hl : lv_has ls 5 [(0, .ref h0), (1, .int x1), (2, .int x2)] := hl
  refine lv_iload_n hx hb dX6_culprit_0 rfl (lv_at hl 1 rfl) ?_
  refine lv_istore_n (lv' := [(3, .int x1), (0, .ref h0), (1, .int x1), (2, .int x2)]) hx hb dX6_culprit_1 rfl hl (by decide) rfl (fun ls hl => ?_)
  refine lv_iconst (v := 0) hx hb dX6_culprit_2 (by decide) ?_
  refine lv_istore (lv' := [(4, .int 0), (3, .int x1), (0, .ref h0), (1, .int x1), (2, .int x2)]) hx hb dX6_culprit_3 hl (by decide) rfl (fun ls hl => ?_)
  refine lv_iload hx hb dX6_culprit_5 (lv_at hl 0 rfl) ?_
  refine lv_aload_n hx hb dX6_culprit_7 rfl (lv_at hl 2 rfl) ?_
  refine gf_i (wr := []) (va_runV (As := []) (rest := [.int 0]) hfix (k_X6_scenarios_v2 l dC dI cyB cyI cyJ cyZ cyO h0 ad pd _) (cwV 0 hts (gi_V (ow_m (k := 0) rfl) (ow_m (k := 1) rfl) (ow_m (k := 2) rfl) (ow_m (k := 3) rfl) (sb_c sb_l) gd_k_X6_scenarios_v2) rfl rfl rfl (by decide +kernel) ⟨Nat.le_of_ble_eq_true rfl, Nat.le_of_ble_eq_true rfl⟩) (g_preV hKN hP hD [0, 1] rfl (by decide) 0 6 rfl rfl) rfl rfl hl.1 rfl (lv_room (Nat.le_of_ble_eq_true rfl)) dX6_culprit_8 ⟨Nat.le_of_ble_eq_true rfl, Nat.le_of_ble_eq_true rfl⟩) hP hD hS hA [0, 1] [] rfl rfl (by decide) (by decide) (fun r1291 u1292 H locs qu1292 hP hD hS => ?_)
  have hP : va_P (dC, dI) vwCl [(h0, .inr (6, [.ref (ad 0), .int 0, .ref (ad 2), .ref (ad 3), .ref (ad 4), .ref (ad 5), .ref (ad 6), .int 0, .int 0, .ref (ad 9), .ref (ad 10), .ref (ad 11), .ref (ad 12), .ref (ad 13), .int 0, .ref (ad 15), .int 0, .ref (ad 17), .ref (ad 18), .int 0])), (ad 2, .inr (1, [.ref (pd 0), .ref (pd 1), .ref (pd 2), .ref (pd 3), .int 0, .int 0, .int 0, .int 0, .int 2, .int 0, .int 0]))] H := hP
  have hD : va_D A [(h0, .inr (6, [.ref (ad 0), .int 0, .ref (ad 2), .ref (ad 3), .ref (ad 4), .ref (ad 5), .ref (ad 6), .int 0, .int 0, .ref (ad 9), .ref (ad 10), .ref (ad 11), .ref (ad 12), .ref (ad 13), .int 0, .ref (ad 15), .int 0, .ref (ad 17), .ref (ad 18), .int 0])), (ad 2, .inr (1, [.ref (pd 0), .ref (pd 1), .ref (pd 2), .ref (pd 3), .int 0, .int 0, .int 0, .int 0, .int 2, .int 0, .int 0]))] := hD
  refine tp_c (w := 0) qu1292 ?_
  refine lv_icmp_ge (tgt := 50) hx hb dX6_culprit_11 (by decide) (fun _ => ?_) (fun c1293 => absurd (by decide) c1293)
  refine lv_bipush (v := (-2)) hx hb dX6_culprit_50 (by decide) ?_
  exact W.iret (v := (-2)) hx hb hr (fun t ht hW => ⟨⟨(-2), (), rfl, rfl, cE.nil⟩, hS.F ht⟩) hS.2.2 dX6_culprit_52
def wo_k_X6_fits : List Cond := [.constant RX6 129 1000000, .methodLink RX6 328 yX6_fitsAnsweredBy, .instanceMethod yX6_fitsAnsweredBy, .selects RX6 yX6_fitsAnsweredBy yX6_fitsAnsweredBy, .initialized RX6]
def wq_k_X6_fits : List Cond := .code yX6_fits cX6_fits 2 (some .int) :: (wo_k_X6_fits ++ (wq_k_X6_fitsAnsweredBy ++ []))
theorem gd_k_X6_fits : Gd wq_k_X6_fits := gd_c (gd_a (gd_o (by decide +kernel)) (gd_a gd_k_X6_fitsAnsweredBy gd_0))
abbrev wc_k_X6_fits (cyB cyI cyJ cyZ cyO : ClassId) (h0 : Nat) (ad : Nat → Nat) (pd : Nat → Nat) (a1 : Int32) : va_W := [(h0, .inr (6, [.ref (ad 0), .int 0, .ref (ad 2), .ref (ad 3), .ref (ad 4), .ref (ad 5), .ref (ad 6), .int 0, .int 0, .ref (ad 9), .ref (ad 10), .ref (ad 11), .ref (ad 12), .ref (ad 13), .int 0, .ref (ad 15), .int 0, .ref (ad 17), .ref (ad 18), .int 0])), (ad 2, .inr (1, [.ref (pd 0), .ref (pd 1), .ref (pd 2), .ref (pd 3), .int 0, .int 0, .int 0, .int 0, .int 2, .int 0, .int 0]))]
set_option maxHeartbeats 4000000 in
set_option maxRecDepth 100000 in
theorem k_X6_fits (l : Launch) (dC : Nat → ClassId) (dI : Nat → Nat → Nat) (cyB cyI cyJ cyZ cyO : ClassId) (h0 : Nat) (ad : Nat → Nat) (pd : Nat → Nat) (a1 : Int32) (sz : Nat) : Met l yX6_fits wq_k_X6_fits ({ frames := 2, cells := 0, slots := 0, locals := 44 }) (va_Pc [.ref h0, .int a1] (cB (dC, dI) (kT cyB cyI cyJ cyZ cyO) (wc_k_X6_fits cyB cyI cyJ cyZ cyO h0 ad pd a1) sz)) (va_Qi (fun (r : Int32) _ => r = 0) (fun (u : Unit) t => cE (dC, dI) (va_A (wc_k_X6_fits cyB cyI cyJ cyZ cyO h0 ad pd a1) sz) ([(h0, .inr (6, [.ref (ad 0), .int 0, .ref (ad 2), .ref (ad 3), .ref (ad 4), .ref (ad 5), .ref (ad 6), .int 0, .int 0, .ref (ad 9), .ref (ad 10), .ref (ad 11), .ref (ad 12), .ref (ad 13), .int 0, .ref (ad 15), .int 0, .ref (ad 17), .ref (ad 18), .int 0])), (ad 2, .inr (1, [.ref (pd 0), .ref (pd 1), .ref (pd 2), .ref (pd 3), .int 0, .int 0, .int 0, .int 0, .int 2, .int 0, .int 0]))]) t.heap) (va_A (wc_k_X6_fits cyB cyI cyJ cyZ cyO h0 ad pd a1) sz)) 0 0 (va_A (wc_k_X6_fits cyB cyI cyJ cyZ cyO h0 ad pd a1) sz) := by
  refine Met.ofW (cc := cX6_fits) (maxL := 2) (ret := (some .int)) (by decide) rfl ?_
  intro p e s m args below meth c s₁ B hml hv
  obtain ⟨rfl, hsz, hP, hKN, hD0⟩ := hv
  have hx := B.exec
  have hb := B.bytes
  have hr := B.returns
  have hts := atoms_spec (ws := wq_k_X6_fits) B.pre
  have hown : s.vm.findClass RX6 = some m.cls := findClass_of_methodNamed B.named
  have hlocks := B.notSynchronized
  have hK := hKN.1
  have hfix : CallFix p m c cX6_fits 2 s [.ref h0, .int a1].toArray wq_k_X6_fits RX6 := ⟨hx, hb, hml, hown, hts⟩
  subst hsz
  have hD := hD0.self (sz := s.heap.size)
  generalize hAe : va_A (wc_k_X6_fits cyB cyI cyJ cyZ cyO h0 ad pd a1) s.heap.size = A at hD ⊢
  have hA : ∀ q : Nat, s.heap.size ≤ q → A q := fun q h => by rw [← hAe]; exact Or.inr h
  have hS : va_S A s.heap s.heap [] := va_S.rf
  have hl := lv_entry ([.ref h0, .int a1]) (n := 2) (Nat.le_of_ble_eq_true rfl)
  rw [lg_entry_eq]
  generalize (lg_sl ([.ref h0, .int a1]) ++ List.replicate (2 - (lg_sl ([.ref h0, .int a1])).length) Slot.unset).toArray = ls at hl ⊢
  have hl : lv_has ls 2 [(0, .ref h0), (1, .int a1)] := hl
  refine lv_aload_n hx hb dX6_fits_0 rfl (lv_at hl 0 rfl) ?_
  refine lv_ldc (v := 1000000) hx hb hown (hts _ (ow_m (k := 0) rfl)) dX6_fits_1 ?_
  refine lv_iload_n hx hb dX6_fits_3 rfl (lv_at hl 1 rfl) ?_
  refine gf_i (wr := []) (va_runV (As := [.int 1000000, .int a1]) (rest := []) hfix (k_X6_fitsAnsweredBy l dC dI cyB cyI cyJ cyZ cyO h0 ad pd a1 _) (cwV 2 hts (gi_V (ow_m (k := 1) rfl) (ow_m (k := 2) rfl) (ow_m (k := 3) rfl) (ow_m (k := 4) rfl) (sb_c sb_l) gd_k_X6_fitsAnsweredBy) rfl rfl rfl (by decide +kernel) ⟨Nat.le_of_ble_eq_true rfl, Nat.le_of_ble_eq_true rfl⟩) (g_preV hKN hP hD [0, 1] rfl (by decide) 0 6 rfl rfl) rfl rfl hl.1 rfl (lv_room (Nat.le_of_ble_eq_true rfl)) dX6_fits_4 ⟨Nat.le_of_ble_eq_true rfl, Nat.le_of_ble_eq_true rfl⟩) hP hD hS hA [0, 1] [] rfl rfl (by decide) (by decide) (fun r1304 u1305 H locs qu1305 hP hD hS => ?_)
  have hP : va_P (dC, dI) vwCl [(h0, .inr (6, [.ref (ad 0), .int 0, .ref (ad 2), .ref (ad 3), .ref (ad 4), .ref (ad 5), .ref (ad 6), .int 0, .int 0, .ref (ad 9), .ref (ad 10), .ref (ad 11), .ref (ad 12), .ref (ad 13), .int 0, .ref (ad 15), .int 0, .ref (ad 17), .ref (ad 18), .int 0])), (ad 2, .inr (1, [.ref (pd 0), .ref (pd 1), .ref (pd 2), .ref (pd 3), .int 0, .int 0, .int 0, .int 0, .int 2, .int 0, .int 0]))] H := hP
  have hD : va_D A [(h0, .inr (6, [.ref (ad 0), .int 0, .ref (ad 2), .ref (ad 3), .ref (ad 4), .ref (ad 5), .ref (ad 6), .int 0, .int 0, .ref (ad 9), .ref (ad 10), .ref (ad 11), .ref (ad 12), .ref (ad 13), .int 0, .ref (ad 15), .int 0, .ref (ad 17), .ref (ad 18), .int 0])), (ad 2, .inr (1, [.ref (pd 0), .ref (pd 1), .ref (pd 2), .ref (pd 3), .int 0, .int 0, .int 0, .int 0, .int 2, .int 0, .int 0]))] := hD
  refine tp_c (w := 0) qu1305 ?_
  exact W.iret (v := 0) hx hb hr (fun t ht hW => ⟨⟨0, (), rfl, rfl, cE.of ht hP hD [0, 1] (by decide) rfl⟩, hS.F ht⟩) hS.2.2 dX6_fits_7
def wo_c_C_ask : List Cond := [.methodLink RX6 334 yX6_fits, .instanceMethod yX6_fits, .selects RX6 yX6_fits yX6_fits, .initialized RX6]
def wq_c_C_ask : List Cond := .code yX6_ask cX6_ask 9 (some .int) :: (wo_c_C_ask ++ (wq_k_X6_fits ++ []))
theorem gd_c_C_ask : Gd wq_c_C_ask := gd_c (gd_a (gd_o (by decide +kernel)) (gd_a gd_k_X6_fits gd_0))
abbrev wc_c_C_ask (cyB cyI cyJ cyZ cyO : ClassId) (h0 : Nat) (ad : Nat → Nat) (pd : Nat → Nat) (x1 : Int32) (x2 : Int32) : va_W := [(h0, .inr (6, [.ref (ad 0), .int 0, .ref (ad 2), .ref (ad 3), .ref (ad 4), .ref (ad 5), .ref (ad 6), .int 0, .int 0, .ref (ad 9), .ref (ad 10), .ref (ad 11), .ref (ad 12), .ref (ad 13), .int 0, .ref (ad 15), .int 0, .ref (ad 17), .ref (ad 18), .int 0])), (ad 2, .inr (1, [.ref (pd 0), .ref (pd 1), .ref (pd 2), .ref (pd 3), .int 0, .int 0, .int 0, .int 0, .int 2, .int 0, .int 0]))]
set_option maxHeartbeats 4000000 in
set_option maxRecDepth 100000 in
theorem c_C_ask (l : Launch) (dC : Nat → ClassId) (dI : Nat → Nat → Nat) (cyB cyI cyJ cyZ cyO : ClassId) (h0 : Nat) (ad : Nat → Nat) (pd : Nat → Nat) (x1 : Int32) (x2 : Int32) (sz : Nat) : Met l yX6_ask wq_c_C_ask ({ frames := 3, cells := 0, slots := 0, locals := 65 }) (va_Pc [.ref h0, .int x1, .int x2] (cB (dC, dI) (kT cyB cyI cyJ cyZ cyO) (wc_c_C_ask cyB cyI cyJ cyZ cyO h0 ad pd x1 x2) sz)) (va_Qi (fun (r : Int32) (_ : Unit) => r = -1) (fun (u : Unit) t => cE (dC, dI) (va_A (wc_c_C_ask cyB cyI cyJ cyZ cyO h0 ad pd x1 x2) sz) ([]) t.heap) (va_A (wc_c_C_ask cyB cyI cyJ cyZ cyO h0 ad pd x1 x2) sz)) 0 0 (va_A (wc_c_C_ask cyB cyI cyJ cyZ cyO h0 ad pd x1 x2) sz) := by
  refine Met.ofW (cc := cX6_ask) (maxL := 9) (ret := (some .int)) (by decide) rfl ?_
  intro p e s m args below meth c s₁ B hml hv
  obtain ⟨rfl, hsz, hP, hKN, hD0⟩ := hv
  have hx := B.exec
  have hb := B.bytes
  have hr := B.returns
  have hts := atoms_spec (ws := wq_c_C_ask) B.pre
  have hown : s.vm.findClass RX6 = some m.cls := findClass_of_methodNamed B.named
  have hlocks := B.notSynchronized
  have hK := hKN.1
  have hfix : CallFix p m c cX6_ask 9 s [.ref h0, .int x1, .int x2].toArray wq_c_C_ask RX6 := ⟨hx, hb, hml, hown, hts⟩
  subst hsz
  have hD := hD0.self (sz := s.heap.size)
  generalize hAe : va_A (wc_c_C_ask cyB cyI cyJ cyZ cyO h0 ad pd x1 x2) s.heap.size = A at hD ⊢
  have hA : ∀ q : Nat, s.heap.size ≤ q → A q := fun q h => by rw [← hAe]; exact Or.inr h
  have hS : va_S A s.heap s.heap [] := va_S.rf
  have hl := lv_entry ([.ref h0, .int x1, .int x2]) (n := 9) (Nat.le_of_ble_eq_true rfl)
  rw [lg_entry_eq]
  generalize (lg_sl ([.ref h0, .int x1, .int x2]) ++ List.replicate (9 - (lg_sl ([.ref h0, .int x1, .int x2])).length) Slot.unset).toArray = ls at hl ⊢
  have hl : lv_has ls 9 [(0, .ref h0), (1, .int x1), (2, .int x2)] := hl
  refine lv_aload_n hx hb dX6_ask_0 rfl (lv_at hl 0 rfl) ?_
  refine lv_iload_n hx hb dX6_ask_1 rfl (lv_at hl 2 rfl) ?_
  refine gf_i (wr := []) (va_runV (As := [.int x2]) (rest := []) hfix (k_X6_fits l dC dI cyB cyI cyJ cyZ cyO h0 ad pd x2 _) (cwV 1 hts (gi_V (ow_m (k := 0) rfl) (ow_m (k := 1) rfl) (ow_m (k := 2) rfl) (ow_m (k := 3) rfl) (sb_c sb_l) gd_k_X6_fits) rfl rfl rfl (by decide +kernel) ⟨Nat.le_of_ble_eq_true rfl, Nat.le_of_ble_eq_true rfl⟩) (g_preV hKN hP hD [0, 1] rfl (by decide) 0 6 rfl rfl) rfl rfl hl.1 rfl (lv_room (Nat.le_of_ble_eq_true rfl)) dX6_ask_2 ⟨Nat.le_of_ble_eq_true rfl, Nat.le_of_ble_eq_true rfl⟩) hP hD hS hA [0, 1] [] rfl rfl (by decide) (by decide) (fun r1315 u1316 H locs qu1316 hP hD hS => ?_)
  have hP : va_P (dC, dI) vwCl [(h0, .inr (6, [.ref (ad 0), .int 0, .ref (ad 2), .ref (ad 3), .ref (ad 4), .ref (ad 5), .ref (ad 6), .int 0, .int 0, .ref (ad 9), .ref (ad 10), .ref (ad 11), .ref (ad 12), .ref (ad 13), .int 0, .ref (ad 15), .int 0, .ref (ad 17), .ref (ad 18), .int 0])), (ad 2, .inr (1, [.ref (pd 0), .ref (pd 1), .ref (pd 2), .ref (pd 3), .int 0, .int 0, .int 0, .int 0, .int 2, .int 0, .int 0]))] H := hP
  have hD : va_D A [(h0, .inr (6, [.ref (ad 0), .int 0, .ref (ad 2), .ref (ad 3), .ref (ad 4), .ref (ad 5), .ref (ad 6), .int 0, .int 0, .ref (ad 9), .ref (ad 10), .ref (ad 11), .ref (ad 12), .ref (ad 13), .int 0, .ref (ad 15), .int 0, .ref (ad 17), .ref (ad 18), .int 0])), (ad 2, .inr (1, [.ref (pd 0), .ref (pd 1), .ref (pd 2), .ref (pd 3), .int 0, .int 0, .int 0, .int 0, .int 2, .int 0, .int 0]))] := hD
  refine tp_c (w := 0) qu1316 ?_
  refine lv_istore_n (lv' := [(3, .int 0), (0, .ref h0), (1, .int x1), (2, .int x2)]) hx hb dX6_ask_5 rfl hl (by decide) rfl (fun ls hl => ?_)
  refine lv_iload_n hx hb dX6_ask_6 rfl (lv_at hl 0 rfl) ?_
  refine lv_if_eq (tgt := 19) hx hb dX6_ask_7 (by decide) (fun _ => ?_) (fun c1317 => absurd (by decide) c1317)
  refine lv_iconst (v := (-1)) hx hb dX6_ask_19 (by decide) ?_
  exact W.iret (v := (-1)) hx hb hr (fun t ht hW => ⟨⟨(-1), (), rfl, rfl, cE.nil⟩, hS.F ht⟩) hS.2.2 dX6_ask_20
def wo_k_X5_init : List Cond := [.methodLink RX5 3 objectInit, .instanceMethod objectInit, .code objectInit ⟨#[0xb1]⟩ 1 none, .arrayClass .int, .fieldLink RX5 9 "ReplicaChain$State" "row" "[I", .fieldLink RX5 15 "ReplicaChain$State" "has" "[I", .fieldLink RX5 18 "ReplicaChain$State" "clean" "[I", .fieldLink RX5 21 "ReplicaChain$State" "downDue" "[I", .fieldLink RX5 24 "ReplicaChain$State" "upDue" "[I", .fieldLink RX5 27 "ReplicaChain$State" "keys" "[I", .fieldLink RX5 30 "ReplicaChain$State" "values" "[I", .fieldLink RX5 33 "ReplicaChain$State" "copier" "I"]
def wq_k_X5_init : List Cond := .code yX5_init cX5_init 1 none :: (wo_k_X5_init ++ (wsX50 ++ []))
theorem gd_k_X5_init : Gd wq_k_X5_init := gd_c (gd_a (gd_o (by decide +kernel)) (gd_a gd_u gd_0))
abbrev wc_k_X5_init (cyB cyI cyJ cyZ cyO : ClassId) (q1321 : Nat) : va_W := [(q1321, .inr (5, [.null, .null, .null, .null, .null, .null, .null, .int 0, .int 0, .int 0, .int 0, .int 0, .int 0]))]
set_option maxHeartbeats 4000000 in
set_option maxRecDepth 100000 in
theorem k_X5_init (l : Launch) (dC : Nat → ClassId) (dI : Nat → Nat → Nat) (cyB cyI cyJ cyZ cyO : ClassId) (q1321 : Nat) (sz : Nat) : Met l yX5_init wq_k_X5_init ({ frames := 1, cells := 7, slots := 760, locals := 20 }) (va_Pc [.ref q1321] (cB (dC, dI) (kT cyB cyI cyJ cyZ cyO) (wc_k_X5_init cyB cyI cyJ cyZ cyO q1321) sz)) (va_Qv (fun _ => True) (fun (u : Nat → Nat) t => cE (dC, dI) (va_A (wc_k_X5_init cyB cyI cyJ cyZ cyO q1321) sz) ([(q1321, .inr (5, [.ref (u 0), .ref (u 1), .ref (u 2), .ref (u 3), .ref (u 4), .ref (u 5), .ref (u 6), .int 0, .int (-1), .int 0, .int 0, .int 0, .int 0])), (u 0, .inl (cyI, 6, .inl (fun _ => 0))), (u 1, .inl (cyI, 8, .inl (fun _ => 0))), (u 2, .inl (cyI, 8, .inl (fun _ => 0))), (u 3, .inl (cyI, 328, .inl (fun _ => 0))), (u 4, .inl (cyI, 328, .inl (fun _ => 0))), (u 5, .inl (cyI, 41, .inl (fun _ => 0))), (u 6, .inl (cyI, 41, .inl (fun _ => 0)))]) t.heap) (va_A (wc_k_X5_init cyB cyI cyJ cyZ cyO q1321) sz)) 7 760 (va_A (wc_k_X5_init cyB cyI cyJ cyZ cyO q1321) sz) := by
  refine Met.ofW (cc := cX5_init) (maxL := 1) (ret := none) (by decide) rfl ?_
  intro p e s m args below meth c s₁ B hml hv
  obtain ⟨rfl, hsz, hP, hKN, hD0⟩ := hv
  have hx := B.exec
  have hb := B.bytes
  have hr := B.returns
  have hts := atoms_spec (ws := wq_k_X5_init) B.pre
  have hown : s.vm.findClass RX5 = some m.cls := findClass_of_methodNamed B.named
  have hlocks := B.notSynchronized
  have hin : meth.name = "<init>" := (name_of_methodNamed B.named B.method).1
  have hK := hKN.1
  have hfix : CallFix p m c cX5_init 1 s [.ref q1321].toArray wq_k_X5_init RX5 := ⟨hx, hb, hml, hown, hts⟩
  have hi5 : ∀ w ∈ wsX50, w ∈ wq_k_X5_init := (sb_c sb_l)
  subst hsz
  have hD := hD0.self (sz := s.heap.size)
  generalize hAe : va_A (wc_k_X5_init cyB cyI cyJ cyZ cyO q1321) s.heap.size = A at hD ⊢
  have hA : ∀ q : Nat, s.heap.size ≤ q → A q := fun q h => by rw [← hAe]; exact Or.inr h
  have hS : va_S A s.heap s.heap [] := va_S.rf
  have hl := lv_entry ([.ref q1321]) (n := 1) (Nat.le_of_ble_eq_true rfl)
  rw [lg_entry_eq]
  generalize (lg_sl ([.ref q1321]) ++ List.replicate (1 - (lg_sl ([.ref q1321])).length) Slot.unset).toArray = ls at hl ⊢
  have hl : lv_has ls 1 [(0, .ref q1321)] := hl
  refine lv_aload_n hx hb dX5_init_0 rfl (lv_at hl 0 rfl) ?_
  refine W.objInit hx hb hown (hts _ (ow_m (k := 0) rfl)) (hts _ (ow_m (k := 1) rfl)) (hts _ (ow_m (k := 2) rfl)) rfl (by rw [hml]; exact hl.1) rfl dX5_init_1 (Nat.le_of_ble_eq_true rfl) (Nat.le_of_ble_eq_true rfl) ?_
  refine W.eq (g2 := F0 m 4 ls []) rfl ?_
  refine lv_aload_n hx hb dX5_init_4 rfl (lv_at hl 0 rfl) ?_
  refine lv_bipush (v := 6) hx hb dX5_init_5 (by decide) ?_
  refine g_newa (a0 := (6, .inl (fun _ => 0))) hx hb (hts _ (ow_m (k := 3) rfl)) rfl hKN hP hD hS hA 1 rfl rfl (fun _ => rfl) (by decide) (by decide) (by decide) (Nat.le_of_ble_eq_true rfl) (Nat.le_of_ble_eq_true rfl) dX5_init_7 (fun q1329 H hP hD hS => ?_)
  have hP : va_P (dC, dI) vwCl [(q1321, .inr (5, [.null, .null, .null, .null, .null, .null, .null, .int 0, .int 0, .int 0, .int 0, .int 0, .int 0])), (q1329, .inl (cyI, 6, .inl (fun _ => 0)))] H := hP
  have hD : va_D A [(q1321, .inr (5, [.null, .null, .null, .null, .null, .null, .null, .int 0, .int 0, .int 0, .int 0, .int 0, .int 0])), (q1329, .inl (cyI, 6, .inl (fun _ => 0)))] := hD
  refine W.widen (k := 1) (n := 6) (by omega) (by omega) ?_
  refine va_putF (D := (dC, dI)) (ci := 5) (v := .ref q1329) (ty := .array .int) (C := RX5) (T := TX5) (N := 13) hx hb hts hi5 tyX5 tyX5_ok nmX5 hown hK hP hD hS 0 rfl rfl 0 (by decide) (hts _ (ow_m (k := 4) rfl)) (fun _ h9 => h9) rfl hin rfl (by decide +kernel) rfl rfl (Nat.le_of_ble_eq_true rfl) dX5_init_9 (fun H locs hP hD hS => ?_)
  have hP : va_P (dC, dI) vwCl [(q1321, .inr (5, [.ref q1329, .null, .null, .null, .null, .null, .null, .int 0, .int 0, .int 0, .int 0, .int 0, .int 0])), (q1329, .inl (cyI, 6, .inl (fun _ => 0)))] H := hP
  have hD : va_D A [(q1321, .inr (5, [.ref q1329, .null, .null, .null, .null, .null, .null, .int 0, .int 0, .int 0, .int 0, .int 0, .int 0])), (q1329, .inl (cyI, 6, .inl (fun _ => 0)))] := hD
  refine lv_aload_n hx hb dX5_init_12 rfl (lv_at hl 0 rfl) ?_
  refine lv_bipush (v := 8) hx hb dX5_init_13 (by decide) ?_
  refine g_newa (a0 := (8, .inl (fun _ => 0))) hx hb (hts _ (ow_m (k := 3) rfl)) rfl hKN hP hD hS hA 1 rfl rfl (fun _ => rfl) (by decide) (by decide) (by decide) (Nat.le_of_ble_eq_true rfl) (Nat.le_of_ble_eq_true rfl) dX5_init_15 (fun q1330 H hP hD hS => ?_)
  have hP : va_P (dC, dI) vwCl [(q1321, .inr (5, [.ref q1329, .null, .null, .null, .null, .null, .null, .int 0, .int 0, .int 0, .int 0, .int 0, .int 0])), (q1329, .inl (cyI, 6, .inl (fun _ => 0))), (q1330, .inl (cyI, 8, .inl (fun _ => 0)))] H := hP
  have hD : va_D A [(q1321, .inr (5, [.ref q1329, .null, .null, .null, .null, .null, .null, .int 0, .int 0, .int 0, .int 0, .int 0, .int 0])), (q1329, .inl (cyI, 6, .inl (fun _ => 0))), (q1330, .inl (cyI, 8, .inl (fun _ => 0)))] := hD
  refine W.widen (k := 2) (n := 14) (by omega) (by omega) ?_
  refine va_putF (D := (dC, dI)) (ci := 5) (v := .ref q1330) (ty := .array .int) (C := RX5) (T := TX5) (N := 13) hx hb hts hi5 tyX5 tyX5_ok nmX5 hown hK hP hD hS 0 rfl rfl 1 (by decide) (hts _ (ow_m (k := 5) rfl)) (fun _ h9 => h9) rfl hin rfl (by decide +kernel) rfl rfl (Nat.le_of_ble_eq_true rfl) dX5_init_17 (fun H locs hP hD hS => ?_)
  have hP : va_P (dC, dI) vwCl [(q1321, .inr (5, [.ref q1329, .ref q1330, .null, .null, .null, .null, .null, .int 0, .int 0, .int 0, .int 0, .int 0, .int 0])), (q1329, .inl (cyI, 6, .inl (fun _ => 0))), (q1330, .inl (cyI, 8, .inl (fun _ => 0)))] H := hP
  have hD : va_D A [(q1321, .inr (5, [.ref q1329, .ref q1330, .null, .null, .null, .null, .null, .int 0, .int 0, .int 0, .int 0, .int 0, .int 0])), (q1329, .inl (cyI, 6, .inl (fun _ => 0))), (q1330, .inl (cyI, 8, .inl (fun _ => 0)))] := hD
  refine lv_aload_n hx hb dX5_init_20 rfl (lv_at hl 0 rfl) ?_
  refine lv_bipush (v := 8) hx hb dX5_init_21 (by decide) ?_
  refine g_newa (a0 := (8, .inl (fun _ => 0))) hx hb (hts _ (ow_m (k := 3) rfl)) rfl hKN hP hD hS hA 1 rfl rfl (fun _ => rfl) (by decide) (by decide) (by decide) (Nat.le_of_ble_eq_true rfl) (Nat.le_of_ble_eq_true rfl) dX5_init_23 (fun q1331 H hP hD hS => ?_)
  have hP : va_P (dC, dI) vwCl [(q1321, .inr (5, [.ref q1329, .ref q1330, .null, .null, .null, .null, .null, .int 0, .int 0, .int 0, .int 0, .int 0, .int 0])), (q1329, .inl (cyI, 6, .inl (fun _ => 0))), (q1330, .inl (cyI, 8, .inl (fun _ => 0))), (q1331, .inl (cyI, 8, .inl (fun _ => 0)))] H := hP
  have hD : va_D A [(q1321, .inr (5, [.ref q1329, .ref q1330, .null, .null, .null, .null, .null, .int 0, .int 0, .int 0, .int 0, .int 0, .int 0])), (q1329, .inl (cyI, 6, .inl (fun _ => 0))), (q1330, .inl (cyI, 8, .inl (fun _ => 0))), (q1331, .inl (cyI, 8, .inl (fun _ => 0)))] := hD
  refine W.widen (k := 3) (n := 22) (by omega) (by omega) ?_
  refine va_putF (D := (dC, dI)) (ci := 5) (v := .ref q1331) (ty := .array .int) (C := RX5) (T := TX5) (N := 13) hx hb hts hi5 tyX5 tyX5_ok nmX5 hown hK hP hD hS 0 rfl rfl 2 (by decide) (hts _ (ow_m (k := 6) rfl)) (fun _ h9 => h9) rfl hin rfl (by decide +kernel) rfl rfl (Nat.le_of_ble_eq_true rfl) dX5_init_25 (fun H locs hP hD hS => ?_)
  have hP : va_P (dC, dI) vwCl [(q1321, .inr (5, [.ref q1329, .ref q1330, .ref q1331, .null, .null, .null, .null, .int 0, .int 0, .int 0, .int 0, .int 0, .int 0])), (q1329, .inl (cyI, 6, .inl (fun _ => 0))), (q1330, .inl (cyI, 8, .inl (fun _ => 0))), (q1331, .inl (cyI, 8, .inl (fun _ => 0)))] H := hP
  have hD : va_D A [(q1321, .inr (5, [.ref q1329, .ref q1330, .ref q1331, .null, .null, .null, .null, .int 0, .int 0, .int 0, .int 0, .int 0, .int 0])), (q1329, .inl (cyI, 6, .inl (fun _ => 0))), (q1330, .inl (cyI, 8, .inl (fun _ => 0))), (q1331, .inl (cyI, 8, .inl (fun _ => 0)))] := hD
  refine lv_aload_n hx hb dX5_init_28 rfl (lv_at hl 0 rfl) ?_
  refine lv_sipush (v := 328) hx hb dX5_init_29 (by decide) ?_
  refine g_newa (a0 := (328, .inl (fun _ => 0))) hx hb (hts _ (ow_m (k := 3) rfl)) rfl hKN hP hD hS hA 1 rfl rfl (fun _ => rfl) (by decide) (by decide) (by decide) (Nat.le_of_ble_eq_true rfl) (Nat.le_of_ble_eq_true rfl) dX5_init_32 (fun q1332 H hP hD hS => ?_)
  have hP : va_P (dC, dI) vwCl [(q1321, .inr (5, [.ref q1329, .ref q1330, .ref q1331, .null, .null, .null, .null, .int 0, .int 0, .int 0, .int 0, .int 0, .int 0])), (q1329, .inl (cyI, 6, .inl (fun _ => 0))), (q1330, .inl (cyI, 8, .inl (fun _ => 0))), (q1331, .inl (cyI, 8, .inl (fun _ => 0))), (q1332, .inl (cyI, 328, .inl (fun _ => 0)))] H := hP
  have hD : va_D A [(q1321, .inr (5, [.ref q1329, .ref q1330, .ref q1331, .null, .null, .null, .null, .int 0, .int 0, .int 0, .int 0, .int 0, .int 0])), (q1329, .inl (cyI, 6, .inl (fun _ => 0))), (q1330, .inl (cyI, 8, .inl (fun _ => 0))), (q1331, .inl (cyI, 8, .inl (fun _ => 0))), (q1332, .inl (cyI, 328, .inl (fun _ => 0)))] := hD
  refine W.widen (k := 4) (n := 350) (by omega) (by omega) ?_
  refine va_putF (D := (dC, dI)) (ci := 5) (v := .ref q1332) (ty := .array .int) (C := RX5) (T := TX5) (N := 13) hx hb hts hi5 tyX5 tyX5_ok nmX5 hown hK hP hD hS 0 rfl rfl 3 (by decide) (hts _ (ow_m (k := 7) rfl)) (fun _ h9 => h9) rfl hin rfl (by decide +kernel) rfl rfl (Nat.le_of_ble_eq_true rfl) dX5_init_34 (fun H locs hP hD hS => ?_)
  have hP : va_P (dC, dI) vwCl [(q1321, .inr (5, [.ref q1329, .ref q1330, .ref q1331, .ref q1332, .null, .null, .null, .int 0, .int 0, .int 0, .int 0, .int 0, .int 0])), (q1329, .inl (cyI, 6, .inl (fun _ => 0))), (q1330, .inl (cyI, 8, .inl (fun _ => 0))), (q1331, .inl (cyI, 8, .inl (fun _ => 0))), (q1332, .inl (cyI, 328, .inl (fun _ => 0)))] H := hP
  have hD : va_D A [(q1321, .inr (5, [.ref q1329, .ref q1330, .ref q1331, .ref q1332, .null, .null, .null, .int 0, .int 0, .int 0, .int 0, .int 0, .int 0])), (q1329, .inl (cyI, 6, .inl (fun _ => 0))), (q1330, .inl (cyI, 8, .inl (fun _ => 0))), (q1331, .inl (cyI, 8, .inl (fun _ => 0))), (q1332, .inl (cyI, 328, .inl (fun _ => 0)))] := hD
  refine lv_aload_n hx hb dX5_init_37 rfl (lv_at hl 0 rfl) ?_
  refine lv_sipush (v := 328) hx hb dX5_init_38 (by decide) ?_
  refine g_newa (a0 := (328, .inl (fun _ => 0))) hx hb (hts _ (ow_m (k := 3) rfl)) rfl hKN hP hD hS hA 1 rfl rfl (fun _ => rfl) (by decide) (by decide) (by decide) (Nat.le_of_ble_eq_true rfl) (Nat.le_of_ble_eq_true rfl) dX5_init_41 (fun q1333 H hP hD hS => ?_)
  have hP : va_P (dC, dI) vwCl [(q1321, .inr (5, [.ref q1329, .ref q1330, .ref q1331, .ref q1332, .null, .null, .null, .int 0, .int 0, .int 0, .int 0, .int 0, .int 0])), (q1329, .inl (cyI, 6, .inl (fun _ => 0))), (q1330, .inl (cyI, 8, .inl (fun _ => 0))), (q1331, .inl (cyI, 8, .inl (fun _ => 0))), (q1332, .inl (cyI, 328, .inl (fun _ => 0))), (q1333, .inl (cyI, 328, .inl (fun _ => 0)))] H := hP
  have hD : va_D A [(q1321, .inr (5, [.ref q1329, .ref q1330, .ref q1331, .ref q1332, .null, .null, .null, .int 0, .int 0, .int 0, .int 0, .int 0, .int 0])), (q1329, .inl (cyI, 6, .inl (fun _ => 0))), (q1330, .inl (cyI, 8, .inl (fun _ => 0))), (q1331, .inl (cyI, 8, .inl (fun _ => 0))), (q1332, .inl (cyI, 328, .inl (fun _ => 0))), (q1333, .inl (cyI, 328, .inl (fun _ => 0)))] := hD
  refine W.widen (k := 5) (n := 678) (by omega) (by omega) ?_
  refine va_putF (D := (dC, dI)) (ci := 5) (v := .ref q1333) (ty := .array .int) (C := RX5) (T := TX5) (N := 13) hx hb hts hi5 tyX5 tyX5_ok nmX5 hown hK hP hD hS 0 rfl rfl 4 (by decide) (hts _ (ow_m (k := 8) rfl)) (fun _ h9 => h9) rfl hin rfl (by decide +kernel) rfl rfl (Nat.le_of_ble_eq_true rfl) dX5_init_43 (fun H locs hP hD hS => ?_)
  have hP : va_P (dC, dI) vwCl [(q1321, .inr (5, [.ref q1329, .ref q1330, .ref q1331, .ref q1332, .ref q1333, .null, .null, .int 0, .int 0, .int 0, .int 0, .int 0, .int 0])), (q1329, .inl (cyI, 6, .inl (fun _ => 0))), (q1330, .inl (cyI, 8, .inl (fun _ => 0))), (q1331, .inl (cyI, 8, .inl (fun _ => 0))), (q1332, .inl (cyI, 328, .inl (fun _ => 0))), (q1333, .inl (cyI, 328, .inl (fun _ => 0)))] H := hP
  have hD : va_D A [(q1321, .inr (5, [.ref q1329, .ref q1330, .ref q1331, .ref q1332, .ref q1333, .null, .null, .int 0, .int 0, .int 0, .int 0, .int 0, .int 0])), (q1329, .inl (cyI, 6, .inl (fun _ => 0))), (q1330, .inl (cyI, 8, .inl (fun _ => 0))), (q1331, .inl (cyI, 8, .inl (fun _ => 0))), (q1332, .inl (cyI, 328, .inl (fun _ => 0))), (q1333, .inl (cyI, 328, .inl (fun _ => 0)))] := hD
  refine lv_aload_n hx hb dX5_init_46 rfl (lv_at hl 0 rfl) ?_
  refine lv_bipush (v := 41) hx hb dX5_init_47 (by decide) ?_
  refine g_newa (a0 := (41, .inl (fun _ => 0))) hx hb (hts _ (ow_m (k := 3) rfl)) rfl hKN hP hD hS hA 1 rfl rfl (fun _ => rfl) (by decide) (by decide) (by decide) (Nat.le_of_ble_eq_true rfl) (Nat.le_of_ble_eq_true rfl) dX5_init_49 (fun q1334 H hP hD hS => ?_)
  have hP : va_P (dC, dI) vwCl [(q1321, .inr (5, [.ref q1329, .ref q1330, .ref q1331, .ref q1332, .ref q1333, .null, .null, .int 0, .int 0, .int 0, .int 0, .int 0, .int 0])), (q1329, .inl (cyI, 6, .inl (fun _ => 0))), (q1330, .inl (cyI, 8, .inl (fun _ => 0))), (q1331, .inl (cyI, 8, .inl (fun _ => 0))), (q1332, .inl (cyI, 328, .inl (fun _ => 0))), (q1333, .inl (cyI, 328, .inl (fun _ => 0))), (q1334, .inl (cyI, 41, .inl (fun _ => 0)))] H := hP
  have hD : va_D A [(q1321, .inr (5, [.ref q1329, .ref q1330, .ref q1331, .ref q1332, .ref q1333, .null, .null, .int 0, .int 0, .int 0, .int 0, .int 0, .int 0])), (q1329, .inl (cyI, 6, .inl (fun _ => 0))), (q1330, .inl (cyI, 8, .inl (fun _ => 0))), (q1331, .inl (cyI, 8, .inl (fun _ => 0))), (q1332, .inl (cyI, 328, .inl (fun _ => 0))), (q1333, .inl (cyI, 328, .inl (fun _ => 0))), (q1334, .inl (cyI, 41, .inl (fun _ => 0)))] := hD
  refine W.widen (k := 6) (n := 719) (by omega) (by omega) ?_
  refine va_putF (D := (dC, dI)) (ci := 5) (v := .ref q1334) (ty := .array .int) (C := RX5) (T := TX5) (N := 13) hx hb hts hi5 tyX5 tyX5_ok nmX5 hown hK hP hD hS 0 rfl rfl 5 (by decide) (hts _ (ow_m (k := 9) rfl)) (fun _ h9 => h9) rfl hin rfl (by decide +kernel) rfl rfl (Nat.le_of_ble_eq_true rfl) dX5_init_51 (fun H locs hP hD hS => ?_)
  have hP : va_P (dC, dI) vwCl [(q1321, .inr (5, [.ref q1329, .ref q1330, .ref q1331, .ref q1332, .ref q1333, .ref q1334, .null, .int 0, .int 0, .int 0, .int 0, .int 0, .int 0])), (q1329, .inl (cyI, 6, .inl (fun _ => 0))), (q1330, .inl (cyI, 8, .inl (fun _ => 0))), (q1331, .inl (cyI, 8, .inl (fun _ => 0))), (q1332, .inl (cyI, 328, .inl (fun _ => 0))), (q1333, .inl (cyI, 328, .inl (fun _ => 0))), (q1334, .inl (cyI, 41, .inl (fun _ => 0)))] H := hP
  have hD : va_D A [(q1321, .inr (5, [.ref q1329, .ref q1330, .ref q1331, .ref q1332, .ref q1333, .ref q1334, .null, .int 0, .int 0, .int 0, .int 0, .int 0, .int 0])), (q1329, .inl (cyI, 6, .inl (fun _ => 0))), (q1330, .inl (cyI, 8, .inl (fun _ => 0))), (q1331, .inl (cyI, 8, .inl (fun _ => 0))), (q1332, .inl (cyI, 328, .inl (fun _ => 0))), (q1333, .inl (cyI, 328, .inl (fun _ => 0))), (q1334, .inl (cyI, 41, .inl (fun _ => 0)))] := hD
  refine lv_aload_n hx hb dX5_init_54 rfl (lv_at hl 0 rfl) ?_
  refine lv_bipush (v := 41) hx hb dX5_init_55 (by decide) ?_
  refine g_newa (a0 := (41, .inl (fun _ => 0))) hx hb (hts _ (ow_m (k := 3) rfl)) rfl hKN hP hD hS hA 1 rfl rfl (fun _ => rfl) (by decide) (by decide) (by decide) (Nat.le_of_ble_eq_true rfl) (Nat.le_of_ble_eq_true rfl) dX5_init_57 (fun q1335 H hP hD hS => ?_)
  have hP : va_P (dC, dI) vwCl [(q1321, .inr (5, [.ref q1329, .ref q1330, .ref q1331, .ref q1332, .ref q1333, .ref q1334, .null, .int 0, .int 0, .int 0, .int 0, .int 0, .int 0])), (q1329, .inl (cyI, 6, .inl (fun _ => 0))), (q1330, .inl (cyI, 8, .inl (fun _ => 0))), (q1331, .inl (cyI, 8, .inl (fun _ => 0))), (q1332, .inl (cyI, 328, .inl (fun _ => 0))), (q1333, .inl (cyI, 328, .inl (fun _ => 0))), (q1334, .inl (cyI, 41, .inl (fun _ => 0))), (q1335, .inl (cyI, 41, .inl (fun _ => 0)))] H := hP
  have hD : va_D A [(q1321, .inr (5, [.ref q1329, .ref q1330, .ref q1331, .ref q1332, .ref q1333, .ref q1334, .null, .int 0, .int 0, .int 0, .int 0, .int 0, .int 0])), (q1329, .inl (cyI, 6, .inl (fun _ => 0))), (q1330, .inl (cyI, 8, .inl (fun _ => 0))), (q1331, .inl (cyI, 8, .inl (fun _ => 0))), (q1332, .inl (cyI, 328, .inl (fun _ => 0))), (q1333, .inl (cyI, 328, .inl (fun _ => 0))), (q1334, .inl (cyI, 41, .inl (fun _ => 0))), (q1335, .inl (cyI, 41, .inl (fun _ => 0)))] := hD
  refine W.widen (k := 7) (n := 760) (by omega) (by omega) ?_
  refine va_putF (D := (dC, dI)) (ci := 5) (v := .ref q1335) (ty := .array .int) (C := RX5) (T := TX5) (N := 13) hx hb hts hi5 tyX5 tyX5_ok nmX5 hown hK hP hD hS 0 rfl rfl 6 (by decide) (hts _ (ow_m (k := 10) rfl)) (fun _ h9 => h9) rfl hin rfl (by decide +kernel) rfl rfl (Nat.le_of_ble_eq_true rfl) dX5_init_59 (fun H locs hP hD hS => ?_)
  have hP : va_P (dC, dI) vwCl [(q1321, .inr (5, [.ref q1329, .ref q1330, .ref q1331, .ref q1332, .ref q1333, .ref q1334, .ref q1335, .int 0, .int 0, .int 0, .int 0, .int 0, .int 0])), (q1329, .inl (cyI, 6, .inl (fun _ => 0))), (q1330, .inl (cyI, 8, .inl (fun _ => 0))), (q1331, .inl (cyI, 8, .inl (fun _ => 0))), (q1332, .inl (cyI, 328, .inl (fun _ => 0))), (q1333, .inl (cyI, 328, .inl (fun _ => 0))), (q1334, .inl (cyI, 41, .inl (fun _ => 0))), (q1335, .inl (cyI, 41, .inl (fun _ => 0)))] H := hP
  have hD : va_D A [(q1321, .inr (5, [.ref q1329, .ref q1330, .ref q1331, .ref q1332, .ref q1333, .ref q1334, .ref q1335, .int 0, .int 0, .int 0, .int 0, .int 0, .int 0])), (q1329, .inl (cyI, 6, .inl (fun _ => 0))), (q1330, .inl (cyI, 8, .inl (fun _ => 0))), (q1331, .inl (cyI, 8, .inl (fun _ => 0))), (q1332, .inl (cyI, 328, .inl (fun _ => 0))), (q1333, .inl (cyI, 328, .inl (fun _ => 0))), (q1334, .inl (cyI, 41, .inl (fun _ => 0))), (q1335, .inl (cyI, 41, .inl (fun _ => 0)))] := hD
  refine lv_aload_n hx hb dX5_init_62 rfl (lv_at hl 0 rfl) ?_
  refine lv_iconst (v := (-1)) hx hb dX5_init_63 (by decide) ?_
  refine va_put (D := (dC, dI)) (ci := 5) (v := .int (-1)) (ty := .int) (C := RX5) (T := TX5) (N := 13) hx hb hts hi5 tyX5 tyX5_ok nmX5 hown hK hP hD hS 0 rfl rfl 8 (by decide) (hts _ (ow_m (k := 11) rfl)) (fun _ h9 => h9) rfl (by decide +kernel) rfl rfl (Nat.le_of_ble_eq_true rfl) dX5_init_64 (fun H locs hP hD hS => ?_)
  have hP : va_P (dC, dI) vwCl [(q1321, .inr (5, [.ref q1329, .ref q1330, .ref q1331, .ref q1332, .ref q1333, .ref q1334, .ref q1335, .int 0, .int (-1), .int 0, .int 0, .int 0, .int 0])), (q1329, .inl (cyI, 6, .inl (fun _ => 0))), (q1330, .inl (cyI, 8, .inl (fun _ => 0))), (q1331, .inl (cyI, 8, .inl (fun _ => 0))), (q1332, .inl (cyI, 328, .inl (fun _ => 0))), (q1333, .inl (cyI, 328, .inl (fun _ => 0))), (q1334, .inl (cyI, 41, .inl (fun _ => 0))), (q1335, .inl (cyI, 41, .inl (fun _ => 0)))] H := hP
  have hD : va_D A [(q1321, .inr (5, [.ref q1329, .ref q1330, .ref q1331, .ref q1332, .ref q1333, .ref q1334, .ref q1335, .int 0, .int (-1), .int 0, .int 0, .int 0, .int 0])), (q1329, .inl (cyI, 6, .inl (fun _ => 0))), (q1330, .inl (cyI, 8, .inl (fun _ => 0))), (q1331, .inl (cyI, 8, .inl (fun _ => 0))), (q1332, .inl (cyI, 328, .inl (fun _ => 0))), (q1333, .inl (cyI, 328, .inl (fun _ => 0))), (q1334, .inl (cyI, 41, .inl (fun _ => 0))), (q1335, .inl (cyI, 41, .inl (fun _ => 0)))] := hD
  exact W.vret hx hb hr (fun t ht hW => ⟨⟨(fun k => match k with | 0 => q1329 | 1 => q1330 | 2 => q1331 | 3 => q1332 | 4 => q1333 | 5 => q1334 | _ => q1335), rfl, trivial, cE.of ht hP hD [0, 1, 2, 3, 4, 5, 6, 7] (by decide) rfl⟩, hS.F ht⟩) hS.2.2 dX5_init_67
