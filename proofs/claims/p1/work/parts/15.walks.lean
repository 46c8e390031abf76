def wo_k_X7_isNode : List Cond := [.fieldLink RX7 20 "ReplicaChainModel" "nodes" "[I", .fieldLink RX7 214 "ReplicaChainModel" "bank" "I", .methodLink RX7 316 yX7_isIn, .static yX7_isIn, .initialized RX7]
def wq_k_X7_isNode : List Cond := .code yX7_isNode cX7_isNode 2 (some .boolean) :: (wo_k_X7_isNode ++ (wq_k_X7_isIn ++ (wsX70 ++ [])))
theorem gd_k_X7_isNode : Gd wq_k_X7_isNode := gd_c (gd_a (gd_o (by decide +kernel)) (gd_a gd_k_X7_isIn (gd_a gd_u gd_0)))
abbrev wc_k_X7_isNode (cyB cyI cyJ cyZ cyO : ClassId) (h1 : Nat) (md : Nat → Nat) (a1 : Int32) : va_W := [(h1, .inr (7, [.ref (md 0), .ref (md 1), .int 0, .int 0, .int 0, .int (-1), .int 0, .int 0, .int 0, .int 0, .long 0, .ref (md 11), .ref (md 12), .ref (md 13), .ref (md 14), .ref (md 15), .ref (md 16), .ref (md 17), .ref (md 18), .ref (md 19), .ref (md 20), .ref (md 21), .ref (md 22), .ref (md 23), .ref (md 24), .ref (md 25), .ref (md 26), .ref (md 27), .ref (md 28), .int 0, .int 0, .int 0, .int 0, .int 0, .int 0, .int 0, .int 0, .int 0, .int 0, .int 0, .ref (md 40), .ref (md 41), .int 0, .int 0, .ref (md 44), .int 0, .int 0, .ref (md 47), .ref (md 48), .int 0, .ref (md 50), .ref (md 51), .ref (md 52), .ref (md 53), .ref (md 54), .int 0, .int 0, .ref (md 57), .ref (md 58)])), (md 11, .inl (cyI, 2, .inl (fun _ => 0)))]
set_option maxHeartbeats 4000000 in
set_option maxRecDepth 100000 in
theorem k_X7_isNode (l : Launch) (dC : Nat → ClassId) (dI : Nat → Nat → Nat) (cyB cyI cyJ cyZ cyO : ClassId) (h1 : Nat) (md : Nat → Nat) (a1 : Int32) (sz : Nat) : Met l yX7_isNode wq_k_X7_isNode ({ frames := 1, cells := 0, slots := 0, locals := 22 }) (va_Pc [.ref h1, .int a1] (cB (dC, dI) (kT cyB cyI cyJ cyZ cyO) (wc_k_X7_isNode cyB cyI cyJ cyZ cyO h1 md a1) sz)) (va_Qi (fun (r : Int32) _ => (r = 0 ∧ a1.toInt < 0) ∨ (r = 0 ∧ 0 ≤ a1.toInt ∧ (-1) < a1.toInt)) (fun (u : Unit) t => cE (dC, dI) (va_A (wc_k_X7_isNode cyB cyI cyJ cyZ cyO h1 md a1) sz) ([(h1, .inr (7, [.ref (md 0), .ref (md 1), .int 0, .int 0, .int 0, .int (-1), .int 0, .int 0, .int 0, .int 0, .long 0, .ref (md 11), .ref (md 12), .ref (md 13), .ref (md 14), .ref (md 15), .ref (md 16), .ref (md 17), .ref (md 18), .ref (md 19), .ref (md 20), .ref (md 21), .ref (md 22), .ref (md 23), .ref (md 24), .ref (md 25), .ref (md 26), .ref (md 27), .ref (md 28), .int 0, .int 0, .int 0, .int 0, .int 0, .int 0, .int 0, .int 0, .int 0, .int 0, .int 0, .ref (md 40), .ref (md 41), .int 0, .int 0, .ref (md 44), .int 0, .int 0, .ref (md 47), .ref (md 48), .int 0, .ref (md 50), .ref (md 51), .ref (md 52), .ref (md 53), .ref (md 54), .int 0, .int 0, .ref (md 57), .ref (md 58)])), (md 11, .inl (cyI, 2, .inl (fun _ => 0)))]) t.heap) (va_A (wc_k_X7_isNode cyB cyI cyJ cyZ cyO h1 md a1) sz)) 0 0 (va_A (wc_k_X7_isNode cyB cyI cyJ cyZ cyO h1 md a1) sz) := by
  refine Met.ofW (cc := cX7_isNode) (maxL := 2) (ret := (some .boolean)) (by decide) rfl ?_
  intro p e s m args below meth c s₁ B hml hv
  obtain ⟨rfl, hsz, hP, hKN, hD0⟩ := hv
  have hx := B.exec
  have hb := B.bytes
  have hr := B.returns
  have hts := atoms_spec (ws := wq_k_X7_isNode) B.pre
  have hown : s.vm.findClass RX7 = some m.cls := findClass_of_methodNamed B.named
  have hlocks := B.notSynchronized
  have hK := hKN.1
  have hfix : CallFix p m c cX7_isNode 2 s [.ref h1, .int a1].toArray wq_k_X7_isNode RX7 := ⟨hx, hb, hml, hown, hts⟩
  have hi7 : ∀ w ∈ wsX70, w ∈ wq_k_X7_isNode := (sb_c (sb_r sb_l))
  subst hsz
  have hD := hD0.self (sz := s.heap.size)
  generalize hAe : va_A (wc_k_X7_isNode cyB cyI cyJ cyZ cyO h1 md a1) s.heap.size = A at hD ⊢
  have hA : ∀ q : Nat, s.heap.size ≤ q → A q := fun q h => by rw [← hAe]; exact Or.inr h
  have hS : va_S A s.heap s.heap [] := va_S.rf
  have hl := lv_entry ([.ref h1, .int a1]) (n := 2) (Nat.le_of_ble_eq_true rfl)
  rw [lg_entry_eq]
  generalize (lg_sl ([.ref h1, .int a1]) ++ List.replicate (2 - (lg_sl ([.ref h1, .int a1])).length) Slot.unset).toArray = ls at hl ⊢
  have hl : lv_has ls 2 [(0, .ref h1), (1, .int a1)] := hl
  refine lv_iload_n hx hb dX7_isNode_0 rfl (lv_at hl 1 rfl) ?_
  refine lv_iconst (v := 0) hx hb dX7_isNode_1 (by decide) ?_
  refine lv_aload_n hx hb dX7_isNode_2 rfl (lv_at hl 0 rfl) ?_
  refine va_get (D := (dC, dI)) (ci := 7) (v := .ref (md 11)) (C := RX7) (T := TX7) (N := 59) hx hb hts hi7 hown hK hP 0 rfl rfl 11 (by decide) (hts _ (ow_m (k := 0) rfl)) (fun _ h9 => h9) rfl dX7_isNode_3 ?_
  refine lv_aload_n hx hb dX7_isNode_6 rfl (lv_at hl 0 rfl) ?_
  refine va_get (D := (dC, dI)) (ci := 7) (v := .int 0) (C := RX7) (T := TX7) (N := 59) hx hb hts hi7 hown hK hP 0 rfl rfl 29 (by decide) (hts _ (ow_m (k := 1) rfl)) (fun _ h9 => h9) rfl dX7_isNode_7 ?_
  refine va_iald hx hb hK hP 1 1 rfl rfl (vp_i (a := 0) (by decide) (by decide) (by decide)) dX7_isNode_10 ?_
  refine tp_c (w := 0) (by rfl) ?_
  refine lv_iconst (v := 1) hx hb dX7_isNode_11 (by decide) ?_
  refine lv_isub hx hb dX7_isNode_12 ?_
  refine tp_c (w := (-1)) (by decide) ?_
  refine gf_i (wr := [(h1, .inr (7, [.ref (md 0), .ref (md 1), .int 0, .int 0, .int 0, .int (-1), .int 0, .int 0, .int 0, .int 0, .long 0, .ref (md 11), .ref (md 12), .ref (md 13), .ref (md 14), .ref (md 15), .ref (md 16), .ref (md 17), .ref (md 18), .ref (md 19), .ref (md 20), .ref (md 21), .ref (md 22), .ref (md 23), .ref (md 24), .ref (md 25), .ref (md 26), .ref (md 27), .ref (md 28), .int 0, .int 0, .int 0, .int 0, .int 0, .int 0, .int 0, .int 0, .int 0, .int 0, .int 0, .ref (md 40), .ref (md 41), .int 0, .int 0, .ref (md 44), .int 0, .int 0, .ref (md 47), .ref (md 48), .int 0, .ref (md 50), .ref (md 51), .ref (md 52), .ref (md 53), .ref (md 54), .int 0, .int 0, .ref (md 57), .ref (md 58)])), (md 11, .inl (cyI, 2, .inl (fun _ => 0)))]) (va_runS (As := [.int a1, .int 0, .int (-1)]) (rest := []) hfix (k_X7_isIn l dC dI cyB cyI cyJ cyZ cyO a1 _) (va_cwS 3 hts (gi_S (ow_m (k := 2) rfl) (ow_m (k := 3) rfl) (ow_m (k := 4) rfl) (sb_c sb_l) gd_k_X7_isIn) rfl rfl rfl (by decide +kernel) ⟨Nat.le_of_ble_eq_true rfl, Nat.le_of_ble_eq_true rfl⟩) (g_preS hKN hP hD [] rfl (by decide)) rfl rfl hl.1 rfl (lv_room (Nat.le_of_ble_eq_true rfl)) dX7_isNode_13 ⟨Nat.le_of_ble_eq_true rfl, Nat.le_of_ble_eq_true rfl⟩) hP hD hS hA [] [0, 1] rfl rfl (by decide) (by decide) (fun r1948 u1949 H locs qu1949 hP hD hS => ?_)
  have hP : va_P (dC, dI) vwCl [(h1, .inr (7, [.ref (md 0), .ref (md 1), .int 0, .int 0, .int 0, .int (-1), .int 0, .int 0, .int 0, .int 0, .long 0, .ref (md 11), .ref (md 12), .ref (md 13), .ref (md 14), .ref (md 15), .ref (md 16), .ref (md 17), .ref (md 18), .ref (md 19), .ref (md 20), .ref (md 21), .ref (md 22), .ref (md 23), .ref (md 24), .ref (md 25), .ref (md 26), .ref (md 27), .ref (md 28), .int 0, .int 0, .int 0, .int 0, .int 0, .int 0, .int 0, .int 0, .int 0, .int 0, .int 0, .ref (md 40), .ref (md 41), .int 0, .int 0, .ref (md 44), .int 0, .int 0, .ref (md 47), .ref (md 48), .int 0, .ref (md 50), .ref (md 51), .ref (md 52), .ref (md 53), .ref (md 54), .int 0, .int 0, .ref (md 57), .ref (md 58)])), (md 11, .inl (cyI, 2, .inl (fun _ => 0)))] H := hP
  have hD : va_D A [(h1, .inr (7, [.ref (md 0), .ref (md 1), .int 0, .int 0, .int 0, .int (-1), .int 0, .int 0, .int 0, .int 0, .long 0, .ref (md 11), .ref (md 12), .ref (md 13), .ref (md 14), .ref (md 15), .ref (md 16), .ref (md 17), .ref (md 18), .ref (md 19), .ref (md 20), .ref (md 21), .ref (md 22), .ref (md 23), .ref (md 24), .ref (md 25), .ref (md 26), .ref (md 27), .ref (md 28), .int 0, .int 0, .int 0, .int 0, .int 0, .int 0, .int 0, .int 0, .int 0, .int 0, .int 0, .ref (md 40), .ref (md 41), .int 0, .int 0, .ref (md 44), .int 0, .int 0, .ref (md 47), .ref (md 48), .int 0, .ref (md 50), .ref (md 51), .ref (md 52), .ref (md 53), .ref (md 54), .int 0, .int 0, .ref (md 57), .ref (md 58)])), (md 11, .inl (cyI, 2, .inl (fun _ => 0)))] := hD
  rcases qu1949 with ⟨rfl, b1950⟩ | ⟨rfl, b1951, b1952⟩
  · skip
    exact W.zret (v := 0) hx hb hr (by decide) (fun t ht hW => ⟨⟨0, (), rfl, (Or.inl ⟨rfl, b1950⟩), cE.of ht hP hD [0, 1] (by decide) rfl⟩, hS.F ht⟩) hS.2.2 dX7_isNode_16
  · skip
    exact W.zret (v := 0) hx hb hr (by decide) (fun t ht hW => ⟨⟨0, (), rfl, (Or.inr ⟨rfl, b1951, b1952⟩), cE.of ht hP hD [0, 1] (by decide) rfl⟩, hS.F ht⟩) hS.2.2 dX7_isNode_16
def wo_c_M_node : List Cond := [.methodLink RX7 320 yX7_isNode, .instanceMethod yX7_isNode, .selects RX7 yX7_isNode yX7_isNode, .initialized RX7]
def wq_c_M_node : List Cond := .code yX7_node cX7_node 3 (some .int) :: (wo_c_M_node ++ (wq_k_X7_isNode ++ []))
theorem gd_c_M_node : Gd wq_c_M_node := gd_c (gd_a (gd_o (by decide +kernel)) (gd_a gd_k_X7_isNode gd_0))
abbrev wc_c_M_node (cyB cyI cyJ cyZ cyO : ClassId) (h1 : Nat) (md : Nat → Nat) (x1 : Int32) (x2 : Int32) : va_W := [(h1, .inr (7, [.ref (md 0), .ref (md 1), .int 0, .int 0, .int 0, .int (-1), .int 0, .int 0, .int 0, .int 0, .long 0, .ref (md 11), .ref (md 12), .ref (md 13), .ref (md 14), .ref (md 15), .ref (md 16), .ref (md 17), .ref (md 18), .ref (md 19), .ref (md 20), .ref (md 21), .ref (md 22), .ref (md 23), .ref (md 24), .ref (md 25), .ref (md 26), .ref (md 27), .ref (md 28), .int 0, .int 0, .int 0, .int 0, .int 0, .int 0, .int 0, .int 0, .int 0, .int 0, .int 0, .ref (md 40), .ref (md 41), .int 0, .int 0, .ref (md 44), .int 0, .int 0, .ref (md 47), .ref (md 48), .int 0, .ref (md 50), .ref (md 51), .ref (md 52), .ref (md 53), .ref (md 54), .int 0, .int 0, .ref (md 57), .ref (md 58)])), (md 11, .inl (cyI, 2, .inl (fun _ => 0)))]
set_option maxHeartbeats 4000000 in
set_option maxRecDepth 100000 in
theorem c_M_node (l : Launch) (dC : Nat → ClassId) (dI : Nat → Nat → Nat) (cyB cyI cyJ cyZ cyO : ClassId) (h1 : Nat) (md : Nat → Nat) (x1 : Int32) (x2 : Int32) (sz : Nat) : Met l yX7_node wq_c_M_node ({ frames := 2, cells := 0, slots := 0, locals := 43 }) (va_Pc [.ref h1, .int x1, .int x2] (cB (dC, dI) (kT cyB cyI cyJ cyZ cyO) (wc_c_M_node cyB cyI cyJ cyZ cyO h1 md x1 x2) sz)) (va_Qi (fun (r : Int32) (_ : Unit) => r = -2) (fun (u : Unit) t => cE (dC, dI) (va_A (wc_c_M_node cyB cyI cyJ cyZ cyO h1 md x1 x2) sz) ([]) t.heap) (va_A (wc_c_M_node cyB cyI cyJ cyZ cyO h1 md x1 x2) sz)) 0 0 (va_A (wc_c_M_node cyB cyI cyJ cyZ cyO h1 md x1 x2) sz) := by
  refine Met.ofW (cc := cX7_node) (maxL := 3) (ret := (some .int)) (by decide) rfl ?_
  intro p e s m args below meth c s₁ B hml hv
  obtain ⟨rfl, hsz, hP, hKN, hD0⟩ := hv
  have hx := B.exec
  have hb := B.bytes
  have hr := B.returns
  have hts := atoms_spec (ws := wq_c_M_node) B.pre
  have hown : s.vm.findClass RX7 = some m.cls := findClass_of_methodNamed B.named
  have hlocks := B.notSynchronized
  have hK := hKN.1
  have hfix : CallFix p m c cX7_node 3 s [.ref h1, .int x1, .int x2].toArray wq_c_M_node RX7 := ⟨hx, hb, hml, hown, hts⟩
  subst hsz
  have hD := hD0.self (sz := s.heap.size)
  generalize hAe : va_A (wc_c_M_node cyB cyI cyJ cyZ cyO h1 md x1 x2) s.heap.size = A at hD ⊢
  have hA : ∀ q : Nat, s.heap.size ≤ q → A q := fun q h => by rw [← hAe]; exact Or.inr h
  have hS : va_S A s.heap s.heap [] := va_S.rf
  have hl := lv_entry ([.ref h1, .int x1, .int x2]) (n := 3) (Nat.le_of_ble_eq_true rfl)
  rw [lg_entry_eq]
  generalize (lg_sl ([.ref h1, .int x1, .int x2]) ++ List.replicate (3 - (lg_sl ([.ref h1, .int x1, .int x2])).length) Slot.unset).toArray = ls at hl ⊢
  have hl : lv_has ls 3 [(0, .ref h1), (1, .int x1), (2, .int x2)] := hl
  refine lv_aload_n hx hb dX7_node_0 rfl (lv_at hl 0 rfl) ?_
  refine lv_iload_n hx hb dX7_node_1 rfl (lv_at hl 1 rfl) ?_
  refine gf_i (wr := []) (va_runV (As := [.int x1]) (rest := []) hfix (k_X7_isNode l dC dI cyB cyI cyJ cyZ cyO h1 md x1 _) (cwV 1 hts (gi_V (ow_m (k := 0) rfl) (ow_m (k := 1) rfl) (ow_m (k := 2) rfl) (ow_m (k := 3) rfl) (sb_c sb_l) gd_k_X7_isNode) rfl rfl rfl (by decide +kernel) ⟨Nat.le_of_ble_eq_true rfl, Nat.le_of_ble_eq_true rfl⟩) (g_preV hKN hP hD [0, 1] rfl (by decide) 0 7 rfl rfl) rfl rfl hl.1 rfl (lv_room (Nat.le_of_ble_eq_true rfl)) dX7_node_2 ⟨Nat.le_of_ble_eq_true rfl, Nat.le_of_ble_eq_true rfl⟩) hP hD hS hA [0, 1] [] rfl rfl (by decide) (by decide) (fun r1967 u1968 H locs qu1968 hP hD hS => ?_)
  have hP : va_P (dC, dI) vwCl [(h1, .inr (7, [.ref (md 0), .ref (md 1), .int 0, .int 0, .int 0, .int (-1), .int 0, .int 0, .int 0, .int 0, .long 0, .ref (md 11), .ref (md 12), .ref (md 13), .ref (md 14), .ref (md 15), .ref (md 16), .ref (md 17), .ref (md 18), .ref (md 19), .ref (md 20), .ref (md 21), .ref (md 22), .ref (md 23), .ref (md 24), .ref (md 25), .ref (md 26), .ref (md 27), .ref (md 28), .int 0, .int 0, .int 0, .int 0, .int 0, .int 0, .int 0, .int 0, .int 0, .int 0, .int 0, .ref (md 40), .ref (md 41), .int 0, .int 0, .ref (md 44), .int 0, .int 0, .ref (md 47), .ref (md 48), .int 0, .ref (md 50), .ref (md 51), .ref (md 52), .ref (md 53), .ref (md 54), .int 0, .int 0, .ref (md 57), .ref (md 58)])), (md 11, .inl (cyI, 2, .inl (fun _ => 0)))] H := hP
  have hD : va_D A [(h1, .inr (7, [.ref (md 0), .ref (md 1), .int 0, .int 0, .int 0, .int (-1), .int 0, .int 0, .int 0, .int 0, .long 0, .ref (md 11), .ref (md 12), .ref (md 13), .ref (md 14), .ref (md 15), .ref (md 16), .ref (md 17), .ref (md 18), .ref (md 19), .ref (md 20), .ref (md 21), .ref (md 22), .ref (md 23), .ref (md 24), .ref (md 25), .ref (md 26), .ref (md 27), .ref (md 28), .int 0, .int 0, .int 0, .int 0, .int 0, .int 0, .int 0, .int 0, .int 0, .int 0, .int 0, .ref (md 40), .ref (md 41), .int 0, .int 0, .ref (md 44), .int 0, .int 0, .ref (md 47), .ref (md 48), .int 0, .ref (md 50), .ref (md 51), .ref (md 52), .ref (md 53), .ref (md 54), .int 0, .int 0, .ref (md 57), .ref (md 58)])), (md 11, .inl (cyI, 2, .inl (fun _ => 0)))] := hD
  rcases qu1968 with ⟨rfl, b1969⟩ | ⟨rfl, b1970, b1971⟩
  · skip
    refine lv_if_ne (tgt := 11) hx hb dX7_node_5 (by decide) (fun c1972 => absurd (by decide) c1972) (fun _ => ?_)
    refine lv_bipush (v := (-2)) hx hb dX7_node_8 (by decide) ?_
    exact W.iret (v := (-2)) hx hb hr (fun t ht hW => ⟨⟨(-2), (), rfl, rfl, cE.nil⟩, hS.F ht⟩) hS.2.2 dX7_node_10
  · skip
    refine lv_if_ne (tgt := 11) hx hb dX7_node_5 (by decide) (fun c1973 => absurd (by decide) c1973) (fun _ => ?_)
    refine lv_bipush (v := (-2)) hx hb dX7_node_8 (by decide) ?_
    exact W.iret (v := (-2)) hx hb hr (fun t ht hW => ⟨⟨(-2), (), rfl, rfl, cE.nil⟩, hS.F ht⟩) hS.2.2 dX7_node_10
def wo_k_X7_isIn_v2 : List Cond := []
def wq_k_X7_isIn_v2 : List Cond := .code yX7_isIn cX7_isIn 3 (some .boolean) :: (wo_k_X7_isIn_v2 ++ [])
theorem gd_k_X7_isIn_v2 : Gd wq_k_X7_isIn_v2 := gd_c (gd_a (gd_o (by decide +kernel)) gd_0)
abbrev wc_k_X7_isIn_v2 (cyB cyI cyJ cyZ cyO : ClassId) (a0 : Int32) : va_W := []
set_option maxHeartbeats 4000000 in
set_option maxRecDepth 100000 in
theorem k_X7_isIn_v2 (l : Launch) (dC : Nat → ClassId) (dI : Nat → Nat → Nat) (cyB cyI cyJ cyZ cyO : ClassId) (a0 : Int32) (sz : Nat) : Met l yX7_isIn wq_k_X7_isIn_v2 ({ frames := 0, cells := 0, slots := 0, locals := 0 }) (va_Pc [.int a0, .int 0, .int (-2)] (cB (dC, dI) (kT cyB cyI cyJ cyZ cyO) (wc_k_X7_isIn_v2 cyB cyI cyJ cyZ cyO a0) sz)) (va_Qi (fun (r : Int32) _ => (r = 0 ∧ a0.toInt < 0) ∨ (r = 0 ∧ 0 ≤ a0.toInt ∧ (-2) < a0.toInt)) (fun (u : Unit) t => cE (dC, dI) (va_A (wc_k_X7_isIn_v2 cyB cyI cyJ cyZ cyO a0) sz) ([]) t.heap) (va_A (wc_k_X7_isIn_v2 cyB cyI cyJ cyZ cyO a0) sz)) 0 0 (va_A (wc_k_X7_isIn_v2 cyB cyI cyJ cyZ cyO a0) sz) := by
  refine Met.ofW (cc := cX7_isIn) (maxL := 3) (ret := (some .boolean)) (by decide) rfl ?_
  intro p e s m args below meth c s₁ B hml hv
  obtain ⟨rfl, hsz, hP, hKN, hD0⟩ := hv
  have hx := B.exec
  have hb := B.bytes
  have hr := B.returns
  have hts := atoms_spec (ws := wq_k_X7_isIn_v2) B.pre
  have hown : s.vm.findClass RX7 = some m.cls := findClass_of_methodNamed B.named
  have hlocks := B.notSynchronized
  have hK := hKN.1
  have hfix : CallFix p m c cX7_isIn 3 s [.int a0, .int 0, .int (-2)].toArray wq_k_X7_isIn_v2 RX7 := ⟨hx, hb, hml, hown, hts⟩
  subst hsz
  have hD := hD0.self (sz := s.heap.size)
  generalize hAe : va_A (wc_k_X7_isIn_v2 cyB cyI cyJ cyZ cyO a0) s.heap.size = A at hD ⊢
  have hA : ∀ q : Nat, s.heap.size ≤ q → A q := fun q h => by rw [← hAe]; exact Or.inr h
  have hS : va_S A s.heap s.heap [] := va_S.rf
  have hl := lv_entry ([.int a0, .int 0, .int (-2)]) (n := 3) (Nat.le_of_ble_eq_true rfl)
  rw [lg_entry_eq]
  generalize (lg_sl ([.int a0, .int 0, .int (-2)]) ++ List.replicate (3 - (lg_sl ([.int a0, .int 0, .int (-2)])).length) Slot.unset).toArray = ls at hl ⊢
  have hl : lv_has ls 3 [(0, .int a0), (1, .int 0), (2, .int (-2))] := hl
  refine lv_iload_n hx hb dX7_isIn_0 rfl (lv_at hl 0 rfl) ?_
  refine lv_iload_n hx hb dX7_isIn_1 rfl (lv_at hl 1 rfl) ?_
  refine lv_icmp_lt (tgt := 14) hx hb dX7_isIn_2 (by decide) (fun c1978 => ?_) (fun c1978 => ?_)
  · have c1978 := i_lt (a := a0.toInt) (b := 0) c1978 rfl (by decide)
    refine lv_iconst (v := 0) hx hb dX7_isIn_14 (by decide) ?_
    exact W.zret (v := 0) hx hb hr (by decide) (fun t ht hW => ⟨⟨0, (), rfl, (Or.inl ⟨rfl, c1978⟩), cE.of ht hP hD [] (by decide) rfl⟩, hS.F ht⟩) hS.2.2 dX7_isIn_15
  · have c1978 := i_nlt (a := a0.toInt) (b := 0) c1978 rfl (by decide)
    refine lv_iload_n hx hb dX7_isIn_5 rfl (lv_at hl 0 rfl) ?_
    refine lv_iload_n hx hb dX7_isIn_6 rfl (lv_at hl 2 rfl) ?_
    refine lv_icmp_gt (tgt := 14) hx hb dX7_isIn_7 (by decide) (fun c1979 => ?_) (fun c1979 => ?_)
    · have c1979 := i_lt (a := (-2)) (b := a0.toInt) c1979 (by decide) rfl
      refine lv_iconst (v := 0) hx hb dX7_isIn_14 (by decide) ?_
      exact W.zret (v := 0) hx hb hr (by decide) (fun t ht hW => ⟨⟨0, (), rfl, (Or.inr ⟨rfl, c1978, c1979⟩), cE.of ht hP hD [] (by decide) rfl⟩, hS.F ht⟩) hS.2.2 dX7_isIn_15
    · have c1979 := i_nlt (a := (-2)) (b := a0.toInt) c1979 (by decide) rfl
      exfalso; omega
def wo_c_M_under : List Cond := [.methodLink RX7 313 yX7_lots, .instanceMethod yX7_lots, .selects RX7 yX7_lots yX7_lots, .initialized RX7, .methodLink RX7 316 yX7_isIn, .static yX7_isIn]
def wq_c_M_under : List Cond := .code yX7_under cX7_under 3 (some .int) :: (wo_c_M_under ++ (wq_k_X7_lots_v5 ++ (wq_k_X7_isIn_v2 ++ [])))
theorem gd_c_M_under : Gd wq_c_M_under := gd_c (gd_a (gd_o (by decide +kernel)) (gd_a gd_k_X7_lots_v5 (gd_a gd_k_X7_isIn_v2 gd_0)))
abbrev wc_c_M_under (cyB cyI cyJ cyZ cyO : ClassId) (h1 : Nat) (md : Nat → Nat) (g : Nat → Int32) (x1 : Int32) (x2 : Int32) : va_W := [(h1, .inr (7, [.ref (md 0), .ref (md 1), .int 0, .int 0, .int 0, .int (-1), .int 0, .int 0, .int 0, .int 0, .long 0, .ref (md 11), .ref (md 12), .ref (md 13), .ref (md 14), .ref (md 15), .ref (md 16), .ref (md 17), .ref (md 18), .ref (md 19), .ref (md 20), .ref (md 21), .ref (md 22), .ref (md 23), .ref (md 24), .ref (md 25), .ref (md 26), .ref (md 27), .ref (md 28), .int 0, .int 0, .int 0, .int 0, .int 0, .int 0, .int 0, .int 0, .int 0, .int 0, .int 0, .ref (md 40), .ref (md 41), .int 0, .int 0, .ref (md 44), .int 0, .int 0, .ref (md 47), .ref (md 48), .int 0, .ref (md 50), .ref (md 51), .ref (md 52), .ref (md 53), .ref (md 54), .int 0, .int 0, .ref (md 57), .ref (md 58)])), (md 40, .inl (cyI, 520, .inl g))]
set_option maxHeartbeats 4000000 in
set_option maxRecDepth 100000 in
theorem c_M_under (l : Launch) (dC : Nat → ClassId) (dI : Nat → Nat → Nat) (cyB cyI cyJ cyZ cyO : ClassId) (h1 : Nat) (md : Nat → Nat) (g : Nat → Int32) (x1 : Int32) (x2 : Int32) (sz : Nat) (hg : AllZ g) : Met l yX7_under wq_c_M_under ({ frames := 1, cells := 0, slots := 0, locals := 22 }) (va_Pc [.ref h1, .int x1, .int x2] (cB (dC, dI) (kT cyB cyI cyJ cyZ cyO) (wc_c_M_under cyB cyI cyJ cyZ cyO h1 md g x1 x2) sz)) (va_Qi (fun (r : Int32) (_ : Unit) => r = -1) (fun (u : Unit) t => cE (dC, dI) (va_A (wc_c_M_under cyB cyI cyJ cyZ cyO h1 md g x1 x2) sz) ([]) t.heap) (va_A (wc_c_M_under cyB cyI cyJ cyZ cyO h1 md g x1 x2) sz)) 0 0 (va_A (wc_c_M_under cyB cyI cyJ cyZ cyO h1 md g x1 x2) sz) := by
  refine Met.ofW (cc := cX7_under) (maxL := 3) (ret := (some .int)) (by decide) rfl ?_
  intro p e s m args below meth c s₁ B hml hv
  obtain ⟨rfl, hsz, hP, hKN, hD0⟩ := hv
  have hx := B.exec
  have hb := B.bytes
  have hr := B.returns
  have hts := atoms_spec (ws := wq_c_M_under) B.pre
  have hown : s.vm.findClass RX7 = some m.cls := findClass_of_methodNamed B.named
  have hlocks := B.notSynchronized
  have hK := hKN.1
  have hfix : CallFix p m c cX7_under 3 s [.ref h1, .int x1, .int x2].toArray wq_c_M_under RX7 := ⟨hx, hb, hml, hown, hts⟩
  subst hsz
  have hD := hD0.self (sz := s.heap.size)
  generalize hAe : va_A (wc_c_M_under cyB cyI cyJ cyZ cyO h1 md g x1 x2) s.heap.size = A at hD ⊢
  have hA : ∀ q : Nat, s.heap.size ≤ q → A q := fun q h => by rw [← hAe]; exact Or.inr h
  have hS : va_S A s.heap s.heap [] := va_S.rf
  have hl := lv_entry ([.ref h1, .int x1, .int x2]) (n := 3) (Nat.le_of_ble_eq_true rfl)
  rw [lg_entry_eq]
  generalize (lg_sl ([.ref h1, .int x1, .int x2]) ++ List.replicate (3 - (lg_sl ([.ref h1, .int x1, .int x2])).length) Slot.unset).toArray = ls at hl ⊢
  have hl : lv_has ls 3 [(0, .ref h1), (1, .int x1), (2, .int x2)] := hl
  refine lv_iload_n hx hb dX7_under_0 rfl (lv_at hl 1 rfl) ?_
  refine lv_iconst (v := 0) hx hb dX7_under_1 (by decide) ?_
  refine lv_aload_n hx hb dX7_under_2 rfl (lv_at hl 0 rfl) ?_
  refine gf_i (wr := []) (va_runV (As := []) (rest := [.int 0, .int x1]) hfix (k_X7_lots_v5 l dC dI cyB cyI cyJ cyZ cyO h1 md g _ hg) (cwV 0 hts (gi_V (ow_m (k := 0) rfl) (ow_m (k := 1) rfl) (ow_m (k := 2) rfl) (ow_m (k := 3) rfl) (sb_c sb_l) gd_k_X7_lots_v5) rfl rfl rfl (by decide +kernel) ⟨Nat.le_of_ble_eq_true rfl, Nat.le_of_ble_eq_true rfl⟩) (g_preV hKN hP hD [0, 1] rfl (by decide) 0 7 rfl rfl) rfl rfl hl.1 rfl (lv_room (Nat.le_of_ble_eq_true rfl)) dX7_under_3 ⟨Nat.le_of_ble_eq_true rfl, Nat.le_of_ble_eq_true rfl⟩) hP hD hS hA [0, 1] [] rfl rfl (by decide) (by decide) (fun r1987 u1988 H locs qu1988 hP hD hS => ?_)
  have hP : va_P (dC, dI) vwCl [(h1, .inr (7, [.ref (md 0), .ref (md 1), .int 0, .int 0, .int 0, .int (-1), .int 0, .int 0, .int 0, .int 0, .long 0, .ref (md 11), .ref (md 12), .ref (md 13), .ref (md 14), .ref (md 15), .ref (md 16), .ref (md 17), .ref (md 18), .ref (md 19), .ref (md 20), .ref (md 21), .ref (md 22), .ref (md 23), .ref (md 24), .ref (md 25), .ref (md 26), .ref (md 27), .ref (md 28), .int 0, .int 0, .int 0, .int 0, .int 0, .int 0, .int 0, .int 0, .int 0, .int 0, .int 0, .ref (md 40), .ref (md 41), .int 0, .int 0, .ref (md 44), .int 0, .int 0, .ref (md 47), .ref (md 48), .int 0, .ref (md 50), .ref (md 51), .ref (md 52), .ref (md 53), .ref (md 54), .int 0, .int 0, .ref (md 57), .ref (md 58)])), (md 40, .inl (cyI, 520, .inl g))] H := hP
  have hD : va_D A [(h1, .inr (7, [.ref (md 0), .ref (md 1), .int 0, .int 0, .int 0, .int (-1), .int 0, .int 0, .int 0, .int 0, .long 0, .ref (md 11), .ref (md 12), .ref (md 13), .ref (md 14), .ref (md 15), .ref (md 16), .ref (md 17), .ref (md 18), .ref (md 19), .ref (md 20), .ref (md 21), .ref (md 22), .ref (md 23), .ref (md 24), .ref (md 25), .ref (md 26), .ref (md 27), .ref (md 28), .int 0, .int 0, .int 0, .int 0, .int 0, .int 0, .int 0, .int 0, .int 0, .int 0, .int 0, .ref (md 40), .ref (md 41), .int 0, .int 0, .ref (md 44), .int 0, .int 0, .ref (md 47), .ref (md 48), .int 0, .ref (md 50), .ref (md 51), .ref (md 52), .ref (md 53), .ref (md 54), .int 0, .int 0, .ref (md 57), .ref (md 58)])), (md 40, .inl (cyI, 520, .inl g))] := hD
  refine tp_c (w := 0) qu1988 ?_
  refine lv_iconst (v := 2) hx hb dX7_under_6 (by decide) ?_
  refine lv_isub hx hb dX7_under_7 ?_
  refine tp_c (w := (-2)) (by decide) ?_
  refine gf_i (wr := [(h1, .inr (7, [.ref (md 0), .ref (md 1), .int 0, .int 0, .int 0, .int (-1), .int 0, .int 0, .int 0, .int 0, .long 0, .ref (md 11), .ref (md 12), .ref (md 13), .ref (md 14), .ref (md 15), .ref (md 16), .ref (md 17), .ref (md 18), .ref (md 19), .ref (md 20), .ref (md 21), .ref (md 22), .ref (md 23), .ref (md 24), .ref (md 25), .ref (md 26), .ref (md 27), .ref (md 28), .int 0, .int 0, .int 0, .int 0, .int 0, .int 0, .int 0, .int 0, .int 0, .int 0, .int 0, .ref (md 40), .ref (md 41), .int 0, .int 0, .ref (md 44), .int 0, .int 0, .ref (md 47), .ref (md 48), .int 0, .ref (md 50), .ref (md 51), .ref (md 52), .ref (md 53), .ref (md 54), .int 0, .int 0, .ref (md 57), .ref (md 58)])), (md 40, .inl (cyI, 520, .inl g))]) (va_runS (As := [.int x1, .int 0, .int (-2)]) (rest := []) hfix (k_X7_isIn_v2 l dC dI cyB cyI cyJ cyZ cyO x1 _) (va_cwS 3 hts (gi_S (ow_m (k := 4) rfl) (ow_m (k := 5) rfl) (ow_m (k := 3) rfl) (sb_c (sb_r sb_l)) gd_k_X7_isIn_v2) rfl rfl rfl (by decide +kernel) ⟨Nat.le_of_ble_eq_true rfl, Nat.le_of_ble_eq_true rfl⟩) (g_preS hKN hP hD [] rfl (by decide)) rfl rfl hl.1 rfl (lv_room (Nat.le_of_ble_eq_true rfl)) dX7_under_8 ⟨Nat.le_of_ble_eq_true rfl, Nat.le_of_ble_eq_true rfl⟩) hP hD hS hA [] [0, 1] rfl rfl (by decide) (by decide) (fun r1991 u1992 H locs qu1992 hP hD hS => ?_)
  have hP : va_P (dC, dI) vwCl [(h1, .inr (7, [.ref (md 0), .ref (md 1), .int 0, .int 0, .int 0, .int (-1), .int 0, .int 0, .int 0, .int 0, .long 0, .ref (md 11), .ref (md 12), .ref (md 13), .ref (md 14), .ref (md 15), .ref (md 16), .ref (md 17), .ref (md 18), .ref (md 19), .ref (md 20), .ref (md 21), .ref (md 22), .ref (md 23), .ref (md 24), .ref (md 25), .ref (md 26), .ref (md 27), .ref (md 28), .int 0, .int 0, .int 0, .int 0, .int 0, .int 0, .int 0, .int 0, .int 0, .int 0, .int 0, .ref (md 40), .ref (md 41), .int 0, .int 0, .ref (md 44), .int 0, .int 0, .ref (md 47), .ref (md 48), .int 0, .ref (md 50), .ref (md 51), .ref (md 52), .ref (md 53), .ref (md 54), .int 0, .int 0, .ref (md 57), .ref (md 58)])), (md 40, .inl (cyI, 520, .inl g))] H := hP
  have hD : va_D A [(h1, .inr (7, [.ref (md 0), .ref (md 1), .int 0, .int 0, .int 0, .int (-1), .int 0, .int 0, .int 0, .int 0, .long 0, .ref (md 11), .ref (md 12), .ref (md 13), .ref (md 14), .ref (md 15), .ref (md 16), .ref (md 17), .ref (md 18), .ref (md 19), .ref (md 20), .ref (md 21), .ref (md 22), .ref (md 23), .ref (md 24), .ref (md 25), .ref (md 26), .ref (md 27), .ref (md 28), .int 0, .int 0, .int 0, .int 0, .int 0, .int 0, .int 0, .int 0, .int 0, .int 0, .int 0, .ref (md 40), .ref (md 41), .int 0, .int 0, .ref (md 44), .int 0, .int 0, .ref (md 47), .ref (md 48), .int 0, .ref (md 50), .ref (md 51), .ref (md 52), .ref (md 53), .ref (md 54), .int 0, .int 0, .ref (md 57), .ref (md 58)])), (md 40, .inl (cyI, 520, .inl g))] := hD
  rcases qu1992 with ⟨rfl, b1993⟩ | ⟨rfl, b1994, b1995⟩
  · skip
    refine lv_if_eq (tgt := 32) hx hb dX7_under_11 (by decide) (fun _ => ?_) (fun c1996 => absurd (by decide) c1996)
    refine lv_iconst (v := (-1)) hx hb dX7_under_32 (by decide) ?_
    exact W.iret (v := (-1)) hx hb hr (fun t ht hW => ⟨⟨(-1), (), rfl, rfl, cE.nil⟩, hS.F ht⟩) hS.2.2 dX7_under_33
  · skip
    refine lv_if_eq (tgt := 32) hx hb dX7_under_11 (by decide) (fun _ => ?_) (fun c1997 => absurd (by decide) c1997)
    refine lv_iconst (v := (-1)) hx hb dX7_under_32 (by decide) ?_
    exact W.iret (v := (-1)) hx hb hr (fun t ht hW => ⟨⟨(-1), (), rfl, rfl, cE.nil⟩, hS.F ht⟩) hS.2.2 dX7_under_33
def wo_c_M_due : List Cond := [.methodLink RX7 313 yX7_lots, .instanceMethod yX7_lots, .selects RX7 yX7_lots yX7_lots, .initialized RX7, .methodLink RX7 316 yX7_isIn, .static yX7_isIn]
def wq_c_M_due : List Cond := .code yX7_due cX7_due 3 (some .int) :: (wo_c_M_due ++ (wq_k_X7_lots_v5 ++ (wq_k_X7_isIn_v2 ++ [])))
theorem gd_c_M_due : Gd wq_c_M_due := gd_c (gd_a (gd_o (by decide +kernel)) (gd_a gd_k_X7_lots_v5 (gd_a gd_k_X7_isIn_v2 gd_0)))
abbrev wc_c_M_due (cyB cyI cyJ cyZ cyO : ClassId) (h1 : Nat) (md : Nat → Nat) (g : Nat → Int32) (x1 : Int32) (x2 : Int32) : va_W := [(h1, .inr (7, [.ref (md 0), .ref (md 1), .int 0, .int 0, .int 0, .int (-1), .int 0, .int 0, .int 0, .int 0, .long 0, .ref (md 11), .ref (md 12), .ref (md 13), .ref (md 14), .ref (md 15), .ref (md 16), .ref (md 17), .ref (md 18), .ref (md 19), .ref (md 20), .ref (md 21), .ref (md 22), .ref (md 23), .ref (md 24), .ref (md 25), .ref (md 26), .ref (md 27), .ref (md 28), .int 0, .int 0, .int 0, .int 0, .int 0, .int 0, .int 0, .int 0, .int 0, .int 0, .int 0, .ref (md 40), .ref (md 41), .int 0, .int 0, .ref (md 44), .int 0, .int 0, .ref (md 47), .ref (md 48), .int 0, .ref (md 50), .ref (md 51), .ref (md 52), .ref (md 53), .ref (md 54), .int 0, .int 0, .ref (md 57), .ref (md 58)])), (md 40, .inl (cyI, 520, .inl g))]
set_option maxHeartbeats 4000000 in
set_option maxRecDepth 100000 in
theorem c_M_due (l : Launch) (dC : Nat → ClassId) (dI : Nat → Nat → Nat) (cyB cyI cyJ cyZ cyO : ClassId) (h1 : Nat) (md : Nat → Nat) (g : Nat → Int32) (x1 : Int32) (x2 : Int32) (sz : Nat) (hg : AllZ g) : Met l yX7_due wq_c_M_due ({ frames := 1, cells := 0, slots := 0, locals := 22 }) (va_Pc [.ref h1, .int x1, .int x2] (cB (dC, dI) (kT cyB cyI cyJ cyZ cyO) (wc_c_M_due cyB cyI cyJ cyZ cyO h1 md g x1 x2) sz)) (va_Qi (fun (r : Int32) (_ : Unit) => r = -1) (fun (u : Unit) t => cE (dC, dI) (va_A (wc_c_M_due cyB cyI cyJ cyZ cyO h1 md g x1 x2) sz) ([]) t.heap) (va_A (wc_c_M_due cyB cyI cyJ cyZ cyO h1 md g x1 x2) sz)) 0 0 (va_A (wc_c_M_due cyB cyI cyJ cyZ cyO h1 md g x1 x2) sz) := by
  refine Met.ofW (cc := cX7_due) (maxL := 3) (ret := (some .int)) (by decide) rfl ?_
  intro p e s m args below meth c s₁ B hml hv
  obtain ⟨rfl, hsz, hP, hKN, hD0⟩ := hv
  have hx := B.exec
  have hb := B.bytes
  have hr := B.returns
  have hts := atoms_spec (ws := wq_c_M_due) B.pre
  have hown : s.vm.findClass RX7 = some m.cls := findClass_of_methodNamed B.named
  have hlocks := B.notSynchronized
  have hK := hKN.1
  have hfix : CallFix p m c cX7_due 3 s [.ref h1, .int x1, .int x2].toArray wq_c_M_due RX7 := ⟨hx, hb, hml, hown, hts⟩
  subst hsz
  have hD := hD0.self (sz := s.heap.size)
  generalize hAe : va_A (wc_c_M_due cyB cyI cyJ cyZ cyO h1 md g x1 x2) s.heap.size = A at hD ⊢
  have hA : ∀ q : Nat, s.heap.size ≤ q → A q := fun q h => by rw [← hAe]; exact Or.inr h
  have hS : va_S A s.heap s.heap [] := va_S.rf
  have hl := lv_entry ([.ref h1, .int x1, .int x2]) (n := 3) (Nat.le_of_ble_eq_true rfl)
  rw [lg_entry_eq]
  generalize (lg_sl ([.ref h1, .int x1, .int x2]) ++ List.replicate (3 - (lg_sl ([.ref h1, .int x1, .int x2])).length) Slot.unset).toArray = ls at hl ⊢
  have hl : lv_has ls 3 [(0, .ref h1), (1, .int x1), (2, .int x2)] := hl
  refine lv_iload_n hx hb dX7_due_0 rfl (lv_at hl 1 rfl) ?_
  refine lv_iconst (v := 0) hx hb dX7_due_1 (by decide) ?_
  refine lv_aload_n hx hb dX7_due_2 rfl (lv_at hl 0 rfl) ?_
  refine gf_i (wr := []) (va_runV (As := []) (rest := [.int 0, .int x1]) hfix (k_X7_lots_v5 l dC dI cyB cyI cyJ cyZ cyO h1 md g _ hg) (cwV 0 hts (gi_V (ow_m (k := 0) rfl) (ow_m (k := 1) rfl) (ow_m (k := 2) rfl) (ow_m (k := 3) rfl) (sb_c sb_l) gd_k_X7_lots_v5) rfl rfl rfl (by decide +kernel) ⟨Nat.le_of_ble_eq_true rfl, Nat.le_of_ble_eq_true rfl⟩) (g_preV hKN hP hD [0, 1] rfl (by decide) 0 7 rfl rfl) rfl rfl hl.1 rfl (lv_room (Nat.le_of_ble_eq_true rfl)) dX7_due_3 ⟨Nat.le_of_ble_eq_true rfl, Nat.le_of_ble_eq_true rfl⟩) hP hD hS hA [0, 1] [] rfl rfl (by decide) (by decide) (fun r2009 u2010 H locs qu2010 hP hD hS => ?_)
  have hP : va_P (dC, dI) vwCl [(h1, .inr (7, [.ref (md 0), .ref (md 1), .int 0, .int 0, .int 0, .int (-1), .int 0, .int 0, .int 0, .int 0, .long 0, .ref (md 11), .ref (md 12), .ref (md 13), .ref (md 14), .ref (md 15), .ref (md 16), .ref (md 17), .ref (md 18), .ref (md 19), .ref (md 20), .ref (md 21), .ref (md 22), .ref (md 23), .ref (md 24), .ref (md 25), .ref (md 26), .ref (md 27), .ref (md 28), .int 0, .int 0, .int 0, .int 0, .int 0, .int 0, .int 0, .int 0, .int 0, .int 0, .int 0, .ref (md 40), .ref (md 41), .int 0, .int 0, .ref (md 44), .int 0, .int 0, .ref (md 47), .ref (md 48), .int 0, .ref (md 50), .ref (md 51), .ref (md 52), .ref (md 53), .ref (md 54), .int 0, .int 0, .ref (md 57), .ref (md 58)])), (md 40, .inl (cyI, 520, .inl g))] H := hP
  have hD : va_D A [(h1, .inr (7, [.ref (md 0), .ref (md 1), .int 0, .int 0, .int 0, .int (-1), .int 0, .int 0, .int 0, .int 0, .long 0, .ref (md 11), .ref (md 12), .ref (md 13), .ref (md 14), .ref (md 15), .ref (md 16), .ref (md 17), .ref (md 18), .ref (md 19), .ref (md 20), .ref (md 21), .ref (md 22), .ref (md 23), .ref (md 24), .ref (md 25), .ref (md 26), .ref (md 27), .ref (md 28), .int 0, .int 0, .int 0, .int 0, .int 0, .int 0, .int 0, .int 0, .int 0, .int 0, .int 0, .ref (md 40), .ref (md 41), .int 0, .int 0, .ref (md 44), .int 0, .int 0, .ref (md 47), .ref (md 48), .int 0, .ref (md 50), .ref (md 51), .ref (md 52), .ref (md 53), .ref (md 54), .int 0, .int 0, .ref (md 57), .ref (md 58)])), (md 40, .inl (cyI, 520, .inl g))] := hD
  refine tp_c (w := 0) qu2010 ?_
  refine lv_iconst (v := 2) hx hb dX7_due_6 (by decide) ?_
  refine lv_isub hx hb dX7_due_7 ?_
  refine tp_c (w := (-2)) (by decide) ?_
  refine gf_i (wr := [(h1, .inr (7, [.ref (md 0), .ref (md 1), .int 0, .int 0, .int 0, .int (-1), .int 0, .int 0, .int 0, .int 0, .long 0, .ref (md 11), .ref (md 12), .ref (md 13), .ref (md 14), .ref (md 15), .ref (md 16), .ref (md 17), .ref (md 18), .ref (md 19), .ref (md 20), .ref (md 21), .ref (md 22), .ref (md 23), .ref (md 24), .ref (md 25), .ref (md 26), .ref (md 27), .ref (md 28), .int 0, .int 0, .int 0, .int 0, .int 0, .int 0, .int 0, .int 0, .int 0, .int 0, .int 0, .ref (md 40), .ref (md 41), .int 0, .int 0, .ref (md 44), .int 0, .int 0, .ref (md 47), .ref (md 48), .int 0, .ref (md 50), .ref (md 51), .ref (md 52), .ref (md 53), .ref (md 54), .int 0, .int 0, .ref (md 57), .ref (md 58)])), (md 40, .inl (cyI, 520, .inl g))]) (va_runS (As := [.int x1, .int 0, .int (-2)]) (rest := []) hfix (k_X7_isIn_v2 l dC dI cyB cyI cyJ cyZ cyO x1 _) (va_cwS 3 hts (gi_S (ow_m (k := 4) rfl) (ow_m (k := 5) rfl) (ow_m (k := 3) rfl) (sb_c (sb_r sb_l)) gd_k_X7_isIn_v2) rfl rfl rfl (by decide +kernel) ⟨Nat.le_of_ble_eq_true rfl, Nat.le_of_ble_eq_true rfl⟩) (g_preS hKN hP hD [] rfl (by decide)) rfl rfl hl.1 rfl (lv_room (Nat.le_of_ble_eq_true rfl)) dX7_due_8 ⟨Nat.le_of_ble_eq_true rfl, Nat.le_of_ble_eq_true rfl⟩) hP hD hS hA [] [0, 1] rfl rfl (by decide) (by decide) (fun r2013 u2014 H locs qu2014 hP hD hS => ?_)
  have hP : va_P (dC, dI) vwCl [(h1, .inr (7, [.ref (md 0), .ref (md 1), .int 0, .int 0, .int 0, .int (-1), .int 0, .int 0, .int 0, .int 0, .long 0, .ref (md 11), .ref (md 12), .ref (md 13), .ref (md 14), .ref (md 15), .ref (md 16), .ref (md 17), .ref (md 18), .ref (md 19), .ref (md 20), .ref (md 21), .ref (md 22), .ref (md 23), .ref (md 24), .ref (md 25), .ref (md 26), .ref (md 27), .ref (md 28), .int 0, .int 0, .int 0, .int 0, .int 0, .int 0, .int 0, .int 0, .int 0, .int 0, .int 0, .ref (md 40), .ref (md 41), .int 0, .int 0, .ref (md 44), .int 0, .int 0, .ref (md 47), .ref (md 48), .int 0, .ref (md 50), .ref (md 51), .ref (md 52), .ref (md 53), .ref (md 54), .int 0, .int 0, .ref (md 57), .ref (md 58)])), (md 40, .inl (cyI, 520, .inl g))] H := hP
  have hD : va_D A [(h1, .inr (7, [.ref (md 0), .ref (md 1), .int 0, .int 0, .int 0, .int (-1), .int 0, .int 0, .int 0, .int 0, .long 0, .ref (md 11), .ref (md 12), .ref (md 13), .ref (md 14), .ref (md 15), .ref (md 16), .ref (md 17), .ref (md 18), .ref (md 19), .ref (md 20), .ref (md 21), .ref (md 22), .ref (md 23), .ref (md 24), .ref (md 25), .ref (md 26), .ref (md 27), .ref (md 28), .int 0, .int 0, .int 0, .int 0, .int 0, .int 0, .int 0, .int 0, .int 0, .int 0, .int 0, .ref (md 40), .ref (md 41), .int 0, .int 0, .ref (md 44), .int 0, .int 0, .ref (md 47), .ref (md 48), .int 0, .ref (md 50), .ref (md 51), .ref (md 52), .ref (md 53), .ref (md 54), .int 0, .int 0, .ref (md 57), .ref (md 58)])), (md 40, .inl (cyI, 520, .inl g))] := hD
  rcases qu2014 with ⟨rfl, b2015⟩ | ⟨rfl, b2016, b2017⟩
  · skip
    refine lv_if_eq (tgt := 32) hx hb dX7_due_11 (by decide) (fun _ => ?_) (fun c2018 => absurd (by decide) c2018)
    refine lv_iconst (v := (-1)) hx hb dX7_due_32 (by decide) ?_
    exact W.iret (v := (-1)) hx hb hr (fun t ht hW => ⟨⟨(-1), (), rfl, rfl, cE.nil⟩, hS.F ht⟩) hS.2.2 dX7_due_33
  · skip
    refine lv_if_eq (tgt := 32) hx hb dX7_due_11 (by decide) (fun _ => ?_) (fun c2019 => absurd (by decide) c2019)
    refine lv_iconst (v := (-1)) hx hb dX7_due_32 (by decide) ?_
    exact W.iret (v := (-1)) hx hb hr (fun t ht hW => ⟨⟨(-1), (), rfl, rfl, cE.nil⟩, hS.F ht⟩) hS.2.2 dX7_due_33
def wo_c_M_wrote : List Cond := [.methodLink RX7 313 yX7_lots, .instanceMethod yX7_lots, .selects RX7 yX7_lots yX7_lots, .initialized RX7]
def wq_c_M_wrote : List Cond := .code yX7_wrote cX7_wrote 3 (some .int) :: (wo_c_M_wrote ++ (wq_k_X7_lots_v5 ++ []))
theorem gd_c_M_wrote : Gd wq_c_M_wrote := gd_c (gd_a (gd_o (by decide +kernel)) (gd_a gd_k_X7_lots_v5 gd_0))
abbrev wc_c_M_wrote (cyB cyI cyJ cyZ cyO : ClassId) (h1 : Nat) (md : Nat → Nat) (g : Nat → Int32) (x1 : Int32) (x2 : Int32) : va_W := [(h1, .inr (7, [.ref (md 0), .ref (md 1), .int 0, .int 0, .int 0, .int (-1), .int 0, .int 0, .int 0, .int 0, .long 0, .ref (md 11), .ref (md 12), .ref (md 13), .ref (md 14), .ref (md 15), .ref (md 16), .ref (md 17), .ref (md 18), .ref (md 19), .ref (md 20), .ref (md 21), .ref (md 22), .ref (md 23), .ref (md 24), .ref (md 25), .ref (md 26), .ref (md 27), .ref (md 28), .int 0, .int 0, .int 0, .int 0, .int 0, .int 0, .int 0, .int 0, .int 0, .int 0, .int 0, .ref (md 40), .ref (md 41), .int 0, .int 0, .ref (md 44), .int 0, .int 0, .ref (md 47), .ref (md 48), .int 0, .ref (md 50), .ref (md 51), .ref (md 52), .ref (md 53), .ref (md 54), .int 0, .int 0, .ref (md 57), .ref (md 58)])), (md 40, .inl (cyI, 520, .inl g))]
set_option maxHeartbeats 4000000 in
set_option maxRecDepth 100000 in
theorem c_M_wrote (l : Launch) (dC : Nat → ClassId) (dI : Nat → Nat → Nat) (cyB cyI cyJ cyZ cyO : ClassId) (h1 : Nat) (md : Nat → Nat) (g : Nat → Int32) (x1 : Int32) (x2 : Int32) (sz : Nat) (hg : AllZ g) : Met l yX7_wrote wq_c_M_wrote ({ frames := 1, cells := 0, slots := 0, locals := 20 }) (va_Pc [.ref h1, .int x1, .int x2] (cB (dC, dI) (kT cyB cyI cyJ cyZ cyO) (wc_c_M_wrote cyB cyI cyJ cyZ cyO h1 md g x1 x2) sz)) (va_Qi (fun (r : Int32) (_ : Unit) => r = -1) (fun (u : Unit) t => cE (dC, dI) (va_A (wc_c_M_wrote cyB cyI cyJ cyZ cyO h1 md g x1 x2) sz) ([]) t.heap) (va_A (wc_c_M_wrote cyB cyI cyJ cyZ cyO h1 md g x1 x2) sz)) 0 0 (va_A (wc_c_M_wrote cyB cyI cyJ cyZ cyO h1 md g x1 x2) sz) := by
  refine Met.ofW (cc := cX7_wrote) (maxL := 3) (ret := (some .int)) (by decide) rfl ?_
  intro p e s m args below meth c s₁ B hml hv
  obtain ⟨rfl, hsz, hP, hKN, hD0⟩ := hv
  have hx := B.exec
  have hb := B.bytes
  have hr := B.returns
  have hts := atoms_spec (ws := wq_c_M_wrote) B.pre
  have hown : s.vm.findClass RX7 = some m.cls := findClass_of_methodNamed B.named
  have hlocks := B.notSynchronized
  have hK := hKN.1
  have hfix : CallFix p m c cX7_wrote 3 s [.ref h1, .int x1, .int x2].toArray wq_c_M_wrote RX7 := ⟨hx, hb, hml, hown, hts⟩
  subst hsz
  have hD := hD0.self (sz := s.heap.size)
  generalize hAe : va_A (wc_c_M_wrote cyB cyI cyJ cyZ cyO h1 md g x1 x2) s.heap.size = A at hD ⊢
  have hA : ∀ q : Nat, s.heap.size ≤ q → A q := fun q h => by rw [← hAe]; exact Or.inr h
  have hS : va_S A s.heap s.heap [] := va_S.rf
  have hl := lv_entry ([.ref h1, .int x1, .int x2]) (n := 3) (Nat.le_of_ble_eq_true rfl)
  rw [lg_entry_eq]
  generalize (lg_sl ([.ref h1, .int x1, .int x2]) ++ List.replicate (3 - (lg_sl ([.ref h1, .int x1, .int x2])).length) Slot.unset).toArray = ls at hl ⊢
  have hl : lv_has ls 3 [(0, .ref h1), (1, .int x1), (2, .int x2)] := hl
  refine lv_aload_n hx hb dX7_wrote_0 rfl (lv_at hl 0 rfl) ?_
  refine gf_i (wr := []) (va_runV (As := []) (rest := []) hfix (k_X7_lots_v5 l dC dI cyB cyI cyJ cyZ cyO h1 md g _ hg) (cwV 0 hts (gi_V (ow_m (k := 0) rfl) (ow_m (k := 1) rfl) (ow_m (k := 2) rfl) (ow_m (k := 3) rfl) (sb_c sb_l) gd_k_X7_lots_v5) rfl rfl rfl (by decide +kernel) ⟨Nat.le_of_ble_eq_true rfl, Nat.le_of_ble_eq_true rfl⟩) (g_preV hKN hP hD [0, 1] rfl (by decide) 0 7 rfl rfl) rfl rfl hl.1 rfl (lv_room (Nat.le_of_ble_eq_true rfl)) dX7_wrote_1 ⟨Nat.le_of_ble_eq_true rfl, Nat.le_of_ble_eq_true rfl⟩) hP hD hS hA [0, 1] [] rfl rfl (by decide) (by decide) (fun r2023 u2024 H locs qu2024 hP hD hS => ?_)
  have hP : va_P (dC, dI) vwCl [(h1, .inr (7, [.ref (md 0), .ref (md 1), .int 0, .int 0, .int 0, .int (-1), .int 0, .int 0, .int 0, .int 0, .long 0, .ref (md 11), .ref (md 12), .ref (md 13), .ref (md 14), .ref (md 15), .ref (md 16), .ref (md 17), .ref (md 18), .ref (md 19), .ref (md 20), .ref (md 21), .ref (md 22), .ref (md 23), .ref (md 24), .ref (md 25), .ref (md 26), .ref (md 27), .ref (md 28), .int 0, .int 0, .int 0, .int 0, .int 0, .int 0, .int 0, .int 0, .int 0, .int 0, .int 0, .ref (md 40), .ref (md 41), .int 0, .int 0, .ref (md 44), .int 0, .int 0, .ref (md 47), .ref (md 48), .int 0, .ref (md 50), .ref (md 51), .ref (md 52), .ref (md 53), .ref (md 54), .int 0, .int 0, .ref (md 57), .ref (md 58)])), (md 40, .inl (cyI, 520, .inl g))] H := hP
  have hD : va_D A [(h1, .inr (7, [.ref (md 0), .ref (md 1), .int 0, .int 0, .int 0, .int (-1), .int 0, .int 0, .int 0, .int 0, .long 0, .ref (md 11), .ref (md 12), .ref (md 13), .ref (md 14), .ref (md 15), .ref (md 16), .ref (md 17), .ref (md 18), .ref (md 19), .ref (md 20), .ref (md 21), .ref (md 22), .ref (md 23), .ref (md 24), .ref (md 25), .ref (md 26), .ref (md 27), .ref (md 28), .int 0, .int 0, .int 0, .int 0, .int 0, .int 0, .int 0, .int 0, .int 0, .int 0, .int 0, .ref (md 40), .ref (md 41), .int 0, .int 0, .ref (md 44), .int 0, .int 0, .ref (md 47), .ref (md 48), .int 0, .ref (md 50), .ref (md 51), .ref (md 52), .ref (md 53), .ref (md 54), .int 0, .int 0, .ref (md 57), .ref (md 58)])), (md 40, .inl (cyI, 520, .inl g))] := hD
  refine tp_c (w := 0) qu2024 ?_
  refine lv_if_eq (tgt := 20) hx hb dX7_wrote_4 (by decide) (fun _ => ?_) (fun c2025 => absurd (by decide) c2025)
  refine lv_iconst (v := (-1)) hx hb dX7_wrote_20 (by decide) ?_
  exact W.iret (v := (-1)) hx hb hr (fun t ht hW => ⟨⟨(-1), (), rfl, rfl, cE.nil⟩, hS.F ht⟩) hS.2.2 dX7_wrote_21
def wo_c_M_write : List Cond := [.methodLink RX7 313 yX7_lots, .instanceMethod yX7_lots, .selects RX7 yX7_lots yX7_lots, .initialized RX7]
def wq_c_M_write : List Cond := .code yX7_write cX7_write 3 (some .int) :: (wo_c_M_write ++ (wq_k_X7_lots_v5 ++ []))
theorem gd_c_M_write : Gd wq_c_M_write := gd_c (gd_a (gd_o (by decide +kernel)) (gd_a gd_k_X7_lots_v5 gd_0))
abbrev wc_c_M_write (cyB cyI cyJ cyZ cyO : ClassId) (h1 : Nat) (md : Nat → Nat) (g : Nat → Int32) (x1 : Int32) (x2 : Int32) : va_W := [(h1, .inr (7, [.ref (md 0), .ref (md 1), .int 0, .int 0, .int 0, .int (-1), .int 0, .int 0, .int 0, .int 0, .long 0, .ref (md 11), .ref (md 12), .ref (md 13), .ref (md 14), .ref (md 15), .ref (md 16), .ref (md 17), .ref (md 18), .ref (md 19), .ref (md 20), .ref (md 21), .ref (md 22), .ref (md 23), .ref (md 24), .ref (md 25), .ref (md 26), .ref (md 27), .ref (md 28), .int 0, .int 0, .int 0, .int 0, .int 0, .int 0, .int 0, .int 0, .int 0, .int 0, .int 0, .ref (md 40), .ref (md 41), .int 0, .int 0, .ref (md 44), .int 0, .int 0, .ref (md 47), .ref (md 48), .int 0, .ref (md 50), .ref (md 51), .ref (md 52), .ref (md 53), .ref (md 54), .int 0, .int 0, .ref (md 57), .ref (md 58)])), (md 40, .inl (cyI, 520, .inl g))]
set_option maxHeartbeats 4000000 in
set_option maxRecDepth 100000 in
theorem c_M_write (l : Launch) (dC : Nat → ClassId) (dI : Nat → Nat → Nat) (cyB cyI cyJ cyZ cyO : ClassId) (h1 : Nat) (md : Nat → Nat) (g : Nat → Int32) (x1 : Int32) (x2 : Int32) (sz : Nat) (hg : AllZ g) : Met l yX7_write wq_c_M_write ({ frames := 1, cells := 0, slots := 0, locals := 20 }) (va_Pc [.ref h1, .int x1, .int x2] (cB (dC, dI) (kT cyB cyI cyJ cyZ cyO) (wc_c_M_write cyB cyI cyJ cyZ cyO h1 md g x1 x2) sz)) (va_Qi (fun (r : Int32) (_ : Unit) => r = -1) (fun (u : Unit) t => cE (dC, dI) (va_A (wc_c_M_write cyB cyI cyJ cyZ cyO h1 md g x1 x2) sz) ([]) t.heap) (va_A (wc_c_M_write cyB cyI cyJ cyZ cyO h1 md g x1 x2) sz)) 0 0 (va_A (wc_c_M_write cyB cyI cyJ cyZ cyO h1 md g x1 x2) sz) := by
  refine Met.ofW (cc := cX7_write) (maxL := 3) (ret := (some .int)) (by decide) rfl ?_
  intro p e s m args below meth c s₁ B hml hv
  obtain ⟨rfl, hsz, hP, hKN, hD0⟩ := hv
  have hx := B.exec
  have hb := B.bytes
  have hr := B.returns
  have hts := atoms_spec (ws := wq_c_M_write) B.pre
  have hown : s.vm.findClass RX7 = some m.cls := findClass_of_methodNamed B.named
  have hlocks := B.notSynchronized
  have hK := hKN.1
  have hfix : CallFix p m c cX7_write 3 s [.ref h1, .int x1, .int x2].toArray wq_c_M_write RX7 := ⟨hx, hb, hml, hown, hts⟩
  subst hsz
  have hD := hD0.self (sz := s.heap.size)
  generalize hAe : va_A (wc_c_M_write cyB cyI cyJ cyZ cyO h1 md g x1 x2) s.heap.size = A at hD ⊢
  have hA : ∀ q : Nat, s.heap.size ≤ q → A q := fun q h => by rw [← hAe]; exact Or.inr h
  have hS : va_S A s.heap s.heap [] := va_S.rf
  have hl := lv_entry ([.ref h1, .int x1, .int x2]) (n := 3) (Nat.le_of_ble_eq_true rfl)
  rw [lg_entry_eq]
  generalize (lg_sl ([.ref h1, .int x1, .int x2]) ++ List.replicate (3 - (lg_sl ([.ref h1, .int x1, .int x2])).length) Slot.unset).toArray = ls at hl ⊢
  have hl : lv_has ls 3 [(0, .ref h1), (1, .int x1), (2, .int x2)] := hl
  refine lv_aload_n hx hb dX7_write_0 rfl (lv_at hl 0 rfl) ?_
  refine gf_i (wr := []) (va_runV (As := []) (rest := []) hfix (k_X7_lots_v5 l dC dI cyB cyI cyJ cyZ cyO h1 md g _ hg) (cwV 0 hts (gi_V (ow_m (k := 0) rfl) (ow_m (k := 1) rfl) (ow_m (k := 2) rfl) (ow_m (k := 3) rfl) (sb_c sb_l) gd_k_X7_lots_v5) rfl rfl rfl (by decide +kernel) ⟨Nat.le_of_ble_eq_true rfl, Nat.le_of_ble_eq_true rfl⟩) (g_preV hKN hP hD [0, 1] rfl (by decide) 0 7 rfl rfl) rfl rfl hl.1 rfl (lv_room (Nat.le_of_ble_eq_true rfl)) dX7_write_1 ⟨Nat.le_of_ble_eq_true rfl, Nat.le_of_ble_eq_true rfl⟩) hP hD hS hA [0, 1] [] rfl rfl (by decide) (by decide) (fun r2029 u2030 H locs qu2030 hP hD hS => ?_)
  have hP : va_P (dC, dI) vwCl [(h1, .inr (7, [.ref (md 0), .ref (md 1), .int 0, .int 0, .int 0, .int (-1), .int 0, .int 0, .int 0, .int 0, .long 0, .ref (md 11), .ref (md 12), .ref (md 13), .ref (md 14), .ref (md 15), .ref (md 16), .ref (md 17), .ref (md 18), .ref (md 19), .ref (md 20), .ref (md 21), .ref (md 22), .ref (md 23), .ref (md 24), .ref (md 25), .ref (md 26), .ref (md 27), .ref (md 28), .int 0, .int 0, .int 0, .int 0, .int 0, .int 0, .int 0, .int 0, .int 0, .int 0, .int 0, .ref (md 40), .ref (md 41), .int 0, .int 0, .ref (md 44), .int 0, .int 0, .ref (md 47), .ref (md 48), .int 0, .ref (md 50), .ref (md 51), .ref (md 52), .ref (md 53), .ref (md 54), .int 0, .int 0, .ref (md 57), .ref (md 58)])), (md 40, .inl (cyI, 520, .inl g))] H := hP
  have hD : va_D A [(h1, .inr (7, [.ref (md 0), .ref (md 1), .int 0, .int 0, .int 0, .int (-1), .int 0, .int 0, .int 0, .int 0, .long 0, .ref (md 11), .ref (md 12), .ref (md 13), .ref (md 14), .ref (md 15), .ref (md 16), .ref (md 17), .ref (md 18), .ref (md 19), .ref (md 20), .ref (md 21), .ref (md 22), .ref (md 23), .ref (md 24), .ref (md 25), .ref (md 26), .ref (md 27), .ref (md 28), .int 0, .int 0, .int 0, .int 0, .int 0, .int 0, .int 0, .int 0, .int 0, .int 0, .int 0, .ref (md 40), .ref (md 41), .int 0, .int 0, .ref (md 44), .int 0, .int 0, .ref (md 47), .ref (md 48), .int 0, .ref (md 50), .ref (md 51), .ref (md 52), .ref (md 53), .ref (md 54), .int 0, .int 0, .ref (md 57), .ref (md 58)])), (md 40, .inl (cyI, 520, .inl g))] := hD
  refine tp_c (w := 0) qu2030 ?_
  refine lv_if_eq (tgt := 35) hx hb dX7_write_4 (by decide) (fun _ => ?_) (fun c2031 => absurd (by decide) c2031)
  refine lv_iconst (v := (-1)) hx hb dX7_write_35 (by decide) ?_
  exact W.iret (v := (-1)) hx hb hr (fun t ht hW => ⟨⟨(-1), (), rfl, rfl, cE.nil⟩, hS.F ht⟩) hS.2.2 dX7_write_36
def wo_c_M_tick : List Cond := [.methodLink RX7 313 yX7_lots, .instanceMethod yX7_lots, .selects RX7 yX7_lots yX7_lots, .initialized RX7]
def wq_c_M_tick : List Cond := .code yX7_tick cX7_tick 1 (some .int) :: (wo_c_M_tick ++ (wq_k_X7_lots_v5 ++ []))
theorem gd_c_M_tick : Gd wq_c_M_tick := gd_c (gd_a (gd_o (by decide +kernel)) (gd_a gd_k_X7_lots_v5 gd_0))
abbrev wc_c_M_tick (cyB cyI cyJ cyZ cyO : ClassId) (h1 : Nat) (md : Nat → Nat) (g : Nat → Int32) : va_W := [(h1, .inr (7, [.ref (md 0), .ref (md 1), .int 0, .int 0, .int 0, .int (-1), .int 0, .int 0, .int 0, .int 0, .long 0, .ref (md 11), .ref (md 12), .ref (md 13), .ref (md 14), .ref (md 15), .ref (md 16), .ref (md 17), .ref (md 18), .ref (md 19), .ref (md 20), .ref (md 21), .ref (md 22), .ref (md 23), .ref (md 24), .ref (md 25), .ref (md 26), .ref (md 27), .ref (md 28), .int 0, .int 0, .int 0, .int 0, .int 0, .int 0, .int 0, .int 0, .int 0, .int 0, .int 0, .ref (md 40), .ref (md 41), .int 0, .int 0, .ref (md 44), .int 0, .int 0, .ref (md 47), .ref (md 48), .int 0, .ref (md 50), .ref (md 51), .ref (md 52), .ref (md 53), .ref (md 54), .int 0, .int 0, .ref (md 57), .ref (md 58)])), (md 40, .inl (cyI, 520, .inl g))]
set_option maxHeartbeats 4000000 in
set_option maxRecDepth 100000 in
theorem c_M_tick (l : Launch) (dC : Nat → ClassId) (dI : Nat → Nat → Nat) (cyB cyI cyJ cyZ cyO : ClassId) (h1 : Nat) (md : Nat → Nat) (g : Nat → Int32) (sz : Nat) (hg : AllZ g) : Met l yX7_tick wq_c_M_tick ({ frames := 1, cells := 0, slots := 0, locals := 20 }) (va_Pc [.ref h1] (cB (dC, dI) (kT cyB cyI cyJ cyZ cyO) (wc_c_M_tick cyB cyI cyJ cyZ cyO h1 md g) sz)) (va_Qi (fun (r : Int32) (_ : Unit) => r = -1) (fun (u : Unit) t => cE (dC, dI) (va_A (wc_c_M_tick cyB cyI cyJ cyZ cyO h1 md g) sz) ([]) t.heap) (va_A (wc_c_M_tick cyB cyI cyJ cyZ cyO h1 md g) sz)) 0 0 (va_A (wc_c_M_tick cyB cyI cyJ cyZ cyO h1 md g) sz) := by
  refine Met.ofW (cc := cX7_tick) (maxL := 1) (ret := (some .int)) (by decide) rfl ?_
  intro p e s m args below meth c s₁ B hml hv
  obtain ⟨rfl, hsz, hP, hKN, hD0⟩ := hv
  have hx := B.exec
  have hb := B.bytes
  have hr := B.returns
  have hts := atoms_spec (ws := wq_c_M_tick) B.pre
  have hown : s.vm.findClass RX7 = some m.cls := findClass_of_methodNamed B.named
  have hlocks := B.notSynchronized
  have hK := hKN.1
  have hfix : CallFix p m c cX7_tick 1 s [.ref h1].toArray wq_c_M_tick RX7 := ⟨hx, hb, hml, hown, hts⟩
  subst hsz
  have hD := hD0.self (sz := s.heap.size)
  generalize hAe : va_A (wc_c_M_tick cyB cyI cyJ cyZ cyO h1 md g) s.heap.size = A at hD ⊢
  have hA : ∀ q : Nat, s.heap.size ≤ q → A q := fun q h => by rw [← hAe]; exact Or.inr h
  have hS : va_S A s.heap s.heap [] := va_S.rf
  have hl := lv_entry ([.ref h1]) (n := 1) (Nat.le_of_ble_eq_true rfl)
  rw [lg_entry_eq]
  generalize (lg_sl ([.ref h1]) ++ List.replicate (1 - (lg_sl ([.ref h1])).length) Slot.unset).toArray = ls at hl ⊢
  have hl : lv_has ls 1 [(0, .ref h1)] := hl
  refine lv_aload_n hx hb dX7_tick_0 rfl (lv_at hl 0 rfl) ?_
  refine gf_i (wr := []) (va_runV (As := []) (rest := []) hfix (k_X7_lots_v5 l dC dI cyB cyI cyJ cyZ cyO h1 md g _ hg) (cwV 0 hts (gi_V (ow_m (k := 0) rfl) (ow_m (k := 1) rfl) (ow_m (k := 2) rfl) (ow_m (k := 3) rfl) (sb_c sb_l) gd_k_X7_lots_v5) rfl rfl rfl (by decide +kernel) ⟨Nat.le_of_ble_eq_true rfl, Nat.le_of_ble_eq_true rfl⟩) (g_preV hKN hP hD [0, 1] rfl (by decide) 0 7 rfl rfl) rfl rfl hl.1 rfl (lv_room (Nat.le_of_ble_eq_true rfl)) dX7_tick_1 ⟨Nat.le_of_ble_eq_true rfl, Nat.le_of_ble_eq_true rfl⟩) hP hD hS hA [0, 1] [] rfl rfl (by decide) (by decide) (fun r2035 u2036 H locs qu2036 hP hD hS => ?_)
  have hP : va_P (dC, dI) vwCl [(h1, .inr (7, [.ref (md 0), .ref (md 1), .int 0, .int 0, .int 0, .int (-1), .int 0, .int 0, .int 0, .int 0, .long 0, .ref (md 11), .ref (md 12), .ref (md 13), .ref (md 14), .ref (md 15), .ref (md 16), .ref (md 17), .ref (md 18), .ref (md 19), .ref (md 20), .ref (md 21), .ref (md 22), .ref (md 23), .ref (md 24), .ref (md 25), .ref (md 26), .ref (md 27), .ref (md 28), .int 0, .int 0, .int 0, .int 0, .int 0, .int 0, .int 0, .int 0, .int 0, .int 0, .int 0, .ref (md 40), .ref (md 41), .int 0, .int 0, .ref (md 44), .int 0, .int 0, .ref (md 47), .ref (md 48), .int 0, .ref (md 50), .ref (md 51), .ref (md 52), .ref (md 53), .ref (md 54), .int 0, .int 0, .ref (md 57), .ref (md 58)])), (md 40, .inl (cyI, 520, .inl g))] H := hP
  have hD : va_D A [(h1, .inr (7, [.ref (md 0), .ref (md 1), .int 0, .int 0, .int 0, .int (-1), .int 0, .int 0, .int 0, .int 0, .long 0, .ref (md 11), .ref (md 12), .ref (md 13), .ref (md 14), .ref (md 15), .ref (md 16), .ref (md 17), .ref (md 18), .ref (md 19), .ref (md 20), .ref (md 21), .ref (md 22), .ref (md 23), .ref (md 24), .ref (md 25), .ref (md 26), .ref (md 27), .ref (md 28), .int 0, .int 0, .int 0, .int 0, .int 0, .int 0, .int 0, .int 0, .int 0, .int 0, .int 0, .ref (md 40), .ref (md 41), .int 0, .int 0, .ref (md 44), .int 0, .int 0, .ref (md 47), .ref (md 48), .int 0, .ref (md 50), .ref (md 51), .ref (md 52), .ref (md 53), .ref (md 54), .int 0, .int 0, .ref (md 57), .ref (md 58)])), (md 40, .inl (cyI, 520, .inl g))] := hD
  refine tp_c (w := 0) qu2036 ?_
  refine lv_if_eq (tgt := 20) hx hb dX7_tick_4 (by decide) (fun _ => ?_) (fun c2037 => absurd (by decide) c2037)
  refine lv_iconst (v := (-1)) hx hb dX7_tick_20 (by decide) ?_
  exact W.iret (v := (-1)) hx hb hr (fun t ht hW => ⟨⟨(-1), (), rfl, rfl, cE.nil⟩, hS.F ht⟩) hS.2.2 dX7_tick_21
def wo_k_X7_isMember : List Cond := [.methodLink RX7 320 yX7_isNode, .instanceMethod yX7_isNode, .selects RX7 yX7_isNode yX7_isNode, .initialized RX7]
def wq_k_X7_isMember : List Cond := .code yX7_isMember cX7_isMember 2 (some .boolean) :: (wo_k_X7_isMember ++ (wq_k_X7_isNode ++ []))
theorem gd_k_X7_isMember : Gd wq_k_X7_isMember := gd_c (gd_a (gd_o (by decide +kernel)) (gd_a gd_k_X7_isNode gd_0))
abbrev wc_k_X7_isMember (cyB cyI cyJ cyZ cyO : ClassId) (h1 : Nat) (md : Nat → Nat) (a1 : Int32) : va_W := [(h1, .inr (7, [.ref (md 0), .ref (md 1), .int 0, .int 0, .int 0, .int (-1), .int 0, .int 0, .int 0, .int 0, .long 0, .ref (md 11), .ref (md 12), .ref (md 13), .ref (md 14), .ref (md 15), .ref (md 16), .ref (md 17), .ref (md 18), .ref (md 19), .ref (md 20), .ref (md 21), .ref (md 22), .ref (md 23), .ref (md 24), .ref (md 25), .ref (md 26), .ref (md 27), .ref (md 28), .int 0, .int 0, .int 0, .int 0, .int 0, .int 0, .int 0, .int 0, .int 0, .int 0, .int 0, .ref (md 40), .ref (md 41), .int 0, .int 0, .ref (md 44), .int 0, .int 0, .ref (md 47), .ref (md 48), .int 0, .ref (md 50), .ref (md 51), .ref (md 52), .ref (md 53), .ref (md 54), .int 0, .int 0, .ref (md 57), .ref (md 58)])), (md 11, .inl (cyI, 2, .inl (fun _ => 0)))]
set_option maxHeartbeats 4000000 in
set_option maxRecDepth 100000 in
theorem k_X7_isMember (l : Launch) (dC : Nat → ClassId) (dI : Nat → Nat → Nat) (cyB cyI cyJ cyZ cyO : ClassId) (h1 : Nat) (md : Nat → Nat) (a1 : Int32) (sz : Nat) : Met l yX7_isMember wq_k_X7_isMember ({ frames := 2, cells := 0, slots := 0, locals := 43 }) (va_Pc [.ref h1, .int a1] (cB (dC, dI) (kT cyB cyI cyJ cyZ cyO) (wc_k_X7_isMember cyB cyI cyJ cyZ cyO h1 md a1) sz)) (va_Qi (fun (r : Int32) _ => (r = 0 ∧ a1.toInt < 0) ∨ (r = 0 ∧ 0 ≤ a1.toInt ∧ (-1) < a1.toInt)) (fun (u : Unit) t => cE (dC, dI) (va_A (wc_k_X7_isMember cyB cyI cyJ cyZ cyO h1 md a1) sz) ([(h1, .inr (7, [.ref (md 0), .ref (md 1), .int 0, .int 0, .int 0, .int (-1), .int 0, .int 0, .int 0, .int 0, .long 0, .ref (md 11), .ref (md 12), .ref (md 13), .ref (md 14), .ref (md 15), .ref (md 16), .ref (md 17), .ref (md 18), .ref (md 19), .ref (md 20), .ref (md 21), .ref (md 22), .ref (md 23), .ref (md 24), .ref (md 25), .ref (md 26), .ref (md 27), .ref (md 28), .int 0, .int 0, .int 0, .int 0, .int 0, .int 0, .int 0, .int 0, .int 0, .int 0, .int 0, .ref (md 40), .ref (md 41), .int 0, .int 0, .ref (md 44), .int 0, .int 0, .ref (md 47), .ref (md 48), .int 0, .ref (md 50), .ref (md 51), .ref (md 52), .ref (md 53), .ref (md 54), .int 0, .int 0, .ref (md 57), .ref (md 58)])), (md 11, .inl (cyI, 2, .inl (fun _ => 0)))]) t.heap) (va_A (wc_k_X7_isMember cyB cyI cyJ cyZ cyO h1 md a1) sz)) 0 0 (va_A (wc_k_X7_isMember cyB cyI cyJ cyZ cyO h1 md a1) sz) := by
  refine Met.ofW (cc := cX7_isMember) (maxL := 2) (ret := (some .boolean)) (by decide) rfl ?_
  intro p e s m args below meth c s₁ B hml hv
  obtain ⟨rfl, hsz, hP, hKN, hD0⟩ := hv
  have hx := B.exec
  have hb := B.bytes
  have hr := B.returns
  have hts := atoms_spec (ws := wq_k_X7_isMember) B.pre
  have hown : s.vm.findClass RX7 = some m.cls := findClass_of_methodNamed B.named
  have hlocks := B.notSynchronized
  have hK := hKN.1
  have hfix : CallFix p m c cX7_isMember 2 s [.ref h1, .int a1].toArray wq_k_X7_isMember RX7 := ⟨hx, hb, hml, hown, hts⟩
  subst hsz
  have hD := hD0.self (sz := s.heap.size)
  generalize hAe : va_A (wc_k_X7_isMember cyB cyI cyJ cyZ cyO h1 md a1) s.heap.size = A at hD ⊢
  have hA : ∀ q : Nat, s.heap.size ≤ q → A q := fun q h => by rw [← hAe]; exact Or.inr h
  have hS : va_S A s.heap s.heap [] := va_S.rf
  have hl := lv_entry ([.ref h1, .int a1]) (n := 2) (Nat.le_of_ble_eq_true rfl)
  rw [lg_entry_eq]
  generalize (lg_sl ([.ref h1, .int a1]) ++ List.replicate (2 - (lg_sl ([.ref h1, .int a1])).length) Slot.unset).toArray = ls at hl ⊢
  have hl : lv_has ls 2 [(0, .ref h1), (1, .int a1)] := hl
  refine lv_aload_n hx hb dX7_isMember_0 rfl (lv_at hl 0 rfl) ?_
  refine lv_iload_n hx hb dX7_isMember_1 rfl (lv_at hl 1 rfl) ?_
  refine gf_i (wr := []) (va_runV (As := [.int a1]) (rest := []) hfix (k_X7_isNode l dC dI cyB cyI cyJ cyZ cyO h1 md a1 _) (cwV 1 hts (gi_V (ow_m (k := 0) rfl) (ow_m (k := 1) rfl) (ow_m (k := 2) rfl) (ow_m (k := 3) rfl) (sb_c sb_l) gd_k_X7_isNode) rfl rfl rfl (by decide +kernel) ⟨Nat.le_of_ble_eq_true rfl, Nat.le_of_ble_eq_true rfl⟩) (g_preV hKN hP hD [0, 1] rfl (by decide) 0 7 rfl rfl) rfl rfl hl.1 rfl (lv_room (Nat.le_of_ble_eq_true rfl)) dX7_isMember_2 ⟨Nat.le_of_ble_eq_true rfl, Nat.le_of_ble_eq_true rfl⟩) hP hD hS hA [0, 1] [] rfl rfl (by decide) (by decide) (fun r2059 u2060 H locs qu2060 hP hD hS => ?_)
  have hP : va_P (dC, dI) vwCl [(h1, .inr (7, [.ref (md 0), .ref (md 1), .int 0, .int 0, .int 0, .int (-1), .int 0, .int 0, .int 0, .int 0, .long 0, .ref (md 11), .ref (md 12), .ref (md 13), .ref (md 14), .ref (md 15), .ref (md 16), .ref (md 17), .ref (md 18), .ref (md 19), .ref (md 20), .ref (md 21), .ref (md 22), .ref (md 23), .ref (md 24), .ref (md 25), .ref (md 26), .ref (md 27), .ref (md 28), .int 0, .int 0, .int 0, .int 0, .int 0, .int 0, .int 0, .int 0, .int 0, .int 0, .int 0, .ref (md 40), .ref (md 41), .int 0, .int 0, .ref (md 44), .int 0, .int 0, .ref (md 47), .ref (md 48), .int 0, .ref (md 50), .ref (md 51), .ref (md 52), .ref (md 53), .ref (md 54), .int 0, .int 0, .ref (md 57), .ref (md 58)])), (md 11, .inl (cyI, 2, .inl (fun _ => 0)))] H := hP
  have hD : va_D A [(h1, .inr (7, [.ref (md 0), .ref (md 1), .int 0, .int 0, .int 0, .int (-1), .int 0, .int 0, .int 0, .int 0, .long 0, .ref (md 11), .ref (md 12), .ref (md 13), .ref (md 14), .ref (md 15), .ref (md 16), .ref (md 17), .ref (md 18), .ref (md 19), .ref (md 20), .ref (md 21), .ref (md 22), .ref (md 23), .ref (md 24), .ref (md 25), .ref (md 26), .ref (md 27), .ref (md 28), .int 0, .int 0, .int 0, .int 0, .int 0, .int 0, .int 0, .int 0, .int 0, .int 0, .int 0, .ref (md 40), .ref (md 41), .int 0, .int 0, .ref (md 44), .int 0, .int 0, .ref (md 47), .ref (md 48), .int 0, .ref (md 50), .ref (md 51), .ref (md 52), .ref (md 53), .ref (md 54), .int 0, .int 0, .ref (md 57), .ref (md 58)])), (md 11, .inl (cyI, 2, .inl (fun _ => 0)))] := hD
  rcases qu2060 with ⟨rfl, b2061⟩ | ⟨rfl, b2062, b2063⟩
  · skip
    refine lv_if_eq (tgt := 20) hx hb dX7_isMember_5 (by decide) (fun _ => ?_) (fun c2064 => absurd (by decide) c2064)
    refine lv_iconst (v := 0) hx hb dX7_isMember_20 (by decide) ?_
    exact W.zret (v := 0) hx hb hr (by decide) (fun t ht hW => ⟨⟨0, (), rfl, (Or.inl ⟨rfl, b2061⟩), cE.of ht hP hD [0, 1] (by decide) rfl⟩, hS.F ht⟩) hS.2.2 dX7_isMember_21
  · skip
    refine lv_if_eq (tgt := 20) hx hb dX7_isMember_5 (by decide) (fun _ => ?_) (fun c2065 => absurd (by decide) c2065)
    refine lv_iconst (v := 0) hx hb dX7_isMember_20 (by decide) ?_
    exact W.zret (v := 0) hx hb hr (by decide) (fun t ht hW => ⟨⟨0, (), rfl, (Or.inr ⟨rfl, b2062, b2063⟩), cE.of ht hP hD [0, 1] (by decide) rfl⟩, hS.F ht⟩) hS.2.2 dX7_isMember_21
def wo_c_M_lose : List Cond := [.methodLink RX7 407 yX7_isMember, .instanceMethod yX7_isMember, .selects RX7 yX7_isMember yX7_isMember, .initialized RX7]
def wq_c_M_lose : List Cond := .code yX7_lose cX7_lose 2 (some .int) :: (wo_c_M_lose ++ (wq_k_X7_isMember ++ []))
theorem gd_c_M_lose : Gd wq_c_M_lose := gd_c (gd_a (gd_o (by decide +kernel)) (gd_a gd_k_X7_isMember gd_0))
abbrev wc_c_M_lose (cyB cyI cyJ cyZ cyO : ClassId) (h1 : Nat) (md : Nat → Nat) (x1 : Int32) : va_W := [(h1, .inr (7, [.ref (md 0), .ref (md 1), .int 0, .int 0, .int 0, .int (-1), .int 0, .int 0, .int 0, .int 0, .long 0, .ref (md 11), .ref (md 12), .ref (md 13), .ref (md 14), .ref (md 15), .ref (md 16), .ref (md 17), .ref (md 18), .ref (md 19), .ref (md 20), .ref (md 21), .ref (md 22), .ref (md 23), .ref (md 24), .ref (md 25), .ref (md 26), .ref (md 27), .ref (md 28), .int 0, .int 0, .int 0, .int 0, .int 0, .int 0, .int 0, .int 0, .int 0, .int 0, .int 0, .ref (md 40), .ref (md 41), .int 0, .int 0, .ref (md 44), .int 0, .int 0, .ref (md 47), .ref (md 48), .int 0, .ref (md 50), .ref (md 51), .ref (md 52), .ref (md 53), .ref (md 54), .int 0, .int 0, .ref (md 57), .ref (md 58)])), (md 11, .inl (cyI, 2, .inl (fun _ => 0)))]
set_option maxHeartbeats 4000000 in
set_option maxRecDepth 100000 in
theorem c_M_lose (l : Launch) (dC : Nat → ClassId) (dI : Nat → Nat → Nat) (cyB cyI cyJ cyZ cyO : ClassId) (h1 : Nat) (md : Nat → Nat) (x1 : Int32) (sz : Nat) : Met l yX7_lose wq_c_M_lose ({ frames := 3, cells := 0, slots := 0, locals := 64 }) (va_Pc [.ref h1, .int x1] (cB (dC, dI) (kT cyB cyI cyJ cyZ cyO) (wc_c_M_lose cyB cyI cyJ cyZ cyO h1 md x1) sz)) (va_Qi (fun (r : Int32) (_ : Unit) => r = -1) (fun (u : Unit) t => cE (dC, dI) (va_A (wc_c_M_lose cyB cyI cyJ cyZ cyO h1 md x1) sz) ([]) t.heap) (va_A (wc_c_M_lose cyB cyI cyJ cyZ cyO h1 md x1) sz)) 0 0 (va_A (wc_c_M_lose cyB cyI cyJ cyZ cyO h1 md x1) sz) := by
  refine Met.ofW (cc := cX7_lose) (maxL := 2) (ret := (some .int)) (by decide) rfl ?_
  intro p e s m args below meth c s₁ B hml hv
  obtain ⟨rfl, hsz, hP, hKN, hD0⟩ := hv
  have hx := B.exec
  have hb := B.bytes
  have hr := B.returns
  have hts := atoms_spec (ws := wq_c_M_lose) B.pre
  have hown : s.vm.findClass RX7 = some m.cls := findClass_of_methodNamed B.named
  have hlocks := B.notSynchronized
  have hK := hKN.1
  have hfix : CallFix p m c cX7_lose 2 s [.ref h1, .int x1].toArray wq_c_M_lose RX7 := ⟨hx, hb, hml, hown, hts⟩
  subst hsz
  have hD := hD0.self (sz := s.heap.size)
  generalize hAe : va_A (wc_c_M_lose cyB cyI cyJ cyZ cyO h1 md x1) s.heap.size = A at hD ⊢
  have hA : ∀ q : Nat, s.heap.size ≤ q → A q := fun q h => by rw [← hAe]; exact Or.inr h
  have hS : va_S A s.heap s.heap [] := va_S.rf
  have hl := lv_entry ([.ref h1, .int x1]) (n := 2) (Nat.le_of_ble_eq_true rfl)
  rw [lg_entry_eq]
  generalize (lg_sl ([.ref h1, .int x1]) ++ List.replicate (2 - (lg_sl ([.ref h1, .int x1])).length) Slot.unset).toArray = ls at hl ⊢
  have hl : lv_has ls 2 [(0, .ref h1), (1, .int x1)] := hl
  refine lv_aload_n hx hb dX7_lose_0 rfl (lv_at hl 0 rfl) ?_
  refine lv_iload_n hx hb dX7_lose_1 rfl (lv_at hl 1 rfl) ?_
  refine gf_i (wr := []) (va_runV (As := [.int x1]) (rest := []) hfix (k_X7_isMember l dC dI cyB cyI cyJ cyZ cyO h1 md x1 _) (cwV 1 hts (gi_V (ow_m (k := 0) rfl) (ow_m (k := 1) rfl) (ow_m (k := 2) rfl) (ow_m (k := 3) rfl) (sb_c sb_l) gd_k_X7_isMember) rfl rfl rfl (by decide +kernel) ⟨Nat.le_of_ble_eq_true rfl, Nat.le_of_ble_eq_true rfl⟩) (g_preV hKN hP hD [0, 1] rfl (by decide) 0 7 rfl rfl) rfl rfl hl.1 rfl (lv_room (Nat.le_of_ble_eq_true rfl)) dX7_lose_2 ⟨Nat.le_of_ble_eq_true rfl, Nat.le_of_ble_eq_true rfl⟩) hP hD hS hA [0, 1] [] rfl rfl (by decide) (by decide) (fun r2087 u2088 H locs qu2088 hP hD hS => ?_)
  have hP : va_P (dC, dI) vwCl [(h1, .inr (7, [.ref (md 0), .ref (md 1), .int 0, .int 0, .int 0, .int (-1), .int 0, .int 0, .int 0, .int 0, .long 0, .ref (md 11), .ref (md 12), .ref (md 13), .ref (md 14), .ref (md 15), .ref (md 16), .ref (md 17), .ref (md 18), .ref (md 19), .ref (md 20), .ref (md 21), .ref (md 22), .ref (md 23), .ref (md 24), .ref (md 25), .ref (md 26), .ref (md 27), .ref (md 28), .int 0, .int 0, .int 0, .int 0, .int 0, .int 0, .int 0, .int 0, .int 0, .int 0, .int 0, .ref (md 40), .ref (md 41), .int 0, .int 0, .ref (md 44), .int 0, .int 0, .ref (md 47), .ref (md 48), .int 0, .ref (md 50), .ref (md 51), .ref (md 52), .ref (md 53), .ref (md 54), .int 0, .int 0, .ref (md 57), .ref (md 58)])), (md 11, .inl (cyI, 2, .inl (fun _ => 0)))] H := hP
  have hD : va_D A [(h1, .inr (7, [.ref (md 0), .ref (md 1), .int 0, .int 0, .int 0, .int (-1), .int 0, .int 0, .int 0, .int 0, .long 0, .ref (md 11), .ref (md 12), .ref (md 13), .ref (md 14), .ref (md 15), .ref (md 16), .ref (md 17), .ref (md 18), .ref (md 19), .ref (md 20), .ref (md 21), .ref (md 22), .ref (md 23), .ref (md 24), .ref (md 25), .ref (md 26), .ref (md 27), .ref (md 28), .int 0, .int 0, .int 0, .int 0, .int 0, .int 0, .int 0, .int 0, .int 0, .int 0, .int 0, .ref (md 40), .ref (md 41), .int 0, .int 0, .ref (md 44), .int 0, .int 0, .ref (md 47), .ref (md 48), .int 0, .ref (md 50), .ref (md 51), .ref (md 52), .ref (md 53), .ref (md 54), .int 0, .int 0, .ref (md 57), .ref (md 58)])), (md 11, .inl (cyI, 2, .inl (fun _ => 0)))] := hD
  rcases qu2088 with ⟨rfl, b2089⟩ | ⟨rfl, b2090, b2091⟩
  · skip
    refine lv_if_eq (tgt := 16) hx hb dX7_lose_5 (by decide) (fun _ => ?_) (fun c2092 => absurd (by decide) c2092)
    refine lv_iconst (v := (-1)) hx hb dX7_lose_16 (by decide) ?_
    exact W.iret (v := (-1)) hx hb hr (fun t ht hW => ⟨⟨(-1), (), rfl, rfl, cE.nil⟩, hS.F ht⟩) hS.2.2 dX7_lose_17
  · skip
    refine lv_if_eq (tgt := 16) hx hb dX7_lose_5 (by decide) (fun _ => ?_) (fun c2093 => absurd (by decide) c2093)
    refine lv_iconst (v := (-1)) hx hb dX7_lose_16 (by decide) ?_
    exact W.iret (v := (-1)) hx hb hr (fun t ht hW => ⟨⟨(-1), (), rfl, rfl, cE.nil⟩, hS.F ht⟩) hS.2.2 dX7_lose_17
def wo_c_M_join : List Cond := [.methodLink RX7 320 yX7_isNode, .instanceMethod yX7_isNode, .selects RX7 yX7_isNode yX7_isNode, .initialized RX7]
def wq_c_M_join : List Cond := .code yX7_join cX7_join 2 (some .int) :: (wo_c_M_join ++ (wq_k_X7_isNode ++ []))
theorem gd_c_M_join : Gd wq_c_M_join := gd_c (gd_a (gd_o (by decide +kernel)) (gd_a gd_k_X7_isNode gd_0))
abbrev wc_c_M_join (cyB cyI cyJ cyZ cyO : ClassId) (h1 : Nat) (md : Nat → Nat) (x1 : Int32) : va_W := [(h1, .inr (7, [.ref (md 0), .ref (md 1), .int 0, .int 0, .int 0, .int (-1), .int 0, .int 0, .int 0, .int 0, .long 0, .ref (md 11), .ref (md 12), .ref (md 13), .ref (md 14), .ref (md 15), .ref (md 16), .ref (md 17), .ref (md 18), .ref (md 19), .ref (md 20), .ref (md 21), .ref (md 22), .ref (md 23), .ref (md 24), .ref (md 25), .ref (md 26), .ref (md 27), .ref (md 28), .int 0, .int 0, .int 0, .int 0, .int 0, .int 0, .int 0, .int 0, .int 0, .int 0, .int 0, .ref (md 40), .ref (md 41), .int 0, .int 0, .ref (md 44), .int 0, .int 0, .ref (md 47), .ref (md 48), .int 0, .ref (md 50), .ref (md 51), .ref (md 52), .ref (md 53), .ref (md 54), .int 0, .int 0, .ref (md 57), .ref (md 58)])), (md 11, .inl (cyI, 2, .inl (fun _ => 0)))]
set_option maxHeartbeats 4000000 in
set_option maxRecDepth 100000 in
theorem c_M_join (l : Launch) (dC : Nat → ClassId) (dI : Nat → Nat → Nat) (cyB cyI cyJ cyZ cyO : ClassId) (h1 : Nat) (md : Nat → Nat) (x1 : Int32) (sz : Nat) : Met l yX7_join wq_c_M_join ({ frames := 2, cells := 0, slots := 0, locals := 43 }) (va_Pc [.ref h1, .int x1] (cB (dC, dI) (kT cyB cyI cyJ cyZ cyO) (wc_c_M_join cyB cyI cyJ cyZ cyO h1 md x1) sz)) (va_Qi (fun (r : Int32) (_ : Unit) => r = -1) (fun (u : Unit) t => cE (dC, dI) (va_A (wc_c_M_join cyB cyI cyJ cyZ cyO h1 md x1) sz) ([]) t.heap) (va_A (wc_c_M_join cyB cyI cyJ cyZ cyO h1 md x1) sz)) 0 0 (va_A (wc_c_M_join cyB cyI cyJ cyZ cyO h1 md x1) sz) := by
  refine Met.ofW (cc := cX7_join) (maxL := 2) (ret := (some .int)) (by decide) rfl ?_
  intro p e s m args below meth c s₁ B hml hv
  obtain ⟨rfl, hsz, hP, hKN, hD0⟩ := hv
  have hx := B.exec
  have hb := B.bytes
  have hr := B.returns
  have hts := atoms_spec (ws := wq_c_M_join) B.pre
  have hown : s.vm.findClass RX7 = some m.cls := findClass_of_methodNamed B.named
  have hlocks := B.notSynchronized
  have hK := hKN.1
  have hfix : CallFix p m c cX7_join 2 s [.ref h1, .int x1].toArray wq_c_M_join RX7 := ⟨hx, hb, hml, hown, hts⟩
  subst hsz
  have hD := hD0.self (sz := s.heap.size)
  generalize hAe : va_A (wc_c_M_join cyB cyI cyJ cyZ cyO h1 md x1) s.heap.size = A at hD ⊢
  have hA : ∀ q : Nat, s.heap.size ≤ q → A q := fun q h => by rw [← hAe]; exact Or.inr h
  have hS : va_S A s.heap s.heap [] := va_S.rf
  have hl := lv_entry ([.ref h1, .int x1]) (n := 2) (Nat.le_of_ble_eq_true rfl)
  rw [lg_entry_eq]
  generalize (lg_sl ([.ref h1, .int x1]) ++ List.replicate (2 - (lg_sl ([.ref h1, .int x1])).length) Slot.unset).toArray = ls at hl ⊢
  have hl : lv_has ls 2 [(0, .ref h1), (1, .int x1)] := hl
  refine lv_aload_n hx hb dX7_join_0 rfl (lv_at hl 0 rfl) ?_
  refine lv_iload_n hx hb dX7_join_1 rfl (lv_at hl 1 rfl) ?_
  refine gf_i (wr := []) (va_runV (As := [.int x1]) (rest := []) hfix (k_X7_isNode l dC dI cyB cyI cyJ cyZ cyO h1 md x1 _) (cwV 1 hts (gi_V (ow_m (k := 0) rfl) (ow_m (k := 1) rfl) (ow_m (k := 2) rfl) (ow_m (k := 3) rfl) (sb_c sb_l) gd_k_X7_isNode) rfl rfl rfl (by decide +kernel) ⟨Nat.le_of_ble_eq_true rfl, Nat.le_of_ble_eq_true rfl⟩) (g_preV hKN hP hD [0, 1] rfl (by decide) 0 7 rfl rfl) rfl rfl hl.1 rfl (lv_room (Nat.le_of_ble_eq_true rfl)) dX7_join_2 ⟨Nat.le_of_ble_eq_true rfl, Nat.le_of_ble_eq_true rfl⟩) hP hD hS hA [0, 1] [] rfl rfl (by decide) (by decide) (fun r2115 u2116 H locs qu2116 hP hD hS => ?_)
  have hP : va_P (dC, dI) vwCl [(h1, .inr (7, [.ref (md 0), .ref (md 1), .int 0, .int 0, .int 0, .int (-1), .int 0, .int 0, .int 0, .int 0, .long 0, .ref (md 11), .ref (md 12), .ref (md 13), .ref (md 14), .ref (md 15), .ref (md 16), .ref (md 17), .ref (md 18), .ref (md 19), .ref (md 20), .ref (md 21), .ref (md 22), .ref (md 23), .ref (md 24), .ref (md 25), .ref (md 26), .ref (md 27), .ref (md 28), .int 0, .int 0, .int 0, .int 0, .int 0, .int 0, .int 0, .int 0, .int 0, .int 0, .int 0, .ref (md 40), .ref (md 41), .int 0, .int 0, .ref (md 44), .int 0, .int 0, .ref (md 47), .ref (md 48), .int 0, .ref (md 50), .ref (md 51), .ref (md 52), .ref (md 53), .ref (md 54), .int 0, .int 0, .ref (md 57), .ref (md 58)])), (md 11, .inl (cyI, 2, .inl (fun _ => 0)))] H := hP
  have hD : va_D A [(h1, .inr (7, [.ref (md 0), .ref (md 1), .int 0, .int 0, .int 0, .int (-1), .int 0, .int 0, .int 0, .int 0, .long 0, .ref (md 11), .ref (md 12), .ref (md 13), .ref (md 14), .ref (md 15), .ref (md 16), .ref (md 17), .ref (md 18), .ref (md 19), .ref (md 20), .ref (md 21), .ref (md 22), .ref (md 23), .ref (md 24), .ref (md 25), .ref (md 26), .ref (md 27), .ref (md 28), .int 0, .int 0, .int 0, .int 0, .int 0, .int 0, .int 0, .int 0, .int 0, .int 0, .int 0, .ref (md 40), .ref (md 41), .int 0, .int 0, .ref (md 44), .int 0, .int 0, .ref (md 47), .ref (md 48), .int 0, .ref (md 50), .ref (md 51), .ref (md 52), .ref (md 53), .ref (md 54), .int 0, .int 0, .ref (md 57), .ref (md 58)])), (md 11, .inl (cyI, 2, .inl (fun _ => 0)))] := hD
  rcases qu2116 with ⟨rfl, b2117⟩ | ⟨rfl, b2118, b2119⟩
  · skip
    refine lv_if_eq (tgt := 42) hx hb dX7_join_5 (by decide) (fun _ => ?_) (fun c2120 => absurd (by decide) c2120)
    refine lv_iconst (v := (-1)) hx hb dX7_join_42 (by decide) ?_
    exact W.iret (v := (-1)) hx hb hr (fun t ht hW => ⟨⟨(-1), (), rfl, rfl, cE.nil⟩, hS.F ht⟩) hS.2.2 dX7_join_43
  · skip
    refine lv_if_eq (tgt := 42) hx hb dX7_join_5 (by decide) (fun _ => ?_) (fun c2121 => absurd (by decide) c2121)
    refine lv_iconst (v := (-1)) hx hb dX7_join_42 (by decide) ?_
    exact W.iret (v := (-1)) hx hb hr (fun t ht hW => ⟨⟨(-1), (), rfl, rfl, cE.nil⟩, hS.F ht⟩) hS.2.2 dX7_join_43
def wo_c_M_undo : List Cond := [.fieldLink RX7 329 "ReplicaChainModel" "acts" "I"]
def wq_c_M_undo : List Cond := .code yX7_undo cX7_undo 1 (some .boolean) :: (wo_c_M_undo ++ (wsX70 ++ []))
theorem gd_c_M_undo : Gd wq_c_M_undo := gd_c (gd_a (gd_o (by decide +kernel)) (gd_a gd_u gd_0))
abbrev wc_c_M_undo (cyB cyI cyJ cyZ cyO : ClassId) (h1 : Nat) (md : Nat → Nat) : va_W := [(h1, .inr (7, [.ref (md 0), .ref (md 1), .int 0, .int 0, .int 0, .int (-1), .int 0, .int 0, .int 0, .int 0, .long 0, .ref (md 11), .ref (md 12), .ref (md 13), .ref (md 14), .ref (md 15), .ref (md 16), .ref (md 17), .ref (md 18), .ref (md 19), .ref (md 20), .ref (md 21), .ref (md 22), .ref (md 23), .ref (md 24), .ref (md 25), .ref (md 26), .ref (md 27), .ref (md 28), .int 0, .int 0, .int 0, .int 0, .int 0, .int 0, .int 0, .int 0, .int 0, .int 0, .int 0, .ref (md 40), .ref (md 41), .int 0, .int 0, .ref (md 44), .int 0, .int 0, .ref (md 47), .ref (md 48), .int 0, .ref (md 50), .ref (md 51), .ref (md 52), .ref (md 53), .ref (md 54), .int 0, .int 0, .ref (md 57), .ref (md 58)]))]
set_option maxHeartbeats 4000000 in
set_option maxRecDepth 100000 in
theorem c_M_undo (l : Launch) (dC : Nat → ClassId) (dI : Nat → Nat → Nat) (cyB cyI cyJ cyZ cyO : ClassId) (h1 : Nat) (md : Nat → Nat) (sz : Nat) : Met l yX7_undo wq_c_M_undo ({ frames := 0, cells := 0, slots := 0, locals := 0 }) (va_Pc [.ref h1] (cB (dC, dI) (kT cyB cyI cyJ cyZ cyO) (wc_c_M_undo cyB cyI cyJ cyZ cyO h1 md) sz)) (va_Qi (fun (r : Int32) (_ : Unit) => r = 0) (fun (u : Unit) t => cE (dC, dI) (va_A (wc_c_M_undo cyB cyI cyJ cyZ cyO h1 md) sz) ([]) t.heap) (va_A (wc_c_M_undo cyB cyI cyJ cyZ cyO h1 md) sz)) 0 0 (va_A (wc_c_M_undo cyB cyI cyJ cyZ cyO h1 md) sz) := by
  refine Met.ofW (cc := cX7_undo) (maxL := 1) (ret := (some .boolean)) (by decide) rfl ?_
  intro p e s m args below meth c s₁ B hml hv
  obtain ⟨rfl, hsz, hP, hKN, hD0⟩ := hv
  have hx := B.exec
  have hb := B.bytes
  have hr := B.returns
  have hts := atoms_spec (ws := wq_c_M_undo) B.pre
  have hown : s.vm.findClass RX7 = some m.cls := findClass_of_methodNamed B.named
  have hlocks := B.notSynchronized
  have hK := hKN.1
  have hfix : CallFix p m c cX7_undo 1 s [.ref h1].toArray wq_c_M_undo RX7 := ⟨hx, hb, hml, hown, hts⟩
  have hi7 : ∀ w ∈ wsX70, w ∈ wq_c_M_undo := (sb_c sb_l)
  subst hsz
  have hD := hD0.self (sz := s.heap.size)
  generalize hAe : va_A (wc_c_M_undo cyB cyI cyJ cyZ cyO h1 md) s.heap.size = A at hD ⊢
  have hA : ∀ q : Nat, s.heap.size ≤ q → A q := fun q h => by rw [← hAe]; exact Or.inr h
  have hS : va_S A s.heap s.heap [] := va_S.rf
  have hl := lv_entry ([.ref h1]) (n := 1) (Nat.le_of_ble_eq_true rfl)
  rw [lg_entry_eq]
  generalize (lg_sl ([.ref h1]) ++ List.replicate (1 - (lg_sl ([.ref h1])).length) Slot.unset).toArray = ls at hl ⊢
  have hl : lv_has ls 1 [(0, .ref h1)] := hl
  refine lv_aload_n hx hb dX7_undo_0 rfl (lv_at hl 0 rfl) ?_
  refine va_get (D := (dC, dI)) (ci := 7) (v := .int 0) (C := RX7) (T := TX7) (N := 59) hx hb hts hi7 hown hK hP 0 rfl rfl 45 (by decide) (hts _ (ow_m (k := 0) rfl)) (fun _ h9 => h9) rfl dX7_undo_1 ?_
  refine lv_if_ne (tgt := 9) hx hb dX7_undo_4 (by decide) (fun c2123 => absurd (by decide) c2123) (fun _ => ?_)
  refine lv_iconst (v := 0) hx hb dX7_undo_7 (by decide) ?_
  exact W.zret (v := 0) hx hb hr (by decide) (fun t ht hW => ⟨⟨0, (), rfl, rfl, cE.nil⟩, hS.F ht⟩) hS.2.2 dX7_undo_8
def wo_c_M_redo : List Cond := [.fieldLink RX7 332 "ReplicaChainModel" "undone" "I"]
def wq_c_M_redo : List Cond := .code yX7_redo cX7_redo 1 (some .boolean) :: (wo_c_M_redo ++ (wsX70 ++ []))
theorem gd_c_M_redo : Gd wq_c_M_redo := gd_c (gd_a (gd_o (by decide +kernel)) (gd_a gd_u gd_0))
abbrev wc_c_M_redo (cyB cyI cyJ cyZ cyO : ClassId) (h1 : Nat) (md : Nat → Nat) : va_W := [(h1, .inr (7, [.ref (md 0), .ref (md 1), .int 0, .int 0, .int 0, .int (-1), .int 0, .int 0, .int 0, .int 0, .long 0, .ref (md 11), .ref (md 12), .ref (md 13), .ref (md 14), .ref (md 15), .ref (md 16), .ref (md 17), .ref (md 18), .ref (md 19), .ref (md 20), .ref (md 21), .ref (md 22), .ref (md 23), .ref (md 24), .ref (md 25), .ref (md 26), .ref (md 27), .ref (md 28), .int 0, .int 0, .int 0, .int 0, .int 0, .int 0, .int 0, .int 0, .int 0, .int 0, .int 0, .ref (md 40), .ref (md 41), .int 0, .int 0, .ref (md 44), .int 0, .int 0, .ref (md 47), .ref (md 48), .int 0, .ref (md 50), .ref (md 51), .ref (md 52), .ref (md 53), .ref (md 54), .int 0, .int 0, .ref (md 57), .ref (md 58)]))]
set_option maxHeartbeats 4000000 in
set_option maxRecDepth 100000 in
theorem c_M_redo (l : Launch) (dC : Nat → ClassId) (dI : Nat → Nat → Nat) (cyB cyI cyJ cyZ cyO : ClassId) (h1 : Nat) (md : Nat → Nat) (sz : Nat) : Met l yX7_redo wq_c_M_redo ({ frames := 0, cells := 0, slots := 0, locals := 0 }) (va_Pc [.ref h1] (cB (dC, dI) (kT cyB cyI cyJ cyZ cyO) (wc_c_M_redo cyB cyI cyJ cyZ cyO h1 md) sz)) (va_Qi (fun (r : Int32) (_ : Unit) => r = 0) (fun (u : Unit) t => cE (dC, dI) (va_A (wc_c_M_redo cyB cyI cyJ cyZ cyO h1 md) sz) ([]) t.heap) (va_A (wc_c_M_redo cyB cyI cyJ cyZ cyO h1 md) sz)) 0 0 (va_A (wc_c_M_redo cyB cyI cyJ cyZ cyO h1 md) sz) := by
  refine Met.ofW (cc := cX7_redo) (maxL := 1) (ret := (some .boolean)) (by decide) rfl ?_
  intro p e s m args below meth c s₁ B hml hv
  obtain ⟨rfl, hsz, hP, hKN, hD0⟩ := hv
  have hx := B.exec
  have hb := B.bytes
  have hr := B.returns
  have hts := atoms_spec (ws := wq_c_M_redo) B.pre
  have hown : s.vm.findClass RX7 = some m.cls := findClass_of_methodNamed B.named
  have hlocks := B.notSynchronized
  have hK := hKN.1
  have hfix : CallFix p m c cX7_redo 1 s [.ref h1].toArray wq_c_M_redo RX7 := ⟨hx, hb, hml, hown, hts⟩
  have hi7 : ∀ w ∈ wsX70, w ∈ wq_c_M_redo := (sb_c sb_l)
  subst hsz
  have hD := hD0.self (sz := s.heap.size)
  generalize hAe : va_A (wc_c_M_redo cyB cyI cyJ cyZ cyO h1 md) s.heap.size = A at hD ⊢
  have hA : ∀ q : Nat, s.heap.size ≤ q → A q := fun q h => by rw [← hAe]; exact Or.inr h
  have hS : va_S A s.heap s.heap [] := va_S.rf
  have hl := lv_entry ([.ref h1]) (n := 1) (Nat.le_of_ble_eq_true rfl)
  rw [lg_entry_eq]
  generalize (lg_sl ([.ref h1]) ++ List.replicate (1 - (lg_sl ([.ref h1])).length) Slot.unset).toArray = ls at hl ⊢
  have hl : lv_has ls 1 [(0, .ref h1)] := hl
  refine lv_aload_n hx hb dX7_redo_0 rfl (lv_at hl 0 rfl) ?_
  refine va_get (D := (dC, dI)) (ci := 7) (v := .int 0) (C := RX7) (T := TX7) (N := 59) hx hb hts hi7 hown hK hP 0 rfl rfl 46 (by decide) (hts _ (ow_m (k := 0) rfl)) (fun _ h9 => h9) rfl dX7_redo_1 ?_
  refine lv_if_ne (tgt := 9) hx hb dX7_redo_4 (by decide) (fun c2125 => absurd (by decide) c2125) (fun _ => ?_)
  refine lv_iconst (v := 0) hx hb dX7_redo_7 (by decide) ?_
  exact W.zret (v := 0) hx hb hr (by decide) (fun t ht hW => ⟨⟨0, (), rfl, rfl, cE.nil⟩, hS.F ht⟩) hS.2.2 dX7_redo_8
def wo_c_M_read : List Cond := [.methodLink RX7 407 yX7_isMember, .instanceMethod yX7_isMember, .selects RX7 yX7_isMember yX7_isMember, .initialized RX7]
def wq_c_M_read : List Cond := .code yX7_read cX7_read 3 (some .int) :: (wo_c_M_read ++ (wq_k_X7_isMember ++ []))
theorem gd_c_M_read : Gd wq_c_M_read := gd_c (gd_a (gd_o (by decide +kernel)) (gd_a gd_k_X7_isMember gd_0))
abbrev wc_c_M_read (cyB cyI cyJ cyZ cyO : ClassId) (h1 : Nat) (md : Nat → Nat) (x1 : Int32) (x2 : Int32) : va_W := [(h1, .inr (7, [.ref (md 0), .ref (md 1), .int 0, .int 0, .int 0, .int (-1), .int 0, .int 0, .int 0, .int 0, .long 0, .ref (md 11), .ref (md 12), .ref (md 13), .ref (md 14), .ref (md 15), .ref (md 16), .ref (md 17), .ref (md 18), .ref (md 19), .ref (md 20), .ref (md 21), .ref (md 22), .ref (md 23), .ref (md 24), .ref (md 25), .ref (md 26), .ref (md 27), .ref (md 28), .int 0, .int 0, .int 0, .int 0, .int 0, .int 0, .int 0, .int 0, .int 0, .int 0, .int 0, .ref (md 40), .ref (md 41), .int 0, .int 0, .ref (md 44), .int 0, .int 0, .ref (md 47), .ref (md 48), .int 0, .ref (md 50), .ref (md 51), .ref (md 52), .ref (md 53), .ref (md 54), .int 0, .int 0, .ref (md 57), .ref (md 58)])), (md 11, .inl (cyI, 2, .inl (fun _ => 0)))]
set_option maxHeartbeats 4000000 in
set_option maxRecDepth 100000 in
theorem c_M_read (l : Launch) (dC : Nat → ClassId) (dI : Nat → Nat → Nat) (cyB cyI cyJ cyZ cyO : ClassId) (h1 : Nat) (md : Nat → Nat) (x1 : Int32) (x2 : Int32) (sz : Nat) : Met l yX7_read wq_c_M_read ({ frames := 3, cells := 0, slots := 0, locals := 64 }) (va_Pc [.ref h1, .int x1, .int x2] (cB (dC, dI) (kT cyB cyI cyJ cyZ cyO) (wc_c_M_read cyB cyI cyJ cyZ cyO h1 md x1 x2) sz)) (va_Qi (fun (r : Int32) (_ : Unit) => r = -2) (fun (u : Unit) t => cE (dC, dI) (va_A (wc_c_M_read cyB cyI cyJ cyZ cyO h1 md x1 x2) sz) ([]) t.heap) (va_A (wc_c_M_read cyB cyI cyJ cyZ cyO h1 md x1 x2) sz)) 0 0 (va_A (wc_c_M_read cyB cyI cyJ cyZ cyO h1 md x1 x2) sz) := by
  refine Met.ofW (cc := cX7_read) (maxL := 3) (ret := (some .int)) (by decide) rfl ?_
  intro p e s m args below meth c s₁ B hml hv
  obtain ⟨rfl, hsz, hP, hKN, hD0⟩ := hv
  have hx := B.exec
  have hb := B.bytes
  have hr := B.returns
  have hts := atoms_spec (ws := wq_c_M_read) B.pre
  have hown : s.vm.findClass RX7 = some m.cls := findClass_of_methodNamed B.named
  have hlocks := B.notSynchronized
  have hK := hKN.1
  have hfix : CallFix p m c cX7_read 3 s [.ref h1, .int x1, .int x2].toArray wq_c_M_read RX7 := ⟨hx, hb, hml, hown, hts⟩
  subst hsz
  have hD := hD0.self (sz := s.heap.size)
  generalize hAe : va_A (wc_c_M_read cyB cyI cyJ cyZ cyO h1 md x1 x2) s.heap.size = A at hD ⊢
  have hA : ∀ q : Nat, s.heap.size ≤ q → A q := fun q h => by rw [← hAe]; exact Or.inr h
  have hS : va_S A s.heap s.heap [] := va_S.rf
  have hl := lv_entry ([.ref h1, .int x1, .int x2]) (n := 3) (Nat.le_of_ble_eq_true rfl)
  rw [lg_entry_eq]
  generalize (lg_sl ([.ref h1, .int x1, .int x2]) ++ List.replicate (3 - (lg_sl ([.ref h1, .int x1, .int x2])).length) Slot.unset).toArray = ls at hl ⊢
  have hl : lv_has ls 3 [(0, .ref h1), (1, .int x1), (2, .int x2)] := hl
  refine lv_aload_n hx hb dX7_read_0 rfl (lv_at hl 0 rfl) ?_
  refine lv_iload_n hx hb dX7_read_1 rfl (lv_at hl 1 rfl) ?_
  refine gf_i (wr := []) (va_runV (As := [.int x1]) (rest := []) hfix (k_X7_isMember l dC dI cyB cyI cyJ cyZ cyO h1 md x1 _) (cwV 1 hts (gi_V (ow_m (k := 0) rfl) (ow_m (k := 1) rfl) (ow_m (k := 2) rfl) (ow_m (k := 3) rfl) (sb_c sb_l) gd_k_X7_isMember) rfl rfl rfl (by decide +kernel) ⟨Nat.le_of_ble_eq_true rfl, Nat.le_of_ble_eq_true rfl⟩) (g_preV hKN hP hD [0, 1] rfl (by decide) 0 7 rfl rfl) rfl rfl hl.1 rfl (lv_room (Nat.le_of_ble_eq_true rfl)) dX7_read_2 ⟨Nat.le_of_ble_eq_true rfl, Nat.le_of_ble_eq_true rfl⟩) hP hD hS hA [0, 1] [] rfl rfl (by decide) (by decide) (fun r2161 u2162 H locs qu2162 hP hD hS => ?_)
  have hP : va_P (dC, dI) vwCl [(h1, .inr (7, [.ref (md 0), .ref (md 1), .int 0, .int 0, .int 0, .int (-1), .int 0, .int 0, .int 0, .int 0, .long 0, .ref (md 11), .ref (md 12), .ref (md 13), .ref (md 14), .ref (md 15), .ref (md 16), .ref (md 17), .ref (md 18), .ref (md 19), .ref (md 20), .ref (md 21), .ref (md 22), .ref (md 23), .ref (md 24), .ref (md 25), .ref (md 26), .ref (md 27), .ref (md 28), .int 0, .int 0, .int 0, .int 0, .int 0, .int 0, .int 0, .int 0, .int 0, .int 0, .int 0, .ref (md 40), .ref (md 41), .int 0, .int 0, .ref (md 44), .int 0, .int 0, .ref (md 47), .ref (md 48), .int 0, .ref (md 50), .ref (md 51), .ref (md 52), .ref (md 53), .ref (md 54), .int 0, .int 0, .ref (md 57), .ref (md 58)])), (md 11, .inl (cyI, 2, .inl (fun _ => 0)))] H := hP
  have hD : va_D A [(h1, .inr (7, [.ref (md 0), .ref (md 1), .int 0, .int 0, .int 0, .int (-1), .int 0, .int 0, .int 0, .int 0, .long 0, .ref (md 11), .ref (md 12), .ref (md 13), .ref (md 14), .ref (md 15), .ref (md 16), .ref (md 17), .ref (md 18), .ref (md 19), .ref (md 20), .ref (md 21), .ref (md 22), .ref (md 23), .ref (md 24), .ref (md 25), .ref (md 26), .ref (md 27), .ref (md 28), .int 0, .int 0, .int 0, .int 0, .int 0, .int 0, .int 0, .int 0, .int 0, .int 0, .int 0, .ref (md 40), .ref (md 41), .int 0, .int 0, .ref (md 44), .int 0, .int 0, .ref (md 47), .ref (md 48), .int 0, .ref (md 50), .ref (md 51), .ref (md 52), .ref (md 53), .ref (md 54), .int 0, .int 0, .ref (md 57), .ref (md 58)])), (md 11, .inl (cyI, 2, .inl (fun _ => 0)))] := hD
  rcases qu2162 with ⟨rfl, b2163⟩ | ⟨rfl, b2164, b2165⟩
  · skip
    refine lv_if_eq (tgt := 25) hx hb dX7_read_5 (by decide) (fun _ => ?_) (fun c2166 => absurd (by decide) c2166)
    refine lv_bipush (v := (-2)) hx hb dX7_read_25 (by decide) ?_
    exact W.iret (v := (-2)) hx hb hr (fun t ht hW => ⟨⟨(-2), (), rfl, rfl, cE.nil⟩, hS.F ht⟩) hS.2.2 dX7_read_27
  · skip
    refine lv_if_eq (tgt := 25) hx hb dX7_read_5 (by decide) (fun _ => ?_) (fun c2167 => absurd (by decide) c2167)
    refine lv_bipush (v := (-2)) hx hb dX7_read_25 (by decide) ?_
    exact W.iret (v := (-2)) hx hb hr (fun t ht hW => ⟨⟨(-2), (), rfl, rfl, cE.nil⟩, hS.F ht⟩) hS.2.2 dX7_read_27
def wo_c_M_lazy : List Cond := [.methodLink RX7 407 yX7_isMember, .instanceMethod yX7_isMember, .selects RX7 yX7_isMember yX7_isMember, .initialized RX7]
def wq_c_M_lazy : List Cond := .code yX7_lazy cX7_lazy 3 (some .int) :: (wo_c_M_lazy ++ (wq_k_X7_isMember ++ []))
theorem gd_c_M_lazy : Gd wq_c_M_lazy := gd_c (gd_a (gd_o (by decide +kernel)) (gd_a gd_k_X7_isMember gd_0))
abbrev wc_c_M_lazy (cyB cyI cyJ cyZ cyO : ClassId) (h1 : Nat) (md : Nat → Nat) (x1 : Int32) (x2 : Int32) : va_W := [(h1, .inr (7, [.ref (md 0), .ref (md 1), .int 0, .int 0, .int 0, .int (-1), .int 0, .int 0, .int 0, .int 0, .long 0, .ref (md 11), .ref (md 12), .ref (md 13), .ref (md 14), .ref (md 15), .ref (md 16), .ref (md 17), .ref (md 18), .ref (md 19), .ref (md 20), .ref (md 21), .ref (md 22), .ref (md 23), .ref (md 24), .ref (md 25), .ref (md 26), .ref (md 27), .ref (md 28), .int 0, .int 0, .int 0, .int 0, .int 0, .int 0, .int 0, .int 0, .int 0, .int 0, .int 0, .ref (md 40), .ref (md 41), .int 0, .int 0, .ref (md 44), .int 0, .int 0, .ref (md 47), .ref (md 48), .int 0, .ref (md 50), .ref (md 51), .ref (md 52), .ref (md 53), .ref (md 54), .int 0, .int 0, .ref (md 57), .ref (md 58)])), (md 11, .inl (cyI, 2, .inl (fun _ => 0)))]
set_option maxHeartbeats 4000000 in
set_option maxRecDepth 100000 in
theorem c_M_lazy (l : Launch) (dC : Nat → ClassId) (dI : Nat → Nat → Nat) (cyB cyI cyJ cyZ cyO : ClassId) (h1 : Nat) (md : Nat → Nat) (x1 : Int32) (x2 : Int32) (sz : Nat) : Met l yX7_lazy wq_c_M_lazy ({ frames := 3, cells := 0, slots := 0, locals := 64 }) (va_Pc [.ref h1, .int x1, .int x2] (cB (dC, dI) (kT cyB cyI cyJ cyZ cyO) (wc_c_M_lazy cyB cyI cyJ cyZ cyO h1 md x1 x2) sz)) (va_Qi (fun (r : Int32) (_ : Unit) => r = -2) (fun (u : Unit) t => cE (dC, dI) (va_A (wc_c_M_lazy cyB cyI cyJ cyZ cyO h1 md x1 x2) sz) ([]) t.heap) (va_A (wc_c_M_lazy cyB cyI cyJ cyZ cyO h1 md x1 x2) sz)) 0 0 (va_A (wc_c_M_lazy cyB cyI cyJ cyZ cyO h1 md x1 x2) sz) := by
  refine Met.ofW (cc := cX7_lazy) (maxL := 3) (ret := (some .int)) (by decide) rfl ?_
  intro p e s m args below meth c s₁ B hml hv
  obtain ⟨rfl, hsz, hP, hKN, hD0⟩ := hv
  have hx := B.exec
  have hb := B.bytes
  have hr := B.returns
  have hts := atoms_spec (ws := wq_c_M_lazy) B.pre
  have hown : s.vm.findClass RX7 = some m.cls := findClass_of_methodNamed B.named
  have hlocks := B.notSynchronized
  have hK := hKN.1
  have hfix : CallFix p m c cX7_lazy 3 s [.ref h1, .int x1, .int x2].toArray wq_c_M_lazy RX7 := ⟨hx, hb, hml, hown, hts⟩
  subst hsz
  have hD := hD0.self (sz := s.heap.size)
  generalize hAe : va_A (wc_c_M_lazy cyB cyI cyJ cyZ cyO h1 md x1 x2) s.heap.size = A at hD ⊢
  have hA : ∀ q : Nat, s.heap.size ≤ q → A q := fun q h => by rw [← hAe]; exact Or.inr h
  have hS : va_S A s.heap s.heap [] := va_S.rf
  have hl := lv_entry ([.ref h1, .int x1, .int x2]) (n := 3) (Nat.le_of_ble_eq_true rfl)
  rw [lg_entry_eq]
  generalize (lg_sl ([.ref h1, .int x1, .int x2]) ++ List.replicate (3 - (lg_sl ([.ref h1, .int x1, .int x2])).length) Slot.unset).toArray = ls at hl ⊢
  have hl : lv_has ls 3 [(0, .ref h1), (1, .int x1), (2, .int x2)] := hl
  refine lv_aload_n hx hb dX7_lazy_0 rfl (lv_at hl 0 rfl) ?_
  refine lv_iload_n hx hb dX7_lazy_1 rfl (lv_at hl 1 rfl) ?_
  refine gf_i (wr := []) (va_runV (As := [.int x1]) (rest := []) hfix (k_X7_isMember l dC dI cyB cyI cyJ cyZ cyO h1 md x1 _) (cwV 1 hts (gi_V (ow_m (k := 0) rfl) (ow_m (k := 1) rfl) (ow_m (k := 2) rfl) (ow_m (k := 3) rfl) (sb_c sb_l) gd_k_X7_isMember) rfl rfl rfl (by decide +kernel) ⟨Nat.le_of_ble_eq_true rfl, Nat.le_of_ble_eq_true rfl⟩) (g_preV hKN hP hD [0, 1] rfl (by decide) 0 7 rfl rfl) rfl rfl hl.1 rfl (lv_room (Nat.le_of_ble_eq_true rfl)) dX7_lazy_2 ⟨Nat.le_of_ble_eq_true rfl, Nat.le_of_ble_eq_true rfl⟩) hP hD hS hA [0, 1] [] rfl rfl (by decide) (by decide) (fun r2203 u2204 H locs qu2204 hP hD hS => ?_)
  have hP : va_P (dC, dI) vwCl [(h1, .inr (7, [.ref (md 0), .ref (md 1), .int 0, .int 0, .int 0, .int (-1), .int 0, .int 0, .int 0, .int 0, .long 0, .ref (md 11), .ref (md 12), .ref (md 13), .ref (md 14), .ref (md 15), .ref (md 16), .ref (md 17), .ref (md 18), .ref (md 19), .ref (md 20), .ref (md 21), .ref (md 22), .ref (md 23), .ref (md 24), .ref (md 25), .ref (md 26), .ref (md 27), .ref (md 28), .int 0, .int 0, .int 0, .int 0, .int 0, .int 0, .int 0, .int 0, .int 0, .int 0, .int 0, .ref (md 40), .ref (md 41), .int 0, .int 0, .ref (md 44), .int 0, .int 0, .ref (md 47), .ref (md 48), .int 0, .ref (md 50), .ref (md 51), .ref (md 52), .ref (md 53), .ref (md 54), .int 0, .int 0, .ref (md 57), .ref (md 58)])), (md 11, .inl (cyI, 2, .inl (fun _ => 0)))] H := hP
  have hD : va_D A [(h1, .inr (7, [.ref (md 0), .ref (md 1), .int 0, .int 0, .int 0, .int (-1), .int 0, .int 0, .int 0, .int 0, .long 0, .ref (md 11), .ref (md 12), .ref (md 13), .ref (md 14), .ref (md 15), .ref (md 16), .ref (md 17), .ref (md 18), .ref (md 19), .ref (md 20), .ref (md 21), .ref (md 22), .ref (md 23), .ref (md 24), .ref (md 25), .ref (md 26), .ref (md 27), .ref (md 28), .int 0, .int 0, .int 0, .int 0, .int 0, .int 0, .int 0, .int 0, .int 0, .int 0, .int 0, .ref (md 40), .ref (md 41), .int 0, .int 0, .ref (md 44), .int 0, .int 0, .ref (md 47), .ref (md 48), .int 0, .ref (md 50), .ref (md 51), .ref (md 52), .ref (md 53), .ref (md 54), .int 0, .int 0, .ref (md 57), .ref (md 58)])), (md 11, .inl (cyI, 2, .inl (fun _ => 0)))] := hD
  rcases qu2204 with ⟨rfl, b2205⟩ | ⟨rfl, b2206, b2207⟩
  · skip
    refine lv_if_eq (tgt := 25) hx hb dX7_lazy_5 (by decide) (fun _ => ?_) (fun c2208 => absurd (by decide) c2208)
    refine lv_bipush (v := (-2)) hx hb dX7_lazy_25 (by decide) ?_
    exact W.iret (v := (-2)) hx hb hr (fun t ht hW => ⟨⟨(-2), (), rfl, rfl, cE.nil⟩, hS.F ht⟩) hS.2.2 dX7_lazy_27
  · skip
    refine lv_if_eq (tgt := 25) hx hb dX7_lazy_5 (by decide) (fun _ => ?_) (fun c2209 => absurd (by decide) c2209)
    refine lv_bipush (v := (-2)) hx hb dX7_lazy_25 (by decide) ?_
    exact W.iret (v := (-2)) hx hb hr (fun t ht hW => ⟨⟨(-2), (), rfl, rfl, cE.nil⟩, hS.F ht⟩) hS.2.2 dX7_lazy_27
def wo_k_X7_isKey : List Cond := [.fieldLink RX7 27 "ReplicaChainModel" "keys" "[I", .fieldLink RX7 214 "ReplicaChainModel" "bank" "I", .methodLink RX7 316 yX7_isIn, .static yX7_isIn, .initialized RX7]
def wq_k_X7_isKey : List Cond := .code yX7_isKey cX7_isKey 2 (some .boolean) :: (wo_k_X7_isKey ++ (wq_k_X7_isIn ++ (wsX70 ++ [])))
theorem gd_k_X7_isKey : Gd wq_k_X7_isKey := gd_c (gd_a (gd_o (by decide +kernel)) (gd_a gd_k_X7_isIn (gd_a gd_u gd_0)))
abbrev wc_k_X7_isKey (cyB cyI cyJ cyZ cyO : ClassId) (h1 : Nat) (md : Nat → Nat) (a1 : Int32) : va_W := [(h1, .inr (7, [.ref (md 0), .ref (md 1), .int 0, .int 0, .int 0, .int (-1), .int 0, .int 0, .int 0, .int 0, .long 0, .ref (md 11), .ref (md 12), .ref (md 13), .ref (md 14), .ref (md 15), .ref (md 16), .ref (md 17), .ref (md 18), .ref (md 19), .ref (md 20), .ref (md 21), .ref (md 22), .ref (md 23), .ref (md 24), .ref (md 25), .ref (md 26), .ref (md 27), .ref (md 28), .int 0, .int 0, .int 0, .int 0, .int 0, .int 0, .int 0, .int 0, .int 0, .int 0, .int 0, .ref (md 40), .ref (md 41), .int 0, .int 0, .ref (md 44), .int 0, .int 0, .ref (md 47), .ref (md 48), .int 0, .ref (md 50), .ref (md 51), .ref (md 52), .ref (md 53), .ref (md 54), .int 0, .int 0, .ref (md 57), .ref (md 58)])), (md 13, .inl (cyI, 2, .inl (fun _ => 0)))]
set_option maxHeartbeats 4000000 in
set_option maxRecDepth 100000 in
theorem k_X7_isKey (l : Launch) (dC : Nat → ClassId) (dI : Nat → Nat → Nat) (cyB cyI cyJ cyZ cyO : ClassId) (h1 : Nat) (md : Nat → Nat) (a1 : Int32) (sz : Nat) : Met l yX7_isKey wq_k_X7_isKey ({ frames := 1, cells := 0, slots := 0, locals := 22 }) (va_Pc [.ref h1, .int a1] (cB (dC, dI) (kT cyB cyI cyJ cyZ cyO) (wc_k_X7_isKey cyB cyI cyJ cyZ cyO h1 md a1) sz)) (va_Qi (fun (r : Int32) _ => (r = 0 ∧ a1.toInt < 0) ∨ (r = 0 ∧ 0 ≤ a1.toInt ∧ (-1) < a1.toInt)) (fun (u : Unit) t => cE (dC, dI) (va_A (wc_k_X7_isKey cyB cyI cyJ cyZ cyO h1 md a1) sz) ([(h1, .inr (7, [.ref (md 0), .ref (md 1), .int 0, .int 0, .int 0, .int (-1), .int 0, .int 0, .int 0, .int 0, .long 0, .ref (md 11), .ref (md 12), .ref (md 13), .ref (md 14), .ref (md 15), .ref (md 16), .ref (md 17), .ref (md 18), .ref (md 19), .ref (md 20), .ref (md 21), .ref (md 22), .ref (md 23), .ref (md 24), .ref (md 25), .ref (md 26), .ref (md 27), .ref (md 28), .int 0, .int 0, .int 0, .int 0, .int 0, .int 0, .int 0, .int 0, .int 0, .int 0, .int 0, .ref (md 40), .ref (md 41), .int 0, .int 0, .ref (md 44), .int 0, .int 0, .ref (md 47), .ref (md 48), .int 0, .ref (md 50), .ref (md 51), .ref (md 52), .ref (md 53), .ref (md 54), .int 0, .int 0, .ref (md 57), .ref (md 58)])), (md 13, .inl (cyI, 2, .inl (fun _ => 0)))]) t.heap) (va_A (wc_k_X7_isKey cyB cyI cyJ cyZ cyO h1 md a1) sz)) 0 0 (va_A (wc_k_X7_isKey cyB cyI cyJ cyZ cyO h1 md a1) sz) := by
  refine Met.ofW (cc := cX7_isKey) (maxL := 2) (ret := (some .boolean)) (by decide) rfl ?_
  intro p e s m args below meth c s₁ B hml hv
  obtain ⟨rfl, hsz, hP, hKN, hD0⟩ := hv
  have hx := B.exec
  have hb := B.bytes
  have hr := B.returns
  have hts := atoms_spec (ws := wq_k_X7_isKey) B.pre
  have hown : s.vm.findClass RX7 = some m.cls := findClass_of_methodNamed B.named
  have hlocks := B.notSynchronized
  have hK := hKN.1
  have hfix : CallFix p m c cX7_isKey 2 s [.ref h1, .int a1].toArray wq_k_X7_isKey RX7 := ⟨hx, hb, hml, hown, hts⟩
  have hi7 : ∀ w ∈ wsX70, w ∈ wq_k_X7_isKey := (sb_c (sb_r sb_l))
  subst hsz
  have hD := hD0.self (sz := s.heap.size)
  generalize hAe : va_A (wc_k_X7_isKey cyB cyI cyJ cyZ cyO h1 md a1) s.heap.size = A at hD ⊢
  have hA : ∀ q : Nat, s.heap.size ≤ q → A q := fun q h => by rw [← hAe]; exact Or.inr h
  have hS : va_S A s.heap s.heap [] := va_S.rf
  have hl := lv_entry ([.ref h1, .int a1]) (n := 2) (Nat.le_of_ble_eq_true rfl)
  rw [lg_entry_eq]
  generalize (lg_sl ([.ref h1, .int a1]) ++ List.replicate (2 - (lg_sl ([.ref h1, .int a1])).length) Slot.unset).toArray = ls at hl ⊢
  have hl : lv_has ls 2 [(0, .ref h1), (1, .int a1)] := hl
  refine lv_iload_n hx hb dX7_isKey_0 rfl (lv_at hl 1 rfl) ?_
  refine lv_iconst (v := 0) hx hb dX7_isKey_1 (by decide) ?_
  refine lv_aload_n hx hb dX7_isKey_2 rfl (lv_at hl 0 rfl) ?_
  refine va_get (D := (dC, dI)) (ci := 7) (v := .ref (md 13)) (C := RX7) (T := TX7) (N := 59) hx hb hts hi7 hown hK hP 0 rfl rfl 13 (by decide) (hts _ (ow_m (k := 0) rfl)) (fun _ h9 => h9) rfl dX7_isKey_3 ?_
  refine lv_aload_n hx hb dX7_isKey_6 rfl (lv_at hl 0 rfl) ?_
  refine va_get (D := (dC, dI)) (ci := 7) (v := .int 0) (C := RX7) (T := TX7) (N := 59) hx hb hts hi7 hown hK hP 0 rfl rfl 29 (by decide) (hts _ (ow_m (k := 1) rfl)) (fun _ h9 => h9) rfl dX7_isKey_7 ?_
  refine va_iald hx hb hK hP 1 1 rfl rfl (vp_i (a := 0) (by decide) (by decide) (by decide)) dX7_isKey_10 ?_
  refine tp_c (w := 0) (by rfl) ?_
  refine lv_iconst (v := 1) hx hb dX7_isKey_11 (by decide) ?_
  refine lv_isub hx hb dX7_isKey_12 ?_
  refine tp_c (w := (-1)) (by decide) ?_
  refine gf_i (wr := [(h1, .inr (7, [.ref (md 0), .ref (md 1), .int 0, .int 0, .int 0, .int (-1), .int 0, .int 0, .int 0, .int 0, .long 0, .ref (md 11), .ref (md 12), .ref (md 13), .ref (md 14), .ref (md 15), .ref (md 16), .ref (md 17), .ref (md 18), .ref (md 19), .ref (md 20), .ref (md 21), .ref (md 22), .ref (md 23), .ref (md 24), .ref (md 25), .ref (md 26), .ref (md 27), .ref (md 28), .int 0, .int 0, .int 0, .int 0, .int 0, .int 0, .int 0, .int 0, .int 0, .int 0, .int 0, .ref (md 40), .ref (md 41), .int 0, .int 0, .ref (md 44), .int 0, .int 0, .ref (md 47), .ref (md 48), .int 0, .ref (md 50), .ref (md 51), .ref (md 52), .ref (md 53), .ref (md 54), .int 0, .int 0, .ref (md 57), .ref (md 58)])), (md 13, .inl (cyI, 2, .inl (fun _ => 0)))]) (va_runS (As := [.int a1, .int 0, .int (-1)]) (rest := []) hfix (k_X7_isIn l dC dI cyB cyI cyJ cyZ cyO a1 _) (va_cwS 3 hts (gi_S (ow_m (k := 2) rfl) (ow_m (k := 3) rfl) (ow_m (k := 4) rfl) (sb_c sb_l) gd_k_X7_isIn) rfl rfl rfl (by decide +kernel) ⟨Nat.le_of_ble_eq_true rfl, Nat.le_of_ble_eq_true rfl⟩) (g_preS hKN hP hD [] rfl (by decide)) rfl rfl hl.1 rfl (lv_room (Nat.le_of_ble_eq_true rfl)) dX7_isKey_13 ⟨Nat.le_of_ble_eq_true rfl, Nat.le_of_ble_eq_true rfl⟩) hP hD hS hA [] [0, 1] rfl rfl (by decide) (by decide) (fun r2219 u2220 H locs qu2220 hP hD hS => ?_)
  have hP : va_P (dC, dI) vwCl [(h1, .inr (7, [.ref (md 0), .ref (md 1), .int 0, .int 0, .int 0, .int (-1), .int 0, .int 0, .int 0, .int 0, .long 0, .ref (md 11), .ref (md 12), .ref (md 13), .ref (md 14), .ref (md 15), .ref (md 16), .ref (md 17), .ref (md 18), .ref (md 19), .ref (md 20), .ref (md 21), .ref (md 22), .ref (md 23), .ref (md 24), .ref (md 25), .ref (md 26), .ref (md 27), .ref (md 28), .int 0, .int 0, .int 0, .int 0, .int 0, .int 0, .int 0, .int 0, .int 0, .int 0, .int 0, .ref (md 40), .ref (md 41), .int 0, .int 0, .ref (md 44), .int 0, .int 0, .ref (md 47), .ref (md 48), .int 0, .ref (md 50), .ref (md 51), .ref (md 52), .ref (md 53), .ref (md 54), .int 0, .int 0, .ref (md 57), .ref (md 58)])), (md 13, .inl (cyI, 2, .inl (fun _ => 0)))] H := hP
  have hD : va_D A [(h1, .inr (7, [.ref (md 0), .ref (md 1), .int 0, .int 0, .int 0, .int (-1), .int 0, .int 0, .int 0, .int 0, .long 0, .ref (md 11), .ref (md 12), .ref (md 13), .ref (md 14), .ref (md 15), .ref (md 16), .ref (md 17), .ref (md 18), .ref (md 19), .ref (md 20), .ref (md 21), .ref (md 22), .ref (md 23), .ref (md 24), .ref (md 25), .ref (md 26), .ref (md 27), .ref (md 28), .int 0, .int 0, .int 0, .int 0, .int 0, .int 0, .int 0, .int 0, .int 0, .int 0, .int 0, .ref (md 40), .ref (md 41), .int 0, .int 0, .ref (md 44), .int 0, .int 0, .ref (md 47), .ref (md 48), .int 0, .ref (md 50), .ref (md 51), .ref (md 52), .ref (md 53), .ref (md 54), .int 0, .int 0, .ref (md 57), .ref (md 58)])), (md 13, .inl (cyI, 2, .inl (fun _ => 0)))] := hD
  rcases qu2220 with ⟨rfl, b2221⟩ | ⟨rfl, b2222, b2223⟩
  · skip
    exact W.zret (v := 0) hx hb hr (by decide) (fun t ht hW => ⟨⟨0, (), rfl, (Or.inl ⟨rfl, b2221⟩), cE.of ht hP hD [0, 1] (by decide) rfl⟩, hS.F ht⟩) hS.2.2 dX7_isKey_16
  · skip
    exact W.zret (v := 0) hx hb hr (by decide) (fun t ht hW => ⟨⟨0, (), rfl, (Or.inr ⟨rfl, b2222, b2223⟩), cE.of ht hP hD [0, 1] (by decide) rfl⟩, hS.F ht⟩) hS.2.2 dX7_isKey_16
def wo_c_M_askers : List Cond := [.methodLink RX7 438 yX7_isKey, .instanceMethod yX7_isKey, .selects RX7 yX7_isKey yX7_isKey, .initialized RX7]
def wq_c_M_askers : List Cond := .code yX7_askers cX7_askers 4 (some .int) :: (wo_c_M_askers ++ (wq_k_X7_isKey ++ []))
theorem gd_c_M_askers : Gd wq_c_M_askers := gd_c (gd_a (gd_o (by decide +kernel)) (gd_a gd_k_X7_isKey gd_0))
abbrev wc_c_M_askers (cyB cyI cyJ cyZ cyO : ClassId) (h1 : Nat) (md : Nat → Nat) (x1 : Int32) : va_W := [(h1, .inr (7, [.ref (md 0), .ref (md 1), .int 0, .int 0, .int 0, .int (-1), .int 0, .int 0, .int 0, .int 0, .long 0, .ref (md 11), .ref (md 12), .ref (md 13), .ref (md 14), .ref (md 15), .ref (md 16), .ref (md 17), .ref (md 18), .ref (md 19), .ref (md 20), .ref (md 21), .ref (md 22), .ref (md 23), .ref (md 24), .ref (md 25), .ref (md 26), .ref (md 27), .ref (md 28), .int 0, .int 0, .int 0, .int 0, .int 0, .int 0, .int 0, .int 0, .int 0, .int 0, .int 0, .ref (md 40), .ref (md 41), .int 0, .int 0, .ref (md 44), .int 0, .int 0, .ref (md 47), .ref (md 48), .int 0, .ref (md 50), .ref (md 51), .ref (md 52), .ref (md 53), .ref (md 54), .int 0, .int 0, .ref (md 57), .ref (md 58)])), (md 13, .inl (cyI, 2, .inl (fun _ => 0)))]
set_option maxHeartbeats 4000000 in
set_option maxRecDepth 100000 in
theorem c_M_askers (l : Launch) (dC : Nat → ClassId) (dI : Nat → Nat → Nat) (cyB cyI cyJ cyZ cyO : ClassId) (h1 : Nat) (md : Nat → Nat) (x1 : Int32) (sz : Nat) : Met l yX7_askers wq_c_M_askers ({ frames := 2, cells := 0, slots := 0, locals := 43 }) (va_Pc [.ref h1, .int x1] (cB (dC, dI) (kT cyB cyI cyJ cyZ cyO) (wc_c_M_askers cyB cyI cyJ cyZ cyO h1 md x1) sz)) (va_Qi (fun (r : Int32) (_ : Unit) => r = -1) (fun (u : Unit) t => cE (dC, dI) (va_A (wc_c_M_askers cyB cyI cyJ cyZ cyO h1 md x1) sz) ([]) t.heap) (va_A (wc_c_M_askers cyB cyI cyJ cyZ cyO h1 md x1) sz)) 0 0 (va_A (wc_c_M_askers cyB cyI cyJ cyZ cyO h1 md x1) sz) := by
  refine Met.ofW (cc := cX7_askers) (maxL := 4) (ret := (some .int)) (by decide) rfl ?_
  intro p e s m args below meth c s₁ B hml hv
  obtain ⟨rfl, hsz, hP, hKN, hD0⟩ := hv
  have hx := B.exec
  have hb := B.bytes
  have hr := B.returns
  have hts := atoms_spec (ws := wq_c_M_askers) B.pre
  have hown : s.vm.findClass RX7 = some m.cls := findClass_of_methodNamed B.named
  have hlocks := B.notSynchronized
  have hK := hKN.1
  have hfix : CallFix p m c cX7_askers 4 s [.ref h1, .int x1].toArray wq_c_M_askers RX7 := ⟨hx, hb, hml, hown, hts⟩
  subst hsz
  have hD := hD0.self (sz := s.heap.size)
  generalize hAe : va_A (wc_c_M_askers cyB cyI cyJ cyZ cyO h1 md x1) s.heap.size = A at hD ⊢
  have hA : ∀ q : Nat, s.heap.size ≤ q → A q := fun q h => by rw [← hAe]; exact Or.inr h
  have hS : va_S A s.heap s.heap [] := va_S.rf
  have hl := lv_entry ([.ref h1, .int x1]) (n := 4) (Nat.le_of_ble_eq_true rfl)
  rw [lg_entry_eq]
  generalize (lg_sl ([.ref h1, .int x1]) ++ List.replicate (4 - (lg_sl ([.ref h1, .int x1])).length) Slot.unset).toArray = ls at hl ⊢
  have hl : lv_has ls 4 [(0, .ref h1), (1, .int x1)] := hl
  refine lv_aload_n hx hb dX7_askers_0 rfl (lv_at hl 0 rfl) ?_
  refine lv_iload_n hx hb dX7_askers_1 rfl (lv_at hl 1 rfl) ?_
  refine gf_i (wr := []) (va_runV (As := [.int x1]) (rest := []) hfix (k_X7_isKey l dC dI cyB cyI cyJ cyZ cyO h1 md x1 _) (cwV 1 hts (gi_V (ow_m (k := 0) rfl) (ow_m (k := 1) rfl) (ow_m (k := 2) rfl) (ow_m (k := 3) rfl) (sb_c sb_l) gd_k_X7_isKey) rfl rfl rfl (by decide +kernel) ⟨Nat.le_of_ble_eq_true rfl, Nat.le_of_ble_eq_true rfl⟩) (g_preV hKN hP hD [0, 1] rfl (by decide) 0 7 rfl rfl) rfl rfl hl.1 rfl (lv_room (Nat.le_of_ble_eq_true rfl)) dX7_askers_2 ⟨Nat.le_of_ble_eq_true rfl, Nat.le_of_ble_eq_true rfl⟩) hP hD hS hA [0, 1] [] rfl rfl (by decide) (by decide) (fun r2238 u2239 H locs qu2239 hP hD hS => ?_)
  have hP : va_P (dC, dI) vwCl [(h1, .inr (7, [.ref (md 0), .ref (md 1), .int 0, .int 0, .int 0, .int (-1), .int 0, .int 0, .int 0, .int 0, .long 0, .ref (md 11), .ref (md 12), .ref (md 13), .ref (md 14), .ref (md 15), .ref (md 16), .ref (md 17), .ref (md 18), .ref (md 19), .ref (md 20), .ref (md 21), .ref (md 22), .ref (md 23), .ref (md 24), .ref (md 25), .ref (md 26), .ref (md 27), .ref (md 28), .int 0, .int 0, .int 0, .int 0, .int 0, .int 0, .int 0, .int 0, .int 0, .int 0, .int 0, .ref (md 40), .ref (md 41), .int 0, .int 0, .ref (md 44), .int 0, .int 0, .ref (md 47), .ref (md 48), .int 0, .ref (md 50), .ref (md 51), .ref (md 52), .ref (md 53), .ref (md 54), .int 0, .int 0, .ref (md 57), .ref (md 58)])), (md 13, .inl (cyI, 2, .inl (fun _ => 0)))] H := hP
  have hD : va_D A [(h1, .inr (7, [.ref (md 0), .ref (md 1), .int 0, .int 0, .int 0, .int (-1), .int 0, .int 0, .int 0, .int 0, .long 0, .ref (md 11), .ref (md 12), .ref (md 13), .ref (md 14), .ref (md 15), .ref (md 16), .ref (md 17), .ref (md 18), .ref (md 19), .ref (md 20), .ref (md 21), .ref (md 22), .ref (md 23), .ref (md 24), .ref (md 25), .ref (md 26), .ref (md 27), .ref (md 28), .int 0, .int 0, .int 0, .int 0, .int 0, .int 0, .int 0, .int 0, .int 0, .int 0, .int 0, .ref (md 40), .ref (md 41), .int 0, .int 0, .ref (md 44), .int 0, .int 0, .ref (md 47), .ref (md 48), .int 0, .ref (md 50), .ref (md 51), .ref (md 52), .ref (md 53), .ref (md 54), .int 0, .int 0, .ref (md 57), .ref (md 58)])), (md 13, .inl (cyI, 2, .inl (fun _ => 0)))] := hD
  rcases qu2239 with ⟨rfl, b2240⟩ | ⟨rfl, b2241, b2242⟩
  · skip
    refine lv_if_ne (tgt := 10) hx hb dX7_askers_5 (by decide) (fun c2243 => absurd (by decide) c2243) (fun _ => ?_)
    refine lv_iconst (v := (-1)) hx hb dX7_askers_8 (by decide) ?_
    exact W.iret (v := (-1)) hx hb hr (fun t ht hW => ⟨⟨(-1), (), rfl, rfl, cE.nil⟩, hS.F ht⟩) hS.2.2 dX7_askers_9
  · skip
    refine lv_if_ne (tgt := 10) hx hb dX7_askers_5 (by decide) (fun c2244 => absurd (by decide) c2244) (fun _ => ?_)
    refine lv_iconst (v := (-1)) hx hb dX7_askers_8 (by decide) ?_
    exact W.iret (v := (-1)) hx hb hr (fun t ht hW => ⟨⟨(-1), (), rfl, rfl, cE.nil⟩, hS.F ht⟩) hS.2.2 dX7_askers_9
def wo_c_M_stale : List Cond := [.methodLink RX7 438 yX7_isKey, .instanceMethod yX7_isKey, .selects RX7 yX7_isKey yX7_isKey, .initialized RX7]
def wq_c_M_stale : List Cond := .code yX7_stale cX7_stale 4 (some .int) :: (wo_c_M_stale ++ (wq_k_X7_isKey ++ []))
theorem gd_c_M_stale : Gd wq_c_M_stale := gd_c (gd_a (gd_o (by decide +kernel)) (gd_a gd_k_X7_isKey gd_0))
abbrev wc_c_M_stale (cyB cyI cyJ cyZ cyO : ClassId) (h1 : Nat) (md : Nat → Nat) (x1 : Int32) : va_W := [(h1, .inr (7, [.ref (md 0), .ref (md 1), .int 0, .int 0, .int 0, .int (-1), .int 0, .int 0, .int 0, .int 0, .long 0, .ref (md 11), .ref (md 12), .ref (md 13), .ref (md 14), .ref (md 15), .ref (md 16), .ref (md 17), .ref (md 18), .ref (md 19), .ref (md 20), .ref (md 21), .ref (md 22), .ref (md 23), .ref (md 24), .ref (md 25), .ref (md 26), .ref (md 27), .ref (md 28), .int 0, .int 0, .int 0, .int 0, .int 0, .int 0, .int 0, .int 0, .int 0, .int 0, .int 0, .ref (md 40), .ref (md 41), .int 0, .int 0, .ref (md 44), .int 0, .int 0, .ref (md 47), .ref (md 48), .int 0, .ref (md 50), .ref (md 51), .ref (md 52), .ref (md 53), .ref (md 54), .int 0, .int 0, .ref (md 57), .ref (md 58)])), (md 13, .inl (cyI, 2, .inl (fun _ => 0)))]
set_option maxHeartbeats 4000000 in
set_option maxRecDepth 100000 in
theorem c_M_stale (l : Launch) (dC : Nat → ClassId) (dI : Nat → Nat → Nat) (cyB cyI cyJ cyZ cyO : ClassId) (h1 : Nat) (md : Nat → Nat) (x1 : Int32) (sz : Nat) : Met l yX7_stale wq_c_M_stale ({ frames := 2, cells := 0, slots := 0, locals := 43 }) (va_Pc [.ref h1, .int x1] (cB (dC, dI) (kT cyB cyI cyJ cyZ cyO) (wc_c_M_stale cyB cyI cyJ cyZ cyO h1 md x1) sz)) (va_Qi (fun (r : Int32) (_ : Unit) => r = -1) (fun (u : Unit) t => cE (dC, dI) (va_A (wc_c_M_stale cyB cyI cyJ cyZ cyO h1 md x1) sz) ([]) t.heap) (va_A (wc_c_M_stale cyB cyI cyJ cyZ cyO h1 md x1) sz)) 0 0 (va_A (wc_c_M_stale cyB cyI cyJ cyZ cyO h1 md x1) sz) := by
  refine Met.ofW (cc := cX7_stale) (maxL := 4) (ret := (some .int)) (by decide) rfl ?_
  intro p e s m args below meth c s₁ B hml hv
  obtain ⟨rfl, hsz, hP, hKN, hD0⟩ := hv
  have hx := B.exec
  have hb := B.bytes
  have hr := B.returns
  have hts := atoms_spec (ws := wq_c_M_stale) B.pre
  have hown : s.vm.findClass RX7 = some m.cls := findClass_of_methodNamed B.named
  have hlocks := B.notSynchronized
  have hK := hKN.1
  have hfix : CallFix p m c cX7_stale 4 s [.ref h1, .int x1].toArray wq_c_M_stale RX7 := ⟨hx, hb, hml, hown, hts⟩
  subst hsz
  have hD := hD0.self (sz := s.heap.size)
  generalize hAe : va_A (wc_c_M_stale cyB cyI cyJ cyZ cyO h1 md x1) s.heap.size = A at hD ⊢
  have hA : ∀ q : Nat, s.heap.size ≤ q → A q := fun q h => by rw [← hAe]; exact Or.inr h
  have hS : va_S A s.heap s.heap [] := va_S.rf
  have hl := lv_entry ([.ref h1, .int x1]) (n := 4) (Nat.le_of_ble_eq_true rfl)
  rw [lg_entry_eq]
  generalize (lg_sl ([.ref h1, .int x1]) ++ List.replicate (4 - (lg_sl ([.ref h1, .int x1])).length) Slot.unset).toArray = ls at hl ⊢
  have hl : lv_has ls 4 [(0, .ref h1), (1, .int x1)] := hl
  refine lv_aload_n hx hb dX7_stale_0 rfl (lv_at hl 0 rfl) ?_
  refine lv_iload_n hx hb dX7_stale_1 rfl (lv_at hl 1 rfl) ?_
  refine gf_i (wr := []) (va_runV (As := [.int x1]) (rest := []) hfix (k_X7_isKey l dC dI cyB cyI cyJ cyZ cyO h1 md x1 _) (cwV 1 hts (gi_V (ow_m (k := 0) rfl) (ow_m (k := 1) rfl) (ow_m (k := 2) rfl) (ow_m (k := 3) rfl) (sb_c sb_l) gd_k_X7_isKey) rfl rfl rfl (by decide +kernel) ⟨Nat.le_of_ble_eq_true rfl, Nat.le_of_ble_eq_true rfl⟩) (g_preV hKN hP hD [0, 1] rfl (by decide) 0 7 rfl rfl) rfl rfl hl.1 rfl (lv_room (Nat.le_of_ble_eq_true rfl)) dX7_stale_2 ⟨Nat.le_of_ble_eq_true rfl, Nat.le_of_ble_eq_true rfl⟩) hP hD hS hA [0, 1] [] rfl rfl (by decide) (by decide) (fun r2266 u2267 H locs qu2267 hP hD hS => ?_)
  have hP : va_P (dC, dI) vwCl [(h1, .inr (7, [.ref (md 0), .ref (md 1), .int 0, .int 0, .int 0, .int (-1), .int 0, .int 0, .int 0, .int 0, .long 0, .ref (md 11), .ref (md 12), .ref (md 13), .ref (md 14), .ref (md 15), .ref (md 16), .ref (md 17), .ref (md 18), .ref (md 19), .ref (md 20), .ref (md 21), .ref (md 22), .ref (md 23), .ref (md 24), .ref (md 25), .ref (md 26), .ref (md 27), .ref (md 28), .int 0, .int 0, .int 0, .int 0, .int 0, .int 0, .int 0, .int 0, .int 0, .int 0, .int 0, .ref (md 40), .ref (md 41), .int 0, .int 0, .ref (md 44), .int 0, .int 0, .ref (md 47), .ref (md 48), .int 0, .ref (md 50), .ref (md 51), .ref (md 52), .ref (md 53), .ref (md 54), .int 0, .int 0, .ref (md 57), .ref (md 58)])), (md 13, .inl (cyI, 2, .inl (fun _ => 0)))] H := hP
  have hD : va_D A [(h1, .inr (7, [.ref (md 0), .ref (md 1), .int 0, .int 0, .int 0, .int (-1), .int 0, .int 0, .int 0, .int 0, .long 0, .ref (md 11), .ref (md 12), .ref (md 13), .ref (md 14), .ref (md 15), .ref (md 16), .ref (md 17), .ref (md 18), .ref (md 19), .ref (md 20), .ref (md 21), .ref (md 22), .ref (md 23), .ref (md 24), .ref (md 25), .ref (md 26), .ref (md 27), .ref (md 28), .int 0, .int 0, .int 0, .int 0, .int 0, .int 0, .int 0, .int 0, .int 0, .int 0, .int 0, .ref (md 40), .ref (md 41), .int 0, .int 0, .ref (md 44), .int 0, .int 0, .ref (md 47), .ref (md 48), .int 0, .ref (md 50), .ref (md 51), .ref (md 52), .ref (md 53), .ref (md 54), .int 0, .int 0, .ref (md 57), .ref (md 58)])), (md 13, .inl (cyI, 2, .inl (fun _ => 0)))] := hD
  rcases qu2267 with ⟨rfl, b2268⟩ | ⟨rfl, b2269, b2270⟩
  · skip
    refine lv_if_ne (tgt := 10) hx hb dX7_stale_5 (by decide) (fun c2271 => absurd (by decide) c2271) (fun _ => ?_)
    refine lv_iconst (v := (-1)) hx hb dX7_stale_8 (by decide) ?_
    exact W.iret (v := (-1)) hx hb hr (fun t ht hW => ⟨⟨(-1), (), rfl, rfl, cE.nil⟩, hS.F ht⟩) hS.2.2 dX7_stale_9
  · skip
    refine lv_if_ne (tgt := 10) hx hb dX7_stale_5 (by decide) (fun c2272 => absurd (by decide) c2272) (fun _ => ?_)
    refine lv_iconst (v := (-1)) hx hb dX7_stale_8 (by decide) ?_
    exact W.iret (v := (-1)) hx hb hr (fun t ht hW => ⟨⟨(-1), (), rfl, rfl, cE.nil⟩, hS.F ht⟩) hS.2.2 dX7_stale_9
def wo_c_M_versions : List Cond := [.methodLink RX7 407 yX7_isMember, .instanceMethod yX7_isMember, .selects RX7 yX7_isMember yX7_isMember, .initialized RX7]
def wq_c_M_versions : List Cond := .code yX7_versions cX7_versions 3 (some .int) :: (wo_c_M_versions ++ (wq_k_X7_isMember ++ []))
theorem gd_c_M_versions : Gd wq_c_M_versions := gd_c (gd_a (gd_o (by decide +kernel)) (gd_a gd_k_X7_isMember gd_0))
abbrev wc_c_M_versions (cyB cyI cyJ cyZ cyO : ClassId) (h1 : Nat) (md : Nat → Nat) (x1 : Int32) (x2 : Int32) : va_W := [(h1, .inr (7, [.ref (md 0), .ref (md 1), .int 0, .int 0, .int 0, .int (-1), .int 0, .int 0, .int 0, .int 0, .long 0, .ref (md 11), .ref (md 12), .ref (md 13), .ref (md 14), .ref (md 15), .ref (md 16), .ref (md 17), .ref (md 18), .ref (md 19), .ref (md 20), .ref (md 21), .ref (md 22), .ref (md 23), .ref (md 24), .ref (md 25), .ref (md 26), .ref (md 27), .ref (md 28), .int 0, .int 0, .int 0, .int 0, .int 0, .int 0, .int 0, .int 0, .int 0, .int 0, .int 0, .ref (md 40), .ref (md 41), .int 0, .int 0, .ref (md 44), .int 0, .int 0, .ref (md 47), .ref (md 48), .int 0, .ref (md 50), .ref (md 51), .ref (md 52), .ref (md 53), .ref (md 54), .int 0, .int 0, .ref (md 57), .ref (md 58)])), (md 11, .inl (cyI, 2, .inl (fun _ => 0)))]
set_option maxHeartbeats 4000000 in
set_option maxRecDepth 100000 in
theorem c_M_versions (l : Launch) (dC : Nat → ClassId) (dI : Nat → Nat → Nat) (cyB cyI cyJ cyZ cyO : ClassId) (h1 : Nat) (md : Nat → Nat) (x1 : Int32) (x2 : Int32) (sz : Nat) : Met l yX7_versions wq_c_M_versions ({ frames := 3, cells := 0, slots := 0, locals := 64 }) (va_Pc [.ref h1, .int x1, .int x2] (cB (dC, dI) (kT cyB cyI cyJ cyZ cyO) (wc_c_M_versions cyB cyI cyJ cyZ cyO h1 md x1 x2) sz)) (va_Qi (fun (r : Int32) (_ : Unit) => r = -1) (fun (u : Unit) t => cE (dC, dI) (va_A (wc_c_M_versions cyB cyI cyJ cyZ cyO h1 md x1 x2) sz) ([]) t.heap) (va_A (wc_c_M_versions cyB cyI cyJ cyZ cyO h1 md x1 x2) sz)) 0 0 (va_A (wc_c_M_versions cyB cyI cyJ cyZ cyO h1 md x1 x2) sz) := by
  refine Met.ofW (cc := cX7_versions) (maxL := 3) (ret := (some .int)) (by decide) rfl ?_
  intro p e s m args below meth c s₁ B hml hv
  obtain ⟨rfl, hsz, hP, hKN, hD0⟩ := hv
  have hx := B.exec
  have hb := B.bytes
  have hr := B.returns
  have hts := atoms_spec (ws := wq_c_M_versions) B.pre
  have hown : s.vm.findClass RX7 = some m.cls := findClass_of_methodNamed B.named
  have hlocks := B.notSynchronized
  have hK := hKN.1
  have hfix : CallFix p m c cX7_versions 3 s [.ref h1, .int x1, .int x2].toArray wq_c_M_versions RX7 := ⟨hx, hb, hml, hown, hts⟩
  subst hsz
  have hD := hD0.self (sz := s.heap.size)
  generalize hAe : va_A (wc_c_M_versions cyB cyI cyJ cyZ cyO h1 md x1 x2) s.heap.size = A at hD ⊢
  have hA : ∀ q : Nat, s.heap.size ≤ q → A q := fun q h => by rw [← hAe]; exact Or.inr h
  have hS : va_S A s.heap s.heap [] := va_S.rf
  have hl := lv_entry ([.ref h1, .int x1, .int x2]) (n := 3) (Nat.le_of_ble_eq_true rfl)
  rw [lg_entry_eq]
  generalize (lg_sl ([.ref h1, .int x1, .int x2]) ++ List.replicate (3 - (lg_sl ([.ref h1, .int x1, .int x2])).length) Slot.unset).toArray = ls at hl ⊢
  have hl : lv_has ls 3 [(0, .ref h1), (1, .int x1), (2, .int x2)] := hl
  refine lv_aload_n hx hb dX7_versions_0 rfl (lv_at hl 0 rfl) ?_
  refine lv_iload_n hx hb dX7_versions_1 rfl (lv_at hl 1 rfl) ?_
  refine gf_i (wr := []) (va_runV (As := [.int x1]) (rest := []) hfix (k_X7_isMember l dC dI cyB cyI cyJ cyZ cyO h1 md x1 _) (cwV 1 hts (gi_V (ow_m (k := 0) rfl) (ow_m (k := 1) rfl) (ow_m (k := 2) rfl) (ow_m (k := 3) rfl) (sb_c sb_l) gd_k_X7_isMember) rfl rfl rfl (by decide +kernel) ⟨Nat.le_of_ble_eq_true rfl, Nat.le_of_ble_eq_true rfl⟩) (g_preV hKN hP hD [0, 1] rfl (by decide) 0 7 rfl rfl) rfl rfl hl.1 rfl (lv_room (Nat.le_of_ble_eq_true rfl)) dX7_versions_2 ⟨Nat.le_of_ble_eq_true rfl, Nat.le_of_ble_eq_true rfl⟩) hP hD hS hA [0, 1] [] rfl rfl (by decide) (by decide) (fun r2308 u2309 H locs qu2309 hP hD hS => ?_)
  have hP : va_P (dC, dI) vwCl [(h1, .inr (7, [.ref (md 0), .ref (md 1), .int 0, .int 0, .int 0, .int (-1), .int 0, .int 0, .int 0, .int 0, .long 0, .ref (md 11), .ref (md 12), .ref (md 13), .ref (md 14), .ref (md 15), .ref (md 16), .ref (md 17), .ref (md 18), .ref (md 19), .ref (md 20), .ref (md 21), .ref (md 22), .ref (md 23), .ref (md 24), .ref (md 25), .ref (md 26), .ref (md 27), .ref (md 28), .int 0, .int 0, .int 0, .int 0, .int 0, .int 0, .int 0, .int 0, .int 0, .int 0, .int 0, .ref (md 40), .ref (md 41), .int 0, .int 0, .ref (md 44), .int 0, .int 0, .ref (md 47), .ref (md 48), .int 0, .ref (md 50), .ref (md 51), .ref (md 52), .ref (md 53), .ref (md 54), .int 0, .int 0, .ref (md 57), .ref (md 58)])), (md 11, .inl (cyI, 2, .inl (fun _ => 0)))] H := hP
  have hD : va_D A [(h1, .inr (7, [.ref (md 0), .ref (md 1), .int 0, .int 0, .int 0, .int (-1), .int 0, .int 0, .int 0, .int 0, .long 0, .ref (md 11), .ref (md 12), .ref (md 13), .ref (md 14), .ref (md 15), .ref (md 16), .ref (md 17), .ref (md 18), .ref (md 19), .ref (md 20), .ref (md 21), .ref (md 22), .ref (md 23), .ref (md 24), .ref (md 25), .ref (md 26), .ref (md 27), .ref (md 28), .int 0, .int 0, .int 0, .int 0, .int 0, .int 0, .int 0, .int 0, .int 0, .int 0, .int 0, .ref (md 40), .ref (md 41), .int 0, .int 0, .ref (md 44), .int 0, .int 0, .ref (md 47), .ref (md 48), .int 0, .ref (md 50), .ref (md 51), .ref (md 52), .ref (md 53), .ref (md 54), .int 0, .int 0, .ref (md 57), .ref (md 58)])), (md 11, .inl (cyI, 2, .inl (fun _ => 0)))] := hD
  rcases qu2309 with ⟨rfl, b2310⟩ | ⟨rfl, b2311, b2312⟩
  · skip
    refine lv_if_eq (tgt := 26) hx hb dX7_versions_5 (by decide) (fun _ => ?_) (fun c2313 => absurd (by decide) c2313)
    refine lv_iconst (v := (-1)) hx hb dX7_versions_26 (by decide) ?_
    exact W.iret (v := (-1)) hx hb hr (fun t ht hW => ⟨⟨(-1), (), rfl, rfl, cE.nil⟩, hS.F ht⟩) hS.2.2 dX7_versions_27
  · skip
    refine lv_if_eq (tgt := 26) hx hb dX7_versions_5 (by decide) (fun _ => ?_) (fun c2314 => absurd (by decide) c2314)
    refine lv_iconst (v := (-1)) hx hb dX7_versions_26 (by decide) ?_
    exact W.iret (v := (-1)) hx hb hr (fun t ht hW => ⟨⟨(-1), (), rfl, rfl, cE.nil⟩, hS.F ht⟩) hS.2.2 dX7_versions_27
def wo_c_M_version : List Cond := [.methodLink RX7 407 yX7_isMember, .instanceMethod yX7_isMember, .selects RX7 yX7_isMember yX7_isMember, .initialized RX7]
def wq_c_M_version : List Cond := .code yX7_version cX7_version 4 (some .int) :: (wo_c_M_version ++ (wq_k_X7_isMember ++ []))
theorem gd_c_M_version : Gd wq_c_M_version := gd_c (gd_a (gd_o (by decide +kernel)) (gd_a gd_k_X7_isMember gd_0))
abbrev wc_c_M_version (cyB cyI cyJ cyZ cyO : ClassId) (h1 : Nat) (md : Nat → Nat) (x1 : Int32) (x2 : Int32) (x3 : Int32) : va_W := [(h1, .inr (7, [.ref (md 0), .ref (md 1), .int 0, .int 0, .int 0, .int (-1), .int 0, .int 0, .int 0, .int 0, .long 0, .ref (md 11), .ref (md 12), .ref (md 13), .ref (md 14), .ref (md 15), .ref (md 16), .ref (md 17), .ref (md 18), .ref (md 19), .ref (md 20), .ref (md 21), .ref (md 22), .ref (md 23), .ref (md 24), .ref (md 25), .ref (md 26), .ref (md 27), .ref (md 28), .int 0, .int 0, .int 0, .int 0, .int 0, .int 0, .int 0, .int 0, .int 0, .int 0, .int 0, .ref (md 40), .ref (md 41), .int 0, .int 0, .ref (md 44), .int 0, .int 0, .ref (md 47), .ref (md 48), .int 0, .ref (md 50), .ref (md 51), .ref (md 52), .ref (md 53), .ref (md 54), .int 0, .int 0, .ref (md 57), .ref (md 58)])), (md 11, .inl (cyI, 2, .inl (fun _ => 0)))]
set_option maxHeartbeats 4000000 in
set_option maxRecDepth 100000 in
theorem c_M_version (l : Launch) (dC : Nat → ClassId) (dI : Nat → Nat → Nat) (cyB cyI cyJ cyZ cyO : ClassId) (h1 : Nat) (md : Nat → Nat) (x1 : Int32) (x2 : Int32) (x3 : Int32) (sz : Nat) : Met l yX7_version wq_c_M_version ({ frames := 3, cells := 0, slots := 0, locals := 64 }) (va_Pc [.ref h1, .int x1, .int x2, .int x3] (cB (dC, dI) (kT cyB cyI cyJ cyZ cyO) (wc_c_M_version cyB cyI cyJ cyZ cyO h1 md x1 x2 x3) sz)) (va_Qi (fun (r : Int32) (_ : Unit) => r = -1) (fun (u : Unit) t => cE (dC, dI) (va_A (wc_c_M_version cyB cyI cyJ cyZ cyO h1 md x1 x2 x3) sz) ([]) t.heap) (va_A (wc_c_M_version cyB cyI cyJ cyZ cyO h1 md x1 x2 x3) sz)) 0 0 (va_A (wc_c_M_version cyB cyI cyJ cyZ cyO h1 md x1 x2 x3) sz) := by
  refine Met.ofW (cc := cX7_version) (maxL := 4) (ret := (some .int)) (by decide) rfl ?_
  intro p e s m args below meth c s₁ B hml hv
  obtain ⟨rfl, hsz, hP, hKN, hD0⟩ := hv
  have hx := B.exec
  have hb := B.bytes
  have hr := B.returns
  have hts := atoms_spec (ws := wq_c_M_version) B.pre
  have hown : s.vm.findClass RX7 = some m.cls := findClass_of_methodNamed B.named
  have hlocks := B.notSynchronized
  have hK := hKN.1
  have hfix : CallFix p m c cX7_version 4 s [.ref h1, .int x1, .int x2, .int x3].toArray wq_c_M_version RX7 := ⟨hx, hb, hml, hown, hts⟩
  subst hsz
  have hD := hD0.self (sz := s.heap.size)
  generalize hAe : va_A (wc_c_M_version cyB cyI cyJ cyZ cyO h1 md x1 x2 x3) s.heap.size = A at hD ⊢
  have hA : ∀ q : Nat, s.heap.size ≤ q → A q := fun q h => by rw [← hAe]; exact Or.inr h
  have hS : va_S A s.heap s.heap [] := va_S.rf
  have hl := lv_entry ([.ref h1, .int x1, .int x2, .int x3]) (n := 4) (Nat.le_of_ble_eq_true rfl)
  rw [lg_entry_eq]
  generalize (lg_sl ([.ref h1, .int x1, .int x2, .int x3]) ++ List.replicate (4 - (lg_sl ([.ref h1, .int x1, .int x2, .int x3])).length) Slot.unset).toArray = ls at hl ⊢
  have hl : lv_has ls 4 [(0, .ref h1), (1, .int x1), (2, .int x2), (3, .int x3)] := hl
  refine lv_aload_n hx hb dX7_version_0 rfl (lv_at hl 0 rfl) ?_
  refine lv_iload_n hx hb dX7_version_1 rfl (lv_at hl 1 rfl) ?_
  refine gf_i (wr := []) (va_runV (As := [.int x1]) (rest := []) hfix (k_X7_isMember l dC dI cyB cyI cyJ cyZ cyO h1 md x1 _) (cwV 1 hts (gi_V (ow_m (k := 0) rfl) (ow_m (k := 1) rfl) (ow_m (k := 2) rfl) (ow_m (k := 3) rfl) (sb_c sb_l) gd_k_X7_isMember) rfl rfl rfl (by decide +kernel) ⟨Nat.le_of_ble_eq_true rfl, Nat.le_of_ble_eq_true rfl⟩) (g_preV hKN hP hD [0, 1] rfl (by decide) 0 7 rfl rfl) rfl rfl hl.1 rfl (lv_room (Nat.le_of_ble_eq_true rfl)) dX7_version_2 ⟨Nat.le_of_ble_eq_true rfl, Nat.le_of_ble_eq_true rfl⟩) hP hD hS hA [0, 1] [] rfl rfl (by decide) (by decide) (fun r2350 u2351 H locs qu2351 hP hD hS => ?_)
  have hP : va_P (dC, dI) vwCl [(h1, .inr (7, [.ref (md 0), .ref (md 1), .int 0, .int 0, .int 0, .int (-1), .int 0, .int 0, .int 0, .int 0, .long 0, .ref (md 11), .ref (md 12), .ref (md 13), .ref (md 14), .ref (md 15), .ref (md 16), .ref (md 17), .ref (md 18), .ref (md 19), .ref (md 20), .ref (md 21), .ref (md 22), .ref (md 23), .ref (md 24), .ref (md 25), .ref (md 26), .ref (md 27), .ref (md 28), .int 0, .int 0, .int 0, .int 0, .int 0, .int 0, .int 0, .int 0, .int 0, .int 0, .int 0, .ref (md 40), .ref (md 41), .int 0, .int 0, .ref (md 44), .int 0, .int 0, .ref (md 47), .ref (md 48), .int 0, .ref (md 50), .ref (md 51), .ref (md 52), .ref (md 53), .ref (md 54), .int 0, .int 0, .ref (md 57), .ref (md 58)])), (md 11, .inl (cyI, 2, .inl (fun _ => 0)))] H := hP
  have hD : va_D A [(h1, .inr (7, [.ref (md 0), .ref (md 1), .int 0, .int 0, .int 0, .int (-1), .int 0, .int 0, .int 0, .int 0, .long 0, .ref (md 11), .ref (md 12), .ref (md 13), .ref (md 14), .ref (md 15), .ref (md 16), .ref (md 17), .ref (md 18), .ref (md 19), .ref (md 20), .ref (md 21), .ref (md 22), .ref (md 23), .ref (md 24), .ref (md 25), .ref (md 26), .ref (md 27), .ref (md 28), .int 0, .int 0, .int 0, .int 0, .int 0, .int 0, .int 0, .int 0, .int 0, .int 0, .int 0, .ref (md 40), .ref (md 41), .int 0, .int 0, .ref (md 44), .int 0, .int 0, .ref (md 47), .ref (md 48), .int 0, .ref (md 50), .ref (md 51), .ref (md 52), .ref (md 53), .ref (md 54), .int 0, .int 0, .ref (md 57), .ref (md 58)])), (md 11, .inl (cyI, 2, .inl (fun _ => 0)))] := hD
  rcases qu2351 with ⟨rfl, b2352⟩ | ⟨rfl, b2353, b2354⟩
  · skip
    refine lv_if_eq (tgt := 30) hx hb dX7_version_5 (by decide) (fun _ => ?_) (fun c2355 => absurd (by decide) c2355)
    refine lv_iconst (v := (-1)) hx hb dX7_version_30 (by decide) ?_
    exact W.iret (v := (-1)) hx hb hr (fun t ht hW => ⟨⟨(-1), (), rfl, rfl, cE.nil⟩, hS.F ht⟩) hS.2.2 dX7_version_31
  · skip
    refine lv_if_eq (tgt := 30) hx hb dX7_version_5 (by decide) (fun _ => ?_) (fun c2356 => absurd (by decide) c2356)
    refine lv_iconst (v := (-1)) hx hb dX7_version_30 (by decide) ?_
    exact W.iret (v := (-1)) hx hb hr (fun t ht hW => ⟨⟨(-1), (), rfl, rfl, cE.nil⟩, hS.F ht⟩) hS.2.2 dX7_version_31
def wo_k_X7_isIn_v3 : List Cond := []
def wq_k_X7_isIn_v3 : List Cond := .code yX7_isIn cX7_isIn 3 (some .boolean) :: (wo_k_X7_isIn_v3 ++ [])
theorem gd_k_X7_isIn_v3 : Gd wq_k_X7_isIn_v3 := gd_c (gd_a (gd_o (by decide +kernel)) gd_0)
abbrev wc_k_X7_isIn_v3 (cyB cyI cyJ cyZ cyO : ClassId) (a0 : Int32) : va_W := []
set_option maxHeartbeats 4000000 in
set_option maxRecDepth 100000 in
theorem k_X7_isIn_v3 (l : Launch) (dC : Nat → ClassId) (dI : Nat → Nat → Nat) (cyB cyI cyJ cyZ cyO : ClassId) (a0 : Int32) (sz : Nat) : Met l yX7_isIn wq_k_X7_isIn_v3 ({ frames := 0, cells := 0, slots := 0, locals := 0 }) (va_Pc [.int a0, .int 0, .int 60] (cB (dC, dI) (kT cyB cyI cyJ cyZ cyO) (wc_k_X7_isIn_v3 cyB cyI cyJ cyZ cyO a0) sz)) (va_Qi (fun (r : Int32) _ => (r = 0 ∧ a0.toInt < 0) ∨ (r = 0 ∧ 0 ≤ a0.toInt ∧ 60 < a0.toInt) ∨ (r = 1 ∧ 0 ≤ a0.toInt ∧ a0.toInt ≤ 60)) (fun (u : Unit) t => cE (dC, dI) (va_A (wc_k_X7_isIn_v3 cyB cyI cyJ cyZ cyO a0) sz) ([]) t.heap) (va_A (wc_k_X7_isIn_v3 cyB cyI cyJ cyZ cyO a0) sz)) 0 0 (va_A (wc_k_X7_isIn_v3 cyB cyI cyJ cyZ cyO a0) sz) := by
  refine Met.ofW (cc := cX7_isIn) (maxL := 3) (ret := (some .boolean)) (by decide) rfl ?_
  intro p e s m args below meth c s₁ B hml hv
  obtain ⟨rfl, hsz, hP, hKN, hD0⟩ := hv
  have hx := B.exec
  have hb := B.bytes
  have hr := B.returns
  have hts := atoms_spec (ws := wq_k_X7_isIn_v3) B.pre
  have hown : s.vm.findClass RX7 = some m.cls := findClass_of_methodNamed B.named
  have hlocks := B.notSynchronized
  have hK := hKN.1
  have hfix : CallFix p m c cX7_isIn 3 s [.int a0, .int 0, .int 60].toArray wq_k_X7_isIn_v3 RX7 := ⟨hx, hb, hml, hown, hts⟩
  subst hsz
  have hD := hD0.self (sz := s.heap.size)
  generalize hAe : va_A (wc_k_X7_isIn_v3 cyB cyI cyJ cyZ cyO a0) s.heap.size = A at hD ⊢
  have hA : ∀ q : Nat, s.heap.size ≤ q → A q := fun q h => by rw [← hAe]; exact Or.inr h
  have hS : va_S A s.heap s.heap [] := va_S.rf
  have hl := lv_entry ([.int a0, .int 0, .int 60]) (n := 3) (Nat.le_of_ble_eq_true rfl)
  rw [lg_entry_eq]
  generalize (lg_sl ([.int a0, .int 0, .int 60]) ++ List.replicate (3 - (lg_sl ([.int a0, .int 0, .int 60])).length) Slot.unset).toArray = ls at hl ⊢
  have hl : lv_has ls 3 [(0, .int a0), (1, .int 0), (2, .int 60)] := hl
  refine lv_iload_n hx hb dX7_isIn_0 rfl (lv_at hl 0 rfl) ?_
  refine lv_iload_n hx hb dX7_isIn_1 rfl (lv_at hl 1 rfl) ?_
  refine lv_icmp_lt (tgt := 14) hx hb dX7_isIn_2 (by decide) (fun c2359 => ?_) (fun c2359 => ?_)
  · have c2359 := i_lt (a := a0.toInt) (b := 0) c2359 rfl (by decide)
    refine lv_iconst (v := 0) hx hb dX7_isIn_14 (by decide) ?_
    exact W.zret (v := 0) hx hb hr (by decide) (fun t ht hW => ⟨⟨0, (), rfl, (Or.inl ⟨rfl, c2359⟩), cE.of ht hP hD [] (by decide) rfl⟩, hS.F ht⟩) hS.2.2 dX7_isIn_15
  · have c2359 := i_nlt (a := a0.toInt) (b := 0) c2359 rfl (by decide)
    refine lv_iload_n hx hb dX7_isIn_5 rfl (lv_at hl 0 rfl) ?_
    refine lv_iload_n hx hb dX7_isIn_6 rfl (lv_at hl 2 rfl) ?_
    refine lv_icmp_gt (tgt := 14) hx hb dX7_isIn_7 (by decide) (fun c2360 => ?_) (fun c2360 => ?_)
    · have c2360 := i_lt (a := 60) (b := a0.toInt) c2360 (by decide) rfl
      refine lv_iconst (v := 0) hx hb dX7_isIn_14 (by decide) ?_
      exact W.zret (v := 0) hx hb hr (by decide) (fun t ht hW => ⟨⟨0, (), rfl, (Or.inr (Or.inl ⟨rfl, c2359, c2360⟩)), cE.of ht hP hD [] (by decide) rfl⟩, hS.F ht⟩) hS.2.2 dX7_isIn_15
    · have c2360 := i_nlt (a := 60) (b := a0.toInt) c2360 (by decide) rfl
      refine lv_iconst (v := 1) hx hb dX7_isIn_10 (by decide) ?_
      refine lv_goto (tgt := 15) hx hb dX7_isIn_11 (by decide) ?_
      exact W.zret (v := 1) hx hb hr (by decide) (fun t ht hW => ⟨⟨1, (), rfl, (Or.inr (Or.inr ⟨rfl, c2359, c2360⟩)), cE.of ht hP hD [] (by decide) rfl⟩, hS.F ht⟩) hS.2.2 dX7_isIn_15
def wo_k_X7_isIn_v4 : List Cond := []
def wq_k_X7_isIn_v4 : List Cond := .code yX7_isIn cX7_isIn 3 (some .boolean) :: (wo_k_X7_isIn_v4 ++ [])
theorem gd_k_X7_isIn_v4 : Gd wq_k_X7_isIn_v4 := gd_c (gd_a (gd_o (by decide +kernel)) gd_0)
abbrev wc_k_X7_isIn_v4 (cyB cyI cyJ cyZ cyO : ClassId) (a0 : Int32) : va_W := []
set_option maxHeartbeats 4000000 in
set_option maxRecDepth 100000 in
theorem k_X7_isIn_v4 (l : Launch) (dC : Nat → ClassId) (dI : Nat → Nat → Nat) (cyB cyI cyJ cyZ cyO : ClassId) (a0 : Int32) (sz : Nat) : Met l yX7_isIn wq_k_X7_isIn_v4 ({ frames := 0, cells := 0, slots := 0, locals := 0 }) (va_Pc [.int a0, .int 0, .int 1] (cB (dC, dI) (kT cyB cyI cyJ cyZ cyO) (wc_k_X7_isIn_v4 cyB cyI cyJ cyZ cyO a0) sz)) (va_Qi (fun (r : Int32) _ => (r = 0 ∧ a0.toInt < 0) ∨ (r = 0 ∧ 0 ≤ a0.toInt ∧ 1 < a0.toInt) ∨ (r = 1 ∧ 0 ≤ a0.toInt ∧ a0.toInt ≤ 1)) (fun (u : Unit) t => cE (dC, dI) (va_A (wc_k_X7_isIn_v4 cyB cyI cyJ cyZ cyO a0) sz) ([]) t.heap) (va_A (wc_k_X7_isIn_v4 cyB cyI cyJ cyZ cyO a0) sz)) 0 0 (va_A (wc_k_X7_isIn_v4 cyB cyI cyJ cyZ cyO a0) sz) := by
  refine Met.ofW (cc := cX7_isIn) (maxL := 3) (ret := (some .boolean)) (by decide) rfl ?_
  intro p e s m args below meth c s₁ B hml hv
  obtain ⟨rfl, hsz, hP, hKN, hD0⟩ := hv
  have hx := B.exec
  have hb := B.bytes
  have hr := B.returns
  have hts := atoms_spec (ws := wq_k_X7_isIn_v4) B.pre
  have hown : s.vm.findClass RX7 = some m.cls := findClass_of_methodNamed B.named
  have hlocks := B.notSynchronized
  have hK := hKN.1
  have hfix : CallFix p m c cX7_isIn 3 s [.int a0, .int 0, .int 1].toArray wq_k_X7_isIn_v4 RX7 := ⟨hx, hb, hml, hown, hts⟩
  subst hsz
  have hD := hD0.self (sz := s.heap.size)
  generalize hAe : va_A (wc_k_X7_isIn_v4 cyB cyI cyJ cyZ cyO a0) s.heap.size = A at hD ⊢
  have hA : ∀ q : Nat, s.heap.size ≤ q → A q := fun q h => by rw [← hAe]; exact Or.inr h
  have hS : va_S A s.heap s.heap [] := va_S.rf
  have hl := lv_entry ([.int a0, .int 0, .int 1]) (n := 3) (Nat.le_of_ble_eq_true rfl)
  rw [lg_entry_eq]
  generalize (lg_sl ([.int a0, .int 0, .int 1]) ++ List.replicate (3 - (lg_sl ([.int a0, .int 0, .int 1])).length) Slot.unset).toArray = ls at hl ⊢
  have hl : lv_has ls 3 [(0, .int a0), (1, .int 0), (2, .int 1)] := hl
  refine lv_iload_n hx hb dX7_isIn_0 rfl (lv_at hl 0 rfl) ?_
  refine lv_iload_n hx hb dX7_isIn_1 rfl (lv_at hl 1 rfl) ?_
  refine lv_icmp_lt (tgt := 14) hx hb dX7_isIn_2 (by decide) (fun c2373 => ?_) (fun c2373 => ?_)
  · have c2373 := i_lt (a := a0.toInt) (b := 0) c2373 rfl (by decide)
    refine lv_iconst (v := 0) hx hb dX7_isIn_14 (by decide) ?_
    exact W.zret (v := 0) hx hb hr (by decide) (fun t ht hW => ⟨⟨0, (), rfl, (Or.inl ⟨rfl, c2373⟩), cE.of ht hP hD [] (by decide) rfl⟩, hS.F ht⟩) hS.2.2 dX7_isIn_15
  · have c2373 := i_nlt (a := a0.toInt) (b := 0) c2373 rfl (by decide)
    refine lv_iload_n hx hb dX7_isIn_5 rfl (lv_at hl 0 rfl) ?_
    refine lv_iload_n hx hb dX7_isIn_6 rfl (lv_at hl 2 rfl) ?_
    refine lv_icmp_gt (tgt := 14) hx hb dX7_isIn_7 (by decide) (fun c2374 => ?_) (fun c2374 => ?_)
    · have c2374 := i_lt (a := 1) (b := a0.toInt) c2374 (by decide) rfl
      refine lv_iconst (v := 0) hx hb dX7_isIn_14 (by decide) ?_
      exact W.zret (v := 0) hx hb hr (by decide) (fun t ht hW => ⟨⟨0, (), rfl, (Or.inr (Or.inl ⟨rfl, c2373, c2374⟩)), cE.of ht hP hD [] (by decide) rfl⟩, hS.F ht⟩) hS.2.2 dX7_isIn_15
    · have c2374 := i_nlt (a := 1) (b := a0.toInt) c2374 (by decide) rfl
      refine lv_iconst (v := 1) hx hb dX7_isIn_10 (by decide) ?_
      refine lv_goto (tgt := 15) hx hb dX7_isIn_11 (by decide) ?_
      exact W.zret (v := 1) hx hb hr (by decide) (fun t ht hW => ⟨⟨1, (), rfl, (Or.inr (Or.inr ⟨rfl, c2373, c2374⟩)), cE.of ht hP hD [] (by decide) rfl⟩, hS.F ht⟩) hS.2.2 dX7_isIn_15
def wo_c_M_will : List Cond := [.methodLink RX7 316 yX7_isIn, .static yX7_isIn, .initialized RX7, .methodLink RX7 313 yX7_lots, .instanceMethod yX7_lots, .selects RX7 yX7_lots yX7_lots]
def wq_c_M_will : List Cond := .code yX7_will cX7_will 4 (some .int) :: (wo_c_M_will ++ (wq_k_X7_isIn_v3 ++ (wq_k_X7_isIn_v4 ++ (wq_k_X7_lots_v5 ++ []))))
theorem gd_c_M_will : Gd wq_c_M_will := gd_c (gd_a (gd_o (by decide +kernel)) (gd_a gd_k_X7_isIn_v3 (gd_a gd_k_X7_isIn_v4 (gd_a gd_k_X7_lots_v5 gd_0))))
abbrev wc_c_M_will (cyB cyI cyJ cyZ cyO : ClassId) (h1 : Nat) (md : Nat → Nat) (g : Nat → Int32) (x1 : Int32) (x2 : Int32) : va_W := [(h1, .inr (7, [.ref (md 0), .ref (md 1), .int 0, .int 0, .int 0, .int (-1), .int 0, .int 0, .int 0, .int 0, .long 0, .ref (md 11), .ref (md 12), .ref (md 13), .ref (md 14), .ref (md 15), .ref (md 16), .ref (md 17), .ref (md 18), .ref (md 19), .ref (md 20), .ref (md 21), .ref (md 22), .ref (md 23), .ref (md 24), .ref (md 25), .ref (md 26), .ref (md 27), .ref (md 28), .int 0, .int 0, .int 0, .int 0, .int 0, .int 0, .int 0, .int 0, .int 0, .int 0, .int 0, .ref (md 40), .ref (md 41), .int 0, .int 0, .ref (md 44), .int 0, .int 0, .ref (md 47), .ref (md 48), .int 0, .ref (md 50), .ref (md 51), .ref (md 52), .ref (md 53), .ref (md 54), .int 0, .int 0, .ref (md 57), .ref (md 58)])), (md 40, .inl (cyI, 520, .inl g))]
set_option maxHeartbeats 4000000 in
set_option maxRecDepth 100000 in
theorem c_M_will (l : Launch) (dC : Nat → ClassId) (dI : Nat → Nat → Nat) (cyB cyI cyJ cyZ cyO : ClassId) (h1 : Nat) (md : Nat → Nat) (g : Nat → Int32) (x1 : Int32) (x2 : Int32) (sz : Nat) (hg : AllZ g) : Met l yX7_will wq_c_M_will ({ frames := 1, cells := 0, slots := 0, locals := 22 }) (va_Pc [.ref h1, .int x1, .int x2] (cB (dC, dI) (kT cyB cyI cyJ cyZ cyO) (wc_c_M_will cyB cyI cyJ cyZ cyO h1 md g x1 x2) sz)) (va_Qi (fun (r : Int32) (_ : Unit) => r = -1) (fun (u : Unit) t => cE (dC, dI) (va_A (wc_c_M_will cyB cyI cyJ cyZ cyO h1 md g x1 x2) sz) ([]) t.heap) (va_A (wc_c_M_will cyB cyI cyJ cyZ cyO h1 md g x1 x2) sz)) 0 0 (va_A (wc_c_M_will cyB cyI cyJ cyZ cyO h1 md g x1 x2) sz) := by
  refine Met.ofW (cc := cX7_will) (maxL := 4) (ret := (some .int)) (by decide) rfl ?_
  intro p e s m args below meth c s₁ B hml hv
  obtain ⟨rfl, hsz, hP, hKN, hD0⟩ := hv
  have hx := B.exec
  have hb := B.bytes
  have hr := B.returns
  have hts := atoms_spec (ws := wq_c_M_will) B.pre
  have hown : s.vm.findClass RX7 = some m.cls := findClass_of_methodNamed B.named
  have hlocks := B.notSynchronized
  have hK := hKN.1
  have hfix : CallFix p m c cX7_will 4 s [.ref h1, .int x1, .int x2].toArray wq_c_M_will RX7 := ⟨hx, hb, hml, hown, hts⟩
  subst hsz
  have hD := hD0.self (sz := s.heap.size)
  generalize hAe : va_A (wc_c_M_will cyB cyI cyJ cyZ cyO h1 md g x1 x2) s.heap.size = A at hD ⊢
  have hA : ∀ q : Nat, s.heap.size ≤ q → A q := fun q h => by rw [← hAe]; exact Or.inr h
  have hS : va_S A s.heap s.heap [] := va_S.rf
  have hl := lv_entry ([.ref h1, .int x1, .int x2]) (n := 4) (Nat.le_of_ble_eq_true rfl)
  rw [lg_entry_eq]
  generalize (lg_sl ([.ref h1, .int x1, .int x2]) ++ List.replicate (4 - (lg_sl ([.ref h1, .int x1, .int x2])).length) Slot.unset).toArray = ls at hl ⊢
  have hl : lv_has ls 4 [(0, .ref h1), (1, .int x1), (2, .int x2)] := hl
  refine lv_iload_n hx hb dX7_will_0 rfl (lv_at hl 1 rfl) ?_
  refine lv_iconst (v := 0) hx hb dX7_will_1 (by decide) ?_
  refine lv_bipush (v := 60) hx hb dX7_will_2 (by decide) ?_
  refine gf_i (wr := [(h1, .inr (7, [.ref (md 0), .ref (md 1), .int 0, .int 0, .int 0, .int (-1), .int 0, .int 0, .int 0, .int 0, .long 0, .ref (md 11), .ref (md 12), .ref (md 13), .ref (md 14), .ref (md 15), .ref (md 16), .ref (md 17), .ref (md 18), .ref (md 19), .ref (md 20), .ref (md 21), .ref (md 22), .ref (md 23), .ref (md 24), .ref (md 25), .ref (md 26), .ref (md 27), .ref (md 28), .int 0, .int 0, .int 0, .int 0, .int 0, .int 0, .int 0, .int 0, .int 0, .int 0, .int 0, .ref (md 40), .ref (md 41), .int 0, .int 0, .ref (md 44), .int 0, .int 0, .ref (md 47), .ref (md 48), .int 0, .ref (md 50), .ref (md 51), .ref (md 52), .ref (md 53), .ref (md 54), .int 0, .int 0, .ref (md 57), .ref (md 58)])), (md 40, .inl (cyI, 520, .inl g))]) (va_runS (As := [.int x1, .int 0, .int 60]) (rest := []) hfix (k_X7_isIn_v3 l dC dI cyB cyI cyJ cyZ cyO x1 _) (va_cwS 3 hts (gi_S (ow_m (k := 0) rfl) (ow_m (k := 1) rfl) (ow_m (k := 2) rfl) (sb_c sb_l) gd_k_X7_isIn_v3) rfl rfl rfl (by decide +kernel) ⟨Nat.le_of_ble_eq_true rfl, Nat.le_of_ble_eq_true rfl⟩) (g_preS hKN hP hD [] rfl (by decide)) rfl rfl hl.1 rfl (lv_room (Nat.le_of_ble_eq_true rfl)) dX7_will_4 ⟨Nat.le_of_ble_eq_true rfl, Nat.le_of_ble_eq_true rfl⟩) hP hD hS hA [] [0, 1] rfl rfl (by decide) (by decide) (fun r2390 u2391 H locs qu2391 hP hD hS => ?_)
  have hP : va_P (dC, dI) vwCl [(h1, .inr (7, [.ref (md 0), .ref (md 1), .int 0, .int 0, .int 0, .int (-1), .int 0, .int 0, .int 0, .int 0, .long 0, .ref (md 11), .ref (md 12), .ref (md 13), .ref (md 14), .ref (md 15), .ref (md 16), .ref (md 17), .ref (md 18), .ref (md 19), .ref (md 20), .ref (md 21), .ref (md 22), .ref (md 23), .ref (md 24), .ref (md 25), .ref (md 26), .ref (md 27), .ref (md 28), .int 0, .int 0, .int 0, .int 0, .int 0, .int 0, .int 0, .int 0, .int 0, .int 0, .int 0, .ref (md 40), .ref (md 41), .int 0, .int 0, .ref (md 44), .int 0, .int 0, .ref (md 47), .ref (md 48), .int 0, .ref (md 50), .ref (md 51), .ref (md 52), .ref (md 53), .ref (md 54), .int 0, .int 0, .ref (md 57), .ref (md 58)])), (md 40, .inl (cyI, 520, .inl g))] H := hP
  have hD : va_D A [(h1, .inr (7, [.ref (md 0), .ref (md 1), .int 0, .int 0, .int 0, .int (-1), .int 0, .int 0, .int 0, .int 0, .long 0, .ref (md 11), .ref (md 12), .ref (md 13), .ref (md 14), .ref (md 15), .ref (md 16), .ref (md 17), .ref (md 18), .ref (md 19), .ref (md 20), .ref (md 21), .ref (md 22), .ref (md 23), .ref (md 24), .ref (md 25), .ref (md 26), .ref (md 27), .ref (md 28), .int 0, .int 0, .int 0, .int 0, .int 0, .int 0, .int 0, .int 0, .int 0, .int 0, .int 0, .ref (md 40), .ref (md 41), .int 0, .int 0, .ref (md 44), .int 0, .int 0, .ref (md 47), .ref (md 48), .int 0, .ref (md 50), .ref (md 51), .ref (md 52), .ref (md 53), .ref (md 54), .int 0, .int 0, .ref (md 57), .ref (md 58)])), (md 40, .inl (cyI, 520, .inl g))] := hD
  rcases qu2391 with ⟨rfl, b2392⟩ | ⟨rfl, b2393, b2394⟩ | ⟨rfl, b2395, b2396⟩
  · skip
    refine lv_if_eq (tgt := 26) hx hb dX7_will_7 (by decide) (fun _ => ?_) (fun c2397 => absurd (by decide) c2397)
    refine lv_iconst (v := (-1)) hx hb dX7_will_26 (by decide) ?_
    exact W.iret (v := (-1)) hx hb hr (fun t ht hW => ⟨⟨(-1), (), rfl, rfl, cE.nil⟩, hS.F ht⟩) hS.2.2 dX7_will_27
  · skip
    refine lv_if_eq (tgt := 26) hx hb dX7_will_7 (by decide) (fun _ => ?_) (fun c2398 => absurd (by decide) c2398)
    refine lv_iconst (v := (-1)) hx hb dX7_will_26 (by decide) ?_
    exact W.iret (v := (-1)) hx hb hr (fun t ht hW => ⟨⟨(-1), (), rfl, rfl, cE.nil⟩, hS.F ht⟩) hS.2.2 dX7_will_27
  · skip
    refine lv_if_eq (tgt := 26) hx hb dX7_will_7 (by decide) (fun c2399 => absurd c2399 (by decide)) (fun _ => ?_)
    refine lv_iload_n hx hb dX7_will_10 rfl (lv_at hl 2 rfl) ?_
    refine lv_iconst (v := 0) hx hb dX7_will_11 (by decide) ?_
    refine lv_iconst (v := 1) hx hb dX7_will_12 (by decide) ?_
    refine gf_i (wr := [(h1, .inr (7, [.ref (md 0), .ref (md 1), .int 0, .int 0, .int 0, .int (-1), .int 0, .int 0, .int 0, .int 0, .long 0, .ref (md 11), .ref (md 12), .ref (md 13), .ref (md 14), .ref (md 15), .ref (md 16), .ref (md 17), .ref (md 18), .ref (md 19), .ref (md 20), .ref (md 21), .ref (md 22), .ref (md 23), .ref (md 24), .ref (md 25), .ref (md 26), .ref (md 27), .ref (md 28), .int 0, .int 0, .int 0, .int 0, .int 0, .int 0, .int 0, .int 0, .int 0, .int 0, .int 0, .ref (md 40), .ref (md 41), .int 0, .int 0, .ref (md 44), .int 0, .int 0, .ref (md 47), .ref (md 48), .int 0, .ref (md 50), .ref (md 51), .ref (md 52), .ref (md 53), .ref (md 54), .int 0, .int 0, .ref (md 57), .ref (md 58)])), (md 40, .inl (cyI, 520, .inl g))]) (va_runS (As := [.int x2, .int 0, .int 1]) (rest := []) hfix (k_X7_isIn_v4 l dC dI cyB cyI cyJ cyZ cyO x2 _) (va_cwS 3 hts (gi_S (ow_m (k := 0) rfl) (ow_m (k := 1) rfl) (ow_m (k := 2) rfl) (sb_c (sb_r sb_l)) gd_k_X7_isIn_v4) rfl rfl rfl (by decide +kernel) ⟨Nat.le_of_ble_eq_true rfl, Nat.le_of_ble_eq_true rfl⟩) (g_preS hKN hP hD [] rfl (by decide)) rfl rfl hl.1 rfl (lv_room (Nat.le_of_ble_eq_true rfl)) dX7_will_13 ⟨Nat.le_of_ble_eq_true rfl, Nat.le_of_ble_eq_true rfl⟩) hP hD hS hA [] [0, 1] rfl rfl (by decide) (by decide) (fun r2402 u2403 H locs qu2403 hP hD hS => ?_)
    have hP : va_P (dC, dI) vwCl [(h1, .inr (7, [.ref (md 0), .ref (md 1), .int 0, .int 0, .int 0, .int (-1), .int 0, .int 0, .int 0, .int 0, .long 0, .ref (md 11), .ref (md 12), .ref (md 13), .ref (md 14), .ref (md 15), .ref (md 16), .ref (md 17), .ref (md 18), .ref (md 19), .ref (md 20), .ref (md 21), .ref (md 22), .ref (md 23), .ref (md 24), .ref (md 25), .ref (md 26), .ref (md 27), .ref (md 28), .int 0, .int 0, .int 0, .int 0, .int 0, .int 0, .int 0, .int 0, .int 0, .int 0, .int 0, .ref (md 40), .ref (md 41), .int 0, .int 0, .ref (md 44), .int 0, .int 0, .ref (md 47), .ref (md 48), .int 0, .ref (md 50), .ref (md 51), .ref (md 52), .ref (md 53), .ref (md 54), .int 0, .int 0, .ref (md 57), .ref (md 58)])), (md 40, .inl (cyI, 520, .inl g))] H := hP
    have hD : va_D A [(h1, .inr (7, [.ref (md 0), .ref (md 1), .int 0, .int 0, .int 0, .int (-1), .int 0, .int 0, .int 0, .int 0, .long 0, .ref (md 11), .ref (md 12), .ref (md 13), .ref (md 14), .ref (md 15), .ref (md 16), .ref (md 17), .ref (md 18), .ref (md 19), .ref (md 20), .ref (md 21), .ref (md 22), .ref (md 23), .ref (md 24), .ref (md 25), .ref (md 26), .ref (md 27), .ref (md 28), .int 0, .int 0, .int 0, .int 0, .int 0, .int 0, .int 0, .int 0, .int 0, .int 0, .int 0, .ref (md 40), .ref (md 41), .int 0, .int 0, .ref (md 44), .int 0, .int 0, .ref (md 47), .ref (md 48), .int 0, .ref (md 50), .ref (md 51), .ref (md 52), .ref (md 53), .ref (md 54), .int 0, .int 0, .ref (md 57), .ref (md 58)])), (md 40, .inl (cyI, 520, .inl g))] := hD
    rcases qu2403 with ⟨rfl, b2404⟩ | ⟨rfl, b2405, b2406⟩ | ⟨rfl, b2407, b2408⟩
    · skip
      refine lv_if_eq (tgt := 26) hx hb dX7_will_16 (by decide) (fun _ => ?_) (fun c2409 => absurd (by decide) c2409)
      refine lv_iconst (v := (-1)) hx hb dX7_will_26 (by decide) ?_
      exact W.iret (v := (-1)) hx hb hr (fun t ht hW => ⟨⟨(-1), (), rfl, rfl, cE.nil⟩, hS.F ht⟩) hS.2.2 dX7_will_27
    · skip
      refine lv_if_eq (tgt := 26) hx hb dX7_will_16 (by decide) (fun _ => ?_) (fun c2410 => absurd (by decide) c2410)
      refine lv_iconst (v := (-1)) hx hb dX7_will_26 (by decide) ?_
      exact W.iret (v := (-1)) hx hb hr (fun t ht hW => ⟨⟨(-1), (), rfl, rfl, cE.nil⟩, hS.F ht⟩) hS.2.2 dX7_will_27
    · skip
      refine lv_if_eq (tgt := 26) hx hb dX7_will_16 (by decide) (fun c2411 => absurd c2411 (by decide)) (fun _ => ?_)
      refine lv_aload_n hx hb dX7_will_19 rfl (lv_at hl 0 rfl) ?_
      refine gf_i (wr := []) (va_runV (As := []) (rest := []) hfix (k_X7_lots_v5 l dC dI cyB cyI cyJ cyZ cyO h1 md g _ hg) (cwV 0 hts (gi_V (ow_m (k := 3) rfl) (ow_m (k := 4) rfl) (ow_m (k := 5) rfl) (ow_m (k := 2) rfl) (sb_c (sb_r (sb_r sb_l))) gd_k_X7_lots_v5) rfl rfl rfl (by decide +kernel) ⟨Nat.le_of_ble_eq_true rfl, Nat.le_of_ble_eq_true rfl⟩) (g_preV hKN hP hD [0, 1] rfl (by decide) 0 7 rfl rfl) rfl rfl hl.1 rfl (lv_room (Nat.le_of_ble_eq_true rfl)) dX7_will_20 ⟨Nat.le_of_ble_eq_true rfl, Nat.le_of_ble_eq_true rfl⟩) hP hD hS hA [0, 1] [] rfl rfl (by decide) (by decide) (fun r2412 u2413 H locs qu2413 hP hD hS => ?_)
      have hP : va_P (dC, dI) vwCl [(h1, .inr (7, [.ref (md 0), .ref (md 1), .int 0, .int 0, .int 0, .int (-1), .int 0, .int 0, .int 0, .int 0, .long 0, .ref (md 11), .ref (md 12), .ref (md 13), .ref (md 14), .ref (md 15), .ref (md 16), .ref (md 17), .ref (md 18), .ref (md 19), .ref (md 20), .ref (md 21), .ref (md 22), .ref (md 23), .ref (md 24), .ref (md 25), .ref (md 26), .ref (md 27), .ref (md 28), .int 0, .int 0, .int 0, .int 0, .int 0, .int 0, .int 0, .int 0, .int 0, .int 0, .int 0, .ref (md 40), .ref (md 41), .int 0, .int 0, .ref (md 44), .int 0, .int 0, .ref (md 47), .ref (md 48), .int 0, .ref (md 50), .ref (md 51), .ref (md 52), .ref (md 53), .ref (md 54), .int 0, .int 0, .ref (md 57), .ref (md 58)])), (md 40, .inl (cyI, 520, .inl g))] H := hP
      have hD : va_D A [(h1, .inr (7, [.ref (md 0), .ref (md 1), .int 0, .int 0, .int 0, .int (-1), .int 0, .int 0, .int 0, .int 0, .long 0, .ref (md 11), .ref (md 12), .ref (md 13), .ref (md 14), .ref (md 15), .ref (md 16), .ref (md 17), .ref (md 18), .ref (md 19), .ref (md 20), .ref (md 21), .ref (md 22), .ref (md 23), .ref (md 24), .ref (md 25), .ref (md 26), .ref (md 27), .ref (md 28), .int 0, .int 0, .int 0, .int 0, .int 0, .int 0, .int 0, .int 0, .int 0, .int 0, .int 0, .ref (md 40), .ref (md 41), .int 0, .int 0, .ref (md 44), .int 0, .int 0, .ref (md 47), .ref (md 48), .int 0, .ref (md 50), .ref (md 51), .ref (md 52), .ref (md 53), .ref (md 54), .int 0, .int 0, .ref (md 57), .ref (md 58)])), (md 40, .inl (cyI, 520, .inl g))] := hD
      refine tp_c (w := 0) qu2413 ?_
      refine lv_if_ne (tgt := 28) hx hb dX7_will_23 (by decide) (fun c2414 => absurd (by decide) c2414) (fun _ => ?_)
      refine lv_iconst (v := (-1)) hx hb dX7_will_26 (by decide) ?_
      exact W.iret (v := (-1)) hx hb hr (fun t ht hW => ⟨⟨(-1), (), rfl, rfl, cE.nil⟩, hS.F ht⟩) hS.2.2 dX7_will_27
def wo_c_M_when : List Cond := [.methodLink RX7 313 yX7_lots, .instanceMethod yX7_lots, .selects RX7 yX7_lots yX7_lots, .initialized RX7]
def wq_c_M_when : List Cond := .code yX7_when cX7_when 3 (some .int) :: (wo_c_M_when ++ (wq_k_X7_lots_v5 ++ []))
theorem gd_c_M_when : Gd wq_c_M_when := gd_c (gd_a (gd_o (by decide +kernel)) (gd_a gd_k_X7_lots_v5 gd_0))
abbrev wc_c_M_when (cyB cyI cyJ cyZ cyO : ClassId) (h1 : Nat) (md : Nat → Nat) (g : Nat → Int32) (x1 : Int32) : va_W := [(h1, .inr (7, [.ref (md 0), .ref (md 1), .int 0, .int 0, .int 0, .int (-1), .int 0, .int 0, .int 0, .int 0, .long 0, .ref (md 11), .ref (md 12), .ref (md 13), .ref (md 14), .ref (md 15), .ref (md 16), .ref (md 17), .ref (md 18), .ref (md 19), .ref (md 20), .ref (md 21), .ref (md 22), .ref (md 23), .ref (md 24), .ref (md 25), .ref (md 26), .ref (md 27), .ref (md 28), .int 0, .int 0, .int 0, .int 0, .int 0, .int 0, .int 0, .int 0, .int 0, .int 0, .int 0, .ref (md 40), .ref (md 41), .int 0, .int 0, .ref (md 44), .int 0, .int 0, .ref (md 47), .ref (md 48), .int 0, .ref (md 50), .ref (md 51), .ref (md 52), .ref (md 53), .ref (md 54), .int 0, .int 0, .ref (md 57), .ref (md 58)])), (md 40, .inl (cyI, 520, .inl g))]
set_option maxHeartbeats 4000000 in
set_option maxRecDepth 100000 in
theorem c_M_when (l : Launch) (dC : Nat → ClassId) (dI : Nat → Nat → Nat) (cyB cyI cyJ cyZ cyO : ClassId) (h1 : Nat) (md : Nat → Nat) (g : Nat → Int32) (x1 : Int32) (sz : Nat) (hg : AllZ g) : Met l yX7_when wq_c_M_when ({ frames := 1, cells := 0, slots := 0, locals := 20 }) (va_Pc [.ref h1, .int x1] (cB (dC, dI) (kT cyB cyI cyJ cyZ cyO) (wc_c_M_when cyB cyI cyJ cyZ cyO h1 md g x1) sz)) (va_Qi (fun (r : Int32) (_ : Unit) => r = -1) (fun (u : Unit) t => cE (dC, dI) (va_A (wc_c_M_when cyB cyI cyJ cyZ cyO h1 md g x1) sz) ([]) t.heap) (va_A (wc_c_M_when cyB cyI cyJ cyZ cyO h1 md g x1) sz)) 0 0 (va_A (wc_c_M_when cyB cyI cyJ cyZ cyO h1 md g x1) sz) := by
  refine Met.ofW (cc := cX7_when) (maxL := 3) (ret := (some .int)) (by decide) rfl ?_
  intro p e s m args below meth c s₁ B hml hv
  obtain ⟨rfl, hsz, hP, hKN, hD0⟩ := hv
  have hx := B.exec
  have hb := B.bytes
  have hr := B.returns
  have hts := atoms_spec (ws := wq_c_M_when) B.pre
  have hown : s.vm.findClass RX7 = some m.cls := findClass_of_methodNamed B.named
  have hlocks := B.notSynchronized
  have hK := hKN.1
  have hfix : CallFix p m c cX7_when 3 s [.ref h1, .int x1].toArray wq_c_M_when RX7 := ⟨hx, hb, hml, hown, hts⟩
  subst hsz
  have hD := hD0.self (sz := s.heap.size)
  generalize hAe : va_A (wc_c_M_when cyB cyI cyJ cyZ cyO h1 md g x1) s.heap.size = A at hD ⊢
  have hA : ∀ q : Nat, s.heap.size ≤ q → A q := fun q h => by rw [← hAe]; exact Or.inr h
  have hS : va_S A s.heap s.heap [] := va_S.rf
  have hl := lv_entry ([.ref h1, .int x1]) (n := 3) (Nat.le_of_ble_eq_true rfl)
  rw [lg_entry_eq]
  generalize (lg_sl ([.ref h1, .int x1]) ++ List.replicate (3 - (lg_sl ([.ref h1, .int x1])).length) Slot.unset).toArray = ls at hl ⊢
  have hl : lv_has ls 3 [(0, .ref h1), (1, .int x1)] := hl
  refine lv_aload_n hx hb dX7_when_0 rfl (lv_at hl 0 rfl) ?_
  refine gf_i (wr := []) (va_runV (As := []) (rest := []) hfix (k_X7_lots_v5 l dC dI cyB cyI cyJ cyZ cyO h1 md g _ hg) (cwV 0 hts (gi_V (ow_m (k := 0) rfl) (ow_m (k := 1) rfl) (ow_m (k := 2) rfl) (ow_m (k := 3) rfl) (sb_c sb_l) gd_k_X7_lots_v5) rfl rfl rfl (by decide +kernel) ⟨Nat.le_of_ble_eq_true rfl, Nat.le_of_ble_eq_true rfl⟩) (g_preV hKN hP hD [0, 1] rfl (by decide) 0 7 rfl rfl) rfl rfl hl.1 rfl (lv_room (Nat.le_of_ble_eq_true rfl)) dX7_when_1 ⟨Nat.le_of_ble_eq_true rfl, Nat.le_of_ble_eq_true rfl⟩) hP hD hS hA [0, 1] [] rfl rfl (by decide) (by decide) (fun r2418 u2419 H locs qu2419 hP hD hS => ?_)
  have hP : va_P (dC, dI) vwCl [(h1, .inr (7, [.ref (md 0), .ref (md 1), .int 0, .int 0, .int 0, .int (-1), .int 0, .int 0, .int 0, .int 0, .long 0, .ref (md 11), .ref (md 12), .ref (md 13), .ref (md 14), .ref (md 15), .ref (md 16), .ref (md 17), .ref (md 18), .ref (md 19), .ref (md 20), .ref (md 21), .ref (md 22), .ref (md 23), .ref (md 24), .ref (md 25), .ref (md 26), .ref (md 27), .ref (md 28), .int 0, .int 0, .int 0, .int 0, .int 0, .int 0, .int 0, .int 0, .int 0, .int 0, .int 0, .ref (md 40), .ref (md 41), .int 0, .int 0, .ref (md 44), .int 0, .int 0, .ref (md 47), .ref (md 48), .int 0, .ref (md 50), .ref (md 51), .ref (md 52), .ref (md 53), .ref (md 54), .int 0, .int 0, .ref (md 57), .ref (md 58)])), (md 40, .inl (cyI, 520, .inl g))] H := hP
  have hD : va_D A [(h1, .inr (7, [.ref (md 0), .ref (md 1), .int 0, .int 0, .int 0, .int (-1), .int 0, .int 0, .int 0, .int 0, .long 0, .ref (md 11), .ref (md 12), .ref (md 13), .ref (md 14), .ref (md 15), .ref (md 16), .ref (md 17), .ref (md 18), .ref (md 19), .ref (md 20), .ref (md 21), .ref (md 22), .ref (md 23), .ref (md 24), .ref (md 25), .ref (md 26), .ref (md 27), .ref (md 28), .int 0, .int 0, .int 0, .int 0, .int 0, .int 0, .int 0, .int 0, .int 0, .int 0, .int 0, .ref (md 40), .ref (md 41), .int 0, .int 0, .ref (md 44), .int 0, .int 0, .ref (md 47), .ref (md 48), .int 0, .ref (md 50), .ref (md 51), .ref (md 52), .ref (md 53), .ref (md 54), .int 0, .int 0, .ref (md 57), .ref (md 58)])), (md 40, .inl (cyI, 520, .inl g))] := hD
  refine tp_c (w := 0) qu2419 ?_
  refine lv_if_eq (tgt := 20) hx hb dX7_when_4 (by decide) (fun _ => ?_) (fun c2420 => absurd (by decide) c2420)
  refine lv_iconst (v := (-1)) hx hb dX7_when_20 (by decide) ?_
  exact W.iret (v := (-1)) hx hb hr (fun t ht hW => ⟨⟨(-1), (), rfl, rfl, cE.nil⟩, hS.F ht⟩) hS.2.2 dX7_when_21
def wo_k_X7_keepNow : List Cond := [.fieldLink RX7 79 "ReplicaChainModel" "kept" "[I", .fieldLink RX7 76 "ReplicaChainModel" "all" "[I"]
def wq_k_X7_keepNow : List Cond := .code yX7_keepNow cX7_keepNow 2 none :: (wo_k_X7_keepNow ++ (wsX70 ++ []))
theorem gd_k_X7_keepNow : Gd wq_k_X7_keepNow := gd_c (gd_a (gd_o (by decide +kernel)) (gd_a gd_u gd_0))
abbrev wc_k_X7_keepNow (cyB cyI cyJ cyZ cyO : ClassId) (h1 : Nat) (md : Nat → Nat) (g : Nat → Int32) : va_W := [(h1, .inr (7, [.ref (md 0), .ref (md 1), .int 0, .int 0, .int 0, .int (-1), .int 0, .int 0, .int 0, .int 0, .long 0, .ref (md 11), .ref (md 12), .ref (md 13), .ref (md 14), .ref (md 15), .ref (md 16), .ref (md 17), .ref (md 18), .ref (md 19), .ref (md 20), .ref (md 21), .ref (md 22), .ref (md 23), .ref (md 24), .ref (md 25), .ref (md 26), .ref (md 27), .ref (md 28), .int 0, .int 0, .int 0, .int 0, .int 0, .int 0, .int 0, .int 0, .int 0, .int 0, .int 0, .ref (md 40), .ref (md 41), .int 0, .int 0, .ref (md 44), .int 0, .int 0, .ref (md 47), .ref (md 48), .int 0, .ref (md 50), .ref (md 51), .ref (md 52), .ref (md 53), .ref (md 54), .int 0, .int 0, .ref (md 57), .ref (md 58)])), (md 40, .inl (cyI, 520, .inl g)), (md 41, .inl (cyI, 520, .inl (fun _ => 0)))]
set_option maxHeartbeats 4000000 in
set_option maxRecDepth 100000 in
theorem k_X7_keepNow (l : Launch) (dC : Nat → ClassId) (dI : Nat → Nat → Nat) (cyB cyI cyJ cyZ cyO : ClassId) (h1 : Nat) (md : Nat → Nat) (g : Nat → Int32) (sz : Nat) (hg : AllZ g) : Met l yX7_keepNow wq_k_X7_keepNow ({ frames := 0, cells := 0, slots := 0, locals := 0 }) (va_Pc [.ref h1] (cB (dC, dI) (kT cyB cyI cyJ cyZ cyO) (wc_k_X7_keepNow cyB cyI cyJ cyZ cyO h1 md g) sz)) (va_Qv (fun _ => True) (fun (u : Nat → Nat → Int32) t => cE (dC, dI) (va_A (wc_k_X7_keepNow cyB cyI cyJ cyZ cyO h1 md g) sz) ([(h1, .inr (7, [.ref (md 0), .ref (md 1), .int 0, .int 0, .int 0, .int (-1), .int 0, .int 0, .int 0, .int 0, .long 0, .ref (md 11), .ref (md 12), .ref (md 13), .ref (md 14), .ref (md 15), .ref (md 16), .ref (md 17), .ref (md 18), .ref (md 19), .ref (md 20), .ref (md 21), .ref (md 22), .ref (md 23), .ref (md 24), .ref (md 25), .ref (md 26), .ref (md 27), .ref (md 28), .int 0, .int 0, .int 0, .int 0, .int 0, .int 0, .int 0, .int 0, .int 0, .int 0, .int 0, .ref (md 40), .ref (md 41), .int 0, .int 0, .ref (md 44), .int 0, .int 0, .ref (md 47), .ref (md 48), .int 0, .ref (md 50), .ref (md 51), .ref (md 52), .ref (md 53), .ref (md 54), .int 0, .int 0, .ref (md 57), .ref (md 58)])), (md 40, .inl (cyI, 520, .inl g)), (md 41, .inl (cyI, 520, .inl (u 0)))]) t.heap) (va_A (wc_k_X7_keepNow cyB cyI cyJ cyZ cyO h1 md g) sz)) 0 0 (va_A (wc_k_X7_keepNow cyB cyI cyJ cyZ cyO h1 md g) sz) := by
  refine Met.ofW (cc := cX7_keepNow) (maxL := 2) (ret := none) (by decide) rfl ?_
  intro p e s m args below meth c s₁ B hml hv
  obtain ⟨rfl, hsz, hP, hKN, hD0⟩ := hv
  have hx := B.exec
  have hb := B.bytes
  have hr := B.returns
  have hts := atoms_spec (ws := wq_k_X7_keepNow) B.pre
  have hown : s.vm.findClass RX7 = some m.cls := findClass_of_methodNamed B.named
  have hlocks := B.notSynchronized
  have hK := hKN.1
  have hfix : CallFix p m c cX7_keepNow 2 s [.ref h1].toArray wq_k_X7_keepNow RX7 := ⟨hx, hb, hml, hown, hts⟩
  have hi7 : ∀ w ∈ wsX70, w ∈ wq_k_X7_keepNow := (sb_c sb_l)
  subst hsz
  have hD := hD0.self (sz := s.heap.size)
  generalize hAe : va_A (wc_k_X7_keepNow cyB cyI cyJ cyZ cyO h1 md g) s.heap.size = A at hD ⊢
  have hA : ∀ q : Nat, s.heap.size ≤ q → A q := fun q h => by rw [← hAe]; exact Or.inr h
  have hS : va_S A s.heap s.heap [] := va_S.rf
  have hl := lv_entry ([.ref h1]) (n := 2) (Nat.le_of_ble_eq_true rfl)
  rw [lg_entry_eq]
  generalize (lg_sl ([.ref h1]) ++ List.replicate (2 - (lg_sl ([.ref h1])).length) Slot.unset).toArray = ls at hl ⊢
  have hl : lv_has ls 2 [(0, .ref h1)] := hl
  refine lv_iconst (v := 0) hx hb dX7_keepNow_0 (by decide) ?_
  refine lv_istore_n (lv' := [(1, .int 0), (0, .ref h1)]) hx hb dX7_keepNow_1 rfl hl (by decide) rfl (fun ls hl => ?_)
  refine w_gen (fun H locs ls hP hS hl => ?_) hP hS hl
  obtain ⟨k, hk, hl2⟩ : ∃ k : Nat, k + 520 = 520 ∧ lv_has ls 2 [(1, .int (nI k)), (0, .ref h1)] := ⟨0, Nat.zero_add _, hl⟩
  obtain ⟨n, hkn⟩ : ∃ n : Nat, k + n = 520 := ⟨520, hk⟩
  obtain ⟨f2426, hP2, hD2⟩ : ∃ (f2426 : Nat → Int32), va_P (dC, dI) vwCl [(h1, .inr (7, [.ref (md 0), .ref (md 1), .int 0, .int 0, .int 0, .int (-1), .int 0, .int 0, .int 0, .int 0, .long 0, .ref (md 11), .ref (md 12), .ref (md 13), .ref (md 14), .ref (md 15), .ref (md 16), .ref (md 17), .ref (md 18), .ref (md 19), .ref (md 20), .ref (md 21), .ref (md 22), .ref (md 23), .ref (md 24), .ref (md 25), .ref (md 26), .ref (md 27), .ref (md 28), .int 0, .int 0, .int 0, .int 0, .int 0, .int 0, .int 0, .int 0, .int 0, .int 0, .int 0, .ref (md 40), .ref (md 41), .int 0, .int 0, .ref (md 44), .int 0, .int 0, .ref (md 47), .ref (md 48), .int 0, .ref (md 50), .ref (md 51), .ref (md 52), .ref (md 53), .ref (md 54), .int 0, .int 0, .ref (md 57), .ref (md 58)])), (md 40, .inl (cyI, 520, .inl g)), (md 41, .inl (cyI, 520, .inl f2426))] H ∧ va_D A [(h1, .inr (7, [.ref (md 0), .ref (md 1), .int 0, .int 0, .int 0, .int (-1), .int 0, .int 0, .int 0, .int 0, .long 0, .ref (md 11), .ref (md 12), .ref (md 13), .ref (md 14), .ref (md 15), .ref (md 16), .ref (md 17), .ref (md 18), .ref (md 19), .ref (md 20), .ref (md 21), .ref (md 22), .ref (md 23), .ref (md 24), .ref (md 25), .ref (md 26), .ref (md 27), .ref (md 28), .int 0, .int 0, .int 0, .int 0, .int 0, .int 0, .int 0, .int 0, .int 0, .int 0, .int 0, .ref (md 40), .ref (md 41), .int 0, .int 0, .ref (md 44), .int 0, .int 0, .ref (md 47), .ref (md 48), .int 0, .ref (md 50), .ref (md 51), .ref (md 52), .ref (md 53), .ref (md 54), .int 0, .int 0, .ref (md 57), .ref (md 58)])), (md 40, .inl (cyI, 520, .inl g)), (md 41, .inl (cyI, 520, .inl f2426))] := ⟨_, hP, hD⟩
  clear hk hP hl
  have hP := hP2
  have hD := hD2
  have hl := hl2
  clear hP2 hD2 hl2
  induction n generalizing k f2426 H locs ls with
  | zero =>
    obtain rfl : k = 520 := by omega
    refine lv_iload_n hx hb dX7_keepNow_2 rfl (lv_at hl 0 rfl) ?_
    refine lv_sipush (v := 520) hx hb dX7_keepNow_3 (by decide) ?_
    refine lv_icmp_ge (tgt := 27) hx hb dX7_keepNow_6 (by decide) (fun _ => ?_) (fun c2427 => absurd (by decide) c2427)
    exact W.vret hx hb hr (fun t ht hW => ⟨⟨(fun _ => f2426), rfl, trivial, cE.of ht hP hD [0, 1, 2] (by decide) rfl⟩, hS.F ht⟩) hS.2.2 dX7_keepNow_27
  | succ n ih =>
    refine lv_iload_n hx hb dX7_keepNow_2 rfl (lv_at hl 0 rfl) ?_
    refine lv_sipush (v := 520) hx hb dX7_keepNow_3 (by decide) ?_
    refine lv_icmp_ge (tgt := 27) hx hb dX7_keepNow_6 (by decide) (fun c2428 => ?_) (fun c2428 => ?_)
    · have c2428 := i_le (a := 520) (b := (k : Int)) c2428 (by decide) (nI_toInt (by omega))
      exfalso; omega
    · have c2428 := i_nle (a := 520) (b := (k : Int)) c2428 (by decide) (nI_toInt (by omega))
      refine lv_aload_n hx hb dX7_keepNow_9 rfl (lv_at hl 1 rfl) ?_
      refine va_get (D := (dC, dI)) (ci := 7) (v := .ref (md 41)) (C := RX7) (T := TX7) (N := 59) hx hb hts hi7 hown hK hP 0 rfl rfl 41 (by decide) (hts _ (ow_m (k := 0) rfl)) (fun _ h9 => h9) rfl dX7_keepNow_10 ?_
      refine lv_iload_n hx hb dX7_keepNow_13 rfl (lv_at hl 0 rfl) ?_
      refine lv_aload_n hx hb dX7_keepNow_14 rfl (lv_at hl 1 rfl) ?_
      refine va_get (D := (dC, dI)) (ci := 7) (v := .ref (md 40)) (C := RX7) (T := TX7) (N := 59) hx hb hts hi7 hown hK hP 0 rfl rfl 40 (by decide) (hts _ (ow_m (k := 1) rfl)) (fun _ h9 => h9) rfl dX7_keepNow_15 ?_
      refine lv_iload_n hx hb dX7_keepNow_18 rfl (lv_at hl 0 rfl) ?_
      refine va_iald hx hb hK hP 1 1 rfl rfl (vp_i (nI_toInt (by omega)) (by omega) (by omega)) dX7_keepNow_19 ?_
      refine lv_topi (fun z2429 ez2429 => ?_)
      refine va_iast hx hb hK hP hD hS 2 1 rfl rfl (vp_i (nI_toInt (by omega)) (by omega) (by omega)) dX7_keepNow_20 (fun H locs hP hD hS => ?_)
      have hP : va_P (dC, dI) vwCl [(h1, .inr (7, [.ref (md 0), .ref (md 1), .int 0, .int 0, .int 0, .int (-1), .int 0, .int 0, .int 0, .int 0, .long 0, .ref (md 11), .ref (md 12), .ref (md 13), .ref (md 14), .ref (md 15), .ref (md 16), .ref (md 17), .ref (md 18), .ref (md 19), .ref (md 20), .ref (md 21), .ref (md 22), .ref (md 23), .ref (md 24), .ref (md 25), .ref (md 26), .ref (md 27), .ref (md 28), .int 0, .int 0, .int 0, .int 0, .int 0, .int 0, .int 0, .int 0, .int 0, .int 0, .int 0, .ref (md 40), .ref (md 41), .int 0, .int 0, .ref (md 44), .int 0, .int 0, .ref (md 47), .ref (md 48), .int 0, .ref (md 50), .ref (md 51), .ref (md 52), .ref (md 53), .ref (md 54), .int 0, .int 0, .ref (md 57), .ref (md 58)])), (md 40, .inl (cyI, 520, .inl g)), (md 41, .inl (cyI, 520, .inl (upd f2426 (nI k).toNatClampNeg z2429)))] H := hP
      have hD : va_D A [(h1, .inr (7, [.ref (md 0), .ref (md 1), .int 0, .int 0, .int 0, .int (-1), .int 0, .int 0, .int 0, .int 0, .long 0, .ref (md 11), .ref (md 12), .ref (md 13), .ref (md 14), .ref (md 15), .ref (md 16), .ref (md 17), .ref (md 18), .ref (md 19), .ref (md 20), .ref (md 21), .ref (md 22), .ref (md 23), .ref (md 24), .ref (md 25), .ref (md 26), .ref (md 27), .ref (md 28), .int 0, .int 0, .int 0, .int 0, .int 0, .int 0, .int 0, .int 0, .int 0, .int 0, .int 0, .ref (md 40), .ref (md 41), .int 0, .int 0, .ref (md 44), .int 0, .int 0, .ref (md 47), .ref (md 48), .int 0, .ref (md 50), .ref (md 51), .ref (md 52), .ref (md 53), .ref (md 54), .int 0, .int 0, .ref (md 57), .ref (md 58)])), (md 40, .inl (cyI, 520, .inl g)), (md 41, .inl (cyI, 520, .inl (upd f2426 (nI k).toNatClampNeg z2429)))] := hD
      generalize upd f2426 (nI k).toNatClampNeg z2429 = f2430 at hP hD
      refine lv_iinc (v := nI (k + 1)) (lv' := [(1, .int (nI (k + 1))), (0, .ref h1)]) hx hb dX7_keepNow_21 hl (k := 0) rfl (nI_1 k) (by decide) rfl (fun ls hl => ?_)
      refine lv_goto (tgt := 2) hx hb dX7_keepNow_24 (by decide) ?_
      have hl := lv_sub (l' := [(1, .int (nI (k + 1))), (0, .ref h1)]) hl [0, 1] rfl
      apply ih (k := k + 1) (f2426 := f2430) <;> first | assumption | omega
