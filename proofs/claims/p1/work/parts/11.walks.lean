def wo_c_C_row : List Cond := [.fieldLink RX6 110 "ReplicaChain" "now" "LReplicaChain$State;", .fieldLink RX6 157 "ReplicaChain$State" "size" "I"]
def wq_c_C_row : List Cond := .code yX6_row cX6_row 2 (some .int) :: (wo_c_C_row ++ (wsX50 ++ (wsX60 ++ [])))
theorem gd_c_C_row : Gd wq_c_C_row := gd_c (gd_a (gd_o (by decide +kernel)) (gd_a gd_u (gd_a gd_u gd_0)))
abbrev wc_c_C_row (cyB cyI cyJ cyZ cyO : ClassId) (h0 : Nat) (ad : Nat → Nat) (sd : Nat → Nat) (x1 : Int32) : va_W := [(h0, .inr (6, [.ref (ad 0), .int 0, .ref (ad 2), .ref (ad 3), .ref (ad 4), .ref (ad 5), .ref (ad 6), .int 0, .int 0, .ref (ad 9), .ref (ad 10), .ref (ad 11), .ref (ad 12), .ref (ad 13), .int 0, .ref (ad 15), .int 0, .ref (ad 17), .ref (ad 18), .int 0])), (ad 9, .inr (5, [.ref (sd 0), .ref (sd 1), .ref (sd 2), .ref (sd 3), .ref (sd 4), .ref (sd 5), .ref (sd 6), .int 0, .int (-1), .int 0, .int 0, .int 0, .int 0]))]
set_option maxHeartbeats 4000000 in
set_option maxRecDepth 100000 in
theorem c_C_row (l : Launch) (dC : Nat → ClassId) (dI : Nat → Nat → Nat) (cyB cyI cyJ cyZ cyO : ClassId) (h0 : Nat) (ad : Nat → Nat) (sd : Nat → Nat) (x1 : Int32) (sz : Nat) : Met l yX6_row wq_c_C_row ({ frames := 0, cells := 0, slots := 0, locals := 0 }) (va_Pc [.ref h0, .int x1] (cB (dC, dI) (kT cyB cyI cyJ cyZ cyO) (wc_c_C_row cyB cyI cyJ cyZ cyO h0 ad sd x1) sz)) (va_Qi (fun (r : Int32) (_ : Unit) => r = -1) (fun (u : Unit) t => cE (dC, dI) (va_A (wc_c_C_row cyB cyI cyJ cyZ cyO h0 ad sd x1) sz) ([]) t.heap) (va_A (wc_c_C_row cyB cyI cyJ cyZ cyO h0 ad sd x1) sz)) 0 0 (va_A (wc_c_C_row cyB cyI cyJ cyZ cyO h0 ad sd x1) sz) := by
  refine Met.ofW (cc := cX6_row) (maxL := 2) (ret := (some .int)) (by decide) rfl ?_
  intro p e s m args below meth c s₁ B hml hv
  obtain ⟨rfl, hsz, hP, hKN, hD0⟩ := hv
  have hx := B.exec
  have hb := B.bytes
  have hr := B.returns
  have hts := atoms_spec (ws := wq_c_C_row) B.pre
  have hown : s.vm.findClass RX6 = some m.cls := findClass_of_methodNamed B.named
  have hlocks := B.notSynchronized
  have hK := hKN.1
  have hfix : CallFix p m c cX6_row 2 s [.ref h0, .int x1].toArray wq_c_C_row RX6 := ⟨hx, hb, hml, hown, hts⟩
  have hi5 : ∀ w ∈ wsX50, w ∈ wq_c_C_row := (sb_c sb_l)
  have hi6 : ∀ w ∈ wsX60, w ∈ wq_c_C_row := (sb_c (sb_r sb_l))
  subst hsz
  have hD := hD0.self (sz := s.heap.size)
  generalize hAe : va_A (wc_c_C_row cyB cyI cyJ cyZ cyO h0 ad sd x1) s.heap.size = A at hD ⊢
  have hA : ∀ q : Nat, s.heap.size ≤ q → A q := fun q h => by rw [← hAe]; exact Or.inr h
  have hS : va_S A s.heap s.heap [] := va_S.rf
  have hl := lv_entry ([.ref h0, .int x1]) (n := 2) (Nat.le_of_ble_eq_true rfl)
  rw [lg_entry_eq]
  generalize (lg_sl ([.ref h0, .int x1]) ++ List.replicate (2 - (lg_sl ([.ref h0, .int x1])).length) Slot.unset).toArray = ls at hl ⊢
  have hl : lv_has ls 2 [(0, .ref h0), (1, .int x1)] := hl
  refine lv_iload_n hx hb dX6_row_0 rfl (lv_at hl 1 rfl) ?_
  refine lv_if_lt (tgt := 15) hx hb dX6_row_1 (by decide) (fun c591 => ?_) (fun c591 => ?_)
  · have c591 := i_lt (a := x1.toInt) (b := 0) c591 rfl (by decide)
    refine lv_iconst (v := (-1)) hx hb dX6_row_15 (by decide) ?_
    refine lv_goto (tgt := 28) hx hb dX6_row_16 (by decide) ?_
    exact W.iret (v := (-1)) hx hb hr (fun t ht hW => ⟨⟨(-1), (), rfl, rfl, cE.nil⟩, hS.F ht⟩) hS.2.2 dX6_row_28
  · have c591 := i_nlt (a := x1.toInt) (b := 0) c591 rfl (by decide)
    refine lv_iload_n hx hb dX6_row_4 rfl (lv_at hl 1 rfl) ?_
    refine lv_aload_n hx hb dX6_row_5 rfl (lv_at hl 0 rfl) ?_
    refine va_get (D := (dC, dI)) (ci := 6) (v := .ref (ad 9)) (C := RX6) (T := TX6) (N := 20) hx hb hts hi6 hown hK hP 0 rfl rfl 9 (by decide) (hts _ (ow_m (k := 0) rfl)) (fun _ h9 => h9) rfl dX6_row_6 ?_
    refine va_get (D := (dC, dI)) (ci := 5) (v := .int 0) (C := RX5) (T := TX5) (N := 13) hx hb hts hi5 hown hK hP 1 rfl rfl 7 (by decide) (hts _ (ow_m (k := 1) rfl)) (fun _ h9 => h9) rfl dX6_row_9 ?_
    refine lv_icmp_lt (tgt := 19) hx hb dX6_row_12 (by decide) (fun c592 => ?_) (fun c592 => ?_)
    · have c592 := i_lt (a := x1.toInt) (b := 0) c592 rfl (by decide)
      exfalso; omega
    · have c592 := i_nlt (a := x1.toInt) (b := 0) c592 rfl (by decide)
      refine lv_iconst (v := (-1)) hx hb dX6_row_15 (by decide) ?_
      refine lv_goto (tgt := 28) hx hb dX6_row_16 (by decide) ?_
      exact W.iret (v := (-1)) hx hb hr (fun t ht hW => ⟨⟨(-1), (), rfl, rfl, cE.nil⟩, hS.F ht⟩) hS.2.2 dX6_row_28
def wo_k_X6_isNode : List Cond := [.fieldLink RX6 16 "ReplicaChain" "plan" "LReplicaChain$Plan;", .fieldLink RX6 179 "ReplicaChain$Plan" "nodeCount" "I"]
def wq_k_X6_isNode : List Cond := .code yX6_isNode cX6_isNode 2 (some .boolean) :: (wo_k_X6_isNode ++ (wsX10 ++ (wsX60 ++ [])))
theorem gd_k_X6_isNode : Gd wq_k_X6_isNode := gd_c (gd_a (gd_o (by decide +kernel)) (gd_a gd_u (gd_a gd_u gd_0)))
abbrev wc_k_X6_isNode (cyB cyI cyJ cyZ cyO : ClassId) (h0 : Nat) (ad : Nat → Nat) (pd : Nat → Nat) (a1 : Int32) : va_W := [(h0, .inr (6, [.ref (ad 0), .int 0, .ref (ad 2), .ref (ad 3), .ref (ad 4), .ref (ad 5), .ref (ad 6), .int 0, .int 0, .ref (ad 9), .ref (ad 10), .ref (ad 11), .ref (ad 12), .ref (ad 13), .int 0, .ref (ad 15), .int 0, .ref (ad 17), .ref (ad 18), .int 0])), (ad 2, .inr (1, [.ref (pd 0), .ref (pd 1), .ref (pd 2), .ref (pd 3), .int 0, .int 0, .int 0, .int 0, .int 2, .int 0, .int 0]))]
set_option maxHeartbeats 4000000 in
set_option maxRecDepth 100000 in
theorem k_X6_isNode (l : Launch) (dC : Nat → ClassId) (dI : Nat → Nat → Nat) (cyB cyI cyJ cyZ cyO : ClassId) (h0 : Nat) (ad : Nat → Nat) (pd : Nat → Nat) (a1 : Int32) (sz : Nat) : Met l yX6_isNode wq_k_X6_isNode ({ frames := 0, cells := 0, slots := 0, locals := 0 }) (va_Pc [.ref h0, .int a1] (cB (dC, dI) (kT cyB cyI cyJ cyZ cyO) (wc_k_X6_isNode cyB cyI cyJ cyZ cyO h0 ad pd a1) sz)) (va_Qi (fun (r : Int32) _ => (r = 0 ∧ a1.toInt < 0) ∨ (r = 0 ∧ 0 ≤ a1.toInt ∧ 0 ≤ a1.toInt)) (fun (u : Unit) t => cE (dC, dI) (va_A (wc_k_X6_isNode cyB cyI cyJ cyZ cyO h0 ad pd a1) sz) ([(h0, .inr (6, [.ref (ad 0), .int 0, .ref (ad 2), .ref (ad 3), .ref (ad 4), .ref (ad 5), .ref (ad 6), .int 0, .int 0, .ref (ad 9), .ref (ad 10), .ref (ad 11), .ref (ad 12), .ref (ad 13), .int 0, .ref (ad 15), .int 0, .ref (ad 17), .ref (ad 18), .int 0])), (ad 2, .inr (1, [.ref (pd 0), .ref (pd 1), .ref (pd 2), .ref (pd 3), .int 0, .int 0, .int 0, .int 0, .int 2, .int 0, .int 0]))]) t.heap) (va_A (wc_k_X6_isNode cyB cyI cyJ cyZ cyO h0 ad pd a1) sz)) 0 0 (va_A (wc_k_X6_isNode cyB cyI cyJ cyZ cyO h0 ad pd a1) sz) := by
  refine Met.ofW (cc := cX6_isNode) (maxL := 2) (ret := (some .boolean)) (by decide) rfl ?_
  intro p e s m args below meth c s₁ B hml hv
  obtain ⟨rfl, hsz, hP, hKN, hD0⟩ := hv
  have hx := B.exec
  have hb := B.bytes
  have hr := B.returns
  have hts := atoms_spec (ws := wq_k_X6_isNode) B.pre
  have hown : s.vm.findClass RX6 = some m.cls := findClass_of_methodNamed B.named
  have hlocks := B.notSynchronized
  have hK := hKN.1
  have hfix : CallFix p m c cX6_isNode 2 s [.ref h0, .int a1].toArray wq_k_X6_isNode RX6 := ⟨hx, hb, hml, hown, hts⟩
  have hi1 : ∀ w ∈ wsX10, w ∈ wq_k_X6_isNode := (sb_c sb_l)
  have hi6 : ∀ w ∈ wsX60, w ∈ wq_k_X6_isNode := (sb_c (sb_r sb_l))
  subst hsz
  have hD := hD0.self (sz := s.heap.size)
  generalize hAe : va_A (wc_k_X6_isNode cyB cyI cyJ cyZ cyO h0 ad pd a1) s.heap.size = A at hD ⊢
  have hA : ∀ q : Nat, s.heap.size ≤ q → A q := fun q h => by rw [← hAe]; exact Or.inr h
  have hS : va_S A s.heap s.heap [] := va_S.rf
  have hl := lv_entry ([.ref h0, .int a1]) (n := 2) (Nat.le_of_ble_eq_true rfl)
  rw [lg_entry_eq]
  generalize (lg_sl ([.ref h0, .int a1]) ++ List.replicate (2 - (lg_sl ([.ref h0, .int a1])).length) Slot.unset).toArray = ls at hl ⊢
  have hl : lv_has ls 2 [(0, .ref h0), (1, .int a1)] := hl
  refine lv_iload_n hx hb dX6_isNode_0 rfl (lv_at hl 1 rfl) ?_
  refine lv_if_lt (tgt := 19) hx hb dX6_isNode_1 (by decide) (fun c595 => ?_) (fun c595 => ?_)
  · have c595 := i_lt (a := a1.toInt) (b := 0) c595 rfl (by decide)
    refine lv_iconst (v := 0) hx hb dX6_isNode_19 (by decide) ?_
    exact W.zret (v := 0) hx hb hr (by decide) (fun t ht hW => ⟨⟨0, (), rfl, (Or.inl ⟨rfl, c595⟩), cE.of ht hP hD [0, 1] (by decide) rfl⟩, hS.F ht⟩) hS.2.2 dX6_isNode_20
  · have c595 := i_nlt (a := a1.toInt) (b := 0) c595 rfl (by decide)
    refine lv_iload_n hx hb dX6_isNode_4 rfl (lv_at hl 1 rfl) ?_
    refine lv_aload_n hx hb dX6_isNode_5 rfl (lv_at hl 0 rfl) ?_
    refine va_get (D := (dC, dI)) (ci := 6) (v := .ref (ad 2)) (C := RX6) (T := TX6) (N := 20) hx hb hts hi6 hown hK hP 0 rfl rfl 2 (by decide) (hts _ (ow_m (k := 0) rfl)) (fun _ h9 => h9) rfl dX6_isNode_6 ?_
    refine va_get (D := (dC, dI)) (ci := 1) (v := .int 0) (C := RX1) (T := TX1) (N := 11) hx hb hts hi1 hown hK hP 1 rfl rfl 5 (by decide) (hts _ (ow_m (k := 1) rfl)) (fun _ h9 => h9) rfl dX6_isNode_9 ?_
    refine lv_icmp_ge (tgt := 19) hx hb dX6_isNode_12 (by decide) (fun c596 => ?_) (fun c596 => ?_)
    · have c596 := i_le (a := 0) (b := a1.toInt) c596 (by decide) rfl
      refine lv_iconst (v := 0) hx hb dX6_isNode_19 (by decide) ?_
      exact W.zret (v := 0) hx hb hr (by decide) (fun t ht hW => ⟨⟨0, (), rfl, (Or.inr ⟨rfl, c595, c596⟩), cE.of ht hP hD [0, 1] (by decide) rfl⟩, hS.F ht⟩) hS.2.2 dX6_isNode_20
    · have c596 := i_nle (a := 0) (b := a1.toInt) c596 (by decide) rfl
      exfalso; omega
def wo_c_C_node : List Cond := [.methodLink RX6 163 yX6_isNode, .instanceMethod yX6_isNode, .selects RX6 yX6_isNode yX6_isNode, .initialized RX6]
def wq_c_C_node : List Cond := .code yX6_node cX6_node 3 (some .int) :: (wo_c_C_node ++ (wq_k_X6_isNode ++ []))
theorem gd_c_C_node : Gd wq_c_C_node := gd_c (gd_a (gd_o (by decide +kernel)) (gd_a gd_k_X6_isNode gd_0))
abbrev wc_c_C_node (cyB cyI cyJ cyZ cyO : ClassId) (h0 : Nat) (ad : Nat → Nat) (pd : Nat → Nat) (x1 : Int32) (x2 : Int32) : va_W := [(h0, .inr (6, [.ref (ad 0), .int 0, .ref (ad 2), .ref (ad 3), .ref (ad 4), .ref (ad 5), .ref (ad 6), .int 0, .int 0, .ref (ad 9), .ref (ad 10), .ref (ad 11), .ref (ad 12), .ref (ad 13), .int 0, .ref (ad 15), .int 0, .ref (ad 17), .ref (ad 18), .int 0])), (ad 2, .inr (1, [.ref (pd 0), .ref (pd 1), .ref (pd 2), .ref (pd 3), .int 0, .int 0, .int 0, .int 0, .int 2, .int 0, .int 0]))]
set_option maxHeartbeats 4000000 in
set_option maxRecDepth 100000 in
theorem c_C_node (l : Launch) (dC : Nat → ClassId) (dI : Nat → Nat → Nat) (cyB cyI cyJ cyZ cyO : ClassId) (h0 : Nat) (ad : Nat → Nat) (pd : Nat → Nat) (x1 : Int32) (x2 : Int32) (sz : Nat) : Met l yX6_node wq_c_C_node ({ frames := 1, cells := 0, slots := 0, locals := 21 }) (va_Pc [.ref h0, .int x1, .int x2] (cB (dC, dI) (kT cyB cyI cyJ cyZ cyO) (wc_c_C_node cyB cyI cyJ cyZ cyO h0 ad pd x1 x2) sz)) (va_Qi (fun (r : Int32) (_ : Unit) => r = -2) (fun (u : Unit) t => cE (dC, dI) (va_A (wc_c_C_node cyB cyI cyJ cyZ cyO h0 ad pd x1 x2) sz) ([]) t.heap) (va_A (wc_c_C_node cyB cyI cyJ cyZ cyO h0 ad pd x1 x2) sz)) 0 0 (va_A (wc_c_C_node cyB cyI cyJ cyZ cyO h0 ad pd x1 x2) sz) := by
  refine Met.ofW (cc := cX6_node) (maxL := 3) (ret := (some .int)) (by decide) rfl ?_
  intro p e s m args below meth c s₁ B hml hv
  obtain ⟨rfl, hsz, hP, hKN, hD0⟩ := hv
  have hx := B.exec
  have hb := B.bytes
  have hr := B.returns
  have hts := atoms_spec (ws := wq_c_C_node) B.pre
  have hown : s.vm.findClass RX6 = some m.cls := findClass_of_methodNamed B.named
  have hlocks := B.notSynchronized
  have hK := hKN.1
  have hfix : CallFix p m c cX6_node 3 s [.ref h0, .int x1, .int x2].toArray wq_c_C_node RX6 := ⟨hx, hb, hml, hown, hts⟩
  subst hsz
  have hD := hD0.self (sz := s.heap.size)
  generalize hAe : va_A (wc_c_C_node cyB cyI cyJ cyZ cyO h0 ad pd x1 x2) s.heap.size = A at hD ⊢
  have hA : ∀ q : Nat, s.heap.size ≤ q → A q := fun q h => by rw [← hAe]; exact Or.inr h
  have hS : va_S A s.heap s.heap [] := va_S.rf
  have hl := lv_entry ([.ref h0, .int x1, .int x2]) (n := 3) (Nat.le_of_ble_eq_true rfl)
  rw [lg_entry_eq]
  generalize (lg_sl ([.ref h0, .int x1, .int x2]) ++ List.replicate (3 - (lg_sl ([.ref h0, .int x1, .int x2])).length) Slot.unset).toArray = ls at hl ⊢
  have hl : lv_has ls 3 [(0, .ref h0), (1, .int x1), (2, .int x2)] := hl
  refine lv_aload_n hx hb dX6_node_0 rfl (lv_at hl 0 rfl) ?_
  refine lv_iload_n hx hb dX6_node_1 rfl (lv_at hl 1 rfl) ?_
  refine gf_i (wr := []) (va_runV (As := [.int x1]) (rest := []) hfix (k_X6_isNode l dC dI cyB cyI cyJ cyZ cyO h0 ad pd x1 _) (cwV 1 hts (gi_V (ow_m (k := 0) rfl) (ow_m (k := 1) rfl) (ow_m (k := 2) rfl) (ow_m (k := 3) rfl) (sb_c sb_l) gd_k_X6_isNode) rfl rfl rfl (by decide +kernel) ⟨Nat.le_of_ble_eq_true rfl, Nat.le_of_ble_eq_true rfl⟩) (g_preV hKN hP hD [0, 1] rfl (by decide) 0 6 rfl rfl) rfl rfl hl.1 rfl (lv_room (Nat.le_of_ble_eq_true rfl)) dX6_node_2 ⟨Nat.le_of_ble_eq_true rfl, Nat.le_of_ble_eq_true rfl⟩) hP hD hS hA [0, 1] [] rfl rfl (by decide) (by decide) (fun r606 u607 H locs qu607 hP hD hS => ?_)
  have hP : va_P (dC, dI) vwCl [(h0, .inr (6, [.ref (ad 0), .int 0, .ref (ad 2), .ref (ad 3), .ref (ad 4), .ref (ad 5), .ref (ad 6), .int 0, .int 0, .ref (ad 9), .ref (ad 10), .ref (ad 11), .ref (ad 12), .ref (ad 13), .int 0, .ref (ad 15), .int 0, .ref (ad 17), .ref (ad 18), .int 0])), (ad 2, .inr (1, [.ref (pd 0), .ref (pd 1), .ref (pd 2), .ref (pd 3), .int 0, .int 0, .int 0, .int 0, .int 2, .int 0, .int 0]))] H := hP
  have hD : va_D A [(h0, .inr (6, [.ref (ad 0), .int 0, .ref (ad 2), .ref (ad 3), .ref (ad 4), .ref (ad 5), .ref (ad 6), .int 0, .int 0, .ref (ad 9), .ref (ad 10), .ref (ad 11), .ref (ad 12), .ref (ad 13), .int 0, .ref (ad 15), .int 0, .ref (ad 17), .ref (ad 18), .int 0])), (ad 2, .inr (1, [.ref (pd 0), .ref (pd 1), .ref (pd 2), .ref (pd 3), .int 0, .int 0, .int 0, .int 0, .int 2, .int 0, .int 0]))] := hD
  rcases qu607 with ⟨rfl, b608⟩ | ⟨rfl, b609, b610⟩
  · skip
    refine lv_if_ne (tgt := 11) hx hb dX6_node_5 (by decide) (fun c611 => absurd (by decide) c611) (fun _ => ?_)
    refine lv_bipush (v := (-2)) hx hb dX6_node_8 (by decide) ?_
    exact W.iret (v := (-2)) hx hb hr (fun t ht hW => ⟨⟨(-2), (), rfl, rfl, cE.nil⟩, hS.F ht⟩) hS.2.2 dX6_node_10
  · skip
    refine lv_if_ne (tgt := 11) hx hb dX6_node_5 (by decide) (fun c612 => absurd (by decide) c612) (fun _ => ?_)
    refine lv_bipush (v := (-2)) hx hb dX6_node_8 (by decide) ?_
    exact W.iret (v := (-2)) hx hb hr (fun t ht hW => ⟨⟨(-2), (), rfl, rfl, cE.nil⟩, hS.F ht⟩) hS.2.2 dX6_node_10
def wo_k_X6_isLink : List Cond := [.fieldLink RX6 110 "ReplicaChain" "now" "LReplicaChain$State;", .fieldLink RX6 157 "ReplicaChain$State" "size" "I"]
def wq_k_X6_isLink : List Cond := .code yX6_isLink cX6_isLink 3 (some .boolean) :: (wo_k_X6_isLink ++ (wsX50 ++ (wsX60 ++ [])))
theorem gd_k_X6_isLink : Gd wq_k_X6_isLink := gd_c (gd_a (gd_o (by decide +kernel)) (gd_a gd_u (gd_a gd_u gd_0)))
abbrev wc_k_X6_isLink (cyB cyI cyJ cyZ cyO : ClassId) (h0 : Nat) (ad : Nat → Nat) (sd : Nat → Nat) (a1 : Int32) (a2 : Int32) : va_W := [(h0, .inr (6, [.ref (ad 0), .int 0, .ref (ad 2), .ref (ad 3), .ref (ad 4), .ref (ad 5), .ref (ad 6), .int 0, .int 0, .ref (ad 9), .ref (ad 10), .ref (ad 11), .ref (ad 12), .ref (ad 13), .int 0, .ref (ad 15), .int 0, .ref (ad 17), .ref (ad 18), .int 0])), (ad 9, .inr (5, [.ref (sd 0), .ref (sd 1), .ref (sd 2), .ref (sd 3), .ref (sd 4), .ref (sd 5), .ref (sd 6), .int 0, .int (-1), .int 0, .int 0, .int 0, .int 0]))]
set_option maxHeartbeats 4000000 in
set_option maxRecDepth 100000 in
theorem k_X6_isLink (l : Launch) (dC : Nat → ClassId) (dI : Nat → Nat → Nat) (cyB cyI cyJ cyZ cyO : ClassId) (h0 : Nat) (ad : Nat → Nat) (sd : Nat → Nat) (a1 : Int32) (a2 : Int32) (sz : Nat) : Met l yX6_isLink wq_k_X6_isLink ({ frames := 0, cells := 0, slots := 0, locals := 0 }) (va_Pc [.ref h0, .int a1, .int a2] (cB (dC, dI) (kT cyB cyI cyJ cyZ cyO) (wc_k_X6_isLink cyB cyI cyJ cyZ cyO h0 ad sd a1 a2) sz)) (va_Qi (fun (r : Int32) _ => (r = 0 ∧ a1.toInt < 0) ∨ (r = 0 ∧ 0 ≤ a1.toInt ∧ (-1) ≤ a1.toInt)) (fun (u : Unit) t => cE (dC, dI) (va_A (wc_k_X6_isLink cyB cyI cyJ cyZ cyO h0 ad sd a1 a2) sz) ([(h0, .inr (6, [.ref (ad 0), .int 0, .ref (ad 2), .ref (ad 3), .ref (ad 4), .ref (ad 5), .ref (ad 6), .int 0, .int 0, .ref (ad 9), .ref (ad 10), .ref (ad 11), .ref (ad 12), .ref (ad 13), .int 0, .ref (ad 15), .int 0, .ref (ad 17), .ref (ad 18), .int 0])), (ad 9, .inr (5, [.ref (sd 0), .ref (sd 1), .ref (sd 2), .ref (sd 3), .ref (sd 4), .ref (sd 5), .ref (sd 6), .int 0, .int (-1), .int 0, .int 0, .int 0, .int 0]))]) t.heap) (va_A (wc_k_X6_isLink cyB cyI cyJ cyZ cyO h0 ad sd a1 a2) sz)) 0 0 (va_A (wc_k_X6_isLink cyB cyI cyJ cyZ cyO h0 ad sd a1 a2) sz) := by
  refine Met.ofW (cc := cX6_isLink) (maxL := 3) (ret := (some .boolean)) (by decide) rfl ?_
  intro p e s m args below meth c s₁ B hml hv
  obtain ⟨rfl, hsz, hP, hKN, hD0⟩ := hv
  have hx := B.exec
  have hb := B.bytes
  have hr := B.returns
  have hts := atoms_spec (ws := wq_k_X6_isLink) B.pre
  have hown : s.vm.findClass RX6 = some m.cls := findClass_of_methodNamed B.named
  have hlocks := B.notSynchronized
  have hK := hKN.1
  have hfix : CallFix p m c cX6_isLink 3 s [.ref h0, .int a1, .int a2].toArray wq_k_X6_isLink RX6 := ⟨hx, hb, hml, hown, hts⟩
  have hi5 : ∀ w ∈ wsX50, w ∈ wq_k_X6_isLink := (sb_c sb_l)
  have hi6 : ∀ w ∈ wsX60, w ∈ wq_k_X6_isLink := (sb_c (sb_r sb_l))
  subst hsz
  have hD := hD0.self (sz := s.heap.size)
  generalize hAe : va_A (wc_k_X6_isLink cyB cyI cyJ cyZ cyO h0 ad sd a1 a2) s.heap.size = A at hD ⊢
  have hA : ∀ q : Nat, s.heap.size ≤ q → A q := fun q h => by rw [← hAe]; exact Or.inr h
  have hS : va_S A s.heap s.heap [] := va_S.rf
  have hl := lv_entry ([.ref h0, .int a1, .int a2]) (n := 3) (Nat.le_of_ble_eq_true rfl)
  rw [lg_entry_eq]
  generalize (lg_sl ([.ref h0, .int a1, .int a2]) ++ List.replicate (3 - (lg_sl ([.ref h0, .int a1, .int a2])).length) Slot.unset).toArray = ls at hl ⊢
  have hl : lv_has ls 3 [(0, .ref h0), (1, .int a1), (2, .int a2)] := hl
  refine lv_iload_n hx hb dX6_isLink_0 rfl (lv_at hl 1 rfl) ?_
  refine lv_if_lt (tgt := 30) hx hb dX6_isLink_1 (by decide) (fun c615 => ?_) (fun c615 => ?_)
  · have c615 := i_lt (a := a1.toInt) (b := 0) c615 rfl (by decide)
    refine lv_iconst (v := 0) hx hb dX6_isLink_30 (by decide) ?_
    exact W.zret (v := 0) hx hb hr (by decide) (fun t ht hW => ⟨⟨0, (), rfl, (Or.inl ⟨rfl, c615⟩), cE.of ht hP hD [0, 1] (by decide) rfl⟩, hS.F ht⟩) hS.2.2 dX6_isLink_31
  · have c615 := i_nlt (a := a1.toInt) (b := 0) c615 rfl (by decide)
    refine lv_iload_n hx hb dX6_isLink_4 rfl (lv_at hl 1 rfl) ?_
    refine lv_aload_n hx hb dX6_isLink_5 rfl (lv_at hl 0 rfl) ?_
    refine va_get (D := (dC, dI)) (ci := 6) (v := .ref (ad 9)) (C := RX6) (T := TX6) (N := 20) hx hb hts hi6 hown hK hP 0 rfl rfl 9 (by decide) (hts _ (ow_m (k := 0) rfl)) (fun _ h9 => h9) rfl dX6_isLink_6 ?_
    refine va_get (D := (dC, dI)) (ci := 5) (v := .int 0) (C := RX5) (T := TX5) (N := 13) hx hb hts hi5 hown hK hP 1 rfl rfl 7 (by decide) (hts _ (ow_m (k := 1) rfl)) (fun _ h9 => h9) rfl dX6_isLink_9 ?_
    refine lv_iconst (v := 1) hx hb dX6_isLink_12 (by decide) ?_
    refine lv_isub hx hb dX6_isLink_13 ?_
    refine tp_c (w := (-1)) (by decide) ?_
    refine lv_icmp_ge (tgt := 30) hx hb dX6_isLink_14 (by decide) (fun c616 => ?_) (fun c616 => ?_)
    · have c616 := i_le (a := (-1)) (b := a1.toInt) c616 (by decide) rfl
      refine lv_iconst (v := 0) hx hb dX6_isLink_30 (by decide) ?_
      exact W.zret (v := 0) hx hb hr (by decide) (fun t ht hW => ⟨⟨0, (), rfl, (Or.inr ⟨rfl, c615, c616⟩), cE.of ht hP hD [0, 1] (by decide) rfl⟩, hS.F ht⟩) hS.2.2 dX6_isLink_31
    · have c616 := i_nle (a := (-1)) (b := a1.toInt) c616 (by decide) rfl
      exfalso; omega
def wo_c_C_under : List Cond := [.methodLink RX6 185 yX6_isLink, .instanceMethod yX6_isLink, .selects RX6 yX6_isLink yX6_isLink, .initialized RX6]
def wq_c_C_under : List Cond := .code yX6_under cX6_under 3 (some .int) :: (wo_c_C_under ++ (wq_k_X6_isLink ++ []))
theorem gd_c_C_under : Gd wq_c_C_under := gd_c (gd_a (gd_o (by decide +kernel)) (gd_a gd_k_X6_isLink gd_0))
abbrev wc_c_C_under (cyB cyI cyJ cyZ cyO : ClassId) (h0 : Nat) (ad : Nat → Nat) (sd : Nat → Nat) (x1 : Int32) (x2 : Int32) : va_W := [(h0, .inr (6, [.ref (ad 0), .int 0, .ref (ad 2), .ref (ad 3), .ref (ad 4), .ref (ad 5), .ref (ad 6), .int 0, .int 0, .ref (ad 9), .ref (ad 10), .ref (ad 11), .ref (ad 12), .ref (ad 13), .int 0, .ref (ad 15), .int 0, .ref (ad 17), .ref (ad 18), .int 0])), (ad 9, .inr (5, [.ref (sd 0), .ref (sd 1), .ref (sd 2), .ref (sd 3), .ref (sd 4), .ref (sd 5), .ref (sd 6), .int 0, .int (-1), .int 0, .int 0, .int 0, .int 0]))]
set_option maxHeartbeats 4000000 in
set_option maxRecDepth 100000 in
theorem c_C_under (l : Launch) (dC : Nat → ClassId) (dI : Nat → Nat → Nat) (cyB cyI cyJ cyZ cyO : ClassId) (h0 : Nat) (ad : Nat → Nat) (sd : Nat → Nat) (x1 : Int32) (x2 : Int32) (sz : Nat) : Met l yX6_under wq_c_C_under ({ frames := 1, cells := 0, slots := 0, locals := 22 }) (va_Pc [.ref h0, .int x1, .int x2] (cB (dC, dI) (kT cyB cyI cyJ cyZ cyO) (wc_c_C_under cyB cyI cyJ cyZ cyO h0 ad sd x1 x2) sz)) (va_Qi (fun (r : Int32) (_ : Unit) => r = -1) (fun (u : Unit) t => cE (dC, dI) (va_A (wc_c_C_under cyB cyI cyJ cyZ cyO h0 ad sd x1 x2) sz) ([]) t.heap) (va_A (wc_c_C_under cyB cyI cyJ cyZ cyO h0 ad sd x1 x2) sz)) 0 0 (va_A (wc_c_C_under cyB cyI cyJ cyZ cyO h0 ad sd x1 x2) sz) := by
  refine Met.ofW (cc := cX6_under) (maxL := 3) (ret := (some .int)) (by decide) rfl ?_
  intro p e s m args below meth c s₁ B hml hv
  obtain ⟨rfl, hsz, hP, hKN, hD0⟩ := hv
  have hx := B.exec
  have hb := B.bytes
  have hr := B.returns
  have hts := atoms_spec (ws := wq_c_C_under) B.pre
  have hown : s.vm.findClass RX6 = some m.cls := findClass_of_methodNamed B.named
  have hlocks := B.notSynchronized
  have hK := hKN.1
  have hfix : CallFix p m c cX6_under 3 s [.ref h0, .int x1, .int x2].toArray wq_c_C_under RX6 := ⟨hx, hb, hml, hown, hts⟩
  subst hsz
  have hD := hD0.self (sz := s.heap.size)
  generalize hAe : va_A (wc_c_C_under cyB cyI cyJ cyZ cyO h0 ad sd x1 x2) s.heap.size = A at hD ⊢
  have hA : ∀ q : Nat, s.heap.size ≤ q → A q := fun q h => by rw [← hAe]; exact Or.inr h
  have hS : va_S A s.heap s.heap [] := va_S.rf
  have hl := lv_entry ([.ref h0, .int x1, .int x2]) (n := 3) (Nat.le_of_ble_eq_true rfl)
  rw [lg_entry_eq]
  generalize (lg_sl ([.ref h0, .int x1, .int x2]) ++ List.replicate (3 - (lg_sl ([.ref h0, .int x1, .int x2])).length) Slot.unset).toArray = ls at hl ⊢
  have hl : lv_has ls 3 [(0, .ref h0), (1, .int x1), (2, .int x2)] := hl
  refine lv_aload_n hx hb dX6_under_0 rfl (lv_at hl 0 rfl) ?_
  refine lv_iload_n hx hb dX6_under_1 rfl (lv_at hl 1 rfl) ?_
  refine lv_iload_n hx hb dX6_under_2 rfl (lv_at hl 2 rfl) ?_
  refine gf_i (wr := []) (va_runV (As := [.int x1, .int x2]) (rest := []) hfix (k_X6_isLink l dC dI cyB cyI cyJ cyZ cyO h0 ad sd x1 x2 _) (cwV 2 hts (gi_V (ow_m (k := 0) rfl) (ow_m (k := 1) rfl) (ow_m (k := 2) rfl) (ow_m (k := 3) rfl) (sb_c sb_l) gd_k_X6_isLink) rfl rfl rfl (by decide +kernel) ⟨Nat.le_of_ble_eq_true rfl, Nat.le_of_ble_eq_true rfl⟩) (g_preV hKN hP hD [0, 1] rfl (by decide) 0 6 rfl rfl) rfl rfl hl.1 rfl (lv_room (Nat.le_of_ble_eq_true rfl)) dX6_under_3 ⟨Nat.le_of_ble_eq_true rfl, Nat.le_of_ble_eq_true rfl⟩) hP hD hS hA [0, 1] [] rfl rfl (by decide) (by decide) (fun r626 u627 H locs qu627 hP hD hS => ?_)
  have hP : va_P (dC, dI) vwCl [(h0, .inr (6, [.ref (ad 0), .int 0, .ref (ad 2), .ref (ad 3), .ref (ad 4), .ref (ad 5), .ref (ad 6), .int 0, .int 0, .ref (ad 9), .ref (ad 10), .ref (ad 11), .ref (ad 12), .ref (ad 13), .int 0, .ref (ad 15), .int 0, .ref (ad 17), .ref (ad 18), .int 0])), (ad 9, .inr (5, [.ref (sd 0), .ref (sd 1), .ref (sd 2), .ref (sd 3), .ref (sd 4), .ref (sd 5), .ref (sd 6), .int 0, .int (-1), .int 0, .int 0, .int 0, .int 0]))] H := hP
  have hD : va_D A [(h0, .inr (6, [.ref (ad 0), .int 0, .ref (ad 2), .ref (ad 3), .ref (ad 4), .ref (ad 5), .ref (ad 6), .int 0, .int 0, .ref (ad 9), .ref (ad 10), .ref (ad 11), .ref (ad 12), .ref (ad 13), .int 0, .ref (ad 15), .int 0, .ref (ad 17), .ref (ad 18), .int 0])), (ad 9, .inr (5, [.ref (sd 0), .ref (sd 1), .ref (sd 2), .ref (sd 3), .ref (sd 4), .ref (sd 5), .ref (sd 6), .int 0, .int (-1), .int 0, .int 0, .int 0, .int 0]))] := hD
  rcases qu627 with ⟨rfl, b628⟩ | ⟨rfl, b629, b630⟩
  · skip
    refine lv_if_eq (tgt := 21) hx hb dX6_under_6 (by decide) (fun _ => ?_) (fun c631 => absurd (by decide) c631)
    refine lv_iconst (v := (-1)) hx hb dX6_under_21 (by decide) ?_
    exact W.iret (v := (-1)) hx hb hr (fun t ht hW => ⟨⟨(-1), (), rfl, rfl, cE.nil⟩, hS.F ht⟩) hS.2.2 dX6_under_22
  · skip
    refine lv_if_eq (tgt := 21) hx hb dX6_under_6 (by decide) (fun _ => ?_) (fun c632 => absurd (by decide) c632)
    refine lv_iconst (v := (-1)) hx hb dX6_under_21 (by decide) ?_
    exact W.iret (v := (-1)) hx hb hr (fun t ht hW => ⟨⟨(-1), (), rfl, rfl, cE.nil⟩, hS.F ht⟩) hS.2.2 dX6_under_22
def wo_c_C_due : List Cond := [.methodLink RX6 185 yX6_isLink, .instanceMethod yX6_isLink, .selects RX6 yX6_isLink yX6_isLink, .initialized RX6]
def wq_c_C_due : List Cond := .code yX6_due cX6_due 3 (some .int) :: (wo_c_C_due ++ (wq_k_X6_isLink ++ []))
theorem gd_c_C_due : Gd wq_c_C_due := gd_c (gd_a (gd_o (by decide +kernel)) (gd_a gd_k_X6_isLink gd_0))
abbrev wc_c_C_due (cyB cyI cyJ cyZ cyO : ClassId) (h0 : Nat) (ad : Nat → Nat) (sd : Nat → Nat) (x1 : Int32) (x2 : Int32) : va_W := [(h0, .inr (6, [.ref (ad 0), .int 0, .ref (ad 2), .ref (ad 3), .ref (ad 4), .ref (ad 5), .ref (ad 6), .int 0, .int 0, .ref (ad 9), .ref (ad 10), .ref (ad 11), .ref (ad 12), .ref (ad 13), .int 0, .ref (ad 15), .int 0, .ref (ad 17), .ref (ad 18), .int 0])), (ad 9, .inr (5, [.ref (sd 0), .ref (sd 1), .ref (sd 2), .ref (sd 3), .ref (sd 4), .ref (sd 5), .ref (sd 6), .int 0, .int (-1), .int 0, .int 0, .int 0, .int 0]))]
set_option maxHeartbeats 4000000 in
set_option maxRecDepth 100000 in
theorem c_C_due (l : Launch) (dC : Nat → ClassId) (dI : Nat → Nat → Nat) (cyB cyI cyJ cyZ cyO : ClassId) (h0 : Nat) (ad : Nat → Nat) (sd : Nat → Nat) (x1 : Int32) (x2 : Int32) (sz : Nat) : Met l yX6_due wq_c_C_due ({ frames := 1, cells := 0, slots := 0, locals := 22 }) (va_Pc [.ref h0, .int x1, .int x2] (cB (dC, dI) (kT cyB cyI cyJ cyZ cyO) (wc_c_C_due cyB cyI cyJ cyZ cyO h0 ad sd x1 x2) sz)) (va_Qi (fun (r : Int32) (_ : Unit) => r = -1) (fun (u : Unit) t => cE (dC, dI) (va_A (wc_c_C_due cyB cyI cyJ cyZ cyO h0 ad sd x1 x2) sz) ([]) t.heap) (va_A (wc_c_C_due cyB cyI cyJ cyZ cyO h0 ad sd x1 x2) sz)) 0 0 (va_A (wc_c_C_due cyB cyI cyJ cyZ cyO h0 ad sd x1 x2) sz) := by
  refine Met.ofW (cc := cX6_due) (maxL := 3) (ret := (some .int)) (by decide) rfl ?_
  intro p e s m args below meth c s₁ B hml hv
  obtain ⟨rfl, hsz, hP, hKN, hD0⟩ := hv
  have hx := B.exec
  have hb := B.bytes
  have hr := B.returns
  have hts := atoms_spec (ws := wq_c_C_due) B.pre
  have hown : s.vm.findClass RX6 = some m.cls := findClass_of_methodNamed B.named
  have hlocks := B.notSynchronized
  have hK := hKN.1
  have hfix : CallFix p m c cX6_due 3 s [.ref h0, .int x1, .int x2].toArray wq_c_C_due RX6 := ⟨hx, hb, hml, hown, hts⟩
  subst hsz
  have hD := hD0.self (sz := s.heap.size)
  generalize hAe : va_A (wc_c_C_due cyB cyI cyJ cyZ cyO h0 ad sd x1 x2) s.heap.size = A at hD ⊢
  have hA : ∀ q : Nat, s.heap.size ≤ q → A q := fun q h => by rw [← hAe]; exact Or.inr h
  have hS : va_S A s.heap s.heap [] := va_S.rf
  have hl := lv_entry ([.ref h0, .int x1, .int x2]) (n := 3) (Nat.le_of_ble_eq_true rfl)
  rw [lg_entry_eq]
  generalize (lg_sl ([.ref h0, .int x1, .int x2]) ++ List.replicate (3 - (lg_sl ([.ref h0, .int x1, .int x2])).length) Slot.unset).toArray = ls at hl ⊢
  have hl : lv_has ls 3 [(0, .ref h0), (1, .int x1), (2, .int x2)] := hl
  refine lv_aload_n hx hb dX6_due_0 rfl (lv_at hl 0 rfl) ?_
  refine lv_iload_n hx hb dX6_due_1 rfl (lv_at hl 1 rfl) ?_
  refine lv_iload_n hx hb dX6_due_2 rfl (lv_at hl 2 rfl) ?_
  refine gf_i (wr := []) (va_runV (As := [.int x1, .int x2]) (rest := []) hfix (k_X6_isLink l dC dI cyB cyI cyJ cyZ cyO h0 ad sd x1 x2 _) (cwV 2 hts (gi_V (ow_m (k := 0) rfl) (ow_m (k := 1) rfl) (ow_m (k := 2) rfl) (ow_m (k := 3) rfl) (sb_c sb_l) gd_k_X6_isLink) rfl rfl rfl (by decide +kernel) ⟨Nat.le_of_ble_eq_true rfl, Nat.le_of_ble_eq_true rfl⟩) (g_preV hKN hP hD [0, 1] rfl (by decide) 0 6 rfl rfl) rfl rfl hl.1 rfl (lv_room (Nat.le_of_ble_eq_true rfl)) dX6_due_3 ⟨Nat.le_of_ble_eq_true rfl, Nat.le_of_ble_eq_true rfl⟩) hP hD hS hA [0, 1] [] rfl rfl (by decide) (by decide) (fun r644 u645 H locs qu645 hP hD hS => ?_)
  have hP : va_P (dC, dI) vwCl [(h0, .inr (6, [.ref (ad 0), .int 0, .ref (ad 2), .ref (ad 3), .ref (ad 4), .ref (ad 5), .ref (ad 6), .int 0, .int 0, .ref (ad 9), .ref (ad 10), .ref (ad 11), .ref (ad 12), .ref (ad 13), .int 0, .ref (ad 15), .int 0, .ref (ad 17), .ref (ad 18), .int 0])), (ad 9, .inr (5, [.ref (sd 0), .ref (sd 1), .ref (sd 2), .ref (sd 3), .ref (sd 4), .ref (sd 5), .ref (sd 6), .int 0, .int (-1), .int 0, .int 0, .int 0, .int 0]))] H := hP
  have hD : va_D A [(h0, .inr (6, [.ref (ad 0), .int 0, .ref (ad 2), .ref (ad 3), .ref (ad 4), .ref (ad 5), .ref (ad 6), .int 0, .int 0, .ref (ad 9), .ref (ad 10), .ref (ad 11), .ref (ad 12), .ref (ad 13), .int 0, .ref (ad 15), .int 0, .ref (ad 17), .ref (ad 18), .int 0])), (ad 9, .inr (5, [.ref (sd 0), .ref (sd 1), .ref (sd 2), .ref (sd 3), .ref (sd 4), .ref (sd 5), .ref (sd 6), .int 0, .int (-1), .int 0, .int 0, .int 0, .int 0]))] := hD
  rcases qu645 with ⟨rfl, b646⟩ | ⟨rfl, b647, b648⟩
  · skip
    refine lv_if_eq (tgt := 21) hx hb dX6_due_6 (by decide) (fun _ => ?_) (fun c649 => absurd (by decide) c649)
    refine lv_iconst (v := (-1)) hx hb dX6_due_21 (by decide) ?_
    exact W.iret (v := (-1)) hx hb hr (fun t ht hW => ⟨⟨(-1), (), rfl, rfl, cE.nil⟩, hS.F ht⟩) hS.2.2 dX6_due_22
  · skip
    refine lv_if_eq (tgt := 21) hx hb dX6_due_6 (by decide) (fun _ => ?_) (fun c650 => absurd (by decide) c650)
    refine lv_iconst (v := (-1)) hx hb dX6_due_21 (by decide) ?_
    exact W.iret (v := (-1)) hx hb hr (fun t ht hW => ⟨⟨(-1), (), rfl, rfl, cE.nil⟩, hS.F ht⟩) hS.2.2 dX6_due_22
def wo_k_X5_headHas : List Cond := [.fieldLink RX5 42 "ReplicaChain$State" "size" "I"]
def wq_k_X5_headHas : List Cond := .code yX5_headHas cX5_headHas 1 (some .int) :: (wo_k_X5_headHas ++ (wsX50 ++ []))
theorem gd_k_X5_headHas : Gd wq_k_X5_headHas := gd_c (gd_a (gd_o (by decide +kernel)) (gd_a gd_u gd_0))
abbrev wc_k_X5_headHas (cyB cyI cyJ cyZ cyO : ClassId) (ad : Nat → Nat) (sd : Nat → Nat) : va_W := [(ad 9, .inr (5, [.ref (sd 0), .ref (sd 1), .ref (sd 2), .ref (sd 3), .ref (sd 4), .ref (sd 5), .ref (sd 6), .int 0, .int (-1), .int 0, .int 0, .int 0, .int 0]))]
set_option maxHeartbeats 4000000 in
set_option maxRecDepth 100000 in
theorem k_X5_headHas (l : Launch) (dC : Nat → ClassId) (dI : Nat → Nat → Nat) (cyB cyI cyJ cyZ cyO : ClassId) (ad : Nat → Nat) (sd : Nat → Nat) (sz : Nat) : Met l yX5_headHas wq_k_X5_headHas ({ frames := 0, cells := 0, slots := 0, locals := 0 }) (va_Pc [.ref (ad 9)] (cB (dC, dI) (kT cyB cyI cyJ cyZ cyO) (wc_k_X5_headHas cyB cyI cyJ cyZ cyO ad sd) sz)) (va_Qi (fun (r : Int32) _ => r = 0) (fun (u : Unit) t => cE (dC, dI) (va_A (wc_k_X5_headHas cyB cyI cyJ cyZ cyO ad sd) sz) ([(ad 9, .inr (5, [.ref (sd 0), .ref (sd 1), .ref (sd 2), .ref (sd 3), .ref (sd 4), .ref (sd 5), .ref (sd 6), .int 0, .int (-1), .int 0, .int 0, .int 0, .int 0]))]) t.heap) (va_A (wc_k_X5_headHas cyB cyI cyJ cyZ cyO ad sd) sz)) 0 0 (va_A (wc_k_X5_headHas cyB cyI cyJ cyZ cyO ad sd) sz) := by
  refine Met.ofW (cc := cX5_headHas) (maxL := 1) (ret := (some .int)) (by decide) rfl ?_
  intro p e s m args below meth c s₁ B hml hv
  obtain ⟨rfl, hsz, hP, hKN, hD0⟩ := hv
  have hx := B.exec
  have hb := B.bytes
  have hr := B.returns
  have hts := atoms_spec (ws := wq_k_X5_headHas) B.pre
  have hown : s.vm.findClass RX5 = some m.cls := findClass_of_methodNamed B.named
  have hlocks := B.notSynchronized
  have hK := hKN.1
  have hfix : CallFix p m c cX5_headHas 1 s [.ref (ad 9)].toArray wq_k_X5_headHas RX5 := ⟨hx, hb, hml, hown, hts⟩
  have hi5 : ∀ w ∈ wsX50, w ∈ wq_k_X5_headHas := (sb_c sb_l)
  subst hsz
  have hD := hD0.self (sz := s.heap.size)
  generalize hAe : va_A (wc_k_X5_headHas cyB cyI cyJ cyZ cyO ad sd) s.heap.size = A at hD ⊢
  have hA : ∀ q : Nat, s.heap.size ≤ q → A q := fun q h => by rw [← hAe]; exact Or.inr h
  have hS : va_S A s.heap s.heap [] := va_S.rf
  have hl := lv_entry ([.ref (ad 9)]) (n := 1) (Nat.le_of_ble_eq_true rfl)
  rw [lg_entry_eq]
  generalize (lg_sl ([.ref (ad 9)]) ++ List.replicate (1 - (lg_sl ([.ref (ad 9)])).length) Slot.unset).toArray = ls at hl ⊢
  have hl : lv_has ls 1 [(0, .ref (ad 9))] := hl
  refine lv_aload_n hx hb dX5_headHas_0 rfl (lv_at hl 0 rfl) ?_
  refine va_get (D := (dC, dI)) (ci := 5) (v := .int 0) (C := RX5) (T := TX5) (N := 13) hx hb hts hi5 hown hK hP 0 rfl rfl 7 (by decide) (hts _ (ow_m (k := 0) rfl)) (fun _ h9 => h9) rfl dX5_headHas_1 ?_
  refine lv_if_ne (tgt := 11) hx hb dX5_headHas_4 (by decide) (fun c653 => absurd (by decide) c653) (fun _ => ?_)
  refine lv_iconst (v := 0) hx hb dX5_headHas_7 (by decide) ?_
  refine lv_goto (tgt := 22) hx hb dX5_headHas_8 (by decide) ?_
  exact W.iret (v := 0) hx hb hr (fun t ht hW => ⟨⟨0, (), rfl, rfl, cE.of ht hP hD [0] (by decide) rfl⟩, hS.F ht⟩) hS.2.2 dX5_headHas_22
def wo_c_C_wrote : List Cond := [.fieldLink RX6 110 "ReplicaChain" "now" "LReplicaChain$State;", .methodLink RX6 195 yX5_headHas, .instanceMethod yX5_headHas, .selects RX5 yX5_headHas yX5_headHas, .initialized RX5]
def wq_c_C_wrote : List Cond := .code yX6_wrote cX6_wrote 3 (some .int) :: (wo_c_C_wrote ++ (wq_k_X5_headHas ++ (wsX60 ++ [])))
theorem gd_c_C_wrote : Gd wq_c_C_wrote := gd_c (gd_a (gd_o (by decide +kernel)) (gd_a gd_k_X5_headHas (gd_a gd_u gd_0)))
abbrev wc_c_C_wrote (cyB cyI cyJ cyZ cyO : ClassId) (h0 : Nat) (ad : Nat → Nat) (sd : Nat → Nat) (x1 : Int32) (x2 : Int32) : va_W := [(h0, .inr (6, [.ref (ad 0), .int 0, .ref (ad 2), .ref (ad 3), .ref (ad 4), .ref (ad 5), .ref (ad 6), .int 0, .int 0, .ref (ad 9), .ref (ad 10), .ref (ad 11), .ref (ad 12), .ref (ad 13), .int 0, .ref (ad 15), .int 0, .ref (ad 17), .ref (ad 18), .int 0])), (ad 9, .inr (5, [.ref (sd 0), .ref (sd 1), .ref (sd 2), .ref (sd 3), .ref (sd 4), .ref (sd 5), .ref (sd 6), .int 0, .int (-1), .int 0, .int 0, .int 0, .int 0]))]
set_option maxHeartbeats 4000000 in
set_option maxRecDepth 100000 in
theorem c_C_wrote (l : Launch) (dC : Nat → ClassId) (dI : Nat → Nat → Nat) (cyB cyI cyJ cyZ cyO : ClassId) (h0 : Nat) (ad : Nat → Nat) (sd : Nat → Nat) (x1 : Int32) (x2 : Int32) (sz : Nat) : Met l yX6_wrote wq_c_C_wrote ({ frames := 1, cells := 0, slots := 0, locals := 20 }) (va_Pc [.ref h0, .int x1, .int x2] (cB (dC, dI) (kT cyB cyI cyJ cyZ cyO) (wc_c_C_wrote cyB cyI cyJ cyZ cyO h0 ad sd x1 x2) sz)) (va_Qi (fun (r : Int32) (_ : Unit) => r = -1) (fun (u : Unit) t => cE (dC, dI) (va_A (wc_c_C_wrote cyB cyI cyJ cyZ cyO h0 ad sd x1 x2) sz) ([]) t.heap) (va_A (wc_c_C_wrote cyB cyI cyJ cyZ cyO h0 ad sd x1 x2) sz)) 0 0 (va_A (wc_c_C_wrote cyB cyI cyJ cyZ cyO h0 ad sd x1 x2) sz) := by
  refine Met.ofW (cc := cX6_wrote) (maxL := 3) (ret := (some .int)) (by decide) rfl ?_
  intro p e s m args below meth c s₁ B hml hv
  obtain ⟨rfl, hsz, hP, hKN, hD0⟩ := hv
  have hx := B.exec
  have hb := B.bytes
  have hr := B.returns
  have hts := atoms_spec (ws := wq_c_C_wrote) B.pre
  have hown : s.vm.findClass RX6 = some m.cls := findClass_of_methodNamed B.named
  have hlocks := B.notSynchronized
  have hK := hKN.1
  have hfix : CallFix p m c cX6_wrote 3 s [.ref h0, .int x1, .int x2].toArray wq_c_C_wrote RX6 := ⟨hx, hb, hml, hown, hts⟩
  have hi6 : ∀ w ∈ wsX60, w ∈ wq_c_C_wrote := (sb_c (sb_r sb_l))
  subst hsz
  have hD := hD0.self (sz := s.heap.size)
  generalize hAe : va_A (wc_c_C_wrote cyB cyI cyJ cyZ cyO h0 ad sd x1 x2) s.heap.size = A at hD ⊢
  have hA : ∀ q : Nat, s.heap.size ≤ q → A q := fun q h => by rw [← hAe]; exact Or.inr h
  have hS : va_S A s.heap s.heap [] := va_S.rf
  have hl := lv_entry ([.ref h0, .int x1, .int x2]) (n := 3) (Nat.le_of_ble_eq_true rfl)
  rw [lg_entry_eq]
  generalize (lg_sl ([.ref h0, .int x1, .int x2]) ++ List.replicate (3 - (lg_sl ([.ref h0, .int x1, .int x2])).length) Slot.unset).toArray = ls at hl ⊢
  have hl : lv_has ls 3 [(0, .ref h0), (1, .int x1), (2, .int x2)] := hl
  refine lv_iload_n hx hb dX6_wrote_0 rfl (lv_at hl 1 rfl) ?_
  refine lv_iconst (v := 1) hx hb dX6_wrote_1 (by decide) ?_
  refine lv_icmp_lt (tgt := 16) hx hb dX6_wrote_2 (by decide) (fun c657 => ?_) (fun c657 => ?_)
  · have c657 := i_lt (a := x1.toInt) (b := 1) c657 rfl (by decide)
    refine lv_iconst (v := (-1)) hx hb dX6_wrote_16 (by decide) ?_
    exact W.iret (v := (-1)) hx hb hr (fun t ht hW => ⟨⟨(-1), (), rfl, rfl, cE.nil⟩, hS.F ht⟩) hS.2.2 dX6_wrote_17
  · have c657 := i_nlt (a := x1.toInt) (b := 1) c657 rfl (by decide)
    refine lv_iload_n hx hb dX6_wrote_5 rfl (lv_at hl 1 rfl) ?_
    refine lv_aload_n hx hb dX6_wrote_6 rfl (lv_at hl 0 rfl) ?_
    refine va_get (D := (dC, dI)) (ci := 6) (v := .ref (ad 9)) (C := RX6) (T := TX6) (N := 20) hx hb hts hi6 hown hK hP 0 rfl rfl 9 (by decide) (hts _ (ow_m (k := 0) rfl)) (fun _ h9 => h9) rfl dX6_wrote_7 ?_
    refine gf_i (wr := [(h0, .inr (6, [.ref (ad 0), .int 0, .ref (ad 2), .ref (ad 3), .ref (ad 4), .ref (ad 5), .ref (ad 6), .int 0, .int 0, .ref (ad 9), .ref (ad 10), .ref (ad 11), .ref (ad 12), .ref (ad 13), .int 0, .ref (ad 15), .int 0, .ref (ad 17), .ref (ad 18), .int 0]))]) (va_runV (As := []) (rest := [.int x1]) hfix (k_X5_headHas l dC dI cyB cyI cyJ cyZ cyO ad sd _) (cwV 0 hts (gi_V (ow_m (k := 1) rfl) (ow_m (k := 2) rfl) (ow_m (k := 3) rfl) (ow_m (k := 4) rfl) (sb_c sb_l) gd_k_X5_headHas) rfl rfl rfl (by decide +kernel) ⟨Nat.le_of_ble_eq_true rfl, Nat.le_of_ble_eq_true rfl⟩) (g_preV hKN hP hD [1] rfl (by decide) 0 5 rfl rfl) rfl rfl hl.1 rfl (lv_room (Nat.le_of_ble_eq_true rfl)) dX6_wrote_10 ⟨Nat.le_of_ble_eq_true rfl, Nat.le_of_ble_eq_true rfl⟩) hP hD hS hA [1] [0] rfl rfl (by decide) (by decide) (fun r659 u660 H locs qu660 hP hD hS => ?_)
    have hP : va_P (dC, dI) vwCl [(h0, .inr (6, [.ref (ad 0), .int 0, .ref (ad 2), .ref (ad 3), .ref (ad 4), .ref (ad 5), .ref (ad 6), .int 0, .int 0, .ref (ad 9), .ref (ad 10), .ref (ad 11), .ref (ad 12), .ref (ad 13), .int 0, .ref (ad 15), .int 0, .ref (ad 17), .ref (ad 18), .int 0])), (ad 9, .inr (5, [.ref (sd 0), .ref (sd 1), .ref (sd 2), .ref (sd 3), .ref (sd 4), .ref (sd 5), .ref (sd 6), .int 0, .int (-1), .int 0, .int 0, .int 0, .int 0]))] H := hP
    have hD : va_D A [(h0, .inr (6, [.ref (ad 0), .int 0, .ref (ad 2), .ref (ad 3), .ref (ad 4), .ref (ad 5), .ref (ad 6), .int 0, .int 0, .ref (ad 9), .ref (ad 10), .ref (ad 11), .ref (ad 12), .ref (ad 13), .int 0, .ref (ad 15), .int 0, .ref (ad 17), .ref (ad 18), .int 0])), (ad 9, .inr (5, [.ref (sd 0), .ref (sd 1), .ref (sd 2), .ref (sd 3), .ref (sd 4), .ref (sd 5), .ref (sd 6), .int 0, .int (-1), .int 0, .int 0, .int 0, .int 0]))] := hD
    refine tp_c (w := 0) qu660 ?_
    refine lv_icmp_le (tgt := 18) hx hb dX6_wrote_13 (by decide) (fun c661 => ?_) (fun c661 => ?_)
    · have c661 := i_le (a := x1.toInt) (b := 0) c661 rfl (by decide)
      exfalso; omega
    · have c661 := i_nle (a := x1.toInt) (b := 0) c661 rfl (by decide)
      refine lv_iconst (v := (-1)) hx hb dX6_wrote_16 (by decide) ?_
      exact W.iret (v := (-1)) hx hb hr (fun t ht hW => ⟨⟨(-1), (), rfl, rfl, cE.nil⟩, hS.F ht⟩) hS.2.2 dX6_wrote_17
def wo_k_X6_canGive : List Cond := [.fieldLink RX6 110 "ReplicaChain" "now" "LReplicaChain$State;", .fieldLink RX6 157 "ReplicaChain$State" "size" "I"]
def wq_k_X6_canGive : List Cond := .code yX6_canGive cX6_canGive 1 (some .boolean) :: (wo_k_X6_canGive ++ (wsX50 ++ (wsX60 ++ [])))
theorem gd_k_X6_canGive : Gd wq_k_X6_canGive := gd_c (gd_a (gd_o (by decide +kernel)) (gd_a gd_u (gd_a gd_u gd_0)))
abbrev wc_k_X6_canGive (cyB cyI cyJ cyZ cyO : ClassId) (h0 : Nat) (ad : Nat → Nat) (sd : Nat → Nat) : va_W := [(h0, .inr (6, [.ref (ad 0), .int 0, .ref (ad 2), .ref (ad 3), .ref (ad 4), .ref (ad 5), .ref (ad 6), .int 0, .int 0, .ref (ad 9), .ref (ad 10), .ref (ad 11), .ref (ad 12), .ref (ad 13), .int 0, .ref (ad 15), .int 0, .ref (ad 17), .ref (ad 18), .int 0])), (ad 9, .inr (5, [.ref (sd 0), .ref (sd 1), .ref (sd 2), .ref (sd 3), .ref (sd 4), .ref (sd 5), .ref (sd 6), .int 0, .int (-1), .int 0, .int 0, .int 0, .int 0]))]
set_option maxHeartbeats 4000000 in
set_option maxRecDepth 100000 in
theorem k_X6_canGive (l : Launch) (dC : Nat → ClassId) (dI : Nat → Nat → Nat) (cyB cyI cyJ cyZ cyO : ClassId) (h0 : Nat) (ad : Nat → Nat) (sd : Nat → Nat) (sz : Nat) : Met l yX6_canGive wq_k_X6_canGive ({ frames := 0, cells := 0, slots := 0, locals := 0 }) (va_Pc [.ref h0] (cB (dC, dI) (kT cyB cyI cyJ cyZ cyO) (wc_k_X6_canGive cyB cyI cyJ cyZ cyO h0 ad sd) sz)) (va_Qi (fun (r : Int32) _ => r = 0) (fun (u : Unit) t => cE (dC, dI) (va_A (wc_k_X6_canGive cyB cyI cyJ cyZ cyO h0 ad sd) sz) ([(h0, .inr (6, [.ref (ad 0), .int 0, .ref (ad 2), .ref (ad 3), .ref (ad 4), .ref (ad 5), .ref (ad 6), .int 0, .int 0, .ref (ad 9), .ref (ad 10), .ref (ad 11), .ref (ad 12), .ref (ad 13), .int 0, .ref (ad 15), .int 0, .ref (ad 17), .ref (ad 18), .int 0])), (ad 9, .inr (5, [.ref (sd 0), .ref (sd 1), .ref (sd 2), .ref (sd 3), .ref (sd 4), .ref (sd 5), .ref (sd 6), .int 0, .int (-1), .int 0, .int 0, .int 0, .int 0]))]) t.heap) (va_A (wc_k_X6_canGive cyB cyI cyJ cyZ cyO h0 ad sd) sz)) 0 0 (va_A (wc_k_X6_canGive cyB cyI cyJ cyZ cyO h0 ad sd) sz) := by
  refine Met.ofW (cc := cX6_canGive) (maxL := 1) (ret := (some .boolean)) (by decide) rfl ?_
  intro p e s m args below meth c s₁ B hml hv
  obtain ⟨rfl, hsz, hP, hKN, hD0⟩ := hv
  have hx := B.exec
  have hb := B.bytes
  have hr := B.returns
  have hts := atoms_spec (ws := wq_k_X6_canGive) B.pre
  have hown : s.vm.findClass RX6 = some m.cls := findClass_of_methodNamed B.named
  have hlocks := B.notSynchronized
  have hK := hKN.1
  have hfix : CallFix p m c cX6_canGive 1 s [.ref h0].toArray wq_k_X6_canGive RX6 := ⟨hx, hb, hml, hown, hts⟩
  have hi5 : ∀ w ∈ wsX50, w ∈ wq_k_X6_canGive := (sb_c sb_l)
  have hi6 : ∀ w ∈ wsX60, w ∈ wq_k_X6_canGive := (sb_c (sb_r sb_l))
  subst hsz
  have hD := hD0.self (sz := s.heap.size)
  generalize hAe : va_A (wc_k_X6_canGive cyB cyI cyJ cyZ cyO h0 ad sd) s.heap.size = A at hD ⊢
  have hA : ∀ q : Nat, s.heap.size ≤ q → A q := fun q h => by rw [← hAe]; exact Or.inr h
  have hS : va_S A s.heap s.heap [] := va_S.rf
  have hl := lv_entry ([.ref h0]) (n := 1) (Nat.le_of_ble_eq_true rfl)
  rw [lg_entry_eq]
  generalize (lg_sl ([.ref h0]) ++ List.replicate (1 - (lg_sl ([.ref h0])).length) Slot.unset).toArray = ls at hl ⊢
  have hl : lv_has ls 1 [(0, .ref h0)] := hl
  refine lv_aload_n hx hb dX6_canGive_0 rfl (lv_at hl 0 rfl) ?_
  refine va_get (D := (dC, dI)) (ci := 6) (v := .ref (ad 9)) (C := RX6) (T := TX6) (N := 20) hx hb hts hi6 hown hK hP 0 rfl rfl 9 (by decide) (hts _ (ow_m (k := 0) rfl)) (fun _ h9 => h9) rfl dX6_canGive_1 ?_
  refine va_get (D := (dC, dI)) (ci := 5) (v := .int 0) (C := RX5) (T := TX5) (N := 13) hx hb hts hi5 hown hK hP 1 rfl rfl 7 (by decide) (hts _ (ow_m (k := 1) rfl)) (fun _ h9 => h9) rfl dX6_canGive_4 ?_
  refine lv_if_le (tgt := 26) hx hb dX6_canGive_7 (by decide) (fun _ => ?_) (fun c663 => absurd (by decide) c663)
  refine lv_iconst (v := 0) hx hb dX6_canGive_26 (by decide) ?_
  exact W.zret (v := 0) hx hb hr (by decide) (fun t ht hW => ⟨⟨0, (), rfl, rfl, cE.of ht hP hD [0, 1] (by decide) rfl⟩, hS.F ht⟩) hS.2.2 dX6_canGive_27
def wo_c_C_write : List Cond := [.methodLink RX6 211 yX6_canGive, .instanceMethod yX6_canGive, .selects RX6 yX6_canGive yX6_canGive, .initialized RX6]
def wq_c_C_write : List Cond := .code yX6_write cX6_write 3 (some .int) :: (wo_c_C_write ++ (wq_k_X6_canGive ++ []))
theorem gd_c_C_write : Gd wq_c_C_write := gd_c (gd_a (gd_o (by decide +kernel)) (gd_a gd_k_X6_canGive gd_0))
abbrev wc_c_C_write (cyB cyI cyJ cyZ cyO : ClassId) (h0 : Nat) (ad : Nat → Nat) (sd : Nat → Nat) (x1 : Int32) (x2 : Int32) : va_W := [(h0, .inr (6, [.ref (ad 0), .int 0, .ref (ad 2), .ref (ad 3), .ref (ad 4), .ref (ad 5), .ref (ad 6), .int 0, .int 0, .ref (ad 9), .ref (ad 10), .ref (ad 11), .ref (ad 12), .ref (ad 13), .int 0, .ref (ad 15), .int 0, .ref (ad 17), .ref (ad 18), .int 0])), (ad 9, .inr (5, [.ref (sd 0), .ref (sd 1), .ref (sd 2), .ref (sd 3), .ref (sd 4), .ref (sd 5), .ref (sd 6), .int 0, .int (-1), .int 0, .int 0, .int 0, .int 0]))]
set_option maxHeartbeats 4000000 in
set_option maxRecDepth 100000 in
theorem c_C_write (l : Launch) (dC : Nat → ClassId) (dI : Nat → Nat → Nat) (cyB cyI cyJ cyZ cyO : ClassId) (h0 : Nat) (ad : Nat → Nat) (sd : Nat → Nat) (x1 : Int32) (x2 : Int32) (sz : Nat) : Met l yX6_write wq_c_C_write ({ frames := 1, cells := 0, slots := 0, locals := 20 }) (va_Pc [.ref h0, .int x1, .int x2] (cB (dC, dI) (kT cyB cyI cyJ cyZ cyO) (wc_c_C_write cyB cyI cyJ cyZ cyO h0 ad sd x1 x2) sz)) (va_Qi (fun (r : Int32) (_ : Unit) => r = -1) (fun (u : Unit) t => cE (dC, dI) (va_A (wc_c_C_write cyB cyI cyJ cyZ cyO h0 ad sd x1 x2) sz) ([]) t.heap) (va_A (wc_c_C_write cyB cyI cyJ cyZ cyO h0 ad sd x1 x2) sz)) 0 0 (va_A (wc_c_C_write cyB cyI cyJ cyZ cyO h0 ad sd x1 x2) sz) := by
  refine Met.ofW (cc := cX6_write) (maxL := 3) (ret := (some .int)) (by decide) rfl ?_
  intro p e s m args below meth c s₁ B hml hv
  obtain ⟨rfl, hsz, hP, hKN, hD0⟩ := hv
  have hx := B.exec
  have hb := B.bytes
  have hr := B.returns
  have hts := atoms_spec (ws := wq_c_C_write) B.pre
  have hown : s.vm.findClass RX6 = some m.cls := findClass_of_methodNamed B.named
  have hlocks := B.notSynchronized
  have hK := hKN.1
  have hfix : CallFix p m c cX6_write 3 s [.ref h0, .int x1, .int x2].toArray wq_c_C_write RX6 := ⟨hx, hb, hml, hown, hts⟩
  subst hsz
  have hD := hD0.self (sz := s.heap.size)
  generalize hAe : va_A (wc_c_C_write cyB cyI cyJ cyZ cyO h0 ad sd x1 x2) s.heap.size = A at hD ⊢
  have hA : ∀ q : Nat, s.heap.size ≤ q → A q := fun q h => by rw [← hAe]; exact Or.inr h
  have hS : va_S A s.heap s.heap [] := va_S.rf
  have hl := lv_entry ([.ref h0, .int x1, .int x2]) (n := 3) (Nat.le_of_ble_eq_true rfl)
  rw [lg_entry_eq]
  generalize (lg_sl ([.ref h0, .int x1, .int x2]) ++ List.replicate (3 - (lg_sl ([.ref h0, .int x1, .int x2])).length) Slot.unset).toArray = ls at hl ⊢
  have hl : lv_has ls 3 [(0, .ref h0), (1, .int x1), (2, .int x2)] := hl
  refine lv_aload_n hx hb dX6_write_0 rfl (lv_at hl 0 rfl) ?_
  refine gf_i (wr := []) (va_runV (As := []) (rest := []) hfix (k_X6_canGive l dC dI cyB cyI cyJ cyZ cyO h0 ad sd _) (cwV 0 hts (gi_V (ow_m (k := 0) rfl) (ow_m (k := 1) rfl) (ow_m (k := 2) rfl) (ow_m (k := 3) rfl) (sb_c sb_l) gd_k_X6_canGive) rfl rfl rfl (by decide +kernel) ⟨Nat.le_of_ble_eq_true rfl, Nat.le_of_ble_eq_true rfl⟩) (g_preV hKN hP hD [0, 1] rfl (by decide) 0 6 rfl rfl) rfl rfl hl.1 rfl (lv_room (Nat.le_of_ble_eq_true rfl)) dX6_write_1 ⟨Nat.le_of_ble_eq_true rfl, Nat.le_of_ble_eq_true rfl⟩) hP hD hS hA [0, 1] [] rfl rfl (by decide) (by decide) (fun r668 u669 H locs qu669 hP hD hS => ?_)
  have hP : va_P (dC, dI) vwCl [(h0, .inr (6, [.ref (ad 0), .int 0, .ref (ad 2), .ref (ad 3), .ref (ad 4), .ref (ad 5), .ref (ad 6), .int 0, .int 0, .ref (ad 9), .ref (ad 10), .ref (ad 11), .ref (ad 12), .ref (ad 13), .int 0, .ref (ad 15), .int 0, .ref (ad 17), .ref (ad 18), .int 0])), (ad 9, .inr (5, [.ref (sd 0), .ref (sd 1), .ref (sd 2), .ref (sd 3), .ref (sd 4), .ref (sd 5), .ref (sd 6), .int 0, .int (-1), .int 0, .int 0, .int 0, .int 0]))] H := hP
  have hD : va_D A [(h0, .inr (6, [.ref (ad 0), .int 0, .ref (ad 2), .ref (ad 3), .ref (ad 4), .ref (ad 5), .ref (ad 6), .int 0, .int 0, .ref (ad 9), .ref (ad 10), .ref (ad 11), .ref (ad 12), .ref (ad 13), .int 0, .ref (ad 15), .int 0, .ref (ad 17), .ref (ad 18), .int 0])), (ad 9, .inr (5, [.ref (sd 0), .ref (sd 1), .ref (sd 2), .ref (sd 3), .ref (sd 4), .ref (sd 5), .ref (sd 6), .int 0, .int (-1), .int 0, .int 0, .int 0, .int 0]))] := hD
  refine tp_c (w := 0) qu669 ?_
  refine lv_if_eq (tgt := 25) hx hb dX6_write_4 (by decide) (fun _ => ?_) (fun c670 => absurd (by decide) c670)
  refine lv_iconst (v := (-1)) hx hb dX6_write_25 (by decide) ?_
  exact W.iret (v := (-1)) hx hb hr (fun t ht hW => ⟨⟨(-1), (), rfl, rfl, cE.nil⟩, hS.F ht⟩) hS.2.2 dX6_write_26
def wo_c_C_tick : List Cond := [.fieldLink RX6 110 "ReplicaChain" "now" "LReplicaChain$State;", .fieldLink RX6 157 "ReplicaChain$State" "size" "I"]
def wq_c_C_tick : List Cond := .code yX6_tick cX6_tick 2 (some .int) :: (wo_c_C_tick ++ (wsX50 ++ (wsX60 ++ [])))
theorem gd_c_C_tick : Gd wq_c_C_tick := gd_c (gd_a (gd_o (by decide +kernel)) (gd_a gd_u (gd_a gd_u gd_0)))
abbrev wc_c_C_tick (cyB cyI cyJ cyZ cyO : ClassId) (h0 : Nat) (ad : Nat → Nat) (sd : Nat → Nat) : va_W := [(h0, .inr (6, [.ref (ad 0), .int 0, .ref (ad 2), .ref (ad 3), .ref (ad 4), .ref (ad 5), .ref (ad 6), .int 0, .int 0, .ref (ad 9), .ref (ad 10), .ref (ad 11), .ref (ad 12), .ref (ad 13), .int 0, .ref (ad 15), .int 0, .ref (ad 17), .ref (ad 18), .int 0])), (ad 9, .inr (5, [.ref (sd 0), .ref (sd 1), .ref (sd 2), .ref (sd 3), .ref (sd 4), .ref (sd 5), .ref (sd 6), .int 0, .int (-1), .int 0, .int 0, .int 0, .int 0]))]
set_option maxHeartbeats 4000000 in
set_option maxRecDepth 100000 in
theorem c_C_tick (l : Launch) (dC : Nat → ClassId) (dI : Nat → Nat → Nat) (cyB cyI cyJ cyZ cyO : ClassId) (h0 : Nat) (ad : Nat → Nat) (sd : Nat → Nat) (sz : Nat) : Met l yX6_tick wq_c_C_tick ({ frames := 0, cells := 0, slots := 0, locals := 0 }) (va_Pc [.ref h0] (cB (dC, dI) (kT cyB cyI cyJ cyZ cyO) (wc_c_C_tick cyB cyI cyJ cyZ cyO h0 ad sd) sz)) (va_Qi (fun (r : Int32) (_ : Unit) => r = -1) (fun (u : Unit) t => cE (dC, dI) (va_A (wc_c_C_tick cyB cyI cyJ cyZ cyO h0 ad sd) sz) ([]) t.heap) (va_A (wc_c_C_tick cyB cyI cyJ cyZ cyO h0 ad sd) sz)) 0 0 (va_A (wc_c_C_tick cyB cyI cyJ cyZ cyO h0 ad sd) sz) := by
  refine Met.ofW (cc := cX6_tick) (maxL := 2) (ret := (some .int)) (by decide) rfl ?_
  intro p e s m args below meth c s₁ B hml hv
  obtain ⟨rfl, hsz, hP, hKN, hD0⟩ := hv
  have hx := B.exec
  have hb := B.bytes
  have hr := B.returns
  have hts := atoms_spec (ws := wq_c_C_tick) B.pre
  have hown : s.vm.findClass RX6 = some m.cls := findClass_of_methodNamed B.named
  have hlocks := B.notSynchronized
  have hK := hKN.1
  have hfix : CallFix p m c cX6_tick 2 s [.ref h0].toArray wq_c_C_tick RX6 := ⟨hx, hb, hml, hown, hts⟩
  have hi5 : ∀ w ∈ wsX50, w ∈ wq_c_C_tick := (sb_c sb_l)
  have hi6 : ∀ w ∈ wsX60, w ∈ wq_c_C_tick := (sb_c (sb_r sb_l))
  subst hsz
  have hD := hD0.self (sz := s.heap.size)
  generalize hAe : va_A (wc_c_C_tick cyB cyI cyJ cyZ cyO h0 ad sd) s.heap.size = A at hD ⊢
  have hA : ∀ q : Nat, s.heap.size ≤ q → A q := fun q h => by rw [← hAe]; exact Or.inr h
  have hS : va_S A s.heap s.heap [] := va_S.rf
  have hl := lv_entry ([.ref h0]) (n := 2) (Nat.le_of_ble_eq_true rfl)
  rw [lg_entry_eq]
  generalize (lg_sl ([.ref h0]) ++ List.replicate (2 - (lg_sl ([.ref h0])).length) Slot.unset).toArray = ls at hl ⊢
  have hl : lv_has ls 2 [(0, .ref h0)] := hl
  refine lv_aload_n hx hb dX6_tick_0 rfl (lv_at hl 0 rfl) ?_
  refine va_get (D := (dC, dI)) (ci := 6) (v := .ref (ad 9)) (C := RX6) (T := TX6) (N := 20) hx hb hts hi6 hown hK hP 0 rfl rfl 9 (by decide) (hts _ (ow_m (k := 0) rfl)) (fun _ h9 => h9) rfl dX6_tick_1 ?_
  refine va_get (D := (dC, dI)) (ci := 5) (v := .int 0) (C := RX5) (T := TX5) (N := 13) hx hb hts hi5 hown hK hP 1 rfl rfl 7 (by decide) (hts _ (ow_m (k := 1) rfl)) (fun _ h9 => h9) rfl dX6_tick_4 ?_
  refine lv_if_eq (tgt := 23) hx hb dX6_tick_7 (by decide) (fun _ => ?_) (fun c672 => absurd (by decide) c672)
  refine lv_iconst (v := (-1)) hx hb dX6_tick_23 (by decide) ?_
  exact W.iret (v := (-1)) hx hb hr (fun t ht hW => ⟨⟨(-1), (), rfl, rfl, cE.nil⟩, hS.F ht⟩) hS.2.2 dX6_tick_24
def wo_k_X6_isMember : List Cond := [.methodLink RX6 163 yX6_isNode, .instanceMethod yX6_isNode, .selects RX6 yX6_isNode yX6_isNode, .initialized RX6]
def wq_k_X6_isMember : List Cond := .code yX6_isMember cX6_isMember 2 (some .boolean) :: (wo_k_X6_isMember ++ (wq_k_X6_isNode ++ []))
theorem gd_k_X6_isMember : Gd wq_k_X6_isMember := gd_c (gd_a (gd_o (by decide +kernel)) (gd_a gd_k_X6_isNode gd_0))
abbrev wc_k_X6_isMember (cyB cyI cyJ cyZ cyO : ClassId) (h0 : Nat) (ad : Nat → Nat) (pd : Nat → Nat) (a1 : Int32) : va_W := [(h0, .inr (6, [.ref (ad 0), .int 0, .ref (ad 2), .ref (ad 3), .ref (ad 4), .ref (ad 5), .ref (ad 6), .int 0, .int 0, .ref (ad 9), .ref (ad 10), .ref (ad 11), .ref (ad 12), .ref (ad 13), .int 0, .ref (ad 15), .int 0, .ref (ad 17), .ref (ad 18), .int 0])), (ad 2, .inr (1, [.ref (pd 0), .ref (pd 1), .ref (pd 2), .ref (pd 3), .int 0, .int 0, .int 0, .int 0, .int 2, .int 0, .int 0]))]
set_option maxHeartbeats 4000000 in
set_option maxRecDepth 100000 in
theorem k_X6_isMember (l : Launch) (dC : Nat → ClassId) (dI : Nat → Nat → Nat) (cyB cyI cyJ cyZ cyO : ClassId) (h0 : Nat) (ad : Nat → Nat) (pd : Nat → Nat) (a1 : Int32) (sz : Nat) : Met l yX6_isMember wq_k_X6_isMember ({ frames := 1, cells := 0, slots := 0, locals := 21 }) (va_Pc [.ref h0, .int a1] (cB (dC, dI) (kT cyB cyI cyJ cyZ cyO) (wc_k_X6_isMember cyB cyI cyJ cyZ cyO h0 ad pd a1) sz)) (va_Qi (fun (r : Int32) _ => (r = 0 ∧ a1.toInt < 0) ∨ (r = 0 ∧ 0 ≤ a1.toInt ∧ 0 ≤ a1.toInt)) (fun (u : Unit) t => cE (dC, dI) (va_A (wc_k_X6_isMember cyB cyI cyJ cyZ cyO h0 ad pd a1) sz) ([(h0, .inr (6, [.ref (ad 0), .int 0, .ref (ad 2), .ref (ad 3), .ref (ad 4), .ref (ad 5), .ref (ad 6), .int 0, .int 0, .ref (ad 9), .ref (ad 10), .ref (ad 11), .ref (ad 12), .ref (ad 13), .int 0, .ref (ad 15), .int 0, .ref (ad 17), .ref (ad 18), .int 0])), (ad 2, .inr (1, [.ref (pd 0), .ref (pd 1), .ref (pd 2), .ref (pd 3), .int 0, .int 0, .int 0, .int 0, .int 2, .int 0, .int 0]))]) t.heap) (va_A (wc_k_X6_isMember cyB cyI cyJ cyZ cyO h0 ad pd a1) sz)) 0 0 (va_A (wc_k_X6_isMember cyB cyI cyJ cyZ cyO h0 ad pd a1) sz) := by
  refine Met.ofW (cc := cX6_isMember) (maxL := 2) (ret := (some .boolean)) (by decide) rfl ?_
  intro p e s m args below meth c s₁ B hml hv
  obtain ⟨rfl, hsz, hP, hKN, hD0⟩ := hv
  have hx := B.exec
  have hb := B.bytes
  have hr := B.returns
  have hts := atoms_spec (ws := wq_k_X6_isMember) B.pre
  have hown : s.vm.findClass RX6 = some m.cls := findClass_of_methodNamed B.named
  have hlocks := B.notSynchronized
  have hK := hKN.1
  have hfix : CallFix p m c cX6_isMember 2 s [.ref h0, .int a1].toArray wq_k_X6_isMember RX6 := ⟨hx, hb, hml, hown, hts⟩
  subst hsz
  have hD := hD0.self (sz := s.heap.size)
  generalize hAe : va_A (wc_k_X6_isMember cyB cyI cyJ cyZ cyO h0 ad pd a1) s.heap.size = A at hD ⊢
  have hA : ∀ q : Nat, s.heap.size ≤ q → A q := fun q h => by rw [← hAe]; exact Or.inr h
  have hS : va_S A s.heap s.heap [] := va_S.rf
  have hl := lv_entry ([.ref h0, .int a1]) (n := 2) (Nat.le_of_ble_eq_true rfl)
  rw [lg_entry_eq]
  generalize (lg_sl ([.ref h0, .int a1]) ++ List.replicate (2 - (lg_sl ([.ref h0, .int a1])).length) Slot.unset).toArray = ls at hl ⊢
  have hl : lv_has ls 2 [(0, .ref h0), (1, .int a1)] := hl
  refine lv_aload_n hx hb dX6_isMember_0 rfl (lv_at hl 0 rfl) ?_
  refine lv_iload_n hx hb dX6_isMember_1 rfl (lv_at hl 1 rfl) ?_
  refine gf_i (wr := []) (va_runV (As := [.int a1]) (rest := []) hfix (k_X6_isNode l dC dI cyB cyI cyJ cyZ cyO h0 ad pd a1 _) (cwV 1 hts (gi_V (ow_m (k := 0) rfl) (ow_m (k := 1) rfl) (ow_m (k := 2) rfl) (ow_m (k := 3) rfl) (sb_c sb_l) gd_k_X6_isNode) rfl rfl rfl (by decide +kernel) ⟨Nat.le_of_ble_eq_true rfl, Nat.le_of_ble_eq_true rfl⟩) (g_preV hKN hP hD [0, 1] rfl (by decide) 0 6 rfl rfl) rfl rfl hl.1 rfl (lv_room (Nat.le_of_ble_eq_true rfl)) dX6_isMember_2 ⟨Nat.le_of_ble_eq_true rfl, Nat.le_of_ble_eq_true rfl⟩) hP hD hS hA [0, 1] [] rfl rfl (by decide) (by decide) (fun r684 u685 H locs qu685 hP hD hS => ?_)
  have hP : va_P (dC, dI) vwCl [(h0, .inr (6, [.ref (ad 0), .int 0, .ref (ad 2), .ref (ad 3), .ref (ad 4), .ref (ad 5), .ref (ad 6), .int 0, .int 0, .ref (ad 9), .ref (ad 10), .ref (ad 11), .ref (ad 12), .ref (ad 13), .int 0, .ref (ad 15), .int 0, .ref (ad 17), .ref (ad 18), .int 0])), (ad 2, .inr (1, [.ref (pd 0), .ref (pd 1), .ref (pd 2), .ref (pd 3), .int 0, .int 0, .int 0, .int 0, .int 2, .int 0, .int 0]))] H := hP
  have hD : va_D A [(h0, .inr (6, [.ref (ad 0), .int 0, .ref (ad 2), .ref (ad 3), .ref (ad 4), .ref (ad 5), .ref (ad 6), .int 0, .int 0, .ref (ad 9), .ref (ad 10), .ref (ad 11), .ref (ad 12), .ref (ad 13), .int 0, .ref (ad 15), .int 0, .ref (ad 17), .ref (ad 18), .int 0])), (ad 2, .inr (1, [.ref (pd 0), .ref (pd 1), .ref (pd 2), .ref (pd 3), .int 0, .int 0, .int 0, .int 0, .int 2, .int 0, .int 0]))] := hD
  rcases qu685 with ⟨rfl, b686⟩ | ⟨rfl, b687, b688⟩
  · skip
    refine lv_if_eq (tgt := 23) hx hb dX6_isMember_5 (by decide) (fun _ => ?_) (fun c689 => absurd (by decide) c689)
    refine lv_iconst (v := 0) hx hb dX6_isMember_23 (by decide) ?_
    exact W.zret (v := 0) hx hb hr (by decide) (fun t ht hW => ⟨⟨0, (), rfl, (Or.inl ⟨rfl, b686⟩), cE.of ht hP hD [0, 1] (by decide) rfl⟩, hS.F ht⟩) hS.2.2 dX6_isMember_24
  · skip
    refine lv_if_eq (tgt := 23) hx hb dX6_isMember_5 (by decide) (fun _ => ?_) (fun c690 => absurd (by decide) c690)
    refine lv_iconst (v := 0) hx hb dX6_isMember_23 (by decide) ?_
    exact W.zret (v := 0) hx hb hr (by decide) (fun t ht hW => ⟨⟨0, (), rfl, (Or.inr ⟨rfl, b687, b688⟩), cE.of ht hP hD [0, 1] (by decide) rfl⟩, hS.F ht⟩) hS.2.2 dX6_isMember_24
def wo_c_C_lose : List Cond := [.methodLink RX6 239 yX6_isMember, .instanceMethod yX6_isMember, .selects RX6 yX6_isMember yX6_isMember, .initialized RX6]
def wq_c_C_lose : List Cond := .code yX6_lose cX6_lose 2 (some .int) :: (wo_c_C_lose ++ (wq_k_X6_isMember ++ []))
theorem gd_c_C_lose : Gd wq_c_C_lose := gd_c (gd_a (gd_o (by decide +kernel)) (gd_a gd_k_X6_isMember gd_0))
abbrev wc_c_C_lose (cyB cyI cyJ cyZ cyO : ClassId) (h0 : Nat) (ad : Nat → Nat) (pd : Nat → Nat) (x1 : Int32) : va_W := [(h0, .inr (6, [.ref (ad 0), .int 0, .ref (ad 2), .ref (ad 3), .ref (ad 4), .ref (ad 5), .ref (ad 6), .int 0, .int 0, .ref (ad 9), .ref (ad 10), .ref (ad 11), .ref (ad 12), .ref (ad 13), .int 0, .ref (ad 15), .int 0, .ref (ad 17), .ref (ad 18), .int 0])), (ad 2, .inr (1, [.ref (pd 0), .ref (pd 1), .ref (pd 2), .ref (pd 3), .int 0, .int 0, .int 0, .int 0, .int 2, .int 0, .int 0]))]
set_option maxHeartbeats 4000000 in
set_option maxRecDepth 100000 in
theorem c_C_lose (l : Launch) (dC : Nat → ClassId) (dI : Nat → Nat → Nat) (cyB cyI cyJ cyZ cyO : ClassId) (h0 : Nat) (ad : Nat → Nat) (pd : Nat → Nat) (x1 : Int32) (sz : Nat) : Met l yX6_lose wq_c_C_lose ({ frames := 2, cells := 0, slots := 0, locals := 42 }) (va_Pc [.ref h0, .int x1] (cB (dC, dI) (kT cyB cyI cyJ cyZ cyO) (wc_c_C_lose cyB cyI cyJ cyZ cyO h0 ad pd x1) sz)) (va_Qi (fun (r : Int32) (_ : Unit) => r = -1) (fun (u : Unit) t => cE (dC, dI) (va_A (wc_c_C_lose cyB cyI cyJ cyZ cyO h0 ad pd x1) sz) ([]) t.heap) (va_A (wc_c_C_lose cyB cyI cyJ cyZ cyO h0 ad pd x1) sz)) 0 0 (va_A (wc_c_C_lose cyB cyI cyJ cyZ cyO h0 ad pd x1) sz) := by
  refine Met.ofW (cc := cX6_lose) (maxL := 2) (ret := (some .int)) (by decide) rfl ?_
  intro p e s m args below meth c s₁ B hml hv
  obtain ⟨rfl, hsz, hP, hKN, hD0⟩ := hv
  have hx := B.exec
  have hb := B.bytes
  have hr := B.returns
  have hts := atoms_spec (ws := wq_c_C_lose) B.pre
  have hown : s.vm.findClass RX6 = some m.cls := findClass_of_methodNamed B.named
  have hlocks := B.notSynchronized
  have hK := hKN.1
  have hfix : CallFix p m c cX6_lose 2 s [.ref h0, .int x1].toArray wq_c_C_lose RX6 := ⟨hx, hb, hml, hown, hts⟩
  subst hsz
  have hD := hD0.self (sz := s.heap.size)
  generalize hAe : va_A (wc_c_C_lose cyB cyI cyJ cyZ cyO h0 ad pd x1) s.heap.size = A at hD ⊢
  have hA : ∀ q : Nat, s.heap.size ≤ q → A q := fun q h => by rw [← hAe]; exact Or.inr h
  have hS : va_S A s.heap s.heap [] := va_S.rf
  have hl := lv_entry ([.ref h0, .int x1]) (n := 2) (Nat.le_of_ble_eq_true rfl)
  rw [lg_entry_eq]
  generalize (lg_sl ([.ref h0, .int x1]) ++ List.replicate (2 - (lg_sl ([.ref h0, .int x1])).length) Slot.unset).toArray = ls at hl ⊢
  have hl : lv_has ls 2 [(0, .ref h0), (1, .int x1)] := hl
  refine lv_aload_n hx hb dX6_lose_0 rfl (lv_at hl 0 rfl) ?_
  refine lv_iload_n hx hb dX6_lose_1 rfl (lv_at hl 1 rfl) ?_
  refine gf_i (wr := []) (va_runV (As := [.int x1]) (rest := []) hfix (k_X6_isMember l dC dI cyB cyI cyJ cyZ cyO h0 ad pd x1 _) (cwV 1 hts (gi_V (ow_m (k := 0) rfl) (ow_m (k := 1) rfl) (ow_m (k := 2) rfl) (ow_m (k := 3) rfl) (sb_c sb_l) gd_k_X6_isMember) rfl rfl rfl (by decide +kernel) ⟨Nat.le_of_ble_eq_true rfl, Nat.le_of_ble_eq_true rfl⟩) (g_preV hKN hP hD [0, 1] rfl (by decide) 0 6 rfl rfl) rfl rfl hl.1 rfl (lv_room (Nat.le_of_ble_eq_true rfl)) dX6_lose_2 ⟨Nat.le_of_ble_eq_true rfl, Nat.le_of_ble_eq_true rfl⟩) hP hD hS hA [0, 1] [] rfl rfl (by decide) (by decide) (fun r707 u708 H locs qu708 hP hD hS => ?_)
  have hP : va_P (dC, dI) vwCl [(h0, .inr (6, [.ref (ad 0), .int 0, .ref (ad 2), .ref (ad 3), .ref (ad 4), .ref (ad 5), .ref (ad 6), .int 0, .int 0, .ref (ad 9), .ref (ad 10), .ref (ad 11), .ref (ad 12), .ref (ad 13), .int 0, .ref (ad 15), .int 0, .ref (ad 17), .ref (ad 18), .int 0])), (ad 2, .inr (1, [.ref (pd 0), .ref (pd 1), .ref (pd 2), .ref (pd 3), .int 0, .int 0, .int 0, .int 0, .int 2, .int 0, .int 0]))] H := hP
  have hD : va_D A [(h0, .inr (6, [.ref (ad 0), .int 0, .ref (ad 2), .ref (ad 3), .ref (ad 4), .ref (ad 5), .ref (ad 6), .int 0, .int 0, .ref (ad 9), .ref (ad 10), .ref (ad 11), .ref (ad 12), .ref (ad 13), .int 0, .ref (ad 15), .int 0, .ref (ad 17), .ref (ad 18), .int 0])), (ad 2, .inr (1, [.ref (pd 0), .ref (pd 1), .ref (pd 2), .ref (pd 3), .int 0, .int 0, .int 0, .int 0, .int 2, .int 0, .int 0]))] := hD
  rcases qu708 with ⟨rfl, b709⟩ | ⟨rfl, b710, b711⟩
  · skip
    refine lv_if_eq (tgt := 19) hx hb dX6_lose_5 (by decide) (fun _ => ?_) (fun c712 => absurd (by decide) c712)
    refine lv_iconst (v := (-1)) hx hb dX6_lose_19 (by decide) ?_
    exact W.iret (v := (-1)) hx hb hr (fun t ht hW => ⟨⟨(-1), (), rfl, rfl, cE.nil⟩, hS.F ht⟩) hS.2.2 dX6_lose_20
  · skip
    refine lv_if_eq (tgt := 19) hx hb dX6_lose_5 (by decide) (fun _ => ?_) (fun c713 => absurd (by decide) c713)
    refine lv_iconst (v := (-1)) hx hb dX6_lose_19 (by decide) ?_
    exact W.iret (v := (-1)) hx hb hr (fun t ht hW => ⟨⟨(-1), (), rfl, rfl, cE.nil⟩, hS.F ht⟩) hS.2.2 dX6_lose_20
def wo_c_C_join : List Cond := [.methodLink RX6 163 yX6_isNode, .instanceMethod yX6_isNode, .selects RX6 yX6_isNode yX6_isNode, .initialized RX6]
def wq_c_C_join : List Cond := .code yX6_join cX6_join 2 (some .int) :: (wo_c_C_join ++ (wq_k_X6_isNode ++ []))
theorem gd_c_C_join : Gd wq_c_C_join := gd_c (gd_a (gd_o (by decide +kernel)) (gd_a gd_k_X6_isNode gd_0))
abbrev wc_c_C_join (cyB cyI cyJ cyZ cyO : ClassId) (h0 : Nat) (ad : Nat → Nat) (pd : Nat → Nat) (x1 : Int32) : va_W := [(h0, .inr (6, [.ref (ad 0), .int 0, .ref (ad 2), .ref (ad 3), .ref (ad 4), .ref (ad 5), .ref (ad 6), .int 0, .int 0, .ref (ad 9), .ref (ad 10), .ref (ad 11), .ref (ad 12), .ref (ad 13), .int 0, .ref (ad 15), .int 0, .ref (ad 17), .ref (ad 18), .int 0])), (ad 2, .inr (1, [.ref (pd 0), .ref (pd 1), .ref (pd 2), .ref (pd 3), .int 0, .int 0, .int 0, .int 0, .int 2, .int 0, .int 0]))]
set_option maxHeartbeats 4000000 in
set_option maxRecDepth 100000 in
theorem c_C_join (l : Launch) (dC : Nat → ClassId) (dI : Nat → Nat → Nat) (cyB cyI cyJ cyZ cyO : ClassId) (h0 : Nat) (ad : Nat → Nat) (pd : Nat → Nat) (x1 : Int32) (sz : Nat) : Met l yX6_join wq_c_C_join ({ frames := 1, cells := 0, slots := 0, locals := 21 }) (va_Pc [.ref h0, .int x1] (cB (dC, dI) (kT cyB cyI cyJ cyZ cyO) (wc_c_C_join cyB cyI cyJ cyZ cyO h0 ad pd x1) sz)) (va_Qi (fun (r : Int32) (_ : Unit) => r = -1) (fun (u : Unit) t => cE (dC, dI) (va_A (wc_c_C_join cyB cyI cyJ cyZ cyO h0 ad pd x1) sz) ([]) t.heap) (va_A (wc_c_C_join cyB cyI cyJ cyZ cyO h0 ad pd x1) sz)) 0 0 (va_A (wc_c_C_join cyB cyI cyJ cyZ cyO h0 ad pd x1) sz) := by
  refine Met.ofW (cc := cX6_join) (maxL := 2) (ret := (some .int)) (by decide) rfl ?_
  intro p e s m args below meth c s₁ B hml hv
  obtain ⟨rfl, hsz, hP, hKN, hD0⟩ := hv
  have hx := B.exec
  have hb := B.bytes
  have hr := B.returns
  have hts := atoms_spec (ws := wq_c_C_join) B.pre
  have hown : s.vm.findClass RX6 = some m.cls := findClass_of_methodNamed B.named
  have hlocks := B.notSynchronized
  have hK := hKN.1
  have hfix : CallFix p m c cX6_join 2 s [.ref h0, .int x1].toArray wq_c_C_join RX6 := ⟨hx, hb, hml, hown, hts⟩
  subst hsz
  have hD := hD0.self (sz := s.heap.size)
  generalize hAe : va_A (wc_c_C_join cyB cyI cyJ cyZ cyO h0 ad pd x1) s.heap.size = A at hD ⊢
  have hA : ∀ q : Nat, s.heap.size ≤ q → A q := fun q h => by rw [← hAe]; exact Or.inr h
  have hS : va_S A s.heap s.heap [] := va_S.rf
  have hl := lv_entry ([.ref h0, .int x1]) (n := 2) (Nat.le_of_ble_eq_true rfl)
  rw [lg_entry_eq]
  generalize (lg_sl ([.ref h0, .int x1]) ++ List.replicate (2 - (lg_sl ([.ref h0, .int x1])).length) Slot.unset).toArray = ls at hl ⊢
  have hl : lv_has ls 2 [(0, .ref h0), (1, .int x1)] := hl
  refine lv_aload_n hx hb dX6_join_0 rfl (lv_at hl 0 rfl) ?_
  refine lv_iload_n hx hb dX6_join_1 rfl (lv_at hl 1 rfl) ?_
  refine gf_i (wr := []) (va_runV (As := [.int x1]) (rest := []) hfix (k_X6_isNode l dC dI cyB cyI cyJ cyZ cyO h0 ad pd x1 _) (cwV 1 hts (gi_V (ow_m (k := 0) rfl) (ow_m (k := 1) rfl) (ow_m (k := 2) rfl) (ow_m (k := 3) rfl) (sb_c sb_l) gd_k_X6_isNode) rfl rfl rfl (by decide +kernel) ⟨Nat.le_of_ble_eq_true rfl, Nat.le_of_ble_eq_true rfl⟩) (g_preV hKN hP hD [0, 1] rfl (by decide) 0 6 rfl rfl) rfl rfl hl.1 rfl (lv_room (Nat.le_of_ble_eq_true rfl)) dX6_join_2 ⟨Nat.le_of_ble_eq_true rfl, Nat.le_of_ble_eq_true rfl⟩) hP hD hS hA [0, 1] [] rfl rfl (by decide) (by decide) (fun r725 u726 H locs qu726 hP hD hS => ?_)
  have hP : va_P (dC, dI) vwCl [(h0, .inr (6, [.ref (ad 0), .int 0, .ref (ad 2), .ref (ad 3), .ref (ad 4), .ref (ad 5), .ref (ad 6), .int 0, .int 0, .ref (ad 9), .ref (ad 10), .ref (ad 11), .ref (ad 12), .ref (ad 13), .int 0, .ref (ad 15), .int 0, .ref (ad 17), .ref (ad 18), .int 0])), (ad 2, .inr (1, [.ref (pd 0), .ref (pd 1), .ref (pd 2), .ref (pd 3), .int 0, .int 0, .int 0, .int 0, .int 2, .int 0, .int 0]))] H := hP
  have hD : va_D A [(h0, .inr (6, [.ref (ad 0), .int 0, .ref (ad 2), .ref (ad 3), .ref (ad 4), .ref (ad 5), .ref (ad 6), .int 0, .int 0, .ref (ad 9), .ref (ad 10), .ref (ad 11), .ref (ad 12), .ref (ad 13), .int 0, .ref (ad 15), .int 0, .ref (ad 17), .ref (ad 18), .int 0])), (ad 2, .inr (1, [.ref (pd 0), .ref (pd 1), .ref (pd 2), .ref (pd 3), .int 0, .int 0, .int 0, .int 0, .int 2, .int 0, .int 0]))] := hD
  rcases qu726 with ⟨rfl, b727⟩ | ⟨rfl, b728, b729⟩
  · skip
    refine lv_if_eq (tgt := 27) hx hb dX6_join_5 (by decide) (fun _ => ?_) (fun c730 => absurd (by decide) c730)
    refine lv_iconst (v := (-1)) hx hb dX6_join_27 (by decide) ?_
    exact W.iret (v := (-1)) hx hb hr (fun t ht hW => ⟨⟨(-1), (), rfl, rfl, cE.nil⟩, hS.F ht⟩) hS.2.2 dX6_join_28
  · skip
    refine lv_if_eq (tgt := 27) hx hb dX6_join_5 (by decide) (fun _ => ?_) (fun c731 => absurd (by decide) c731)
    refine lv_iconst (v := (-1)) hx hb dX6_join_27 (by decide) ?_
    exact W.iret (v := (-1)) hx hb hr (fun t ht hW => ⟨⟨(-1), (), rfl, rfl, cE.nil⟩, hS.F ht⟩) hS.2.2 dX6_join_28
def wo_c_C_undo : List Cond := [.fieldLink RX6 100 "ReplicaChain" "at" "I"]
def wq_c_C_undo : List Cond := .code yX6_undo cX6_undo 1 (some .boolean) :: (wo_c_C_undo ++ (wsX60 ++ []))
theorem gd_c_C_undo : Gd wq_c_C_undo := gd_c (gd_a (gd_o (by decide +kernel)) (gd_a gd_u gd_0))
abbrev wc_c_C_undo (cyB cyI cyJ cyZ cyO : ClassId) (h0 : Nat) (ad : Nat → Nat) : va_W := [(h0, .inr (6, [.ref (ad 0), .int 0, .ref (ad 2), .ref (ad 3), .ref (ad 4), .ref (ad 5), .ref (ad 6), .int 0, .int 0, .ref (ad 9), .ref (ad 10), .ref (ad 11), .ref (ad 12), .ref (ad 13), .int 0, .ref (ad 15), .int 0, .ref (ad 17), .ref (ad 18), .int 0]))]
set_option maxHeartbeats 4000000 in
set_option maxRecDepth 100000 in
theorem c_C_undo (l : Launch) (dC : Nat → ClassId) (dI : Nat → Nat → Nat) (cyB cyI cyJ cyZ cyO : ClassId) (h0 : Nat) (ad : Nat → Nat) (sz : Nat) : Met l yX6_undo wq_c_C_undo ({ frames := 0, cells := 0, slots := 0, locals := 0 }) (va_Pc [.ref h0] (cB (dC, dI) (kT cyB cyI cyJ cyZ cyO) (wc_c_C_undo cyB cyI cyJ cyZ cyO h0 ad) sz)) (va_Qi (fun (r : Int32) (_ : Unit) => r = 0) (fun (u : Unit) t => cE (dC, dI) (va_A (wc_c_C_undo cyB cyI cyJ cyZ cyO h0 ad) sz) ([]) t.heap) (va_A (wc_c_C_undo cyB cyI cyJ cyZ cyO h0 ad) sz)) 0 0 (va_A (wc_c_C_undo cyB cyI cyJ cyZ cyO h0 ad) sz) := by
  refine Met.ofW (cc := cX6_undo) (maxL := 1) (ret := (some .boolean)) (by decide) rfl ?_
  intro p e s m args below meth c s₁ B hml hv
  obtain ⟨rfl, hsz, hP, hKN, hD0⟩ := hv
  have hx := B.exec
  have hb := B.bytes
  have hr := B.returns
  have hts := atoms_spec (ws := wq_c_C_undo) B.pre
  have hown : s.vm.findClass RX6 = some m.cls := findClass_of_methodNamed B.named
  have hlocks := B.notSynchronized
  have hK := hKN.1
  have hfix : CallFix p m c cX6_undo 1 s [.ref h0].toArray wq_c_C_undo RX6 := ⟨hx, hb, hml, hown, hts⟩
  have hi6 : ∀ w ∈ wsX60, w ∈ wq_c_C_undo := (sb_c sb_l)
  subst hsz
  have hD := hD0.self (sz := s.heap.size)
  generalize hAe : va_A (wc_c_C_undo cyB cyI cyJ cyZ cyO h0 ad) s.heap.size = A at hD ⊢
  have hA : ∀ q : Nat, s.heap.size ≤ q → A q := fun q h => by rw [← hAe]; exact Or.inr h
  have hS : va_S A s.heap s.heap [] := va_S.rf
  have hl := lv_entry ([.ref h0]) (n := 1) (Nat.le_of_ble_eq_true rfl)
  rw [lg_entry_eq]
  generalize (lg_sl ([.ref h0]) ++ List.replicate (1 - (lg_sl ([.ref h0])).length) Slot.unset).toArray = ls at hl ⊢
  have hl : lv_has ls 1 [(0, .ref h0)] := hl
  refine lv_aload_n hx hb dX6_undo_0 rfl (lv_at hl 0 rfl) ?_
  refine va_get (D := (dC, dI)) (ci := 6) (v := .int 0) (C := RX6) (T := TX6) (N := 20) hx hb hts hi6 hown hK hP 0 rfl rfl 7 (by decide) (hts _ (ow_m (k := 0) rfl)) (fun _ h9 => h9) rfl dX6_undo_1 ?_
  refine lv_if_ne (tgt := 9) hx hb dX6_undo_4 (by decide) (fun c733 => absurd (by decide) c733) (fun _ => ?_)
  refine lv_iconst (v := 0) hx hb dX6_undo_7 (by decide) ?_
  exact W.zret (v := 0) hx hb hr (by decide) (fun t ht hW => ⟨⟨0, (), rfl, rfl, cE.nil⟩, hS.F ht⟩) hS.2.2 dX6_undo_8
def wo_c_C_redo : List Cond := [.fieldLink RX6 100 "ReplicaChain" "at" "I", .fieldLink RX6 103 "ReplicaChain" "top" "I"]
def wq_c_C_redo : List Cond := .code yX6_redo cX6_redo 1 (some .boolean) :: (wo_c_C_redo ++ (wsX60 ++ []))
theorem gd_c_C_redo : Gd wq_c_C_redo := gd_c (gd_a (gd_o (by decide +kernel)) (gd_a gd_u gd_0))
abbrev wc_c_C_redo (cyB cyI cyJ cyZ cyO : ClassId) (h0 : Nat) (ad : Nat → Nat) : va_W := [(h0, .inr (6, [.ref (ad 0), .int 0, .ref (ad 2), .ref (ad 3), .ref (ad 4), .ref (ad 5), .ref (ad 6), .int 0, .int 0, .ref (ad 9), .ref (ad 10), .ref (ad 11), .ref (ad 12), .ref (ad 13), .int 0, .ref (ad 15), .int 0, .ref (ad 17), .ref (ad 18), .int 0]))]
set_option maxHeartbeats 4000000 in
set_option maxRecDepth 100000 in
theorem c_C_redo (l : Launch) (dC : Nat → ClassId) (dI : Nat → Nat → Nat) (cyB cyI cyJ cyZ cyO : ClassId) (h0 : Nat) (ad : Nat → Nat) (sz : Nat) : Met l yX6_redo wq_c_C_redo ({ frames := 0, cells := 0, slots := 0, locals := 0 }) (va_Pc [.ref h0] (cB (dC, dI) (kT cyB cyI cyJ cyZ cyO) (wc_c_C_redo cyB cyI cyJ cyZ cyO h0 ad) sz)) (va_Qi (fun (r : Int32) (_ : Unit) => r = 0) (fun (u : Unit) t => cE (dC, dI) (va_A (wc_c_C_redo cyB cyI cyJ cyZ cyO h0 ad) sz) ([]) t.heap) (va_A (wc_c_C_redo cyB cyI cyJ cyZ cyO h0 ad) sz)) 0 0 (va_A (wc_c_C_redo cyB cyI cyJ cyZ cyO h0 ad) sz) := by
  refine Met.ofW (cc := cX6_redo) (maxL := 1) (ret := (some .boolean)) (by decide) rfl ?_
  intro p e s m args below meth c s₁ B hml hv
  obtain ⟨rfl, hsz, hP, hKN, hD0⟩ := hv
  have hx := B.exec
  have hb := B.bytes
  have hr := B.returns
  have hts := atoms_spec (ws := wq_c_C_redo) B.pre
  have hown : s.vm.findClass RX6 = some m.cls := findClass_of_methodNamed B.named
  have hlocks := B.notSynchronized
  have hK := hKN.1
  have hfix : CallFix p m c cX6_redo 1 s [.ref h0].toArray wq_c_C_redo RX6 := ⟨hx, hb, hml, hown, hts⟩
  have hi6 : ∀ w ∈ wsX60, w ∈ wq_c_C_redo := (sb_c sb_l)
  subst hsz
  have hD := hD0.self (sz := s.heap.size)
  generalize hAe : va_A (wc_c_C_redo cyB cyI cyJ cyZ cyO h0 ad) s.heap.size = A at hD ⊢
  have hA : ∀ q : Nat, s.heap.size ≤ q → A q := fun q h => by rw [← hAe]; exact Or.inr h
  have hS : va_S A s.heap s.heap [] := va_S.rf
  have hl := lv_entry ([.ref h0]) (n := 1) (Nat.le_of_ble_eq_true rfl)
  rw [lg_entry_eq]
  generalize (lg_sl ([.ref h0]) ++ List.replicate (1 - (lg_sl ([.ref h0])).length) Slot.unset).toArray = ls at hl ⊢
  have hl : lv_has ls 1 [(0, .ref h0)] := hl
  refine lv_aload_n hx hb dX6_redo_0 rfl (lv_at hl 0 rfl) ?_
  refine va_get (D := (dC, dI)) (ci := 6) (v := .int 0) (C := RX6) (T := TX6) (N := 20) hx hb hts hi6 hown hK hP 0 rfl rfl 7 (by decide) (hts _ (ow_m (k := 0) rfl)) (fun _ h9 => h9) rfl dX6_redo_1 ?_
  refine lv_aload_n hx hb dX6_redo_4 rfl (lv_at hl 0 rfl) ?_
  refine va_get (D := (dC, dI)) (ci := 6) (v := .int 0) (C := RX6) (T := TX6) (N := 20) hx hb hts hi6 hown hK hP 0 rfl rfl 8 (by decide) (hts _ (ow_m (k := 1) rfl)) (fun _ h9 => h9) rfl dX6_redo_5 ?_
  refine lv_icmp_lt (tgt := 13) hx hb dX6_redo_8 (by decide) (fun c735 => absurd c735 (by decide)) (fun _ => ?_)
  refine lv_iconst (v := 0) hx hb dX6_redo_11 (by decide) ?_
  exact W.zret (v := 0) hx hb hr (by decide) (fun t ht hW => ⟨⟨0, (), rfl, rfl, cE.nil⟩, hS.F ht⟩) hS.2.2 dX6_redo_12
def wo_c_C_read : List Cond := [.methodLink RX6 239 yX6_isMember, .instanceMethod yX6_isMember, .selects RX6 yX6_isMember yX6_isMember, .initialized RX6]
def wq_c_C_read : List Cond := .code yX6_read cX6_read 4 (some .int) :: (wo_c_C_read ++ (wq_k_X6_isMember ++ []))
theorem gd_c_C_read : Gd wq_c_C_read := gd_c (gd_a (gd_o (by decide +kernel)) (gd_a gd_k_X6_isMember gd_0))
abbrev wc_c_C_read (cyB cyI cyJ cyZ cyO : ClassId) (h0 : Nat) (ad : Nat → Nat) (pd : Nat → Nat) (x1 : Int32) (x2 : Int32) : va_W := [(h0, .inr (6, [.ref (ad 0), .int 0, .ref (ad 2), .ref (ad 3), .ref (ad 4), .ref (ad 5), .ref (ad 6), .int 0, .int 0, .ref (ad 9), .ref (ad 10), .ref (ad 11), .ref (ad 12), .ref (ad 13), .int 0, .ref (ad 15), .int 0, .ref (ad 17), .ref (ad 18), .int 0])), (ad 2, .inr (1, [.ref (pd 0), .ref (pd 1), .ref (pd 2), .ref (pd 3), .int 0, .int 0, .int 0, .int 0, .int 2, .int 0, .int 0]))]
set_option maxHeartbeats 4000000 in
set_option maxRecDepth 100000 in
theorem c_C_read (l : Launch) (dC : Nat → ClassId) (dI : Nat → Nat → Nat) (cyB cyI cyJ cyZ cyO : ClassId) (h0 : Nat) (ad : Nat → Nat) (pd : Nat → Nat) (x1 : Int32) (x2 : Int32) (sz : Nat) : Met l yX6_read wq_c_C_read ({ frames := 2, cells := 0, slots := 0, locals := 42 }) (va_Pc [.ref h0, .int x1, .int x2] (cB (dC, dI) (kT cyB cyI cyJ cyZ cyO) (wc_c_C_read cyB cyI cyJ cyZ cyO h0 ad pd x1 x2) sz)) (va_Qi (fun (r : Int32) (_ : Unit) => r = -2) (fun (u : Unit) t => cE (dC, dI) (va_A (wc_c_C_read cyB cyI cyJ cyZ cyO h0 ad pd x1 x2) sz) ([]) t.heap) (va_A (wc_c_C_read cyB cyI cyJ cyZ cyO h0 ad pd x1 x2) sz)) 0 0 (va_A (wc_c_C_read cyB cyI cyJ cyZ cyO h0 ad pd x1 x2) sz) := by
  refine Met.ofW (cc := cX6_read) (maxL := 4) (ret := (some .int)) (by decide) rfl ?_
  intro p e s m args below meth c s₁ B hml hv
  obtain ⟨rfl, hsz, hP, hKN, hD0⟩ := hv
  have hx := B.exec
  have hb := B.bytes
  have hr := B.returns
  have hts := atoms_spec (ws := wq_c_C_read) B.pre
  have hown : s.vm.findClass RX6 = some m.cls := findClass_of_methodNamed B.named
  have hlocks := B.notSynchronized
  have hK := hKN.1
  have hfix : CallFix p m c cX6_read 4 s [.ref h0, .int x1, .int x2].toArray wq_c_C_read RX6 := ⟨hx, hb, hml, hown, hts⟩
  subst hsz
  have hD := hD0.self (sz := s.heap.size)
  generalize hAe : va_A (wc_c_C_read cyB cyI cyJ cyZ cyO h0 ad pd x1 x2) s.heap.size = A at hD ⊢
  have hA : ∀ q : Nat, s.heap.size ≤ q → A q := fun q h => by rw [← hAe]; exact Or.inr h
  have hS : va_S A s.heap s.heap [] := va_S.rf
  have hl := lv_entry ([.ref h0, .int x1, .int x2]) (n := 4) (Nat.le_of_ble_eq_true rfl)
  rw [lg_entry_eq]
  generalize (lg_sl ([.ref h0, .int x1, .int x2]) ++ List.replicate (4 - (lg_sl ([.ref h0, .int x1, .int x2])).length) Slot.unset).toArray = ls at hl ⊢
  have hl : lv_has ls 4 [(0, .ref h0), (1, .int x1), (2, .int x2)] := hl
  refine lv_aload_n hx hb dX6_read_0 rfl (lv_at hl 0 rfl) ?_
  refine lv_iload_n hx hb dX6_read_1 rfl (lv_at hl 1 rfl) ?_
  refine gf_i (wr := []) (va_runV (As := [.int x1]) (rest := []) hfix (k_X6_isMember l dC dI cyB cyI cyJ cyZ cyO h0 ad pd x1 _) (cwV 1 hts (gi_V (ow_m (k := 0) rfl) (ow_m (k := 1) rfl) (ow_m (k := 2) rfl) (ow_m (k := 3) rfl) (sb_c sb_l) gd_k_X6_isMember) rfl rfl rfl (by decide +kernel) ⟨Nat.le_of_ble_eq_true rfl, Nat.le_of_ble_eq_true rfl⟩) (g_preV hKN hP hD [0, 1] rfl (by decide) 0 6 rfl rfl) rfl rfl hl.1 rfl (lv_room (Nat.le_of_ble_eq_true rfl)) dX6_read_2 ⟨Nat.le_of_ble_eq_true rfl, Nat.le_of_ble_eq_true rfl⟩) hP hD hS hA [0, 1] [] rfl rfl (by decide) (by decide) (fun r761 u762 H locs qu762 hP hD hS => ?_)
  have hP : va_P (dC, dI) vwCl [(h0, .inr (6, [.ref (ad 0), .int 0, .ref (ad 2), .ref (ad 3), .ref (ad 4), .ref (ad 5), .ref (ad 6), .int 0, .int 0, .ref (ad 9), .ref (ad 10), .ref (ad 11), .ref (ad 12), .ref (ad 13), .int 0, .ref (ad 15), .int 0, .ref (ad 17), .ref (ad 18), .int 0])), (ad 2, .inr (1, [.ref (pd 0), .ref (pd 1), .ref (pd 2), .ref (pd 3), .int 0, .int 0, .int 0, .int 0, .int 2, .int 0, .int 0]))] H := hP
  have hD : va_D A [(h0, .inr (6, [.ref (ad 0), .int 0, .ref (ad 2), .ref (ad 3), .ref (ad 4), .ref (ad 5), .ref (ad 6), .int 0, .int 0, .ref (ad 9), .ref (ad 10), .ref (ad 11), .ref (ad 12), .ref (ad 13), .int 0, .ref (ad 15), .int 0, .ref (ad 17), .ref (ad 18), .int 0])), (ad 2, .inr (1, [.ref (pd 0), .ref (pd 1), .ref (pd 2), .ref (pd 3), .int 0, .int 0, .int 0, .int 0, .int 2, .int 0, .int 0]))] := hD
  rcases qu762 with ⟨rfl, b763⟩ | ⟨rfl, b764, b765⟩
  · skip
    refine lv_if_eq (tgt := 16) hx hb dX6_read_5 (by decide) (fun _ => ?_) (fun c766 => absurd (by decide) c766)
    refine lv_bipush (v := (-2)) hx hb dX6_read_16 (by decide) ?_
    exact W.iret (v := (-2)) hx hb hr (fun t ht hW => ⟨⟨(-2), (), rfl, rfl, cE.nil⟩, hS.F ht⟩) hS.2.2 dX6_read_18
  · skip
    refine lv_if_eq (tgt := 16) hx hb dX6_read_5 (by decide) (fun _ => ?_) (fun c767 => absurd (by decide) c767)
    refine lv_bipush (v := (-2)) hx hb dX6_read_16 (by decide) ?_
    exact W.iret (v := (-2)) hx hb hr (fun t ht hW => ⟨⟨(-2), (), rfl, rfl, cE.nil⟩, hS.F ht⟩) hS.2.2 dX6_read_18
def wo_c_C_lazy : List Cond := [.methodLink RX6 239 yX6_isMember, .instanceMethod yX6_isMember, .selects RX6 yX6_isMember yX6_isMember, .initialized RX6]
def wq_c_C_lazy : List Cond := .code yX6_lazy cX6_lazy 3 (some .int) :: (wo_c_C_lazy ++ (wq_k_X6_isMember ++ []))
theorem gd_c_C_lazy : Gd wq_c_C_lazy := gd_c (gd_a (gd_o (by decide +kernel)) (gd_a gd_k_X6_isMember gd_0))
abbrev wc_c_C_lazy (cyB cyI cyJ cyZ cyO : ClassId) (h0 : Nat) (ad : Nat → Nat) (pd : Nat → Nat) (x1 : Int32) (x2 : Int32) : va_W := [(h0, .inr (6, [.ref (ad 0), .int 0, .ref (ad 2), .ref (ad 3), .ref (ad 4), .ref (ad 5), .ref (ad 6), .int 0, .int 0, .ref (ad 9), .ref (ad 10), .ref (ad 11), .ref (ad 12), .ref (ad 13), .int 0, .ref (ad 15), .int 0, .ref (ad 17), .ref (ad 18), .int 0])), (ad 2, .inr (1, [.ref (pd 0), .ref (pd 1), .ref (pd 2), .ref (pd 3), .int 0, .int 0, .int 0, .int 0, .int 2, .int 0, .int 0]))]
set_option maxHeartbeats 4000000 in
set_option maxRecDepth 100000 in
theorem c_C_lazy (l : Launch) (dC : Nat → ClassId) (dI : Nat → Nat → Nat) (cyB cyI cyJ cyZ cyO : ClassId) (h0 : Nat) (ad : Nat → Nat) (pd : Nat → Nat) (x1 : Int32) (x2 : Int32) (sz : Nat) : Met l yX6_lazy wq_c_C_lazy ({ frames := 2, cells := 0, slots := 0, locals := 42 }) (va_Pc [.ref h0, .int x1, .int x2] (cB (dC, dI) (kT cyB cyI cyJ cyZ cyO) (wc_c_C_lazy cyB cyI cyJ cyZ cyO h0 ad pd x1 x2) sz)) (va_Qi (fun (r : Int32) (_ : Unit) => r = -2) (fun (u : Unit) t => cE (dC, dI) (va_A (wc_c_C_lazy cyB cyI cyJ cyZ cyO h0 ad pd x1 x2) sz) ([]) t.heap) (va_A (wc_c_C_lazy cyB cyI cyJ cyZ cyO h0 ad pd x1 x2) sz)) 0 0 (va_A (wc_c_C_lazy cyB cyI cyJ cyZ cyO h0 ad pd x1 x2) sz) := by
  refine Met.ofW (cc := cX6_lazy) (maxL := 3) (ret := (some .int)) (by decide) rfl ?_
  intro p e s m args below meth c s₁ B hml hv
  obtain ⟨rfl, hsz, hP, hKN, hD0⟩ := hv
  have hx := B.exec
  have hb := B.bytes
  have hr := B.returns
  have hts := atoms_spec (ws := wq_c_C_lazy) B.pre
  have hown : s.vm.findClass RX6 = some m.cls := findClass_of_methodNamed B.named
  have hlocks := B.notSynchronized
  have hK := hKN.1
  have hfix : CallFix p m c cX6_lazy 3 s [.ref h0, .int x1, .int x2].toArray wq_c_C_lazy RX6 := ⟨hx, hb, hml, hown, hts⟩
  subst hsz
  have hD := hD0.self (sz := s.heap.size)
  generalize hAe : va_A (wc_c_C_lazy cyB cyI cyJ cyZ cyO h0 ad pd x1 x2) s.heap.size = A at hD ⊢
  have hA : ∀ q : Nat, s.heap.size ≤ q → A q := fun q h => by rw [← hAe]; exact Or.inr h
  have hS : va_S A s.heap s.heap [] := va_S.rf
  have hl := lv_entry ([.ref h0, .int x1, .int x2]) (n := 3) (Nat.le_of_ble_eq_true rfl)
  rw [lg_entry_eq]
  generalize (lg_sl ([.ref h0, .int x1, .int x2]) ++ List.replicate (3 - (lg_sl ([.ref h0, .int x1, .int x2])).length) Slot.unset).toArray = ls at hl ⊢
  have hl : lv_has ls 3 [(0, .ref h0), (1, .int x1), (2, .int x2)] := hl
  refine lv_aload_n hx hb dX6_lazy_0 rfl (lv_at hl 0 rfl) ?_
  refine lv_iload_n hx hb dX6_lazy_1 rfl (lv_at hl 1 rfl) ?_
  refine gf_i (wr := []) (va_runV (As := [.int x1]) (rest := []) hfix (k_X6_isMember l dC dI cyB cyI cyJ cyZ cyO h0 ad pd x1 _) (cwV 1 hts (gi_V (ow_m (k := 0) rfl) (ow_m (k := 1) rfl) (ow_m (k := 2) rfl) (ow_m (k := 3) rfl) (sb_c sb_l) gd_k_X6_isMember) rfl rfl rfl (by decide +kernel) ⟨Nat.le_of_ble_eq_true rfl, Nat.le_of_ble_eq_true rfl⟩) (g_preV hKN hP hD [0, 1] rfl (by decide) 0 6 rfl rfl) rfl rfl hl.1 rfl (lv_room (Nat.le_of_ble_eq_true rfl)) dX6_lazy_2 ⟨Nat.le_of_ble_eq_true rfl, Nat.le_of_ble_eq_true rfl⟩) hP hD hS hA [0, 1] [] rfl rfl (by decide) (by decide) (fun r793 u794 H locs qu794 hP hD hS => ?_)
  have hP : va_P (dC, dI) vwCl [(h0, .inr (6, [.ref (ad 0), .int 0, .ref (ad 2), .ref (ad 3), .ref (ad 4), .ref (ad 5), .ref (ad 6), .int 0, .int 0, .ref (ad 9), .ref (ad 10), .ref (ad 11), .ref (ad 12), .ref (ad 13), .int 0, .ref (ad 15), .int 0, .ref (ad 17), .ref (ad 18), .int 0])), (ad 2, .inr (1, [.ref (pd 0), .ref (pd 1), .ref (pd 2), .ref (pd 3), .int 0, .int 0, .int 0, .int 0, .int 2, .int 0, .int 0]))] H := hP
  have hD : va_D A [(h0, .inr (6, [.ref (ad 0), .int 0, .ref (ad 2), .ref (ad 3), .ref (ad 4), .ref (ad 5), .ref (ad 6), .int 0, .int 0, .ref (ad 9), .ref (ad 10), .ref (ad 11), .ref (ad 12), .ref (ad 13), .int 0, .ref (ad 15), .int 0, .ref (ad 17), .ref (ad 18), .int 0])), (ad 2, .inr (1, [.ref (pd 0), .ref (pd 1), .ref (pd 2), .ref (pd 3), .int 0, .int 0, .int 0, .int 0, .int 2, .int 0, .int 0]))] := hD
  rcases qu794 with ⟨rfl, b795⟩ | ⟨rfl, b796, b797⟩
  · skip
    refine lv_if_eq (tgt := 16) hx hb dX6_lazy_5 (by decide) (fun _ => ?_) (fun c798 => absurd (by decide) c798)
    refine lv_bipush (v := (-2)) hx hb dX6_lazy_16 (by decide) ?_
    exact W.iret (v := (-2)) hx hb hr (fun t ht hW => ⟨⟨(-2), (), rfl, rfl, cE.nil⟩, hS.F ht⟩) hS.2.2 dX6_lazy_18
  · skip
    refine lv_if_eq (tgt := 16) hx hb dX6_lazy_5 (by decide) (fun _ => ?_) (fun c799 => absurd (by decide) c799)
    refine lv_bipush (v := (-2)) hx hb dX6_lazy_16 (by decide) ?_
    exact W.iret (v := (-2)) hx hb hr (fun t ht hW => ⟨⟨(-2), (), rfl, rfl, cE.nil⟩, hS.F ht⟩) hS.2.2 dX6_lazy_18
def wo_k_X6_isKey : List Cond := [.fieldLink RX6 16 "ReplicaChain" "plan" "LReplicaChain$Plan;", .fieldLink RX6 182 "ReplicaChain$Plan" "keyCount" "I"]
def wq_k_X6_isKey : List Cond := .code yX6_isKey cX6_isKey 2 (some .boolean) :: (wo_k_X6_isKey ++ (wsX10 ++ (wsX60 ++ [])))
theorem gd_k_X6_isKey : Gd wq_k_X6_isKey := gd_c (gd_a (gd_o (by decide +kernel)) (gd_a gd_u (gd_a gd_u gd_0)))
abbrev wc_k_X6_isKey (cyB cyI cyJ cyZ cyO : ClassId) (h0 : Nat) (ad : Nat → Nat) (pd : Nat → Nat) (a1 : Int32) : va_W := [(h0, .inr (6, [.ref (ad 0), .int 0, .ref (ad 2), .ref (ad 3), .ref (ad 4), .ref (ad 5), .ref (ad 6), .int 0, .int 0, .ref (ad 9), .ref (ad 10), .ref (ad 11), .ref (ad 12), .ref (ad 13), .int 0, .ref (ad 15), .int 0, .ref (ad 17), .ref (ad 18), .int 0])), (ad 2, .inr (1, [.ref (pd 0), .ref (pd 1), .ref (pd 2), .ref (pd 3), .int 0, .int 0, .int 0, .int 0, .int 2, .int 0, .int 0]))]
set_option maxHeartbeats 4000000 in
set_option maxRecDepth 100000 in
theorem k_X6_isKey (l : Launch) (dC : Nat → ClassId) (dI : Nat → Nat → Nat) (cyB cyI cyJ cyZ cyO : ClassId) (h0 : Nat) (ad : Nat → Nat) (pd : Nat → Nat) (a1 : Int32) (sz : Nat) : Met l yX6_isKey wq_k_X6_isKey ({ frames := 0, cells := 0, slots := 0, locals := 0 }) (va_Pc [.ref h0, .int a1] (cB (dC, dI) (kT cyB cyI cyJ cyZ cyO) (wc_k_X6_isKey cyB cyI cyJ cyZ cyO h0 ad pd a1) sz)) (va_Qi (fun (r : Int32) _ => (r = 0 ∧ a1.toInt < 0) ∨ (r = 0 ∧ 0 ≤ a1.toInt ∧ 0 ≤ a1.toInt)) (fun (u : Unit) t => cE (dC, dI) (va_A (wc_k_X6_isKey cyB cyI cyJ cyZ cyO h0 ad pd a1) sz) ([(h0, .inr (6, [.ref (ad 0), .int 0, .ref (ad 2), .ref (ad 3), .ref (ad 4), .ref (ad 5), .ref (ad 6), .int 0, .int 0, .ref (ad 9), .ref (ad 10), .ref (ad 11), .ref (ad 12), .ref (ad 13), .int 0, .ref (ad 15), .int 0, .ref (ad 17), .ref (ad 18), .int 0])), (ad 2, .inr (1, [.ref (pd 0), .ref (pd 1), .ref (pd 2), .ref (pd 3), .int 0, .int 0, .int 0, .int 0, .int 2, .int 0, .int 0]))]) t.heap) (va_A (wc_k_X6_isKey cyB cyI cyJ cyZ cyO h0 ad pd a1) sz)) 0 0 (va_A (wc_k_X6_isKey cyB cyI cyJ cyZ cyO h0 ad pd a1) sz) := by
  refine Met.ofW (cc := cX6_isKey) (maxL := 2) (ret := (some .boolean)) (by decide) rfl ?_
  intro p e s m args below meth c s₁ B hml hv
  obtain ⟨rfl, hsz, hP, hKN, hD0⟩ := hv
  have hx := B.exec
  have hb := B.bytes
  have hr := B.returns
  have hts := atoms_spec (ws := wq_k_X6_isKey) B.pre
  have hown : s.vm.findClass RX6 = some m.cls := findClass_of_methodNamed B.named
  have hlocks := B.notSynchronized
  have hK := hKN.1
  have hfix : CallFix p m c cX6_isKey 2 s [.ref h0, .int a1].toArray wq_k_X6_isKey RX6 := ⟨hx, hb, hml, hown, hts⟩
  have hi1 : ∀ w ∈ wsX10, w ∈ wq_k_X6_isKey := (sb_c sb_l)
  have hi6 : ∀ w ∈ wsX60, w ∈ wq_k_X6_isKey := (sb_c (sb_r sb_l))
  subst hsz
  have hD := hD0.self (sz := s.heap.size)
  generalize hAe : va_A (wc_k_X6_isKey cyB cyI cyJ cyZ cyO h0 ad pd a1) s.heap.size = A at hD ⊢
  have hA : ∀ q : Nat, s.heap.size ≤ q → A q := fun q h => by rw [← hAe]; exact Or.inr h
  have hS : va_S A s.heap s.heap [] := va_S.rf
  have hl := lv_entry ([.ref h0, .int a1]) (n := 2) (Nat.le_of_ble_eq_true rfl)
  rw [lg_entry_eq]
  generalize (lg_sl ([.ref h0, .int a1]) ++ List.replicate (2 - (lg_sl ([.ref h0, .int a1])).length) Slot.unset).toArray = ls at hl ⊢
  have hl : lv_has ls 2 [(0, .ref h0), (1, .int a1)] := hl
  refine lv_iload_n hx hb dX6_isKey_0 rfl (lv_at hl 1 rfl) ?_
  refine lv_if_lt (tgt := 19) hx hb dX6_isKey_1 (by decide) (fun c802 => ?_) (fun c802 => ?_)
  · have c802 := i_lt (a := a1.toInt) (b := 0) c802 rfl (by decide)
    refine lv_iconst (v := 0) hx hb dX6_isKey_19 (by decide) ?_
    exact W.zret (v := 0) hx hb hr (by decide) (fun t ht hW => ⟨⟨0, (), rfl, (Or.inl ⟨rfl, c802⟩), cE.of ht hP hD [0, 1] (by decide) rfl⟩, hS.F ht⟩) hS.2.2 dX6_isKey_20
  · have c802 := i_nlt (a := a1.toInt) (b := 0) c802 rfl (by decide)
    refine lv_iload_n hx hb dX6_isKey_4 rfl (lv_at hl 1 rfl) ?_
    refine lv_aload_n hx hb dX6_isKey_5 rfl (lv_at hl 0 rfl) ?_
    refine va_get (D := (dC, dI)) (ci := 6) (v := .ref (ad 2)) (C := RX6) (T := TX6) (N := 20) hx hb hts hi6 hown hK hP 0 rfl rfl 2 (by decide) (hts _ (ow_m (k := 0) rfl)) (fun _ h9 => h9) rfl dX6_isKey_6 ?_
    refine va_get (D := (dC, dI)) (ci := 1) (v := .int 0) (C := RX1) (T := TX1) (N := 11) hx hb hts hi1 hown hK hP 1 rfl rfl 6 (by decide) (hts _ (ow_m (k := 1) rfl)) (fun _ h9 => h9) rfl dX6_isKey_9 ?_
    refine lv_icmp_ge (tgt := 19) hx hb dX6_isKey_12 (by decide) (fun c803 => ?_) (fun c803 => ?_)
    · have c803 := i_le (a := 0) (b := a1.toInt) c803 (by decide) rfl
      refine lv_iconst (v := 0) hx hb dX6_isKey_19 (by decide) ?_
      exact W.zret (v := 0) hx hb hr (by decide) (fun t ht hW => ⟨⟨0, (), rfl, (Or.inr ⟨rfl, c802, c803⟩), cE.of ht hP hD [0, 1] (by decide) rfl⟩, hS.F ht⟩) hS.2.2 dX6_isKey_20
    · have c803 := i_nle (a := 0) (b := a1.toInt) c803 (by decide) rfl
      exfalso; omega
def wo_c_C_askers : List Cond := [.methodLink RX6 215 yX6_isKey, .instanceMethod yX6_isKey, .selects RX6 yX6_isKey yX6_isKey, .initialized RX6]
def wq_c_C_askers : List Cond := .code yX6_askers cX6_askers 5 (some .int) :: (wo_c_C_askers ++ (wq_k_X6_isKey ++ []))
theorem gd_c_C_askers : Gd wq_c_C_askers := gd_c (gd_a (gd_o (by decide +kernel)) (gd_a gd_k_X6_isKey gd_0))
abbrev wc_c_C_askers (cyB cyI cyJ cyZ cyO : ClassId) (h0 : Nat) (ad : Nat → Nat) (pd : Nat → Nat) (x1 : Int32) : va_W := [(h0, .inr (6, [.ref (ad 0), .int 0, .ref (ad 2), .ref (ad 3), .ref (ad 4), .ref (ad 5), .ref (ad 6), .int 0, .int 0, .ref (ad 9), .ref (ad 10), .ref (ad 11), .ref (ad 12), .ref (ad 13), .int 0, .ref (ad 15), .int 0, .ref (ad 17), .ref (ad 18), .int 0])), (ad 2, .inr (1, [.ref (pd 0), .ref (pd 1), .ref (pd 2), .ref (pd 3), .int 0, .int 0, .int 0, .int 0, .int 2, .int 0, .int 0]))]
set_option maxHeartbeats 4000000 in
set_option maxRecDepth 100000 in
theorem c_C_askers (l : Launch) (dC : Nat → ClassId) (dI : Nat → Nat → Nat) (cyB cyI cyJ cyZ cyO : ClassId) (h0 : Nat) (ad : Nat → Nat) (pd : Nat → Nat) (x1 : Int32) (sz : Nat) : Met l yX6_askers wq_c_C_askers ({ frames := 1, cells := 0, slots := 0, locals := 21 }) (va_Pc [.ref h0, .int x1] (cB (dC, dI) (kT cyB cyI cyJ cyZ cyO) (wc_c_C_askers cyB cyI cyJ cyZ cyO h0 ad pd x1) sz)) (va_Qi (fun (r : Int32) (_ : Unit) => r = -1) (fun (u : Unit) t => cE (dC, dI) (va_A (wc_c_C_askers cyB cyI cyJ cyZ cyO h0 ad pd x1) sz) ([]) t.heap) (va_A (wc_c_C_askers cyB cyI cyJ cyZ cyO h0 ad pd x1) sz)) 0 0 (va_A (wc_c_C_askers cyB cyI cyJ cyZ cyO h0 ad pd x1) sz) := by
  refine Met.ofW (cc := cX6_askers) (maxL := 5) (ret := (some .int)) (by decide) rfl ?_
  intro p e s m args below meth c s₁ B hml hv
  obtain ⟨rfl, hsz, hP, hKN, hD0⟩ := hv
  have hx := B.exec
  have hb := B.bytes
  have hr := B.returns
  have hts := atoms_spec (ws := wq_c_C_askers) B.pre
  have hown : s.vm.findClass RX6 = some m.cls := findClass_of_methodNamed B.named
  have hlocks := B.notSynchronized
  have hK := hKN.1
  have hfix : CallFix p m c cX6_askers 5 s [.ref h0, .int x1].toArray wq_c_C_askers RX6 := ⟨hx, hb, hml, hown, hts⟩
  subst hsz
  have hD := hD0.self (sz := s.heap.size)
  generalize hAe : va_A (wc_c_C_askers cyB cyI cyJ cyZ cyO h0 ad pd x1) s.heap.size = A at hD ⊢
  have hA : ∀ q : Nat, s.heap.size ≤ q → A q := fun q h => by rw [← hAe]; exact Or.inr h
  have hS : va_S A s.heap s.heap [] := va_S.rf
  have hl := lv_entry ([.ref h0, .int x1]) (n := 5) (Nat.le_of_ble_eq_true rfl)
  rw [lg_entry_eq]
  generalize (lg_sl ([.ref h0, .int x1]) ++ List.replicate (5 - (lg_sl ([.ref h0, .int x1])).length) Slot.unset).toArray = ls at hl ⊢
  have hl : lv_has ls 5 [(0, .ref h0), (1, .int x1)] := hl
  refine lv_aload_n hx hb dX6_askers_0 rfl (lv_at hl 0 rfl) ?_
  refine lv_iload_n hx hb dX6_askers_1 rfl (lv_at hl 1 rfl) ?_
  refine gf_i (wr := []) (va_runV (As := [.int x1]) (rest := []) hfix (k_X6_isKey l dC dI cyB cyI cyJ cyZ cyO h0 ad pd x1 _) (cwV 1 hts (gi_V (ow_m (k := 0) rfl) (ow_m (k := 1) rfl) (ow_m (k := 2) rfl) (ow_m (k := 3) rfl) (sb_c sb_l) gd_k_X6_isKey) rfl rfl rfl (by decide +kernel) ⟨Nat.le_of_ble_eq_true rfl, Nat.le_of_ble_eq_true rfl⟩) (g_preV hKN hP hD [0, 1] rfl (by decide) 0 6 rfl rfl) rfl rfl hl.1 rfl (lv_room (Nat.le_of_ble_eq_true rfl)) dX6_askers_2 ⟨Nat.le_of_ble_eq_true rfl, Nat.le_of_ble_eq_true rfl⟩) hP hD hS hA [0, 1] [] rfl rfl (by decide) (by decide) (fun r813 u814 H locs qu814 hP hD hS => ?_)
  have hP : va_P (dC, dI) vwCl [(h0, .inr (6, [.ref (ad 0), .int 0, .ref (ad 2), .ref (ad 3), .ref (ad 4), .ref (ad 5), .ref (ad 6), .int 0, .int 0, .ref (ad 9), .ref (ad 10), .ref (ad 11), .ref (ad 12), .ref (ad 13), .int 0, .ref (ad 15), .int 0, .ref (ad 17), .ref (ad 18), .int 0])), (ad 2, .inr (1, [.ref (pd 0), .ref (pd 1), .ref (pd 2), .ref (pd 3), .int 0, .int 0, .int 0, .int 0, .int 2, .int 0, .int 0]))] H := hP
  have hD : va_D A [(h0, .inr (6, [.ref (ad 0), .int 0, .ref (ad 2), .ref (ad 3), .ref (ad 4), .ref (ad 5), .ref (ad 6), .int 0, .int 0, .ref (ad 9), .ref (ad 10), .ref (ad 11), .ref (ad 12), .ref (ad 13), .int 0, .ref (ad 15), .int 0, .ref (ad 17), .ref (ad 18), .int 0])), (ad 2, .inr (1, [.ref (pd 0), .ref (pd 1), .ref (pd 2), .ref (pd 3), .int 0, .int 0, .int 0, .int 0, .int 2, .int 0, .int 0]))] := hD
  rcases qu814 with ⟨rfl, b815⟩ | ⟨rfl, b816, b817⟩
  · skip
    refine lv_if_ne (tgt := 10) hx hb dX6_askers_5 (by decide) (fun c818 => absurd (by decide) c818) (fun _ => ?_)
    refine lv_iconst (v := (-1)) hx hb dX6_askers_8 (by decide) ?_
    exact W.iret (v := (-1)) hx hb hr (fun t ht hW => ⟨⟨(-1), (), rfl, rfl, cE.nil⟩, hS.F ht⟩) hS.2.2 dX6_askers_9
  · skip
    refine lv_if_ne (tgt := 10) hx hb dX6_askers_5 (by decide) (fun c819 => absurd (by decide) c819) (fun _ => ?_)
    refine lv_iconst (v := (-1)) hx hb dX6_askers_8 (by decide) ?_
    exact W.iret (v := (-1)) hx hb hr (fun t ht hW => ⟨⟨(-1), (), rfl, rfl, cE.nil⟩, hS.F ht⟩) hS.2.2 dX6_askers_9
def wo_c_C_stale : List Cond := [.methodLink RX6 215 yX6_isKey, .instanceMethod yX6_isKey, .selects RX6 yX6_isKey yX6_isKey, .initialized RX6]
def wq_c_C_stale : List Cond := .code yX6_stale cX6_stale 6 (some .int) :: (wo_c_C_stale ++ (wq_k_X6_isKey ++ []))
theorem gd_c_C_stale : Gd wq_c_C_stale := gd_c (gd_a (gd_o (by decide +kernel)) (gd_a gd_k_X6_isKey gd_0))
abbrev wc_c_C_stale (cyB cyI cyJ cyZ cyO : ClassId) (h0 : Nat) (ad : Nat → Nat) (pd : Nat → Nat) (x1 : Int32) : va_W := [(h0, .inr (6, [.ref (ad 0), .int 0, .ref (ad 2), .ref (ad 3), .ref (ad 4), .ref (ad 5), .ref (ad 6), .int 0, .int 0, .ref (ad 9), .ref (ad 10), .ref (ad 11), .ref (ad 12), .ref (ad 13), .int 0, .ref (ad 15), .int 0, .ref (ad 17), .ref (ad 18), .int 0])), (ad 2, .inr (1, [.ref (pd 0), .ref (pd 1), .ref (pd 2), .ref (pd 3), .int 0, .int 0, .int 0, .int 0, .int 2, .int 0, .int 0]))]
set_option maxHeartbeats 4000000 in
set_option maxRecDepth 100000 in
theorem c_C_stale (l : Launch) (dC : Nat → ClassId) (dI : Nat → Nat → Nat) (cyB cyI cyJ cyZ cyO : ClassId) (h0 : Nat) (ad : Nat → Nat) (pd : Nat → Nat) (x1 : Int32) (sz : Nat) : Met l yX6_stale wq_c_C_stale ({ frames := 1, cells := 0, slots := 0, locals := 21 }) (va_Pc [.ref h0, .int x1] (cB (dC, dI) (kT cyB cyI cyJ cyZ cyO) (wc_c_C_stale cyB cyI cyJ cyZ cyO h0 ad pd x1) sz)) (va_Qi (fun (r : Int32) (_ : Unit) => r = -1) (fun (u : Unit) t => cE (dC, dI) (va_A (wc_c_C_stale cyB cyI cyJ cyZ cyO h0 ad pd x1) sz) ([]) t.heap) (va_A (wc_c_C_stale cyB cyI cyJ cyZ cyO h0 ad pd x1) sz)) 0 0 (va_A (wc_c_C_stale cyB cyI cyJ cyZ cyO h0 ad pd x1) sz) := by
  refine Met.ofW (cc := cX6_stale) (maxL := 6) (ret := (some .int)) (by decide) rfl ?_
  intro p e s m args below meth c s₁ B hml hv
  obtain ⟨rfl, hsz, hP, hKN, hD0⟩ := hv
  have hx := B.exec
  have hb := B.bytes
  have hr := B.returns
  have hts := atoms_spec (ws := wq_c_C_stale) B.pre
  have hown : s.vm.findClass RX6 = some m.cls := findClass_of_methodNamed B.named
  have hlocks := B.notSynchronized
  have hK := hKN.1
  have hfix : CallFix p m c cX6_stale 6 s [.ref h0, .int x1].toArray wq_c_C_stale RX6 := ⟨hx, hb, hml, hown, hts⟩
  subst hsz
  have hD := hD0.self (sz := s.heap.size)
  generalize hAe : va_A (wc_c_C_stale cyB cyI cyJ cyZ cyO h0 ad pd x1) s.heap.size = A at hD ⊢
  have hA : ∀ q : Nat, s.heap.size ≤ q → A q := fun q h => by rw [← hAe]; exact Or.inr h
  have hS : va_S A s.heap s.heap [] := va_S.rf
  have hl := lv_entry ([.ref h0, .int x1]) (n := 6) (Nat.le_of_ble_eq_true rfl)
  rw [lg_entry_eq]
  generalize (lg_sl ([.ref h0, .int x1]) ++ List.replicate (6 - (lg_sl ([.ref h0, .int x1])).length) Slot.unset).toArray = ls at hl ⊢
  have hl : lv_has ls 6 [(0, .ref h0), (1, .int x1)] := hl
  refine lv_aload_n hx hb dX6_stale_0 rfl (lv_at hl 0 rfl) ?_
  refine lv_iload_n hx hb dX6_stale_1 rfl (lv_at hl 1 rfl) ?_
  refine gf_i (wr := []) (va_runV (As := [.int x1]) (rest := []) hfix (k_X6_isKey l dC dI cyB cyI cyJ cyZ cyO h0 ad pd x1 _) (cwV 1 hts (gi_V (ow_m (k := 0) rfl) (ow_m (k := 1) rfl) (ow_m (k := 2) rfl) (ow_m (k := 3) rfl) (sb_c sb_l) gd_k_X6_isKey) rfl rfl rfl (by decide +kernel) ⟨Nat.le_of_ble_eq_true rfl, Nat.le_of_ble_eq_true rfl⟩) (g_preV hKN hP hD [0, 1] rfl (by decide) 0 6 rfl rfl) rfl rfl hl.1 rfl (lv_room (Nat.le_of_ble_eq_true rfl)) dX6_stale_2 ⟨Nat.le_of_ble_eq_true rfl, Nat.le_of_ble_eq_true rfl⟩) hP hD hS hA [0, 1] [] rfl rfl (by decide) (by decide) (fun r831 u832 H locs qu832 hP hD hS => ?_)
  have hP : va_P (dC, dI) vwCl [(h0, .inr (6, [.ref (ad 0), .int 0, .ref (ad 2), .ref (ad 3), .ref (ad 4), .ref (ad 5), .ref (ad 6), .int 0, .int 0, .ref (ad 9), .ref (ad 10), .ref (ad 11), .ref (ad 12), .ref (ad 13), .int 0, .ref (ad 15), .int 0, .ref (ad 17), .ref (ad 18), .int 0])), (ad 2, .inr (1, [.ref (pd 0), .ref (pd 1), .ref (pd 2), .ref (pd 3), .int 0, .int 0, .int 0, .int 0, .int 2, .int 0, .int 0]))] H := hP
  have hD : va_D A [(h0, .inr (6, [.ref (ad 0), .int 0, .ref (ad 2), .ref (ad 3), .ref (ad 4), .ref (ad 5), .ref (ad 6), .int 0, .int 0, .ref (ad 9), .ref (ad 10), .ref (ad 11), .ref (ad 12), .ref (ad 13), .int 0, .ref (ad 15), .int 0, .ref (ad 17), .ref (ad 18), .int 0])), (ad 2, .inr (1, [.ref (pd 0), .ref (pd 1), .ref (pd 2), .ref (pd 3), .int 0, .int 0, .int 0, .int 0, .int 2, .int 0, .int 0]))] := hD
  rcases qu832 with ⟨rfl, b833⟩ | ⟨rfl, b834, b835⟩
  · skip
    refine lv_if_ne (tgt := 10) hx hb dX6_stale_5 (by decide) (fun c836 => absurd (by decide) c836) (fun _ => ?_)
    refine lv_iconst (v := (-1)) hx hb dX6_stale_8 (by decide) ?_
    exact W.iret (v := (-1)) hx hb hr (fun t ht hW => ⟨⟨(-1), (), rfl, rfl, cE.nil⟩, hS.F ht⟩) hS.2.2 dX6_stale_9
  · skip
    refine lv_if_ne (tgt := 10) hx hb dX6_stale_5 (by decide) (fun c837 => absurd (by decide) c837) (fun _ => ?_)
    refine lv_iconst (v := (-1)) hx hb dX6_stale_8 (by decide) ?_
    exact W.iret (v := (-1)) hx hb hr (fun t ht hW => ⟨⟨(-1), (), rfl, rfl, cE.nil⟩, hS.F ht⟩) hS.2.2 dX6_stale_9
def wo_c_C_versions : List Cond := [.methodLink RX6 239 yX6_isMember, .instanceMethod yX6_isMember, .selects RX6 yX6_isMember yX6_isMember, .initialized RX6]
def wq_c_C_versions : List Cond := .code yX6_versions cX6_versions 3 (some .int) :: (wo_c_C_versions ++ (wq_k_X6_isMember ++ []))
theorem gd_c_C_versions : Gd wq_c_C_versions := gd_c (gd_a (gd_o (by decide +kernel)) (gd_a gd_k_X6_isMember gd_0))
abbrev wc_c_C_versions (cyB cyI cyJ cyZ cyO : ClassId) (h0 : Nat) (ad : Nat → Nat) (pd : Nat → Nat) (x1 : Int32) (x2 : Int32) : va_W := [(h0, .inr (6, [.ref (ad 0), .int 0, .ref (ad 2), .ref (ad 3), .ref (ad 4), .ref (ad 5), .ref (ad 6), .int 0, .int 0, .ref (ad 9), .ref (ad 10), .ref (ad 11), .ref (ad 12), .ref (ad 13), .int 0, .ref (ad 15), .int 0, .ref (ad 17), .ref (ad 18), .int 0])), (ad 2, .inr (1, [.ref (pd 0), .ref (pd 1), .ref (pd 2), .ref (pd 3), .int 0, .int 0, .int 0, .int 0, .int 2, .int 0, .int 0]))]
set_option maxHeartbeats 4000000 in
set_option maxRecDepth 100000 in
theorem c_C_versions (l : Launch) (dC : Nat → ClassId) (dI : Nat → Nat → Nat) (cyB cyI cyJ cyZ cyO : ClassId) (h0 : Nat) (ad : Nat → Nat) (pd : Nat → Nat) (x1 : Int32) (x2 : Int32) (sz : Nat) : Met l yX6_versions wq_c_C_versions ({ frames := 2, cells := 0, slots := 0, locals := 42 }) (va_Pc [.ref h0, .int x1, .int x2] (cB (dC, dI) (kT cyB cyI cyJ cyZ cyO) (wc_c_C_versions cyB cyI cyJ cyZ cyO h0 ad pd x1 x2) sz)) (va_Qi (fun (r : Int32) (_ : Unit) => r = -1) (fun (u : Unit) t => cE (dC, dI) (va_A (wc_c_C_versions cyB cyI cyJ cyZ cyO h0 ad pd x1 x2) sz) ([]) t.heap) (va_A (wc_c_C_versions cyB cyI cyJ cyZ cyO h0 ad pd x1 x2) sz)) 0 0 (va_A (wc_c_C_versions cyB cyI cyJ cyZ cyO h0 ad pd x1 x2) sz) := by
  refine Met.ofW (cc := cX6_versions) (maxL := 3) (ret := (some .int)) (by decide) rfl ?_
  intro p e s m args below meth c s₁ B hml hv
  obtain ⟨rfl, hsz, hP, hKN, hD0⟩ := hv
  have hx := B.exec
  have hb := B.bytes
  have hr := B.returns
  have hts := atoms_spec (ws := wq_c_C_versions) B.pre
  have hown : s.vm.findClass RX6 = some m.cls := findClass_of_methodNamed B.named
  have hlocks := B.notSynchronized
  have hK := hKN.1
  have hfix : CallFix p m c cX6_versions 3 s [.ref h0, .int x1, .int x2].toArray wq_c_C_versions RX6 := ⟨hx, hb, hml, hown, hts⟩
  subst hsz
  have hD := hD0.self (sz := s.heap.size)
  generalize hAe : va_A (wc_c_C_versions cyB cyI cyJ cyZ cyO h0 ad pd x1 x2) s.heap.size = A at hD ⊢
  have hA : ∀ q : Nat, s.heap.size ≤ q → A q := fun q h => by rw [← hAe]; exact Or.inr h
  have hS : va_S A s.heap s.heap [] := va_S.rf
  have hl := lv_entry ([.ref h0, .int x1, .int x2]) (n := 3) (Nat.le_of_ble_eq_true rfl)
  rw [lg_entry_eq]
  generalize (lg_sl ([.ref h0, .int x1, .int x2]) ++ List.replicate (3 - (lg_sl ([.ref h0, .int x1, .int x2])).length) Slot.unset).toArray = ls at hl ⊢
  have hl : lv_has ls 3 [(0, .ref h0), (1, .int x1), (2, .int x2)] := hl
  refine lv_aload_n hx hb dX6_versions_0 rfl (lv_at hl 0 rfl) ?_
  refine lv_iload_n hx hb dX6_versions_1 rfl (lv_at hl 1 rfl) ?_
  refine gf_i (wr := []) (va_runV (As := [.int x1]) (rest := []) hfix (k_X6_isMember l dC dI cyB cyI cyJ cyZ cyO h0 ad pd x1 _) (cwV 1 hts (gi_V (ow_m (k := 0) rfl) (ow_m (k := 1) rfl) (ow_m (k := 2) rfl) (ow_m (k := 3) rfl) (sb_c sb_l) gd_k_X6_isMember) rfl rfl rfl (by decide +kernel) ⟨Nat.le_of_ble_eq_true rfl, Nat.le_of_ble_eq_true rfl⟩) (g_preV hKN hP hD [0, 1] rfl (by decide) 0 6 rfl rfl) rfl rfl hl.1 rfl (lv_room (Nat.le_of_ble_eq_true rfl)) dX6_versions_2 ⟨Nat.le_of_ble_eq_true rfl, Nat.le_of_ble_eq_true rfl⟩) hP hD hS hA [0, 1] [] rfl rfl (by decide) (by decide) (fun r863 u864 H locs qu864 hP hD hS => ?_)
  have hP : va_P (dC, dI) vwCl [(h0, .inr (6, [.ref (ad 0), .int 0, .ref (ad 2), .ref (ad 3), .ref (ad 4), .ref (ad 5), .ref (ad 6), .int 0, .int 0, .ref (ad 9), .ref (ad 10), .ref (ad 11), .ref (ad 12), .ref (ad 13), .int 0, .ref (ad 15), .int 0, .ref (ad 17), .ref (ad 18), .int 0])), (ad 2, .inr (1, [.ref (pd 0), .ref (pd 1), .ref (pd 2), .ref (pd 3), .int 0, .int 0, .int 0, .int 0, .int 2, .int 0, .int 0]))] H := hP
  have hD : va_D A [(h0, .inr (6, [.ref (ad 0), .int 0, .ref (ad 2), .ref (ad 3), .ref (ad 4), .ref (ad 5), .ref (ad 6), .int 0, .int 0, .ref (ad 9), .ref (ad 10), .ref (ad 11), .ref (ad 12), .ref (ad 13), .int 0, .ref (ad 15), .int 0, .ref (ad 17), .ref (ad 18), .int 0])), (ad 2, .inr (1, [.ref (pd 0), .ref (pd 1), .ref (pd 2), .ref (pd 3), .int 0, .int 0, .int 0, .int 0, .int 2, .int 0, .int 0]))] := hD
  rcases qu864 with ⟨rfl, b865⟩ | ⟨rfl, b866, b867⟩
  · skip
    refine lv_if_eq (tgt := 16) hx hb dX6_versions_5 (by decide) (fun _ => ?_) (fun c868 => absurd (by decide) c868)
    refine lv_iconst (v := (-1)) hx hb dX6_versions_16 (by decide) ?_
    exact W.iret (v := (-1)) hx hb hr (fun t ht hW => ⟨⟨(-1), (), rfl, rfl, cE.nil⟩, hS.F ht⟩) hS.2.2 dX6_versions_17
  · skip
    refine lv_if_eq (tgt := 16) hx hb dX6_versions_5 (by decide) (fun _ => ?_) (fun c869 => absurd (by decide) c869)
    refine lv_iconst (v := (-1)) hx hb dX6_versions_16 (by decide) ?_
    exact W.iret (v := (-1)) hx hb hr (fun t ht hW => ⟨⟨(-1), (), rfl, rfl, cE.nil⟩, hS.F ht⟩) hS.2.2 dX6_versions_17
def wo_c_C_version : List Cond := [.methodLink RX6 239 yX6_isMember, .instanceMethod yX6_isMember, .selects RX6 yX6_isMember yX6_isMember, .initialized RX6]
def wq_c_C_version : List Cond := .code yX6_version cX6_version 7 (some .int) :: (wo_c_C_version ++ (wq_k_X6_isMember ++ []))
theorem gd_c_C_version : Gd wq_c_C_version := gd_c (gd_a (gd_o (by decide +kernel)) (gd_a gd_k_X6_isMember gd_0))
abbrev wc_c_C_version (cyB cyI cyJ cyZ cyO : ClassId) (h0 : Nat) (ad : Nat → Nat) (pd : Nat → Nat) (x1 : Int32) (x2 : Int32) (x3 : Int32) : va_W := [(h0, .inr (6, [.ref (ad 0), .int 0, .ref (ad 2), .ref (ad 3), .ref (ad 4), .ref (ad 5), .ref (ad 6), .int 0, .int 0, .ref (ad 9), .ref (ad 10), .ref (ad 11), .ref (ad 12), .ref (ad 13), .int 0, .ref (ad 15), .int 0, .ref (ad 17), .ref (ad 18), .int 0])), (ad 2, .inr (1, [.ref (pd 0), .ref (pd 1), .ref (pd 2), .ref (pd 3), .int 0, .int 0, .int 0, .int 0, .int 2, .int 0, .int 0]))]
set_option maxHeartbeats 4000000 in
set_option maxRecDepth 100000 in
theorem c_C_version (l : Launch) (dC : Nat → ClassId) (dI : Nat → Nat → Nat) (cyB cyI cyJ cyZ cyO : ClassId) (h0 : Nat) (ad : Nat → Nat) (pd : Nat → Nat) (x1 : Int32) (x2 : Int32) (x3 : Int32) (sz : Nat) : Met l yX6_version wq_c_C_version ({ frames := 2, cells := 0, slots := 0, locals := 42 }) (va_Pc [.ref h0, .int x1, .int x2, .int x3] (cB (dC, dI) (kT cyB cyI cyJ cyZ cyO) (wc_c_C_version cyB cyI cyJ cyZ cyO h0 ad pd x1 x2 x3) sz)) (va_Qi (fun (r : Int32) (_ : Unit) => r = -1) (fun (u : Unit) t => cE (dC, dI) (va_A (wc_c_C_version cyB cyI cyJ cyZ cyO h0 ad pd x1 x2 x3) sz) ([]) t.heap) (va_A (wc_c_C_version cyB cyI cyJ cyZ cyO h0 ad pd x1 x2 x3) sz)) 0 0 (va_A (wc_c_C_version cyB cyI cyJ cyZ cyO h0 ad pd x1 x2 x3) sz) := by
  refine Met.ofW (cc := cX6_version) (maxL := 7) (ret := (some .int)) (by decide) rfl ?_
  intro p e s m args below meth c s₁ B hml hv
  obtain ⟨rfl, hsz, hP, hKN, hD0⟩ := hv
  have hx := B.exec
  have hb := B.bytes
  have hr := B.returns
  have hts := atoms_spec (ws := wq_c_C_version) B.pre
  have hown : s.vm.findClass RX6 = some m.cls := findClass_of_methodNamed B.named
  have hlocks := B.notSynchronized
  have hK := hKN.1
  have hfix : CallFix p m c cX6_version 7 s [.ref h0, .int x1, .int x2, .int x3].toArray wq_c_C_version RX6 := ⟨hx, hb, hml, hown, hts⟩
  subst hsz
  have hD := hD0.self (sz := s.heap.size)
  generalize hAe : va_A (wc_c_C_version cyB cyI cyJ cyZ cyO h0 ad pd x1 x2 x3) s.heap.size = A at hD ⊢
  have hA : ∀ q : Nat, s.heap.size ≤ q → A q := fun q h => by rw [← hAe]; exact Or.inr h
  have hS : va_S A s.heap s.heap [] := va_S.rf
  have hl := lv_entry ([.ref h0, .int x1, .int x2, .int x3]) (n := 7) (Nat.le_of_ble_eq_true rfl)
  rw [lg_entry_eq]
  generalize (lg_sl ([.ref h0, .int x1, .int x2, .int x3]) ++ List.replicate (7 - (lg_sl ([.ref h0, .int x1, .int x2, .int x3])).length) Slot.unset).toArray = ls at hl ⊢
  have hl : lv_has ls 7 [(0, .ref h0), (1, .int x1), (2, .int x2), (3, .int x3)] := hl
  refine lv_aload_n hx hb dX6_version_0 rfl (lv_at hl 0 rfl) ?_
  refine lv_iload_n hx hb dX6_version_1 rfl (lv_at hl 1 rfl) ?_
  refine gf_i (wr := []) (va_runV (As := [.int x1]) (rest := []) hfix (k_X6_isMember l dC dI cyB cyI cyJ cyZ cyO h0 ad pd x1 _) (cwV 1 hts (gi_V (ow_m (k := 0) rfl) (ow_m (k := 1) rfl) (ow_m (k := 2) rfl) (ow_m (k := 3) rfl) (sb_c sb_l) gd_k_X6_isMember) rfl rfl rfl (by decide +kernel) ⟨Nat.le_of_ble_eq_true rfl, Nat.le_of_ble_eq_true rfl⟩) (g_preV hKN hP hD [0, 1] rfl (by decide) 0 6 rfl rfl) rfl rfl hl.1 rfl (lv_room (Nat.le_of_ble_eq_true rfl)) dX6_version_2 ⟨Nat.le_of_ble_eq_true rfl, Nat.le_of_ble_eq_true rfl⟩) hP hD hS hA [0, 1] [] rfl rfl (by decide) (by decide) (fun r895 u896 H locs qu896 hP hD hS => ?_)
  have hP : va_P (dC, dI) vwCl [(h0, .inr (6, [.ref (ad 0), .int 0, .ref (ad 2), .ref (ad 3), .ref (ad 4), .ref (ad 5), .ref (ad 6), .int 0, .int 0, .ref (ad 9), .ref (ad 10), .ref (ad 11), .ref (ad 12), .ref (ad 13), .int 0, .ref (ad 15), .int 0, .ref (ad 17), .ref (ad 18), .int 0])), (ad 2, .inr (1, [.ref (pd 0), .ref (pd 1), .ref (pd 2), .ref (pd 3), .int 0, .int 0, .int 0, .int 0, .int 2, .int 0, .int 0]))] H := hP
  have hD : va_D A [(h0, .inr (6, [.ref (ad 0), .int 0, .ref (ad 2), .ref (ad 3), .ref (ad 4), .ref (ad 5), .ref (ad 6), .int 0, .int 0, .ref (ad 9), .ref (ad 10), .ref (ad 11), .ref (ad 12), .ref (ad 13), .int 0, .ref (ad 15), .int 0, .ref (ad 17), .ref (ad 18), .int 0])), (ad 2, .inr (1, [.ref (pd 0), .ref (pd 1), .ref (pd 2), .ref (pd 3), .int 0, .int 0, .int 0, .int 0, .int 2, .int 0, .int 0]))] := hD
  rcases qu896 with ⟨rfl, b897⟩ | ⟨rfl, b898, b899⟩
  · skip
    refine lv_if_eq (tgt := 20) hx hb dX6_version_5 (by decide) (fun _ => ?_) (fun c900 => absurd (by decide) c900)
    refine lv_iconst (v := (-1)) hx hb dX6_version_20 (by decide) ?_
    exact W.iret (v := (-1)) hx hb hr (fun t ht hW => ⟨⟨(-1), (), rfl, rfl, cE.nil⟩, hS.F ht⟩) hS.2.2 dX6_version_21
  · skip
    refine lv_if_eq (tgt := 20) hx hb dX6_version_5 (by decide) (fun _ => ?_) (fun c901 => absurd (by decide) c901)
    refine lv_iconst (v := (-1)) hx hb dX6_version_20 (by decide) ?_
    exact W.iret (v := (-1)) hx hb hr (fun t ht hW => ⟨⟨(-1), (), rfl, rfl, cE.nil⟩, hS.F ht⟩) hS.2.2 dX6_version_21
def wo_c_C_will : List Cond := [.fieldLink RX6 110 "ReplicaChain" "now" "LReplicaChain$State;", .fieldLink RX6 157 "ReplicaChain$State" "size" "I"]
def wq_c_C_will : List Cond := .code yX6_will cX6_will 4 (some .int) :: (wo_c_C_will ++ (wsX50 ++ (wsX60 ++ [])))
theorem gd_c_C_will : Gd wq_c_C_will := gd_c (gd_a (gd_o (by decide +kernel)) (gd_a gd_u (gd_a gd_u gd_0)))
abbrev wc_c_C_will (cyB cyI cyJ cyZ cyO : ClassId) (h0 : Nat) (ad : Nat → Nat) (sd : Nat → Nat) (x1 : Int32) (x2 : Int32) : va_W := [(h0, .inr (6, [.ref (ad 0), .int 0, .ref (ad 2), .ref (ad 3), .ref (ad 4), .ref (ad 5), .ref (ad 6), .int 0, .int 0, .ref (ad 9), .ref (ad 10), .ref (ad 11), .ref (ad 12), .ref (ad 13), .int 0, .ref (ad 15), .int 0, .ref (ad 17), .ref (ad 18), .int 0])), (ad 9, .inr (5, [.ref (sd 0), .ref (sd 1), .ref (sd 2), .ref (sd 3), .ref (sd 4), .ref (sd 5), .ref (sd 6), .int 0, .int (-1), .int 0, .int 0, .int 0, .int 0]))]
set_option maxHeartbeats 4000000 in
set_option maxRecDepth 100000 in
theorem c_C_will (l : Launch) (dC : Nat → ClassId) (dI : Nat → Nat → Nat) (cyB cyI cyJ cyZ cyO : ClassId) (h0 : Nat) (ad : Nat → Nat) (sd : Nat → Nat) (x1 : Int32) (x2 : Int32) (sz : Nat) : Met l yX6_will wq_c_C_will ({ frames := 0, cells := 0, slots := 0, locals := 0 }) (va_Pc [.ref h0, .int x1, .int x2] (cB (dC, dI) (kT cyB cyI cyJ cyZ cyO) (wc_c_C_will cyB cyI cyJ cyZ cyO h0 ad sd x1 x2) sz)) (va_Qi (fun (r : Int32) (_ : Unit) => r = -1) (fun (u : Unit) t => cE (dC, dI) (va_A (wc_c_C_will cyB cyI cyJ cyZ cyO h0 ad sd x1 x2) sz) ([]) t.heap) (va_A (wc_c_C_will cyB cyI cyJ cyZ cyO h0 ad sd x1 x2) sz)) 0 0 (va_A (wc_c_C_will cyB cyI cyJ cyZ cyO h0 ad sd x1 x2) sz) := by
  refine Met.ofW (cc := cX6_will) (maxL := 4) (ret := (some .int)) (by decide) rfl ?_
  intro p e s m args below meth c s₁ B hml hv
  obtain ⟨rfl, hsz, hP, hKN, hD0⟩ := hv
  have hx := B.exec
  have hb := B.bytes
  have hr := B.returns
  have hts := atoms_spec (ws := wq_c_C_will) B.pre
  have hown : s.vm.findClass RX6 = some m.cls := findClass_of_methodNamed B.named
  have hlocks := B.notSynchronized
  have hK := hKN.1
  have hfix : CallFix p m c cX6_will 4 s [.ref h0, .int x1, .int x2].toArray wq_c_C_will RX6 := ⟨hx, hb, hml, hown, hts⟩
  have hi5 : ∀ w ∈ wsX50, w ∈ wq_c_C_will := (sb_c sb_l)
  have hi6 : ∀ w ∈ wsX60, w ∈ wq_c_C_will := (sb_c (sb_r sb_l))
  subst hsz
  have hD := hD0.self (sz := s.heap.size)
  generalize hAe : va_A (wc_c_C_will cyB cyI cyJ cyZ cyO h0 ad sd x1 x2) s.heap.size = A at hD ⊢
  have hA : ∀ q : Nat, s.heap.size ≤ q → A q := fun q h => by rw [← hAe]; exact Or.inr h
  have hS : va_S A s.heap s.heap [] := va_S.rf
  have hl := lv_entry ([.ref h0, .int x1, .int x2]) (n := 4) (Nat.le_of_ble_eq_true rfl)
  rw [lg_entry_eq]
  generalize (lg_sl ([.ref h0, .int x1, .int x2]) ++ List.replicate (4 - (lg_sl ([.ref h0, .int x1, .int x2])).length) Slot.unset).toArray = ls at hl ⊢
  have hl : lv_has ls 4 [(0, .ref h0), (1, .int x1), (2, .int x2)] := hl
  refine lv_iload_n hx hb dX6_will_0 rfl (lv_at hl 1 rfl) ?_
  refine lv_if_lt (tgt := 29) hx hb dX6_will_1 (by decide) (fun c907 => ?_) (fun c907 => ?_)
  · have c907 := i_lt (a := x1.toInt) (b := 0) c907 rfl (by decide)
    refine lv_iconst (v := (-1)) hx hb dX6_will_29 (by decide) ?_
    exact W.iret (v := (-1)) hx hb hr (fun t ht hW => ⟨⟨(-1), (), rfl, rfl, cE.nil⟩, hS.F ht⟩) hS.2.2 dX6_will_30
  · have c907 := i_nlt (a := x1.toInt) (b := 0) c907 rfl (by decide)
    refine lv_iload_n hx hb dX6_will_4 rfl (lv_at hl 1 rfl) ?_
    refine lv_bipush (v := 60) hx hb dX6_will_5 (by decide) ?_
    refine lv_icmp_gt (tgt := 29) hx hb dX6_will_7 (by decide) (fun c908 => ?_) (fun c908 => ?_)
    · have c908 := i_lt (a := 60) (b := x1.toInt) c908 (by decide) rfl
      refine lv_iconst (v := (-1)) hx hb dX6_will_29 (by decide) ?_
      exact W.iret (v := (-1)) hx hb hr (fun t ht hW => ⟨⟨(-1), (), rfl, rfl, cE.nil⟩, hS.F ht⟩) hS.2.2 dX6_will_30
    · have c908 := i_nlt (a := 60) (b := x1.toInt) c908 (by decide) rfl
      refine lv_iload_n hx hb dX6_will_10 rfl (lv_at hl 2 rfl) ?_
      refine lv_if_lt (tgt := 29) hx hb dX6_will_11 (by decide) (fun c909 => ?_) (fun c909 => ?_)
      · have c909 := i_lt (a := x2.toInt) (b := 0) c909 rfl (by decide)
        refine lv_iconst (v := (-1)) hx hb dX6_will_29 (by decide) ?_
        exact W.iret (v := (-1)) hx hb hr (fun t ht hW => ⟨⟨(-1), (), rfl, rfl, cE.nil⟩, hS.F ht⟩) hS.2.2 dX6_will_30
      · have c909 := i_nlt (a := x2.toInt) (b := 0) c909 rfl (by decide)
        refine lv_iload_n hx hb dX6_will_14 rfl (lv_at hl 2 rfl) ?_
        refine lv_iconst (v := 1) hx hb dX6_will_15 (by decide) ?_
        refine lv_icmp_gt (tgt := 29) hx hb dX6_will_16 (by decide) (fun c910 => ?_) (fun c910 => ?_)
        · have c910 := i_lt (a := 1) (b := x2.toInt) c910 (by decide) rfl
          refine lv_iconst (v := (-1)) hx hb dX6_will_29 (by decide) ?_
          exact W.iret (v := (-1)) hx hb hr (fun t ht hW => ⟨⟨(-1), (), rfl, rfl, cE.nil⟩, hS.F ht⟩) hS.2.2 dX6_will_30
        · have c910 := i_nlt (a := 1) (b := x2.toInt) c910 (by decide) rfl
          refine lv_aload_n hx hb dX6_will_19 rfl (lv_at hl 0 rfl) ?_
          refine va_get (D := (dC, dI)) (ci := 6) (v := .ref (ad 9)) (C := RX6) (T := TX6) (N := 20) hx hb hts hi6 hown hK hP 0 rfl rfl 9 (by decide) (hts _ (ow_m (k := 0) rfl)) (fun _ h9 => h9) rfl dX6_will_20 ?_
          refine va_get (D := (dC, dI)) (ci := 5) (v := .int 0) (C := RX5) (T := TX5) (N := 13) hx hb hts hi5 hown hK hP 1 rfl rfl 7 (by decide) (hts _ (ow_m (k := 1) rfl)) (fun _ h9 => h9) rfl dX6_will_23 ?_
          refine lv_if_ne (tgt := 31) hx hb dX6_will_26 (by decide) (fun c911 => absurd (by decide) c911) (fun _ => ?_)
          refine lv_iconst (v := (-1)) hx hb dX6_will_29 (by decide) ?_
          exact W.iret (v := (-1)) hx hb hr (fun t ht hW => ⟨⟨(-1), (), rfl, rfl, cE.nil⟩, hS.F ht⟩) hS.2.2 dX6_will_30
def wo_c_C_when : List Cond := [.fieldLink RX6 110 "ReplicaChain" "now" "LReplicaChain$State;", .methodLink RX6 195 yX5_headHas, .instanceMethod yX5_headHas, .selects RX5 yX5_headHas yX5_headHas, .initialized RX5]
def wq_c_C_when : List Cond := .code yX6_when cX6_when 2 (some .int) :: (wo_c_C_when ++ (wq_k_X5_headHas ++ (wsX60 ++ [])))
theorem gd_c_C_when : Gd wq_c_C_when := gd_c (gd_a (gd_o (by decide +kernel)) (gd_a gd_k_X5_headHas (gd_a gd_u gd_0)))
abbrev wc_c_C_when (cyB cyI cyJ cyZ cyO : ClassId) (h0 : Nat) (ad : Nat → Nat) (sd : Nat → Nat) (x1 : Int32) : va_W := [(h0, .inr (6, [.ref (ad 0), .int 0, .ref (ad 2), .ref (ad 3), .ref (ad 4), .ref (ad 5), .ref (ad 6), .int 0, .int 0, .ref (ad 9), .ref (ad 10), .ref (ad 11), .ref (ad 12), .ref (ad 13), .int 0, .ref (ad 15), .int 0, .ref (ad 17), .ref (ad 18), .int 0])), (ad 9, .inr (5, [.ref (sd 0), .ref (sd 1), .ref (sd 2), .ref (sd 3), .ref (sd 4), .ref (sd 5), .ref (sd 6), .int 0, .int (-1), .int 0, .int 0, .int 0, .int 0]))]
set_option maxHeartbeats 4000000 in
set_option maxRecDepth 100000 in
theorem c_C_when (l : Launch) (dC : Nat → ClassId) (dI : Nat → Nat → Nat) (cyB cyI cyJ cyZ cyO : ClassId) (h0 : Nat) (ad : Nat → Nat) (sd : Nat → Nat) (x1 : Int32) (sz : Nat) : Met l yX6_when wq_c_C_when ({ frames := 1, cells := 0, slots := 0, locals := 20 }) (va_Pc [.ref h0, .int x1] (cB (dC, dI) (kT cyB cyI cyJ cyZ cyO) (wc_c_C_when cyB cyI cyJ cyZ cyO h0 ad sd x1) sz)) (va_Qi (fun (r : Int32) (_ : Unit) => r = -1) (fun (u : Unit) t => cE (dC, dI) (va_A (wc_c_C_when cyB cyI cyJ cyZ cyO h0 ad sd x1) sz) ([]) t.heap) (va_A (wc_c_C_when cyB cyI cyJ cyZ cyO h0 ad sd x1) sz)) 0 0 (va_A (wc_c_C_when cyB cyI cyJ cyZ cyO h0 ad sd x1) sz) := by
  refine Met.ofW (cc := cX6_when) (maxL := 2) (ret := (some .int)) (by decide) rfl ?_
  intro p e s m args below meth c s₁ B hml hv
  obtain ⟨rfl, hsz, hP, hKN, hD0⟩ := hv
  have hx := B.exec
  have hb := B.bytes
  have hr := B.returns
  have hts := atoms_spec (ws := wq_c_C_when) B.pre
  have hown : s.vm.findClass RX6 = some m.cls := findClass_of_methodNamed B.named
  have hlocks := B.notSynchronized
  have hK := hKN.1
  have hfix : CallFix p m c cX6_when 2 s [.ref h0, .int x1].toArray wq_c_C_when RX6 := ⟨hx, hb, hml, hown, hts⟩
  have hi6 : ∀ w ∈ wsX60, w ∈ wq_c_C_when := (sb_c (sb_r sb_l))
  subst hsz
  have hD := hD0.self (sz := s.heap.size)
  generalize hAe : va_A (wc_c_C_when cyB cyI cyJ cyZ cyO h0 ad sd x1) s.heap.size = A at hD ⊢
  have hA : ∀ q : Nat, s.heap.size ≤ q → A q := fun q h => by rw [← hAe]; exact Or.inr h
  have hS : va_S A s.heap s.heap [] := va_S.rf
  have hl := lv_entry ([.ref h0, .int x1]) (n := 2) (Nat.le_of_ble_eq_true rfl)
  rw [lg_entry_eq]
  generalize (lg_sl ([.ref h0, .int x1]) ++ List.replicate (2 - (lg_sl ([.ref h0, .int x1])).length) Slot.unset).toArray = ls at hl ⊢
  have hl : lv_has ls 2 [(0, .ref h0), (1, .int x1)] := hl
  refine lv_iload_n hx hb dX6_when_0 rfl (lv_at hl 1 rfl) ?_
  refine lv_iconst (v := 1) hx hb dX6_when_1 (by decide) ?_
  refine lv_icmp_lt (tgt := 16) hx hb dX6_when_2 (by decide) (fun c917 => ?_) (fun c917 => ?_)
  · have c917 := i_lt (a := x1.toInt) (b := 1) c917 rfl (by decide)
    refine lv_iconst (v := (-1)) hx hb dX6_when_16 (by decide) ?_
    exact W.iret (v := (-1)) hx hb hr (fun t ht hW => ⟨⟨(-1), (), rfl, rfl, cE.nil⟩, hS.F ht⟩) hS.2.2 dX6_when_17
  · have c917 := i_nlt (a := x1.toInt) (b := 1) c917 rfl (by decide)
    refine lv_iload_n hx hb dX6_when_5 rfl (lv_at hl 1 rfl) ?_
    refine lv_aload_n hx hb dX6_when_6 rfl (lv_at hl 0 rfl) ?_
    refine va_get (D := (dC, dI)) (ci := 6) (v := .ref (ad 9)) (C := RX6) (T := TX6) (N := 20) hx hb hts hi6 hown hK hP 0 rfl rfl 9 (by decide) (hts _ (ow_m (k := 0) rfl)) (fun _ h9 => h9) rfl dX6_when_7 ?_
    refine gf_i (wr := [(h0, .inr (6, [.ref (ad 0), .int 0, .ref (ad 2), .ref (ad 3), .ref (ad 4), .ref (ad 5), .ref (ad 6), .int 0, .int 0, .ref (ad 9), .ref (ad 10), .ref (ad 11), .ref (ad 12), .ref (ad 13), .int 0, .ref (ad 15), .int 0, .ref (ad 17), .ref (ad 18), .int 0]))]) (va_runV (As := []) (rest := [.int x1]) hfix (k_X5_headHas l dC dI cyB cyI cyJ cyZ cyO ad sd _) (cwV 0 hts (gi_V (ow_m (k := 1) rfl) (ow_m (k := 2) rfl) (ow_m (k := 3) rfl) (ow_m (k := 4) rfl) (sb_c sb_l) gd_k_X5_headHas) rfl rfl rfl (by decide +kernel) ⟨Nat.le_of_ble_eq_true rfl, Nat.le_of_ble_eq_true rfl⟩) (g_preV hKN hP hD [1] rfl (by decide) 0 5 rfl rfl) rfl rfl hl.1 rfl (lv_room (Nat.le_of_ble_eq_true rfl)) dX6_when_10 ⟨Nat.le_of_ble_eq_true rfl, Nat.le_of_ble_eq_true rfl⟩) hP hD hS hA [1] [0] rfl rfl (by decide) (by decide) (fun r919 u920 H locs qu920 hP hD hS => ?_)
    have hP : va_P (dC, dI) vwCl [(h0, .inr (6, [.ref (ad 0), .int 0, .ref (ad 2), .ref (ad 3), .ref (ad 4), .ref (ad 5), .ref (ad 6), .int 0, .int 0, .ref (ad 9), .ref (ad 10), .ref (ad 11), .ref (ad 12), .ref (ad 13), .int 0, .ref (ad 15), .int 0, .ref (ad 17), .ref (ad 18), .int 0])), (ad 9, .inr (5, [.ref (sd 0), .ref (sd 1), .ref (sd 2), .ref (sd 3), .ref (sd 4), .ref (sd 5), .ref (sd 6), .int 0, .int (-1), .int 0, .int 0, .int 0, .int 0]))] H := hP
    have hD : va_D A [(h0, .inr (6, [.ref (ad 0), .int 0, .ref (ad 2), .ref (ad 3), .ref (ad 4), .ref (ad 5), .ref (ad 6), .int 0, .int 0, .ref (ad 9), .ref (ad 10), .ref (ad 11), .ref (ad 12), .ref (ad 13), .int 0, .ref (ad 15), .int 0, .ref (ad 17), .ref (ad 18), .int 0])), (ad 9, .inr (5, [.ref (sd 0), .ref (sd 1), .ref (sd 2), .ref (sd 3), .ref (sd 4), .ref (sd 5), .ref (sd 6), .int 0, .int (-1), .int 0, .int 0, .int 0, .int 0]))] := hD
    refine tp_c (w := 0) qu920 ?_
    refine lv_icmp_le (tgt := 18) hx hb dX6_when_13 (by decide) (fun c921 => ?_) (fun c921 => ?_)
    · have c921 := i_le (a := x1.toInt) (b := 0) c921 rfl (by decide)
      exfalso; omega
    · have c921 := i_nle (a := x1.toInt) (b := 0) c921 rfl (by decide)
      refine lv_iconst (v := (-1)) hx hb dX6_when_16 (by decide) ?_
      exact W.iret (v := (-1)) hx hb hr (fun t ht hW => ⟨⟨(-1), (), rfl, rfl, cE.nil⟩, hS.F ht⟩) hS.2.2 dX6_when_17
