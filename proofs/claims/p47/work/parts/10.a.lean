def wo_k_Fo_clear : List Cond := [.fieldLink RX0 21 "ReplicaChain$Formula" "length" "I"]
def wq_k_Fo_clear : List Cond := .code yX0_clear cX0_clear 1 none :: (wo_k_Fo_clear ++ (wsX00 ++ []))
theorem gd_k_Fo_clear : Gd wq_k_Fo_clear := gd_c (gd_a (gd_o (by decide +kernel)) (gd_a gd_u gd_0))
abbrev wc_k_Fo_clear (cyB cyI cyJ cyZ cyO : ClassId) (hf : Nat) (fd : Nat → Nat) (f_steps : Nat → Int32) (f_stack : Nat → Int32) (f_facts : Nat → Int32) (f_length : Int32) : va_W := [(hf, .inr (0, [.ref (fd 0), .ref (fd 1), .ref (fd 2), .int f_length])), (fd 0, .inl (cyI, 270, .inl f_steps)), (fd 1, .inl (cyI, 31, .inl f_stack)), (fd 2, .inl (cyI, 6, .inl f_facts))]
set_option maxHeartbeats 4000000 in
set_option maxRecDepth 100000 in
theorem k_Fo_clear (l : Launch) (dC : Nat → ClassId) (dI : Nat → Nat → Nat) (cyB cyI cyJ cyZ cyO : ClassId) (hf : Nat) (fd : Nat → Nat) (f_steps : Nat → Int32) (f_stack : Nat → Int32) (f_facts : Nat → Int32) (f_length : Int32) (sz : Nat) (l_f_length : 0 ≤ f_length.toInt) (u_f_length : f_length.toInt ≤ 270) : Met l yX0_clear wq_k_Fo_clear ({ frames := 0, cells := 0, slots := 0, locals := 0 }) (va_Pc [.ref hf] (cB (dC, dI) (kT cyB cyI cyJ cyZ cyO) (wc_k_Fo_clear cyB cyI cyJ cyZ cyO hf fd f_steps f_stack f_facts f_length) sz)) (va_Qv (fun (u : ST) => 0 ≤ (u.2 0).toInt ∧ (u.2 0).toInt ≤ 270) (fun (u : ST) t => cE (dC, dI) (va_A (wc_k_Fo_clear cyB cyI cyJ cyZ cyO hf fd f_steps f_stack f_facts f_length) sz) ([(hf, .inr (0, [.ref (fd 0), .ref (fd 1), .ref (fd 2), .int (u.2 0)])), (fd 0, .inl (cyI, 270, .inl f_steps)), (fd 1, .inl (cyI, 31, .inl f_stack)), (fd 2, .inl (cyI, 6, .inl f_facts))]) t.heap) (va_A (wc_k_Fo_clear cyB cyI cyJ cyZ cyO hf fd f_steps f_stack f_facts f_length) sz)) 0 0 (va_A (wc_k_Fo_clear cyB cyI cyJ cyZ cyO hf fd f_steps f_stack f_facts f_length) sz) := by
  refine Met.ofW (cc := cX0_clear) (maxL := 1) (ret := none) (by decide) rfl ?_
  intro p e s m args below meth c s₁ B hml hv
  obtain ⟨rfl, hsz, hP, hKN, hD0⟩ := hv
  have hx := B.exec
  have hb := B.bytes
  have hr := B.returns
  have hts := atoms_spec (ws := wq_k_Fo_clear) B.pre
  have hown : s.vm.findClass RX0 = some m.cls := findClass_of_methodNamed B.named
  have hlocks := B.notSynchronized
  have hK := hKN.1
  have hfix : CallFix p m c cX0_clear 1 s [.ref hf].toArray wq_k_Fo_clear RX0 := ⟨hx, hb, hml, hown, hts⟩
  have hi0 : ∀ w ∈ wsX00, w ∈ wq_k_Fo_clear := (sb_c sb_l)
  subst hsz
  have hD := hD0.self (sz := s.heap.size)
  generalize hAe : va_A (wc_k_Fo_clear cyB cyI cyJ cyZ cyO hf fd f_steps f_stack f_facts f_length) s.heap.size = A at hD ⊢
  have hA : ∀ q : Nat, s.heap.size ≤ q → A q := fun q h => by rw [← hAe]; exact Or.inr h
  have hS : va_S A s.heap s.heap [] := va_S.rf
  have hl := lv_entry ([.ref hf]) (n := 1) (Nat.le_of_ble_eq_true rfl)
  rw [lg_entry_eq]
  generalize (lg_sl ([.ref hf]) ++ List.replicate (1 - (lg_sl ([.ref hf])).length) Slot.unset).toArray = ls at hl ⊢
  have hl : lv_has ls 1 [(0, .ref hf)] := hl
  refine lv_aload_n hx hb dX0_clear_0 rfl (lv_at hl 0 rfl) ?_
  refine lv_iconst (v := 0) hx hb dX0_clear_1 (by decide) ?_
  refine va_put (D := (dC, dI)) (ci := 0) (v := .int 0) (ty := .int) (C := RX0) (T := TX0) (N := 4) hx hb hts hi0 tyX0 tyX0_ok nmX0 hown hK hP hD hS 0 rfl rfl 3 (by decide) (hts _ (ow_m (k := 0) rfl)) (fun _ h9 => h9) rfl (by decide +kernel) rfl rfl (Nat.le_of_ble_eq_true rfl) dX0_clear_2 (fun H locs hP hD hS => ?_)
  have hP : va_P (dC, dI) vwCl [(hf, .inr (0, [.ref (fd 0), .ref (fd 1), .ref (fd 2), .int 0])), (fd 0, .inl (cyI, 270, .inl f_steps)), (fd 1, .inl (cyI, 31, .inl f_stack)), (fd 2, .inl (cyI, 6, .inl f_facts))] H := hP
  have hD : va_D A [(hf, .inr (0, [.ref (fd 0), .ref (fd 1), .ref (fd 2), .int 0])), (fd 0, .inl (cyI, 270, .inl f_steps)), (fd 1, .inl (cyI, 31, .inl f_stack)), (fd 2, .inl (cyI, 6, .inl f_facts))] := hD
  have w1 : 0 ≤ (0 : Int32).toInt := by decide
  have w2 : (0 : Int32).toInt ≤ 270 := by decide
  exact W.vret hx hb hr (fun t ht hW => ⟨⟨((fun _ => fun _ => 0), (fun _ => 0)), rfl, ⟨w1, w2⟩, cE.of ht hP hD [0, 1, 2, 3] (by decide) rfl⟩, hS.F ht⟩) hS.2.2 dX0_clear_5
def wo_k_Fo_add : List Cond := [.fieldLink RX0 21 "ReplicaChain$Formula" "length" "I", .fieldLink RX0 11 "ReplicaChain$Formula" "steps" "[I"]
def wq_k_Fo_add : List Cond := .code yX0_add cX0_add 2 none :: (wo_k_Fo_add ++ (wsX00 ++ []))
theorem gd_k_Fo_add : Gd wq_k_Fo_add := gd_c (gd_a (gd_o (by decide +kernel)) (gd_a gd_u gd_0))
abbrev wc_k_Fo_add (cyB cyI cyJ cyZ cyO : ClassId) (hf : Nat) (fd : Nat → Nat) (f_steps : Nat → Int32) (f_stack : Nat → Int32) (f_facts : Nat → Int32) (f_length : Int32) (x1 : Int32) : va_W := [(hf, .inr (0, [.ref (fd 0), .ref (fd 1), .ref (fd 2), .int f_length])), (fd 0, .inl (cyI, 270, .inl f_steps)), (fd 1, .inl (cyI, 31, .inl f_stack)), (fd 2, .inl (cyI, 6, .inl f_facts))]
set_option maxHeartbeats 4000000 in
set_option maxRecDepth 100000 in
theorem k_Fo_add (l : Launch) (dC : Nat → ClassId) (dI : Nat → Nat → Nat) (cyB cyI cyJ cyZ cyO : ClassId) (hf : Nat) (fd : Nat → Nat) (f_steps : Nat → Int32) (f_stack : Nat → Int32) (f_facts : Nat → Int32) (f_length : Int32) (x1 : Int32) (sz : Nat) (l_f_length : 0 ≤ f_length.toInt) (u_f_length : f_length.toInt ≤ 270) : Met l yX0_add wq_k_Fo_add ({ frames := 0, cells := 0, slots := 0, locals := 0 }) (va_Pc [.ref hf, .int x1] (cB (dC, dI) (kT cyB cyI cyJ cyZ cyO) (wc_k_Fo_add cyB cyI cyJ cyZ cyO hf fd f_steps f_stack f_facts f_length x1) sz)) (va_Qv (fun (u : ST) => 0 ≤ (u.2 0).toInt ∧ (u.2 0).toInt ≤ 270) (fun (u : ST) t => cE (dC, dI) (va_A (wc_k_Fo_add cyB cyI cyJ cyZ cyO hf fd f_steps f_stack f_facts f_length x1) sz) ([(hf, .inr (0, [.ref (fd 0), .ref (fd 1), .ref (fd 2), .int (u.2 0)])), (fd 0, .inl (cyI, 270, .inl (u.1 0))), (fd 1, .inl (cyI, 31, .inl f_stack)), (fd 2, .inl (cyI, 6, .inl f_facts))]) t.heap) (va_A (wc_k_Fo_add cyB cyI cyJ cyZ cyO hf fd f_steps f_stack f_facts f_length x1) sz)) 0 0 (va_A (wc_k_Fo_add cyB cyI cyJ cyZ cyO hf fd f_steps f_stack f_facts f_length x1) sz) := by
  refine Met.ofW (cc := cX0_add) (maxL := 2) (ret := none) (by decide) rfl ?_
  intro p e s m args below meth c s₁ B hml hv
  obtain ⟨rfl, hsz, hP, hKN, hD0⟩ := hv
  have hx := B.exec
  have hb := B.bytes
  have hr := B.returns
  have hts := atoms_spec (ws := wq_k_Fo_add) B.pre
  have hown : s.vm.findClass RX0 = some m.cls := findClass_of_methodNamed B.named
  have hlocks := B.notSynchronized
  have hK := hKN.1
  have hfix : CallFix p m c cX0_add 2 s [.ref hf, .int x1].toArray wq_k_Fo_add RX0 := ⟨hx, hb, hml, hown, hts⟩
  have hi0 : ∀ w ∈ wsX00, w ∈ wq_k_Fo_add := (sb_c sb_l)
  subst hsz
  have hD := hD0.self (sz := s.heap.size)
  generalize hAe : va_A (wc_k_Fo_add cyB cyI cyJ cyZ cyO hf fd f_steps f_stack f_facts f_length x1) s.heap.size = A at hD ⊢
  have hA : ∀ q : Nat, s.heap.size ≤ q → A q := fun q h => by rw [← hAe]; exact Or.inr h
  have hS : va_S A s.heap s.heap [] := va_S.rf
  have hl := lv_entry ([.ref hf, .int x1]) (n := 2) (Nat.le_of_ble_eq_true rfl)
  rw [lg_entry_eq]
  generalize (lg_sl ([.ref hf, .int x1]) ++ List.replicate (2 - (lg_sl ([.ref hf, .int x1])).length) Slot.unset).toArray = ls at hl ⊢
  have hl : lv_has ls 2 [(0, .ref hf), (1, .int x1)] := hl
  refine lv_aload_n hx hb dX0_add_0 rfl (lv_at hl 0 rfl) ?_
  refine va_get (D := (dC, dI)) (ci := 0) (v := .int f_length) (C := RX0) (T := TX0) (N := 4) hx hb hts hi0 hown hK hP 0 rfl rfl 3 (by decide) (hts _ (ow_m (k := 0) rfl)) (fun _ h9 => h9) rfl dX0_add_1 ?_
  refine lv_aload_n hx hb dX0_add_4 rfl (lv_at hl 0 rfl) ?_
  refine va_get (D := (dC, dI)) (ci := 0) (v := .ref (fd 0)) (C := RX0) (T := TX0) (N := 4) hx hb hts hi0 hown hK hP 0 rfl rfl 0 (by decide) (hts _ (ow_m (k := 1) rfl)) (fun _ h9 => h9) rfl dX0_add_5 ?_
  refine va_alen (v := 270) hx hb hK hP 1 1 rfl rfl rfl dX0_add_8 ?_
  refine lv_icmp_ge (tgt := 32) hx hb dX0_add_9 (by decide) (fun c3 => ?_) (fun c3 => ?_)
  · have c3 := i_le (a := 270) (b := f_length.toInt) c3 (by decide) rfl
    have w4 : 0 ≤ f_length.toInt := by first | omega | assumption
    have w5 : f_length.toInt ≤ 270 := by first | omega | assumption
    exact W.vret hx hb hr (fun t ht hW => ⟨⟨((fun _ => f_steps), (fun _ => f_length)), rfl, ⟨w4, w5⟩, cE.of ht hP hD [0, 1, 2, 3] (by decide) rfl⟩, hS.F ht⟩) hS.2.2 dX0_add_32
  · have c3 := i_nle (a := 270) (b := f_length.toInt) c3 (by decide) rfl
    refine lv_aload_n hx hb dX0_add_12 rfl (lv_at hl 0 rfl) ?_
    refine va_get (D := (dC, dI)) (ci := 0) (v := .ref (fd 0)) (C := RX0) (T := TX0) (N := 4) hx hb hts hi0 hown hK hP 0 rfl rfl 0 (by decide) (hts _ (ow_m (k := 1) rfl)) (fun _ h9 => h9) rfl dX0_add_13 ?_
    refine lv_aload_n hx hb dX0_add_16 rfl (lv_at hl 0 rfl) ?_
    refine va_get (D := (dC, dI)) (ci := 0) (v := .int f_length) (C := RX0) (T := TX0) (N := 4) hx hb hts hi0 hown hK hP 0 rfl rfl 3 (by decide) (hts _ (ow_m (k := 0) rfl)) (fun _ h9 => h9) rfl dX0_add_17 ?_
    refine lv_iload_n hx hb dX0_add_20 rfl (lv_at hl 1 rfl) ?_
    refine va_iast hx hb hK hP hD hS 1 1 rfl rfl (vp_i rfl (by omega) (by omega)) dX0_add_21 (fun H locs hP hD hS => ?_)
    have hP : va_P (dC, dI) vwCl [(hf, .inr (0, [.ref (fd 0), .ref (fd 1), .ref (fd 2), .int f_length])), (fd 0, .inl (cyI, 270, .inl (upd f_steps f_length.toNatClampNeg x1))), (fd 1, .inl (cyI, 31, .inl f_stack)), (fd 2, .inl (cyI, 6, .inl f_facts))] H := hP
    have hD : va_D A [(hf, .inr (0, [.ref (fd 0), .ref (fd 1), .ref (fd 2), .int f_length])), (fd 0, .inl (cyI, 270, .inl (upd f_steps f_length.toNatClampNeg x1))), (fd 1, .inl (cyI, 31, .inl f_stack)), (fd 2, .inl (cyI, 6, .inl f_facts))] := hD
    generalize ef6 : upd f_steps f_length.toNatClampNeg x1 = f6 at hP hD
    refine lv_aload_n hx hb dX0_add_22 rfl (lv_at hl 0 rfl) ?_
    refine lv_dup hx hb dX0_add_23 rfl ?_
    refine va_get (D := (dC, dI)) (ci := 0) (v := .int f_length) (C := RX0) (T := TX0) (N := 4) hx hb hts hi0 hown hK hP 0 rfl rfl 3 (by decide) (hts _ (ow_m (k := 0) rfl)) (fun _ h9 => h9) rfl dX0_add_24 ?_
    refine lv_iconst (v := 1) hx hb dX0_add_27 (by decide) ?_
    refine lv_iadd hx hb dX0_add_28 ?_
    refine lv_topi (fun z7 ez7 => ?_)
    have tz7 := ti_add (a := f_length.toInt) (b := 1) ez7 rfl (by decide) (by omega) (by omega)
    refine va_put (D := (dC, dI)) (ci := 0) (v := .int z7) (ty := .int) (C := RX0) (T := TX0) (N := 4) hx hb hts hi0 tyX0 tyX0_ok nmX0 hown hK hP hD hS 0 rfl rfl 3 (by decide) (hts _ (ow_m (k := 0) rfl)) (fun _ h9 => h9) rfl (by decide +kernel) rfl rfl (Nat.le_of_ble_eq_true rfl) dX0_add_29 (fun H locs hP hD hS => ?_)
    have hP : va_P (dC, dI) vwCl [(hf, .inr (0, [.ref (fd 0), .ref (fd 1), .ref (fd 2), .int z7])), (fd 0, .inl (cyI, 270, .inl f6)), (fd 1, .inl (cyI, 31, .inl f_stack)), (fd 2, .inl (cyI, 6, .inl f_facts))] H := hP
    have hD : va_D A [(hf, .inr (0, [.ref (fd 0), .ref (fd 1), .ref (fd 2), .int z7])), (fd 0, .inl (cyI, 270, .inl f6)), (fd 1, .inl (cyI, 31, .inl f_stack)), (fd 2, .inl (cyI, 6, .inl f_facts))] := hD
    have w8 : 0 ≤ z7.toInt := by first | omega | assumption
    have w9 : z7.toInt ≤ 270 := by first | omega | assumption
    exact W.vret hx hb hr (fun t ht hW => ⟨⟨((fun _ => f6), (fun _ => z7)), rfl, ⟨w8, w9⟩, cE.of ht hP hD [0, 1, 2, 3] (by decide) rfl⟩, hS.F ht⟩) hS.2.2 dX0_add_32
def wo_k_Fo_factOf : List Cond := [.fieldLink RX0 18 "ReplicaChain$Formula" "facts" "[I"]
def wq_k_Fo_factOf : List Cond := .code yX0_factOf cX0_factOf 3 (some .int) :: (wo_k_Fo_factOf ++ (wsX00 ++ []))
theorem gd_k_Fo_factOf : Gd wq_k_Fo_factOf := gd_c (gd_a (gd_o (by decide +kernel)) (gd_a gd_u gd_0))
abbrev wc_k_Fo_factOf (cyB cyI cyJ cyZ cyO : ClassId) (hf : Nat) (fd : Nat → Nat) (f_steps : Nat → Int32) (f_stack : Nat → Int32) (f_facts : Nat → Int32) (f_length : Int32) (x1 : Int32) : va_W := [(hf, .inr (0, [.ref (fd 0), .ref (fd 1), .ref (fd 2), .int f_length])), (fd 0, .inl (cyI, 270, .inl f_steps)), (fd 1, .inl (cyI, 31, .inl f_stack)), (fd 2, .inl (cyI, 6, .inl f_facts))]
set_option maxHeartbeats 4000000 in
set_option maxRecDepth 100000 in
theorem k_Fo_factOf (l : Launch) (dC : Nat → ClassId) (dI : Nat → Nat → Nat) (cyB cyI cyJ cyZ cyO : ClassId) (hf : Nat) (fd : Nat → Nat) (f_steps : Nat → Int32) (f_stack : Nat → Int32) (f_facts : Nat → Int32) (f_length : Int32) (x1 : Int32) (sz : Nat) (l_f_length : 0 ≤ f_length.toInt) (u_f_length : f_length.toInt ≤ 270) : Met l yX0_factOf wq_k_Fo_factOf ({ frames := 0, cells := 0, slots := 0, locals := 0 }) (va_Pc [.ref hf, .int x1] (cB (dC, dI) (kT cyB cyI cyJ cyZ cyO) (wc_k_Fo_factOf cyB cyI cyJ cyZ cyO hf fd f_steps f_stack f_facts f_length x1) sz)) (va_Qi (fun (r : Int32) (u : Unit) => True) (fun (u : Unit) t => cE (dC, dI) (va_A (wc_k_Fo_factOf cyB cyI cyJ cyZ cyO hf fd f_steps f_stack f_facts f_length x1) sz) ([(hf, .inr (0, [.ref (fd 0), .ref (fd 1), .ref (fd 2), .int f_length])), (fd 0, .inl (cyI, 270, .inl f_steps)), (fd 1, .inl (cyI, 31, .inl f_stack)), (fd 2, .inl (cyI, 6, .inl f_facts))]) t.heap) (va_A (wc_k_Fo_factOf cyB cyI cyJ cyZ cyO hf fd f_steps f_stack f_facts f_length x1) sz)) 0 0 (va_A (wc_k_Fo_factOf cyB cyI cyJ cyZ cyO hf fd f_steps f_stack f_facts f_length x1) sz) := by
  refine Met.ofW (cc := cX0_factOf) (maxL := 3) (ret := (some .int)) (by decide) rfl ?_
  intro p e s m args below meth c s₁ B hml hv
  obtain ⟨rfl, hsz, hP, hKN, hD0⟩ := hv
  have hx := B.exec
  have hb := B.bytes
  have hr := B.returns
  have hts := atoms_spec (ws := wq_k_Fo_factOf) B.pre
  have hown : s.vm.findClass RX0 = some m.cls := findClass_of_methodNamed B.named
  have hlocks := B.notSynchronized
  have hK := hKN.1
  have hfix : CallFix p m c cX0_factOf 3 s [.ref hf, .int x1].toArray wq_k_Fo_factOf RX0 := ⟨hx, hb, hml, hown, hts⟩
  have hi0 : ∀ w ∈ wsX00, w ∈ wq_k_Fo_factOf := (sb_c sb_l)
  subst hsz
  have hD := hD0.self (sz := s.heap.size)
  generalize hAe : va_A (wc_k_Fo_factOf cyB cyI cyJ cyZ cyO hf fd f_steps f_stack f_facts f_length x1) s.heap.size = A at hD ⊢
  have hA : ∀ q : Nat, s.heap.size ≤ q → A q := fun q h => by rw [← hAe]; exact Or.inr h
  have hS : va_S A s.heap s.heap [] := va_S.rf
  have hl := lv_entry ([.ref hf, .int x1]) (n := 3) (Nat.le_of_ble_eq_true rfl)
  rw [lg_entry_eq]
  generalize (lg_sl ([.ref hf, .int x1]) ++ List.replicate (3 - (lg_sl ([.ref hf, .int x1])).length) Slot.unset).toArray = ls at hl ⊢
  have hl : lv_has ls 3 [(0, .ref hf), (1, .int x1)] := hl
  refine lv_bipush (v := (-20)) hx hb dX0_factOf_0 (by decide) ?_
  refine lv_iload_n hx hb dX0_factOf_2 rfl (lv_at hl 1 rfl) ?_
  refine lv_isub hx hb dX0_factOf_3 ?_
  refine lv_topi (fun z10 ez10 => ?_)
  refine lv_istore_n (lv' := [(2, .int z10), (0, .ref hf), (1, .int x1)]) hx hb dX0_factOf_4 rfl hl (by decide) rfl (fun ls hl => ?_)
  refine lv_iload_n hx hb dX0_factOf_5 rfl (lv_at hl 0 rfl) ?_
  refine lv_if_lt (tgt := 24) hx hb dX0_factOf_6 (by decide) (fun c11 => ?_) (fun c11 => ?_)
  · have c11 := i_lt (a := z10.toInt) (b := 0) c11 rfl (by decide)
    refine lv_iconst (v := 0) hx hb dX0_factOf_24 (by decide) ?_
    exact W.iret (v := 0) hx hb hr (fun t ht hW => ⟨⟨0, (), rfl, trivial, cE.of ht hP hD [0, 1, 2, 3] (by decide) rfl⟩, hS.F ht⟩) hS.2.2 dX0_factOf_25
  · have c11 := i_nlt (a := z10.toInt) (b := 0) c11 rfl (by decide)
    refine lv_iload_n hx hb dX0_factOf_9 rfl (lv_at hl 0 rfl) ?_
    refine lv_bipush (v := 6) hx hb dX0_factOf_10 (by decide) ?_
    refine lv_icmp_ge (tgt := 24) hx hb dX0_factOf_12 (by decide) (fun c12 => ?_) (fun c12 => ?_)
    · have c12 := i_le (a := 6) (b := z10.toInt) c12 (by decide) rfl
      refine lv_iconst (v := 0) hx hb dX0_factOf_24 (by decide) ?_
      exact W.iret (v := 0) hx hb hr (fun t ht hW => ⟨⟨0, (), rfl, trivial, cE.of ht hP hD [0, 1, 2, 3] (by decide) rfl⟩, hS.F ht⟩) hS.2.2 dX0_factOf_25
    · have c12 := i_nle (a := 6) (b := z10.toInt) c12 (by decide) rfl
      refine lv_aload_n hx hb dX0_factOf_15 rfl (lv_at hl 1 rfl) ?_
      refine va_get (D := (dC, dI)) (ci := 0) (v := .ref (fd 2)) (C := RX0) (T := TX0) (N := 4) hx hb hts hi0 hown hK hP 0 rfl rfl 2 (by decide) (hts _ (ow_m (k := 0) rfl)) (fun _ h9 => h9) rfl dX0_factOf_16 ?_
      refine lv_iload_n hx hb dX0_factOf_19 rfl (lv_at hl 0 rfl) ?_
      have nz13 : vp_in z10 6 := (vp_i rfl (by omega) (by omega))
      refine va_iald hx hb hK hP 3 1 rfl rfl nz13 dX0_factOf_20 ?_
      refine lv_topi (fun z13 ez13 => ?_)
      refine lv_goto (tgt := 25) hx hb dX0_factOf_21 (by decide) ?_
      exact W.iret (v := z13) hx hb hr (fun t ht hW => ⟨⟨z13, (), rfl, trivial, cE.of ht hP hD [0, 1, 2, 3] (by decide) rfl⟩, hS.F ht⟩) hS.2.2 dX0_factOf_25
def wo_k_Fo_joined : List Cond := []
def wq_k_Fo_joined : List Cond := .code yX0_joined cX0_joined 3 (some .int) :: (wo_k_Fo_joined ++ [])
theorem gd_k_Fo_joined : Gd wq_k_Fo_joined := gd_c (gd_a (gd_o (by decide +kernel)) gd_0)
abbrev wc_k_Fo_joined (cyB cyI cyJ cyZ cyO : ClassId) (x0 : Int32) (x1 : Int32) (x2 : Int32) : va_W := []
set_option maxHeartbeats 4000000 in
set_option maxRecDepth 100000 in
theorem k_Fo_joined (l : Launch) (dC : Nat → ClassId) (dI : Nat → Nat → Nat) (cyB cyI cyJ cyZ cyO : ClassId) (x0 : Int32) (x1 : Int32) (x2 : Int32) (sz : Nat) : Met l yX0_joined wq_k_Fo_joined ({ frames := 0, cells := 0, slots := 0, locals := 0 }) (va_Pc [.int x0, .int x1, .int x2] (cB (dC, dI) (kT cyB cyI cyJ cyZ cyO) (wc_k_Fo_joined cyB cyI cyJ cyZ cyO x0 x1 x2) sz)) (va_Qi (fun (r : Int32) (u : Unit) => True) (fun (u : Unit) t => cE (dC, dI) (va_A (wc_k_Fo_joined cyB cyI cyJ cyZ cyO x0 x1 x2) sz) ([]) t.heap) (va_A (wc_k_Fo_joined cyB cyI cyJ cyZ cyO x0 x1 x2) sz)) 0 0 (va_A (wc_k_Fo_joined cyB cyI cyJ cyZ cyO x0 x1 x2) sz) := by
  refine Met.ofW (cc := cX0_joined) (maxL := 3) (ret := (some .int)) (by decide) rfl ?_
  intro p e s m args below meth c s₁ B hml hv
  obtain ⟨rfl, hsz, hP, hKN, hD0⟩ := hv
  have hx := B.exec
  have hb := B.bytes
  have hr := B.returns
  have hts := atoms_spec (ws := wq_k_Fo_joined) B.pre
  have hown : s.vm.findClass RX0 = some m.cls := findClass_of_methodNamed B.named
  have hlocks := B.notSynchronized
  have hK := hKN.1
  have hfix : CallFix p m c cX0_joined 3 s [.int x0, .int x1, .int x2].toArray wq_k_Fo_joined RX0 := ⟨hx, hb, hml, hown, hts⟩
  subst hsz
  have hD := hD0.self (sz := s.heap.size)
  generalize hAe : va_A (wc_k_Fo_joined cyB cyI cyJ cyZ cyO x0 x1 x2) s.heap.size = A at hD ⊢
  have hA : ∀ q : Nat, s.heap.size ≤ q → A q := fun q h => by rw [← hAe]; exact Or.inr h
  have hS : va_S A s.heap s.heap [] := va_S.rf
  have hl := lv_entry ([.int x0, .int x1, .int x2]) (n := 3) (Nat.le_of_ble_eq_true rfl)
  rw [lg_entry_eq]
  generalize (lg_sl ([.int x0, .int x1, .int x2]) ++ List.replicate (3 - (lg_sl ([.int x0, .int x1, .int x2])).length) Slot.unset).toArray = ls at hl ⊢
  have hl : lv_has ls 3 [(0, .int x0), (1, .int x1), (2, .int x2)] := hl
  refine lv_iload_n hx hb dX0_joined_0 rfl (lv_at hl 0 rfl) ?_
  by_cases c14 : x0 = (-11)
  · have c14i := i_eq (b := -11) c14 rfl (by decide)
    refine lv_tableIn (tgt := 145) hx hb dX0_joined_1 (by rw [c14]; decide) (by rw [c14]; decide) (by first | (rw [c14]; done) | (rw [c14]; rfl)) (by decide) ?_
    refine lv_iload_n hx hb dX0_joined_145 rfl (lv_at hl 2 rfl) ?_
    refine lv_if_ne (tgt := 153) hx hb dX0_joined_146 (by decide) (fun c15 => ?_) (fun c15 => ?_)
    · have c15 := i_ne (a := x2.toInt) (b := 0) c15 rfl (by decide)
      refine lv_iload_n hx hb dX0_joined_153 rfl (lv_at hl 1 rfl) ?_
      refine lv_iload_n hx hb dX0_joined_154 rfl (lv_at hl 2 rfl) ?_
      refine lv_irem hx hb dX0_joined_155 (fun h => by have h := i_eq (b := 0) h rfl (by decide); omega) ?_
      refine lv_topi (fun z16 ez16 => ?_)
      exact W.iret (v := z16) hx hb hr (fun t ht hW => ⟨⟨z16, (), rfl, trivial, cE.of ht hP hD [] (by decide) rfl⟩, hS.F ht⟩) hS.2.2 dX0_joined_156
    · have c15 := i_eq (a := x2.toInt) (b := 0) c15 rfl (by decide)
      refine lv_iconst (v := 0) hx hb dX0_joined_149 (by decide) ?_
      refine lv_goto (tgt := 156) hx hb dX0_joined_150 (by decide) ?_
      exact W.iret (v := 0) hx hb hr (fun t ht hW => ⟨⟨0, (), rfl, trivial, cE.of ht hP hD [] (by decide) rfl⟩, hS.F ht⟩) hS.2.2 dX0_joined_156
  have c14i := i_ne (b := -11) c14 rfl (by decide)
  by_cases c17 : x0 = (-10)
  · have c17i := i_eq (b := -10) c17 rfl (by decide)
    refine lv_tableIn (tgt := 133) hx hb dX0_joined_1 (by rw [c17]; decide) (by rw [c17]; decide) (by first | (rw [c17]; done) | (rw [c17]; rfl)) (by decide) ?_
    refine lv_iload_n hx hb dX0_joined_133 rfl (lv_at hl 2 rfl) ?_
    refine lv_if_ne (tgt := 141) hx hb dX0_joined_134 (by decide) (fun c18 => ?_) (fun c18 => ?_)
    · have c18 := i_ne (a := x2.toInt) (b := 0) c18 rfl (by decide)
      refine lv_iload_n hx hb dX0_joined_141 rfl (lv_at hl 1 rfl) ?_
      refine lv_iload_n hx hb dX0_joined_142 rfl (lv_at hl 2 rfl) ?_
      refine lv_idiv hx hb dX0_joined_143 (fun h => by have h := i_eq (b := 0) h rfl (by decide); omega) ?_
      refine lv_topi (fun z19 ez19 => ?_)
      exact W.iret (v := z19) hx hb hr (fun t ht hW => ⟨⟨z19, (), rfl, trivial, cE.of ht hP hD [] (by decide) rfl⟩, hS.F ht⟩) hS.2.2 dX0_joined_144
    · have c18 := i_eq (a := x2.toInt) (b := 0) c18 rfl (by decide)
      refine lv_iconst (v := 0) hx hb dX0_joined_137 (by decide) ?_
      refine lv_goto (tgt := 144) hx hb dX0_joined_138 (by decide) ?_
      exact W.iret (v := 0) hx hb hr (fun t ht hW => ⟨⟨0, (), rfl, trivial, cE.of ht hP hD [] (by decide) rfl⟩, hS.F ht⟩) hS.2.2 dX0_joined_144
  have c17i := i_ne (b := -10) c17 rfl (by decide)
  by_cases c20 : x0 = (-9)
  · have c20i := i_eq (b := -9) c20 rfl (by decide)
    refine lv_tableIn (tgt := 129) hx hb dX0_joined_1 (by rw [c20]; decide) (by rw [c20]; decide) (by first | (rw [c20]; done) | (rw [c20]; rfl)) (by decide) ?_
    refine lv_iload_n hx hb dX0_joined_129 rfl (lv_at hl 1 rfl) ?_
    refine lv_iload_n hx hb dX0_joined_130 rfl (lv_at hl 2 rfl) ?_
    refine lv_imul hx hb dX0_joined_131 ?_
    refine lv_topi (fun z21 ez21 => ?_)
    exact W.iret (v := z21) hx hb hr (fun t ht hW => ⟨⟨z21, (), rfl, trivial, cE.of ht hP hD [] (by decide) rfl⟩, hS.F ht⟩) hS.2.2 dX0_joined_132
  have c20i := i_ne (b := -9) c20 rfl (by decide)
  by_cases c22 : x0 = (-8)
  · have c22i := i_eq (b := -8) c22 rfl (by decide)
    refine lv_tableIn (tgt := 125) hx hb dX0_joined_1 (by rw [c22]; decide) (by rw [c22]; decide) (by first | (rw [c22]; done) | (rw [c22]; rfl)) (by decide) ?_
    refine lv_iload_n hx hb dX0_joined_125 rfl (lv_at hl 1 rfl) ?_
    refine lv_iload_n hx hb dX0_joined_126 rfl (lv_at hl 2 rfl) ?_
    refine lv_isub hx hb dX0_joined_127 ?_
    refine lv_topi (fun z23 ez23 => ?_)
    exact W.iret (v := z23) hx hb hr (fun t ht hW => ⟨⟨z23, (), rfl, trivial, cE.of ht hP hD [] (by decide) rfl⟩, hS.F ht⟩) hS.2.2 dX0_joined_128
  have c22i := i_ne (b := -8) c22 rfl (by decide)
  by_cases c24 : x0 = (-7)
  · have c24i := i_eq (b := -7) c24 rfl (by decide)
    refine lv_tableIn (tgt := 121) hx hb dX0_joined_1 (by rw [c24]; decide) (by rw [c24]; decide) (by first | (rw [c24]; done) | (rw [c24]; rfl)) (by decide) ?_
    refine lv_iload_n hx hb dX0_joined_121 rfl (lv_at hl 1 rfl) ?_
    refine lv_iload_n hx hb dX0_joined_122 rfl (lv_at hl 2 rfl) ?_
    refine lv_iadd hx hb dX0_joined_123 ?_
    refine lv_topi (fun z25 ez25 => ?_)
    exact W.iret (v := z25) hx hb hr (fun t ht hW => ⟨⟨z25, (), rfl, trivial, cE.of ht hP hD [] (by decide) rfl⟩, hS.F ht⟩) hS.2.2 dX0_joined_124
  have c24i := i_ne (b := -7) c24 rfl (by decide)
  by_cases c26 : x0 = (-6)
  · have c26i := i_eq (b := -6) c26 rfl (by decide)
    refine lv_tableIn (tgt := 110) hx hb dX0_joined_1 (by rw [c26]; decide) (by rw [c26]; decide) (by first | (rw [c26]; done) | (rw [c26]; rfl)) (by decide) ?_
    refine lv_iload_n hx hb dX0_joined_110 rfl (lv_at hl 1 rfl) ?_
    refine lv_iload_n hx hb dX0_joined_111 rfl (lv_at hl 2 rfl) ?_
    refine lv_icmp_ne (tgt := 119) hx hb dX0_joined_112 (by decide) (fun c27 => ?_) (fun c27 => ?_)
    · have c27 := i_ne (a := x1.toInt) (b := x2.toInt) c27 rfl rfl
      refine lv_iconst (v := 0) hx hb dX0_joined_119 (by decide) ?_
      exact W.iret (v := 0) hx hb hr (fun t ht hW => ⟨⟨0, (), rfl, trivial, cE.of ht hP hD [] (by decide) rfl⟩, hS.F ht⟩) hS.2.2 dX0_joined_120
    · have c27 := i_eq (a := x1.toInt) (b := x2.toInt) c27 rfl rfl
      refine lv_iconst (v := 1) hx hb dX0_joined_115 (by decide) ?_
      refine lv_goto (tgt := 120) hx hb dX0_joined_116 (by decide) ?_
      exact W.iret (v := 1) hx hb hr (fun t ht hW => ⟨⟨1, (), rfl, trivial, cE.of ht hP hD [] (by decide) rfl⟩, hS.F ht⟩) hS.2.2 dX0_joined_120
  have c26i := i_ne (b := -6) c26 rfl (by decide)
  by_cases c28 : x0 = (-5)
  · have c28i := i_eq (b := -5) c28 rfl (by decide)
    refine lv_tableIn (tgt := 99) hx hb dX0_joined_1 (by rw [c28]; decide) (by rw [c28]; decide) (by first | (rw [c28]; done) | (rw [c28]; rfl)) (by decide) ?_
    refine lv_iload_n hx hb dX0_joined_99 rfl (lv_at hl 1 rfl) ?_
    refine lv_iload_n hx hb dX0_joined_100 rfl (lv_at hl 2 rfl) ?_
    refine lv_icmp_le (tgt := 108) hx hb dX0_joined_101 (by decide) (fun c29 => ?_) (fun c29 => ?_)
    · have c29 := i_le (a := x1.toInt) (b := x2.toInt) c29 rfl rfl
      refine lv_iconst (v := 0) hx hb dX0_joined_108 (by decide) ?_
      exact W.iret (v := 0) hx hb hr (fun t ht hW => ⟨⟨0, (), rfl, trivial, cE.of ht hP hD [] (by decide) rfl⟩, hS.F ht⟩) hS.2.2 dX0_joined_109
    · have c29 := i_nle (a := x1.toInt) (b := x2.toInt) c29 rfl rfl
      refine lv_iconst (v := 1) hx hb dX0_joined_104 (by decide) ?_
      refine lv_goto (tgt := 109) hx hb dX0_joined_105 (by decide) ?_
      exact W.iret (v := 1) hx hb hr (fun t ht hW => ⟨⟨1, (), rfl, trivial, cE.of ht hP hD [] (by decide) rfl⟩, hS.F ht⟩) hS.2.2 dX0_joined_109
  have c28i := i_ne (b := -5) c28 rfl (by decide)
  by_cases c30 : x0 = (-4)
  · have c30i := i_eq (b := -4) c30 rfl (by decide)
    refine lv_tableIn (tgt := 88) hx hb dX0_joined_1 (by rw [c30]; decide) (by rw [c30]; decide) (by first | (rw [c30]; done) | (rw [c30]; rfl)) (by decide) ?_
    refine lv_iload_n hx hb dX0_joined_88 rfl (lv_at hl 1 rfl) ?_
    refine lv_iload_n hx hb dX0_joined_89 rfl (lv_at hl 2 rfl) ?_
    refine lv_icmp_ge (tgt := 97) hx hb dX0_joined_90 (by decide) (fun c31 => ?_) (fun c31 => ?_)
    · have c31 := i_le (a := x2.toInt) (b := x1.toInt) c31 rfl rfl
      refine lv_iconst (v := 0) hx hb dX0_joined_97 (by decide) ?_
      exact W.iret (v := 0) hx hb hr (fun t ht hW => ⟨⟨0, (), rfl, trivial, cE.of ht hP hD [] (by decide) rfl⟩, hS.F ht⟩) hS.2.2 dX0_joined_98
    · have c31 := i_nle (a := x2.toInt) (b := x1.toInt) c31 rfl rfl
      refine lv_iconst (v := 1) hx hb dX0_joined_93 (by decide) ?_
      refine lv_goto (tgt := 98) hx hb dX0_joined_94 (by decide) ?_
      exact W.iret (v := 1) hx hb hr (fun t ht hW => ⟨⟨1, (), rfl, trivial, cE.of ht hP hD [] (by decide) rfl⟩, hS.F ht⟩) hS.2.2 dX0_joined_98
  have c30i := i_ne (b := -4) c30 rfl (by decide)
  by_cases c32 : x0 = (-3)
  · have c32i := i_eq (b := -3) c32 rfl (by decide)
    refine lv_tableIn (tgt := 157) hx hb dX0_joined_1 (by rw [c32]; decide) (by rw [c32]; decide) (by first | (rw [c32]; done) | (rw [c32]; rfl)) (by decide) ?_
    refine lv_iconst (v := 0) hx hb dX0_joined_157 (by decide) ?_
    exact W.iret (v := 0) hx hb hr (fun t ht hW => ⟨⟨0, (), rfl, trivial, cE.of ht hP hD [] (by decide) rfl⟩, hS.F ht⟩) hS.2.2 dX0_joined_158
  have c32i := i_ne (b := -3) c32 rfl (by decide)
  by_cases c33 : x0 = (-2)
  · have c33i := i_eq (b := -2) c33 rfl (by decide)
    refine lv_tableIn (tgt := 74) hx hb dX0_joined_1 (by rw [c33]; decide) (by rw [c33]; decide) (by first | (rw [c33]; done) | (rw [c33]; rfl)) (by decide) ?_
    refine lv_iload_n hx hb dX0_joined_74 rfl (lv_at hl 1 rfl) ?_
    refine lv_if_eq (tgt := 86) hx hb dX0_joined_75 (by decide) (fun c34 => ?_) (fun c34 => ?_)
    · have c34 := i_eq (a := x1.toInt) (b := 0) c34 rfl (by decide)
      refine lv_iconst (v := 0) hx hb dX0_joined_86 (by decide) ?_
      exact W.iret (v := 0) hx hb hr (fun t ht hW => ⟨⟨0, (), rfl, trivial, cE.of ht hP hD [] (by decide) rfl⟩, hS.F ht⟩) hS.2.2 dX0_joined_87
    · have c34 := i_ne (a := x1.toInt) (b := 0) c34 rfl (by decide)
      refine lv_iload_n hx hb dX0_joined_78 rfl (lv_at hl 2 rfl) ?_
      refine lv_if_eq (tgt := 86) hx hb dX0_joined_79 (by decide) (fun c35 => ?_) (fun c35 => ?_)
      · have c35 := i_eq (a := x2.toInt) (b := 0) c35 rfl (by decide)
        refine lv_iconst (v := 0) hx hb dX0_joined_86 (by decide) ?_
        exact W.iret (v := 0) hx hb hr (fun t ht hW => ⟨⟨0, (), rfl, trivial, cE.of ht hP hD [] (by decide) rfl⟩, hS.F ht⟩) hS.2.2 dX0_joined_87
      · have c35 := i_ne (a := x2.toInt) (b := 0) c35 rfl (by decide)
        refine lv_iconst (v := 1) hx hb dX0_joined_82 (by decide) ?_
        refine lv_goto (tgt := 87) hx hb dX0_joined_83 (by decide) ?_
        exact W.iret (v := 1) hx hb hr (fun t ht hW => ⟨⟨1, (), rfl, trivial, cE.of ht hP hD [] (by decide) rfl⟩, hS.F ht⟩) hS.2.2 dX0_joined_87
  have c33i := i_ne (b := -2) c33 rfl (by decide)
  by_cases c36 : x0 = (-1)
  · have c36i := i_eq (b := -1) c36 rfl (by decide)
    refine lv_tableIn (tgt := 60) hx hb dX0_joined_1 (by rw [c36]; decide) (by rw [c36]; decide) (by first | (rw [c36]; done) | (rw [c36]; rfl)) (by decide) ?_
    refine lv_iload_n hx hb dX0_joined_60 rfl (lv_at hl 1 rfl) ?_
    refine lv_if_ne (tgt := 68) hx hb dX0_joined_61 (by decide) (fun c37 => ?_) (fun c37 => ?_)
    · have c37 := i_ne (a := x1.toInt) (b := 0) c37 rfl (by decide)
      refine lv_iconst (v := 1) hx hb dX0_joined_68 (by decide) ?_
      refine lv_goto (tgt := 73) hx hb dX0_joined_69 (by decide) ?_
      exact W.iret (v := 1) hx hb hr (fun t ht hW => ⟨⟨1, (), rfl, trivial, cE.of ht hP hD [] (by decide) rfl⟩, hS.F ht⟩) hS.2.2 dX0_joined_73
    · have c37 := i_eq (a := x1.toInt) (b := 0) c37 rfl (by decide)
      refine lv_iload_n hx hb dX0_joined_64 rfl (lv_at hl 2 rfl) ?_
      refine lv_if_eq (tgt := 72) hx hb dX0_joined_65 (by decide) (fun c38 => ?_) (fun c38 => ?_)
      · have c38 := i_eq (a := x2.toInt) (b := 0) c38 rfl (by decide)
        refine lv_iconst (v := 0) hx hb dX0_joined_72 (by decide) ?_
        exact W.iret (v := 0) hx hb hr (fun t ht hW => ⟨⟨0, (), rfl, trivial, cE.of ht hP hD [] (by decide) rfl⟩, hS.F ht⟩) hS.2.2 dX0_joined_73
      · have c38 := i_ne (a := x2.toInt) (b := 0) c38 rfl (by decide)
        refine lv_iconst (v := 1) hx hb dX0_joined_68 (by decide) ?_
        refine lv_goto (tgt := 73) hx hb dX0_joined_69 (by decide) ?_
        exact W.iret (v := 1) hx hb hr (fun t ht hW => ⟨⟨1, (), rfl, trivial, cE.of ht hP hD [] (by decide) rfl⟩, hS.F ht⟩) hS.2.2 dX0_joined_73
  have c36i := i_ne (b := -1) c36 rfl (by decide)
  refine lv_tableOut (tgt := 157) hx hb dX0_joined_1 (by omega) (by decide) ?_
  refine lv_iconst (v := 0) hx hb dX0_joined_157 (by decide) ?_
  exact W.iret (v := 0) hx hb hr (fun t ht hW => ⟨⟨0, (), rfl, trivial, cE.of ht hP hD [] (by decide) rfl⟩, hS.F ht⟩) hS.2.2 dX0_joined_158
def wo_k_Fo_delay : List Cond := [.fieldLink RX0 21 "ReplicaChain$Formula" "length" "I", .fieldLink RX0 18 "ReplicaChain$Formula" "facts" "[I", .fieldLink RX0 15 "ReplicaChain$Formula" "stack" "[I", .methodLink RX0 33 Lib.Math.min.name, .static Lib.Math.min.name, .initialized "java/lang/Math", .code Lib.Math.min.name Lib.Math.min.code 2 (some .int), .methodLink RX0 39 Lib.Math.max.name, .static Lib.Math.max.name, .code Lib.Math.max.name Lib.Math.max.code 2 (some .int), .fieldLink RX0 11 "ReplicaChain$Formula" "steps" "[I", .methodLink RX0 29 yX0_joined, .static yX0_joined, .initialized RX0, .methodLink RX0 25 yX0_factOf, .instanceMethod yX0_factOf, .selects RX0 yX0_factOf yX0_factOf]
def wq_k_Fo_delay : List Cond := .code yX0_delay cX0_delay 10 (some .int) :: (wo_k_Fo_delay ++ (wq_k_Fo_joined ++ (wq_k_Fo_factOf ++ (wsX00 ++ []))))
theorem gd_k_Fo_delay : Gd wq_k_Fo_delay := gd_c (gd_a (gd_o (by decide +kernel)) (gd_a gd_k_Fo_joined (gd_a gd_k_Fo_factOf (gd_a gd_u gd_0))))
abbrev wc_k_Fo_delay (cyB cyI cyJ cyZ cyO : ClassId) (hf : Nat) (fd : Nat → Nat) (f_steps : Nat → Int32) (f_stack : Nat → Int32) (f_facts : Nat → Int32) (f_length : Int32) (x1 : Int32) (x2 : Int32) (x3 : Int32) (x4 : Int32) (x5 : Int32) (x6 : Int32) : va_W := [(hf, .inr (0, [.ref (fd 0), .ref (fd 1), .ref (fd 2), .int f_length])), (fd 0, .inl (cyI, 270, .inl f_steps)), (fd 1, .inl (cyI, 31, .inl f_stack)), (fd 2, .inl (cyI, 6, .inl f_facts))]
set_option maxHeartbeats 4000000 in
set_option maxRecDepth 100000 in
theorem k_Fo_delay (l : Launch) (dC : Nat → ClassId) (dI : Nat → Nat → Nat) (cyB cyI cyJ cyZ cyO : ClassId) (hf : Nat) (fd : Nat → Nat) (f_steps : Nat → Int32) (f_stack : Nat → Int32) (f_facts : Nat → Int32) (f_length : Int32) (x1 : Int32) (x2 : Int32) (x3 : Int32) (x4 : Int32) (x5 : Int32) (x6 : Int32) (sz : Nat) (l_f_length : 0 ≤ f_length.toInt) (u_f_length : f_length.toInt ≤ 270) : Met l yX0_delay wq_k_Fo_delay ({ frames := 1, cells := 0, slots := 0, locals := 24 }) (va_Pc [.ref hf, .int x1, .int x2, .int x3, .int x4, .int x5, .int x6] (cB (dC, dI) (kT cyB cyI cyJ cyZ cyO) (wc_k_Fo_delay cyB cyI cyJ cyZ cyO hf fd f_steps f_stack f_facts f_length x1 x2 x3 x4 x5 x6) sz)) (va_Qi (fun (r : Int32) (u : ST) => 1 ≤ r.toInt ∧ r.toInt ≤ 9) (fun (u : ST) t => cE (dC, dI) (va_A (wc_k_Fo_delay cyB cyI cyJ cyZ cyO hf fd f_steps f_stack f_facts f_length x1 x2 x3 x4 x5 x6) sz) ([(hf, .inr (0, [.ref (fd 0), .ref (fd 1), .ref (fd 2), .int f_length])), (fd 0, .inl (cyI, 270, .inl f_steps)), (fd 1, .inl (cyI, 31, .inl (u.1 0))), (fd 2, .inl (cyI, 6, .inl (u.1 1)))]) t.heap) (va_A (wc_k_Fo_delay cyB cyI cyJ cyZ cyO hf fd f_steps f_stack f_facts f_length x1 x2 x3 x4 x5 x6) sz)) 0 0 (va_A (wc_k_Fo_delay cyB cyI cyJ cyZ cyO hf fd f_steps f_stack f_facts f_length x1 x2 x3 x4 x5 x6) sz) := by
  refine Met.ofW (cc := cX0_delay) (maxL := 10) (ret := (some .int)) (by decide) rfl ?_
  intro p e s m args below meth c s₁ B hml hv
  obtain ⟨rfl, hsz, hP, hKN, hD0⟩ := hv
  have hx := B.exec
  have hb := B.bytes
  have hr := B.returns
  have hts := atoms_spec (ws := wq_k_Fo_delay) B.pre
  have hown : s.vm.findClass RX0 = some m.cls := findClass_of_methodNamed B.named
  have hlocks := B.notSynchronized
  have hK := hKN.1
  have hfix : CallFix p m c cX0_delay 10 s [.ref hf, .int x1, .int x2, .int x3, .int x4, .int x5, .int x6].toArray wq_k_Fo_delay RX0 := ⟨hx, hb, hml, hown, hts⟩
  have hi0 : ∀ w ∈ wsX00, w ∈ wq_k_Fo_delay := (sb_c (sb_r (sb_r sb_l)))
  subst hsz
  have hD := hD0.self (sz := s.heap.size)
  generalize hAe : va_A (wc_k_Fo_delay cyB cyI cyJ cyZ cyO hf fd f_steps f_stack f_facts f_length x1 x2 x3 x4 x5 x6) s.heap.size = A at hD ⊢
  have hA : ∀ q : Nat, s.heap.size ≤ q → A q := fun q h => by rw [← hAe]; exact Or.inr h
  have hS : va_S A s.heap s.heap [] := va_S.rf
  have hl := lv_entry ([.ref hf, .int x1, .int x2, .int x3, .int x4, .int x5, .int x6]) (n := 10) (Nat.le_of_ble_eq_true rfl)
  rw [lg_entry_eq]
  generalize (lg_sl ([.ref hf, .int x1, .int x2, .int x3, .int x4, .int x5, .int x6]) ++ List.replicate (10 - (lg_sl ([.ref hf, .int x1, .int x2, .int x3, .int x4, .int x5, .int x6])).length) Slot.unset).toArray = ls at hl ⊢
  have hl : lv_has ls 10 [(0, .ref hf), (1, .int x1), (2, .int x2), (3, .int x3), (4, .int x4), (5, .int x5), (6, .int x6)] := hl
  refine lv_aload_n hx hb dX0_delay_0 rfl (lv_at hl 0 rfl) ?_
  refine va_get (D := (dC, dI)) (ci := 0) (v := .int f_length) (C := RX0) (T := TX0) (N := 4) hx hb hts hi0 hown hK hP 0 rfl rfl 3 (by decide) (hts _ (ow_m (k := 0) rfl)) (fun _ h9 => h9) rfl dX0_delay_1 ?_
  refine lv_if_ne (tgt := 9) hx hb dX0_delay_4 (by decide) (fun c39 => ?_) (fun c39 => ?_)
  · have c39 := i_ne (a := f_length.toInt) (b := 0) c39 rfl (by decide)
    refine lv_aload_n hx hb dX0_delay_9 rfl (lv_at hl 0 rfl) ?_
    refine va_get (D := (dC, dI)) (ci := 0) (v := .ref (fd 2)) (C := RX0) (T := TX0) (N := 4) hx hb hts hi0 hown hK hP 0 rfl rfl 2 (by decide) (hts _ (ow_m (k := 1) rfl)) (fun _ h9 => h9) rfl dX0_delay_10 ?_
    refine lv_iconst (v := 0) hx hb dX0_delay_13 (by decide) ?_
    refine lv_iload_n hx hb dX0_delay_14 rfl (lv_at hl 1 rfl) ?_
    refine va_iast hx hb hK hP hD hS 3 1 rfl rfl (vp_i (a := 0) (by decide) (by decide) (by decide)) dX0_delay_15 (fun H locs hP hD hS => ?_)
    have hP : va_P (dC, dI) vwCl [(hf, .inr (0, [.ref (fd 0), .ref (fd 1), .ref (fd 2), .int f_length])), (fd 0, .inl (cyI, 270, .inl f_steps)), (fd 1, .inl (cyI, 31, .inl f_stack)), (fd 2, .inl (cyI, 6, .inl (upd f_facts (0 : Int32).toNatClampNeg x1)))] H := hP
    have hD : va_D A [(hf, .inr (0, [.ref (fd 0), .ref (fd 1), .ref (fd 2), .int f_length])), (fd 0, .inl (cyI, 270, .inl f_steps)), (fd 1, .inl (cyI, 31, .inl f_stack)), (fd 2, .inl (cyI, 6, .inl (upd f_facts (0 : Int32).toNatClampNeg x1)))] := hD
    generalize ef40 : upd f_facts (0 : Int32).toNatClampNeg x1 = f40 at hP hD
    refine lv_aload_n hx hb dX0_delay_16 rfl (lv_at hl 0 rfl) ?_
    refine va_get (D := (dC, dI)) (ci := 0) (v := .ref (fd 2)) (C := RX0) (T := TX0) (N := 4) hx hb hts hi0 hown hK hP 0 rfl rfl 2 (by decide) (hts _ (ow_m (k := 1) rfl)) (fun _ h9 => h9) rfl dX0_delay_17 ?_
    refine lv_iconst (v := 1) hx hb dX0_delay_20 (by decide) ?_
    refine lv_iload_n hx hb dX0_delay_21 rfl (lv_at hl 2 rfl) ?_
    refine va_iast hx hb hK hP hD hS 3 1 rfl rfl (vp_i (a := 1) (by decide) (by decide) (by decide)) dX0_delay_22 (fun H locs hP hD hS => ?_)
    have hP : va_P (dC, dI) vwCl [(hf, .inr (0, [.ref (fd 0), .ref (fd 1), .ref (fd 2), .int f_length])), (fd 0, .inl (cyI, 270, .inl f_steps)), (fd 1, .inl (cyI, 31, .inl f_stack)), (fd 2, .inl (cyI, 6, .inl (upd f40 (1 : Int32).toNatClampNeg x2)))] H := hP
    have hD : va_D A [(hf, .inr (0, [.ref (fd 0), .ref (fd 1), .ref (fd 2), .int f_length])), (fd 0, .inl (cyI, 270, .inl f_steps)), (fd 1, .inl (cyI, 31, .inl f_stack)), (fd 2, .inl (cyI, 6, .inl (upd f40 (1 : Int32).toNatClampNeg x2)))] := hD
    generalize ef41 : upd f40 (1 : Int32).toNatClampNeg x2 = f41 at hP hD
    refine lv_aload_n hx hb dX0_delay_23 rfl (lv_at hl 0 rfl) ?_
    refine va_get (D := (dC, dI)) (ci := 0) (v := .ref (fd 2)) (C := RX0) (T := TX0) (N := 4) hx hb hts hi0 hown hK hP 0 rfl rfl 2 (by decide) (hts _ (ow_m (k := 1) rfl)) (fun _ h9 => h9) rfl dX0_delay_24 ?_
    refine lv_iconst (v := 2) hx hb dX0_delay_27 (by decide) ?_
    refine lv_iload_n hx hb dX0_delay_28 rfl (lv_at hl 3 rfl) ?_
    refine va_iast hx hb hK hP hD hS 3 1 rfl rfl (vp_i (a := 2) (by decide) (by decide) (by decide)) dX0_delay_29 (fun H locs hP hD hS => ?_)
    have hP : va_P (dC, dI) vwCl [(hf, .inr (0, [.ref (fd 0), .ref (fd 1), .ref (fd 2), .int f_length])), (fd 0, .inl (cyI, 270, .inl f_steps)), (fd 1, .inl (cyI, 31, .inl f_stack)), (fd 2, .inl (cyI, 6, .inl (upd f41 (2 : Int32).toNatClampNeg x3)))] H := hP
    have hD : va_D A [(hf, .inr (0, [.ref (fd 0), .ref (fd 1), .ref (fd 2), .int f_length])), (fd 0, .inl (cyI, 270, .inl f_steps)), (fd 1, .inl (cyI, 31, .inl f_stack)), (fd 2, .inl (cyI, 6, .inl (upd f41 (2 : Int32).toNatClampNeg x3)))] := hD
    generalize ef42 : upd f41 (2 : Int32).toNatClampNeg x3 = f42 at hP hD
    refine lv_aload_n hx hb dX0_delay_30 rfl (lv_at hl 0 rfl) ?_
    refine va_get (D := (dC, dI)) (ci := 0) (v := .ref (fd 2)) (C := RX0) (T := TX0) (N := 4) hx hb hts hi0 hown hK hP 0 rfl rfl 2 (by decide) (hts _ (ow_m (k := 1) rfl)) (fun _ h9 => h9) rfl dX0_delay_31 ?_
    refine lv_iconst (v := 3) hx hb dX0_delay_34 (by decide) ?_
    refine lv_iload hx hb dX0_delay_35 (lv_at hl 4 rfl) ?_
    refine va_iast hx hb hK hP hD hS 3 1 rfl rfl (vp_i (a := 3) (by decide) (by decide) (by decide)) dX0_delay_37 (fun H locs hP hD hS => ?_)
    have hP : va_P (dC, dI) vwCl [(hf, .inr (0, [.ref (fd 0), .ref (fd 1), .ref (fd 2), .int f_length])), (fd 0, .inl (cyI, 270, .inl f_steps)), (fd 1, .inl (cyI, 31, .inl f_stack)), (fd 2, .inl (cyI, 6, .inl (upd f42 (3 : Int32).toNatClampNeg x4)))] H := hP
    have hD : va_D A [(hf, .inr (0, [.ref (fd 0), .ref (fd 1), .ref (fd 2), .int f_length])), (fd 0, .inl (cyI, 270, .inl f_steps)), (fd 1, .inl (cyI, 31, .inl f_stack)), (fd 2, .inl (cyI, 6, .inl (upd f42 (3 : Int32).toNatClampNeg x4)))] := hD
    generalize ef43 : upd f42 (3 : Int32).toNatClampNeg x4 = f43 at hP hD
    refine lv_aload_n hx hb dX0_delay_38 rfl (lv_at hl 0 rfl) ?_
    refine va_get (D := (dC, dI)) (ci := 0) (v := .ref (fd 2)) (C := RX0) (T := TX0) (N := 4) hx hb hts hi0 hown hK hP 0 rfl rfl 2 (by decide) (hts _ (ow_m (k := 1) rfl)) (fun _ h9 => h9) rfl dX0_delay_39 ?_
    refine lv_iconst (v := 4) hx hb dX0_delay_42 (by decide) ?_
    refine lv_iload hx hb dX0_delay_43 (lv_at hl 5 rfl) ?_
    refine va_iast hx hb hK hP hD hS 3 1 rfl rfl (vp_i (a := 4) (by decide) (by decide) (by decide)) dX0_delay_45 (fun H locs hP hD hS => ?_)
    have hP : va_P (dC, dI) vwCl [(hf, .inr (0, [.ref (fd 0), .ref (fd 1), .ref (fd 2), .int f_length])), (fd 0, .inl (cyI, 270, .inl f_steps)), (fd 1, .inl (cyI, 31, .inl f_stack)), (fd 2, .inl (cyI, 6, .inl (upd f43 (4 : Int32).toNatClampNeg x5)))] H := hP
    have hD : va_D A [(hf, .inr (0, [.ref (fd 0), .ref (fd 1), .ref (fd 2), .int f_length])), (fd 0, .inl (cyI, 270, .inl f_steps)), (fd 1, .inl (cyI, 31, .inl f_stack)), (fd 2, .inl (cyI, 6, .inl (upd f43 (4 : Int32).toNatClampNeg x5)))] := hD
    generalize ef44 : upd f43 (4 : Int32).toNatClampNeg x5 = f44 at hP hD
    refine lv_aload_n hx hb dX0_delay_46 rfl (lv_at hl 0 rfl) ?_
    refine va_get (D := (dC, dI)) (ci := 0) (v := .ref (fd 2)) (C := RX0) (T := TX0) (N := 4) hx hb hts hi0 hown hK hP 0 rfl rfl 2 (by decide) (hts _ (ow_m (k := 1) rfl)) (fun _ h9 => h9) rfl dX0_delay_47 ?_
    refine lv_iconst (v := 5) hx hb dX0_delay_50 (by decide) ?_
    refine lv_iload hx hb dX0_delay_51 (lv_at hl 6 rfl) ?_
    refine va_iast hx hb hK hP hD hS 3 1 rfl rfl (vp_i (a := 5) (by decide) (by decide) (by decide)) dX0_delay_53 (fun H locs hP hD hS => ?_)
    have hP : va_P (dC, dI) vwCl [(hf, .inr (0, [.ref (fd 0), .ref (fd 1), .ref (fd 2), .int f_length])), (fd 0, .inl (cyI, 270, .inl f_steps)), (fd 1, .inl (cyI, 31, .inl f_stack)), (fd 2, .inl (cyI, 6, .inl (upd f44 (5 : Int32).toNatClampNeg x6)))] H := hP
    have hD : va_D A [(hf, .inr (0, [.ref (fd 0), .ref (fd 1), .ref (fd 2), .int f_length])), (fd 0, .inl (cyI, 270, .inl f_steps)), (fd 1, .inl (cyI, 31, .inl f_stack)), (fd 2, .inl (cyI, 6, .inl (upd f44 (5 : Int32).toNatClampNeg x6)))] := hD
    generalize ef45 : upd f44 (5 : Int32).toNatClampNeg x6 = f45 at hP hD
    refine lv_iconst (v := 0) hx hb dX0_delay_54 (by decide) ?_
    refine lv_istore (lv' := [(7, .int 0), (0, .ref hf), (1, .int x1), (2, .int x2), (3, .int x3), (4, .int x4), (5, .int x5), (6, .int x6)]) hx hb dX0_delay_55 hl (by decide) rfl (fun ls hl => ?_)
    refine lv_iconst (v := 0) hx hb dX0_delay_57 (by decide) ?_
    refine lv_istore (lv' := [(8, .int 0), (7, .int 0), (0, .ref hf), (1, .int x1), (2, .int x2), (3, .int x3), (4, .int x4), (5, .int x5), (6, .int x6)]) hx hb dX0_delay_58 hl (by decide) rfl (fun ls hl => ?_)
    refine w_gen (fun H locs ls hP hS hl => ?_) hP hS hl
    have k48 : (0 : Int32).toInt = 0 := by decide
    have k50 : (0 : Int32).toInt = 0 := by decide
    obtain ⟨v47, v49, f51, hl2, hP2, hD2, b52, b53, b54, b55⟩ : ∃ (v47 : Int32) (v49 : Int32) (f51 : Nat → Int32), lv_has ls 10 [(8, .int v49), (7, .int v47), (0, .ref hf), (1, .int x1), (2, .int x2), (3, .int x3), (4, .int x4), (5, .int x5), (6, .int x6)] ∧ va_P (dC, dI) vwCl [(hf, .inr (0, [.ref (fd 0), .ref (fd 1), .ref (fd 2), .int f_length])), (fd 0, .inl (cyI, 270, .inl f_steps)), (fd 1, .inl (cyI, 31, .inl f51)), (fd 2, .inl (cyI, 6, .inl f45))] H ∧ va_D A [(hf, .inr (0, [.ref (fd 0), .ref (fd 1), .ref (fd 2), .int f_length])), (fd 0, .inl (cyI, 270, .inl f_steps)), (fd 1, .inl (cyI, 31, .inl f51)), (fd 2, .inl (cyI, 6, .inl f45))] ∧ 0 ≤ v47.toInt ∧ v47.toInt ≤ 31 ∧ 0 ≤ v49.toInt ∧ v49.toInt ≤ 270 := ⟨0, 0, f_stack, hl, hP, hD, by first | omega | assumption, by first | omega | assumption, by first | omega | assumption, by first | omega | assumption⟩
    clear hP hl
    have hP := hP2
    have hD := hD2
    have hl := hl2
    clear hP2 hD2 hl2
    obtain ⟨n56, hn56⟩ : ∃ n : Nat, 270 - v49.toInt < (n : Int) := ⟨(270 - v49.toInt).toNat + 1, by omega⟩
    induction n56 generalizing v47 v49 f51 H locs ls with
    | zero => exfalso; omega
    | succ n56 ih46 =>
      refine lv_iload hx hb dX0_delay_60 (lv_at hl 0 rfl) ?_
      refine lv_aload_n hx hb dX0_delay_62 rfl (lv_at hl 2 rfl) ?_
      refine va_get (D := (dC, dI)) (ci := 0) (v := .int f_length) (C := RX0) (T := TX0) (N := 4) hx hb hts hi0 hown hK hP 0 rfl rfl 3 (by decide) (hts _ (ow_m (k := 0) rfl)) (fun _ h9 => h9) rfl dX0_delay_63 ?_
      refine lv_icmp_ge (tgt := 215) hx hb dX0_delay_66 (by decide) (fun c57 => ?_) (fun c57 => ?_)
      · have c57 := i_le (a := f_length.toInt) (b := v49.toInt) c57 rfl rfl
        refine lv_iconst (v := 1) hx hb dX0_delay_215 (by decide) ?_
        refine lv_bipush (v := 9) hx hb dX0_delay_216 (by decide) ?_
        refine lv_aload_n hx hb dX0_delay_218 rfl (lv_at hl 2 rfl) ?_
        refine va_get (D := (dC, dI)) (ci := 0) (v := .ref (fd 1)) (C := RX0) (T := TX0) (N := 4) hx hb hts hi0 hown hK hP 0 rfl rfl 1 (by decide) (hts _ (ow_m (k := 2) rfl)) (fun _ h9 => h9) rfl dX0_delay_219 ?_
        refine lv_iconst (v := 0) hx hb dX0_delay_222 (by decide) ?_
        have nz58 : vp_in 0 31 := (vp_i (a := 0) (by decide) (by decide) (by decide))
        refine va_iald hx hb hK hP 2 1 rfl rfl nz58 dX0_delay_223 ?_
        refine lv_topi (fun z58 ez58 => ?_)
        refine va_mmin hx hb (hml.trans hl.1.symm) hown (hts _ (ow_m (k := 3) rfl)) (hts _ (ow_m (k := 4) rfl)) (hts _ (ow_m (k := 5) rfl)) (hts _ (ow_m (k := 6) rfl)) (Nat.le_of_ble_eq_true rfl) (Nat.le_of_ble_eq_true rfl) (Nat.le_of_ble_eq_true rfl) (Nat.le_of_ble_eq_true rfl) dX0_delay_224 ?_
        refine lv_topi (fun z59 ez59 => ?_)
        have tz59 := mm_min (a := 9) (b := z58.toInt) ez59 (by decide) rfl
        refine va_mmax hx hb (hml.trans hl.1.symm) hown (hts _ (ow_m (k := 7) rfl)) (hts _ (ow_m (k := 8) rfl)) (hts _ (ow_m (k := 5) rfl)) (hts _ (ow_m (k := 9) rfl)) (Nat.le_of_ble_eq_true rfl) (Nat.le_of_ble_eq_true rfl) (Nat.le_of_ble_eq_true rfl) (Nat.le_of_ble_eq_true rfl) dX0_delay_227 ?_
        refine lv_topi (fun z60 ez60 => ?_)
        have tz60 := mm_max (a := 1) (b := z59.toInt) ez60 (by decide) rfl
        have w61 : 1 ≤ z60.toInt := by first | omega | assumption
        have w62 : z60.toInt ≤ 9 := by first | omega | assumption
        exact W.iret (v := z60) hx hb hr (fun t ht hW => ⟨⟨z60, ((fun k => match k with | 0 => f51 | _ => f45), (fun _ => 0)), rfl, ⟨w61, w62⟩, cE.of ht hP hD [0, 1, 2, 3] (by decide) rfl⟩, hS.F ht⟩) hS.2.2 dX0_delay_230
      · have c57 := i_nle (a := f_length.toInt) (b := v49.toInt) c57 rfl rfl
        refine lv_aload_n hx hb dX0_delay_69 rfl (lv_at hl 2 rfl) ?_
        refine va_get (D := (dC, dI)) (ci := 0) (v := .ref (fd 0)) (C := RX0) (T := TX0) (N := 4) hx hb hts hi0 hown hK hP 0 rfl rfl 0 (by decide) (hts _ (ow_m (k := 10) rfl)) (fun _ h9 => h9) rfl dX0_delay_70 ?_
        refine lv_iload hx hb dX0_delay_73 (lv_at hl 0 rfl) ?_
        have nz63 : vp_in v49 270 := (vp_i rfl (by omega) (by omega))
        refine va_iald hx hb hK hP 1 1 rfl rfl nz63 dX0_delay_75 ?_
        refine lv_topi (fun z63 ez63 => ?_)
        refine lv_istore (lv' := [(9, .int z63), (8, .int v49), (7, .int v47), (0, .ref hf), (1, .int x1), (2, .int x2), (3, .int x3), (4, .int x4), (5, .int x5), (6, .int x6)]) hx hb dX0_delay_76 hl (by decide) rfl (fun ls hl => ?_)
        refine lv_iload hx hb dX0_delay_78 (lv_at hl 0 rfl) ?_
        refine lv_if_ge (tgt := 90) hx hb dX0_delay_80 (by decide) (fun c64 => ?_) (fun c64 => ?_)
        · have c64 := i_le (a := 0) (b := z63.toInt) c64 (by decide) rfl
          refine lv_iload hx hb dX0_delay_90 (lv_at hl 2 rfl) ?_
          refine lv_aload_n hx hb dX0_delay_92 rfl (lv_at hl 3 rfl) ?_
          refine va_get (D := (dC, dI)) (ci := 0) (v := .ref (fd 1)) (C := RX0) (T := TX0) (N := 4) hx hb hts hi0 hown hK hP 0 rfl rfl 1 (by decide) (hts _ (ow_m (k := 2) rfl)) (fun _ h9 => h9) rfl dX0_delay_93 ?_
          refine va_alen (v := 31) hx hb hK hP 2 1 rfl rfl rfl dX0_delay_96 ?_
          refine lv_icmp_ge (tgt := 209) hx hb dX0_delay_97 (by decide) (fun c65 => ?_) (fun c65 => ?_)
          · have c65 := i_le (a := 31) (b := v47.toInt) c65 (by decide) rfl
            obtain ⟨z66, ez66⟩ : ∃ y : Int32, y = v49 + 1 := ⟨_, rfl⟩
            have tz66 := ti_add (a := v49.toInt) (b := 1) ez66 rfl (by decide) (by omega) (by omega)
            refine lv_iinc (v := z66) (lv' := [(8, .int z66), (9, .int z63), (7, .int v47), (0, .ref hf), (1, .int x1), (2, .int x2), (3, .int x3), (4, .int x4), (5, .int x5), (6, .int x6)]) hx hb dX0_delay_209 hl (k := 1) rfl (by rw [ez66]; rfl) (by decide) rfl (fun ls hl => ?_)
            refine lv_goto (tgt := 60) hx hb dX0_delay_212 (by decide) ?_
            have hl := lv_sub (l' := [(8, .int z66), (7, .int v47), (0, .ref hf), (1, .int x1), (2, .int x2), (3, .int x3), (4, .int x4), (5, .int x5), (6, .int x6)]) hl [0, 2, 3, 4, 5, 6, 7, 8, 9] rfl
            apply ih46 (v47 := v47) (v49 := z66) (f51 := f51) (H := H) (locs := locs) (ls := ls) <;> first | assumption | omega
          · have c65 := i_nle (a := 31) (b := v47.toInt) c65 (by decide) rfl
            refine lv_aload_n hx hb dX0_delay_100 rfl (lv_at hl 3 rfl) ?_
            refine va_get (D := (dC, dI)) (ci := 0) (v := .ref (fd 1)) (C := RX0) (T := TX0) (N := 4) hx hb hts hi0 hown hK hP 0 rfl rfl 1 (by decide) (hts _ (ow_m (k := 2) rfl)) (fun _ h9 => h9) rfl dX0_delay_101 ?_
            refine lv_iload hx hb dX0_delay_104 (lv_at hl 2 rfl) ?_
            refine lv_iload hx hb dX0_delay_106 (lv_at hl 0 rfl) ?_
            refine lv_if_lt (tgt := 116) hx hb dX0_delay_108 (by decide) (fun c67 => ?_) (fun c67 => ?_)
            · have c67 := i_lt (a := z63.toInt) (b := 0) c67 rfl (by decide)
              exfalso; omega
            · have c67 := i_nlt (a := z63.toInt) (b := 0) c67 rfl (by decide)
              refine lv_iload hx hb dX0_delay_111 (lv_at hl 0 rfl) ?_
              refine lv_goto (tgt := 122) hx hb dX0_delay_113 (by decide) ?_
              refine va_iast hx hb hK hP hD hS 2 1 rfl rfl (vp_i rfl (by omega) (by omega)) dX0_delay_122 (fun H locs hP hD hS => ?_)
              have hP : va_P (dC, dI) vwCl [(hf, .inr (0, [.ref (fd 0), .ref (fd 1), .ref (fd 2), .int f_length])), (fd 0, .inl (cyI, 270, .inl f_steps)), (fd 1, .inl (cyI, 31, .inl (upd f51 v47.toNatClampNeg z63))), (fd 2, .inl (cyI, 6, .inl f45))] H := hP
              have hD : va_D A [(hf, .inr (0, [.ref (fd 0), .ref (fd 1), .ref (fd 2), .int f_length])), (fd 0, .inl (cyI, 270, .inl f_steps)), (fd 1, .inl (cyI, 31, .inl (upd f51 v47.toNatClampNeg z63))), (fd 2, .inl (cyI, 6, .inl f45))] := hD
              generalize ef68 : upd f51 v47.toNatClampNeg z63 = f68 at hP hD
              obtain ⟨z69, ez69⟩ : ∃ y : Int32, y = v47 + 1 := ⟨_, rfl⟩
              have tz69 := ti_add (a := v47.toInt) (b := 1) ez69 rfl (by decide) (by omega) (by omega)
              refine lv_iinc (v := z69) (lv' := [(7, .int z69), (9, .int z63), (8, .int v49), (0, .ref hf), (1, .int x1), (2, .int x2), (3, .int x3), (4, .int x4), (5, .int x5), (6, .int x6)]) hx hb dX0_delay_123 hl (k := 2) rfl (by rw [ez69]; rfl) (by decide) rfl (fun ls hl => ?_)
              refine lv_goto (tgt := 209) hx hb dX0_delay_126 (by decide) ?_
              obtain ⟨z70, ez70⟩ : ∃ y : Int32, y = v49 + 1 := ⟨_, rfl⟩
              have tz70 := ti_add (a := v49.toInt) (b := 1) ez70 rfl (by decide) (by omega) (by omega)
              refine lv_iinc (v := z70) (lv' := [(8, .int z70), (7, .int z69), (9, .int z63), (0, .ref hf), (1, .int x1), (2, .int x2), (3, .int x3), (4, .int x4), (5, .int x5), (6, .int x6)]) hx hb dX0_delay_209 hl (k := 2) rfl (by rw [ez70]; rfl) (by decide) rfl (fun ls hl => ?_)
              refine lv_goto (tgt := 60) hx hb dX0_delay_212 (by decide) ?_
              have hl := lv_sub (l' := [(8, .int z70), (7, .int z69), (0, .ref hf), (1, .int x1), (2, .int x2), (3, .int x3), (4, .int x4), (5, .int x5), (6, .int x6)]) hl [0, 1, 3, 4, 5, 6, 7, 8, 9] rfl
              apply ih46 (v47 := z69) (v49 := z70) (f51 := f68) (H := H) (locs := locs) (ls := ls) <;> first | assumption | omega
        · have c64 := i_nle (a := 0) (b := z63.toInt) c64 (by decide) rfl
          refine lv_iload hx hb dX0_delay_83 (lv_at hl 0 rfl) ?_
          refine lv_bipush (v := (-20)) hx hb dX0_delay_85 (by decide) ?_
          refine lv_icmp_gt (tgt := 129) hx hb dX0_delay_87 (by decide) (fun c71 => ?_) (fun c71 => ?_)
          · have c71 := i_lt (a := (-20)) (b := z63.toInt) c71 (by decide) rfl
            refine lv_iload hx hb dX0_delay_129 (lv_at hl 0 rfl) ?_
            refine lv_bipush (v := (-3)) hx hb dX0_delay_131 (by decide) ?_
            refine lv_icmp_ne (tgt := 170) hx hb dX0_delay_133 (by decide) (fun c72 => ?_) (fun c72 => ?_)
            · have c72 := i_ne (a := z63.toInt) (b := (-3)) c72 rfl (by decide)
              refine lv_iload hx hb dX0_delay_170 (lv_at hl 2 rfl) ?_
              refine lv_iconst (v := 1) hx hb dX0_delay_172 (by decide) ?_
              refine lv_icmp_le (tgt := 209) hx hb dX0_delay_173 (by decide) (fun c73 => ?_) (fun c73 => ?_)
              · have c73 := i_le (a := v47.toInt) (b := 1) c73 rfl (by decide)
                obtain ⟨z74, ez74⟩ : ∃ y : Int32, y = v49 + 1 := ⟨_, rfl⟩
                have tz74 := ti_add (a := v49.toInt) (b := 1) ez74 rfl (by decide) (by omega) (by omega)
                refine lv_iinc (v := z74) (lv' := [(8, .int z74), (9, .int z63), (7, .int v47), (0, .ref hf), (1, .int x1), (2, .int x2), (3, .int x3), (4, .int x4), (5, .int x5), (6, .int x6)]) hx hb dX0_delay_209 hl (k := 1) rfl (by rw [ez74]; rfl) (by decide) rfl (fun ls hl => ?_)
                refine lv_goto (tgt := 60) hx hb dX0_delay_212 (by decide) ?_
                have hl := lv_sub (l' := [(8, .int z74), (7, .int v47), (0, .ref hf), (1, .int x1), (2, .int x2), (3, .int x3), (4, .int x4), (5, .int x5), (6, .int x6)]) hl [0, 2, 3, 4, 5, 6, 7, 8, 9] rfl
                apply ih46 (v47 := v47) (v49 := z74) (f51 := f51) (H := H) (locs := locs) (ls := ls) <;> first | assumption | omega
              · have c73 := i_nle (a := v47.toInt) (b := 1) c73 rfl (by decide)
                obtain ⟨z75, ez75⟩ : ∃ y : Int32, y = v47 + (-1) := ⟨_, rfl⟩
                have tz75 := ti_add (a := v47.toInt) (b := (-1)) ez75 rfl (by decide) (by omega) (by omega)
                refine lv_iinc (v := z75) (lv' := [(7, .int z75), (9, .int z63), (8, .int v49), (0, .ref hf), (1, .int x1), (2, .int x2), (3, .int x3), (4, .int x4), (5, .int x5), (6, .int x6)]) hx hb dX0_delay_176 hl (k := 2) rfl (by rw [ez75]; rfl) (by decide) rfl (fun ls hl => ?_)
                refine lv_aload_n hx hb dX0_delay_179 rfl (lv_at hl 3 rfl) ?_
                refine va_get (D := (dC, dI)) (ci := 0) (v := .ref (fd 1)) (C := RX0) (T := TX0) (N := 4) hx hb hts hi0 hown hK hP 0 rfl rfl 1 (by decide) (hts _ (ow_m (k := 2) rfl)) (fun _ h9 => h9) rfl dX0_delay_180 ?_
                refine lv_iload hx hb dX0_delay_183 (lv_at hl 0 rfl) ?_
                refine lv_iconst (v := 1) hx hb dX0_delay_185 (by decide) ?_
                refine lv_isub hx hb dX0_delay_186 ?_
                refine lv_topi (fun z76 ez76 => ?_)
                have tz76 := ti_sub (a := z75.toInt) (b := 1) ez76 rfl (by decide) (by omega) (by omega)
                refine lv_iload hx hb dX0_delay_187 (lv_at hl 1 rfl) ?_
                refine lv_aload_n hx hb dX0_delay_189 rfl (lv_at hl 3 rfl) ?_
                refine va_get (D := (dC, dI)) (ci := 0) (v := .ref (fd 1)) (C := RX0) (T := TX0) (N := 4) hx hb hts hi0 hown hK hP 0 rfl rfl 1 (by decide) (hts _ (ow_m (k := 2) rfl)) (fun _ h9 => h9) rfl dX0_delay_190 ?_
                refine lv_iload hx hb dX0_delay_193 (lv_at hl 0 rfl) ?_
                refine lv_iconst (v := 1) hx hb dX0_delay_195 (by decide) ?_
                refine lv_isub hx hb dX0_delay_196 ?_
                refine lv_topi (fun z77 ez77 => ?_)
                have tz77 := ti_sub (a := z75.toInt) (b := 1) ez77 rfl (by decide) (by omega) (by omega)
                have nz78 : vp_in z77 31 := (vp_i rfl (by omega) (by omega))
                refine va_iald hx hb hK hP 2 1 rfl rfl nz78 dX0_delay_197 ?_
                refine lv_topi (fun z78 ez78 => ?_)
                refine lv_aload_n hx hb dX0_delay_198 rfl (lv_at hl 3 rfl) ?_
                refine va_get (D := (dC, dI)) (ci := 0) (v := .ref (fd 1)) (C := RX0) (T := TX0) (N := 4) hx hb hts hi0 hown hK hP 0 rfl rfl 1 (by decide) (hts _ (ow_m (k := 2) rfl)) (fun _ h9 => h9) rfl dX0_delay_199 ?_
                refine lv_iload hx hb dX0_delay_202 (lv_at hl 0 rfl) ?_
                have nz79 : vp_in z75 31 := (vp_i rfl (by omega) (by omega))
                refine va_iald hx hb hK hP 2 1 rfl rfl nz79 dX0_delay_204 ?_
                refine lv_topi (fun z79 ez79 => ?_)
                refine gf_i (wr := [(hf, .inr (0, [.ref (fd 0), .ref (fd 1), .ref (fd 2), .int f_length])), (fd 0, .inl (cyI, 270, .inl f_steps)), (fd 1, .inl (cyI, 31, .inl f51)), (fd 2, .inl (cyI, 6, .inl f45))]) (va_runS (As := [.int z63, .int z78, .int z79]) (rest := [.int z76, .ref (fd 1)]) hfix (k_Fo_joined l dC dI cyB cyI cyJ cyZ cyO z63 z78 z79 _) (va_cwS 3 hts (gi_S (ow_m (k := 11) rfl) (ow_m (k := 12) rfl) (ow_m (k := 13) rfl) (sb_c sb_l) gd_k_Fo_joined) rfl rfl rfl (by decide +kernel) ⟨Nat.le_of_ble_eq_true rfl, Nat.le_of_ble_eq_true rfl⟩) (g_preS hKN hP hD [] rfl (by decide)) rfl rfl hl.1 rfl (lv_room (Nat.le_of_ble_eq_true rfl)) dX0_delay_205 ⟨Nat.le_of_ble_eq_true rfl, Nat.le_of_ble_eq_true rfl⟩) hP hD hS hA [] [0, 1, 2, 3] rfl rfl (by decide) (by decide) (fun r80 u81 H locs qu81 hP hD hS => ?_)
                have hP : va_P (dC, dI) vwCl [(hf, .inr (0, [.ref (fd 0), .ref (fd 1), .ref (fd 2), .int f_length])), (fd 0, .inl (cyI, 270, .inl f_steps)), (fd 1, .inl (cyI, 31, .inl f51)), (fd 2, .inl (cyI, 6, .inl f45))] H := hP
                have hD : va_D A [(hf, .inr (0, [.ref (fd 0), .ref (fd 1), .ref (fd 2), .int f_length])), (fd 0, .inl (cyI, 270, .inl f_steps)), (fd 1, .inl (cyI, 31, .inl f51)), (fd 2, .inl (cyI, 6, .inl f45))] := hD
                refine va_iast hx hb hK hP hD hS 2 1 rfl rfl (vp_i rfl (by omega) (by omega)) dX0_delay_208 (fun H locs hP hD hS => ?_)
                have hP : va_P (dC, dI) vwCl [(hf, .inr (0, [.ref (fd 0), .ref (fd 1), .ref (fd 2), .int f_length])), (fd 0, .inl (cyI, 270, .inl f_steps)), (fd 1, .inl (cyI, 31, .inl (upd f51 z76.toNatClampNeg r80))), (fd 2, .inl (cyI, 6, .inl f45))] H := hP
                have hD : va_D A [(hf, .inr (0, [.ref (fd 0), .ref (fd 1), .ref (fd 2), .int f_length])), (fd 0, .inl (cyI, 270, .inl f_steps)), (fd 1, .inl (cyI, 31, .inl (upd f51 z76.toNatClampNeg r80))), (fd 2, .inl (cyI, 6, .inl f45))] := hD
                generalize ef82 : upd f51 z76.toNatClampNeg r80 = f82 at hP hD
                obtain ⟨z83, ez83⟩ : ∃ y : Int32, y = v49 + 1 := ⟨_, rfl⟩
                have tz83 := ti_add (a := v49.toInt) (b := 1) ez83 rfl (by decide) (by omega) (by omega)
                refine lv_iinc (v := z83) (lv' := [(8, .int z83), (7, .int z75), (9, .int z63), (0, .ref hf), (1, .int x1), (2, .int x2), (3, .int x3), (4, .int x4), (5, .int x5), (6, .int x6)]) hx hb dX0_delay_209 hl (k := 2) rfl (by rw [ez83]; rfl) (by decide) rfl (fun ls hl => ?_)
                refine lv_goto (tgt := 60) hx hb dX0_delay_212 (by decide) ?_
                have hl := lv_sub (l' := [(8, .int z83), (7, .int z75), (0, .ref hf), (1, .int x1), (2, .int x2), (3, .int x3), (4, .int x4), (5, .int x5), (6, .int x6)]) hl [0, 1, 3, 4, 5, 6, 7, 8, 9] rfl
                apply ih46 (v47 := z75) (v49 := z83) (f51 := f82) (H := H) (locs := locs) (ls := ls) <;> first | assumption | omega
            · have c72 := i_eq (a := z63.toInt) (b := (-3)) c72 rfl (by decide)
              refine lv_iload hx hb dX0_delay_136 (lv_at hl 2 rfl) ?_
              refine lv_if_le (tgt := 209) hx hb dX0_delay_138 (by decide) (fun c84 => ?_) (fun c84 => ?_)
              · have c84 := i_le (a := v47.toInt) (b := 0) c84 rfl (by decide)
                obtain ⟨z85, ez85⟩ : ∃ y : Int32, y = v49 + 1 := ⟨_, rfl⟩
                have tz85 := ti_add (a := v49.toInt) (b := 1) ez85 rfl (by decide) (by omega) (by omega)
                refine lv_iinc (v := z85) (lv' := [(8, .int z85), (9, .int z63), (7, .int v47), (0, .ref hf), (1, .int x1), (2, .int x2), (3, .int x3), (4, .int x4), (5, .int x5), (6, .int x6)]) hx hb dX0_delay_209 hl (k := 1) rfl (by rw [ez85]; rfl) (by decide) rfl (fun ls hl => ?_)
                refine lv_goto (tgt := 60) hx hb dX0_delay_212 (by decide) ?_
                have hl := lv_sub (l' := [(8, .int z85), (7, .int v47), (0, .ref hf), (1, .int x1), (2, .int x2), (3, .int x3), (4, .int x4), (5, .int x5), (6, .int x6)]) hl [0, 2, 3, 4, 5, 6, 7, 8, 9] rfl
                apply ih46 (v47 := v47) (v49 := z85) (f51 := f51) (H := H) (locs := locs) (ls := ls) <;> first | assumption | omega
              · have c84 := i_nle (a := v47.toInt) (b := 0) c84 rfl (by decide)
                refine lv_aload_n hx hb dX0_delay_141 rfl (lv_at hl 3 rfl) ?_
                refine va_get (D := (dC, dI)) (ci := 0) (v := .ref (fd 1)) (C := RX0) (T := TX0) (N := 4) hx hb hts hi0 hown hK hP 0 rfl rfl 1 (by decide) (hts _ (ow_m (k := 2) rfl)) (fun _ h9 => h9) rfl dX0_delay_142 ?_
                refine lv_iload hx hb dX0_delay_145 (lv_at hl 2 rfl) ?_
                refine lv_iconst (v := 1) hx hb dX0_delay_147 (by decide) ?_
                refine lv_isub hx hb dX0_delay_148 ?_
                refine lv_topi (fun z86 ez86 => ?_)
                have tz86 := ti_sub (a := v47.toInt) (b := 1) ez86 rfl (by decide) (by omega) (by omega)
                refine lv_aload_n hx hb dX0_delay_149 rfl (lv_at hl 3 rfl) ?_
                refine va_get (D := (dC, dI)) (ci := 0) (v := .ref (fd 1)) (C := RX0) (T := TX0) (N := 4) hx hb hts hi0 hown hK hP 0 rfl rfl 1 (by decide) (hts _ (ow_m (k := 2) rfl)) (fun _ h9 => h9) rfl dX0_delay_150 ?_
                refine lv_iload hx hb dX0_delay_153 (lv_at hl 2 rfl) ?_
                refine lv_iconst (v := 1) hx hb dX0_delay_155 (by decide) ?_
                refine lv_isub hx hb dX0_delay_156 ?_
                refine lv_topi (fun z87 ez87 => ?_)
                have tz87 := ti_sub (a := v47.toInt) (b := 1) ez87 rfl (by decide) (by omega) (by omega)
                have nz88 : vp_in z87 31 := (vp_i rfl (by omega) (by omega))
                refine va_iald hx hb hK hP 2 1 rfl rfl nz88 dX0_delay_157 ?_
                refine lv_topi (fun z88 ez88 => ?_)
                refine lv_if_ne (tgt := 165) hx hb dX0_delay_158 (by decide) (fun c89 => ?_) (fun c89 => ?_)
                · have c89 := i_ne (a := z88.toInt) (b := 0) c89 rfl (by decide)
                  refine lv_iconst (v := 0) hx hb dX0_delay_165 (by decide) ?_
                  refine va_iast hx hb hK hP hD hS 2 1 rfl rfl (vp_i rfl (by omega) (by omega)) dX0_delay_166 (fun H locs hP hD hS => ?_)
                  have hP : va_P (dC, dI) vwCl [(hf, .inr (0, [.ref (fd 0), .ref (fd 1), .ref (fd 2), .int f_length])), (fd 0, .inl (cyI, 270, .inl f_steps)), (fd 1, .inl (cyI, 31, .inl (upd f51 z86.toNatClampNeg 0))), (fd 2, .inl (cyI, 6, .inl f45))] H := hP
                  have hD : va_D A [(hf, .inr (0, [.ref (fd 0), .ref (fd 1), .ref (fd 2), .int f_length])), (fd 0, .inl (cyI, 270, .inl f_steps)), (fd 1, .inl (cyI, 31, .inl (upd f51 z86.toNatClampNeg 0))), (fd 2, .inl (cyI, 6, .inl f45))] := hD
                  generalize ef90 : upd f51 z86.toNatClampNeg 0 = f90 at hP hD
                  refine lv_goto (tgt := 209) hx hb dX0_delay_167 (by decide) ?_
                  obtain ⟨z91, ez91⟩ : ∃ y : Int32, y = v49 + 1 := ⟨_, rfl⟩
                  have tz91 := ti_add (a := v49.toInt) (b := 1) ez91 rfl (by decide) (by omega) (by omega)
                  refine lv_iinc (v := z91) (lv' := [(8, .int z91), (9, .int z63), (7, .int v47), (0, .ref hf), (1, .int x1), (2, .int x2), (3, .int x3), (4, .int x4), (5, .int x5), (6, .int x6)]) hx hb dX0_delay_209 hl (k := 1) rfl (by rw [ez91]; rfl) (by decide) rfl (fun ls hl => ?_)
                  refine lv_goto (tgt := 60) hx hb dX0_delay_212 (by decide) ?_
                  have hl := lv_sub (l' := [(8, .int z91), (7, .int v47), (0, .ref hf), (1, .int x1), (2, .int x2), (3, .int x3), (4, .int x4), (5, .int x5), (6, .int x6)]) hl [0, 2, 3, 4, 5, 6, 7, 8, 9] rfl
                  apply ih46 (v47 := v47) (v49 := z91) (f51 := f90) (H := H) (locs := locs) (ls := ls) <;> first | assumption | omega
                · have c89 := i_eq (a := z88.toInt) (b := 0) c89 rfl (by decide)
                  refine lv_iconst (v := 1) hx hb dX0_delay_161 (by decide) ?_
                  refine lv_goto (tgt := 166) hx hb dX0_delay_162 (by decide) ?_
                  refine va_iast hx hb hK hP hD hS 2 1 rfl rfl (vp_i rfl (by omega) (by omega)) dX0_delay_166 (fun H locs hP hD hS => ?_)
                  have hP : va_P (dC, dI) vwCl [(hf, .inr (0, [.ref (fd 0), .ref (fd 1), .ref (fd 2), .int f_length])), (fd 0, .inl (cyI, 270, .inl f_steps)), (fd 1, .inl (cyI, 31, .inl (upd f51 z86.toNatClampNeg 1))), (fd 2, .inl (cyI, 6, .inl f45))] H := hP
                  have hD : va_D A [(hf, .inr (0, [.ref (fd 0), .ref (fd 1), .ref (fd 2), .int f_length])), (fd 0, .inl (cyI, 270, .inl f_steps)), (fd 1, .inl (cyI, 31, .inl (upd f51 z86.toNatClampNeg 1))), (fd 2, .inl (cyI, 6, .inl f45))] := hD
                  generalize ef92 : upd f51 z86.toNatClampNeg 1 = f92 at hP hD
                  refine lv_goto (tgt := 209) hx hb dX0_delay_167 (by decide) ?_
                  obtain ⟨z93, ez93⟩ : ∃ y : Int32, y = v49 + 1 := ⟨_, rfl⟩
                  have tz93 := ti_add (a := v49.toInt) (b := 1) ez93 rfl (by decide) (by omega) (by omega)
                  refine lv_iinc (v := z93) (lv' := [(8, .int z93), (9, .int z63), (7, .int v47), (0, .ref hf), (1, .int x1), (2, .int x2), (3, .int x3), (4, .int x4), (5, .int x5), (6, .int x6)]) hx hb dX0_delay_209 hl (k := 1) rfl (by rw [ez93]; rfl) (by decide) rfl (fun ls hl => ?_)
                  refine lv_goto (tgt := 60) hx hb dX0_delay_212 (by decide) ?_
                  have hl := lv_sub (l' := [(8, .int z93), (7, .int v47), (0, .ref hf), (1, .int x1), (2, .int x2), (3, .int x3), (4, .int x4), (5, .int x5), (6, .int x6)]) hl [0, 2, 3, 4, 5, 6, 7, 8, 9] rfl
                  apply ih46 (v47 := v47) (v49 := z93) (f51 := f92) (H := H) (locs := locs) (ls := ls) <;> first | assumption | omega
          · have c71 := i_nlt (a := (-20)) (b := z63.toInt) c71 (by decide) rfl
            refine lv_iload hx hb dX0_delay_90 (lv_at hl 2 rfl) ?_
            refine lv_aload_n hx hb dX0_delay_92 rfl (lv_at hl 3 rfl) ?_
            refine va_get (D := (dC, dI)) (ci := 0) (v := .ref (fd 1)) (C := RX0) (T := TX0) (N := 4) hx hb hts hi0 hown hK hP 0 rfl rfl 1 (by decide) (hts _ (ow_m (k := 2) rfl)) (fun _ h9 => h9) rfl dX0_delay_93 ?_
            refine va_alen (v := 31) hx hb hK hP 2 1 rfl rfl rfl dX0_delay_96 ?_
            refine lv_icmp_ge (tgt := 209) hx hb dX0_delay_97 (by decide) (fun c94 => ?_) (fun c94 => ?_)
            · have c94 := i_le (a := 31) (b := v47.toInt) c94 (by decide) rfl
              obtain ⟨z95, ez95⟩ : ∃ y : Int32, y = v49 + 1 := ⟨_, rfl⟩
              have tz95 := ti_add (a := v49.toInt) (b := 1) ez95 rfl (by decide) (by omega) (by omega)
              refine lv_iinc (v := z95) (lv' := [(8, .int z95), (9, .int z63), (7, .int v47), (0, .ref hf), (1, .int x1), (2, .int x2), (3, .int x3), (4, .int x4), (5, .int x5), (6, .int x6)]) hx hb dX0_delay_209 hl (k := 1) rfl (by rw [ez95]; rfl) (by decide) rfl (fun ls hl => ?_)
              refine lv_goto (tgt := 60) hx hb dX0_delay_212 (by decide) ?_
              have hl := lv_sub (l' := [(8, .int z95), (7, .int v47), (0, .ref hf), (1, .int x1), (2, .int x2), (3, .int x3), (4, .int x4), (5, .int x5), (6, .int x6)]) hl [0, 2, 3, 4, 5, 6, 7, 8, 9] rfl
              apply ih46 (v47 := v47) (v49 := z95) (f51 := f51) (H := H) (locs := locs) (ls := ls) <;> first | assumption | omega
            · have c94 := i_nle (a := 31) (b := v47.toInt) c94 (by decide) rfl
              refine lv_aload_n hx hb dX0_delay_100 rfl (lv_at hl 3 rfl) ?_
              refine va_get (D := (dC, dI)) (ci := 0) (v := .ref (fd 1)) (C := RX0) (T := TX0) (N := 4) hx hb hts hi0 hown hK hP 0 rfl rfl 1 (by decide) (hts _ (ow_m (k := 2) rfl)) (fun _ h9 => h9) rfl dX0_delay_101 ?_
              refine lv_iload hx hb dX0_delay_104 (lv_at hl 2 rfl) ?_
              refine lv_iload hx hb dX0_delay_106 (lv_at hl 0 rfl) ?_
              refine lv_if_lt (tgt := 116) hx hb dX0_delay_108 (by decide) (fun c96 => ?_) (fun c96 => ?_)
              · have c96 := i_lt (a := z63.toInt) (b := 0) c96 rfl (by decide)
                refine lv_aload_n hx hb dX0_delay_116 rfl (lv_at hl 3 rfl) ?_
                refine lv_iload hx hb dX0_delay_117 (lv_at hl 0 rfl) ?_
                refine gf_i (wr := []) (va_runV (As := [.int z63]) (rest := [.int v47, .ref (fd 1)]) hfix (k_Fo_factOf l dC dI cyB cyI cyJ cyZ cyO hf fd f_steps f51 f45 f_length z63 _ (by first | omega | assumption) (by first | omega | assumption)) (cwV 1 hts (gi_V (ow_m (k := 14) rfl) (ow_m (k := 15) rfl) (ow_m (k := 16) rfl) (ow_m (k := 13) rfl) (sb_c (sb_r sb_l)) gd_k_Fo_factOf) rfl rfl rfl (by decide +kernel) ⟨Nat.le_of_ble_eq_true rfl, Nat.le_of_ble_eq_true rfl⟩) (g_preV hKN hP hD [0, 1, 2, 3] rfl (by decide) 0 0 rfl rfl) rfl rfl hl.1 rfl (lv_room (Nat.le_of_ble_eq_true rfl)) dX0_delay_119 ⟨Nat.le_of_ble_eq_true rfl, Nat.le_of_ble_eq_true rfl⟩) hP hD hS hA [0, 1, 2, 3] [] rfl rfl (by decide) (by decide) (fun r97 u98 H locs qu98 hP hD hS => ?_)
                have hP : va_P (dC, dI) vwCl [(hf, .inr (0, [.ref (fd 0), .ref (fd 1), .ref (fd 2), .int f_length])), (fd 0, .inl (cyI, 270, .inl f_steps)), (fd 1, .inl (cyI, 31, .inl f51)), (fd 2, .inl (cyI, 6, .inl f45))] H := hP
                have hD : va_D A [(hf, .inr (0, [.ref (fd 0), .ref (fd 1), .ref (fd 2), .int f_length])), (fd 0, .inl (cyI, 270, .inl f_steps)), (fd 1, .inl (cyI, 31, .inl f51)), (fd 2, .inl (cyI, 6, .inl f45))] := hD
                refine va_iast hx hb hK hP hD hS 2 1 rfl rfl (vp_i rfl (by omega) (by omega)) dX0_delay_122 (fun H locs hP hD hS => ?_)
                have hP : va_P (dC, dI) vwCl [(hf, .inr (0, [.ref (fd 0), .ref (fd 1), .ref (fd 2), .int f_length])), (fd 0, .inl (cyI, 270, .inl f_steps)), (fd 1, .inl (cyI, 31, .inl (upd f51 v47.toNatClampNeg r97))), (fd 2, .inl (cyI, 6, .inl f45))] H := hP
                have hD : va_D A [(hf, .inr (0, [.ref (fd 0), .ref (fd 1), .ref (fd 2), .int f_length])), (fd 0, .inl (cyI, 270, .inl f_steps)), (fd 1, .inl (cyI, 31, .inl (upd f51 v47.toNatClampNeg r97))), (fd 2, .inl (cyI, 6, .inl f45))] := hD
                generalize ef99 : upd f51 v47.toNatClampNeg r97 = f99 at hP hD
                obtain ⟨z100, ez100⟩ : ∃ y : Int32, y = v47 + 1 := ⟨_, rfl⟩
                have tz100 := ti_add (a := v47.toInt) (b := 1) ez100 rfl (by decide) (by omega) (by omega)
                refine lv_iinc (v := z100) (lv' := [(7, .int z100), (9, .int z63), (8, .int v49), (0, .ref hf), (1, .int x1), (2, .int x2), (3, .int x3), (4, .int x4), (5, .int x5), (6, .int x6)]) hx hb dX0_delay_123 hl (k := 2) rfl (by rw [ez100]; rfl) (by decide) rfl (fun ls hl => ?_)
                refine lv_goto (tgt := 209) hx hb dX0_delay_126 (by decide) ?_
                obtain ⟨z101, ez101⟩ : ∃ y : Int32, y = v49 + 1 := ⟨_, rfl⟩
                have tz101 := ti_add (a := v49.toInt) (b := 1) ez101 rfl (by decide) (by omega) (by omega)
                refine lv_iinc (v := z101) (lv' := [(8, .int z101), (7, .int z100), (9, .int z63), (0, .ref hf), (1, .int x1), (2, .int x2), (3, .int x3), (4, .int x4), (5, .int x5), (6, .int x6)]) hx hb dX0_delay_209 hl (k := 2) rfl (by rw [ez101]; rfl) (by decide) rfl (fun ls hl => ?_)
                refine lv_goto (tgt := 60) hx hb dX0_delay_212 (by decide) ?_
                have hl := lv_sub (l' := [(8, .int z101), (7, .int z100), (0, .ref hf), (1, .int x1), (2, .int x2), (3, .int x3), (4, .int x4), (5, .int x5), (6, .int x6)]) hl [0, 1, 3, 4, 5, 6, 7, 8, 9] rfl
                apply ih46 (v47 := z100) (v49 := z101) (f51 := f99) (H := H) (locs := locs) (ls := ls) <;> first | assumption | omega
              · have c96 := i_nlt (a := z63.toInt) (b := 0) c96 rfl (by decide)
                exfalso; omega
  · have c39 := i_eq (a := f_length.toInt) (b := 0) c39 rfl (by decide)
    refine lv_iconst (v := 1) hx hb dX0_delay_7 (by decide) ?_
    have w102 : 1 ≤ (1 : Int32).toInt := by decide
    have w103 : (1 : Int32).toInt ≤ 9 := by decide
    exact W.iret (v := 1) hx hb hr (fun t ht hW => ⟨⟨1, ((fun k => match k with | 0 => f_stack | _ => f_facts), (fun _ => 0)), rfl, ⟨w102, w103⟩, cE.of ht hP hD [0, 1, 2, 3] (by decide) rfl⟩, hS.F ht⟩) hS.2.2 dX0_delay_8
def wo_k_St_dueAt : List Cond := []
def wq_k_St_dueAt : List Cond := .code yX5_dueAt cX5_dueAt 2 (some .int) :: (wo_k_St_dueAt ++ [])
theorem gd_k_St_dueAt : Gd wq_k_St_dueAt := gd_c (gd_a (gd_o (by decide +kernel)) gd_0)
abbrev wc_k_St_dueAt (cyB cyI cyJ cyZ cyO : ClassId) (x0 : Int32) (x1 : Int32) : va_W := []
set_option maxHeartbeats 4000000 in
set_option maxRecDepth 100000 in
theorem k_St_dueAt (l : Launch) (dC : Nat → ClassId) (dI : Nat → Nat → Nat) (cyB cyI cyJ cyZ cyO : ClassId) (x0 : Int32) (x1 : Int32) (sz : Nat) (l_x0 : 0 ≤ x0.toInt) (u_x0 : x0.toInt ≤ 7) (l_x1 : 0 ≤ x1.toInt) (u_x1 : x1.toInt ≤ 40) : Met l yX5_dueAt wq_k_St_dueAt ({ frames := 0, cells := 0, slots := 0, locals := 0 }) (va_Pc [.int x0, .int x1] (cB (dC, dI) (kT cyB cyI cyJ cyZ cyO) (wc_k_St_dueAt cyB cyI cyJ cyZ cyO x0 x1) sz)) (va_Qi (fun (r : Int32) (u : Unit) => 0 ≤ r.toInt ∧ r.toInt ≤ 327) (fun (u : Unit) t => cE (dC, dI) (va_A (wc_k_St_dueAt cyB cyI cyJ cyZ cyO x0 x1) sz) ([]) t.heap) (va_A (wc_k_St_dueAt cyB cyI cyJ cyZ cyO x0 x1) sz)) 0 0 (va_A (wc_k_St_dueAt cyB cyI cyJ cyZ cyO x0 x1) sz) := by
  refine Met.ofW (cc := cX5_dueAt) (maxL := 2) (ret := (some .int)) (by decide) rfl ?_
  intro p e s m args below meth c s₁ B hml hv
  obtain ⟨rfl, hsz, hP, hKN, hD0⟩ := hv
  have hx := B.exec
  have hb := B.bytes
  have hr := B.returns
  have hts := atoms_spec (ws := wq_k_St_dueAt) B.pre
  have hown : s.vm.findClass RX5 = some m.cls := findClass_of_methodNamed B.named
  have hlocks := B.notSynchronized
  have hK := hKN.1
  have hfix : CallFix p m c cX5_dueAt 2 s [.int x0, .int x1].toArray wq_k_St_dueAt RX5 := ⟨hx, hb, hml, hown, hts⟩
  subst hsz
  have hD := hD0.self (sz := s.heap.size)
  generalize hAe : va_A (wc_k_St_dueAt cyB cyI cyJ cyZ cyO x0 x1) s.heap.size = A at hD ⊢
  have hA : ∀ q : Nat, s.heap.size ≤ q → A q := fun q h => by rw [← hAe]; exact Or.inr h
  have hS : va_S A s.heap s.heap [] := va_S.rf
  have hl := lv_entry ([.int x0, .int x1]) (n := 2) (Nat.le_of_ble_eq_true rfl)
  rw [lg_entry_eq]
  generalize (lg_sl ([.int x0, .int x1]) ++ List.replicate (2 - (lg_sl ([.int x0, .int x1])).length) Slot.unset).toArray = ls at hl ⊢
  have hl : lv_has ls 2 [(0, .int x0), (1, .int x1)] := hl
  refine lv_iload_n hx hb dX5_dueAt_0 rfl (lv_at hl 0 rfl) ?_
  refine lv_bipush (v := 41) hx hb dX5_dueAt_1 (by decide) ?_
  refine lv_imul hx hb dX5_dueAt_3 ?_
  refine lv_topi (fun z104 ez104 => ?_)
  have tz104 := ti_mul (a := x0.toInt) (b := 41) ez104 rfl (by decide) (by omega) (by omega)
  refine lv_iload_n hx hb dX5_dueAt_4 rfl (lv_at hl 1 rfl) ?_
  refine lv_iadd hx hb dX5_dueAt_5 ?_
  refine lv_topi (fun z105 ez105 => ?_)
  have tz105 := ti_add (a := z104.toInt) (b := x1.toInt) ez105 rfl rfl (by omega) (by omega)
  have w106 : 0 ≤ z105.toInt := by first | omega | assumption
  have w107 : z105.toInt ≤ 327 := by first | omega | assumption
  exact W.iret (v := z105) hx hb hr (fun t ht hW => ⟨⟨z105, (), rfl, ⟨w106, w107⟩, cE.of ht hP hD [] (by decide) rfl⟩, hS.F ht⟩) hS.2.2 dX5_dueAt_6
def wo_k_St_placeOf : List Cond := [.fieldLink RX5 42 "ReplicaChain$State" "size" "I", .fieldLink RX5 9 "ReplicaChain$State" "row" "[I"]
def wq_k_St_placeOf : List Cond := .code yX5_placeOf cX5_placeOf 3 (some .int) :: (wo_k_St_placeOf ++ (wsX50 ++ []))
theorem gd_k_St_placeOf : Gd wq_k_St_placeOf := gd_c (gd_a (gd_o (by decide +kernel)) (gd_a gd_u gd_0))
abbrev wc_k_St_placeOf (cyB cyI cyJ cyZ cyO : ClassId) (hs : Nat) (sd : Nat → Nat) (s_row : Nat → Int32) (s_has : Nat → Int32) (s_clean : Nat → Int32) (s_dn : Nat → Int32) (s_up : Nat → Int32) (s_ks : Nat → Int32) (s_vs : Nat → Int32) (s_size : Int32) (s_copier : Int32) (s_copyLeft : Int32) (s_tick : Int32) (s_seed : Int32) (s_dropped : Int32) (x1 : Int32) : va_W := [(hs, .inr (5, [.ref (sd 0), .ref (sd 1), .ref (sd 2), .ref (sd 3), .ref (sd 4), .ref (sd 5), .ref (sd 6), .int s_size, .int s_copier, .int s_copyLeft, .int s_tick, .int s_seed, .int s_dropped])), (sd 0, .inl (cyI, 6, .inl s_row)), (sd 1, .inl (cyI, 8, .inl s_has)), (sd 2, .inl (cyI, 8, .inl s_clean)), (sd 3, .inl (cyI, 328, .inl s_dn)), (sd 4, .inl (cyI, 328, .inl s_up)), (sd 5, .inl (cyI, 41, .inl s_ks)), (sd 6, .inl (cyI, 41, .inl s_vs))]
set_option maxHeartbeats 4000000 in
set_option maxRecDepth 100000 in
theorem k_St_placeOf (l : Launch) (dC : Nat → ClassId) (dI : Nat → Nat → Nat) (cyB cyI cyJ cyZ cyO : ClassId) (hs : Nat) (sd : Nat → Nat) (s_row : Nat → Int32) (s_has : Nat → Int32) (s_clean : Nat → Int32) (s_dn : Nat → Int32) (s_up : Nat → Int32) (s_ks : Nat → Int32) (s_vs : Nat → Int32) (s_size : Int32) (s_copier : Int32) (s_copyLeft : Int32) (s_tick : Int32) (s_seed : Int32) (s_dropped : Int32) (x1 : Int32) (sz : Nat) (l_s_size : 0 ≤ s_size.toInt) (u_s_size : s_size.toInt ≤ 6) (l_s_copier : -1 ≤ s_copier.toInt) (u_s_copier : s_copier.toInt ≤ 7) (l_s_seed : 0 ≤ s_seed.toInt) (u_s_seed : s_seed.toInt ≤ 999) (i_s_row : In s_row 6 (0) (7)) (i_s_has : In s_has 8 (0) (40)) (i_s_clean : In s_clean 8 (0) (40)) : Met l yX5_placeOf wq_k_St_placeOf ({ frames := 0, cells := 0, slots := 0, locals := 0 }) (va_Pc [.ref hs, .int x1] (cB (dC, dI) (kT cyB cyI cyJ cyZ cyO) (wc_k_St_placeOf cyB cyI cyJ cyZ cyO hs sd s_row s_has s_clean s_dn s_up s_ks s_vs s_size s_copier s_copyLeft s_tick s_seed s_dropped x1) sz)) (va_Qi (fun (r : Int32) (u : Unit) => -1 ≤ r.toInt ∧ r.toInt ≤ 5 ∧ r.toInt < s_size.toInt) (fun (u : Unit) t => cE (dC, dI) (va_A (wc_k_St_placeOf cyB cyI cyJ cyZ cyO hs sd s_row s_has s_clean s_dn s_up s_ks s_vs s_size s_copier s_copyLeft s_tick s_seed s_dropped x1) sz) ([(hs, .inr (5, [.ref (sd 0), .ref (sd 1), .ref (sd 2), .ref (sd 3), .ref (sd 4), .ref (sd 5), .ref (sd 6), .int s_size, .int s_copier, .int s_copyLeft, .int s_tick, .int s_seed, .int s_dropped])), (sd 0, .inl (cyI, 6, .inl s_row)), (sd 1, .inl (cyI, 8, .inl s_has)), (sd 2, .inl (cyI, 8, .inl s_clean)), (sd 3, .inl (cyI, 328, .inl s_dn)), (sd 4, .inl (cyI, 328, .inl s_up)), (sd 5, .inl (cyI, 41, .inl s_ks)), (sd 6, .inl (cyI, 41, .inl s_vs))]) t.heap) (va_A (wc_k_St_placeOf cyB cyI cyJ cyZ cyO hs sd s_row s_has s_clean s_dn s_up s_ks s_vs s_size s_copier s_copyLeft s_tick s_seed s_dropped x1) sz)) 0 0 (va_A (wc_k_St_placeOf cyB cyI cyJ cyZ cyO hs sd s_row s_has s_clean s_dn s_up s_ks s_vs s_size s_copier s_copyLeft s_tick s_seed s_dropped x1) sz) := by
  refine Met.ofW (cc := cX5_placeOf) (maxL := 3) (ret := (some .int)) (by decide) rfl ?_
  intro p e s m args below meth c s₁ B hml hv
  obtain ⟨rfl, hsz, hP, hKN, hD0⟩ := hv
  have hx := B.exec
  have hb := B.bytes
  have hr := B.returns
  have hts := atoms_spec (ws := wq_k_St_placeOf) B.pre
  have hown : s.vm.findClass RX5 = some m.cls := findClass_of_methodNamed B.named
  have hlocks := B.notSynchronized
  have hK := hKN.1
  have hfix : CallFix p m c cX5_placeOf 3 s [.ref hs, .int x1].toArray wq_k_St_placeOf RX5 := ⟨hx, hb, hml, hown, hts⟩
  have hi5 : ∀ w ∈ wsX50, w ∈ wq_k_St_placeOf := (sb_c sb_l)
  subst hsz
  have hD := hD0.self (sz := s.heap.size)
  generalize hAe : va_A (wc_k_St_placeOf cyB cyI cyJ cyZ cyO hs sd s_row s_has s_clean s_dn s_up s_ks s_vs s_size s_copier s_copyLeft s_tick s_seed s_dropped x1) s.heap.size = A at hD ⊢
  have hA : ∀ q : Nat, s.heap.size ≤ q → A q := fun q h => by rw [← hAe]; exact Or.inr h
  have hS : va_S A s.heap s.heap [] := va_S.rf
  have hl := lv_entry ([.ref hs, .int x1]) (n := 3) (Nat.le_of_ble_eq_true rfl)
  rw [lg_entry_eq]
  generalize (lg_sl ([.ref hs, .int x1]) ++ List.replicate (3 - (lg_sl ([.ref hs, .int x1])).length) Slot.unset).toArray = ls at hl ⊢
  have hl : lv_has ls 3 [(0, .ref hs), (1, .int x1)] := hl
  refine lv_iconst (v := 0) hx hb dX5_placeOf_0 (by decide) ?_
  refine lv_istore_n (lv' := [(2, .int 0), (0, .ref hs), (1, .int x1)]) hx hb dX5_placeOf_1 rfl hl (by decide) rfl (fun ls hl => ?_)
  refine w_gen (fun H locs ls hP hS hl => ?_) hP hS hl
  have k110 : (0 : Int32).toInt = 0 := by decide
  obtain ⟨v109, hl2, hP2, hD2, b111, b112, b113⟩ : ∃ (v109 : Int32), lv_has ls 3 [(2, .int v109), (0, .ref hs), (1, .int x1)] ∧ va_P (dC, dI) vwCl [(hs, .inr (5, [.ref (sd 0), .ref (sd 1), .ref (sd 2), .ref (sd 3), .ref (sd 4), .ref (sd 5), .ref (sd 6), .int s_size, .int s_copier, .int s_copyLeft, .int s_tick, .int s_seed, .int s_dropped])), (sd 0, .inl (cyI, 6, .inl s_row)), (sd 1, .inl (cyI, 8, .inl s_has)), (sd 2, .inl (cyI, 8, .inl s_clean)), (sd 3, .inl (cyI, 328, .inl s_dn)), (sd 4, .inl (cyI, 328, .inl s_up)), (sd 5, .inl (cyI, 41, .inl s_ks)), (sd 6, .inl (cyI, 41, .inl s_vs))] H ∧ va_D A [(hs, .inr (5, [.ref (sd 0), .ref (sd 1), .ref (sd 2), .ref (sd 3), .ref (sd 4), .ref (sd 5), .ref (sd 6), .int s_size, .int s_copier, .int s_copyLeft, .int s_tick, .int s_seed, .int s_dropped])), (sd 0, .inl (cyI, 6, .inl s_row)), (sd 1, .inl (cyI, 8, .inl s_has)), (sd 2, .inl (cyI, 8, .inl s_clean)), (sd 3, .inl (cyI, 328, .inl s_dn)), (sd 4, .inl (cyI, 328, .inl s_up)), (sd 5, .inl (cyI, 41, .inl s_ks)), (sd 6, .inl (cyI, 41, .inl s_vs))] ∧ 0 ≤ v109.toInt ∧ v109.toInt ≤ 6 ∧ v109.toInt ≤ s_size.toInt := ⟨0, hl, hP, hD, by first | omega | assumption, by first | omega | assumption, by first | omega | assumption⟩
  clear hP hl
  have hP := hP2
  have hD := hD2
  have hl := hl2
  clear hP2 hD2 hl2
  obtain ⟨n114, hn114⟩ : ∃ n : Nat, s_size.toInt - v109.toInt < (n : Int) := ⟨(s_size.toInt - v109.toInt).toNat + 1, by omega⟩
  induction n114 generalizing v109 H locs ls with
  | zero => exfalso; omega
  | succ n114 ih108 =>
    refine lv_iload_n hx hb dX5_placeOf_2 rfl (lv_at hl 0 rfl) ?_
    refine lv_aload_n hx hb dX5_placeOf_3 rfl (lv_at hl 1 rfl) ?_
    refine va_get (D := (dC, dI)) (ci := 5) (v := .int s_size) (C := RX5) (T := TX5) (N := 13) hx hb hts hi5 hown hK hP 0 rfl rfl 7 (by decide) (hts _ (ow_m (k := 0) rfl)) (fun _ h9 => h9) rfl dX5_placeOf_4 ?_
    refine lv_icmp_ge (tgt := 28) hx hb dX5_placeOf_7 (by decide) (fun c115 => ?_) (fun c115 => ?_)
    · have c115 := i_le (a := s_size.toInt) (b := v109.toInt) c115 rfl rfl
      refine lv_iconst (v := (-1)) hx hb dX5_placeOf_28 (by decide) ?_
      have w116 : -1 ≤ ((-1) : Int32).toInt := by decide
      have w117 : ((-1) : Int32).toInt ≤ 5 := by decide
      have kw118 : ((-1) : Int32).toInt = (-1) := by decide
      have w118 : ((-1) : Int32).toInt < s_size.toInt := by first | omega | assumption
      exact W.iret (v := (-1)) hx hb hr (fun t ht hW => ⟨⟨(-1), (), rfl, ⟨w116, w117, w118⟩, cE.of ht hP hD [0, 1, 2, 3, 4, 5, 6, 7] (by decide) rfl⟩, hS.F ht⟩) hS.2.2 dX5_placeOf_29
    · have c115 := i_nle (a := s_size.toInt) (b := v109.toInt) c115 rfl rfl
      refine lv_aload_n hx hb dX5_placeOf_10 rfl (lv_at hl 1 rfl) ?_
      refine va_get (D := (dC, dI)) (ci := 5) (v := .ref (sd 0)) (C := RX5) (T := TX5) (N := 13) hx hb hts hi5 hown hK hP 0 rfl rfl 0 (by decide) (hts _ (ow_m (k := 1) rfl)) (fun _ h9 => h9) rfl dX5_placeOf_11 ?_
      refine lv_iload_n hx hb dX5_placeOf_14 rfl (lv_at hl 0 rfl) ?_
      have nz119 : vp_in v109 6 := (vp_i rfl (by omega) (by omega))
      refine va_iald hx hb hK hP 1 1 rfl rfl nz119 dX5_placeOf_15 ?_
      refine lv_topi (fun z119 ez119 => ?_)
      have tz119 := i_s_row.at ez119 nz119
      refine lv_iload_n hx hb dX5_placeOf_16 rfl (lv_at hl 2 rfl) ?_
      refine lv_icmp_ne (tgt := 22) hx hb dX5_placeOf_17 (by decide) (fun c120 => ?_) (fun c120 => ?_)
      · have c120 := i_ne (a := z119.toInt) (b := x1.toInt) c120 rfl rfl
        obtain ⟨z121, ez121⟩ : ∃ y : Int32, y = v109 + 1 := ⟨_, rfl⟩
        have tz121 := ti_add (a := v109.toInt) (b := 1) ez121 rfl (by decide) (by omega) (by omega)
        refine lv_iinc (v := z121) (lv' := [(2, .int z121), (0, .ref hs), (1, .int x1)]) hx hb dX5_placeOf_22 hl (k := 0) rfl (by rw [ez121]; rfl) (by decide) rfl (fun ls hl => ?_)
        refine lv_goto (tgt := 2) hx hb dX5_placeOf_25 (by decide) ?_
        have hl := lv_sub (l' := [(2, .int z121), (0, .ref hs), (1, .int x1)]) hl [0, 1, 2] rfl
        apply ih108 (v109 := z121) (H := H) (locs := locs) (ls := ls) <;> first | assumption | omega
      · have c120 := i_eq (a := z119.toInt) (b := x1.toInt) c120 rfl rfl
        refine lv_iload_n hx hb dX5_placeOf_20 rfl (lv_at hl 0 rfl) ?_
        have w122 : -1 ≤ v109.toInt := by first | omega | assumption
        have w123 : v109.toInt ≤ 5 := by first | omega | assumption
        have w124 : v109.toInt < s_size.toInt := by first | omega | assumption
        exact W.iret (v := v109) hx hb hr (fun t ht hW => ⟨⟨v109, (), rfl, ⟨w122, w123, w124⟩, cE.of ht hP hD [0, 1, 2, 3, 4, 5, 6, 7] (by decide) rfl⟩, hS.F ht⟩) hS.2.2 dX5_placeOf_21
def wo_k_St_memberBits : List Cond := [.fieldLink RX5 42 "ReplicaChain$State" "size" "I", .fieldLink RX5 9 "ReplicaChain$State" "row" "[I"]
def wq_k_St_memberBits : List Cond := .code yX5_memberBits cX5_memberBits 3 (some .int) :: (wo_k_St_memberBits ++ (wsX50 ++ []))
theorem gd_k_St_memberBits : Gd wq_k_St_memberBits := gd_c (gd_a (gd_o (by decide +kernel)) (gd_a gd_u gd_0))
abbrev wc_k_St_memberBits (cyB cyI cyJ cyZ cyO : ClassId) (hs : Nat) (sd : Nat → Nat) (s_row : Nat → Int32) (s_has : Nat → Int32) (s_clean : Nat → Int32) (s_dn : Nat → Int32) (s_up : Nat → Int32) (s_ks : Nat → Int32) (s_vs : Nat → Int32) (s_size : Int32) (s_copier : Int32) (s_copyLeft : Int32) (s_tick : Int32) (s_seed : Int32) (s_dropped : Int32) : va_W := [(hs, .inr (5, [.ref (sd 0), .ref (sd 1), .ref (sd 2), .ref (sd 3), .ref (sd 4), .ref (sd 5), .ref (sd 6), .int s_size, .int s_copier, .int s_copyLeft, .int s_tick, .int s_seed, .int s_dropped])), (sd 0, .inl (cyI, 6, .inl s_row)), (sd 1, .inl (cyI, 8, .inl s_has)), (sd 2, .inl (cyI, 8, .inl s_clean)), (sd 3, .inl (cyI, 328, .inl s_dn)), (sd 4, .inl (cyI, 328, .inl s_up)), (sd 5, .inl (cyI, 41, .inl s_ks)), (sd 6, .inl (cyI, 41, .inl s_vs))]
set_option maxHeartbeats 4000000 in
set_option maxRecDepth 100000 in
theorem k_St_memberBits (l : Launch) (dC : Nat → ClassId) (dI : Nat → Nat → Nat) (cyB cyI cyJ cyZ cyO : ClassId) (hs : Nat) (sd : Nat → Nat) (s_row : Nat → Int32) (s_has : Nat → Int32) (s_clean : Nat → Int32) (s_dn : Nat → Int32) (s_up : Nat → Int32) (s_ks : Nat → Int32) (s_vs : Nat → Int32) (s_size : Int32) (s_copier : Int32) (s_copyLeft : Int32) (s_tick : Int32) (s_seed : Int32) (s_dropped : Int32) (sz : Nat) (l_s_size : 0 ≤ s_size.toInt) (u_s_size : s_size.toInt ≤ 6) (l_s_copier : -1 ≤ s_copier.toInt) (u_s_copier : s_copier.toInt ≤ 7) (l_s_seed : 0 ≤ s_seed.toInt) (u_s_seed : s_seed.toInt ≤ 999) (i_s_row : In s_row 6 (0) (7)) (i_s_has : In s_has 8 (0) (40)) (i_s_clean : In s_clean 8 (0) (40)) : Met l yX5_memberBits wq_k_St_memberBits ({ frames := 0, cells := 0, slots := 0, locals := 0 }) (va_Pc [.ref hs] (cB (dC, dI) (kT cyB cyI cyJ cyZ cyO) (wc_k_St_memberBits cyB cyI cyJ cyZ cyO hs sd s_row s_has s_clean s_dn s_up s_ks s_vs s_size s_copier s_copyLeft s_tick s_seed s_dropped) sz)) (va_Qi (fun (r : Int32) (u : Unit) => True) (fun (u : Unit) t => cE (dC, dI) (va_A (wc_k_St_memberBits cyB cyI cyJ cyZ cyO hs sd s_row s_has s_clean s_dn s_up s_ks s_vs s_size s_copier s_copyLeft s_tick s_seed s_dropped) sz) ([(hs, .inr (5, [.ref (sd 0), .ref (sd 1), .ref (sd 2), .ref (sd 3), .ref (sd 4), .ref (sd 5), .ref (sd 6), .int s_size, .int s_copier, .int s_copyLeft, .int s_tick, .int s_seed, .int s_dropped])), (sd 0, .inl (cyI, 6, .inl s_row)), (sd 1, .inl (cyI, 8, .inl s_has)), (sd 2, .inl (cyI, 8, .inl s_clean)), (sd 3, .inl (cyI, 328, .inl s_dn)), (sd 4, .inl (cyI, 328, .inl s_up)), (sd 5, .inl (cyI, 41, .inl s_ks)), (sd 6, .inl (cyI, 41, .inl s_vs))]) t.heap) (va_A (wc_k_St_memberBits cyB cyI cyJ cyZ cyO hs sd s_row s_has s_clean s_dn s_up s_ks s_vs s_size s_copier s_copyLeft s_tick s_seed s_dropped) sz)) 0 0 (va_A (wc_k_St_memberBits cyB cyI cyJ cyZ cyO hs sd s_row s_has s_clean s_dn s_up s_ks s_vs s_size s_copier s_copyLeft s_tick s_seed s_dropped) sz) := by
  refine Met.ofW (cc := cX5_memberBits) (maxL := 3) (ret := (some .int)) (by decide) rfl ?_
  intro p e s m args below meth c s₁ B hml hv
  obtain ⟨rfl, hsz, hP, hKN, hD0⟩ := hv
  have hx := B.exec
  have hb := B.bytes
  have hr := B.returns
  have hts := atoms_spec (ws := wq_k_St_memberBits) B.pre
  have hown : s.vm.findClass RX5 = some m.cls := findClass_of_methodNamed B.named
  have hlocks := B.notSynchronized
  have hK := hKN.1
  have hfix : CallFix p m c cX5_memberBits 3 s [.ref hs].toArray wq_k_St_memberBits RX5 := ⟨hx, hb, hml, hown, hts⟩
  have hi5 : ∀ w ∈ wsX50, w ∈ wq_k_St_memberBits := (sb_c sb_l)
  subst hsz
  have hD := hD0.self (sz := s.heap.size)
  generalize hAe : va_A (wc_k_St_memberBits cyB cyI cyJ cyZ cyO hs sd s_row s_has s_clean s_dn s_up s_ks s_vs s_size s_copier s_copyLeft s_tick s_seed s_dropped) s.heap.size = A at hD ⊢
  have hA : ∀ q : Nat, s.heap.size ≤ q → A q := fun q h => by rw [← hAe]; exact Or.inr h
  have hS : va_S A s.heap s.heap [] := va_S.rf
  have hl := lv_entry ([.ref hs]) (n := 3) (Nat.le_of_ble_eq_true rfl)
  rw [lg_entry_eq]
  generalize (lg_sl ([.ref hs]) ++ List.replicate (3 - (lg_sl ([.ref hs])).length) Slot.unset).toArray = ls at hl ⊢
  have hl : lv_has ls 3 [(0, .ref hs)] := hl
  refine lv_iconst (v := 0) hx hb dX5_memberBits_0 (by decide) ?_
  refine lv_istore_n (lv' := [(1, .int 0), (0, .ref hs)]) hx hb dX5_memberBits_1 rfl hl (by decide) rfl (fun ls hl => ?_)
  refine lv_iconst (v := 0) hx hb dX5_memberBits_2 (by decide) ?_
  refine lv_istore_n (lv' := [(2, .int 0), (1, .int 0), (0, .ref hs)]) hx hb dX5_memberBits_3 rfl hl (by decide) rfl (fun ls hl => ?_)
  refine w_gen (fun H locs ls hP hS hl => ?_) hP hS hl
  have k127 : (0 : Int32).toInt = 0 := by decide
  have k129 : (0 : Int32).toInt = 0 := by decide
  obtain ⟨v126, v128, hl2, hP2, hD2, b130, b131⟩ : ∃ (v126 : Int32) (v128 : Int32), lv_has ls 3 [(2, .int v128), (1, .int v126), (0, .ref hs)] ∧ va_P (dC, dI) vwCl [(hs, .inr (5, [.ref (sd 0), .ref (sd 1), .ref (sd 2), .ref (sd 3), .ref (sd 4), .ref (sd 5), .ref (sd 6), .int s_size, .int s_copier, .int s_copyLeft, .int s_tick, .int s_seed, .int s_dropped])), (sd 0, .inl (cyI, 6, .inl s_row)), (sd 1, .inl (cyI, 8, .inl s_has)), (sd 2, .inl (cyI, 8, .inl s_clean)), (sd 3, .inl (cyI, 328, .inl s_dn)), (sd 4, .inl (cyI, 328, .inl s_up)), (sd 5, .inl (cyI, 41, .inl s_ks)), (sd 6, .inl (cyI, 41, .inl s_vs))] H ∧ va_D A [(hs, .inr (5, [.ref (sd 0), .ref (sd 1), .ref (sd 2), .ref (sd 3), .ref (sd 4), .ref (sd 5), .ref (sd 6), .int s_size, .int s_copier, .int s_copyLeft, .int s_tick, .int s_seed, .int s_dropped])), (sd 0, .inl (cyI, 6, .inl s_row)), (sd 1, .inl (cyI, 8, .inl s_has)), (sd 2, .inl (cyI, 8, .inl s_clean)), (sd 3, .inl (cyI, 328, .inl s_dn)), (sd 4, .inl (cyI, 328, .inl s_up)), (sd 5, .inl (cyI, 41, .inl s_ks)), (sd 6, .inl (cyI, 41, .inl s_vs))] ∧ 0 ≤ v128.toInt ∧ v128.toInt ≤ 6 := ⟨0, 0, hl, hP, hD, by first | omega | assumption, by first | omega | assumption⟩
  clear hP hl
  have hP := hP2
  have hD := hD2
  have hl := hl2
  clear hP2 hD2 hl2
  obtain ⟨n132, hn132⟩ : ∃ n : Nat, 6 - v128.toInt < (n : Int) := ⟨(6 - v128.toInt).toNat + 1, by omega⟩
  induction n132 generalizing v126 v128 H locs ls with
  | zero => exfalso; omega
  | succ n132 ih125 =>
    refine lv_iload_n hx hb dX5_memberBits_4 rfl (lv_at hl 0 rfl) ?_
    refine lv_aload_n hx hb dX5_memberBits_5 rfl (lv_at hl 2 rfl) ?_
    refine va_get (D := (dC, dI)) (ci := 5) (v := .int s_size) (C := RX5) (T := TX5) (N := 13) hx hb hts hi5 hown hK hP 0 rfl rfl 7 (by decide) (hts _ (ow_m (k := 0) rfl)) (fun _ h9 => h9) rfl dX5_memberBits_6 ?_
    refine lv_icmp_ge (tgt := 29) hx hb dX5_memberBits_9 (by decide) (fun c133 => ?_) (fun c133 => ?_)
    · have c133 := i_le (a := s_size.toInt) (b := v128.toInt) c133 rfl rfl
      refine lv_iload_n hx hb dX5_memberBits_29 rfl (lv_at hl 1 rfl) ?_
      exact W.iret (v := v126) hx hb hr (fun t ht hW => ⟨⟨v126, (), rfl, trivial, cE.of ht hP hD [0, 1, 2, 3, 4, 5, 6, 7] (by decide) rfl⟩, hS.F ht⟩) hS.2.2 dX5_memberBits_30
    · have c133 := i_nle (a := s_size.toInt) (b := v128.toInt) c133 rfl rfl
      refine lv_iload_n hx hb dX5_memberBits_12 rfl (lv_at hl 1 rfl) ?_
      refine lv_iconst (v := 1) hx hb dX5_memberBits_13 (by decide) ?_
      refine lv_aload_n hx hb dX5_memberBits_14 rfl (lv_at hl 2 rfl) ?_
      refine va_get (D := (dC, dI)) (ci := 5) (v := .ref (sd 0)) (C := RX5) (T := TX5) (N := 13) hx hb hts hi5 hown hK hP 0 rfl rfl 0 (by decide) (hts _ (ow_m (k := 1) rfl)) (fun _ h9 => h9) rfl dX5_memberBits_15 ?_
      refine lv_iload_n hx hb dX5_memberBits_18 rfl (lv_at hl 0 rfl) ?_
      have nz134 : vp_in v128 6 := (vp_i rfl (by omega) (by omega))
      refine va_iald hx hb hK hP 1 1 rfl rfl nz134 dX5_memberBits_19 ?_
      refine lv_topi (fun z134 ez134 => ?_)
      have tz134 := i_s_row.at ez134 nz134
      refine lv_ishl hx hb dX5_memberBits_20 ?_
      refine lv_topi (fun z135 ez135 => ?_)
      refine lv_ior hx hb dX5_memberBits_21 ?_
      refine lv_topi (fun z136 ez136 => ?_)
      refine lv_istore_n (lv' := [(1, .int z136), (2, .int v128), (0, .ref hs)]) hx hb dX5_memberBits_22 rfl hl (by decide) rfl (fun ls hl => ?_)
      obtain ⟨z137, ez137⟩ : ∃ y : Int32, y = v128 + 1 := ⟨_, rfl⟩
      have tz137 := ti_add (a := v128.toInt) (b := 1) ez137 rfl (by decide) (by omega) (by omega)
      refine lv_iinc (v := z137) (lv' := [(2, .int z137), (1, .int z136), (0, .ref hs)]) hx hb dX5_memberBits_23 hl (k := 1) rfl (by rw [ez137]; rfl) (by decide) rfl (fun ls hl => ?_)
      refine lv_goto (tgt := 4) hx hb dX5_memberBits_26 (by decide) ?_
      have hl := lv_sub (l' := [(2, .int z137), (1, .int z136), (0, .ref hs)]) hl [0, 1, 2] rfl
      apply ih125 (v126 := z136) (v128 := z137) (H := H) (locs := locs) (ls := ls) <;> first | assumption | omega
def wo_k_St_headHas : List Cond := [.fieldLink RX5 42 "ReplicaChain$State" "size" "I", .fieldLink RX5 15 "ReplicaChain$State" "has" "[I", .fieldLink RX5 9 "ReplicaChain$State" "row" "[I"]
def wq_k_St_headHas : List Cond := .code yX5_headHas cX5_headHas 1 (some .int) :: (wo_k_St_headHas ++ (wsX50 ++ []))
theorem gd_k_St_headHas : Gd wq_k_St_headHas := gd_c (gd_a (gd_o (by decide +kernel)) (gd_a gd_u gd_0))
abbrev wc_k_St_headHas (cyB cyI cyJ cyZ cyO : ClassId) (hs : Nat) (sd : Nat → Nat) (s_row : Nat → Int32) (s_has : Nat → Int32) (s_clean : Nat → Int32) (s_dn : Nat → Int32) (s_up : Nat → Int32) (s_ks : Nat → Int32) (s_vs : Nat → Int32) (s_size : Int32) (s_copier : Int32) (s_copyLeft : Int32) (s_tick : Int32) (s_seed : Int32) (s_dropped : Int32) : va_W := [(hs, .inr (5, [.ref (sd 0), .ref (sd 1), .ref (sd 2), .ref (sd 3), .ref (sd 4), .ref (sd 5), .ref (sd 6), .int s_size, .int s_copier, .int s_copyLeft, .int s_tick, .int s_seed, .int s_dropped])), (sd 0, .inl (cyI, 6, .inl s_row)), (sd 1, .inl (cyI, 8, .inl s_has)), (sd 2, .inl (cyI, 8, .inl s_clean)), (sd 3, .inl (cyI, 328, .inl s_dn)), (sd 4, .inl (cyI, 328, .inl s_up)), (sd 5, .inl (cyI, 41, .inl s_ks)), (sd 6, .inl (cyI, 41, .inl s_vs))]
set_option maxHeartbeats 4000000 in
set_option maxRecDepth 100000 in
theorem k_St_headHas (l : Launch) (dC : Nat → ClassId) (dI : Nat → Nat → Nat) (cyB cyI cyJ cyZ cyO : ClassId) (hs : Nat) (sd : Nat → Nat) (s_row : Nat → Int32) (s_has : Nat → Int32) (s_clean : Nat → Int32) (s_dn : Nat → Int32) (s_up : Nat → Int32) (s_ks : Nat → Int32) (s_vs : Nat → Int32) (s_size : Int32) (s_copier : Int32) (s_copyLeft : Int32) (s_tick : Int32) (s_seed : Int32) (s_dropped : Int32) (sz : Nat) (l_s_size : 0 ≤ s_size.toInt) (u_s_size : s_size.toInt ≤ 6) (l_s_copier : -1 ≤ s_copier.toInt) (u_s_copier : s_copier.toInt ≤ 7) (l_s_seed : 0 ≤ s_seed.toInt) (u_s_seed : s_seed.toInt ≤ 999) (i_s_row : In s_row 6 (0) (7)) (i_s_has : In s_has 8 (0) (40)) (i_s_clean : In s_clean 8 (0) (40)) : Met l yX5_headHas wq_k_St_headHas ({ frames := 0, cells := 0, slots := 0, locals := 0 }) (va_Pc [.ref hs] (cB (dC, dI) (kT cyB cyI cyJ cyZ cyO) (wc_k_St_headHas cyB cyI cyJ cyZ cyO hs sd s_row s_has s_clean s_dn s_up s_ks s_vs s_size s_copier s_copyLeft s_tick s_seed s_dropped) sz)) (va_Qi (fun (r : Int32) (u : Unit) => 0 ≤ r.toInt ∧ r.toInt ≤ 40) (fun (u : Unit) t => cE (dC, dI) (va_A (wc_k_St_headHas cyB cyI cyJ cyZ cyO hs sd s_row s_has s_clean s_dn s_up s_ks s_vs s_size s_copier s_copyLeft s_tick s_seed s_dropped) sz) ([(hs, .inr (5, [.ref (sd 0), .ref (sd 1), .ref (sd 2), .ref (sd 3), .ref (sd 4), .ref (sd 5), .ref (sd 6), .int s_size, .int s_copier, .int s_copyLeft, .int s_tick, .int s_seed, .int s_dropped])), (sd 0, .inl (cyI, 6, .inl s_row)), (sd 1, .inl (cyI, 8, .inl s_has)), (sd 2, .inl (cyI, 8, .inl s_clean)), (sd 3, .inl (cyI, 328, .inl s_dn)), (sd 4, .inl (cyI, 328, .inl s_up)), (sd 5, .inl (cyI, 41, .inl s_ks)), (sd 6, .inl (cyI, 41, .inl s_vs))]) t.heap) (va_A (wc_k_St_headHas cyB cyI cyJ cyZ cyO hs sd s_row s_has s_clean s_dn s_up s_ks s_vs s_size s_copier s_copyLeft s_tick s_seed s_dropped) sz)) 0 0 (va_A (wc_k_St_headHas cyB cyI cyJ cyZ cyO hs sd s_row s_has s_clean s_dn s_up s_ks s_vs s_size s_copier s_copyLeft s_tick s_seed s_dropped) sz) := by
  refine Met.ofW (cc := cX5_headHas) (maxL := 1) (ret := (some .int)) (by decide) rfl ?_
  intro p e s m args below meth c s₁ B hml hv
  obtain ⟨rfl, hsz, hP, hKN, hD0⟩ := hv
  have hx := B.exec
  have hb := B.bytes
  have hr := B.returns
  have hts := atoms_spec (ws := wq_k_St_headHas) B.pre
  have hown : s.vm.findClass RX5 = some m.cls := findClass_of_methodNamed B.named
  have hlocks := B.notSynchronized
  have hK := hKN.1
  have hfix : CallFix p m c cX5_headHas 1 s [.ref hs].toArray wq_k_St_headHas RX5 := ⟨hx, hb, hml, hown, hts⟩
  have hi5 : ∀ w ∈ wsX50, w ∈ wq_k_St_headHas := (sb_c sb_l)
  subst hsz
  have hD := hD0.self (sz := s.heap.size)
  generalize hAe : va_A (wc_k_St_headHas cyB cyI cyJ cyZ cyO hs sd s_row s_has s_clean s_dn s_up s_ks s_vs s_size s_copier s_copyLeft s_tick s_seed s_dropped) s.heap.size = A at hD ⊢
  have hA : ∀ q : Nat, s.heap.size ≤ q → A q := fun q h => by rw [← hAe]; exact Or.inr h
  have hS : va_S A s.heap s.heap [] := va_S.rf
  have hl := lv_entry ([.ref hs]) (n := 1) (Nat.le_of_ble_eq_true rfl)
  rw [lg_entry_eq]
  generalize (lg_sl ([.ref hs]) ++ List.replicate (1 - (lg_sl ([.ref hs])).length) Slot.unset).toArray = ls at hl ⊢
  have hl : lv_has ls 1 [(0, .ref hs)] := hl
  refine lv_aload_n hx hb dX5_headHas_0 rfl (lv_at hl 0 rfl) ?_
  refine va_get (D := (dC, dI)) (ci := 5) (v := .int s_size) (C := RX5) (T := TX5) (N := 13) hx hb hts hi5 hown hK hP 0 rfl rfl 7 (by decide) (hts _ (ow_m (k := 0) rfl)) (fun _ h9 => h9) rfl dX5_headHas_1 ?_
  refine lv_if_ne (tgt := 11) hx hb dX5_headHas_4 (by decide) (fun c138 => ?_) (fun c138 => ?_)
  · have c138 := i_ne (a := s_size.toInt) (b := 0) c138 rfl (by decide)
    refine lv_aload_n hx hb dX5_headHas_11 rfl (lv_at hl 0 rfl) ?_
    refine va_get (D := (dC, dI)) (ci := 5) (v := .ref (sd 1)) (C := RX5) (T := TX5) (N := 13) hx hb hts hi5 hown hK hP 0 rfl rfl 1 (by decide) (hts _ (ow_m (k := 1) rfl)) (fun _ h9 => h9) rfl dX5_headHas_12 ?_
    refine lv_aload_n hx hb dX5_headHas_15 rfl (lv_at hl 0 rfl) ?_
    refine va_get (D := (dC, dI)) (ci := 5) (v := .ref (sd 0)) (C := RX5) (T := TX5) (N := 13) hx hb hts hi5 hown hK hP 0 rfl rfl 0 (by decide) (hts _ (ow_m (k := 2) rfl)) (fun _ h9 => h9) rfl dX5_headHas_16 ?_
    refine lv_iconst (v := 0) hx hb dX5_headHas_19 (by decide) ?_
    have nz139 : vp_in 0 6 := (vp_i (a := 0) (by decide) (by decide) (by decide))
    refine va_iald hx hb hK hP 1 1 rfl rfl nz139 dX5_headHas_20 ?_
    refine lv_topi (fun z139 ez139 => ?_)
    have tz139 := i_s_row.at ez139 nz139
    have nz140 : vp_in z139 8 := (vp_i rfl (by omega) (by omega))
    refine va_iald hx hb hK hP 2 1 rfl rfl nz140 dX5_headHas_21 ?_
    refine lv_topi (fun z140 ez140 => ?_)
    have tz140 := i_s_has.at ez140 nz140
    have w141 : 0 ≤ z140.toInt := by first | omega | assumption
    have w142 : z140.toInt ≤ 40 := by first | omega | assumption
    exact W.iret (v := z140) hx hb hr (fun t ht hW => ⟨⟨z140, (), rfl, ⟨w141, w142⟩, cE.of ht hP hD [0, 1, 2, 3, 4, 5, 6, 7] (by decide) rfl⟩, hS.F ht⟩) hS.2.2 dX5_headHas_22
  · have c138 := i_eq (a := s_size.toInt) (b := 0) c138 rfl (by decide)
    refine lv_iconst (v := 0) hx hb dX5_headHas_7 (by decide) ?_
    refine lv_goto (tgt := 22) hx hb dX5_headHas_8 (by decide) ?_
    have w143 : 0 ≤ (0 : Int32).toInt := by decide
    have w144 : (0 : Int32).toInt ≤ 40 := by decide
    exact W.iret (v := 0) hx hb hr (fun t ht hW => ⟨⟨0, (), rfl, ⟨w143, w144⟩, cE.of ht hP hD [0, 1, 2, 3, 4, 5, 6, 7] (by decide) rfl⟩, hS.F ht⟩) hS.2.2 dX5_headHas_22
def wo_k_St_headClean : List Cond := [.fieldLink RX5 42 "ReplicaChain$State" "size" "I", .fieldLink RX5 18 "ReplicaChain$State" "clean" "[I", .fieldLink RX5 9 "ReplicaChain$State" "row" "[I"]
def wq_k_St_headClean : List Cond := .code yX5_headClean cX5_headClean 1 (some .int) :: (wo_k_St_headClean ++ (wsX50 ++ []))
theorem gd_k_St_headClean : Gd wq_k_St_headClean := gd_c (gd_a (gd_o (by decide +kernel)) (gd_a gd_u gd_0))
abbrev wc_k_St_headClean (cyB cyI cyJ cyZ cyO : ClassId) (hs : Nat) (sd : Nat → Nat) (s_row : Nat → Int32) (s_has : Nat → Int32) (s_clean : Nat → Int32) (s_dn : Nat → Int32) (s_up : Nat → Int32) (s_ks : Nat → Int32) (s_vs : Nat → Int32) (s_size : Int32) (s_copier : Int32) (s_copyLeft : Int32) (s_tick : Int32) (s_seed : Int32) (s_dropped : Int32) : va_W := [(hs, .inr (5, [.ref (sd 0), .ref (sd 1), .ref (sd 2), .ref (sd 3), .ref (sd 4), .ref (sd 5), .ref (sd 6), .int s_size, .int s_copier, .int s_copyLeft, .int s_tick, .int s_seed, .int s_dropped])), (sd 0, .inl (cyI, 6, .inl s_row)), (sd 1, .inl (cyI, 8, .inl s_has)), (sd 2, .inl (cyI, 8, .inl s_clean)), (sd 3, .inl (cyI, 328, .inl s_dn)), (sd 4, .inl (cyI, 328, .inl s_up)), (sd 5, .inl (cyI, 41, .inl s_ks)), (sd 6, .inl (cyI, 41, .inl s_vs))]
set_option maxHeartbeats 4000000 in
set_option maxRecDepth 100000 in
theorem k_St_headClean (l : Launch) (dC : Nat → ClassId) (dI : Nat → Nat → Nat) (cyB cyI cyJ cyZ cyO : ClassId) (hs : Nat) (sd : Nat → Nat) (s_row : Nat → Int32) (s_has : Nat → Int32) (s_clean : Nat → Int32) (s_dn : Nat → Int32) (s_up : Nat → Int32) (s_ks : Nat → Int32) (s_vs : Nat → Int32) (s_size : Int32) (s_copier : Int32) (s_copyLeft : Int32) (s_tick : Int32) (s_seed : Int32) (s_dropped : Int32) (sz : Nat) (l_s_size : 0 ≤ s_size.toInt) (u_s_size : s_size.toInt ≤ 6) (l_s_copier : -1 ≤ s_copier.toInt) (u_s_copier : s_copier.toInt ≤ 7) (l_s_seed : 0 ≤ s_seed.toInt) (u_s_seed : s_seed.toInt ≤ 999) (i_s_row : In s_row 6 (0) (7)) (i_s_has : In s_has 8 (0) (40)) (i_s_clean : In s_clean 8 (0) (40)) : Met l yX5_headClean wq_k_St_headClean ({ frames := 0, cells := 0, slots := 0, locals := 0 }) (va_Pc [.ref hs] (cB (dC, dI) (kT cyB cyI cyJ cyZ cyO) (wc_k_St_headClean cyB cyI cyJ cyZ cyO hs sd s_row s_has s_clean s_dn s_up s_ks s_vs s_size s_copier s_copyLeft s_tick s_seed s_dropped) sz)) (va_Qi (fun (r : Int32) (u : Unit) => 0 ≤ r.toInt ∧ r.toInt ≤ 40) (fun (u : Unit) t => cE (dC, dI) (va_A (wc_k_St_headClean cyB cyI cyJ cyZ cyO hs sd s_row s_has s_clean s_dn s_up s_ks s_vs s_size s_copier s_copyLeft s_tick s_seed s_dropped) sz) ([(hs, .inr (5, [.ref (sd 0), .ref (sd 1), .ref (sd 2), .ref (sd 3), .ref (sd 4), .ref (sd 5), .ref (sd 6), .int s_size, .int s_copier, .int s_copyLeft, .int s_tick, .int s_seed, .int s_dropped])), (sd 0, .inl (cyI, 6, .inl s_row)), (sd 1, .inl (cyI, 8, .inl s_has)), (sd 2, .inl (cyI, 8, .inl s_clean)), (sd 3, .inl (cyI, 328, .inl s_dn)), (sd 4, .inl (cyI, 328, .inl s_up)), (sd 5, .inl (cyI, 41, .inl s_ks)), (sd 6, .inl (cyI, 41, .inl s_vs))]) t.heap) (va_A (wc_k_St_headClean cyB cyI cyJ cyZ cyO hs sd s_row s_has s_clean s_dn s_up s_ks s_vs s_size s_copier s_copyLeft s_tick s_seed s_dropped) sz)) 0 0 (va_A (wc_k_St_headClean cyB cyI cyJ cyZ cyO hs sd s_row s_has s_clean s_dn s_up s_ks s_vs s_size s_copier s_copyLeft s_tick s_seed s_dropped) sz) := by
  refine Met.ofW (cc := cX5_headClean) (maxL := 1) (ret := (some .int)) (by decide) rfl ?_
  intro p e s m args below meth c s₁ B hml hv
  obtain ⟨rfl, hsz, hP, hKN, hD0⟩ := hv
  have hx := B.exec
  have hb := B.bytes
  have hr := B.returns
  have hts := atoms_spec (ws := wq_k_St_headClean) B.pre
  have hown : s.vm.findClass RX5 = some m.cls := findClass_of_methodNamed B.named
  have hlocks := B.notSynchronized
  have hK := hKN.1
  have hfix : CallFix p m c cX5_headClean 1 s [.ref hs].toArray wq_k_St_headClean RX5 := ⟨hx, hb, hml, hown, hts⟩
  have hi5 : ∀ w ∈ wsX50, w ∈ wq_k_St_headClean := (sb_c sb_l)
  subst hsz
  have hD := hD0.self (sz := s.heap.size)
  generalize hAe : va_A (wc_k_St_headClean cyB cyI cyJ cyZ cyO hs sd s_row s_has s_clean s_dn s_up s_ks s_vs s_size s_copier s_copyLeft s_tick s_seed s_dropped) s.heap.size = A at hD ⊢
  have hA : ∀ q : Nat, s.heap.size ≤ q → A q := fun q h => by rw [← hAe]; exact Or.inr h
  have hS : va_S A s.heap s.heap [] := va_S.rf
  have hl := lv_entry ([.ref hs]) (n := 1) (Nat.le_of_ble_eq_true rfl)
  rw [lg_entry_eq]
  generalize (lg_sl ([.ref hs]) ++ List.replicate (1 - (lg_sl ([.ref hs])).length) Slot.unset).toArray = ls at hl ⊢
  have hl : lv_has ls 1 [(0, .ref hs)] := hl
  refine lv_aload_n hx hb dX5_headClean_0 rfl (lv_at hl 0 rfl) ?_
  refine va_get (D := (dC, dI)) (ci := 5) (v := .int s_size) (C := RX5) (T := TX5) (N := 13) hx hb hts hi5 hown hK hP 0 rfl rfl 7 (by decide) (hts _ (ow_m (k := 0) rfl)) (fun _ h9 => h9) rfl dX5_headClean_1 ?_
  refine lv_if_ne (tgt := 11) hx hb dX5_headClean_4 (by decide) (fun c145 => ?_) (fun c145 => ?_)
  · have c145 := i_ne (a := s_size.toInt) (b := 0) c145 rfl (by decide)
    refine lv_aload_n hx hb dX5_headClean_11 rfl (lv_at hl 0 rfl) ?_
    refine va_get (D := (dC, dI)) (ci := 5) (v := .ref (sd 2)) (C := RX5) (T := TX5) (N := 13) hx hb hts hi5 hown hK hP 0 rfl rfl 2 (by decide) (hts _ (ow_m (k := 1) rfl)) (fun _ h9 => h9) rfl dX5_headClean_12 ?_
    refine lv_aload_n hx hb dX5_headClean_15 rfl (lv_at hl 0 rfl) ?_
    refine va_get (D := (dC, dI)) (ci := 5) (v := .ref (sd 0)) (C := RX5) (T := TX5) (N := 13) hx hb hts hi5 hown hK hP 0 rfl rfl 0 (by decide) (hts _ (ow_m (k := 2) rfl)) (fun _ h9 => h9) rfl dX5_headClean_16 ?_
    refine lv_iconst (v := 0) hx hb dX5_headClean_19 (by decide) ?_
    have nz146 : vp_in 0 6 := (vp_i (a := 0) (by decide) (by decide) (by decide))
    refine va_iald hx hb hK hP 1 1 rfl rfl nz146 dX5_headClean_20 ?_
    refine lv_topi (fun z146 ez146 => ?_)
    have tz146 := i_s_row.at ez146 nz146
    have nz147 : vp_in z146 8 := (vp_i rfl (by omega) (by omega))
    refine va_iald hx hb hK hP 3 1 rfl rfl nz147 dX5_headClean_21 ?_
    refine lv_topi (fun z147 ez147 => ?_)
    have tz147 := i_s_clean.at ez147 nz147
    have w148 : 0 ≤ z147.toInt := by first | omega | assumption
    have w149 : z147.toInt ≤ 40 := by first | omega | assumption
    exact W.iret (v := z147) hx hb hr (fun t ht hW => ⟨⟨z147, (), rfl, ⟨w148, w149⟩, cE.of ht hP hD [0, 1, 2, 3, 4, 5, 6, 7] (by decide) rfl⟩, hS.F ht⟩) hS.2.2 dX5_headClean_22
  · have c145 := i_eq (a := s_size.toInt) (b := 0) c145 rfl (by decide)
    refine lv_iconst (v := 0) hx hb dX5_headClean_7 (by decide) ?_
    refine lv_goto (tgt := 22) hx hb dX5_headClean_8 (by decide) ?_
    have w150 : 0 ≤ (0 : Int32).toInt := by decide
    have w151 : (0 : Int32).toInt ≤ 40 := by decide
    exact W.iret (v := 0) hx hb hr (fun t ht hW => ⟨⟨0, (), rfl, ⟨w150, w151⟩, cE.of ht hP hD [0, 1, 2, 3, 4, 5, 6, 7] (by decide) rfl⟩, hS.F ht⟩) hS.2.2 dX5_headClean_22
def wo_k_St_underWay : List Cond := [.fieldLink RX5 42 "ReplicaChain$State" "size" "I", .fieldLink RX5 9 "ReplicaChain$State" "row" "[I", .fieldLink RX5 18 "ReplicaChain$State" "clean" "[I", .fieldLink RX5 15 "ReplicaChain$State" "has" "[I"]
def wq_k_St_underWay : List Cond := .code yX5_underWay cX5_underWay 5 (some .int) :: (wo_k_St_underWay ++ (wsX50 ++ []))
theorem gd_k_St_underWay : Gd wq_k_St_underWay := gd_c (gd_a (gd_o (by decide +kernel)) (gd_a gd_u gd_0))
abbrev wc_k_St_underWay (cyB cyI cyJ cyZ cyO : ClassId) (hs : Nat) (sd : Nat → Nat) (s_row : Nat → Int32) (s_has : Nat → Int32) (s_clean : Nat → Int32) (s_dn : Nat → Int32) (s_up : Nat → Int32) (s_ks : Nat → Int32) (s_vs : Nat → Int32) (s_size : Int32) (s_copier : Int32) (s_copyLeft : Int32) (s_tick : Int32) (s_seed : Int32) (s_dropped : Int32) (x1 : Int32) (x2 : Int32) : va_W := [(hs, .inr (5, [.ref (sd 0), .ref (sd 1), .ref (sd 2), .ref (sd 3), .ref (sd 4), .ref (sd 5), .ref (sd 6), .int s_size, .int s_copier, .int s_copyLeft, .int s_tick, .int s_seed, .int s_dropped])), (sd 0, .inl (cyI, 6, .inl s_row)), (sd 1, .inl (cyI, 8, .inl s_has)), (sd 2, .inl (cyI, 8, .inl s_clean)), (sd 3, .inl (cyI, 328, .inl s_dn)), (sd 4, .inl (cyI, 328, .inl s_up)), (sd 5, .inl (cyI, 41, .inl s_ks)), (sd 6, .inl (cyI, 41, .inl s_vs))]
set_option maxHeartbeats 4000000 in
set_option maxRecDepth 100000 in
theorem k_St_underWay (l : Launch) (dC : Nat → ClassId) (dI : Nat → Nat → Nat) (cyB cyI cyJ cyZ cyO : ClassId) (hs : Nat) (sd : Nat → Nat) (s_row : Nat → Int32) (s_has : Nat → Int32) (s_clean : Nat → Int32) (s_dn : Nat → Int32) (s_up : Nat → Int32) (s_ks : Nat → Int32) (s_vs : Nat → Int32) (s_size : Int32) (s_copier : Int32) (s_copyLeft : Int32) (s_tick : Int32) (s_seed : Int32) (s_dropped : Int32) (x1 : Int32) (x2 : Int32) (sz : Nat) (l_s_size : 0 ≤ s_size.toInt) (u_s_size : s_size.toInt ≤ 6) (l_s_copier : -1 ≤ s_copier.toInt) (u_s_copier : s_copier.toInt ≤ 7) (l_s_seed : 0 ≤ s_seed.toInt) (u_s_seed : s_seed.toInt ≤ 999) (i_s_row : In s_row 6 (0) (7)) (i_s_has : In s_has 8 (0) (40)) (i_s_clean : In s_clean 8 (0) (40)) (l_x1 : 0 ≤ x1.toInt) (u_x1 : x1.toInt ≤ 5) : Met l yX5_underWay wq_k_St_underWay ({ frames := 0, cells := 0, slots := 0, locals := 0 }) (va_Pc [.ref hs, .int x1, .int x2] (cB (dC, dI) (kT cyB cyI cyJ cyZ cyO) (wc_k_St_underWay cyB cyI cyJ cyZ cyO hs sd s_row s_has s_clean s_dn s_up s_ks s_vs s_size s_copier s_copyLeft s_tick s_seed s_dropped x1 x2) sz)) (va_Qi (fun (r : Int32) (u : Unit) => -40 ≤ r.toInt ∧ r.toInt ≤ 40) (fun (u : Unit) t => cE (dC, dI) (va_A (wc_k_St_underWay cyB cyI cyJ cyZ cyO hs sd s_row s_has s_clean s_dn s_up s_ks s_vs s_size s_copier s_copyLeft s_tick s_seed s_dropped x1 x2) sz) ([(hs, .inr (5, [.ref (sd 0), .ref (sd 1), .ref (sd 2), .ref (sd 3), .ref (sd 4), .ref (sd 5), .ref (sd 6), .int s_size, .int s_copier, .int s_copyLeft, .int s_tick, .int s_seed, .int s_dropped])), (sd 0, .inl (cyI, 6, .inl s_row)), (sd 1, .inl (cyI, 8, .inl s_has)), (sd 2, .inl (cyI, 8, .inl s_clean)), (sd 3, .inl (cyI, 328, .inl s_dn)), (sd 4, .inl (cyI, 328, .inl s_up)), (sd 5, .inl (cyI, 41, .inl s_ks)), (sd 6, .inl (cyI, 41, .inl s_vs))]) t.heap) (va_A (wc_k_St_underWay cyB cyI cyJ cyZ cyO hs sd s_row s_has s_clean s_dn s_up s_ks s_vs s_size s_copier s_copyLeft s_tick s_seed s_dropped x1 x2) sz)) 0 0 (va_A (wc_k_St_underWay cyB cyI cyJ cyZ cyO hs sd s_row s_has s_clean s_dn s_up s_ks s_vs s_size s_copier s_copyLeft s_tick s_seed s_dropped x1 x2) sz) := by
  refine Met.ofW (cc := cX5_underWay) (maxL := 5) (ret := (some .int)) (by decide) rfl ?_
  intro p e s m args below meth c s₁ B hml hv
  obtain ⟨rfl, hsz, hP, hKN, hD0⟩ := hv
  have hx := B.exec
  have hb := B.bytes
  have hr := B.returns
  have hts := atoms_spec (ws := wq_k_St_underWay) B.pre
  have hown : s.vm.findClass RX5 = some m.cls := findClass_of_methodNamed B.named
  have hlocks := B.notSynchronized
  have hK := hKN.1
  have hfix : CallFix p m c cX5_underWay 5 s [.ref hs, .int x1, .int x2].toArray wq_k_St_underWay RX5 := ⟨hx, hb, hml, hown, hts⟩
  have hi5 : ∀ w ∈ wsX50, w ∈ wq_k_St_underWay := (sb_c sb_l)
  subst hsz
  have hD := hD0.self (sz := s.heap.size)
  generalize hAe : va_A (wc_k_St_underWay cyB cyI cyJ cyZ cyO hs sd s_row s_has s_clean s_dn s_up s_ks s_vs s_size s_copier s_copyLeft s_tick s_seed s_dropped x1 x2) s.heap.size = A at hD ⊢
  have hA : ∀ q : Nat, s.heap.size ≤ q → A q := fun q h => by rw [← hAe]; exact Or.inr h
  have hS : va_S A s.heap s.heap [] := va_S.rf
  have hl := lv_entry ([.ref hs, .int x1, .int x2]) (n := 5) (Nat.le_of_ble_eq_true rfl)
  rw [lg_entry_eq]
  generalize (lg_sl ([.ref hs, .int x1, .int x2]) ++ List.replicate (5 - (lg_sl ([.ref hs, .int x1, .int x2])).length) Slot.unset).toArray = ls at hl ⊢
  have hl : lv_has ls 5 [(0, .ref hs), (1, .int x1), (2, .int x2)] := hl
  refine lv_iload_n hx hb dX5_underWay_0 rfl (lv_at hl 1 rfl) ?_
  refine lv_if_lt (tgt := 14) hx hb dX5_underWay_1 (by decide) (fun c152 => ?_) (fun c152 => ?_)
  · have c152 := i_lt (a := x1.toInt) (b := 0) c152 rfl (by decide)
    exfalso; omega
  · have c152 := i_nlt (a := x1.toInt) (b := 0) c152 rfl (by decide)
    refine lv_iload_n hx hb dX5_underWay_4 rfl (lv_at hl 1 rfl) ?_
    refine lv_iconst (v := 1) hx hb dX5_underWay_5 (by decide) ?_
    refine lv_iadd hx hb dX5_underWay_6 ?_
    refine lv_topi (fun z153 ez153 => ?_)
    have tz153 := ti_add (a := x1.toInt) (b := 1) ez153 rfl (by decide) (by omega) (by omega)
    refine lv_aload_n hx hb dX5_underWay_7 rfl (lv_at hl 0 rfl) ?_
    refine va_get (D := (dC, dI)) (ci := 5) (v := .int s_size) (C := RX5) (T := TX5) (N := 13) hx hb hts hi5 hown hK hP 0 rfl rfl 7 (by decide) (hts _ (ow_m (k := 0) rfl)) (fun _ h9 => h9) rfl dX5_underWay_8 ?_
    refine lv_icmp_lt (tgt := 16) hx hb dX5_underWay_11 (by decide) (fun c154 => ?_) (fun c154 => ?_)
    · have c154 := i_lt (a := z153.toInt) (b := s_size.toInt) c154 rfl rfl
      refine lv_aload_n hx hb dX5_underWay_16 rfl (lv_at hl 0 rfl) ?_
      refine va_get (D := (dC, dI)) (ci := 5) (v := .ref (sd 0)) (C := RX5) (T := TX5) (N := 13) hx hb hts hi5 hown hK hP 0 rfl rfl 0 (by decide) (hts _ (ow_m (k := 1) rfl)) (fun _ h9 => h9) rfl dX5_underWay_17 ?_
      refine lv_iload_n hx hb dX5_underWay_20 rfl (lv_at hl 1 rfl) ?_
      have nz155 : vp_in x1 6 := (vp_i rfl (by omega) (by omega))
      refine va_iald hx hb hK hP 1 1 rfl rfl nz155 dX5_underWay_21 ?_
      refine lv_topi (fun z155 ez155 => ?_)
      have tz155 := i_s_row.at ez155 nz155
      refine lv_istore_n (lv' := [(3, .int z155), (0, .ref hs), (1, .int x1), (2, .int x2)]) hx hb dX5_underWay_22 rfl hl (by decide) rfl (fun ls hl => ?_)
      refine lv_aload_n hx hb dX5_underWay_23 rfl (lv_at hl 1 rfl) ?_
      refine va_get (D := (dC, dI)) (ci := 5) (v := .ref (sd 0)) (C := RX5) (T := TX5) (N := 13) hx hb hts hi5 hown hK hP 0 rfl rfl 0 (by decide) (hts _ (ow_m (k := 1) rfl)) (fun _ h9 => h9) rfl dX5_underWay_24 ?_
      refine lv_iload_n hx hb dX5_underWay_27 rfl (lv_at hl 2 rfl) ?_
      refine lv_iconst (v := 1) hx hb dX5_underWay_28 (by decide) ?_
      refine lv_iadd hx hb dX5_underWay_29 ?_
      refine lv_topi (fun z156 ez156 => ?_)
      have tz156 := ti_add (a := x1.toInt) (b := 1) ez156 rfl (by decide) (by omega) (by omega)
      have nz157 : vp_in z156 6 := (vp_i rfl (by omega) (by omega))
      refine va_iald hx hb hK hP 1 1 rfl rfl nz157 dX5_underWay_30 ?_
      refine lv_topi (fun z157 ez157 => ?_)
      have tz157 := i_s_row.at ez157 nz157
      refine lv_istore (lv' := [(4, .int z157), (3, .int z155), (0, .ref hs), (1, .int x1), (2, .int x2)]) hx hb dX5_underWay_31 hl (by decide) rfl (fun ls hl => ?_)
      refine lv_iload_n hx hb dX5_underWay_33 rfl (lv_at hl 4 rfl) ?_
      refine lv_if_ne (tgt := 54) hx hb dX5_underWay_34 (by decide) (fun c158 => ?_) (fun c158 => ?_)
      · have c158 := i_ne (a := x2.toInt) (b := 0) c158 rfl (by decide)
        refine lv_aload_n hx hb dX5_underWay_54 rfl (lv_at hl 2 rfl) ?_
        refine va_get (D := (dC, dI)) (ci := 5) (v := .ref (sd 2)) (C := RX5) (T := TX5) (N := 13) hx hb hts hi5 hown hK hP 0 rfl rfl 2 (by decide) (hts _ (ow_m (k := 2) rfl)) (fun _ h9 => h9) rfl dX5_underWay_55 ?_
        refine lv_iload hx hb dX5_underWay_58 (lv_at hl 0 rfl) ?_
        have nz159 : vp_in z157 8 := (vp_i rfl (by omega) (by omega))
        refine va_iald hx hb hK hP 3 1 rfl rfl nz159 dX5_underWay_60 ?_
        refine lv_topi (fun z159 ez159 => ?_)
        have tz159 := i_s_clean.at ez159 nz159
        refine lv_aload_n hx hb dX5_underWay_61 rfl (lv_at hl 2 rfl) ?_
        refine va_get (D := (dC, dI)) (ci := 5) (v := .ref (sd 2)) (C := RX5) (T := TX5) (N := 13) hx hb hts hi5 hown hK hP 0 rfl rfl 2 (by decide) (hts _ (ow_m (k := 2) rfl)) (fun _ h9 => h9) rfl dX5_underWay_62 ?_
        refine lv_iload_n hx hb dX5_underWay_65 rfl (lv_at hl 1 rfl) ?_
        have nz160 : vp_in z155 8 := (vp_i rfl (by omega) (by omega))
        refine va_iald hx hb hK hP 3 1 rfl rfl nz160 dX5_underWay_66 ?_
        refine lv_topi (fun z160 ez160 => ?_)
        have tz160 := i_s_clean.at ez160 nz160
        refine lv_isub hx hb dX5_underWay_67 ?_
        refine lv_topi (fun z161 ez161 => ?_)
        have tz161 := ti_sub (a := z159.toInt) (b := z160.toInt) ez161 rfl rfl (by omega) (by omega)
        have w162 : -40 ≤ z161.toInt := by first | omega | assumption
        have w163 : z161.toInt ≤ 40 := by first | omega | assumption
        exact W.iret (v := z161) hx hb hr (fun t ht hW => ⟨⟨z161, (), rfl, ⟨w162, w163⟩, cE.of ht hP hD [0, 1, 2, 3, 4, 5, 6, 7] (by decide) rfl⟩, hS.F ht⟩) hS.2.2 dX5_underWay_68
      · have c158 := i_eq (a := x2.toInt) (b := 0) c158 rfl (by decide)
        refine lv_aload_n hx hb dX5_underWay_37 rfl (lv_at hl 2 rfl) ?_
        refine va_get (D := (dC, dI)) (ci := 5) (v := .ref (sd 1)) (C := RX5) (T := TX5) (N := 13) hx hb hts hi5 hown hK hP 0 rfl rfl 1 (by decide) (hts _ (ow_m (k := 3) rfl)) (fun _ h9 => h9) rfl dX5_underWay_38 ?_
        refine lv_iload_n hx hb dX5_underWay_41 rfl (lv_at hl 1 rfl) ?_
        have nz164 : vp_in z155 8 := (vp_i rfl (by omega) (by omega))
        refine va_iald hx hb hK hP 2 1 rfl rfl nz164 dX5_underWay_42 ?_
        refine lv_topi (fun z164 ez164 => ?_)
        have tz164 := i_s_has.at ez164 nz164
        refine lv_aload_n hx hb dX5_underWay_43 rfl (lv_at hl 2 rfl) ?_
        refine va_get (D := (dC, dI)) (ci := 5) (v := .ref (sd 1)) (C := RX5) (T := TX5) (N := 13) hx hb hts hi5 hown hK hP 0 rfl rfl 1 (by decide) (hts _ (ow_m (k := 3) rfl)) (fun _ h9 => h9) rfl dX5_underWay_44 ?_
        refine lv_iload hx hb dX5_underWay_47 (lv_at hl 0 rfl) ?_
        have nz165 : vp_in z157 8 := (vp_i rfl (by omega) (by omega))
        refine va_iald hx hb hK hP 2 1 rfl rfl nz165 dX5_underWay_49 ?_
        refine lv_topi (fun z165 ez165 => ?_)
        have tz165 := i_s_has.at ez165 nz165
        refine lv_isub hx hb dX5_underWay_50 ?_
        refine lv_topi (fun z166 ez166 => ?_)
        have tz166 := ti_sub (a := z164.toInt) (b := z165.toInt) ez166 rfl rfl (by omega) (by omega)
        refine lv_goto (tgt := 68) hx hb dX5_underWay_51 (by decide) ?_
        have w167 : -40 ≤ z166.toInt := by first | omega | assumption
        have w168 : z166.toInt ≤ 40 := by first | omega | assumption
        exact W.iret (v := z166) hx hb hr (fun t ht hW => ⟨⟨z166, (), rfl, ⟨w167, w168⟩, cE.of ht hP hD [0, 1, 2, 3, 4, 5, 6, 7] (by decide) rfl⟩, hS.F ht⟩) hS.2.2 dX5_underWay_68
    · have c154 := i_nlt (a := z153.toInt) (b := s_size.toInt) c154 rfl rfl
      refine lv_iconst (v := 0) hx hb dX5_underWay_14 (by decide) ?_
      have w169 : -40 ≤ (0 : Int32).toInt := by decide
      have w170 : (0 : Int32).toInt ≤ 40 := by decide
      exact W.iret (v := 0) hx hb hr (fun t ht hW => ⟨⟨0, (), rfl, ⟨w169, w170⟩, cE.of ht hP hD [0, 1, 2, 3, 4, 5, 6, 7] (by decide) rfl⟩, hS.F ht⟩) hS.2.2 dX5_underWay_15
def wo_k_St_allUnderWay : List Cond := [.fieldLink RX5 42 "ReplicaChain$State" "size" "I", .methodLink RX5 69 yX5_underWay, .instanceMethod yX5_underWay, .selects RX5 yX5_underWay yX5_underWay, .initialized RX5]
def wq_k_St_allUnderWay : List Cond := .code yX5_allUnderWay cX5_allUnderWay 3 (some .int) :: (wo_k_St_allUnderWay ++ (wq_k_St_underWay ++ (wsX50 ++ [])))
theorem gd_k_St_allUnderWay : Gd wq_k_St_allUnderWay := gd_c (gd_a (gd_o (by decide +kernel)) (gd_a gd_k_St_underWay (gd_a gd_u gd_0)))
abbrev wc_k_St_allUnderWay (cyB cyI cyJ cyZ cyO : ClassId) (hs : Nat) (sd : Nat → Nat) (s_row : Nat → Int32) (s_has : Nat → Int32) (s_clean : Nat → Int32) (s_dn : Nat → Int32) (s_up : Nat → Int32) (s_ks : Nat → Int32) (s_vs : Nat → Int32) (s_size : Int32) (s_copier : Int32) (s_copyLeft : Int32) (s_tick : Int32) (s_seed : Int32) (s_dropped : Int32) : va_W := [(hs, .inr (5, [.ref (sd 0), .ref (sd 1), .ref (sd 2), .ref (sd 3), .ref (sd 4), .ref (sd 5), .ref (sd 6), .int s_size, .int s_copier, .int s_copyLeft, .int s_tick, .int s_seed, .int s_dropped])), (sd 0, .inl (cyI, 6, .inl s_row)), (sd 1, .inl (cyI, 8, .inl s_has)), (sd 2, .inl (cyI, 8, .inl s_clean)), (sd 3, .inl (cyI, 328, .inl s_dn)), (sd 4, .inl (cyI, 328, .inl s_up)), (sd 5, .inl (cyI, 41, .inl s_ks)), (sd 6, .inl (cyI, 41, .inl s_vs))]
set_option maxHeartbeats 4000000 in
set_option maxRecDepth 100000 in
theorem k_St_allUnderWay (l : Launch) (dC : Nat → ClassId) (dI : Nat → Nat → Nat) (cyB cyI cyJ cyZ cyO : ClassId) (hs : Nat) (sd : Nat → Nat) (s_row : Nat → Int32) (s_has : Nat → Int32) (s_clean : Nat → Int32) (s_dn : Nat → Int32) (s_up : Nat → Int32) (s_ks : Nat → Int32) (s_vs : Nat → Int32) (s_size : Int32) (s_copier : Int32) (s_copyLeft : Int32) (s_tick : Int32) (s_seed : Int32) (s_dropped : Int32) (sz : Nat) (l_s_size : 0 ≤ s_size.toInt) (u_s_size : s_size.toInt ≤ 6) (l_s_copier : -1 ≤ s_copier.toInt) (u_s_copier : s_copier.toInt ≤ 7) (l_s_seed : 0 ≤ s_seed.toInt) (u_s_seed : s_seed.toInt ≤ 999) (i_s_row : In s_row 6 (0) (7)) (i_s_has : In s_has 8 (0) (40)) (i_s_clean : In s_clean 8 (0) (40)) : Met l yX5_allUnderWay wq_k_St_allUnderWay ({ frames := 1, cells := 0, slots := 0, locals := 24 }) (va_Pc [.ref hs] (cB (dC, dI) (kT cyB cyI cyJ cyZ cyO) (wc_k_St_allUnderWay cyB cyI cyJ cyZ cyO hs sd s_row s_has s_clean s_dn s_up s_ks s_vs s_size s_copier s_copyLeft s_tick s_seed s_dropped) sz)) (va_Qi (fun (r : Int32) (u : Unit) => True) (fun (u : Unit) t => cE (dC, dI) (va_A (wc_k_St_allUnderWay cyB cyI cyJ cyZ cyO hs sd s_row s_has s_clean s_dn s_up s_ks s_vs s_size s_copier s_copyLeft s_tick s_seed s_dropped) sz) ([(hs, .inr (5, [.ref (sd 0), .ref (sd 1), .ref (sd 2), .ref (sd 3), .ref (sd 4), .ref (sd 5), .ref (sd 6), .int s_size, .int s_copier, .int s_copyLeft, .int s_tick, .int s_seed, .int s_dropped])), (sd 0, .inl (cyI, 6, .inl s_row)), (sd 1, .inl (cyI, 8, .inl s_has)), (sd 2, .inl (cyI, 8, .inl s_clean)), (sd 3, .inl (cyI, 328, .inl s_dn)), (sd 4, .inl (cyI, 328, .inl s_up)), (sd 5, .inl (cyI, 41, .inl s_ks)), (sd 6, .inl (cyI, 41, .inl s_vs))]) t.heap) (va_A (wc_k_St_allUnderWay cyB cyI cyJ cyZ cyO hs sd s_row s_has s_clean s_dn s_up s_ks s_vs s_size s_copier s_copyLeft s_tick s_seed s_dropped) sz)) 0 0 (va_A (wc_k_St_allUnderWay cyB cyI cyJ cyZ cyO hs sd s_row s_has s_clean s_dn s_up s_ks s_vs s_size s_copier s_copyLeft s_tick s_seed s_dropped) sz) := by
  refine Met.ofW (cc := cX5_allUnderWay) (maxL := 3) (ret := (some .int)) (by decide) rfl ?_
  intro p e s m args below meth c s₁ B hml hv
  obtain ⟨rfl, hsz, hP, hKN, hD0⟩ := hv
  have hx := B.exec
  have hb := B.bytes
  have hr := B.returns
  have hts := atoms_spec (ws := wq_k_St_allUnderWay) B.pre
  have hown : s.vm.findClass RX5 = some m.cls := findClass_of_methodNamed B.named
  have hlocks := B.notSynchronized
  have hK := hKN.1
  have hfix : CallFix p m c cX5_allUnderWay 3 s [.ref hs].toArray wq_k_St_allUnderWay RX5 := ⟨hx, hb, hml, hown, hts⟩
  have hi5 : ∀ w ∈ wsX50, w ∈ wq_k_St_allUnderWay := (sb_c (sb_r sb_l))
  subst hsz
  have hD := hD0.self (sz := s.heap.size)
  generalize hAe : va_A (wc_k_St_allUnderWay cyB cyI cyJ cyZ cyO hs sd s_row s_has s_clean s_dn s_up s_ks s_vs s_size s_copier s_copyLeft s_tick s_seed s_dropped) s.heap.size = A at hD ⊢
  have hA : ∀ q : Nat, s.heap.size ≤ q → A q := fun q h => by rw [← hAe]; exact Or.inr h
  have hS : va_S A s.heap s.heap [] := va_S.rf
  have hl := lv_entry ([.ref hs]) (n := 3) (Nat.le_of_ble_eq_true rfl)
  rw [lg_entry_eq]
  generalize (lg_sl ([.ref hs]) ++ List.replicate (3 - (lg_sl ([.ref hs])).length) Slot.unset).toArray = ls at hl ⊢
  have hl : lv_has ls 3 [(0, .ref hs)] := hl
  refine lv_iconst (v := 0) hx hb dX5_allUnderWay_0 (by decide) ?_
  refine lv_istore_n (lv' := [(1, .int 0), (0, .ref hs)]) hx hb dX5_allUnderWay_1 rfl hl (by decide) rfl (fun ls hl => ?_)
  refine lv_iconst (v := 0) hx hb dX5_allUnderWay_2 (by decide) ?_
  refine lv_istore_n (lv' := [(2, .int 0), (1, .int 0), (0, .ref hs)]) hx hb dX5_allUnderWay_3 rfl hl (by decide) rfl (fun ls hl => ?_)
  refine w_gen (fun H locs ls hP hS hl => ?_) hP hS hl
  have k173 : (0 : Int32).toInt = 0 := by decide
  have k175 : (0 : Int32).toInt = 0 := by decide
  obtain ⟨v172, v174, hl2, hP2, hD2, b176, b177⟩ : ∃ (v172 : Int32) (v174 : Int32), lv_has ls 3 [(2, .int v174), (1, .int v172), (0, .ref hs)] ∧ va_P (dC, dI) vwCl [(hs, .inr (5, [.ref (sd 0), .ref (sd 1), .ref (sd 2), .ref (sd 3), .ref (sd 4), .ref (sd 5), .ref (sd 6), .int s_size, .int s_copier, .int s_copyLeft, .int s_tick, .int s_seed, .int s_dropped])), (sd 0, .inl (cyI, 6, .inl s_row)), (sd 1, .inl (cyI, 8, .inl s_has)), (sd 2, .inl (cyI, 8, .inl s_clean)), (sd 3, .inl (cyI, 328, .inl s_dn)), (sd 4, .inl (cyI, 328, .inl s_up)), (sd 5, .inl (cyI, 41, .inl s_ks)), (sd 6, .inl (cyI, 41, .inl s_vs))] H ∧ va_D A [(hs, .inr (5, [.ref (sd 0), .ref (sd 1), .ref (sd 2), .ref (sd 3), .ref (sd 4), .ref (sd 5), .ref (sd 6), .int s_size, .int s_copier, .int s_copyLeft, .int s_tick, .int s_seed, .int s_dropped])), (sd 0, .inl (cyI, 6, .inl s_row)), (sd 1, .inl (cyI, 8, .inl s_has)), (sd 2, .inl (cyI, 8, .inl s_clean)), (sd 3, .inl (cyI, 328, .inl s_dn)), (sd 4, .inl (cyI, 328, .inl s_up)), (sd 5, .inl (cyI, 41, .inl s_ks)), (sd 6, .inl (cyI, 41, .inl s_vs))] ∧ 0 ≤ v174.toInt ∧ v174.toInt ≤ 6 := ⟨0, 0, hl, hP, hD, by first | omega | assumption, by first | omega | assumption⟩
  clear hP hl
  have hP := hP2
  have hD := hD2
  have hl := hl2
  clear hP2 hD2 hl2
  obtain ⟨n178, hn178⟩ : ∃ n : Nat, 6 - v174.toInt < (n : Int) := ⟨(6 - v174.toInt).toNat + 1, by omega⟩
  induction n178 generalizing v172 v174 H locs ls with
  | zero => exfalso; omega
  | succ n178 ih171 =>
    refine lv_iload_n hx hb dX5_allUnderWay_4 rfl (lv_at hl 0 rfl) ?_
    refine lv_aload_n hx hb dX5_allUnderWay_5 rfl (lv_at hl 2 rfl) ?_
    refine va_get (D := (dC, dI)) (ci := 5) (v := .int s_size) (C := RX5) (T := TX5) (N := 13) hx hb hts hi5 hown hK hP 0 rfl rfl 7 (by decide) (hts _ (ow_m (k := 0) rfl)) (fun _ h9 => h9) rfl dX5_allUnderWay_6 ?_
    refine lv_iconst (v := 1) hx hb dX5_allUnderWay_9 (by decide) ?_
    refine lv_isub hx hb dX5_allUnderWay_10 ?_
    refine lv_topi (fun z179 ez179 => ?_)
    have tz179 := ti_sub (a := s_size.toInt) (b := 1) ez179 rfl (by decide) (by omega) (by omega)
    refine lv_icmp_ge (tgt := 36) hx hb dX5_allUnderWay_11 (by decide) (fun c180 => ?_) (fun c180 => ?_)
    · have c180 := i_le (a := z179.toInt) (b := v174.toInt) c180 rfl rfl
      refine lv_iload_n hx hb dX5_allUnderWay_36 rfl (lv_at hl 1 rfl) ?_
      exact W.iret (v := v172) hx hb hr (fun t ht hW => ⟨⟨v172, (), rfl, trivial, cE.of ht hP hD [0, 1, 2, 3, 4, 5, 6, 7] (by decide) rfl⟩, hS.F ht⟩) hS.2.2 dX5_allUnderWay_37
    · have c180 := i_nle (a := z179.toInt) (b := v174.toInt) c180 rfl rfl
      refine lv_iload_n hx hb dX5_allUnderWay_14 rfl (lv_at hl 1 rfl) ?_
      refine lv_aload_n hx hb dX5_allUnderWay_15 rfl (lv_at hl 2 rfl) ?_
      refine lv_iload_n hx hb dX5_allUnderWay_16 rfl (lv_at hl 0 rfl) ?_
      refine lv_iconst (v := 0) hx hb dX5_allUnderWay_17 (by decide) ?_
      refine gf_i (wr := []) (va_runV (As := [.int v174, .int 0]) (rest := [.int v172]) hfix (k_St_underWay l dC dI cyB cyI cyJ cyZ cyO hs sd s_row s_has s_clean s_dn s_up s_ks s_vs s_size s_copier s_copyLeft s_tick s_seed s_dropped v174 0 _ (by first | omega | assumption) (by first | omega | assumption) (by first | omega | assumption) (by first | omega | assumption) (by first | omega | assumption) (by first | omega | assumption) i_s_row i_s_has i_s_clean (by first | omega | assumption) (by first | omega | assumption)) (cwV 2 hts (gi_V (ow_m (k := 1) rfl) (ow_m (k := 2) rfl) (ow_m (k := 3) rfl) (ow_m (k := 4) rfl) (sb_c sb_l) gd_k_St_underWay) rfl rfl rfl (by decide +kernel) ⟨Nat.le_of_ble_eq_true rfl, Nat.le_of_ble_eq_true rfl⟩) (g_preV hKN hP hD [0, 1, 2, 3, 4, 5, 6, 7] rfl (by decide) 0 5 rfl rfl) rfl rfl hl.1 rfl (lv_room (Nat.le_of_ble_eq_true rfl)) dX5_allUnderWay_18 ⟨Nat.le_of_ble_eq_true rfl, Nat.le_of_ble_eq_true rfl⟩) hP hD hS hA [0, 1, 2, 3, 4, 5, 6, 7] [] rfl rfl (by decide) (by decide) (fun r181 u182 H locs qu182 hP hD hS => ?_)
      obtain ⟨b183, b184⟩ := qu182
      have hP : va_P (dC, dI) vwCl [(hs, .inr (5, [.ref (sd 0), .ref (sd 1), .ref (sd 2), .ref (sd 3), .ref (sd 4), .ref (sd 5), .ref (sd 6), .int s_size, .int s_copier, .int s_copyLeft, .int s_tick, .int s_seed, .int s_dropped])), (sd 0, .inl (cyI, 6, .inl s_row)), (sd 1, .inl (cyI, 8, .inl s_has)), (sd 2, .inl (cyI, 8, .inl s_clean)), (sd 3, .inl (cyI, 328, .inl s_dn)), (sd 4, .inl (cyI, 328, .inl s_up)), (sd 5, .inl (cyI, 41, .inl s_ks)), (sd 6, .inl (cyI, 41, .inl s_vs))] H := hP
      have hD : va_D A [(hs, .inr (5, [.ref (sd 0), .ref (sd 1), .ref (sd 2), .ref (sd 3), .ref (sd 4), .ref (sd 5), .ref (sd 6), .int s_size, .int s_copier, .int s_copyLeft, .int s_tick, .int s_seed, .int s_dropped])), (sd 0, .inl (cyI, 6, .inl s_row)), (sd 1, .inl (cyI, 8, .inl s_has)), (sd 2, .inl (cyI, 8, .inl s_clean)), (sd 3, .inl (cyI, 328, .inl s_dn)), (sd 4, .inl (cyI, 328, .inl s_up)), (sd 5, .inl (cyI, 41, .inl s_ks)), (sd 6, .inl (cyI, 41, .inl s_vs))] := hD
      refine lv_aload_n hx hb dX5_allUnderWay_21 rfl (lv_at hl 2 rfl) ?_
      refine lv_iload_n hx hb dX5_allUnderWay_22 rfl (lv_at hl 0 rfl) ?_
      refine lv_iconst (v := 1) hx hb dX5_allUnderWay_23 (by decide) ?_
      refine gf_i (wr := []) (va_runV (As := [.int v174, .int 1]) (rest := [.int r181, .int v172]) hfix (k_St_underWay l dC dI cyB cyI cyJ cyZ cyO hs sd s_row s_has s_clean s_dn s_up s_ks s_vs s_size s_copier s_copyLeft s_tick s_seed s_dropped v174 1 _ (by first | omega | assumption) (by first | omega | assumption) (by first | omega | assumption) (by first | omega | assumption) (by first | omega | assumption) (by first | omega | assumption) i_s_row i_s_has i_s_clean (by first | omega | assumption) (by first | omega | assumption)) (cwV 2 hts (gi_V (ow_m (k := 1) rfl) (ow_m (k := 2) rfl) (ow_m (k := 3) rfl) (ow_m (k := 4) rfl) (sb_c sb_l) gd_k_St_underWay) rfl rfl rfl (by decide +kernel) ⟨Nat.le_of_ble_eq_true rfl, Nat.le_of_ble_eq_true rfl⟩) (g_preV hKN hP hD [0, 1, 2, 3, 4, 5, 6, 7] rfl (by decide) 0 5 rfl rfl) rfl rfl hl.1 rfl (lv_room (Nat.le_of_ble_eq_true rfl)) dX5_allUnderWay_24 ⟨Nat.le_of_ble_eq_true rfl, Nat.le_of_ble_eq_true rfl⟩) hP hD hS hA [0, 1, 2, 3, 4, 5, 6, 7] [] rfl rfl (by decide) (by decide) (fun r185 u186 H locs qu186 hP hD hS => ?_)
      obtain ⟨b187, b188⟩ := qu186
      have hP : va_P (dC, dI) vwCl [(hs, .inr (5, [.ref (sd 0), .ref (sd 1), .ref (sd 2), .ref (sd 3), .ref (sd 4), .ref (sd 5), .ref (sd 6), .int s_size, .int s_copier, .int s_copyLeft, .int s_tick, .int s_seed, .int s_dropped])), (sd 0, .inl (cyI, 6, .inl s_row)), (sd 1, .inl (cyI, 8, .inl s_has)), (sd 2, .inl (cyI, 8, .inl s_clean)), (sd 3, .inl (cyI, 328, .inl s_dn)), (sd 4, .inl (cyI, 328, .inl s_up)), (sd 5, .inl (cyI, 41, .inl s_ks)), (sd 6, .inl (cyI, 41, .inl s_vs))] H := hP
      have hD : va_D A [(hs, .inr (5, [.ref (sd 0), .ref (sd 1), .ref (sd 2), .ref (sd 3), .ref (sd 4), .ref (sd 5), .ref (sd 6), .int s_size, .int s_copier, .int s_copyLeft, .int s_tick, .int s_seed, .int s_dropped])), (sd 0, .inl (cyI, 6, .inl s_row)), (sd 1, .inl (cyI, 8, .inl s_has)), (sd 2, .inl (cyI, 8, .inl s_clean)), (sd 3, .inl (cyI, 328, .inl s_dn)), (sd 4, .inl (cyI, 328, .inl s_up)), (sd 5, .inl (cyI, 41, .inl s_ks)), (sd 6, .inl (cyI, 41, .inl s_vs))] := hD
      refine lv_iadd hx hb dX5_allUnderWay_27 ?_
      refine lv_topi (fun z189 ez189 => ?_)
      have tz189 := ti_add (a := r181.toInt) (b := r185.toInt) ez189 rfl rfl (by omega) (by omega)
      refine lv_iadd hx hb dX5_allUnderWay_28 ?_
      refine lv_topi (fun z190 ez190 => ?_)
      refine lv_istore_n (lv' := [(1, .int z190), (2, .int v174), (0, .ref hs)]) hx hb dX5_allUnderWay_29 rfl hl (by decide) rfl (fun ls hl => ?_)
      obtain ⟨z191, ez191⟩ : ∃ y : Int32, y = v174 + 1 := ⟨_, rfl⟩
      have tz191 := ti_add (a := v174.toInt) (b := 1) ez191 rfl (by decide) (by omega) (by omega)
      refine lv_iinc (v := z191) (lv' := [(2, .int z191), (1, .int z190), (0, .ref hs)]) hx hb dX5_allUnderWay_30 hl (k := 1) rfl (by rw [ez191]; rfl) (by decide) rfl (fun ls hl => ?_)
      refine lv_goto (tgt := 4) hx hb dX5_allUnderWay_33 (by decide) ?_
      have hl := lv_sub (l' := [(2, .int z191), (1, .int z190), (0, .ref hs)]) hl [0, 1, 2] rfl
      apply ih171 (v172 := z190) (v174 := z191) (H := H) (locs := locs) (ls := ls) <;> first | assumption | omega
def wo_k_St_latestUpTo : List Cond := [.methodLink RX5 76 Lib.Math.min.name, .static Lib.Math.min.name, .initialized "java/lang/Math", .code Lib.Math.min.name Lib.Math.min.code 2 (some .int), .fieldLink RX5 27 "ReplicaChain$State" "keys" "[I"]
def wq_k_St_latestUpTo : List Cond := .code yX5_latestUpTo cX5_latestUpTo 4 (some .int) :: (wo_k_St_latestUpTo ++ (wsX50 ++ []))
theorem gd_k_St_latestUpTo : Gd wq_k_St_latestUpTo := gd_c (gd_a (gd_o (by decide +kernel)) (gd_a gd_u gd_0))
abbrev wc_k_St_latestUpTo (cyB cyI cyJ cyZ cyO : ClassId) (hs : Nat) (sd : Nat → Nat) (s_row : Nat → Int32) (s_has : Nat → Int32) (s_clean : Nat → Int32) (s_dn : Nat → Int32) (s_up : Nat → Int32) (s_ks : Nat → Int32) (s_vs : Nat → Int32) (s_size : Int32) (s_copier : Int32) (s_copyLeft : Int32) (s_tick : Int32) (s_seed : Int32) (s_dropped : Int32) (x1 : Int32) (x2 : Int32) : va_W := [(hs, .inr (5, [.ref (sd 0), .ref (sd 1), .ref (sd 2), .ref (sd 3), .ref (sd 4), .ref (sd 5), .ref (sd 6), .int s_size, .int s_copier, .int s_copyLeft, .int s_tick, .int s_seed, .int s_dropped])), (sd 0, .inl (cyI, 6, .inl s_row)), (sd 1, .inl (cyI, 8, .inl s_has)), (sd 2, .inl (cyI, 8, .inl s_clean)), (sd 3, .inl (cyI, 328, .inl s_dn)), (sd 4, .inl (cyI, 328, .inl s_up)), (sd 5, .inl (cyI, 41, .inl s_ks)), (sd 6, .inl (cyI, 41, .inl s_vs))]
set_option maxHeartbeats 4000000 in
set_option maxRecDepth 100000 in
theorem k_St_latestUpTo (l : Launch) (dC : Nat → ClassId) (dI : Nat → Nat → Nat) (cyB cyI cyJ cyZ cyO : ClassId) (hs : Nat) (sd : Nat → Nat) (s_row : Nat → Int32) (s_has : Nat → Int32) (s_clean : Nat → Int32) (s_dn : Nat → Int32) (s_up : Nat → Int32) (s_ks : Nat → Int32) (s_vs : Nat → Int32) (s_size : Int32) (s_copier : Int32) (s_copyLeft : Int32) (s_tick : Int32) (s_seed : Int32) (s_dropped : Int32) (x1 : Int32) (x2 : Int32) (sz : Nat) (l_s_size : 0 ≤ s_size.toInt) (u_s_size : s_size.toInt ≤ 6) (l_s_copier : -1 ≤ s_copier.toInt) (u_s_copier : s_copier.toInt ≤ 7) (l_s_seed : 0 ≤ s_seed.toInt) (u_s_seed : s_seed.toInt ≤ 999) (i_s_row : In s_row 6 (0) (7)) (i_s_has : In s_has 8 (0) (40)) (i_s_clean : In s_clean 8 (0) (40)) : Met l yX5_latestUpTo wq_k_St_latestUpTo ({ frames := 1, cells := 0, slots := 0, locals := 24 }) (va_Pc [.ref hs, .int x1, .int x2] (cB (dC, dI) (kT cyB cyI cyJ cyZ cyO) (wc_k_St_latestUpTo cyB cyI cyJ cyZ cyO hs sd s_row s_has s_clean s_dn s_up s_ks s_vs s_size s_copier s_copyLeft s_tick s_seed s_dropped x1 x2) sz)) (va_Qi (fun (r : Int32) (u : Unit) => 0 ≤ r.toInt ∧ r.toInt ≤ 40) (fun (u : Unit) t => cE (dC, dI) (va_A (wc_k_St_latestUpTo cyB cyI cyJ cyZ cyO hs sd s_row s_has s_clean s_dn s_up s_ks s_vs s_size s_copier s_copyLeft s_tick s_seed s_dropped x1 x2) sz) ([(hs, .inr (5, [.ref (sd 0), .ref (sd 1), .ref (sd 2), .ref (sd 3), .ref (sd 4), .ref (sd 5), .ref (sd 6), .int s_size, .int s_copier, .int s_copyLeft, .int s_tick, .int s_seed, .int s_dropped])), (sd 0, .inl (cyI, 6, .inl s_row)), (sd 1, .inl (cyI, 8, .inl s_has)), (sd 2, .inl (cyI, 8, .inl s_clean)), (sd 3, .inl (cyI, 328, .inl s_dn)), (sd 4, .inl (cyI, 328, .inl s_up)), (sd 5, .inl (cyI, 41, .inl s_ks)), (sd 6, .inl (cyI, 41, .inl s_vs))]) t.heap) (va_A (wc_k_St_latestUpTo cyB cyI cyJ cyZ cyO hs sd s_row s_has s_clean s_dn s_up s_ks s_vs s_size s_copier s_copyLeft s_tick s_seed s_dropped x1 x2) sz)) 0 0 (va_A (wc_k_St_latestUpTo cyB cyI cyJ cyZ cyO hs sd s_row s_has s_clean s_dn s_up s_ks s_vs s_size s_copier s_copyLeft s_tick s_seed s_dropped x1 x2) sz) := by
  refine Met.ofW (cc := cX5_latestUpTo) (maxL := 4) (ret := (some .int)) (by decide) rfl ?_
  intro p e s m args below meth c s₁ B hml hv
  obtain ⟨rfl, hsz, hP, hKN, hD0⟩ := hv
  have hx := B.exec
  have hb := B.bytes
  have hr := B.returns
  have hts := atoms_spec (ws := wq_k_St_latestUpTo) B.pre
  have hown : s.vm.findClass RX5 = some m.cls := findClass_of_methodNamed B.named
  have hlocks := B.notSynchronized
  have hK := hKN.1
  have hfix : CallFix p m c cX5_latestUpTo 4 s [.ref hs, .int x1, .int x2].toArray wq_k_St_latestUpTo RX5 := ⟨hx, hb, hml, hown, hts⟩
  have hi5 : ∀ w ∈ wsX50, w ∈ wq_k_St_latestUpTo := (sb_c sb_l)
  subst hsz
  have hD := hD0.self (sz := s.heap.size)
  generalize hAe : va_A (wc_k_St_latestUpTo cyB cyI cyJ cyZ cyO hs sd s_row s_has s_clean s_dn s_up s_ks s_vs s_size s_copier s_copyLeft s_tick s_seed s_dropped x1 x2) s.heap.size = A at hD ⊢
  have hA : ∀ q : Nat, s.heap.size ≤ q → A q := fun q h => by rw [← hAe]; exact Or.inr h
  have hS : va_S A s.heap s.heap [] := va_S.rf
  have hl := lv_entry ([.ref hs, .int x1, .int x2]) (n := 4) (Nat.le_of_ble_eq_true rfl)
  rw [lg_entry_eq]
  generalize (lg_sl ([.ref hs, .int x1, .int x2]) ++ List.replicate (4 - (lg_sl ([.ref hs, .int x1, .int x2])).length) Slot.unset).toArray = ls at hl ⊢
  have hl : lv_has ls 4 [(0, .ref hs), (1, .int x1), (2, .int x2)] := hl
  refine lv_iload_n hx hb dX5_latestUpTo_0 rfl (lv_at hl 2 rfl) ?_
  refine lv_bipush (v := 40) hx hb dX5_latestUpTo_1 (by decide) ?_
  refine va_mmin hx hb (hml.trans hl.1.symm) hown (hts _ (ow_m (k := 0) rfl)) (hts _ (ow_m (k := 1) rfl)) (hts _ (ow_m (k := 2) rfl)) (hts _ (ow_m (k := 3) rfl)) (Nat.le_of_ble_eq_true rfl) (Nat.le_of_ble_eq_true rfl) (Nat.le_of_ble_eq_true rfl) (Nat.le_of_ble_eq_true rfl) dX5_latestUpTo_3 ?_
  refine lv_topi (fun z192 ez192 => ?_)
  have tz192 := mm_min (a := x2.toInt) (b := 40) ez192 rfl (by decide)
  refine lv_istore_n (lv' := [(3, .int z192), (0, .ref hs), (1, .int x1), (2, .int x2)]) hx hb dX5_latestUpTo_6 rfl hl (by decide) rfl (fun ls hl => ?_)
  refine w_gen (fun H locs ls hP hS hl => ?_) hP hS hl
  obtain ⟨v194, hl2, hP2, hD2, b195⟩ : ∃ (v194 : Int32), lv_has ls 4 [(3, .int v194), (0, .ref hs), (1, .int x1), (2, .int x2)] ∧ va_P (dC, dI) vwCl [(hs, .inr (5, [.ref (sd 0), .ref (sd 1), .ref (sd 2), .ref (sd 3), .ref (sd 4), .ref (sd 5), .ref (sd 6), .int s_size, .int s_copier, .int s_copyLeft, .int s_tick, .int s_seed, .int s_dropped])), (sd 0, .inl (cyI, 6, .inl s_row)), (sd 1, .inl (cyI, 8, .inl s_has)), (sd 2, .inl (cyI, 8, .inl s_clean)), (sd 3, .inl (cyI, 328, .inl s_dn)), (sd 4, .inl (cyI, 328, .inl s_up)), (sd 5, .inl (cyI, 41, .inl s_ks)), (sd 6, .inl (cyI, 41, .inl s_vs))] H ∧ va_D A [(hs, .inr (5, [.ref (sd 0), .ref (sd 1), .ref (sd 2), .ref (sd 3), .ref (sd 4), .ref (sd 5), .ref (sd 6), .int s_size, .int s_copier, .int s_copyLeft, .int s_tick, .int s_seed, .int s_dropped])), (sd 0, .inl (cyI, 6, .inl s_row)), (sd 1, .inl (cyI, 8, .inl s_has)), (sd 2, .inl (cyI, 8, .inl s_clean)), (sd 3, .inl (cyI, 328, .inl s_dn)), (sd 4, .inl (cyI, 328, .inl s_up)), (sd 5, .inl (cyI, 41, .inl s_ks)), (sd 6, .inl (cyI, 41, .inl s_vs))] ∧ v194.toInt ≤ 40 := ⟨z192, hl, hP, hD, by first | omega | assumption⟩
  clear hP hl
  have hP := hP2
  have hD := hD2
  have hl := hl2
  clear hP2 hD2 hl2
  obtain ⟨n196, hn196⟩ : ∃ n : Nat, max v194.toInt 0 < (n : Int) := ⟨(max v194.toInt 0).toNat + 1, by omega⟩
  induction n196 generalizing v194 H locs ls with
  | zero => exfalso; omega
  | succ n196 ih193 =>
    refine lv_iload_n hx hb dX5_latestUpTo_7 rfl (lv_at hl 0 rfl) ?_
    refine lv_if_le (tgt := 29) hx hb dX5_latestUpTo_8 (by decide) (fun c197 => ?_) (fun c197 => ?_)
    · have c197 := i_le (a := v194.toInt) (b := 0) c197 rfl (by decide)
      refine lv_iconst (v := 0) hx hb dX5_latestUpTo_29 (by decide) ?_
      have w198 : 0 ≤ (0 : Int32).toInt := by decide
      have w199 : (0 : Int32).toInt ≤ 40 := by decide
      exact W.iret (v := 0) hx hb hr (fun t ht hW => ⟨⟨0, (), rfl, ⟨w198, w199⟩, cE.of ht hP hD [0, 1, 2, 3, 4, 5, 6, 7] (by decide) rfl⟩, hS.F ht⟩) hS.2.2 dX5_latestUpTo_30
    · have c197 := i_nle (a := v194.toInt) (b := 0) c197 rfl (by decide)
      refine lv_aload_n hx hb dX5_latestUpTo_11 rfl (lv_at hl 1 rfl) ?_
      refine va_get (D := (dC, dI)) (ci := 5) (v := .ref (sd 5)) (C := RX5) (T := TX5) (N := 13) hx hb hts hi5 hown hK hP 0 rfl rfl 5 (by decide) (hts _ (ow_m (k := 4) rfl)) (fun _ h9 => h9) rfl dX5_latestUpTo_12 ?_
      refine lv_iload_n hx hb dX5_latestUpTo_15 rfl (lv_at hl 0 rfl) ?_
      have nz200 : vp_in v194 41 := (vp_i rfl (by omega) (by omega))
      refine va_iald hx hb hK hP 6 1 rfl rfl nz200 dX5_latestUpTo_16 ?_
      refine lv_topi (fun z200 ez200 => ?_)
      refine lv_iload_n hx hb dX5_latestUpTo_17 rfl (lv_at hl 2 rfl) ?_
      refine lv_icmp_ne (tgt := 23) hx hb dX5_latestUpTo_18 (by decide) (fun c201 => ?_) (fun c201 => ?_)
      · have c201 := i_ne (a := z200.toInt) (b := x1.toInt) c201 rfl rfl
        obtain ⟨z202, ez202⟩ : ∃ y : Int32, y = v194 + (-1) := ⟨_, rfl⟩
        have tz202 := ti_add (a := v194.toInt) (b := (-1)) ez202 rfl (by decide) (by omega) (by omega)
        refine lv_iinc (v := z202) (lv' := [(3, .int z202), (0, .ref hs), (1, .int x1), (2, .int x2)]) hx hb dX5_latestUpTo_23 hl (k := 0) rfl (by rw [ez202]; rfl) (by decide) rfl (fun ls hl => ?_)
        refine lv_goto (tgt := 7) hx hb dX5_latestUpTo_26 (by decide) ?_
        have hl := lv_sub (l' := [(3, .int z202), (0, .ref hs), (1, .int x1), (2, .int x2)]) hl [0, 1, 2, 3] rfl
        apply ih193 (v194 := z202) (H := H) (locs := locs) (ls := ls) <;> first | assumption | omega
      · have c201 := i_eq (a := z200.toInt) (b := x1.toInt) c201 rfl rfl
        refine lv_iload_n hx hb dX5_latestUpTo_21 rfl (lv_at hl 0 rfl) ?_
        have w203 : 0 ≤ v194.toInt := by first | omega | assumption
        have w204 : v194.toInt ≤ 40 := by first | omega | assumption
        exact W.iret (v := v194) hx hb hr (fun t ht hW => ⟨⟨v194, (), rfl, ⟨w203, w204⟩, cE.of ht hP hD [0, 1, 2, 3, 4, 5, 6, 7] (by decide) rfl⟩, hS.F ht⟩) hS.2.2 dX5_latestUpTo_22
def wo_k_St_valueUpTo : List Cond := [.methodLink RX5 81 yX5_latestUpTo, .instanceMethod yX5_latestUpTo, .selects RX5 yX5_latestUpTo yX5_latestUpTo, .initialized RX5, .fieldLink RX5 30 "ReplicaChain$State" "values" "[I"]
def wq_k_St_valueUpTo : List Cond := .code yX5_valueUpTo cX5_valueUpTo 4 (some .int) :: (wo_k_St_valueUpTo ++ (wq_k_St_latestUpTo ++ (wsX50 ++ [])))
theorem gd_k_St_valueUpTo : Gd wq_k_St_valueUpTo := gd_c (gd_a (gd_o (by decide +kernel)) (gd_a gd_k_St_latestUpTo (gd_a gd_u gd_0)))
abbrev wc_k_St_valueUpTo (cyB cyI cyJ cyZ cyO : ClassId) (hs : Nat) (sd : Nat → Nat) (s_row : Nat → Int32) (s_has : Nat → Int32) (s_clean : Nat → Int32) (s_dn : Nat → Int32) (s_up : Nat → Int32) (s_ks : Nat → Int32) (s_vs : Nat → Int32) (s_size : Int32) (s_copier : Int32) (s_copyLeft : Int32) (s_tick : Int32) (s_seed : Int32) (s_dropped : Int32) (x1 : Int32) (x2 : Int32) : va_W := [(hs, .inr (5, [.ref (sd 0), .ref (sd 1), .ref (sd 2), .ref (sd 3), .ref (sd 4), .ref (sd 5), .ref (sd 6), .int s_size, .int s_copier, .int s_copyLeft, .int s_tick, .int s_seed, .int s_dropped])), (sd 0, .inl (cyI, 6, .inl s_row)), (sd 1, .inl (cyI, 8, .inl s_has)), (sd 2, .inl (cyI, 8, .inl s_clean)), (sd 3, .inl (cyI, 328, .inl s_dn)), (sd 4, .inl (cyI, 328, .inl s_up)), (sd 5, .inl (cyI, 41, .inl s_ks)), (sd 6, .inl (cyI, 41, .inl s_vs))]
set_option maxHeartbeats 4000000 in
set_option maxRecDepth 100000 in
theorem k_St_valueUpTo (l : Launch) (dC : Nat → ClassId) (dI : Nat → Nat → Nat) (cyB cyI cyJ cyZ cyO : ClassId) (hs : Nat) (sd : Nat → Nat) (s_row : Nat → Int32) (s_has : Nat → Int32) (s_clean : Nat → Int32) (s_dn : Nat → Int32) (s_up : Nat → Int32) (s_ks : Nat → Int32) (s_vs : Nat → Int32) (s_size : Int32) (s_copier : Int32) (s_copyLeft : Int32) (s_tick : Int32) (s_seed : Int32) (s_dropped : Int32) (x1 : Int32) (x2 : Int32) (sz : Nat) (l_s_size : 0 ≤ s_size.toInt) (u_s_size : s_size.toInt ≤ 6) (l_s_copier : -1 ≤ s_copier.toInt) (u_s_copier : s_copier.toInt ≤ 7) (l_s_seed : 0 ≤ s_seed.toInt) (u_s_seed : s_seed.toInt ≤ 999) (i_s_row : In s_row 6 (0) (7)) (i_s_has : In s_has 8 (0) (40)) (i_s_clean : In s_clean 8 (0) (40)) : Met l yX5_valueUpTo wq_k_St_valueUpTo ({ frames := 2, cells := 0, slots := 0, locals := 47 }) (va_Pc [.ref hs, .int x1, .int x2] (cB (dC, dI) (kT cyB cyI cyJ cyZ cyO) (wc_k_St_valueUpTo cyB cyI cyJ cyZ cyO hs sd s_row s_has s_clean s_dn s_up s_ks s_vs s_size s_copier s_copyLeft s_tick s_seed s_dropped x1 x2) sz)) (va_Qi (fun (r : Int32) (u : Unit) => True) (fun (u : Unit) t => cE (dC, dI) (va_A (wc_k_St_valueUpTo cyB cyI cyJ cyZ cyO hs sd s_row s_has s_clean s_dn s_up s_ks s_vs s_size s_copier s_copyLeft s_tick s_seed s_dropped x1 x2) sz) ([(hs, .inr (5, [.ref (sd 0), .ref (sd 1), .ref (sd 2), .ref (sd 3), .ref (sd 4), .ref (sd 5), .ref (sd 6), .int s_size, .int s_copier, .int s_copyLeft, .int s_tick, .int s_seed, .int s_dropped])), (sd 0, .inl (cyI, 6, .inl s_row)), (sd 1, .inl (cyI, 8, .inl s_has)), (sd 2, .inl (cyI, 8, .inl s_clean)), (sd 3, .inl (cyI, 328, .inl s_dn)), (sd 4, .inl (cyI, 328, .inl s_up)), (sd 5, .inl (cyI, 41, .inl s_ks)), (sd 6, .inl (cyI, 41, .inl s_vs))]) t.heap) (va_A (wc_k_St_valueUpTo cyB cyI cyJ cyZ cyO hs sd s_row s_has s_clean s_dn s_up s_ks s_vs s_size s_copier s_copyLeft s_tick s_seed s_dropped x1 x2) sz)) 0 0 (va_A (wc_k_St_valueUpTo cyB cyI cyJ cyZ cyO hs sd s_row s_has s_clean s_dn s_up s_ks s_vs s_size s_copier s_copyLeft s_tick s_seed s_dropped x1 x2) sz) := by
  refine Met.ofW (cc := cX5_valueUpTo) (maxL := 4) (ret := (some .int)) (by decide) rfl ?_
  intro p e s m args below meth c s₁ B hml hv
  obtain ⟨rfl, hsz, hP, hKN, hD0⟩ := hv
  have hx := B.exec
  have hb := B.bytes
  have hr := B.returns
  have hts := atoms_spec (ws := wq_k_St_valueUpTo) B.pre
  have hown : s.vm.findClass RX5 = some m.cls := findClass_of_methodNamed B.named
  have hlocks := B.notSynchronized
  have hK := hKN.1
  have hfix : CallFix p m c cX5_valueUpTo 4 s [.ref hs, .int x1, .int x2].toArray wq_k_St_valueUpTo RX5 := ⟨hx, hb, hml, hown, hts⟩
  have hi5 : ∀ w ∈ wsX50, w ∈ wq_k_St_valueUpTo := (sb_c (sb_r sb_l))
  subst hsz
  have hD := hD0.self (sz := s.heap.size)
  generalize hAe : va_A (wc_k_St_valueUpTo cyB cyI cyJ cyZ cyO hs sd s_row s_has s_clean s_dn s_up s_ks s_vs s_size s_copier s_copyLeft s_tick s_seed s_dropped x1 x2) s.heap.size = A at hD ⊢
  have hA : ∀ q : Nat, s.heap.size ≤ q → A q := fun q h => by rw [← hAe]; exact Or.inr h
  have hS : va_S A s.heap s.heap [] := va_S.rf
  have hl := lv_entry ([.ref hs, .int x1, .int x2]) (n := 4) (Nat.le_of_ble_eq_true rfl)
  rw [lg_entry_eq]
  generalize (lg_sl ([.ref hs, .int x1, .int x2]) ++ List.replicate (4 - (lg_sl ([.ref hs, .int x1, .int x2])).length) Slot.unset).toArray = ls at hl ⊢
  have hl : lv_has ls 4 [(0, .ref hs), (1, .int x1), (2, .int x2)] := hl
  refine lv_aload_n hx hb dX5_valueUpTo_0 rfl (lv_at hl 0 rfl) ?_
  refine lv_iload_n hx hb dX5_valueUpTo_1 rfl (lv_at hl 1 rfl) ?_
  refine lv_iload_n hx hb dX5_valueUpTo_2 rfl (lv_at hl 2 rfl) ?_
  refine gf_i (wr := []) (va_runV (As := [.int x1, .int x2]) (rest := []) hfix (k_St_latestUpTo l dC dI cyB cyI cyJ cyZ cyO hs sd s_row s_has s_clean s_dn s_up s_ks s_vs s_size s_copier s_copyLeft s_tick s_seed s_dropped x1 x2 _ (by first | omega | assumption) (by first | omega | assumption) (by first | omega | assumption) (by first | omega | assumption) (by first | omega | assumption) (by first | omega | assumption) i_s_row i_s_has i_s_clean) (cwV 2 hts (gi_V (ow_m (k := 0) rfl) (ow_m (k := 1) rfl) (ow_m (k := 2) rfl) (ow_m (k := 3) rfl) (sb_c sb_l) gd_k_St_latestUpTo) rfl rfl rfl (by decide +kernel) ⟨Nat.le_of_ble_eq_true rfl, Nat.le_of_ble_eq_true rfl⟩) (g_preV hKN hP hD [0, 1, 2, 3, 4, 5, 6, 7] rfl (by decide) 0 5 rfl rfl) rfl rfl hl.1 rfl (lv_room (Nat.le_of_ble_eq_true rfl)) dX5_valueUpTo_3 ⟨Nat.le_of_ble_eq_true rfl, Nat.le_of_ble_eq_true rfl⟩) hP hD hS hA [0, 1, 2, 3, 4, 5, 6, 7] [] rfl rfl (by decide) (by decide) (fun r205 u206 H locs qu206 hP hD hS => ?_)
  obtain ⟨b207, b208⟩ := qu206
  have hP : va_P (dC, dI) vwCl [(hs, .inr (5, [.ref (sd 0), .ref (sd 1), .ref (sd 2), .ref (sd 3), .ref (sd 4), .ref (sd 5), .ref (sd 6), .int s_size, .int s_copier, .int s_copyLeft, .int s_tick, .int s_seed, .int s_dropped])), (sd 0, .inl (cyI, 6, .inl s_row)), (sd 1, .inl (cyI, 8, .inl s_has)), (sd 2, .inl (cyI, 8, .inl s_clean)), (sd 3, .inl (cyI, 328, .inl s_dn)), (sd 4, .inl (cyI, 328, .inl s_up)), (sd 5, .inl (cyI, 41, .inl s_ks)), (sd 6, .inl (cyI, 41, .inl s_vs))] H := hP
  have hD : va_D A [(hs, .inr (5, [.ref (sd 0), .ref (sd 1), .ref (sd 2), .ref (sd 3), .ref (sd 4), .ref (sd 5), .ref (sd 6), .int s_size, .int s_copier, .int s_copyLeft, .int s_tick, .int s_seed, .int s_dropped])), (sd 0, .inl (cyI, 6, .inl s_row)), (sd 1, .inl (cyI, 8, .inl s_has)), (sd 2, .inl (cyI, 8, .inl s_clean)), (sd 3, .inl (cyI, 328, .inl s_dn)), (sd 4, .inl (cyI, 328, .inl s_up)), (sd 5, .inl (cyI, 41, .inl s_ks)), (sd 6, .inl (cyI, 41, .inl s_vs))] := hD
  refine lv_istore_n (lv' := [(3, .int r205), (0, .ref hs), (1, .int x1), (2, .int x2)]) hx hb dX5_valueUpTo_6 rfl hl (by decide) rfl (fun ls hl => ?_)
  refine lv_iload_n hx hb dX5_valueUpTo_7 rfl (lv_at hl 0 rfl) ?_
  refine lv_if_ne (tgt := 15) hx hb dX5_valueUpTo_8 (by decide) (fun c209 => ?_) (fun c209 => ?_)
  · have c209 := i_ne (a := r205.toInt) (b := 0) c209 rfl (by decide)
    refine lv_aload_n hx hb dX5_valueUpTo_15 rfl (lv_at hl 1 rfl) ?_
    refine va_get (D := (dC, dI)) (ci := 5) (v := .ref (sd 6)) (C := RX5) (T := TX5) (N := 13) hx hb hts hi5 hown hK hP 0 rfl rfl 6 (by decide) (hts _ (ow_m (k := 4) rfl)) (fun _ h9 => h9) rfl dX5_valueUpTo_16 ?_
    refine lv_iload_n hx hb dX5_valueUpTo_19 rfl (lv_at hl 0 rfl) ?_
    have nz210 : vp_in r205 41 := (vp_i rfl (by omega) (by omega))
    refine va_iald hx hb hK hP 7 1 rfl rfl nz210 dX5_valueUpTo_20 ?_
    refine lv_topi (fun z210 ez210 => ?_)
    exact W.iret (v := z210) hx hb hr (fun t ht hW => ⟨⟨z210, (), rfl, trivial, cE.of ht hP hD [0, 1, 2, 3, 4, 5, 6, 7] (by decide) rfl⟩, hS.F ht⟩) hS.2.2 dX5_valueUpTo_21
  · have c209 := i_eq (a := r205.toInt) (b := 0) c209 rfl (by decide)
    refine lv_iconst (v := (-1)) hx hb dX5_valueUpTo_11 (by decide) ?_
    refine lv_goto (tgt := 21) hx hb dX5_valueUpTo_12 (by decide) ?_
    exact W.iret (v := (-1)) hx hb hr (fun t ht hW => ⟨⟨(-1), (), rfl, trivial, cE.of ht hP hD [0, 1, 2, 3, 4, 5, 6, 7] (by decide) rfl⟩, hS.F ht⟩) hS.2.2 dX5_valueUpTo_21
def wo_k_St_dirtyOf : List Cond := [.fieldLink RX5 18 "ReplicaChain$State" "clean" "[I", .fieldLink RX5 15 "ReplicaChain$State" "has" "[I", .fieldLink RX5 27 "ReplicaChain$State" "keys" "[I"]
def wq_k_St_dirtyOf : List Cond := .code yX5_dirtyOf cX5_dirtyOf 5 (some .int) :: (wo_k_St_dirtyOf ++ (wsX50 ++ []))
theorem gd_k_St_dirtyOf : Gd wq_k_St_dirtyOf := gd_c (gd_a (gd_o (by decide +kernel)) (gd_a gd_u gd_0))
abbrev wc_k_St_dirtyOf (cyB cyI cyJ cyZ cyO : ClassId) (hs : Nat) (sd : Nat → Nat) (s_row : Nat → Int32) (s_has : Nat → Int32) (s_clean : Nat → Int32) (s_dn : Nat → Int32) (s_up : Nat → Int32) (s_ks : Nat → Int32) (s_vs : Nat → Int32) (s_size : Int32) (s_copier : Int32) (s_copyLeft : Int32) (s_tick : Int32) (s_seed : Int32) (s_dropped : Int32) (x1 : Int32) (x2 : Int32) : va_W := [(hs, .inr (5, [.ref (sd 0), .ref (sd 1), .ref (sd 2), .ref (sd 3), .ref (sd 4), .ref (sd 5), .ref (sd 6), .int s_size, .int s_copier, .int s_copyLeft, .int s_tick, .int s_seed, .int s_dropped])), (sd 0, .inl (cyI, 6, .inl s_row)), (sd 1, .inl (cyI, 8, .inl s_has)), (sd 2, .inl (cyI, 8, .inl s_clean)), (sd 3, .inl (cyI, 328, .inl s_dn)), (sd 4, .inl (cyI, 328, .inl s_up)), (sd 5, .inl (cyI, 41, .inl s_ks)), (sd 6, .inl (cyI, 41, .inl s_vs))]
set_option maxHeartbeats 4000000 in
set_option maxRecDepth 100000 in
theorem k_St_dirtyOf (l : Launch) (dC : Nat → ClassId) (dI : Nat → Nat → Nat) (cyB cyI cyJ cyZ cyO : ClassId) (hs : Nat) (sd : Nat → Nat) (s_row : Nat → Int32) (s_has : Nat → Int32) (s_clean : Nat → Int32) (s_dn : Nat → Int32) (s_up : Nat → Int32) (s_ks : Nat → Int32) (s_vs : Nat → Int32) (s_size : Int32) (s_copier : Int32) (s_copyLeft : Int32) (s_tick : Int32) (s_seed : Int32) (s_dropped : Int32) (x1 : Int32) (x2 : Int32) (sz : Nat) (l_s_size : 0 ≤ s_size.toInt) (u_s_size : s_size.toInt ≤ 6) (l_s_copier : -1 ≤ s_copier.toInt) (u_s_copier : s_copier.toInt ≤ 7) (l_s_seed : 0 ≤ s_seed.toInt) (u_s_seed : s_seed.toInt ≤ 999) (i_s_row : In s_row 6 (0) (7)) (i_s_has : In s_has 8 (0) (40)) (i_s_clean : In s_clean 8 (0) (40)) (l_x1 : 0 ≤ x1.toInt) (u_x1 : x1.toInt ≤ 7) : Met l yX5_dirtyOf wq_k_St_dirtyOf ({ frames := 0, cells := 0, slots := 0, locals := 0 }) (va_Pc [.ref hs, .int x1, .int x2] (cB (dC, dI) (kT cyB cyI cyJ cyZ cyO) (wc_k_St_dirtyOf cyB cyI cyJ cyZ cyO hs sd s_row s_has s_clean s_dn s_up s_ks s_vs s_size s_copier s_copyLeft s_tick s_seed s_dropped x1 x2) sz)) (va_Qi (fun (r : Int32) (u : Unit) => True) (fun (u : Unit) t => cE (dC, dI) (va_A (wc_k_St_dirtyOf cyB cyI cyJ cyZ cyO hs sd s_row s_has s_clean s_dn s_up s_ks s_vs s_size s_copier s_copyLeft s_tick s_seed s_dropped x1 x2) sz) ([(hs, .inr (5, [.ref (sd 0), .ref (sd 1), .ref (sd 2), .ref (sd 3), .ref (sd 4), .ref (sd 5), .ref (sd 6), .int s_size, .int s_copier, .int s_copyLeft, .int s_tick, .int s_seed, .int s_dropped])), (sd 0, .inl (cyI, 6, .inl s_row)), (sd 1, .inl (cyI, 8, .inl s_has)), (sd 2, .inl (cyI, 8, .inl s_clean)), (sd 3, .inl (cyI, 328, .inl s_dn)), (sd 4, .inl (cyI, 328, .inl s_up)), (sd 5, .inl (cyI, 41, .inl s_ks)), (sd 6, .inl (cyI, 41, .inl s_vs))]) t.heap) (va_A (wc_k_St_dirtyOf cyB cyI cyJ cyZ cyO hs sd s_row s_has s_clean s_dn s_up s_ks s_vs s_size s_copier s_copyLeft s_tick s_seed s_dropped x1 x2) sz)) 0 0 (va_A (wc_k_St_dirtyOf cyB cyI cyJ cyZ cyO hs sd s_row s_has s_clean s_dn s_up s_ks s_vs s_size s_copier s_copyLeft s_tick s_seed s_dropped x1 x2) sz) := by
  refine Met.ofW (cc := cX5_dirtyOf) (maxL := 5) (ret := (some .int)) (by decide) rfl ?_
  intro p e s m args below meth c s₁ B hml hv
  obtain ⟨rfl, hsz, hP, hKN, hD0⟩ := hv
  have hx := B.exec
  have hb := B.bytes
  have hr := B.returns
  have hts := atoms_spec (ws := wq_k_St_dirtyOf) B.pre
  have hown : s.vm.findClass RX5 = some m.cls := findClass_of_methodNamed B.named
  have hlocks := B.notSynchronized
  have hK := hKN.1
  have hfix : CallFix p m c cX5_dirtyOf 5 s [.ref hs, .int x1, .int x2].toArray wq_k_St_dirtyOf RX5 := ⟨hx, hb, hml, hown, hts⟩
  have hi5 : ∀ w ∈ wsX50, w ∈ wq_k_St_dirtyOf := (sb_c sb_l)
  subst hsz
  have hD := hD0.self (sz := s.heap.size)
  generalize hAe : va_A (wc_k_St_dirtyOf cyB cyI cyJ cyZ cyO hs sd s_row s_has s_clean s_dn s_up s_ks s_vs s_size s_copier s_copyLeft s_tick s_seed s_dropped x1 x2) s.heap.size = A at hD ⊢
  have hA : ∀ q : Nat, s.heap.size ≤ q → A q := fun q h => by rw [← hAe]; exact Or.inr h
  have hS : va_S A s.heap s.heap [] := va_S.rf
  have hl := lv_entry ([.ref hs, .int x1, .int x2]) (n := 5) (Nat.le_of_ble_eq_true rfl)
  rw [lg_entry_eq]
  generalize (lg_sl ([.ref hs, .int x1, .int x2]) ++ List.replicate (5 - (lg_sl ([.ref hs, .int x1, .int x2])).length) Slot.unset).toArray = ls at hl ⊢
  have hl : lv_has ls 5 [(0, .ref hs), (1, .int x1), (2, .int x2)] := hl
  refine lv_iconst (v := 0) hx hb dX5_dirtyOf_0 (by decide) ?_
  refine lv_istore_n (lv' := [(3, .int 0), (0, .ref hs), (1, .int x1), (2, .int x2)]) hx hb dX5_dirtyOf_1 rfl hl (by decide) rfl (fun ls hl => ?_)
  refine lv_aload_n hx hb dX5_dirtyOf_2 rfl (lv_at hl 1 rfl) ?_
  refine va_get (D := (dC, dI)) (ci := 5) (v := .ref (sd 2)) (C := RX5) (T := TX5) (N := 13) hx hb hts hi5 hown hK hP 0 rfl rfl 2 (by decide) (hts _ (ow_m (k := 0) rfl)) (fun _ h9 => h9) rfl dX5_dirtyOf_3 ?_
  refine lv_iload_n hx hb dX5_dirtyOf_6 rfl (lv_at hl 2 rfl) ?_
  have nz211 : vp_in x1 8 := (vp_i rfl (by omega) (by omega))
  refine va_iald hx hb hK hP 3 1 rfl rfl nz211 dX5_dirtyOf_7 ?_
  refine lv_topi (fun z211 ez211 => ?_)
  have tz211 := i_s_clean.at ez211 nz211
  refine lv_iconst (v := 1) hx hb dX5_dirtyOf_8 (by decide) ?_
  refine lv_iadd hx hb dX5_dirtyOf_9 ?_
  refine lv_topi (fun z212 ez212 => ?_)
  have tz212 := ti_add (a := z211.toInt) (b := 1) ez212 rfl (by decide) (by omega) (by omega)
  refine lv_istore (lv' := [(4, .int z212), (3, .int 0), (0, .ref hs), (1, .int x1), (2, .int x2)]) hx hb dX5_dirtyOf_10 hl (by decide) rfl (fun ls hl => ?_)
  refine w_gen (fun H locs ls hP hS hl => ?_) hP hS hl
  have k215 : (0 : Int32).toInt = 0 := by decide
  obtain ⟨v214, v216, hl2, hP2, hD2, b217, b218⟩ : ∃ (v214 : Int32) (v216 : Int32), lv_has ls 5 [(4, .int v216), (3, .int v214), (0, .ref hs), (1, .int x1), (2, .int x2)] ∧ va_P (dC, dI) vwCl [(hs, .inr (5, [.ref (sd 0), .ref (sd 1), .ref (sd 2), .ref (sd 3), .ref (sd 4), .ref (sd 5), .ref (sd 6), .int s_size, .int s_copier, .int s_copyLeft, .int s_tick, .int s_seed, .int s_dropped])), (sd 0, .inl (cyI, 6, .inl s_row)), (sd 1, .inl (cyI, 8, .inl s_has)), (sd 2, .inl (cyI, 8, .inl s_clean)), (sd 3, .inl (cyI, 328, .inl s_dn)), (sd 4, .inl (cyI, 328, .inl s_up)), (sd 5, .inl (cyI, 41, .inl s_ks)), (sd 6, .inl (cyI, 41, .inl s_vs))] H ∧ va_D A [(hs, .inr (5, [.ref (sd 0), .ref (sd 1), .ref (sd 2), .ref (sd 3), .ref (sd 4), .ref (sd 5), .ref (sd 6), .int s_size, .int s_copier, .int s_copyLeft, .int s_tick, .int s_seed, .int s_dropped])), (sd 0, .inl (cyI, 6, .inl s_row)), (sd 1, .inl (cyI, 8, .inl s_has)), (sd 2, .inl (cyI, 8, .inl s_clean)), (sd 3, .inl (cyI, 328, .inl s_dn)), (sd 4, .inl (cyI, 328, .inl s_up)), (sd 5, .inl (cyI, 41, .inl s_ks)), (sd 6, .inl (cyI, 41, .inl s_vs))] ∧ 1 ≤ v216.toInt ∧ v216.toInt ≤ 41 := ⟨0, z212, hl, hP, hD, by first | omega | assumption, by first | omega | assumption⟩
  clear hP hl
  have hP := hP2
  have hD := hD2
  have hl := hl2
  clear hP2 hD2 hl2
  obtain ⟨n219, hn219⟩ : ∃ n : Nat, 41 - v216.toInt < (n : Int) := ⟨(41 - v216.toInt).toNat + 1, by omega⟩
  induction n219 generalizing v214 v216 H locs ls with
  | zero => exfalso; omega
  | succ n219 ih213 =>
    refine lv_iload hx hb dX5_dirtyOf_12 (lv_at hl 0 rfl) ?_
    refine lv_aload_n hx hb dX5_dirtyOf_14 rfl (lv_at hl 2 rfl) ?_
    refine va_get (D := (dC, dI)) (ci := 5) (v := .ref (sd 1)) (C := RX5) (T := TX5) (N := 13) hx hb hts hi5 hown hK hP 0 rfl rfl 1 (by decide) (hts _ (ow_m (k := 1) rfl)) (fun _ h9 => h9) rfl dX5_dirtyOf_15 ?_
    refine lv_iload_n hx hb dX5_dirtyOf_18 rfl (lv_at hl 3 rfl) ?_
    have nz220 : vp_in x1 8 := (vp_i rfl (by omega) (by omega))
    refine va_iald hx hb hK hP 2 1 rfl rfl nz220 dX5_dirtyOf_19 ?_
    refine lv_topi (fun z220 ez220 => ?_)
    have tz220 := i_s_has.at ez220 nz220
    refine lv_icmp_gt (tgt := 43) hx hb dX5_dirtyOf_20 (by decide) (fun c221 => ?_) (fun c221 => ?_)
    · have c221 := i_lt (a := z220.toInt) (b := v216.toInt) c221 rfl rfl
      refine lv_iload_n hx hb dX5_dirtyOf_43 rfl (lv_at hl 1 rfl) ?_
      exact W.iret (v := v214) hx hb hr (fun t ht hW => ⟨⟨v214, (), rfl, trivial, cE.of ht hP hD [0, 1, 2, 3, 4, 5, 6, 7] (by decide) rfl⟩, hS.F ht⟩) hS.2.2 dX5_dirtyOf_44
    · have c221 := i_nlt (a := z220.toInt) (b := v216.toInt) c221 rfl rfl
      refine lv_aload_n hx hb dX5_dirtyOf_23 rfl (lv_at hl 2 rfl) ?_
      refine va_get (D := (dC, dI)) (ci := 5) (v := .ref (sd 5)) (C := RX5) (T := TX5) (N := 13) hx hb hts hi5 hown hK hP 0 rfl rfl 5 (by decide) (hts _ (ow_m (k := 2) rfl)) (fun _ h9 => h9) rfl dX5_dirtyOf_24 ?_
      refine lv_iload hx hb dX5_dirtyOf_27 (lv_at hl 0 rfl) ?_
      have nz222 : vp_in v216 41 := (vp_i rfl (by omega) (by omega))
      refine va_iald hx hb hK hP 6 1 rfl rfl nz222 dX5_dirtyOf_29 ?_
      refine lv_topi (fun z222 ez222 => ?_)
      refine lv_iload_n hx hb dX5_dirtyOf_30 rfl (lv_at hl 4 rfl) ?_
      refine lv_icmp_ne (tgt := 37) hx hb dX5_dirtyOf_31 (by decide) (fun c223 => ?_) (fun c223 => ?_)
      · have c223 := i_ne (a := z222.toInt) (b := x2.toInt) c223 rfl rfl
        obtain ⟨z224, ez224⟩ : ∃ y : Int32, y = v216 + 1 := ⟨_, rfl⟩
        have tz224 := ti_add (a := v216.toInt) (b := 1) ez224 rfl (by decide) (by omega) (by omega)
        refine lv_iinc (v := z224) (lv' := [(4, .int z224), (3, .int v214), (0, .ref hs), (1, .int x1), (2, .int x2)]) hx hb dX5_dirtyOf_37 hl (k := 0) rfl (by rw [ez224]; rfl) (by decide) rfl (fun ls hl => ?_)
        refine lv_goto (tgt := 12) hx hb dX5_dirtyOf_40 (by decide) ?_
        have hl := lv_sub (l' := [(4, .int z224), (3, .int v214), (0, .ref hs), (1, .int x1), (2, .int x2)]) hl [0, 1, 2, 3, 4] rfl
        apply ih213 (v214 := v214) (v216 := z224) (H := H) (locs := locs) (ls := ls) <;> first | assumption | omega
      · have c223 := i_eq (a := z222.toInt) (b := x2.toInt) c223 rfl rfl
        obtain ⟨z225, ez225⟩ : ∃ y : Int32, y = v214 + 1 := ⟨_, rfl⟩
        refine lv_iinc (v := z225) (lv' := [(3, .int z225), (4, .int v216), (0, .ref hs), (1, .int x1), (2, .int x2)]) hx hb dX5_dirtyOf_34 hl (k := 1) rfl (by rw [ez225]; rfl) (by decide) rfl (fun ls hl => ?_)
        obtain ⟨z226, ez226⟩ : ∃ y : Int32, y = v216 + 1 := ⟨_, rfl⟩
        have tz226 := ti_add (a := v216.toInt) (b := 1) ez226 rfl (by decide) (by omega) (by omega)
        refine lv_iinc (v := z226) (lv' := [(4, .int z226), (3, .int z225), (0, .ref hs), (1, .int x1), (2, .int x2)]) hx hb dX5_dirtyOf_37 hl (k := 1) rfl (by rw [ez226]; rfl) (by decide) rfl (fun ls hl => ?_)
        refine lv_goto (tgt := 12) hx hb dX5_dirtyOf_40 (by decide) ?_
        have hl := lv_sub (l' := [(4, .int z226), (3, .int z225), (0, .ref hs), (1, .int x1), (2, .int x2)]) hl [0, 1, 2, 3, 4] rfl
        apply ih213 (v214 := z225) (v216 := z226) (H := H) (locs := locs) (ls := ls) <;> first | assumption | omega
def wo_k_St_versionsOf : List Cond := [.fieldLink RX5 18 "ReplicaChain$State" "clean" "[I", .methodLink RX5 81 yX5_latestUpTo, .instanceMethod yX5_latestUpTo, .selects RX5 yX5_latestUpTo yX5_latestUpTo, .initialized RX5, .methodLink RX5 84 yX5_dirtyOf, .instanceMethod yX5_dirtyOf, .selects RX5 yX5_dirtyOf yX5_dirtyOf]
def wq_k_St_versionsOf : List Cond := .code yX5_versionsOf cX5_versionsOf 3 (some .int) :: (wo_k_St_versionsOf ++ (wq_k_St_latestUpTo ++ (wq_k_St_dirtyOf ++ (wsX50 ++ []))))
theorem gd_k_St_versionsOf : Gd wq_k_St_versionsOf := gd_c (gd_a (gd_o (by decide +kernel)) (gd_a gd_k_St_latestUpTo (gd_a gd_k_St_dirtyOf (gd_a gd_u gd_0))))
abbrev wc_k_St_versionsOf (cyB cyI cyJ cyZ cyO : ClassId) (hs : Nat) (sd : Nat → Nat) (s_row : Nat → Int32) (s_has : Nat → Int32) (s_clean : Nat → Int32) (s_dn : Nat → Int32) (s_up : Nat → Int32) (s_ks : Nat → Int32) (s_vs : Nat → Int32) (s_size : Int32) (s_copier : Int32) (s_copyLeft : Int32) (s_tick : Int32) (s_seed : Int32) (s_dropped : Int32) (x1 : Int32) (x2 : Int32) : va_W := [(hs, .inr (5, [.ref (sd 0), .ref (sd 1), .ref (sd 2), .ref (sd 3), .ref (sd 4), .ref (sd 5), .ref (sd 6), .int s_size, .int s_copier, .int s_copyLeft, .int s_tick, .int s_seed, .int s_dropped])), (sd 0, .inl (cyI, 6, .inl s_row)), (sd 1, .inl (cyI, 8, .inl s_has)), (sd 2, .inl (cyI, 8, .inl s_clean)), (sd 3, .inl (cyI, 328, .inl s_dn)), (sd 4, .inl (cyI, 328, .inl s_up)), (sd 5, .inl (cyI, 41, .inl s_ks)), (sd 6, .inl (cyI, 41, .inl s_vs))]
set_option maxHeartbeats 4000000 in
set_option maxRecDepth 100000 in
theorem k_St_versionsOf (l : Launch) (dC : Nat → ClassId) (dI : Nat → Nat → Nat) (cyB cyI cyJ cyZ cyO : ClassId) (hs : Nat) (sd : Nat → Nat) (s_row : Nat → Int32) (s_has : Nat → Int32) (s_clean : Nat → Int32) (s_dn : Nat → Int32) (s_up : Nat → Int32) (s_ks : Nat → Int32) (s_vs : Nat → Int32) (s_size : Int32) (s_copier : Int32) (s_copyLeft : Int32) (s_tick : Int32) (s_seed : Int32) (s_dropped : Int32) (x1 : Int32) (x2 : Int32) (sz : Nat) (l_s_size : 0 ≤ s_size.toInt) (u_s_size : s_size.toInt ≤ 6) (l_s_copier : -1 ≤ s_copier.toInt) (u_s_copier : s_copier.toInt ≤ 7) (l_s_seed : 0 ≤ s_seed.toInt) (u_s_seed : s_seed.toInt ≤ 999) (i_s_row : In s_row 6 (0) (7)) (i_s_has : In s_has 8 (0) (40)) (i_s_clean : In s_clean 8 (0) (40)) (l_x1 : 0 ≤ x1.toInt) (u_x1 : x1.toInt ≤ 7) : Met l yX5_versionsOf wq_k_St_versionsOf ({ frames := 2, cells := 0, slots := 0, locals := 47 }) (va_Pc [.ref hs, .int x1, .int x2] (cB (dC, dI) (kT cyB cyI cyJ cyZ cyO) (wc_k_St_versionsOf cyB cyI cyJ cyZ cyO hs sd s_row s_has s_clean s_dn s_up s_ks s_vs s_size s_copier s_copyLeft s_tick s_seed s_dropped x1 x2) sz)) (va_Qi (fun (r : Int32) (u : Unit) => True) (fun (u : Unit) t => cE (dC, dI) (va_A (wc_k_St_versionsOf cyB cyI cyJ cyZ cyO hs sd s_row s_has s_clean s_dn s_up s_ks s_vs s_size s_copier s_copyLeft s_tick s_seed s_dropped x1 x2) sz) ([(hs, .inr (5, [.ref (sd 0), .ref (sd 1), .ref (sd 2), .ref (sd 3), .ref (sd 4), .ref (sd 5), .ref (sd 6), .int s_size, .int s_copier, .int s_copyLeft, .int s_tick, .int s_seed, .int s_dropped])), (sd 0, .inl (cyI, 6, .inl s_row)), (sd 1, .inl (cyI, 8, .inl s_has)), (sd 2, .inl (cyI, 8, .inl s_clean)), (sd 3, .inl (cyI, 328, .inl s_dn)), (sd 4, .inl (cyI, 328, .inl s_up)), (sd 5, .inl (cyI, 41, .inl s_ks)), (sd 6, .inl (cyI, 41, .inl s_vs))]) t.heap) (va_A (wc_k_St_versionsOf cyB cyI cyJ cyZ cyO hs sd s_row s_has s_clean s_dn s_up s_ks s_vs s_size s_copier s_copyLeft s_tick s_seed s_dropped x1 x2) sz)) 0 0 (va_A (wc_k_St_versionsOf cyB cyI cyJ cyZ cyO hs sd s_row s_has s_clean s_dn s_up s_ks s_vs s_size s_copier s_copyLeft s_tick s_seed s_dropped x1 x2) sz) := by
  refine Met.ofW (cc := cX5_versionsOf) (maxL := 3) (ret := (some .int)) (by decide) rfl ?_
  intro p e s m args below meth c s₁ B hml hv
  obtain ⟨rfl, hsz, hP, hKN, hD0⟩ := hv
  have hx := B.exec
  have hb := B.bytes
  have hr := B.returns
  have hts := atoms_spec (ws := wq_k_St_versionsOf) B.pre
  have hown : s.vm.findClass RX5 = some m.cls := findClass_of_methodNamed B.named
  have hlocks := B.notSynchronized
  have hK := hKN.1
  have hfix : CallFix p m c cX5_versionsOf 3 s [.ref hs, .int x1, .int x2].toArray wq_k_St_versionsOf RX5 := ⟨hx, hb, hml, hown, hts⟩
  have hi5 : ∀ w ∈ wsX50, w ∈ wq_k_St_versionsOf := (sb_c (sb_r (sb_r sb_l)))
  subst hsz
  have hD := hD0.self (sz := s.heap.size)
  generalize hAe : va_A (wc_k_St_versionsOf cyB cyI cyJ cyZ cyO hs sd s_row s_has s_clean s_dn s_up s_ks s_vs s_size s_copier s_copyLeft s_tick s_seed s_dropped x1 x2) s.heap.size = A at hD ⊢
  have hA : ∀ q : Nat, s.heap.size ≤ q → A q := fun q h => by rw [← hAe]; exact Or.inr h
  have hS : va_S A s.heap s.heap [] := va_S.rf
  have hl := lv_entry ([.ref hs, .int x1, .int x2]) (n := 3) (Nat.le_of_ble_eq_true rfl)
  rw [lg_entry_eq]
  generalize (lg_sl ([.ref hs, .int x1, .int x2]) ++ List.replicate (3 - (lg_sl ([.ref hs, .int x1, .int x2])).length) Slot.unset).toArray = ls at hl ⊢
  have hl : lv_has ls 3 [(0, .ref hs), (1, .int x1), (2, .int x2)] := hl
  refine lv_aload_n hx hb dX5_versionsOf_0 rfl (lv_at hl 0 rfl) ?_
  refine lv_iload_n hx hb dX5_versionsOf_1 rfl (lv_at hl 2 rfl) ?_
  refine lv_aload_n hx hb dX5_versionsOf_2 rfl (lv_at hl 0 rfl) ?_
  refine va_get (D := (dC, dI)) (ci := 5) (v := .ref (sd 2)) (C := RX5) (T := TX5) (N := 13) hx hb hts hi5 hown hK hP 0 rfl rfl 2 (by decide) (hts _ (ow_m (k := 0) rfl)) (fun _ h9 => h9) rfl dX5_versionsOf_3 ?_
  refine lv_iload_n hx hb dX5_versionsOf_6 rfl (lv_at hl 1 rfl) ?_
  have nz227 : vp_in x1 8 := (vp_i rfl (by omega) (by omega))
  refine va_iald hx hb hK hP 3 1 rfl rfl nz227 dX5_versionsOf_7 ?_
  refine lv_topi (fun z227 ez227 => ?_)
  have tz227 := i_s_clean.at ez227 nz227
  refine gf_i (wr := []) (va_runV (As := [.int x2, .int z227]) (rest := []) hfix (k_St_latestUpTo l dC dI cyB cyI cyJ cyZ cyO hs sd s_row s_has s_clean s_dn s_up s_ks s_vs s_size s_copier s_copyLeft s_tick s_seed s_dropped x2 z227 _ (by first | omega | assumption) (by first | omega | assumption) (by first | omega | assumption) (by first | omega | assumption) (by first | omega | assumption) (by first | omega | assumption) i_s_row i_s_has i_s_clean) (cwV 2 hts (gi_V (ow_m (k := 1) rfl) (ow_m (k := 2) rfl) (ow_m (k := 3) rfl) (ow_m (k := 4) rfl) (sb_c sb_l) gd_k_St_latestUpTo) rfl rfl rfl (by decide +kernel) ⟨Nat.le_of_ble_eq_true rfl, Nat.le_of_ble_eq_true rfl⟩) (g_preV hKN hP hD [0, 1, 2, 3, 4, 5, 6, 7] rfl (by decide) 0 5 rfl rfl) rfl rfl hl.1 rfl (lv_room (Nat.le_of_ble_eq_true rfl)) dX5_versionsOf_8 ⟨Nat.le_of_ble_eq_true rfl, Nat.le_of_ble_eq_true rfl⟩) hP hD hS hA [0, 1, 2, 3, 4, 5, 6, 7] [] rfl rfl (by decide) (by decide) (fun r228 u229 H locs qu229 hP hD hS => ?_)
  obtain ⟨b230, b231⟩ := qu229
  have hP : va_P (dC, dI) vwCl [(hs, .inr (5, [.ref (sd 0), .ref (sd 1), .ref (sd 2), .ref (sd 3), .ref (sd 4), .ref (sd 5), .ref (sd 6), .int s_size, .int s_copier, .int s_copyLeft, .int s_tick, .int s_seed, .int s_dropped])), (sd 0, .inl (cyI, 6, .inl s_row)), (sd 1, .inl (cyI, 8, .inl s_has)), (sd 2, .inl (cyI, 8, .inl s_clean)), (sd 3, .inl (cyI, 328, .inl s_dn)), (sd 4, .inl (cyI, 328, .inl s_up)), (sd 5, .inl (cyI, 41, .inl s_ks)), (sd 6, .inl (cyI, 41, .inl s_vs))] H := hP
  have hD : va_D A [(hs, .inr (5, [.ref (sd 0), .ref (sd 1), .ref (sd 2), .ref (sd 3), .ref (sd 4), .ref (sd 5), .ref (sd 6), .int s_size, .int s_copier, .int s_copyLeft, .int s_tick, .int s_seed, .int s_dropped])), (sd 0, .inl (cyI, 6, .inl s_row)), (sd 1, .inl (cyI, 8, .inl s_has)), (sd 2, .inl (cyI, 8, .inl s_clean)), (sd 3, .inl (cyI, 328, .inl s_dn)), (sd 4, .inl (cyI, 328, .inl s_up)), (sd 5, .inl (cyI, 41, .inl s_ks)), (sd 6, .inl (cyI, 41, .inl s_vs))] := hD
  refine lv_if_le (tgt := 18) hx hb dX5_versionsOf_11 (by decide) (fun c232 => ?_) (fun c232 => ?_)
  · have c232 := i_le (a := r228.toInt) (b := 0) c232 rfl (by decide)
    refine lv_iconst (v := 0) hx hb dX5_versionsOf_18 (by decide) ?_
    refine lv_aload_n hx hb dX5_versionsOf_19 rfl (lv_at hl 0 rfl) ?_
    refine lv_iload_n hx hb dX5_versionsOf_20 rfl (lv_at hl 1 rfl) ?_
    refine lv_iload_n hx hb dX5_versionsOf_21 rfl (lv_at hl 2 rfl) ?_
    refine gf_i (wr := []) (va_runV (As := [.int x1, .int x2]) (rest := [.int 0]) hfix (k_St_dirtyOf l dC dI cyB cyI cyJ cyZ cyO hs sd s_row s_has s_clean s_dn s_up s_ks s_vs s_size s_copier s_copyLeft s_tick s_seed s_dropped x1 x2 _ (by first | omega | assumption) (by first | omega | assumption) (by first | omega | assumption) (by first | omega | assumption) (by first | omega | assumption) (by first | omega | assumption) i_s_row i_s_has i_s_clean (by first | omega | assumption) (by first | omega | assumption)) (cwV 2 hts (gi_V (ow_m (k := 5) rfl) (ow_m (k := 6) rfl) (ow_m (k := 7) rfl) (ow_m (k := 4) rfl) (sb_c (sb_r sb_l)) gd_k_St_dirtyOf) rfl rfl rfl (by decide +kernel) ⟨Nat.le_of_ble_eq_true rfl, Nat.le_of_ble_eq_true rfl⟩) (g_preV hKN hP hD [0, 1, 2, 3, 4, 5, 6, 7] rfl (by decide) 0 5 rfl rfl) rfl rfl hl.1 rfl (lv_room (Nat.le_of_ble_eq_true rfl)) dX5_versionsOf_22 ⟨Nat.le_of_ble_eq_true rfl, Nat.le_of_ble_eq_true rfl⟩) hP hD hS hA [0, 1, 2, 3, 4, 5, 6, 7] [] rfl rfl (by decide) (by decide) (fun r233 u234 H locs qu234 hP hD hS => ?_)
    have hP : va_P (dC, dI) vwCl [(hs, .inr (5, [.ref (sd 0), .ref (sd 1), .ref (sd 2), .ref (sd 3), .ref (sd 4), .ref (sd 5), .ref (sd 6), .int s_size, .int s_copier, .int s_copyLeft, .int s_tick, .int s_seed, .int s_dropped])), (sd 0, .inl (cyI, 6, .inl s_row)), (sd 1, .inl (cyI, 8, .inl s_has)), (sd 2, .inl (cyI, 8, .inl s_clean)), (sd 3, .inl (cyI, 328, .inl s_dn)), (sd 4, .inl (cyI, 328, .inl s_up)), (sd 5, .inl (cyI, 41, .inl s_ks)), (sd 6, .inl (cyI, 41, .inl s_vs))] H := hP
    have hD : va_D A [(hs, .inr (5, [.ref (sd 0), .ref (sd 1), .ref (sd 2), .ref (sd 3), .ref (sd 4), .ref (sd 5), .ref (sd 6), .int s_size, .int s_copier, .int s_copyLeft, .int s_tick, .int s_seed, .int s_dropped])), (sd 0, .inl (cyI, 6, .inl s_row)), (sd 1, .inl (cyI, 8, .inl s_has)), (sd 2, .inl (cyI, 8, .inl s_clean)), (sd 3, .inl (cyI, 328, .inl s_dn)), (sd 4, .inl (cyI, 328, .inl s_up)), (sd 5, .inl (cyI, 41, .inl s_ks)), (sd 6, .inl (cyI, 41, .inl s_vs))] := hD
    refine lv_iadd hx hb dX5_versionsOf_25 ?_
    refine lv_topi (fun z235 ez235 => ?_)
    exact W.iret (v := z235) hx hb hr (fun t ht hW => ⟨⟨z235, (), rfl, trivial, cE.of ht hP hD [0, 1, 2, 3, 4, 5, 6, 7] (by decide) rfl⟩, hS.F ht⟩) hS.2.2 dX5_versionsOf_26
  · have c232 := i_nle (a := r228.toInt) (b := 0) c232 rfl (by decide)
    refine lv_iconst (v := 1) hx hb dX5_versionsOf_14 (by decide) ?_
    refine lv_goto (tgt := 19) hx hb dX5_versionsOf_15 (by decide) ?_
    refine lv_aload_n hx hb dX5_versionsOf_19 rfl (lv_at hl 0 rfl) ?_
    refine lv_iload_n hx hb dX5_versionsOf_20 rfl (lv_at hl 1 rfl) ?_
    refine lv_iload_n hx hb dX5_versionsOf_21 rfl (lv_at hl 2 rfl) ?_
    refine gf_i (wr := []) (va_runV (As := [.int x1, .int x2]) (rest := [.int 1]) hfix (k_St_dirtyOf l dC dI cyB cyI cyJ cyZ cyO hs sd s_row s_has s_clean s_dn s_up s_ks s_vs s_size s_copier s_copyLeft s_tick s_seed s_dropped x1 x2 _ (by first | omega | assumption) (by first | omega | assumption) (by first | omega | assumption) (by first | omega | assumption) (by first | omega | assumption) (by first | omega | assumption) i_s_row i_s_has i_s_clean (by first | omega | assumption) (by first | omega | assumption)) (cwV 2 hts (gi_V (ow_m (k := 5) rfl) (ow_m (k := 6) rfl) (ow_m (k := 7) rfl) (ow_m (k := 4) rfl) (sb_c (sb_r sb_l)) gd_k_St_dirtyOf) rfl rfl rfl (by decide +kernel) ⟨Nat.le_of_ble_eq_true rfl, Nat.le_of_ble_eq_true rfl⟩) (g_preV hKN hP hD [0, 1, 2, 3, 4, 5, 6, 7] rfl (by decide) 0 5 rfl rfl) rfl rfl hl.1 rfl (lv_room (Nat.le_of_ble_eq_true rfl)) dX5_versionsOf_22 ⟨Nat.le_of_ble_eq_true rfl, Nat.le_of_ble_eq_true rfl⟩) hP hD hS hA [0, 1, 2, 3, 4, 5, 6, 7] [] rfl rfl (by decide) (by decide) (fun r236 u237 H locs qu237 hP hD hS => ?_)
    have hP : va_P (dC, dI) vwCl [(hs, .inr (5, [.ref (sd 0), .ref (sd 1), .ref (sd 2), .ref (sd 3), .ref (sd 4), .ref (sd 5), .ref (sd 6), .int s_size, .int s_copier, .int s_copyLeft, .int s_tick, .int s_seed, .int s_dropped])), (sd 0, .inl (cyI, 6, .inl s_row)), (sd 1, .inl (cyI, 8, .inl s_has)), (sd 2, .inl (cyI, 8, .inl s_clean)), (sd 3, .inl (cyI, 328, .inl s_dn)), (sd 4, .inl (cyI, 328, .inl s_up)), (sd 5, .inl (cyI, 41, .inl s_ks)), (sd 6, .inl (cyI, 41, .inl s_vs))] H := hP
    have hD : va_D A [(hs, .inr (5, [.ref (sd 0), .ref (sd 1), .ref (sd 2), .ref (sd 3), .ref (sd 4), .ref (sd 5), .ref (sd 6), .int s_size, .int s_copier, .int s_copyLeft, .int s_tick, .int s_seed, .int s_dropped])), (sd 0, .inl (cyI, 6, .inl s_row)), (sd 1, .inl (cyI, 8, .inl s_has)), (sd 2, .inl (cyI, 8, .inl s_clean)), (sd 3, .inl (cyI, 328, .inl s_dn)), (sd 4, .inl (cyI, 328, .inl s_up)), (sd 5, .inl (cyI, 41, .inl s_ks)), (sd 6, .inl (cyI, 41, .inl s_vs))] := hD
    refine lv_iadd hx hb dX5_versionsOf_25 ?_
    refine lv_topi (fun z238 ez238 => ?_)
    exact W.iret (v := z238) hx hb hr (fun t ht hW => ⟨⟨z238, (), rfl, trivial, cE.of ht hP hD [0, 1, 2, 3, 4, 5, 6, 7] (by decide) rfl⟩, hS.F ht⟩) hS.2.2 dX5_versionsOf_26
def wo_k_St_droppedWithout : List Cond := [.fieldLink RX5 42 "ReplicaChain$State" "size" "I", .methodLink RX5 90 yX5_headHas, .instanceMethod yX5_headHas, .selects RX5 yX5_headHas yX5_headHas, .initialized RX5, .fieldLink RX5 9 "ReplicaChain$State" "row" "[I", .fieldLink RX5 15 "ReplicaChain$State" "has" "[I", .methodLink RX5 87 Lib.Math.max.name, .static Lib.Math.max.name, .initialized "java/lang/Math", .code Lib.Math.max.name Lib.Math.max.code 2 (some .int)]
def wq_k_St_droppedWithout : List Cond := .code yX5_droppedWithout cX5_droppedWithout 4 (some .int) :: (wo_k_St_droppedWithout ++ (wq_k_St_headHas ++ (wsX50 ++ [])))
theorem gd_k_St_droppedWithout : Gd wq_k_St_droppedWithout := gd_c (gd_a (gd_o (by decide +kernel)) (gd_a gd_k_St_headHas (gd_a gd_u gd_0)))
abbrev wc_k_St_droppedWithout (cyB cyI cyJ cyZ cyO : ClassId) (hs : Nat) (sd : Nat → Nat) (s_row : Nat → Int32) (s_has : Nat → Int32) (s_clean : Nat → Int32) (s_dn : Nat → Int32) (s_up : Nat → Int32) (s_ks : Nat → Int32) (s_vs : Nat → Int32) (s_size : Int32) (s_copier : Int32) (s_copyLeft : Int32) (s_tick : Int32) (s_seed : Int32) (s_dropped : Int32) (x1 : Int32) : va_W := [(hs, .inr (5, [.ref (sd 0), .ref (sd 1), .ref (sd 2), .ref (sd 3), .ref (sd 4), .ref (sd 5), .ref (sd 6), .int s_size, .int s_copier, .int s_copyLeft, .int s_tick, .int s_seed, .int s_dropped])), (sd 0, .inl (cyI, 6, .inl s_row)), (sd 1, .inl (cyI, 8, .inl s_has)), (sd 2, .inl (cyI, 8, .inl s_clean)), (sd 3, .inl (cyI, 328, .inl s_dn)), (sd 4, .inl (cyI, 328, .inl s_up)), (sd 5, .inl (cyI, 41, .inl s_ks)), (sd 6, .inl (cyI, 41, .inl s_vs))]
set_option maxHeartbeats 4000000 in
set_option maxRecDepth 100000 in
theorem k_St_droppedWithout (l : Launch) (dC : Nat → ClassId) (dI : Nat → Nat → Nat) (cyB cyI cyJ cyZ cyO : ClassId) (hs : Nat) (sd : Nat → Nat) (s_row : Nat → Int32) (s_has : Nat → Int32) (s_clean : Nat → Int32) (s_dn : Nat → Int32) (s_up : Nat → Int32) (s_ks : Nat → Int32) (s_vs : Nat → Int32) (s_size : Int32) (s_copier : Int32) (s_copyLeft : Int32) (s_tick : Int32) (s_seed : Int32) (s_dropped : Int32) (x1 : Int32) (sz : Nat) (l_s_size : 0 ≤ s_size.toInt) (u_s_size : s_size.toInt ≤ 6) (l_s_copier : -1 ≤ s_copier.toInt) (u_s_copier : s_copier.toInt ≤ 7) (l_s_seed : 0 ≤ s_seed.toInt) (u_s_seed : s_seed.toInt ≤ 999) (i_s_row : In s_row 6 (0) (7)) (i_s_has : In s_has 8 (0) (40)) (i_s_clean : In s_clean 8 (0) (40)) : Met l yX5_droppedWithout wq_k_St_droppedWithout ({ frames := 1, cells := 0, slots := 0, locals := 24 }) (va_Pc [.ref hs, .int x1] (cB (dC, dI) (kT cyB cyI cyJ cyZ cyO) (wc_k_St_droppedWithout cyB cyI cyJ cyZ cyO hs sd s_row s_has s_clean s_dn s_up s_ks s_vs s_size s_copier s_copyLeft s_tick s_seed s_dropped x1) sz)) (va_Qi (fun (r : Int32) (u : Unit) => True) (fun (u : Unit) t => cE (dC, dI) (va_A (wc_k_St_droppedWithout cyB cyI cyJ cyZ cyO hs sd s_row s_has s_clean s_dn s_up s_ks s_vs s_size s_copier s_copyLeft s_tick s_seed s_dropped x1) sz) ([(hs, .inr (5, [.ref (sd 0), .ref (sd 1), .ref (sd 2), .ref (sd 3), .ref (sd 4), .ref (sd 5), .ref (sd 6), .int s_size, .int s_copier, .int s_copyLeft, .int s_tick, .int s_seed, .int s_dropped])), (sd 0, .inl (cyI, 6, .inl s_row)), (sd 1, .inl (cyI, 8, .inl s_has)), (sd 2, .inl (cyI, 8, .inl s_clean)), (sd 3, .inl (cyI, 328, .inl s_dn)), (sd 4, .inl (cyI, 328, .inl s_up)), (sd 5, .inl (cyI, 41, .inl s_ks)), (sd 6, .inl (cyI, 41, .inl s_vs))]) t.heap) (va_A (wc_k_St_droppedWithout cyB cyI cyJ cyZ cyO hs sd s_row s_has s_clean s_dn s_up s_ks s_vs s_size s_copier s_copyLeft s_tick s_seed s_dropped x1) sz)) 0 0 (va_A (wc_k_St_droppedWithout cyB cyI cyJ cyZ cyO hs sd s_row s_has s_clean s_dn s_up s_ks s_vs s_size s_copier s_copyLeft s_tick s_seed s_dropped x1) sz) := by
  refine Met.ofW (cc := cX5_droppedWithout) (maxL := 4) (ret := (some .int)) (by decide) rfl ?_
  intro p e s m args below meth c s₁ B hml hv
  obtain ⟨rfl, hsz, hP, hKN, hD0⟩ := hv
  have hx := B.exec
  have hb := B.bytes
  have hr := B.returns
  have hts := atoms_spec (ws := wq_k_St_droppedWithout) B.pre
  have hown : s.vm.findClass RX5 = some m.cls := findClass_of_methodNamed B.named
  have hlocks := B.notSynchronized
  have hK := hKN.1
  have hfix : CallFix p m c cX5_droppedWithout 4 s [.ref hs, .int x1].toArray wq_k_St_droppedWithout RX5 := ⟨hx, hb, hml, hown, hts⟩
  have hi5 : ∀ w ∈ wsX50, w ∈ wq_k_St_droppedWithout := (sb_c (sb_r sb_l))
  subst hsz
  have hD := hD0.self (sz := s.heap.size)
  generalize hAe : va_A (wc_k_St_droppedWithout cyB cyI cyJ cyZ cyO hs sd s_row s_has s_clean s_dn s_up s_ks s_vs s_size s_copier s_copyLeft s_tick s_seed s_dropped x1) s.heap.size = A at hD ⊢
  have hA : ∀ q : Nat, s.heap.size ≤ q → A q := fun q h => by rw [← hAe]; exact Or.inr h
  have hS : va_S A s.heap s.heap [] := va_S.rf
  have hl := lv_entry ([.ref hs, .int x1]) (n := 4) (Nat.le_of_ble_eq_true rfl)
  rw [lg_entry_eq]
  generalize (lg_sl ([.ref hs, .int x1]) ++ List.replicate (4 - (lg_sl ([.ref hs, .int x1])).length) Slot.unset).toArray = ls at hl ⊢
  have hl : lv_has ls 4 [(0, .ref hs), (1, .int x1)] := hl
  refine lv_iconst (v := 0) hx hb dX5_droppedWithout_0 (by decide) ?_
  refine lv_istore_n (lv' := [(2, .int 0), (0, .ref hs), (1, .int x1)]) hx hb dX5_droppedWithout_1 rfl hl (by decide) rfl (fun ls hl => ?_)
  refine lv_iconst (v := 0) hx hb dX5_droppedWithout_2 (by decide) ?_
  refine lv_istore_n (lv' := [(3, .int 0), (2, .int 0), (0, .ref hs), (1, .int x1)]) hx hb dX5_droppedWithout_3 rfl hl (by decide) rfl (fun ls hl => ?_)
  refine w_gen (fun H locs ls hP hS hl => ?_) hP hS hl
  have k241 : (0 : Int32).toInt = 0 := by decide
  have k243 : (0 : Int32).toInt = 0 := by decide
  obtain ⟨v240, v242, hl2, hP2, hD2, b244, b245, b246, b247⟩ : ∃ (v240 : Int32) (v242 : Int32), lv_has ls 4 [(3, .int v242), (2, .int v240), (0, .ref hs), (1, .int x1)] ∧ va_P (dC, dI) vwCl [(hs, .inr (5, [.ref (sd 0), .ref (sd 1), .ref (sd 2), .ref (sd 3), .ref (sd 4), .ref (sd 5), .ref (sd 6), .int s_size, .int s_copier, .int s_copyLeft, .int s_tick, .int s_seed, .int s_dropped])), (sd 0, .inl (cyI, 6, .inl s_row)), (sd 1, .inl (cyI, 8, .inl s_has)), (sd 2, .inl (cyI, 8, .inl s_clean)), (sd 3, .inl (cyI, 328, .inl s_dn)), (sd 4, .inl (cyI, 328, .inl s_up)), (sd 5, .inl (cyI, 41, .inl s_ks)), (sd 6, .inl (cyI, 41, .inl s_vs))] H ∧ va_D A [(hs, .inr (5, [.ref (sd 0), .ref (sd 1), .ref (sd 2), .ref (sd 3), .ref (sd 4), .ref (sd 5), .ref (sd 6), .int s_size, .int s_copier, .int s_copyLeft, .int s_tick, .int s_seed, .int s_dropped])), (sd 0, .inl (cyI, 6, .inl s_row)), (sd 1, .inl (cyI, 8, .inl s_has)), (sd 2, .inl (cyI, 8, .inl s_clean)), (sd 3, .inl (cyI, 328, .inl s_dn)), (sd 4, .inl (cyI, 328, .inl s_up)), (sd 5, .inl (cyI, 41, .inl s_ks)), (sd 6, .inl (cyI, 41, .inl s_vs))] ∧ 0 ≤ v240.toInt ∧ v240.toInt ≤ 40 ∧ 0 ≤ v242.toInt ∧ v242.toInt ≤ 6 := ⟨0, 0, hl, hP, hD, by first | omega | assumption, by first | omega | assumption, by first | omega | assumption, by first | omega | assumption⟩
  clear hP hl
  have hP := hP2
  have hD := hD2
  have hl := hl2
  clear hP2 hD2 hl2
  obtain ⟨n248, hn248⟩ : ∃ n : Nat, 6 - v242.toInt < (n : Int) := ⟨(6 - v242.toInt).toNat + 1, by omega⟩
  induction n248 generalizing v240 v242 H locs ls with
  | zero => exfalso; omega
  | succ n248 ih239 =>
    refine lv_iload_n hx hb dX5_droppedWithout_4 rfl (lv_at hl 0 rfl) ?_
    refine lv_aload_n hx hb dX5_droppedWithout_5 rfl (lv_at hl 2 rfl) ?_
    refine va_get (D := (dC, dI)) (ci := 5) (v := .int s_size) (C := RX5) (T := TX5) (N := 13) hx hb hts hi5 hown hK hP 0 rfl rfl 7 (by decide) (hts _ (ow_m (k := 0) rfl)) (fun _ h9 => h9) rfl dX5_droppedWithout_6 ?_
    refine lv_icmp_ge (tgt := 47) hx hb dX5_droppedWithout_9 (by decide) (fun c249 => ?_) (fun c249 => ?_)
    · have c249 := i_le (a := s_size.toInt) (b := v242.toInt) c249 rfl rfl
      refine lv_aload_n hx hb dX5_droppedWithout_47 rfl (lv_at hl 2 rfl) ?_
      refine gf_i (wr := []) (va_runV (As := []) (rest := []) hfix (k_St_headHas l dC dI cyB cyI cyJ cyZ cyO hs sd s_row s_has s_clean s_dn s_up s_ks s_vs s_size s_copier s_copyLeft s_tick s_seed s_dropped _ (by first | omega | assumption) (by first | omega | assumption) (by first | omega | assumption) (by first | omega | assumption) (by first | omega | assumption) (by first | omega | assumption) i_s_row i_s_has i_s_clean) (cwV 0 hts (gi_V (ow_m (k := 1) rfl) (ow_m (k := 2) rfl) (ow_m (k := 3) rfl) (ow_m (k := 4) rfl) (sb_c sb_l) gd_k_St_headHas) rfl rfl rfl (by decide +kernel) ⟨Nat.le_of_ble_eq_true rfl, Nat.le_of_ble_eq_true rfl⟩) (g_preV hKN hP hD [0, 1, 2, 3, 4, 5, 6, 7] rfl (by decide) 0 5 rfl rfl) rfl rfl hl.1 rfl (lv_room (Nat.le_of_ble_eq_true rfl)) dX5_droppedWithout_48 ⟨Nat.le_of_ble_eq_true rfl, Nat.le_of_ble_eq_true rfl⟩) hP hD hS hA [0, 1, 2, 3, 4, 5, 6, 7] [] rfl rfl (by decide) (by decide) (fun r250 u251 H locs qu251 hP hD hS => ?_)
      obtain ⟨b252, b253⟩ := qu251
      have hP : va_P (dC, dI) vwCl [(hs, .inr (5, [.ref (sd 0), .ref (sd 1), .ref (sd 2), .ref (sd 3), .ref (sd 4), .ref (sd 5), .ref (sd 6), .int s_size, .int s_copier, .int s_copyLeft, .int s_tick, .int s_seed, .int s_dropped])), (sd 0, .inl (cyI, 6, .inl s_row)), (sd 1, .inl (cyI, 8, .inl s_has)), (sd 2, .inl (cyI, 8, .inl s_clean)), (sd 3, .inl (cyI, 328, .inl s_dn)), (sd 4, .inl (cyI, 328, .inl s_up)), (sd 5, .inl (cyI, 41, .inl s_ks)), (sd 6, .inl (cyI, 41, .inl s_vs))] H := hP
      have hD : va_D A [(hs, .inr (5, [.ref (sd 0), .ref (sd 1), .ref (sd 2), .ref (sd 3), .ref (sd 4), .ref (sd 5), .ref (sd 6), .int s_size, .int s_copier, .int s_copyLeft, .int s_tick, .int s_seed, .int s_dropped])), (sd 0, .inl (cyI, 6, .inl s_row)), (sd 1, .inl (cyI, 8, .inl s_has)), (sd 2, .inl (cyI, 8, .inl s_clean)), (sd 3, .inl (cyI, 328, .inl s_dn)), (sd 4, .inl (cyI, 328, .inl s_up)), (sd 5, .inl (cyI, 41, .inl s_ks)), (sd 6, .inl (cyI, 41, .inl s_vs))] := hD
      refine lv_iload_n hx hb dX5_droppedWithout_51 rfl (lv_at hl 1 rfl) ?_
      refine lv_isub hx hb dX5_droppedWithout_52 ?_
      refine lv_topi (fun z254 ez254 => ?_)
      have tz254 := ti_sub (a := r250.toInt) (b := v240.toInt) ez254 rfl rfl (by omega) (by omega)
      exact W.iret (v := z254) hx hb hr (fun t ht hW => ⟨⟨z254, (), rfl, trivial, cE.of ht hP hD [0, 1, 2, 3, 4, 5, 6, 7] (by decide) rfl⟩, hS.F ht⟩) hS.2.2 dX5_droppedWithout_53
    · have c249 := i_nle (a := s_size.toInt) (b := v242.toInt) c249 rfl rfl
      refine lv_iload_n hx hb dX5_droppedWithout_12 rfl (lv_at hl 3 rfl) ?_
      refine lv_aload_n hx hb dX5_droppedWithout_13 rfl (lv_at hl 2 rfl) ?_
      refine va_get (D := (dC, dI)) (ci := 5) (v := .ref (sd 0)) (C := RX5) (T := TX5) (N := 13) hx hb hts hi5 hown hK hP 0 rfl rfl 0 (by decide) (hts _ (ow_m (k := 5) rfl)) (fun _ h9 => h9) rfl dX5_droppedWithout_14 ?_
      refine lv_iload_n hx hb dX5_droppedWithout_17 rfl (lv_at hl 0 rfl) ?_
      have nz255 : vp_in v242 6 := (vp_i rfl (by omega) (by omega))
      refine va_iald hx hb hK hP 1 1 rfl rfl nz255 dX5_droppedWithout_18 ?_
      refine lv_topi (fun z255 ez255 => ?_)
      have tz255 := i_s_row.at ez255 nz255
      refine lv_ishr hx hb dX5_droppedWithout_19 ?_
      refine lv_topi (fun z256 ez256 => ?_)
      refine lv_iconst (v := 1) hx hb dX5_droppedWithout_20 (by decide) ?_
      refine lv_iand hx hb dX5_droppedWithout_21 ?_
      refine lv_topi (fun z257 ez257 => ?_)
      have tz257 := ti_and z256 (m := 1) 1 ez257 rfl (by decide)
      refine lv_if_ne (tgt := 41) hx hb dX5_droppedWithout_22 (by decide) (fun c258 => ?_) (fun c258 => ?_)
      · have c258 := i_ne (a := z257.toInt) (b := 0) c258 rfl (by decide)
        obtain ⟨z259, ez259⟩ : ∃ y : Int32, y = v242 + 1 := ⟨_, rfl⟩
        have tz259 := ti_add (a := v242.toInt) (b := 1) ez259 rfl (by decide) (by omega) (by omega)
        refine lv_iinc (v := z259) (lv' := [(3, .int z259), (2, .int v240), (0, .ref hs), (1, .int x1)]) hx hb dX5_droppedWithout_41 hl (k := 0) rfl (by rw [ez259]; rfl) (by decide) rfl (fun ls hl => ?_)
        refine lv_goto (tgt := 4) hx hb dX5_droppedWithout_44 (by decide) ?_
        have hl := lv_sub (l' := [(3, .int z259), (2, .int v240), (0, .ref hs), (1, .int x1)]) hl [0, 1, 2, 3] rfl
        apply ih239 (v240 := v240) (v242 := z259) (H := H) (locs := locs) (ls := ls) <;> first | assumption | omega
      · have c258 := i_eq (a := z257.toInt) (b := 0) c258 rfl (by decide)
        refine lv_iload_n hx hb dX5_droppedWithout_25 rfl (lv_at hl 1 rfl) ?_
        refine lv_aload_n hx hb dX5_droppedWithout_26 rfl (lv_at hl 2 rfl) ?_
        refine va_get (D := (dC, dI)) (ci := 5) (v := .ref (sd 1)) (C := RX5) (T := TX5) (N := 13) hx hb hts hi5 hown hK hP 0 rfl rfl 1 (by decide) (hts _ (ow_m (k := 6) rfl)) (fun _ h9 => h9) rfl dX5_droppedWithout_27 ?_
        refine lv_aload_n hx hb dX5_droppedWithout_30 rfl (lv_at hl 2 rfl) ?_
        refine va_get (D := (dC, dI)) (ci := 5) (v := .ref (sd 0)) (C := RX5) (T := TX5) (N := 13) hx hb hts hi5 hown hK hP 0 rfl rfl 0 (by decide) (hts _ (ow_m (k := 5) rfl)) (fun _ h9 => h9) rfl dX5_droppedWithout_31 ?_
        refine lv_iload_n hx hb dX5_droppedWithout_34 rfl (lv_at hl 0 rfl) ?_
        have nz260 : vp_in v242 6 := (vp_i rfl (by omega) (by omega))
        refine va_iald hx hb hK hP 1 1 rfl rfl nz260 dX5_droppedWithout_35 ?_
        refine lv_topi (fun z260 ez260 => ?_)
        have tz260 := i_s_row.at ez260 nz260
        have nz261 : vp_in z260 8 := (vp_i rfl (by omega) (by omega))
        refine va_iald hx hb hK hP 2 1 rfl rfl nz261 dX5_droppedWithout_36 ?_
        refine lv_topi (fun z261 ez261 => ?_)
        have tz261 := i_s_has.at ez261 nz261
        refine va_mmax hx hb (hml.trans hl.1.symm) hown (hts _ (ow_m (k := 7) rfl)) (hts _ (ow_m (k := 8) rfl)) (hts _ (ow_m (k := 9) rfl)) (hts _ (ow_m (k := 10) rfl)) (Nat.le_of_ble_eq_true rfl) (Nat.le_of_ble_eq_true rfl) (Nat.le_of_ble_eq_true rfl) (Nat.le_of_ble_eq_true rfl) dX5_droppedWithout_37 ?_
        refine lv_topi (fun z262 ez262 => ?_)
        have tz262 := mm_max (a := v240.toInt) (b := z261.toInt) ez262 rfl rfl
        refine lv_istore_n (lv' := [(2, .int z262), (3, .int v242), (0, .ref hs), (1, .int x1)]) hx hb dX5_droppedWithout_40 rfl hl (by decide) rfl (fun ls hl => ?_)
        obtain ⟨z263, ez263⟩ : ∃ y : Int32, y = v242 + 1 := ⟨_, rfl⟩
        have tz263 := ti_add (a := v242.toInt) (b := 1) ez263 rfl (by decide) (by omega) (by omega)
        refine lv_iinc (v := z263) (lv' := [(3, .int z263), (2, .int z262), (0, .ref hs), (1, .int x1)]) hx hb dX5_droppedWithout_41 hl (k := 1) rfl (by rw [ez263]; rfl) (by decide) rfl (fun ls hl => ?_)
        refine lv_goto (tgt := 4) hx hb dX5_droppedWithout_44 (by decide) ?_
        have hl := lv_sub (l' := [(3, .int z263), (2, .int z262), (0, .ref hs), (1, .int x1)]) hl [0, 1, 2, 3] rfl
        apply ih239 (v240 := z262) (v242 := z263) (H := H) (locs := locs) (ls := ls) <;> first | assumption | omega
def wo_k_Si_forget : List Cond := [.fieldLink RX4 25 "ReplicaChain$Sightings" "count" "I"]
def wq_k_Si_forget : List Cond := .code yX4_forget cX4_forget 1 none :: (wo_k_Si_forget ++ (wsX40 ++ []))
theorem gd_k_Si_forget : Gd wq_k_Si_forget := gd_c (gd_a (gd_o (by decide +kernel)) (gd_a gd_u gd_0))
abbrev wc_k_Si_forget (cyB cyI cyJ cyZ cyO : ClassId) (hg : Nat) (gd : Nat → Nat) (g_ticks : Nat → Int32) (g_is : Nat → Int32) (g_toldAt : Nat → Int32) (g_untold : Nat → Int32) (g_count : Int32) : va_W := [(hg, .inr (4, [.ref (gd 0), .ref (gd 1), .ref (gd 2), .ref (gd 3), .int g_count])), (gd 0, .inl (cyI, 30, .inl g_ticks)), (gd 1, .inl (cyZ, 30, .inl g_is)), (gd 2, .inl (cyI, 30, .inl g_toldAt)), (gd 3, .inl (cyI, 30, .inl g_untold))]
set_option maxHeartbeats 4000000 in
set_option maxRecDepth 100000 in
theorem k_Si_forget (l : Launch) (dC : Nat → ClassId) (dI : Nat → Nat → Nat) (cyB cyI cyJ cyZ cyO : ClassId) (hg : Nat) (gd : Nat → Nat) (g_ticks : Nat → Int32) (g_is : Nat → Int32) (g_toldAt : Nat → Int32) (g_untold : Nat → Int32) (g_count : Int32) (sz : Nat) (l_g_count : 0 ≤ g_count.toInt) (u_g_count : g_count.toInt ≤ 30) : Met l yX4_forget wq_k_Si_forget ({ frames := 0, cells := 0, slots := 0, locals := 0 }) (va_Pc [.ref hg] (cB (dC, dI) (kT cyB cyI cyJ cyZ cyO) (wc_k_Si_forget cyB cyI cyJ cyZ cyO hg gd g_ticks g_is g_toldAt g_untold g_count) sz)) (va_Qv (fun (u : ST) => 0 ≤ (u.2 0).toInt ∧ (u.2 0).toInt ≤ 30) (fun (u : ST) t => cE (dC, dI) (va_A (wc_k_Si_forget cyB cyI cyJ cyZ cyO hg gd g_ticks g_is g_toldAt g_untold g_count) sz) ([(hg, .inr (4, [.ref (gd 0), .ref (gd 1), .ref (gd 2), .ref (gd 3), .int (u.2 0)])), (gd 0, .inl (cyI, 30, .inl g_ticks)), (gd 1, .inl (cyZ, 30, .inl g_is)), (gd 2, .inl (cyI, 30, .inl g_toldAt)), (gd 3, .inl (cyI, 30, .inl g_untold))]) t.heap) (va_A (wc_k_Si_forget cyB cyI cyJ cyZ cyO hg gd g_ticks g_is g_toldAt g_untold g_count) sz)) 0 0 (va_A (wc_k_Si_forget cyB cyI cyJ cyZ cyO hg gd g_ticks g_is g_toldAt g_untold g_count) sz) := by
  refine Met.ofW (cc := cX4_forget) (maxL := 1) (ret := none) (by decide) rfl ?_
  intro p e s m args below meth c s₁ B hml hv
  obtain ⟨rfl, hsz, hP, hKN, hD0⟩ := hv
  have hx := B.exec
  have hb := B.bytes
  have hr := B.returns
  have hts := atoms_spec (ws := wq_k_Si_forget) B.pre
  have hown : s.vm.findClass RX4 = some m.cls := findClass_of_methodNamed B.named
  have hlocks := B.notSynchronized
  have hK := hKN.1
  have hfix : CallFix p m c cX4_forget 1 s [.ref hg].toArray wq_k_Si_forget RX4 := ⟨hx, hb, hml, hown, hts⟩
  have hi4 : ∀ w ∈ wsX40, w ∈ wq_k_Si_forget := (sb_c sb_l)
  subst hsz
  have hD := hD0.self (sz := s.heap.size)
  generalize hAe : va_A (wc_k_Si_forget cyB cyI cyJ cyZ cyO hg gd g_ticks g_is g_toldAt g_untold g_count) s.heap.size = A at hD ⊢
  have hA : ∀ q : Nat, s.heap.size ≤ q → A q := fun q h => by rw [← hAe]; exact Or.inr h
  have hS : va_S A s.heap s.heap [] := va_S.rf
  have hl := lv_entry ([.ref hg]) (n := 1) (Nat.le_of_ble_eq_true rfl)
  rw [lg_entry_eq]
  generalize (lg_sl ([.ref hg]) ++ List.replicate (1 - (lg_sl ([.ref hg])).length) Slot.unset).toArray = ls at hl ⊢
  have hl : lv_has ls 1 [(0, .ref hg)] := hl
  refine lv_aload_n hx hb dX4_forget_0 rfl (lv_at hl 0 rfl) ?_
  refine lv_iconst (v := 0) hx hb dX4_forget_1 (by decide) ?_
  refine va_put (D := (dC, dI)) (ci := 4) (v := .int 0) (ty := .int) (C := RX4) (T := TX4) (N := 5) hx hb hts hi4 tyX4 tyX4_ok nmX4 hown hK hP hD hS 0 rfl rfl 4 (by decide) (hts _ (ow_m (k := 0) rfl)) (fun _ h9 => h9) rfl (by decide +kernel) rfl rfl (Nat.le_of_ble_eq_true rfl) dX4_forget_2 (fun H locs hP hD hS => ?_)
  have hP : va_P (dC, dI) vwCl [(hg, .inr (4, [.ref (gd 0), .ref (gd 1), .ref (gd 2), .ref (gd 3), .int 0])), (gd 0, .inl (cyI, 30, .inl g_ticks)), (gd 1, .inl (cyZ, 30, .inl g_is)), (gd 2, .inl (cyI, 30, .inl g_toldAt)), (gd 3, .inl (cyI, 30, .inl g_untold))] H := hP
  have hD : va_D A [(hg, .inr (4, [.ref (gd 0), .ref (gd 1), .ref (gd 2), .ref (gd 3), .int 0])), (gd 0, .inl (cyI, 30, .inl g_ticks)), (gd 1, .inl (cyZ, 30, .inl g_is)), (gd 2, .inl (cyI, 30, .inl g_toldAt)), (gd 3, .inl (cyI, 30, .inl g_untold))] := hD
  have w264 : 0 ≤ (0 : Int32).toInt := by decide
  have w265 : (0 : Int32).toInt ≤ 30 := by decide
  exact W.vret hx hb hr (fun t ht hW => ⟨⟨((fun _ => fun _ => 0), (fun _ => 0)), rfl, ⟨w264, w265⟩, cE.of ht hP hD [0, 1, 2, 3, 4] (by decide) rfl⟩, hS.F ht⟩) hS.2.2 dX4_forget_5
def wo_k_Si_tell : List Cond := [.fieldLink RX4 25 "ReplicaChain$Sightings" "count" "I", .fieldLink RX4 9 "ReplicaChain$Sightings" "ticks" "[I", .fieldLink RX4 15 "ReplicaChain$Sightings" "is" "[Z", .fieldLink RX4 19 "ReplicaChain$Sightings" "toldAt" "[I", .fieldLink RX4 22 "ReplicaChain$Sightings" "untoldAt" "[I"]
def wq_k_Si_tell : List Cond := .code yX4_tell cX4_tell 4 (some .int) :: (wo_k_Si_tell ++ (wsX40 ++ []))
theorem gd_k_Si_tell : Gd wq_k_Si_tell := gd_c (gd_a (gd_o (by decide +kernel)) (gd_a gd_u gd_0))
abbrev wc_k_Si_tell (cyB cyI cyJ cyZ cyO : ClassId) (hg : Nat) (gd : Nat → Nat) (g_ticks : Nat → Int32) (g_is : Nat → Int32) (g_toldAt : Nat → Int32) (g_untold : Nat → Int32) (g_count : Int32) (x1 : Int32) (x2 : Int32) (x3 : Int32) : va_W := [(hg, .inr (4, [.ref (gd 0), .ref (gd 1), .ref (gd 2), .ref (gd 3), .int g_count])), (gd 0, .inl (cyI, 30, .inl g_ticks)), (gd 1, .inl (cyZ, 30, .inl g_is)), (gd 2, .inl (cyI, 30, .inl g_toldAt)), (gd 3, .inl (cyI, 30, .inl g_untold))]
set_option maxHeartbeats 4000000 in
set_option maxRecDepth 100000 in
theorem k_Si_tell (l : Launch) (dC : Nat → ClassId) (dI : Nat → Nat → Nat) (cyB cyI cyJ cyZ cyO : ClassId) (hg : Nat) (gd : Nat → Nat) (g_ticks : Nat → Int32) (g_is : Nat → Int32) (g_toldAt : Nat → Int32) (g_untold : Nat → Int32) (g_count : Int32) (x1 : Int32) (x2 : Int32) (x3 : Int32) (sz : Nat) (l_g_count : 0 ≤ g_count.toInt) (u_g_count : g_count.toInt ≤ 30) : Met l yX4_tell wq_k_Si_tell ({ frames := 0, cells := 0, slots := 0, locals := 0 }) (va_Pc [.ref hg, .int x1, .int x2, .int x3] (cB (dC, dI) (kT cyB cyI cyJ cyZ cyO) (wc_k_Si_tell cyB cyI cyJ cyZ cyO hg gd g_ticks g_is g_toldAt g_untold g_count x1 x2 x3) sz)) (va_Qi (fun (r : Int32) (u : ST) => 0 ≤ (u.2 0).toInt ∧ (u.2 0).toInt ≤ 30) (fun (u : ST) t => cE (dC, dI) (va_A (wc_k_Si_tell cyB cyI cyJ cyZ cyO hg gd g_ticks g_is g_toldAt g_untold g_count x1 x2 x3) sz) ([(hg, .inr (4, [.ref (gd 0), .ref (gd 1), .ref (gd 2), .ref (gd 3), .int (u.2 0)])), (gd 0, .inl (cyI, 30, .inl (u.1 0))), (gd 1, .inl (cyZ, 30, .inl (u.1 1))), (gd 2, .inl (cyI, 30, .inl (u.1 2))), (gd 3, .inl (cyI, 30, .inl (u.1 3)))]) t.heap) (va_A (wc_k_Si_tell cyB cyI cyJ cyZ cyO hg gd g_ticks g_is g_toldAt g_untold g_count x1 x2 x3) sz)) 0 0 (va_A (wc_k_Si_tell cyB cyI cyJ cyZ cyO hg gd g_ticks g_is g_toldAt g_untold g_count x1 x2 x3) sz) := by
  refine Met.ofW (cc := cX4_tell) (maxL := 4) (ret := (some .int)) (by decide) rfl ?_
  intro p e s m args below meth c s₁ B hml hv
  obtain ⟨rfl, hsz, hP, hKN, hD0⟩ := hv
  have hx := B.exec
  have hb := B.bytes
  have hr := B.returns
  have hts := atoms_spec (ws := wq_k_Si_tell) B.pre
  have hown : s.vm.findClass RX4 = some m.cls := findClass_of_methodNamed B.named
  have hlocks := B.notSynchronized
  have hK := hKN.1
  have hfix : CallFix p m c cX4_tell 4 s [.ref hg, .int x1, .int x2, .int x3].toArray wq_k_Si_tell RX4 := ⟨hx, hb, hml, hown, hts⟩
  have hi4 : ∀ w ∈ wsX40, w ∈ wq_k_Si_tell := (sb_c sb_l)
  subst hsz
  have hD := hD0.self (sz := s.heap.size)
  generalize hAe : va_A (wc_k_Si_tell cyB cyI cyJ cyZ cyO hg gd g_ticks g_is g_toldAt g_untold g_count x1 x2 x3) s.heap.size = A at hD ⊢
  have hA : ∀ q : Nat, s.heap.size ≤ q → A q := fun q h => by rw [← hAe]; exact Or.inr h
  have hS : va_S A s.heap s.heap [] := va_S.rf
  have hl := lv_entry ([.ref hg, .int x1, .int x2, .int x3]) (n := 4) (Nat.le_of_ble_eq_true rfl)
  rw [lg_entry_eq]
  generalize (lg_sl ([.ref hg, .int x1, .int x2, .int x3]) ++ List.replicate (4 - (lg_sl ([.ref hg, .int x1, .int x2, .int x3])).length) Slot.unset).toArray = ls at hl ⊢
  have hl : lv_has ls 4 [(0, .ref hg), (1, .int x1), (2, .int x2), (3, .int x3)] := hl
  refine lv_aload_n hx hb dX4_tell_0 rfl (lv_at hl 0 rfl) ?_
  refine va_get (D := (dC, dI)) (ci := 4) (v := .int g_count) (C := RX4) (T := TX4) (N := 5) hx hb hts hi4 hown hK hP 0 rfl rfl 4 (by decide) (hts _ (ow_m (k := 0) rfl)) (fun _ h9 => h9) rfl dX4_tell_1 ?_
  refine lv_bipush (v := 30) hx hb dX4_tell_4 (by decide) ?_
  refine lv_icmp_lt (tgt := 11) hx hb dX4_tell_6 (by decide) (fun c266 => ?_) (fun c266 => ?_)
  · have c266 := i_lt (a := g_count.toInt) (b := 30) c266 rfl (by decide)
    refine lv_aload_n hx hb dX4_tell_11 rfl (lv_at hl 0 rfl) ?_
    refine va_get (D := (dC, dI)) (ci := 4) (v := .ref (gd 0)) (C := RX4) (T := TX4) (N := 5) hx hb hts hi4 hown hK hP 0 rfl rfl 0 (by decide) (hts _ (ow_m (k := 1) rfl)) (fun _ h9 => h9) rfl dX4_tell_12 ?_
    refine lv_aload_n hx hb dX4_tell_15 rfl (lv_at hl 0 rfl) ?_
    refine va_get (D := (dC, dI)) (ci := 4) (v := .int g_count) (C := RX4) (T := TX4) (N := 5) hx hb hts hi4 hown hK hP 0 rfl rfl 4 (by decide) (hts _ (ow_m (k := 0) rfl)) (fun _ h9 => h9) rfl dX4_tell_16 ?_
    refine lv_iload_n hx hb dX4_tell_19 rfl (lv_at hl 1 rfl) ?_
    refine va_iast hx hb hK hP hD hS 1 1 rfl rfl (vp_i rfl (by omega) (by omega)) dX4_tell_20 (fun H locs hP hD hS => ?_)
    have hP : va_P (dC, dI) vwCl [(hg, .inr (4, [.ref (gd 0), .ref (gd 1), .ref (gd 2), .ref (gd 3), .int g_count])), (gd 0, .inl (cyI, 30, .inl (upd g_ticks g_count.toNatClampNeg x1))), (gd 1, .inl (cyZ, 30, .inl g_is)), (gd 2, .inl (cyI, 30, .inl g_toldAt)), (gd 3, .inl (cyI, 30, .inl g_untold))] H := hP
    have hD : va_D A [(hg, .inr (4, [.ref (gd 0), .ref (gd 1), .ref (gd 2), .ref (gd 3), .int g_count])), (gd 0, .inl (cyI, 30, .inl (upd g_ticks g_count.toNatClampNeg x1))), (gd 1, .inl (cyZ, 30, .inl g_is)), (gd 2, .inl (cyI, 30, .inl g_toldAt)), (gd 3, .inl (cyI, 30, .inl g_untold))] := hD
    generalize ef267 : upd g_ticks g_count.toNatClampNeg x1 = f267 at hP hD
    refine lv_aload_n hx hb dX4_tell_21 rfl (lv_at hl 0 rfl) ?_
    refine va_get (D := (dC, dI)) (ci := 4) (v := .ref (gd 1)) (C := RX4) (T := TX4) (N := 5) hx hb hts hi4 hown hK hP 0 rfl rfl 1 (by decide) (hts _ (ow_m (k := 2) rfl)) (fun _ h9 => h9) rfl dX4_tell_22 ?_
    refine lv_aload_n hx hb dX4_tell_25 rfl (lv_at hl 0 rfl) ?_
    refine va_get (D := (dC, dI)) (ci := 4) (v := .int g_count) (C := RX4) (T := TX4) (N := 5) hx hb hts hi4 hown hK hP 0 rfl rfl 4 (by decide) (hts _ (ow_m (k := 0) rfl)) (fun _ h9 => h9) rfl dX4_tell_26 ?_
    refine lv_iload_n hx hb dX4_tell_29 rfl (lv_at hl 2 rfl) ?_
    refine va_zast hx hb hK hP hD hS 2 3 rfl rfl (vp_i rfl (by omega) (by omega)) dX4_tell_30 (fun H locs hP hD hS => ?_)
    have hP : va_P (dC, dI) vwCl [(hg, .inr (4, [.ref (gd 0), .ref (gd 1), .ref (gd 2), .ref (gd 3), .int g_count])), (gd 0, .inl (cyI, 30, .inl f267)), (gd 1, .inl (cyZ, 30, .inl (upd g_is g_count.toNatClampNeg (vp_nar .boolean x2)))), (gd 2, .inl (cyI, 30, .inl g_toldAt)), (gd 3, .inl (cyI, 30, .inl g_untold))] H := hP
    have hD : va_D A [(hg, .inr (4, [.ref (gd 0), .ref (gd 1), .ref (gd 2), .ref (gd 3), .int g_count])), (gd 0, .inl (cyI, 30, .inl f267)), (gd 1, .inl (cyZ, 30, .inl (upd g_is g_count.toNatClampNeg (vp_nar .boolean x2)))), (gd 2, .inl (cyI, 30, .inl g_toldAt)), (gd 3, .inl (cyI, 30, .inl g_untold))] := hD
    generalize ef268 : upd g_is g_count.toNatClampNeg (vp_nar .boolean x2) = f268 at hP hD
    refine lv_aload_n hx hb dX4_tell_31 rfl (lv_at hl 0 rfl) ?_
    refine va_get (D := (dC, dI)) (ci := 4) (v := .ref (gd 2)) (C := RX4) (T := TX4) (N := 5) hx hb hts hi4 hown hK hP 0 rfl rfl 2 (by decide) (hts _ (ow_m (k := 3) rfl)) (fun _ h9 => h9) rfl dX4_tell_32 ?_
    refine lv_aload_n hx hb dX4_tell_35 rfl (lv_at hl 0 rfl) ?_
    refine va_get (D := (dC, dI)) (ci := 4) (v := .int g_count) (C := RX4) (T := TX4) (N := 5) hx hb hts hi4 hown hK hP 0 rfl rfl 4 (by decide) (hts _ (ow_m (k := 0) rfl)) (fun _ h9 => h9) rfl dX4_tell_36 ?_
    refine lv_iload_n hx hb dX4_tell_39 rfl (lv_at hl 3 rfl) ?_
    refine va_iast hx hb hK hP hD hS 3 1 rfl rfl (vp_i rfl (by omega) (by omega)) dX4_tell_40 (fun H locs hP hD hS => ?_)
    have hP : va_P (dC, dI) vwCl [(hg, .inr (4, [.ref (gd 0), .ref (gd 1), .ref (gd 2), .ref (gd 3), .int g_count])), (gd 0, .inl (cyI, 30, .inl f267)), (gd 1, .inl (cyZ, 30, .inl f268)), (gd 2, .inl (cyI, 30, .inl (upd g_toldAt g_count.toNatClampNeg x3))), (gd 3, .inl (cyI, 30, .inl g_untold))] H := hP
    have hD : va_D A [(hg, .inr (4, [.ref (gd 0), .ref (gd 1), .ref (gd 2), .ref (gd 3), .int g_count])), (gd 0, .inl (cyI, 30, .inl f267)), (gd 1, .inl (cyZ, 30, .inl f268)), (gd 2, .inl (cyI, 30, .inl (upd g_toldAt g_count.toNatClampNeg x3))), (gd 3, .inl (cyI, 30, .inl g_untold))] := hD
    generalize ef269 : upd g_toldAt g_count.toNatClampNeg x3 = f269 at hP hD
    refine lv_aload_n hx hb dX4_tell_41 rfl (lv_at hl 0 rfl) ?_
    refine va_get (D := (dC, dI)) (ci := 4) (v := .ref (gd 3)) (C := RX4) (T := TX4) (N := 5) hx hb hts hi4 hown hK hP 0 rfl rfl 3 (by decide) (hts _ (ow_m (k := 4) rfl)) (fun _ h9 => h9) rfl dX4_tell_42 ?_
    refine lv_aload_n hx hb dX4_tell_45 rfl (lv_at hl 0 rfl) ?_
    refine va_get (D := (dC, dI)) (ci := 4) (v := .int g_count) (C := RX4) (T := TX4) (N := 5) hx hb hts hi4 hown hK hP 0 rfl rfl 4 (by decide) (hts _ (ow_m (k := 0) rfl)) (fun _ h9 => h9) rfl dX4_tell_46 ?_
    refine lv_iconst (v := (-1)) hx hb dX4_tell_49 (by decide) ?_
    refine va_iast hx hb hK hP hD hS 4 1 rfl rfl (vp_i rfl (by omega) (by omega)) dX4_tell_50 (fun H locs hP hD hS => ?_)
    have hP : va_P (dC, dI) vwCl [(hg, .inr (4, [.ref (gd 0), .ref (gd 1), .ref (gd 2), .ref (gd 3), .int g_count])), (gd 0, .inl (cyI, 30, .inl f267)), (gd 1, .inl (cyZ, 30, .inl f268)), (gd 2, .inl (cyI, 30, .inl f269)), (gd 3, .inl (cyI, 30, .inl (upd g_untold g_count.toNatClampNeg (-1))))] H := hP
    have hD : va_D A [(hg, .inr (4, [.ref (gd 0), .ref (gd 1), .ref (gd 2), .ref (gd 3), .int g_count])), (gd 0, .inl (cyI, 30, .inl f267)), (gd 1, .inl (cyZ, 30, .inl f268)), (gd 2, .inl (cyI, 30, .inl f269)), (gd 3, .inl (cyI, 30, .inl (upd g_untold g_count.toNatClampNeg (-1))))] := hD
    generalize ef270 : upd g_untold g_count.toNatClampNeg (-1) = f270 at hP hD
    refine lv_aload_n hx hb dX4_tell_51 rfl (lv_at hl 0 rfl) ?_
    refine lv_dup hx hb dX4_tell_52 rfl ?_
    refine va_get (D := (dC, dI)) (ci := 4) (v := .int g_count) (C := RX4) (T := TX4) (N := 5) hx hb hts hi4 hown hK hP 0 rfl rfl 4 (by decide) (hts _ (ow_m (k := 0) rfl)) (fun _ h9 => h9) rfl dX4_tell_53 ?_
    refine lv_iconst (v := 1) hx hb dX4_tell_56 (by decide) ?_
    refine lv_iadd hx hb dX4_tell_57 ?_
    refine lv_topi (fun z271 ez271 => ?_)
    have tz271 := ti_add (a := g_count.toInt) (b := 1) ez271 rfl (by decide) (by omega) (by omega)
    refine va_put (D := (dC, dI)) (ci := 4) (v := .int z271) (ty := .int) (C := RX4) (T := TX4) (N := 5) hx hb hts hi4 tyX4 tyX4_ok nmX4 hown hK hP hD hS 0 rfl rfl 4 (by decide) (hts _ (ow_m (k := 0) rfl)) (fun _ h9 => h9) rfl (by decide +kernel) rfl rfl (Nat.le_of_ble_eq_true rfl) dX4_tell_58 (fun H locs hP hD hS => ?_)
    have hP : va_P (dC, dI) vwCl [(hg, .inr (4, [.ref (gd 0), .ref (gd 1), .ref (gd 2), .ref (gd 3), .int z271])), (gd 0, .inl (cyI, 30, .inl f267)), (gd 1, .inl (cyZ, 30, .inl f268)), (gd 2, .inl (cyI, 30, .inl f269)), (gd 3, .inl (cyI, 30, .inl f270))] H := hP
    have hD : va_D A [(hg, .inr (4, [.ref (gd 0), .ref (gd 1), .ref (gd 2), .ref (gd 3), .int z271])), (gd 0, .inl (cyI, 30, .inl f267)), (gd 1, .inl (cyZ, 30, .inl f268)), (gd 2, .inl (cyI, 30, .inl f269)), (gd 3, .inl (cyI, 30, .inl f270))] := hD
    refine lv_aload_n hx hb dX4_tell_61 rfl (lv_at hl 0 rfl) ?_
    refine va_get (D := (dC, dI)) (ci := 4) (v := .int z271) (C := RX4) (T := TX4) (N := 5) hx hb hts hi4 hown hK hP 0 rfl rfl 4 (by decide) (hts _ (ow_m (k := 0) rfl)) (fun _ h9 => h9) rfl dX4_tell_62 ?_
    refine lv_iconst (v := 1) hx hb dX4_tell_65 (by decide) ?_
    refine lv_isub hx hb dX4_tell_66 ?_
    refine lv_topi (fun z272 ez272 => ?_)
    have tz272 := ti_sub (a := z271.toInt) (b := 1) ez272 rfl (by decide) (by omega) (by omega)
    have w273 : 0 ≤ z271.toInt := by first | omega | assumption
    have w274 : z271.toInt ≤ 30 := by first | omega | assumption
    exact W.iret (v := z272) hx hb hr (fun t ht hW => ⟨⟨z272, ((fun k => match k with | 0 => f267 | 1 => f268 | 2 => f269 | _ => f270), (fun _ => z271)), rfl, ⟨w273, w274⟩, cE.of ht hP hD [0, 1, 2, 3, 4] (by decide) rfl⟩, hS.F ht⟩) hS.2.2 dX4_tell_67
  · have c266 := i_nlt (a := g_count.toInt) (b := 30) c266 rfl (by decide)
    refine lv_iconst (v := (-1)) hx hb dX4_tell_9 (by decide) ?_
    have w275 : 0 ≤ g_count.toInt := by first | omega | assumption
    have w276 : g_count.toInt ≤ 30 := by first | omega | assumption
    exact W.iret (v := (-1)) hx hb hr (fun t ht hW => ⟨⟨(-1), ((fun k => match k with | 0 => g_ticks | 1 => g_is | 2 => g_toldAt | _ => g_untold), (fun _ => g_count)), rfl, ⟨w275, w276⟩, cE.of ht hP hD [0, 1, 2, 3, 4] (by decide) rfl⟩, hS.F ht⟩) hS.2.2 dX4_tell_10
def wo_k_Si_takeBack : List Cond := [.fieldLink RX4 25 "ReplicaChain$Sightings" "count" "I", .fieldLink RX4 22 "ReplicaChain$Sightings" "untoldAt" "[I"]
def wq_k_Si_takeBack : List Cond := .code yX4_takeBack cX4_takeBack 3 (some .boolean) :: (wo_k_Si_takeBack ++ (wsX40 ++ []))
theorem gd_k_Si_takeBack : Gd wq_k_Si_takeBack := gd_c (gd_a (gd_o (by decide +kernel)) (gd_a gd_u gd_0))
abbrev wc_k_Si_takeBack (cyB cyI cyJ cyZ cyO : ClassId) (hg : Nat) (gd : Nat → Nat) (g_ticks : Nat → Int32) (g_is : Nat → Int32) (g_toldAt : Nat → Int32) (g_untold : Nat → Int32) (g_count : Int32) (x1 : Int32) (x2 : Int32) : va_W := [(hg, .inr (4, [.ref (gd 0), .ref (gd 1), .ref (gd 2), .ref (gd 3), .int g_count])), (gd 0, .inl (cyI, 30, .inl g_ticks)), (gd 1, .inl (cyZ, 30, .inl g_is)), (gd 2, .inl (cyI, 30, .inl g_toldAt)), (gd 3, .inl (cyI, 30, .inl g_untold))]
set_option maxHeartbeats 4000000 in
set_option maxRecDepth 100000 in
theorem k_Si_takeBack (l : Launch) (dC : Nat → ClassId) (dI : Nat → Nat → Nat) (cyB cyI cyJ cyZ cyO : ClassId) (hg : Nat) (gd : Nat → Nat) (g_ticks : Nat → Int32) (g_is : Nat → Int32) (g_toldAt : Nat → Int32) (g_untold : Nat → Int32) (g_count : Int32) (x1 : Int32) (x2 : Int32) (sz : Nat) (l_g_count : 0 ≤ g_count.toInt) (u_g_count : g_count.toInt ≤ 30) : Met l yX4_takeBack wq_k_Si_takeBack ({ frames := 0, cells := 0, slots := 0, locals := 0 }) (va_Pc [.ref hg, .int x1, .int x2] (cB (dC, dI) (kT cyB cyI cyJ cyZ cyO) (wc_k_Si_takeBack cyB cyI cyJ cyZ cyO hg gd g_ticks g_is g_toldAt g_untold g_count x1 x2) sz)) (va_Qi (fun (r : Int32) (u : ST) => 0 ≤ r.toInt ∧ r.toInt ≤ 1) (fun (u : ST) t => cE (dC, dI) (va_A (wc_k_Si_takeBack cyB cyI cyJ cyZ cyO hg gd g_ticks g_is g_toldAt g_untold g_count x1 x2) sz) ([(hg, .inr (4, [.ref (gd 0), .ref (gd 1), .ref (gd 2), .ref (gd 3), .int g_count])), (gd 0, .inl (cyI, 30, .inl g_ticks)), (gd 1, .inl (cyZ, 30, .inl g_is)), (gd 2, .inl (cyI, 30, .inl g_toldAt)), (gd 3, .inl (cyI, 30, .inl (u.1 0)))]) t.heap) (va_A (wc_k_Si_takeBack cyB cyI cyJ cyZ cyO hg gd g_ticks g_is g_toldAt g_untold g_count x1 x2) sz)) 0 0 (va_A (wc_k_Si_takeBack cyB cyI cyJ cyZ cyO hg gd g_ticks g_is g_toldAt g_untold g_count x1 x2) sz) := by
  refine Met.ofW (cc := cX4_takeBack) (maxL := 3) (ret := (some .boolean)) (by decide) rfl ?_
  intro p e s m args below meth c s₁ B hml hv
  obtain ⟨rfl, hsz, hP, hKN, hD0⟩ := hv
  have hx := B.exec
  have hb := B.bytes
  have hr := B.returns
  have hts := atoms_spec (ws := wq_k_Si_takeBack) B.pre
  have hown : s.vm.findClass RX4 = some m.cls := findClass_of_methodNamed B.named
  have hlocks := B.notSynchronized
  have hK := hKN.1
  have hfix : CallFix p m c cX4_takeBack 3 s [.ref hg, .int x1, .int x2].toArray wq_k_Si_takeBack RX4 := ⟨hx, hb, hml, hown, hts⟩
  have hi4 : ∀ w ∈ wsX40, w ∈ wq_k_Si_takeBack := (sb_c sb_l)
  subst hsz
  have hD := hD0.self (sz := s.heap.size)
  generalize hAe : va_A (wc_k_Si_takeBack cyB cyI cyJ cyZ cyO hg gd g_ticks g_is g_toldAt g_untold g_count x1 x2) s.heap.size = A at hD ⊢
  have hA : ∀ q : Nat, s.heap.size ≤ q → A q := fun q h => by rw [← hAe]; exact Or.inr h
  have hS : va_S A s.heap s.heap [] := va_S.rf
  have hl := lv_entry ([.ref hg, .int x1, .int x2]) (n := 3) (Nat.le_of_ble_eq_true rfl)
  rw [lg_entry_eq]
  generalize (lg_sl ([.ref hg, .int x1, .int x2]) ++ List.replicate (3 - (lg_sl ([.ref hg, .int x1, .int x2])).length) Slot.unset).toArray = ls at hl ⊢
  have hl : lv_has ls 3 [(0, .ref hg), (1, .int x1), (2, .int x2)] := hl
  refine lv_iload_n hx hb dX4_takeBack_0 rfl (lv_at hl 1 rfl) ?_
  refine lv_if_lt (tgt := 22) hx hb dX4_takeBack_1 (by decide) (fun c277 => ?_) (fun c277 => ?_)
  · have c277 := i_lt (a := x1.toInt) (b := 0) c277 rfl (by decide)
    refine lv_iconst (v := 0) hx hb dX4_takeBack_22 (by decide) ?_
    have w278 : 0 ≤ (0 : Int32).toInt := by decide
    have w279 : (0 : Int32).toInt ≤ 1 := by decide
    exact W.zret (v := 0) hx hb hr (by decide) (fun t ht hW => ⟨⟨0, ((fun _ => g_untold), (fun _ => 0)), rfl, ⟨w278, w279⟩, cE.of ht hP hD [0, 1, 2, 3, 4] (by decide) rfl⟩, hS.F ht⟩) hS.2.2 dX4_takeBack_23
  · have c277 := i_nlt (a := x1.toInt) (b := 0) c277 rfl (by decide)
    refine lv_iload_n hx hb dX4_takeBack_4 rfl (lv_at hl 1 rfl) ?_
    refine lv_aload_n hx hb dX4_takeBack_5 rfl (lv_at hl 0 rfl) ?_
    refine va_get (D := (dC, dI)) (ci := 4) (v := .int g_count) (C := RX4) (T := TX4) (N := 5) hx hb hts hi4 hown hK hP 0 rfl rfl 4 (by decide) (hts _ (ow_m (k := 0) rfl)) (fun _ h9 => h9) rfl dX4_takeBack_6 ?_
    refine lv_icmp_ge (tgt := 22) hx hb dX4_takeBack_9 (by decide) (fun c280 => ?_) (fun c280 => ?_)
    · have c280 := i_le (a := g_count.toInt) (b := x1.toInt) c280 rfl rfl
      refine lv_iconst (v := 0) hx hb dX4_takeBack_22 (by decide) ?_
      have w281 : 0 ≤ (0 : Int32).toInt := by decide
      have w282 : (0 : Int32).toInt ≤ 1 := by decide
      exact W.zret (v := 0) hx hb hr (by decide) (fun t ht hW => ⟨⟨0, ((fun _ => g_untold), (fun _ => 0)), rfl, ⟨w281, w282⟩, cE.of ht hP hD [0, 1, 2, 3, 4] (by decide) rfl⟩, hS.F ht⟩) hS.2.2 dX4_takeBack_23
    · have c280 := i_nle (a := g_count.toInt) (b := x1.toInt) c280 rfl rfl
      refine lv_aload_n hx hb dX4_takeBack_12 rfl (lv_at hl 0 rfl) ?_
      refine va_get (D := (dC, dI)) (ci := 4) (v := .ref (gd 3)) (C := RX4) (T := TX4) (N := 5) hx hb hts hi4 hown hK hP 0 rfl rfl 3 (by decide) (hts _ (ow_m (k := 1) rfl)) (fun _ h9 => h9) rfl dX4_takeBack_13 ?_
      refine lv_iload_n hx hb dX4_takeBack_16 rfl (lv_at hl 1 rfl) ?_
      have nz283 : vp_in x1 30 := (vp_i rfl (by omega) (by omega))
      refine va_iald hx hb hK hP 4 1 rfl rfl nz283 dX4_takeBack_17 ?_
      refine lv_topi (fun z283 ez283 => ?_)
      refine lv_iconst (v := (-1)) hx hb dX4_takeBack_18 (by decide) ?_
      refine lv_icmp_eq (tgt := 24) hx hb dX4_takeBack_19 (by decide) (fun c284 => ?_) (fun c284 => ?_)
      · have c284 := i_eq (a := z283.toInt) (b := (-1)) c284 rfl (by decide)
        refine lv_aload_n hx hb dX4_takeBack_24 rfl (lv_at hl 0 rfl) ?_
        refine va_get (D := (dC, dI)) (ci := 4) (v := .ref (gd 3)) (C := RX4) (T := TX4) (N := 5) hx hb hts hi4 hown hK hP 0 rfl rfl 3 (by decide) (hts _ (ow_m (k := 1) rfl)) (fun _ h9 => h9) rfl dX4_takeBack_25 ?_
        refine lv_iload_n hx hb dX4_takeBack_28 rfl (lv_at hl 1 rfl) ?_
        refine lv_iload_n hx hb dX4_takeBack_29 rfl (lv_at hl 2 rfl) ?_
        refine va_iast hx hb hK hP hD hS 4 1 rfl rfl (vp_i rfl (by omega) (by omega)) dX4_takeBack_30 (fun H locs hP hD hS => ?_)
        have hP : va_P (dC, dI) vwCl [(hg, .inr (4, [.ref (gd 0), .ref (gd 1), .ref (gd 2), .ref (gd 3), .int g_count])), (gd 0, .inl (cyI, 30, .inl g_ticks)), (gd 1, .inl (cyZ, 30, .inl g_is)), (gd 2, .inl (cyI, 30, .inl g_toldAt)), (gd 3, .inl (cyI, 30, .inl (upd g_untold x1.toNatClampNeg x2)))] H := hP
        have hD : va_D A [(hg, .inr (4, [.ref (gd 0), .ref (gd 1), .ref (gd 2), .ref (gd 3), .int g_count])), (gd 0, .inl (cyI, 30, .inl g_ticks)), (gd 1, .inl (cyZ, 30, .inl g_is)), (gd 2, .inl (cyI, 30, .inl g_toldAt)), (gd 3, .inl (cyI, 30, .inl (upd g_untold x1.toNatClampNeg x2)))] := hD
        generalize ef285 : upd g_untold x1.toNatClampNeg x2 = f285 at hP hD
        refine lv_iconst (v := 1) hx hb dX4_takeBack_31 (by decide) ?_
        have w286 : 0 ≤ (1 : Int32).toInt := by decide
        have w287 : (1 : Int32).toInt ≤ 1 := by decide
        exact W.zret (v := 1) hx hb hr (by decide) (fun t ht hW => ⟨⟨1, ((fun _ => f285), (fun _ => 0)), rfl, ⟨w286, w287⟩, cE.of ht hP hD [0, 1, 2, 3, 4] (by decide) rfl⟩, hS.F ht⟩) hS.2.2 dX4_takeBack_32
      · have c284 := i_ne (a := z283.toInt) (b := (-1)) c284 rfl (by decide)
        refine lv_iconst (v := 0) hx hb dX4_takeBack_22 (by decide) ?_
        have w288 : 0 ≤ (0 : Int32).toInt := by decide
        have w289 : (0 : Int32).toInt ≤ 1 := by decide
        exact W.zret (v := 0) hx hb hr (by decide) (fun t ht hW => ⟨⟨0, ((fun _ => g_untold), (fun _ => 0)), rfl, ⟨w288, w289⟩, cE.of ht hP hD [0, 1, 2, 3, 4] (by decide) rfl⟩, hS.F ht⟩) hS.2.2 dX4_takeBack_23
def wo_k_Si_counts : List Cond := [.fieldLink RX4 22 "ReplicaChain$Sightings" "untoldAt" "[I", .fieldLink RX4 19 "ReplicaChain$Sightings" "toldAt" "[I"]
def wq_k_Si_counts : List Cond := .code yX4_counts cX4_counts 4 (some .boolean) :: (wo_k_Si_counts ++ (wsX40 ++ []))
theorem gd_k_Si_counts : Gd wq_k_Si_counts := gd_c (gd_a (gd_o (by decide +kernel)) (gd_a gd_u gd_0))
abbrev wc_k_Si_counts (cyB cyI cyJ cyZ cyO : ClassId) (hg : Nat) (gd : Nat → Nat) (g_ticks : Nat → Int32) (g_is : Nat → Int32) (g_toldAt : Nat → Int32) (g_untold : Nat → Int32) (g_count : Int32) (x1 : Int32) (x2 : Int32) : va_W := [(hg, .inr (4, [.ref (gd 0), .ref (gd 1), .ref (gd 2), .ref (gd 3), .int g_count])), (gd 0, .inl (cyI, 30, .inl g_ticks)), (gd 1, .inl (cyZ, 30, .inl g_is)), (gd 2, .inl (cyI, 30, .inl g_toldAt)), (gd 3, .inl (cyI, 30, .inl g_untold))]
set_option maxHeartbeats 4000000 in
set_option maxRecDepth 100000 in
theorem k_Si_counts (l : Launch) (dC : Nat → ClassId) (dI : Nat → Nat → Nat) (cyB cyI cyJ cyZ cyO : ClassId) (hg : Nat) (gd : Nat → Nat) (g_ticks : Nat → Int32) (g_is : Nat → Int32) (g_toldAt : Nat → Int32) (g_untold : Nat → Int32) (g_count : Int32) (x1 : Int32) (x2 : Int32) (sz : Nat) (l_g_count : 0 ≤ g_count.toInt) (u_g_count : g_count.toInt ≤ 30) (l_x1 : 0 ≤ x1.toInt) (u_x1 : x1.toInt ≤ 29) : Met l yX4_counts wq_k_Si_counts ({ frames := 0, cells := 0, slots := 0, locals := 0 }) (va_Pc [.ref hg, .int x1, .int x2] (cB (dC, dI) (kT cyB cyI cyJ cyZ cyO) (wc_k_Si_counts cyB cyI cyJ cyZ cyO hg gd g_ticks g_is g_toldAt g_untold g_count x1 x2) sz)) (va_Qi (fun (r : Int32) (u : Unit) => 0 ≤ r.toInt ∧ r.toInt ≤ 1) (fun (u : Unit) t => cE (dC, dI) (va_A (wc_k_Si_counts cyB cyI cyJ cyZ cyO hg gd g_ticks g_is g_toldAt g_untold g_count x1 x2) sz) ([(hg, .inr (4, [.ref (gd 0), .ref (gd 1), .ref (gd 2), .ref (gd 3), .int g_count])), (gd 0, .inl (cyI, 30, .inl g_ticks)), (gd 1, .inl (cyZ, 30, .inl g_is)), (gd 2, .inl (cyI, 30, .inl g_toldAt)), (gd 3, .inl (cyI, 30, .inl g_untold))]) t.heap) (va_A (wc_k_Si_counts cyB cyI cyJ cyZ cyO hg gd g_ticks g_is g_toldAt g_untold g_count x1 x2) sz)) 0 0 (va_A (wc_k_Si_counts cyB cyI cyJ cyZ cyO hg gd g_ticks g_is g_toldAt g_untold g_count x1 x2) sz) := by
  refine Met.ofW (cc := cX4_counts) (maxL := 4) (ret := (some .boolean)) (by decide) rfl ?_
  intro p e s m args below meth c s₁ B hml hv
  obtain ⟨rfl, hsz, hP, hKN, hD0⟩ := hv
  have hx := B.exec
  have hb := B.bytes
  have hr := B.returns
  have hts := atoms_spec (ws := wq_k_Si_counts) B.pre
  have hown : s.vm.findClass RX4 = some m.cls := findClass_of_methodNamed B.named
  have hlocks := B.notSynchronized
  have hK := hKN.1
  have hfix : CallFix p m c cX4_counts 4 s [.ref hg, .int x1, .int x2].toArray wq_k_Si_counts RX4 := ⟨hx, hb, hml, hown, hts⟩
  have hi4 : ∀ w ∈ wsX40, w ∈ wq_k_Si_counts := (sb_c sb_l)
  subst hsz
  have hD := hD0.self (sz := s.heap.size)
  generalize hAe : va_A (wc_k_Si_counts cyB cyI cyJ cyZ cyO hg gd g_ticks g_is g_toldAt g_untold g_count x1 x2) s.heap.size = A at hD ⊢
  have hA : ∀ q : Nat, s.heap.size ≤ q → A q := fun q h => by rw [← hAe]; exact Or.inr h
  have hS : va_S A s.heap s.heap [] := va_S.rf
  have hl := lv_entry ([.ref hg, .int x1, .int x2]) (n := 4) (Nat.le_of_ble_eq_true rfl)
  rw [lg_entry_eq]
  generalize (lg_sl ([.ref hg, .int x1, .int x2]) ++ List.replicate (4 - (lg_sl ([.ref hg, .int x1, .int x2])).length) Slot.unset).toArray = ls at hl ⊢
  have hl : lv_has ls 4 [(0, .ref hg), (1, .int x1), (2, .int x2)] := hl
  refine lv_aload_n hx hb dX4_counts_0 rfl (lv_at hl 0 rfl) ?_
  refine va_get (D := (dC, dI)) (ci := 4) (v := .ref (gd 3)) (C := RX4) (T := TX4) (N := 5) hx hb hts hi4 hown hK hP 0 rfl rfl 3 (by decide) (hts _ (ow_m (k := 0) rfl)) (fun _ h9 => h9) rfl dX4_counts_1 ?_
  refine lv_iload_n hx hb dX4_counts_4 rfl (lv_at hl 1 rfl) ?_
  have nz290 : vp_in x1 30 := (vp_i rfl (by omega) (by omega))
  refine va_iald hx hb hK hP 4 1 rfl rfl nz290 dX4_counts_5 ?_
  refine lv_topi (fun z290 ez290 => ?_)
  refine lv_iconst (v := (-1)) hx hb dX4_counts_6 (by decide) ?_
  refine lv_icmp_eq (tgt := 24) hx hb dX4_counts_7 (by decide) (fun c291 => ?_) (fun c291 => ?_)
  · have c291 := i_eq (a := z290.toInt) (b := (-1)) c291 rfl (by decide)
    refine lv_iconst (v := 0) hx hb dX4_counts_24 (by decide) ?_
    refine lv_istore_n (lv' := [(3, .int 0), (0, .ref hg), (1, .int x1), (2, .int x2)]) hx hb dX4_counts_25 rfl hl (by decide) rfl (fun ls hl => ?_)
    refine lv_aload_n hx hb dX4_counts_26 rfl (lv_at hl 1 rfl) ?_
    refine va_get (D := (dC, dI)) (ci := 4) (v := .ref (gd 2)) (C := RX4) (T := TX4) (N := 5) hx hb hts hi4 hown hK hP 0 rfl rfl 2 (by decide) (hts _ (ow_m (k := 1) rfl)) (fun _ h9 => h9) rfl dX4_counts_27 ?_
    refine lv_iload_n hx hb dX4_counts_30 rfl (lv_at hl 2 rfl) ?_
    have nz292 : vp_in x1 30 := (vp_i rfl (by omega) (by omega))
    refine va_iald hx hb hK hP 3 1 rfl rfl nz292 dX4_counts_31 ?_
    refine lv_topi (fun z292 ez292 => ?_)
    refine lv_iload_n hx hb dX4_counts_32 rfl (lv_at hl 3 rfl) ?_
    refine lv_icmp_gt (tgt := 44) hx hb dX4_counts_33 (by decide) (fun c293 => ?_) (fun c293 => ?_)
    · have c293 := i_lt (a := x2.toInt) (b := z292.toInt) c293 rfl rfl
      refine lv_iconst (v := 0) hx hb dX4_counts_44 (by decide) ?_
      have w294 : 0 ≤ (0 : Int32).toInt := by decide
      have w295 : (0 : Int32).toInt ≤ 1 := by decide
      exact W.zret (v := 0) hx hb hr (by decide) (fun t ht hW => ⟨⟨0, (), rfl, ⟨w294, w295⟩, cE.of ht hP hD [0, 1, 2, 3, 4] (by decide) rfl⟩, hS.F ht⟩) hS.2.2 dX4_counts_45
    · have c293 := i_nlt (a := x2.toInt) (b := z292.toInt) c293 rfl rfl
      refine lv_iload_n hx hb dX4_counts_36 rfl (lv_at hl 0 rfl) ?_
      refine lv_if_ne (tgt := 44) hx hb dX4_counts_37 (by decide) (fun c296 => absurd (by decide) c296) (fun _ => ?_)
      refine lv_iconst (v := 1) hx hb dX4_counts_40 (by decide) ?_
      refine lv_goto (tgt := 45) hx hb dX4_counts_41 (by decide) ?_
      have w297 : 0 ≤ (1 : Int32).toInt := by decide
      have w298 : (1 : Int32).toInt ≤ 1 := by decide
      exact W.zret (v := 1) hx hb hr (by decide) (fun t ht hW => ⟨⟨1, (), rfl, ⟨w297, w298⟩, cE.of ht hP hD [0, 1, 2, 3, 4] (by decide) rfl⟩, hS.F ht⟩) hS.2.2 dX4_counts_45
  · have c291 := i_ne (a := z290.toInt) (b := (-1)) c291 rfl (by decide)
    refine lv_aload_n hx hb dX4_counts_10 rfl (lv_at hl 0 rfl) ?_
    refine va_get (D := (dC, dI)) (ci := 4) (v := .ref (gd 3)) (C := RX4) (T := TX4) (N := 5) hx hb hts hi4 hown hK hP 0 rfl rfl 3 (by decide) (hts _ (ow_m (k := 0) rfl)) (fun _ h9 => h9) rfl dX4_counts_11 ?_
    refine lv_iload_n hx hb dX4_counts_14 rfl (lv_at hl 1 rfl) ?_
    have nz299 : vp_in x1 30 := (vp_i rfl (by omega) (by omega))
    refine va_iald hx hb hK hP 4 1 rfl rfl nz299 dX4_counts_15 ?_
    refine lv_topi (fun z299 ez299 => ?_)
    refine lv_iload_n hx hb dX4_counts_16 rfl (lv_at hl 2 rfl) ?_
    refine lv_icmp_gt (tgt := 24) hx hb dX4_counts_17 (by decide) (fun c300 => ?_) (fun c300 => ?_)
    · have c300 := i_lt (a := x2.toInt) (b := z299.toInt) c300 rfl rfl
      refine lv_iconst (v := 0) hx hb dX4_counts_24 (by decide) ?_
      refine lv_istore_n (lv' := [(3, .int 0), (0, .ref hg), (1, .int x1), (2, .int x2)]) hx hb dX4_counts_25 rfl hl (by decide) rfl (fun ls hl => ?_)
      refine lv_aload_n hx hb dX4_counts_26 rfl (lv_at hl 1 rfl) ?_
      refine va_get (D := (dC, dI)) (ci := 4) (v := .ref (gd 2)) (C := RX4) (T := TX4) (N := 5) hx hb hts hi4 hown hK hP 0 rfl rfl 2 (by decide) (hts _ (ow_m (k := 1) rfl)) (fun _ h9 => h9) rfl dX4_counts_27 ?_
      refine lv_iload_n hx hb dX4_counts_30 rfl (lv_at hl 2 rfl) ?_
      have nz301 : vp_in x1 30 := (vp_i rfl (by omega) (by omega))
      refine va_iald hx hb hK hP 3 1 rfl rfl nz301 dX4_counts_31 ?_
      refine lv_topi (fun z301 ez301 => ?_)
      refine lv_iload_n hx hb dX4_counts_32 rfl (lv_at hl 3 rfl) ?_
      refine lv_icmp_gt (tgt := 44) hx hb dX4_counts_33 (by decide) (fun c302 => ?_) (fun c302 => ?_)
      · have c302 := i_lt (a := x2.toInt) (b := z301.toInt) c302 rfl rfl
        refine lv_iconst (v := 0) hx hb dX4_counts_44 (by decide) ?_
        have w303 : 0 ≤ (0 : Int32).toInt := by decide
        have w304 : (0 : Int32).toInt ≤ 1 := by decide
        exact W.zret (v := 0) hx hb hr (by decide) (fun t ht hW => ⟨⟨0, (), rfl, ⟨w303, w304⟩, cE.of ht hP hD [0, 1, 2, 3, 4] (by decide) rfl⟩, hS.F ht⟩) hS.2.2 dX4_counts_45
      · have c302 := i_nlt (a := x2.toInt) (b := z301.toInt) c302 rfl rfl
        refine lv_iload_n hx hb dX4_counts_36 rfl (lv_at hl 0 rfl) ?_
        refine lv_if_ne (tgt := 44) hx hb dX4_counts_37 (by decide) (fun c305 => absurd (by decide) c305) (fun _ => ?_)
        refine lv_iconst (v := 1) hx hb dX4_counts_40 (by decide) ?_
        refine lv_goto (tgt := 45) hx hb dX4_counts_41 (by decide) ?_
        have w306 : 0 ≤ (1 : Int32).toInt := by decide
        have w307 : (1 : Int32).toInt ≤ 1 := by decide
        exact W.zret (v := 1) hx hb hr (by decide) (fun t ht hW => ⟨⟨1, (), rfl, ⟨w306, w307⟩, cE.of ht hP hD [0, 1, 2, 3, 4] (by decide) rfl⟩, hS.F ht⟩) hS.2.2 dX4_counts_45
    · have c300 := i_nlt (a := x2.toInt) (b := z299.toInt) c300 rfl rfl
      refine lv_iconst (v := 1) hx hb dX4_counts_20 (by decide) ?_
      refine lv_goto (tgt := 25) hx hb dX4_counts_21 (by decide) ?_
      refine lv_istore_n (lv' := [(3, .int 1), (0, .ref hg), (1, .int x1), (2, .int x2)]) hx hb dX4_counts_25 rfl hl (by decide) rfl (fun ls hl => ?_)
      refine lv_aload_n hx hb dX4_counts_26 rfl (lv_at hl 1 rfl) ?_
      refine va_get (D := (dC, dI)) (ci := 4) (v := .ref (gd 2)) (C := RX4) (T := TX4) (N := 5) hx hb hts hi4 hown hK hP 0 rfl rfl 2 (by decide) (hts _ (ow_m (k := 1) rfl)) (fun _ h9 => h9) rfl dX4_counts_27 ?_
      refine lv_iload_n hx hb dX4_counts_30 rfl (lv_at hl 2 rfl) ?_
      have nz308 : vp_in x1 30 := (vp_i rfl (by omega) (by omega))
      refine va_iald hx hb hK hP 3 1 rfl rfl nz308 dX4_counts_31 ?_
      refine lv_topi (fun z308 ez308 => ?_)
      refine lv_iload_n hx hb dX4_counts_32 rfl (lv_at hl 3 rfl) ?_
      refine lv_icmp_gt (tgt := 44) hx hb dX4_counts_33 (by decide) (fun c309 => ?_) (fun c309 => ?_)
      · have c309 := i_lt (a := x2.toInt) (b := z308.toInt) c309 rfl rfl
        refine lv_iconst (v := 0) hx hb dX4_counts_44 (by decide) ?_
        have w310 : 0 ≤ (0 : Int32).toInt := by decide
        have w311 : (0 : Int32).toInt ≤ 1 := by decide
        exact W.zret (v := 0) hx hb hr (by decide) (fun t ht hW => ⟨⟨0, (), rfl, ⟨w310, w311⟩, cE.of ht hP hD [0, 1, 2, 3, 4] (by decide) rfl⟩, hS.F ht⟩) hS.2.2 dX4_counts_45
      · have c309 := i_nlt (a := x2.toInt) (b := z308.toInt) c309 rfl rfl
        refine lv_iload_n hx hb dX4_counts_36 rfl (lv_at hl 0 rfl) ?_
        refine lv_if_ne (tgt := 44) hx hb dX4_counts_37 (by decide) (fun _ => ?_) (fun c312 => absurd c312 (by decide))
        refine lv_iconst (v := 0) hx hb dX4_counts_44 (by decide) ?_
        have w313 : 0 ≤ (0 : Int32).toInt := by decide
        have w314 : (0 : Int32).toInt ≤ 1 := by decide
        exact W.zret (v := 0) hx hb hr (by decide) (fun t ht hW => ⟨⟨0, (), rfl, ⟨w313, w314⟩, cE.of ht hP hD [0, 1, 2, 3, 4] (by decide) rfl⟩, hS.F ht⟩) hS.2.2 dX4_counts_45
def wo_k_Si_allow : List Cond := [.fieldLink RX4 25 "ReplicaChain$Sightings" "count" "I", .methodLink RX4 29 yX4_counts, .instanceMethod yX4_counts, .selects RX4 yX4_counts yX4_counts, .initialized RX4, .fieldLink RX4 15 "ReplicaChain$Sightings" "is" "[Z", .fieldLink RX4 9 "ReplicaChain$Sightings" "ticks" "[I"]
def wq_k_Si_allow : List Cond := .code yX4_allow cX4_allow 4 (some .boolean) :: (wo_k_Si_allow ++ (wq_k_Si_counts ++ (wsX40 ++ [])))
theorem gd_k_Si_allow : Gd wq_k_Si_allow := gd_c (gd_a (gd_o (by decide +kernel)) (gd_a gd_k_Si_counts (gd_a gd_u gd_0)))
abbrev wc_k_Si_allow (cyB cyI cyJ cyZ cyO : ClassId) (hg : Nat) (gd : Nat → Nat) (g_ticks : Nat → Int32) (g_is : Nat → Int32) (g_toldAt : Nat → Int32) (g_untold : Nat → Int32) (g_count : Int32) (x1 : Int32) (x2 : Int32) : va_W := [(hg, .inr (4, [.ref (gd 0), .ref (gd 1), .ref (gd 2), .ref (gd 3), .int g_count])), (gd 0, .inl (cyI, 30, .inl g_ticks)), (gd 1, .inl (cyZ, 30, .inl g_is)), (gd 2, .inl (cyI, 30, .inl g_toldAt)), (gd 3, .inl (cyI, 30, .inl g_untold))]
set_option maxHeartbeats 4000000 in
set_option maxRecDepth 100000 in
theorem k_Si_allow (l : Launch) (dC : Nat → ClassId) (dI : Nat → Nat → Nat) (cyB cyI cyJ cyZ cyO : ClassId) (hg : Nat) (gd : Nat → Nat) (g_ticks : Nat → Int32) (g_is : Nat → Int32) (g_toldAt : Nat → Int32) (g_untold : Nat → Int32) (g_count : Int32) (x1 : Int32) (x2 : Int32) (sz : Nat) (l_g_count : 0 ≤ g_count.toInt) (u_g_count : g_count.toInt ≤ 30) : Met l yX4_allow wq_k_Si_allow ({ frames := 1, cells := 0, slots := 0, locals := 23 }) (va_Pc [.ref hg, .int x1, .int x2] (cB (dC, dI) (kT cyB cyI cyJ cyZ cyO) (wc_k_Si_allow cyB cyI cyJ cyZ cyO hg gd g_ticks g_is g_toldAt g_untold g_count x1 x2) sz)) (va_Qi (fun (r : Int32) (u : Unit) => 0 ≤ r.toInt ∧ r.toInt ≤ 1) (fun (u : Unit) t => cE (dC, dI) (va_A (wc_k_Si_allow cyB cyI cyJ cyZ cyO hg gd g_ticks g_is g_toldAt g_untold g_count x1 x2) sz) ([(hg, .inr (4, [.ref (gd 0), .ref (gd 1), .ref (gd 2), .ref (gd 3), .int g_count])), (gd 0, .inl (cyI, 30, .inl g_ticks)), (gd 1, .inl (cyZ, 30, .inl g_is)), (gd 2, .inl (cyI, 30, .inl g_toldAt)), (gd 3, .inl (cyI, 30, .inl g_untold))]) t.heap) (va_A (wc_k_Si_allow cyB cyI cyJ cyZ cyO hg gd g_ticks g_is g_toldAt g_untold g_count x1 x2) sz)) 0 0 (va_A (wc_k_Si_allow cyB cyI cyJ cyZ cyO hg gd g_ticks g_is g_toldAt g_untold g_count x1 x2) sz) := by
  refine Met.ofW (cc := cX4_allow) (maxL := 4) (ret := (some .boolean)) (by decide) rfl ?_
  intro p e s m args below meth c s₁ B hml hv
  obtain ⟨rfl, hsz, hP, hKN, hD0⟩ := hv
  have hx := B.exec
  have hb := B.bytes
  have hr := B.returns
  have hts := atoms_spec (ws := wq_k_Si_allow) B.pre
  have hown : s.vm.findClass RX4 = some m.cls := findClass_of_methodNamed B.named
  have hlocks := B.notSynchronized
  have hK := hKN.1
  have hfix : CallFix p m c cX4_allow 4 s [.ref hg, .int x1, .int x2].toArray wq_k_Si_allow RX4 := ⟨hx, hb, hml, hown, hts⟩
  have hi4 : ∀ w ∈ wsX40, w ∈ wq_k_Si_allow := (sb_c (sb_r sb_l))
  subst hsz
  have hD := hD0.self (sz := s.heap.size)
  generalize hAe : va_A (wc_k_Si_allow cyB cyI cyJ cyZ cyO hg gd g_ticks g_is g_toldAt g_untold g_count x1 x2) s.heap.size = A at hD ⊢
  have hA : ∀ q : Nat, s.heap.size ≤ q → A q := fun q h => by rw [← hAe]; exact Or.inr h
  have hS : va_S A s.heap s.heap [] := va_S.rf
  have hl := lv_entry ([.ref hg, .int x1, .int x2]) (n := 4) (Nat.le_of_ble_eq_true rfl)
  rw [lg_entry_eq]
  generalize (lg_sl ([.ref hg, .int x1, .int x2]) ++ List.replicate (4 - (lg_sl ([.ref hg, .int x1, .int x2])).length) Slot.unset).toArray = ls at hl ⊢
  have hl : lv_has ls 4 [(0, .ref hg), (1, .int x1), (2, .int x2)] := hl
  refine lv_iconst (v := 0) hx hb dX4_allow_0 (by decide) ?_
  refine lv_istore_n (lv' := [(3, .int 0), (0, .ref hg), (1, .int x1), (2, .int x2)]) hx hb dX4_allow_1 rfl hl (by decide) rfl (fun ls hl => ?_)
  refine w_gen (fun H locs ls hP hS hl => ?_) hP hS hl
  have k317 : (0 : Int32).toInt = 0 := by decide
  obtain ⟨v316, hl2, hP2, hD2, b318, b319⟩ : ∃ (v316 : Int32), lv_has ls 4 [(3, .int v316), (0, .ref hg), (1, .int x1), (2, .int x2)] ∧ va_P (dC, dI) vwCl [(hg, .inr (4, [.ref (gd 0), .ref (gd 1), .ref (gd 2), .ref (gd 3), .int g_count])), (gd 0, .inl (cyI, 30, .inl g_ticks)), (gd 1, .inl (cyZ, 30, .inl g_is)), (gd 2, .inl (cyI, 30, .inl g_toldAt)), (gd 3, .inl (cyI, 30, .inl g_untold))] H ∧ va_D A [(hg, .inr (4, [.ref (gd 0), .ref (gd 1), .ref (gd 2), .ref (gd 3), .int g_count])), (gd 0, .inl (cyI, 30, .inl g_ticks)), (gd 1, .inl (cyZ, 30, .inl g_is)), (gd 2, .inl (cyI, 30, .inl g_toldAt)), (gd 3, .inl (cyI, 30, .inl g_untold))] ∧ 0 ≤ v316.toInt ∧ v316.toInt ≤ 30 := ⟨0, hl, hP, hD, by first | omega | assumption, by first | omega | assumption⟩
  clear hP hl
  have hP := hP2
  have hD := hD2
  have hl := hl2
  clear hP2 hD2 hl2
  obtain ⟨n320, hn320⟩ : ∃ n : Nat, 30 - v316.toInt < (n : Int) := ⟨(30 - v316.toInt).toNat + 1, by omega⟩
  induction n320 generalizing v316 H locs ls with
  | zero => exfalso; omega
  | succ n320 ih315 =>
    refine lv_iload_n hx hb dX4_allow_2 rfl (lv_at hl 0 rfl) ?_
    refine lv_aload_n hx hb dX4_allow_3 rfl (lv_at hl 1 rfl) ?_
    refine va_get (D := (dC, dI)) (ci := 4) (v := .int g_count) (C := RX4) (T := TX4) (N := 5) hx hb hts hi4 hown hK hP 0 rfl rfl 4 (by decide) (hts _ (ow_m (k := 0) rfl)) (fun _ h9 => h9) rfl dX4_allow_4 ?_
    refine lv_icmp_ge (tgt := 51) hx hb dX4_allow_7 (by decide) (fun c321 => ?_) (fun c321 => ?_)
    · have c321 := i_le (a := g_count.toInt) (b := v316.toInt) c321 rfl rfl
      refine lv_iconst (v := 1) hx hb dX4_allow_51 (by decide) ?_
      have w322 : 0 ≤ (1 : Int32).toInt := by decide
      have w323 : (1 : Int32).toInt ≤ 1 := by decide
      exact W.zret (v := 1) hx hb hr (by decide) (fun t ht hW => ⟨⟨1, (), rfl, ⟨w322, w323⟩, cE.of ht hP hD [0, 1, 2, 3, 4] (by decide) rfl⟩, hS.F ht⟩) hS.2.2 dX4_allow_52
    · have c321 := i_nle (a := g_count.toInt) (b := v316.toInt) c321 rfl rfl
      refine lv_aload_n hx hb dX4_allow_10 rfl (lv_at hl 1 rfl) ?_
      refine lv_iload_n hx hb dX4_allow_11 rfl (lv_at hl 0 rfl) ?_
      refine lv_iload_n hx hb dX4_allow_12 rfl (lv_at hl 3 rfl) ?_
      refine gf_i (wr := []) (va_runV (As := [.int v316, .int x2]) (rest := []) hfix (k_Si_counts l dC dI cyB cyI cyJ cyZ cyO hg gd g_ticks g_is g_toldAt g_untold g_count v316 x2 _ (by first | omega | assumption) (by first | omega | assumption) (by first | omega | assumption) (by first | omega | assumption)) (cwV 2 hts (gi_V (ow_m (k := 1) rfl) (ow_m (k := 2) rfl) (ow_m (k := 3) rfl) (ow_m (k := 4) rfl) (sb_c sb_l) gd_k_Si_counts) rfl rfl rfl (by decide +kernel) ⟨Nat.le_of_ble_eq_true rfl, Nat.le_of_ble_eq_true rfl⟩) (g_preV hKN hP hD [0, 1, 2, 3, 4] rfl (by decide) 0 4 rfl rfl) rfl rfl hl.1 rfl (lv_room (Nat.le_of_ble_eq_true rfl)) dX4_allow_13 ⟨Nat.le_of_ble_eq_true rfl, Nat.le_of_ble_eq_true rfl⟩) hP hD hS hA [0, 1, 2, 3, 4] [] rfl rfl (by decide) (by decide) (fun r324 u325 H locs qu325 hP hD hS => ?_)
      obtain ⟨b326, b327⟩ := qu325
      have hP : va_P (dC, dI) vwCl [(hg, .inr (4, [.ref (gd 0), .ref (gd 1), .ref (gd 2), .ref (gd 3), .int g_count])), (gd 0, .inl (cyI, 30, .inl g_ticks)), (gd 1, .inl (cyZ, 30, .inl g_is)), (gd 2, .inl (cyI, 30, .inl g_toldAt)), (gd 3, .inl (cyI, 30, .inl g_untold))] H := hP
      have hD : va_D A [(hg, .inr (4, [.ref (gd 0), .ref (gd 1), .ref (gd 2), .ref (gd 3), .int g_count])), (gd 0, .inl (cyI, 30, .inl g_ticks)), (gd 1, .inl (cyZ, 30, .inl g_is)), (gd 2, .inl (cyI, 30, .inl g_toldAt)), (gd 3, .inl (cyI, 30, .inl g_untold))] := hD
      refine lv_if_eq (tgt := 45) hx hb dX4_allow_16 (by decide) (fun c328 => ?_) (fun c328 => ?_)
      · have c328 := i_eq (a := r324.toInt) (b := 0) c328 rfl (by decide)
        obtain ⟨z329, ez329⟩ : ∃ y : Int32, y = v316 + 1 := ⟨_, rfl⟩
        have tz329 := ti_add (a := v316.toInt) (b := 1) ez329 rfl (by decide) (by omega) (by omega)
        refine lv_iinc (v := z329) (lv' := [(3, .int z329), (0, .ref hg), (1, .int x1), (2, .int x2)]) hx hb dX4_allow_45 hl (k := 0) rfl (by rw [ez329]; rfl) (by decide) rfl (fun ls hl => ?_)
        refine lv_goto (tgt := 2) hx hb dX4_allow_48 (by decide) ?_
        have hl := lv_sub (l' := [(3, .int z329), (0, .ref hg), (1, .int x1), (2, .int x2)]) hl [0, 1, 2, 3] rfl
        apply ih315 (v316 := z329) (H := H) (locs := locs) (ls := ls) <;> first | assumption | omega
      · have c328 := i_ne (a := r324.toInt) (b := 0) c328 rfl (by decide)
        refine lv_aload_n hx hb dX4_allow_19 rfl (lv_at hl 1 rfl) ?_
        refine va_get (D := (dC, dI)) (ci := 4) (v := .ref (gd 1)) (C := RX4) (T := TX4) (N := 5) hx hb hts hi4 hown hK hP 0 rfl rfl 1 (by decide) (hts _ (ow_m (k := 5) rfl)) (fun _ h9 => h9) rfl dX4_allow_20 ?_
        refine lv_iload_n hx hb dX4_allow_23 rfl (lv_at hl 0 rfl) ?_
        have nz330 : vp_in v316 30 := (vp_i rfl (by omega) (by omega))
        refine va_zald hx hb hK hP 2 3 rfl rfl nz330 dX4_allow_24 ?_
        refine lv_topi (fun z330 ez330 => ?_)
        refine lv_iload_n hx hb dX4_allow_25 rfl (lv_at hl 2 rfl) ?_
        refine lv_aload_n hx hb dX4_allow_26 rfl (lv_at hl 1 rfl) ?_
        refine va_get (D := (dC, dI)) (ci := 4) (v := .ref (gd 0)) (C := RX4) (T := TX4) (N := 5) hx hb hts hi4 hown hK hP 0 rfl rfl 0 (by decide) (hts _ (ow_m (k := 6) rfl)) (fun _ h9 => h9) rfl dX4_allow_27 ?_
        refine lv_iload_n hx hb dX4_allow_30 rfl (lv_at hl 0 rfl) ?_
        have nz331 : vp_in v316 30 := (vp_i rfl (by omega) (by omega))
        refine va_iald hx hb hK hP 1 1 rfl rfl nz331 dX4_allow_31 ?_
        refine lv_topi (fun z331 ez331 => ?_)
        refine lv_icmp_gt (tgt := 39) hx hb dX4_allow_32 (by decide) (fun c332 => ?_) (fun c332 => ?_)
        · have c332 := i_lt (a := z331.toInt) (b := x1.toInt) c332 rfl rfl
          refine lv_iconst (v := 0) hx hb dX4_allow_39 (by decide) ?_
          refine lv_icmp_eq (tgt := 45) hx hb dX4_allow_40 (by decide) (fun c333 => ?_) (fun c333 => ?_)
          · have c333 := i_eq (a := z330.toInt) (b := 0) c333 rfl (by decide)
            obtain ⟨z334, ez334⟩ : ∃ y : Int32, y = v316 + 1 := ⟨_, rfl⟩
            have tz334 := ti_add (a := v316.toInt) (b := 1) ez334 rfl (by decide) (by omega) (by omega)
            refine lv_iinc (v := z334) (lv' := [(3, .int z334), (0, .ref hg), (1, .int x1), (2, .int x2)]) hx hb dX4_allow_45 hl (k := 0) rfl (by rw [ez334]; rfl) (by decide) rfl (fun ls hl => ?_)
            refine lv_goto (tgt := 2) hx hb dX4_allow_48 (by decide) ?_
            have hl := lv_sub (l' := [(3, .int z334), (0, .ref hg), (1, .int x1), (2, .int x2)]) hl [0, 1, 2, 3] rfl
            apply ih315 (v316 := z334) (H := H) (locs := locs) (ls := ls) <;> first | assumption | omega
          · have c333 := i_ne (a := z330.toInt) (b := 0) c333 rfl (by decide)
            refine lv_iconst (v := 0) hx hb dX4_allow_43 (by decide) ?_
            have w335 : 0 ≤ (0 : Int32).toInt := by decide
            have w336 : (0 : Int32).toInt ≤ 1 := by decide
            exact W.zret (v := 0) hx hb hr (by decide) (fun t ht hW => ⟨⟨0, (), rfl, ⟨w335, w336⟩, cE.of ht hP hD [0, 1, 2, 3, 4] (by decide) rfl⟩, hS.F ht⟩) hS.2.2 dX4_allow_44
        · have c332 := i_nlt (a := z331.toInt) (b := x1.toInt) c332 rfl rfl
          refine lv_iconst (v := 1) hx hb dX4_allow_35 (by decide) ?_
          refine lv_goto (tgt := 40) hx hb dX4_allow_36 (by decide) ?_
          refine lv_icmp_eq (tgt := 45) hx hb dX4_allow_40 (by decide) (fun c337 => ?_) (fun c337 => ?_)
          · have c337 := i_eq (a := z330.toInt) (b := 1) c337 rfl (by decide)
            obtain ⟨z338, ez338⟩ : ∃ y : Int32, y = v316 + 1 := ⟨_, rfl⟩
            have tz338 := ti_add (a := v316.toInt) (b := 1) ez338 rfl (by decide) (by omega) (by omega)
            refine lv_iinc (v := z338) (lv' := [(3, .int z338), (0, .ref hg), (1, .int x1), (2, .int x2)]) hx hb dX4_allow_45 hl (k := 0) rfl (by rw [ez338]; rfl) (by decide) rfl (fun ls hl => ?_)
            refine lv_goto (tgt := 2) hx hb dX4_allow_48 (by decide) ?_
            have hl := lv_sub (l' := [(3, .int z338), (0, .ref hg), (1, .int x1), (2, .int x2)]) hl [0, 1, 2, 3] rfl
            apply ih315 (v316 := z338) (H := H) (locs := locs) (ls := ls) <;> first | assumption | omega
          · have c337 := i_ne (a := z330.toInt) (b := 1) c337 rfl (by decide)
            refine lv_iconst (v := 0) hx hb dX4_allow_43 (by decide) ?_
            have w339 : 0 ≤ (0 : Int32).toInt := by decide
            have w340 : (0 : Int32).toInt ≤ 1 := by decide
            exact W.zret (v := 0) hx hb hr (by decide) (fun t ht hW => ⟨⟨0, (), rfl, ⟨w339, w340⟩, cE.of ht hP hD [0, 1, 2, 3, 4] (by decide) rfl⟩, hS.F ht⟩) hS.2.2 dX4_allow_44
