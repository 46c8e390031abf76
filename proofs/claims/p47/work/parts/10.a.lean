def wo_k_Fo_clear : List Cond := [.fieldLink RX0 21 "ReplicaChain$Formula" "length" "I"]
def wq_k_Fo_clear : List Cond := .code yX0_clear cX0_clear 1 none :: (wo_k_Fo_clear ++ (wsX00 ++ []))
theorem gd_k_Fo_clear : Gd wq_k_Fo_clear := gd_c (gd_a (gd_o (by decide +kernel)) (gd_a gd_u gd_0))
abbrev wc_k_Fo_clear (cyB cyI cyJ cyZ cyO : ClassId) (hf : Nat) (fd : Nat → Nat) (f_length : Int32) : va_W := [(hf, .inr (0, [.ref (fd 0), .ref (fd 1), .ref (fd 2), .int f_length]))]
set_option maxHeartbeats 4000000 in
set_option maxRecDepth 100000 in
theorem k_Fo_clear (l : Launch) (dC : Nat → ClassId) (dI : Nat → Nat → Nat) (cyB cyI cyJ cyZ cyO : ClassId) (hf : Nat) (fd : Nat → Nat) (f_length : Int32) (sz : Nat) (l_f_length : 0 ≤ f_length.toInt) (u_f_length : f_length.toInt ≤ 270) : Met l yX0_clear wq_k_Fo_clear ({ frames := 0, cells := 0, slots := 0, locals := 0 }) (va_Pc [.ref hf] (cB (dC, dI) (kT cyB cyI cyJ cyZ cyO) (wc_k_Fo_clear cyB cyI cyJ cyZ cyO hf fd f_length) sz)) (va_Qv (fun (u : ST4) => (0 ≤ (u.2.1 0).toInt) ∧ ((u.2.1 0).toInt ≤ 270)) (fun (u : ST4) t => cE (dC, dI) (va_A (wc_k_Fo_clear cyB cyI cyJ cyZ cyO hf fd f_length) sz) ([(hf, .inr (0, [.ref (fd 0), .ref (fd 1), .ref (fd 2), .int (u.2.1 0)]))]) t.heap) (va_A (wc_k_Fo_clear cyB cyI cyJ cyZ cyO hf fd f_length) sz)) 0 0 (va_A (wc_k_Fo_clear cyB cyI cyJ cyZ cyO hf fd f_length) sz) := by
  refine Met.ofW (cc := cX0_clear) (maxL := 1) (ret := none) (by decide) rfl ?_
  intro p e s m args below meth c s₁ B hml hv
  obtain ⟨rfl, hsz, hP, hKN, hD0⟩ := hv
  have hx := B.exec
  have hb := B.bytes
  have hr := B.returns
  have hts := atoms_spec (ws := wq_k_Fo_clear) B.pre
  have hown : s.vm.findClass RX0 = some m.cls := findClass_of_methodNamed B.named
  have hlocks := B.notSynchronized
  have hK := hKN.1
  have hfix : CallFix p m c cX0_clear 1 s [.ref hf].toArray wq_k_Fo_clear RX0 := ⟨hx, hb, hml, hown, hts⟩
  have hi0 : ∀ w ∈ wsX00, w ∈ wq_k_Fo_clear := (sb_c sb_l)
  subst hsz
  have hD := hD0.self (sz := s.heap.size)
  generalize hAe : va_A (wc_k_Fo_clear cyB cyI cyJ cyZ cyO hf fd f_length) s.heap.size = A at hD ⊢
  have hA : ∀ q : Nat, s.heap.size ≤ q → A q := fun q h => by rw [← hAe]; exact Or.inr h
  have hS : va_S A s.heap s.heap [] := va_S.rf
  have hl := lv_entry ([.ref hf]) (n := 1) (Nat.le_of_ble_eq_true rfl)
  rw [lg_entry_eq]
  generalize (lg_sl ([.ref hf]) ++ List.replicate (1 - (lg_sl ([.ref hf])).length) Slot.unset).toArray = ls at hl ⊢
  have hl : lv_has ls 1 [(0, .ref hf)] := hl
  have ck0 : (0 : Int32).toInt = 0 := by decide
  refine lv_aload_n hx hb dX0_clear_0 rfl (lv_at hl 0 rfl) ?_
  refine lv_iconst (v := 0) hx hb dX0_clear_1 (by decide) ?_
  refine va_put (D := (dC, dI)) (ci := 0) (v := .int 0) (ty := .int) (C := RX0) (T := TX0) (N := 4) hx hb hts hi0 tyX0 tyX0_ok nmX0 hown hK hP hD hS 0 rfl rfl 3 (by decide) (hts _ (ow_m (k := 0) rfl)) (fun _ h9 => h9) rfl (by decide +kernel) rfl rfl (Nat.le_of_ble_eq_true rfl) dX0_clear_2 (fun H locs hP hD hS => ?_)
  have hP : va_P (dC, dI) vwCl [(hf, .inr (0, [.ref (fd 0), .ref (fd 1), .ref (fd 2), .int 0]))] H := hP
  have hD : va_D A [(hf, .inr (0, [.ref (fd 0), .ref (fd 1), .ref (fd 2), .int 0]))] := hD
  have w1 : 0 ≤ (0 : Int32).toInt := by first | omega | assumption
  have w2 : (0 : Int32).toInt ≤ 270 := by first | omega | assumption
  exact W.vret hx hb hr (fun t ht hW => ⟨⟨((fun _ => fun _ => 0), (fun _ => 0), (fun _ => 0), (fun _ => fun _ => 0)), rfl, ⟨w1, w2⟩, cE.of ht hP hD [0] (by decide) rfl⟩, hS.F ht⟩) hS.2.2 dX0_clear_5
def wo_k_Fo_add : List Cond := [.fieldLink RX0 21 "ReplicaChain$Formula" "length" "I", .fieldLink RX0 11 "ReplicaChain$Formula" "steps" "[I"]
def wq_k_Fo_add : List Cond := .code yX0_add cX0_add 2 none :: (wo_k_Fo_add ++ (wsX00 ++ []))
theorem gd_k_Fo_add : Gd wq_k_Fo_add := gd_c (gd_a (gd_o (by decide +kernel)) (gd_a gd_u gd_0))
abbrev wc_k_Fo_add (cyB cyI cyJ cyZ cyO : ClassId) (hf : Nat) (fd : Nat → Nat) (f_steps : Nat → Int32) (f_length : Int32) (x1 : Int32) : va_W := [(hf, .inr (0, [.ref (fd 0), .ref (fd 1), .ref (fd 2), .int f_length])), (fd 0, .inl (cyI, 270, .inl f_steps))]
set_option maxHeartbeats 4000000 in
set_option maxRecDepth 100000 in
theorem k_Fo_add (l : Launch) (dC : Nat → ClassId) (dI : Nat → Nat → Nat) (cyB cyI cyJ cyZ cyO : ClassId) (hf : Nat) (fd : Nat → Nat) (f_steps : Nat → Int32) (f_length : Int32) (x1 : Int32) (sz : Nat) (l_f_length : 0 ≤ f_length.toInt) (u_f_length : f_length.toInt ≤ 270) : Met l yX0_add wq_k_Fo_add ({ frames := 0, cells := 0, slots := 0, locals := 0 }) (va_Pc [.ref hf, .int x1] (cB (dC, dI) (kT cyB cyI cyJ cyZ cyO) (wc_k_Fo_add cyB cyI cyJ cyZ cyO hf fd f_steps f_length x1) sz)) (va_Qv (fun (u : ST4) => (0 ≤ (u.2.1 0).toInt) ∧ ((u.2.1 0).toInt ≤ 270)) (fun (u : ST4) t => cE (dC, dI) (va_A (wc_k_Fo_add cyB cyI cyJ cyZ cyO hf fd f_steps f_length x1) sz) ([(hf, .inr (0, [.ref (fd 0), .ref (fd 1), .ref (fd 2), .int (u.2.1 0)])), (fd 0, .inl (cyI, 270, .inl (u.1 0)))]) t.heap) (va_A (wc_k_Fo_add cyB cyI cyJ cyZ cyO hf fd f_steps f_length x1) sz)) 0 0 (va_A (wc_k_Fo_add cyB cyI cyJ cyZ cyO hf fd f_steps f_length x1) sz) := by
  refine Met.ofW (cc := cX0_add) (maxL := 2) (ret := none) (by decide) rfl ?_
  intro p e s m args below meth c s₁ B hml hv
  obtain ⟨rfl, hsz, hP, hKN, hD0⟩ := hv
  have hx := B.exec
  have hb := B.bytes
  have hr := B.returns
  have hts := atoms_spec (ws := wq_k_Fo_add) B.pre
  have hown : s.vm.findClass RX0 = some m.cls := findClass_of_methodNamed B.named
  have hlocks := B.notSynchronized
  have hK := hKN.1
  have hfix : CallFix p m c cX0_add 2 s [.ref hf, .int x1].toArray wq_k_Fo_add RX0 := ⟨hx, hb, hml, hown, hts⟩
  have hi0 : ∀ w ∈ wsX00, w ∈ wq_k_Fo_add := (sb_c sb_l)
  subst hsz
  have hD := hD0.self (sz := s.heap.size)
  generalize hAe : va_A (wc_k_Fo_add cyB cyI cyJ cyZ cyO hf fd f_steps f_length x1) s.heap.size = A at hD ⊢
  have hA : ∀ q : Nat, s.heap.size ≤ q → A q := fun q h => by rw [← hAe]; exact Or.inr h
  have hS : va_S A s.heap s.heap [] := va_S.rf
  have hl := lv_entry ([.ref hf, .int x1]) (n := 2) (Nat.le_of_ble_eq_true rfl)
  rw [lg_entry_eq]
  generalize (lg_sl ([.ref hf, .int x1]) ++ List.replicate (2 - (lg_sl ([.ref hf, .int x1])).length) Slot.unset).toArray = ls at hl ⊢
  have hl : lv_has ls 2 [(0, .ref hf), (1, .int x1)] := hl
  refine lv_aload_n hx hb dX0_add_0 rfl (lv_at hl 0 rfl) ?_
  refine va_get (D := (dC, dI)) (ci := 0) (v := .int f_length) (C := RX0) (T := TX0) (N := 4) hx hb hts hi0 hown hK hP 0 rfl rfl 3 (by decide) (hts _ (ow_m (k := 0) rfl)) (fun _ h9 => h9) rfl dX0_add_1 ?_
  refine lv_aload_n hx hb dX0_add_4 rfl (lv_at hl 0 rfl) ?_
  refine va_get (D := (dC, dI)) (ci := 0) (v := .ref (fd 0)) (C := RX0) (T := TX0) (N := 4) hx hb hts hi0 hown hK hP 0 rfl rfl 0 (by decide) (hts _ (ow_m (k := 1) rfl)) (fun _ h9 => h9) rfl dX0_add_5 ?_
  refine va_alen (v := 270) hx hb hK hP 1 1 rfl rfl rfl dX0_add_8 ?_
  refine lv_icmp_ge (tgt := 32) hx hb dX0_add_9 (by decide) (fun c9 => ?_) (fun c9 => ?_)
  · have c9 := i_le (a := 270) (b := f_length.toInt) c9 (by decide) rfl
    have w10 : 0 ≤ f_length.toInt := by first | omega | assumption
    have w11 : f_length.toInt ≤ 270 := by first | omega | assumption
    exact W.vret hx hb hr (fun t ht hW => ⟨⟨((fun _ => f_steps), (fun _ => f_length), (fun _ => 0), (fun _ => fun _ => 0)), rfl, ⟨w10, w11⟩, cE.of ht hP hD [0, 1] (by decide) rfl⟩, hS.F ht⟩) hS.2.2 dX0_add_32
  · have c9 := i_nle (a := 270) (b := f_length.toInt) c9 (by decide) rfl
    refine lv_aload_n hx hb dX0_add_12 rfl (lv_at hl 0 rfl) ?_
    refine va_get (D := (dC, dI)) (ci := 0) (v := .ref (fd 0)) (C := RX0) (T := TX0) (N := 4) hx hb hts hi0 hown hK hP 0 rfl rfl 0 (by decide) (hts _ (ow_m (k := 1) rfl)) (fun _ h9 => h9) rfl dX0_add_13 ?_
    refine lv_aload_n hx hb dX0_add_16 rfl (lv_at hl 0 rfl) ?_
    refine va_get (D := (dC, dI)) (ci := 0) (v := .int f_length) (C := RX0) (T := TX0) (N := 4) hx hb hts hi0 hown hK hP 0 rfl rfl 3 (by decide) (hts _ (ow_m (k := 0) rfl)) (fun _ h9 => h9) rfl dX0_add_17 ?_
    refine lv_iload_n hx hb dX0_add_20 rfl (lv_at hl 1 rfl) ?_
    refine va_iast hx hb hK hP hD hS 1 1 rfl rfl (vp_i rfl (by omega) (by omega)) dX0_add_21 (fun H locs hP hD hS => ?_)
    have hP : va_P (dC, dI) vwCl [(hf, .inr (0, [.ref (fd 0), .ref (fd 1), .ref (fd 2), .int f_length])), (fd 0, .inl (cyI, 270, .inl (upd f_steps f_length.toNatClampNeg x1)))] H := hP
    have hD : va_D A [(hf, .inr (0, [.ref (fd 0), .ref (fd 1), .ref (fd 2), .int f_length])), (fd 0, .inl (cyI, 270, .inl (upd f_steps f_length.toNatClampNeg x1)))] := hD
    generalize ef12 : upd f_steps f_length.toNatClampNeg x1 = f12 at hP hD
    refine lv_aload_n hx hb dX0_add_22 rfl (lv_at hl 0 rfl) ?_
    refine lv_dup hx hb dX0_add_23 rfl ?_
    refine va_get (D := (dC, dI)) (ci := 0) (v := .int f_length) (C := RX0) (T := TX0) (N := 4) hx hb hts hi0 hown hK hP 0 rfl rfl 3 (by decide) (hts _ (ow_m (k := 0) rfl)) (fun _ h9 => h9) rfl dX0_add_24 ?_
    refine lv_iconst (v := 1) hx hb dX0_add_27 (by decide) ?_
    refine lv_iadd hx hb dX0_add_28 ?_
    refine lv_topi (fun z13 ez13 => ?_)
    have tz13 := ti_add (a := f_length.toInt) (b := 1) ez13 rfl (by decide) (by omega) (by omega)
    refine va_put (D := (dC, dI)) (ci := 0) (v := .int z13) (ty := .int) (C := RX0) (T := TX0) (N := 4) hx hb hts hi0 tyX0 tyX0_ok nmX0 hown hK hP hD hS 0 rfl rfl 3 (by decide) (hts _ (ow_m (k := 0) rfl)) (fun _ h9 => h9) rfl (by decide +kernel) rfl rfl (Nat.le_of_ble_eq_true rfl) dX0_add_29 (fun H locs hP hD hS => ?_)
    have hP : va_P (dC, dI) vwCl [(hf, .inr (0, [.ref (fd 0), .ref (fd 1), .ref (fd 2), .int z13])), (fd 0, .inl (cyI, 270, .inl f12))] H := hP
    have hD : va_D A [(hf, .inr (0, [.ref (fd 0), .ref (fd 1), .ref (fd 2), .int z13])), (fd 0, .inl (cyI, 270, .inl f12))] := hD
    have w14 : 0 ≤ z13.toInt := by first | omega | assumption
    have w15 : z13.toInt ≤ 270 := by first | omega | assumption
    exact W.vret hx hb hr (fun t ht hW => ⟨⟨((fun _ => f12), (fun _ => z13), (fun _ => 0), (fun _ => fun _ => 0)), rfl, ⟨w14, w15⟩, cE.of ht hP hD [0, 1] (by decide) rfl⟩, hS.F ht⟩) hS.2.2 dX0_add_32
def wo_k_Fo_factOf : List Cond := [.fieldLink RX0 18 "ReplicaChain$Formula" "facts" "[I"]
def wq_k_Fo_factOf : List Cond := .code yX0_factOf cX0_factOf 3 (some .int) :: (wo_k_Fo_factOf ++ (wsX00 ++ []))
theorem gd_k_Fo_factOf : Gd wq_k_Fo_factOf := gd_c (gd_a (gd_o (by decide +kernel)) (gd_a gd_u gd_0))
abbrev wc_k_Fo_factOf (cyB cyI cyJ cyZ cyO : ClassId) (hf : Nat) (fd : Nat → Nat) (f_facts : Nat → Int32) (f_length : Int32) (x1 : Int32) : va_W := [(hf, .inr (0, [.ref (fd 0), .ref (fd 1), .ref (fd 2), .int f_length])), (fd 2, .inl (cyI, 6, .inl f_facts))]
set_option maxHeartbeats 4000000 in
set_option maxRecDepth 100000 in
theorem k_Fo_factOf (l : Launch) (dC : Nat → ClassId) (dI : Nat → Nat → Nat) (cyB cyI cyJ cyZ cyO : ClassId) (hf : Nat) (fd : Nat → Nat) (f_facts : Nat → Int32) (f_length : Int32) (x1 : Int32) (sz : Nat) (l_f_length : 0 ≤ f_length.toInt) (u_f_length : f_length.toInt ≤ 270) : Met l yX0_factOf wq_k_Fo_factOf ({ frames := 0, cells := 0, slots := 0, locals := 0 }) (va_Pc [.ref hf, .int x1] (cB (dC, dI) (kT cyB cyI cyJ cyZ cyO) (wc_k_Fo_factOf cyB cyI cyJ cyZ cyO hf fd f_facts f_length x1) sz)) (va_Qi (fun (r : Int32) (u : Unit) => True) (fun (u : Unit) t => cE (dC, dI) (va_A (wc_k_Fo_factOf cyB cyI cyJ cyZ cyO hf fd f_facts f_length x1) sz) ([(hf, .inr (0, [.ref (fd 0), .ref (fd 1), .ref (fd 2), .int f_length])), (fd 2, .inl (cyI, 6, .inl f_facts))]) t.heap) (va_A (wc_k_Fo_factOf cyB cyI cyJ cyZ cyO hf fd f_facts f_length x1) sz)) 0 0 (va_A (wc_k_Fo_factOf cyB cyI cyJ cyZ cyO hf fd f_facts f_length x1) sz) := by
  refine Met.ofW (cc := cX0_factOf) (maxL := 3) (ret := (some .int)) (by decide) rfl ?_
  intro p e s m args below meth c s₁ B hml hv
  obtain ⟨rfl, hsz, hP, hKN, hD0⟩ := hv
  have hx := B.exec
  have hb := B.bytes
  have hr := B.returns
  have hts := atoms_spec (ws := wq_k_Fo_factOf) B.pre
  have hown : s.vm.findClass RX0 = some m.cls := findClass_of_methodNamed B.named
  have hlocks := B.notSynchronized
  have hK := hKN.1
  have hfix : CallFix p m c cX0_factOf 3 s [.ref hf, .int x1].toArray wq_k_Fo_factOf RX0 := ⟨hx, hb, hml, hown, hts⟩
  have hi0 : ∀ w ∈ wsX00, w ∈ wq_k_Fo_factOf := (sb_c sb_l)
  subst hsz
  have hD := hD0.self (sz := s.heap.size)
  generalize hAe : va_A (wc_k_Fo_factOf cyB cyI cyJ cyZ cyO hf fd f_facts f_length x1) s.heap.size = A at hD ⊢
  have hA : ∀ q : Nat, s.heap.size ≤ q → A q := fun q h => by rw [← hAe]; exact Or.inr h
  have hS : va_S A s.heap s.heap [] := va_S.rf
  have hl := lv_entry ([.ref hf, .int x1]) (n := 3) (Nat.le_of_ble_eq_true rfl)
  rw [lg_entry_eq]
  generalize (lg_sl ([.ref hf, .int x1]) ++ List.replicate (3 - (lg_sl ([.ref hf, .int x1])).length) Slot.unset).toArray = ls at hl ⊢
  have hl : lv_has ls 3 [(0, .ref hf), (1, .int x1)] := hl
  refine lv_bipush (v := (-20)) hx hb dX0_factOf_0 (by decide) ?_
  refine lv_iload_n hx hb dX0_factOf_2 rfl (lv_at hl 1 rfl) ?_
  refine lv_isub hx hb dX0_factOf_3 ?_
  refine lv_topi (fun z24 ez24 => ?_)
  refine lv_istore_n (lv' := [(2, .int z24), (0, .ref hf), (1, .int x1)]) hx hb dX0_factOf_4 rfl hl (by decide) rfl (fun ls hl => ?_)
  refine lv_iload_n hx hb dX0_factOf_5 rfl (lv_at hl 0 rfl) ?_
  refine lv_if_lt (tgt := 24) hx hb dX0_factOf_6 (by decide) (fun c25 => ?_) (fun c25 => ?_)
  · have c25 := i_lt (a := z24.toInt) (b := 0) c25 rfl (by decide)
    refine lv_iconst (v := 0) hx hb dX0_factOf_24 (by decide) ?_
    exact W.iret (v := 0) hx hb hr (fun t ht hW => ⟨⟨0, (), rfl, trivial, cE.of ht hP hD [0, 1] (by decide) rfl⟩, hS.F ht⟩) hS.2.2 dX0_factOf_25
  · have c25 := i_nlt (a := z24.toInt) (b := 0) c25 rfl (by decide)
    refine lv_iload_n hx hb dX0_factOf_9 rfl (lv_at hl 0 rfl) ?_
    refine lv_bipush (v := 6) hx hb dX0_factOf_10 (by decide) ?_
    refine lv_icmp_ge (tgt := 24) hx hb dX0_factOf_12 (by decide) (fun c26 => ?_) (fun c26 => ?_)
    · have c26 := i_le (a := 6) (b := z24.toInt) c26 (by decide) rfl
      refine lv_iconst (v := 0) hx hb dX0_factOf_24 (by decide) ?_
      exact W.iret (v := 0) hx hb hr (fun t ht hW => ⟨⟨0, (), rfl, trivial, cE.of ht hP hD [0, 1] (by decide) rfl⟩, hS.F ht⟩) hS.2.2 dX0_factOf_25
    · have c26 := i_nle (a := 6) (b := z24.toInt) c26 (by decide) rfl
      refine lv_aload_n hx hb dX0_factOf_15 rfl (lv_at hl 1 rfl) ?_
      refine va_get (D := (dC, dI)) (ci := 0) (v := .ref (fd 2)) (C := RX0) (T := TX0) (N := 4) hx hb hts hi0 hown hK hP 0 rfl rfl 2 (by decide) (hts _ (ow_m (k := 0) rfl)) (fun _ h9 => h9) rfl dX0_factOf_16 ?_
      refine lv_iload_n hx hb dX0_factOf_19 rfl (lv_at hl 0 rfl) ?_
      refine va_iald hx hb hK hP 1 1 rfl rfl (vp_i rfl (by omega) (by omega)) dX0_factOf_20 ?_
      refine lv_topi (fun z27 ez27 => ?_)
      refine lv_goto (tgt := 25) hx hb dX0_factOf_21 (by decide) ?_
      exact W.iret (v := z27) hx hb hr (fun t ht hW => ⟨⟨z27, (), rfl, trivial, cE.of ht hP hD [0, 1] (by decide) rfl⟩, hS.F ht⟩) hS.2.2 dX0_factOf_25
def wo_k_Fo_joined : List Cond := []
def wq_k_Fo_joined : List Cond := .code yX0_joined cX0_joined 3 (some .int) :: (wo_k_Fo_joined ++ [])
theorem gd_k_Fo_joined : Gd wq_k_Fo_joined := gd_c (gd_a (gd_o (by decide +kernel)) gd_0)
abbrev wc_k_Fo_joined (cyB cyI cyJ cyZ cyO : ClassId) (x0 : Int32) (x1 : Int32) (x2 : Int32) : va_W := []
set_option maxHeartbeats 4000000 in
set_option maxRecDepth 100000 in
theorem k_Fo_joined (l : Launch) (dC : Nat → ClassId) (dI : Nat → Nat → Nat) (cyB cyI cyJ cyZ cyO : ClassId) (x0 : Int32) (x1 : Int32) (x2 : Int32) (sz : Nat) : Met l yX0_joined wq_k_Fo_joined ({ frames := 0, cells := 0, slots := 0, locals := 0 }) (va_Pc [.int x0, .int x1, .int x2] (cB (dC, dI) (kT cyB cyI cyJ cyZ cyO) (wc_k_Fo_joined cyB cyI cyJ cyZ cyO x0 x1 x2) sz)) (va_Qi (fun (r : Int32) (u : Unit) => True) (fun (u : Unit) t => cE (dC, dI) (va_A (wc_k_Fo_joined cyB cyI cyJ cyZ cyO x0 x1 x2) sz) ([]) t.heap) (va_A (wc_k_Fo_joined cyB cyI cyJ cyZ cyO x0 x1 x2) sz)) 0 0 (va_A (wc_k_Fo_joined cyB cyI cyJ cyZ cyO x0 x1 x2) sz) := by
  refine Met.ofW (cc := cX0_joined) (maxL := 3) (ret := (some .int)) (by decide) rfl ?_
  intro p e s m args below meth c s₁ B hml hv
  obtain ⟨rfl, hsz, hP, hKN, hD0⟩ := hv
  have hx := B.exec
  have hb := B.bytes
  have hr := B.returns
  have hts := atoms_spec (ws := wq_k_Fo_joined) B.pre
  have hown : s.vm.findClass RX0 = some m.cls := findClass_of_methodNamed B.named
  have hlocks := B.notSynchronized
  have hK := hKN.1
  have hfix : CallFix p m c cX0_joined 3 s [.int x0, .int x1, .int x2].toArray wq_k_Fo_joined RX0 := ⟨hx, hb, hml, hown, hts⟩
  subst hsz
  have hD := hD0.self (sz := s.heap.size)
  generalize hAe : va_A (wc_k_Fo_joined cyB cyI cyJ cyZ cyO x0 x1 x2) s.heap.size = A at hD ⊢
  have hA : ∀ q : Nat, s.heap.size ≤ q → A q := fun q h => by rw [← hAe]; exact Or.inr h
  have hS : va_S A s.heap s.heap [] := va_S.rf
  have hl := lv_entry ([.int x0, .int x1, .int x2]) (n := 3) (Nat.le_of_ble_eq_true rfl)
  rw [lg_entry_eq]
  generalize (lg_sl ([.int x0, .int x1, .int x2]) ++ List.replicate (3 - (lg_sl ([.int x0, .int x1, .int x2])).length) Slot.unset).toArray = ls at hl ⊢
  have hl : lv_has ls 3 [(0, .int x0), (1, .int x1), (2, .int x2)] := hl
  refine lv_iload_n hx hb dX0_joined_0 rfl (lv_at hl 0 rfl) ?_
  by_cases c53 : x0 = (-11)
  · have c53i := i_eq (b := -11) c53 rfl (by decide)
    refine lv_tableIn (tgt := 145) hx hb dX0_joined_1 (by rw [c53]; decide) (by rw [c53]; decide) (by first | (rw [c53]; done) | (rw [c53]; rfl)) (by decide) ?_
    refine lv_iload_n hx hb dX0_joined_145 rfl (lv_at hl 2 rfl) ?_
    refine lv_if_ne (tgt := 153) hx hb dX0_joined_146 (by decide) (fun c54 => ?_) (fun c54 => ?_)
    · have c54 := i_ne (a := x2.toInt) (b := 0) c54 rfl (by decide)
      refine lv_iload_n hx hb dX0_joined_153 rfl (lv_at hl 1 rfl) ?_
      refine lv_iload_n hx hb dX0_joined_154 rfl (lv_at hl 2 rfl) ?_
      refine lv_irem hx hb dX0_joined_155 (fun h => by have h := i_eq (b := 0) h rfl (by decide); omega) ?_
      refine lv_topi (fun z55 ez55 => ?_)
      exact W.iret (v := z55) hx hb hr (fun t ht hW => ⟨⟨z55, (), rfl, trivial, cE.of ht hP hD [] (by decide) rfl⟩, hS.F ht⟩) hS.2.2 dX0_joined_156
    · have c54 := i_eq (a := x2.toInt) (b := 0) c54 rfl (by decide)
      refine lv_iconst (v := 0) hx hb dX0_joined_149 (by decide) ?_
      refine lv_goto (tgt := 156) hx hb dX0_joined_150 (by decide) ?_
      exact W.iret (v := 0) hx hb hr (fun t ht hW => ⟨⟨0, (), rfl, trivial, cE.of ht hP hD [] (by decide) rfl⟩, hS.F ht⟩) hS.2.2 dX0_joined_156
  have c53i := i_ne (b := -11) c53 rfl (by decide)
  by_cases c56 : x0 = (-10)
  · have c56i := i_eq (b := -10) c56 rfl (by decide)
    refine lv_tableIn (tgt := 133) hx hb dX0_joined_1 (by rw [c56]; decide) (by rw [c56]; decide) (by first | (rw [c56]; done) | (rw [c56]; rfl)) (by decide) ?_
    refine lv_iload_n hx hb dX0_joined_133 rfl (lv_at hl 2 rfl) ?_
    refine lv_if_ne (tgt := 141) hx hb dX0_joined_134 (by decide) (fun c57 => ?_) (fun c57 => ?_)
    · have c57 := i_ne (a := x2.toInt) (b := 0) c57 rfl (by decide)
      refine lv_iload_n hx hb dX0_joined_141 rfl (lv_at hl 1 rfl) ?_
      refine lv_iload_n hx hb dX0_joined_142 rfl (lv_at hl 2 rfl) ?_
      refine lv_idiv hx hb dX0_joined_143 (fun h => by have h := i_eq (b := 0) h rfl (by decide); omega) ?_
      refine lv_topi (fun z58 ez58 => ?_)
      exact W.iret (v := z58) hx hb hr (fun t ht hW => ⟨⟨z58, (), rfl, trivial, cE.of ht hP hD [] (by decide) rfl⟩, hS.F ht⟩) hS.2.2 dX0_joined_144
    · have c57 := i_eq (a := x2.toInt) (b := 0) c57 rfl (by decide)
      refine lv_iconst (v := 0) hx hb dX0_joined_137 (by decide) ?_
      refine lv_goto (tgt := 144) hx hb dX0_joined_138 (by decide) ?_
      exact W.iret (v := 0) hx hb hr (fun t ht hW => ⟨⟨0, (), rfl, trivial, cE.of ht hP hD [] (by decide) rfl⟩, hS.F ht⟩) hS.2.2 dX0_joined_144
  have c56i := i_ne (b := -10) c56 rfl (by decide)
  by_cases c59 : x0 = (-9)
  · have c59i := i_eq (b := -9) c59 rfl (by decide)
    refine lv_tableIn (tgt := 129) hx hb dX0_joined_1 (by rw [c59]; decide) (by rw [c59]; decide) (by first | (rw [c59]; done) | (rw [c59]; rfl)) (by decide) ?_
    refine lv_iload_n hx hb dX0_joined_129 rfl (lv_at hl 1 rfl) ?_
    refine lv_iload_n hx hb dX0_joined_130 rfl (lv_at hl 2 rfl) ?_
    refine lv_imul hx hb dX0_joined_131 ?_
    refine lv_topi (fun z60 ez60 => ?_)
    exact W.iret (v := z60) hx hb hr (fun t ht hW => ⟨⟨z60, (), rfl, trivial, cE.of ht hP hD [] (by decide) rfl⟩, hS.F ht⟩) hS.2.2 dX0_joined_132
  have c59i := i_ne (b := -9) c59 rfl (by decide)
  by_cases c61 : x0 = (-8)
  · have c61i := i_eq (b := -8) c61 rfl (by decide)
    refine lv_tableIn (tgt := 125) hx hb dX0_joined_1 (by rw [c61]; decide) (by rw [c61]; decide) (by first | (rw [c61]; done) | (rw [c61]; rfl)) (by decide) ?_
    refine lv_iload_n hx hb dX0_joined_125 rfl (lv_at hl 1 rfl) ?_
    refine lv_iload_n hx hb dX0_joined_126 rfl (lv_at hl 2 rfl) ?_
    refine lv_isub hx hb dX0_joined_127 ?_
    refine lv_topi (fun z62 ez62 => ?_)
    exact W.iret (v := z62) hx hb hr (fun t ht hW => ⟨⟨z62, (), rfl, trivial, cE.of ht hP hD [] (by decide) rfl⟩, hS.F ht⟩) hS.2.2 dX0_joined_128
  have c61i := i_ne (b := -8) c61 rfl (by decide)
  by_cases c63 : x0 = (-7)
  · have c63i := i_eq (b := -7) c63 rfl (by decide)
    refine lv_tableIn (tgt := 121) hx hb dX0_joined_1 (by rw [c63]; decide) (by rw [c63]; decide) (by first | (rw [c63]; done) | (rw [c63]; rfl)) (by decide) ?_
    refine lv_iload_n hx hb dX0_joined_121 rfl (lv_at hl 1 rfl) ?_
    refine lv_iload_n hx hb dX0_joined_122 rfl (lv_at hl 2 rfl) ?_
    refine lv_iadd hx hb dX0_joined_123 ?_
    refine lv_topi (fun z64 ez64 => ?_)
    exact W.iret (v := z64) hx hb hr (fun t ht hW => ⟨⟨z64, (), rfl, trivial, cE.of ht hP hD [] (by decide) rfl⟩, hS.F ht⟩) hS.2.2 dX0_joined_124
  have c63i := i_ne (b := -7) c63 rfl (by decide)
  by_cases c65 : x0 = (-6)
  · have c65i := i_eq (b := -6) c65 rfl (by decide)
    refine lv_tableIn (tgt := 110) hx hb dX0_joined_1 (by rw [c65]; decide) (by rw [c65]; decide) (by first | (rw [c65]; done) | (rw [c65]; rfl)) (by decide) ?_
    refine lv_iload_n hx hb dX0_joined_110 rfl (lv_at hl 1 rfl) ?_
    refine lv_iload_n hx hb dX0_joined_111 rfl (lv_at hl 2 rfl) ?_
    refine lv_icmp_ne (tgt := 119) hx hb dX0_joined_112 (by decide) (fun c66 => ?_) (fun c66 => ?_)
    · have c66 := i_ne (a := x1.toInt) (b := x2.toInt) c66 rfl rfl
      refine lv_iconst (v := 0) hx hb dX0_joined_119 (by decide) ?_
      exact W.iret (v := 0) hx hb hr (fun t ht hW => ⟨⟨0, (), rfl, trivial, cE.of ht hP hD [] (by decide) rfl⟩, hS.F ht⟩) hS.2.2 dX0_joined_120
    · have c66 := i_eq (a := x1.toInt) (b := x2.toInt) c66 rfl rfl
      refine lv_iconst (v := 1) hx hb dX0_joined_115 (by decide) ?_
      refine lv_goto (tgt := 120) hx hb dX0_joined_116 (by decide) ?_
      exact W.iret (v := 1) hx hb hr (fun t ht hW => ⟨⟨1, (), rfl, trivial, cE.of ht hP hD [] (by decide) rfl⟩, hS.F ht⟩) hS.2.2 dX0_joined_120
  have c65i := i_ne (b := -6) c65 rfl (by decide)
  by_cases c67 : x0 = (-5)
  · have c67i := i_eq (b := -5) c67 rfl (by decide)
    refine lv_tableIn (tgt := 99) hx hb dX0_joined_1 (by rw [c67]; decide) (by rw [c67]; decide) (by first | (rw [c67]; done) | (rw [c67]; rfl)) (by decide) ?_
    refine lv_iload_n hx hb dX0_joined_99 rfl (lv_at hl 1 rfl) ?_
    refine lv_iload_n hx hb dX0_joined_100 rfl (lv_at hl 2 rfl) ?_
    refine lv_icmp_le (tgt := 108) hx hb dX0_joined_101 (by decide) (fun c68 => ?_) (fun c68 => ?_)
    · have c68 := i_le (a := x1.toInt) (b := x2.toInt) c68 rfl rfl
      refine lv_iconst (v := 0) hx hb dX0_joined_108 (by decide) ?_
      exact W.iret (v := 0) hx hb hr (fun t ht hW => ⟨⟨0, (), rfl, trivial, cE.of ht hP hD [] (by decide) rfl⟩, hS.F ht⟩) hS.2.2 dX0_joined_109
    · have c68 := i_nle (a := x1.toInt) (b := x2.toInt) c68 rfl rfl
      refine lv_iconst (v := 1) hx hb dX0_joined_104 (by decide) ?_
      refine lv_goto (tgt := 109) hx hb dX0_joined_105 (by decide) ?_
      exact W.iret (v := 1) hx hb hr (fun t ht hW => ⟨⟨1, (), rfl, trivial, cE.of ht hP hD [] (by decide) rfl⟩, hS.F ht⟩) hS.2.2 dX0_joined_109
  have c67i := i_ne (b := -5) c67 rfl (by decide)
  by_cases c69 : x0 = (-4)
  · have c69i := i_eq (b := -4) c69 rfl (by decide)
    refine lv_tableIn (tgt := 88) hx hb dX0_joined_1 (by rw [c69]; decide) (by rw [c69]; decide) (by first | (rw [c69]; done) | (rw [c69]; rfl)) (by decide) ?_
    refine lv_iload_n hx hb dX0_joined_88 rfl (lv_at hl 1 rfl) ?_
    refine lv_iload_n hx hb dX0_joined_89 rfl (lv_at hl 2 rfl) ?_
    refine lv_icmp_ge (tgt := 97) hx hb dX0_joined_90 (by decide) (fun c70 => ?_) (fun c70 => ?_)
    · have c70 := i_le (a := x2.toInt) (b := x1.toInt) c70 rfl rfl
      refine lv_iconst (v := 0) hx hb dX0_joined_97 (by decide) ?_
      exact W.iret (v := 0) hx hb hr (fun t ht hW => ⟨⟨0, (), rfl, trivial, cE.of ht hP hD [] (by decide) rfl⟩, hS.F ht⟩) hS.2.2 dX0_joined_98
    · have c70 := i_nle (a := x2.toInt) (b := x1.toInt) c70 rfl rfl
      refine lv_iconst (v := 1) hx hb dX0_joined_93 (by decide) ?_
      refine lv_goto (tgt := 98) hx hb dX0_joined_94 (by decide) ?_
      exact W.iret (v := 1) hx hb hr (fun t ht hW => ⟨⟨1, (), rfl, trivial, cE.of ht hP hD [] (by decide) rfl⟩, hS.F ht⟩) hS.2.2 dX0_joined_98
  have c69i := i_ne (b := -4) c69 rfl (by decide)
  by_cases c71 : x0 = (-3)
  · have c71i := i_eq (b := -3) c71 rfl (by decide)
    refine lv_tableIn (tgt := 157) hx hb dX0_joined_1 (by rw [c71]; decide) (by rw [c71]; decide) (by first | (rw [c71]; done) | (rw [c71]; rfl)) (by decide) ?_
    refine lv_iconst (v := 0) hx hb dX0_joined_157 (by decide) ?_
    exact W.iret (v := 0) hx hb hr (fun t ht hW => ⟨⟨0, (), rfl, trivial, cE.of ht hP hD [] (by decide) rfl⟩, hS.F ht⟩) hS.2.2 dX0_joined_158
  have c71i := i_ne (b := -3) c71 rfl (by decide)
  by_cases c72 : x0 = (-2)
  · have c72i := i_eq (b := -2) c72 rfl (by decide)
    refine lv_tableIn (tgt := 74) hx hb dX0_joined_1 (by rw [c72]; decide) (by rw [c72]; decide) (by first | (rw [c72]; done) | (rw [c72]; rfl)) (by decide) ?_
    refine lv_iload_n hx hb dX0_joined_74 rfl (lv_at hl 1 rfl) ?_
    refine lv_if_eq (tgt := 86) hx hb dX0_joined_75 (by decide) (fun c73 => ?_) (fun c73 => ?_)
    · have c73 := i_eq (a := x1.toInt) (b := 0) c73 rfl (by decide)
      refine lv_iconst (v := 0) hx hb dX0_joined_86 (by decide) ?_
      exact W.iret (v := 0) hx hb hr (fun t ht hW => ⟨⟨0, (), rfl, trivial, cE.of ht hP hD [] (by decide) rfl⟩, hS.F ht⟩) hS.2.2 dX0_joined_87
    · have c73 := i_ne (a := x1.toInt) (b := 0) c73 rfl (by decide)
      refine lv_iload_n hx hb dX0_joined_78 rfl (lv_at hl 2 rfl) ?_
      refine lv_if_eq (tgt := 86) hx hb dX0_joined_79 (by decide) (fun c74 => ?_) (fun c74 => ?_)
      · have c74 := i_eq (a := x2.toInt) (b := 0) c74 rfl (by decide)
        refine lv_iconst (v := 0) hx hb dX0_joined_86 (by decide) ?_
        exact W.iret (v := 0) hx hb hr (fun t ht hW => ⟨⟨0, (), rfl, trivial, cE.of ht hP hD [] (by decide) rfl⟩, hS.F ht⟩) hS.2.2 dX0_joined_87
      · have c74 := i_ne (a := x2.toInt) (b := 0) c74 rfl (by decide)
        refine lv_iconst (v := 1) hx hb dX0_joined_82 (by decide) ?_
        refine lv_goto (tgt := 87) hx hb dX0_joined_83 (by decide) ?_
        exact W.iret (v := 1) hx hb hr (fun t ht hW => ⟨⟨1, (), rfl, trivial, cE.of ht hP hD [] (by decide) rfl⟩, hS.F ht⟩) hS.2.2 dX0_joined_87
  have c72i := i_ne (b := -2) c72 rfl (by decide)
  by_cases c75 : x0 = (-1)
  · have c75i := i_eq (b := -1) c75 rfl (by decide)
    refine lv_tableIn (tgt := 60) hx hb dX0_joined_1 (by rw [c75]; decide) (by rw [c75]; decide) (by first | (rw [c75]; done) | (rw [c75]; rfl)) (by decide) ?_
    refine lv_iload_n hx hb dX0_joined_60 rfl (lv_at hl 1 rfl) ?_
    refine lv_if_ne (tgt := 68) hx hb dX0_joined_61 (by decide) (fun c76 => ?_) (fun c76 => ?_)
    · have c76 := i_ne (a := x1.toInt) (b := 0) c76 rfl (by decide)
      refine lv_iconst (v := 1) hx hb dX0_joined_68 (by decide) ?_
      refine lv_goto (tgt := 73) hx hb dX0_joined_69 (by decide) ?_
      exact W.iret (v := 1) hx hb hr (fun t ht hW => ⟨⟨1, (), rfl, trivial, cE.of ht hP hD [] (by decide) rfl⟩, hS.F ht⟩) hS.2.2 dX0_joined_73
    · have c76 := i_eq (a := x1.toInt) (b := 0) c76 rfl (by decide)
      refine lv_iload_n hx hb dX0_joined_64 rfl (lv_at hl 2 rfl) ?_
      refine lv_if_eq (tgt := 72) hx hb dX0_joined_65 (by decide) (fun c77 => ?_) (fun c77 => ?_)
      · have c77 := i_eq (a := x2.toInt) (b := 0) c77 rfl (by decide)
        refine lv_iconst (v := 0) hx hb dX0_joined_72 (by decide) ?_
        exact W.iret (v := 0) hx hb hr (fun t ht hW => ⟨⟨0, (), rfl, trivial, cE.of ht hP hD [] (by decide) rfl⟩, hS.F ht⟩) hS.2.2 dX0_joined_73
      · have c77 := i_ne (a := x2.toInt) (b := 0) c77 rfl (by decide)
        refine lv_iconst (v := 1) hx hb dX0_joined_68 (by decide) ?_
        refine lv_goto (tgt := 73) hx hb dX0_joined_69 (by decide) ?_
        exact W.iret (v := 1) hx hb hr (fun t ht hW => ⟨⟨1, (), rfl, trivial, cE.of ht hP hD [] (by decide) rfl⟩, hS.F ht⟩) hS.2.2 dX0_joined_73
  have c75i := i_ne (b := -1) c75 rfl (by decide)
  refine lv_tableOut (tgt := 157) hx hb dX0_joined_1 (by omega) (by decide) ?_
  refine lv_iconst (v := 0) hx hb dX0_joined_157 (by decide) ?_
  exact W.iret (v := 0) hx hb hr (fun t ht hW => ⟨⟨0, (), rfl, trivial, cE.of ht hP hD [] (by decide) rfl⟩, hS.F ht⟩) hS.2.2 dX0_joined_158
def wo_k_Fo_delay : List Cond := [.fieldLink RX0 21 "ReplicaChain$Formula" "length" "I", .fieldLink RX0 18 "ReplicaChain$Formula" "facts" "[I", .fieldLink RX0 15 "ReplicaChain$Formula" "stack" "[I", .methodLink RX0 33 Lib.Math.min.name, .static Lib.Math.min.name, .initialized "java/lang/Math", .code Lib.Math.min.name Lib.Math.min.code 2 (some .int), .methodLink RX0 39 Lib.Math.max.name, .static Lib.Math.max.name, .code Lib.Math.max.name Lib.Math.max.code 2 (some .int), .fieldLink RX0 11 "ReplicaChain$Formula" "steps" "[I", .methodLink RX0 29 yX0_joined, .static yX0_joined, .initialized RX0, .methodLink RX0 25 yX0_factOf, .instanceMethod yX0_factOf, .selects RX0 yX0_factOf yX0_factOf]
def wq_k_Fo_delay : List Cond := .code yX0_delay cX0_delay 10 (some .int) :: (wo_k_Fo_delay ++ (wq_k_Fo_joined ++ (wq_k_Fo_factOf ++ (wsX00 ++ []))))
theorem gd_k_Fo_delay : Gd wq_k_Fo_delay := gd_c (gd_a (gd_o (by decide +kernel)) (gd_a gd_k_Fo_joined (gd_a gd_k_Fo_factOf (gd_a gd_u gd_0))))
abbrev wc_k_Fo_delay (cyB cyI cyJ cyZ cyO : ClassId) (hf : Nat) (fd : Nat → Nat) (f_steps : Nat → Int32) (f_stack : Nat → Int32) (f_facts : Nat → Int32) (f_length : Int32) (x1 : Int32) (x2 : Int32) (x3 : Int32) (x4 : Int32) (x5 : Int32) (x6 : Int32) : va_W := [(hf, .inr (0, [.ref (fd 0), .ref (fd 1), .ref (fd 2), .int f_length])), (fd 0, .inl (cyI, 270, .inl f_steps)), (fd 1, .inl (cyI, 31, .inl f_stack)), (fd 2, .inl (cyI, 6, .inl f_facts))]
set_option maxHeartbeats 4000000 in
set_option maxRecDepth 100000 in
theorem k_Fo_delay (l : Launch) (dC : Nat → ClassId) (dI : Nat → Nat → Nat) (cyB cyI cyJ cyZ cyO : ClassId) (hf : Nat) (fd : Nat → Nat) (f_steps : Nat → Int32) (f_stack : Nat → Int32) (f_facts : Nat → Int32) (f_length : Int32) (x1 : Int32) (x2 : Int32) (x3 : Int32) (x4 : Int32) (x5 : Int32) (x6 : Int32) (sz : Nat) (l_f_length : 0 ≤ f_length.toInt) (u_f_length : f_length.toInt ≤ 270) : Met l yX0_delay wq_k_Fo_delay ({ frames := 1, cells := 0, slots := 0, locals := 24 }) (va_Pc [.ref hf, .int x1, .int x2, .int x3, .int x4, .int x5, .int x6] (cB (dC, dI) (kT cyB cyI cyJ cyZ cyO) (wc_k_Fo_delay cyB cyI cyJ cyZ cyO hf fd f_steps f_stack f_facts f_length x1 x2 x3 x4 x5 x6) sz)) (va_Qi (fun (r : Int32) (u : ST4) => (1 ≤ r.toInt) ∧ (r.toInt ≤ 9)) (fun (u : ST4) t => cE (dC, dI) (va_A (wc_k_Fo_delay cyB cyI cyJ cyZ cyO hf fd f_steps f_stack f_facts f_length x1 x2 x3 x4 x5 x6) sz) ([(hf, .inr (0, [.ref (fd 0), .ref (fd 1), .ref (fd 2), .int f_length])), (fd 0, .inl (cyI, 270, .inl f_steps)), (fd 1, .inl (cyI, 31, .inl (u.1 0))), (fd 2, .inl (cyI, 6, .inl (u.1 1)))]) t.heap) (va_A (wc_k_Fo_delay cyB cyI cyJ cyZ cyO hf fd f_steps f_stack f_facts f_length x1 x2 x3 x4 x5 x6) sz)) 0 0 (va_A (wc_k_Fo_delay cyB cyI cyJ cyZ cyO hf fd f_steps f_stack f_facts f_length x1 x2 x3 x4 x5 x6) sz) := by
  refine Met.ofW (cc := cX0_delay) (maxL := 10) (ret := (some .int)) (by decide) rfl ?_
  intro p e s m args below meth c s₁ B hml hv
  obtain ⟨rfl, hsz, hP, hKN, hD0⟩ := hv
  have hx := B.exec
  have hb := B.bytes
  have hr := B.returns
  have hts := atoms_spec (ws := wq_k_Fo_delay) B.pre
  have hown : s.vm.findClass RX0 = some m.cls := findClass_of_methodNamed B.named
  have hlocks := B.notSynchronized
  have hK := hKN.1
  have hfix : CallFix p m c cX0_delay 10 s [.ref hf, .int x1, .int x2, .int x3, .int x4, .int x5, .int x6].toArray wq_k_Fo_delay RX0 := ⟨hx, hb, hml, hown, hts⟩
  have hi0 : ∀ w ∈ wsX00, w ∈ wq_k_Fo_delay := (sb_c (sb_r (sb_r sb_l)))
  subst hsz
  have hD := hD0.self (sz := s.heap.size)
  generalize hAe : va_A (wc_k_Fo_delay cyB cyI cyJ cyZ cyO hf fd f_steps f_stack f_facts f_length x1 x2 x3 x4 x5 x6) s.heap.size = A at hD ⊢
  have hA : ∀ q : Nat, s.heap.size ≤ q → A q := fun q h => by rw [← hAe]; exact Or.inr h
  have hS : va_S A s.heap s.heap [] := va_S.rf
  have hl := lv_entry ([.ref hf, .int x1, .int x2, .int x3, .int x4, .int x5, .int x6]) (n := 10) (Nat.le_of_ble_eq_true rfl)
  rw [lg_entry_eq]
  generalize (lg_sl ([.ref hf, .int x1, .int x2, .int x3, .int x4, .int x5, .int x6]) ++ List.replicate (10 - (lg_sl ([.ref hf, .int x1, .int x2, .int x3, .int x4, .int x5, .int x6])).length) Slot.unset).toArray = ls at hl ⊢
  have hl : lv_has ls 10 [(0, .ref hf), (1, .int x1), (2, .int x2), (3, .int x3), (4, .int x4), (5, .int x5), (6, .int x6)] := hl
  have ck0 : (0 : Int32).toInt = 0 := by decide
  have ck1 : (1 : Int32).toInt = 1 := by decide
  refine lv_aload_n hx hb dX0_delay_0 rfl (lv_at hl 0 rfl) ?_
  refine va_get (D := (dC, dI)) (ci := 0) (v := .int f_length) (C := RX0) (T := TX0) (N := 4) hx hb hts hi0 hown hK hP 0 rfl rfl 3 (by decide) (hts _ (ow_m (k := 0) rfl)) (fun _ h9 => h9) rfl dX0_delay_1 ?_
  refine lv_if_ne (tgt := 9) hx hb dX0_delay_4 (by decide) (fun c4978 => ?_) (fun c4978 => ?_)
  · have c4978 := i_ne (a := f_length.toInt) (b := 0) c4978 rfl (by decide)
    refine lv_aload_n hx hb dX0_delay_9 rfl (lv_at hl 0 rfl) ?_
    refine va_get (D := (dC, dI)) (ci := 0) (v := .ref (fd 2)) (C := RX0) (T := TX0) (N := 4) hx hb hts hi0 hown hK hP 0 rfl rfl 2 (by decide) (hts _ (ow_m (k := 1) rfl)) (fun _ h9 => h9) rfl dX0_delay_10 ?_
    refine lv_iconst (v := 0) hx hb dX0_delay_13 (by decide) ?_
    refine lv_iload_n hx hb dX0_delay_14 rfl (lv_at hl 1 rfl) ?_
    refine va_iast hx hb hK hP hD hS 3 1 rfl rfl (vp_i (a := 0) (by decide) (by decide) (by decide)) dX0_delay_15 (fun H locs hP hD hS => ?_)
    have hP : va_P (dC, dI) vwCl [(hf, .inr (0, [.ref (fd 0), .ref (fd 1), .ref (fd 2), .int f_length])), (fd 0, .inl (cyI, 270, .inl f_steps)), (fd 1, .inl (cyI, 31, .inl f_stack)), (fd 2, .inl (cyI, 6, .inl (upd f_facts (0 : Int32).toNatClampNeg x1)))] H := hP
    have hD : va_D A [(hf, .inr (0, [.ref (fd 0), .ref (fd 1), .ref (fd 2), .int f_length])), (fd 0, .inl (cyI, 270, .inl f_steps)), (fd 1, .inl (cyI, 31, .inl f_stack)), (fd 2, .inl (cyI, 6, .inl (upd f_facts (0 : Int32).toNatClampNeg x1)))] := hD
    generalize ef4979 : upd f_facts (0 : Int32).toNatClampNeg x1 = f4979 at hP hD
    refine lv_aload_n hx hb dX0_delay_16 rfl (lv_at hl 0 rfl) ?_
    refine va_get (D := (dC, dI)) (ci := 0) (v := .ref (fd 2)) (C := RX0) (T := TX0) (N := 4) hx hb hts hi0 hown hK hP 0 rfl rfl 2 (by decide) (hts _ (ow_m (k := 1) rfl)) (fun _ h9 => h9) rfl dX0_delay_17 ?_
    refine lv_iconst (v := 1) hx hb dX0_delay_20 (by decide) ?_
    refine lv_iload_n hx hb dX0_delay_21 rfl (lv_at hl 2 rfl) ?_
    refine va_iast hx hb hK hP hD hS 3 1 rfl rfl (vp_i (a := 1) (by decide) (by decide) (by decide)) dX0_delay_22 (fun H locs hP hD hS => ?_)
    have hP : va_P (dC, dI) vwCl [(hf, .inr (0, [.ref (fd 0), .ref (fd 1), .ref (fd 2), .int f_length])), (fd 0, .inl (cyI, 270, .inl f_steps)), (fd 1, .inl (cyI, 31, .inl f_stack)), (fd 2, .inl (cyI, 6, .inl (upd f4979 (1 : Int32).toNatClampNeg x2)))] H := hP
    have hD : va_D A [(hf, .inr (0, [.ref (fd 0), .ref (fd 1), .ref (fd 2), .int f_length])), (fd 0, .inl (cyI, 270, .inl f_steps)), (fd 1, .inl (cyI, 31, .inl f_stack)), (fd 2, .inl (cyI, 6, .inl (upd f4979 (1 : Int32).toNatClampNeg x2)))] := hD
    generalize ef4980 : upd f4979 (1 : Int32).toNatClampNeg x2 = f4980 at hP hD
    refine lv_aload_n hx hb dX0_delay_23 rfl (lv_at hl 0 rfl) ?_
    refine va_get (D := (dC, dI)) (ci := 0) (v := .ref (fd 2)) (C := RX0) (T := TX0) (N := 4) hx hb hts hi0 hown hK hP 0 rfl rfl 2 (by decide) (hts _ (ow_m (k := 1) rfl)) (fun _ h9 => h9) rfl dX0_delay_24 ?_
    refine lv_iconst (v := 2) hx hb dX0_delay_27 (by decide) ?_
    refine lv_iload_n hx hb dX0_delay_28 rfl (lv_at hl 3 rfl) ?_
    refine va_iast hx hb hK hP hD hS 3 1 rfl rfl (vp_i (a := 2) (by decide) (by decide) (by decide)) dX0_delay_29 (fun H locs hP hD hS => ?_)
    have hP : va_P (dC, dI) vwCl [(hf, .inr (0, [.ref (fd 0), .ref (fd 1), .ref (fd 2), .int f_length])), (fd 0, .inl (cyI, 270, .inl f_steps)), (fd 1, .inl (cyI, 31, .inl f_stack)), (fd 2, .inl (cyI, 6, .inl (upd f4980 (2 : Int32).toNatClampNeg x3)))] H := hP
    have hD : va_D A [(hf, .inr (0, [.ref (fd 0), .ref (fd 1), .ref (fd 2), .int f_length])), (fd 0, .inl (cyI, 270, .inl f_steps)), (fd 1, .inl (cyI, 31, .inl f_stack)), (fd 2, .inl (cyI, 6, .inl (upd f4980 (2 : Int32).toNatClampNeg x3)))] := hD
    generalize ef4981 : upd f4980 (2 : Int32).toNatClampNeg x3 = f4981 at hP hD
    refine lv_aload_n hx hb dX0_delay_30 rfl (lv_at hl 0 rfl) ?_
    refine va_get (D := (dC, dI)) (ci := 0) (v := .ref (fd 2)) (C := RX0) (T := TX0) (N := 4) hx hb hts hi0 hown hK hP 0 rfl rfl 2 (by decide) (hts _ (ow_m (k := 1) rfl)) (fun _ h9 => h9) rfl dX0_delay_31 ?_
    refine lv_iconst (v := 3) hx hb dX0_delay_34 (by decide) ?_
    refine lv_iload hx hb dX0_delay_35 (lv_at hl 4 rfl) ?_
    refine va_iast hx hb hK hP hD hS 3 1 rfl rfl (vp_i (a := 3) (by decide) (by decide) (by decide)) dX0_delay_37 (fun H locs hP hD hS => ?_)
    have hP : va_P (dC, dI) vwCl [(hf, .inr (0, [.ref (fd 0), .ref (fd 1), .ref (fd 2), .int f_length])), (fd 0, .inl (cyI, 270, .inl f_steps)), (fd 1, .inl (cyI, 31, .inl f_stack)), (fd 2, .inl (cyI, 6, .inl (upd f4981 (3 : Int32).toNatClampNeg x4)))] H := hP
    have hD : va_D A [(hf, .inr (0, [.ref (fd 0), .ref (fd 1), .ref (fd 2), .int f_length])), (fd 0, .inl (cyI, 270, .inl f_steps)), (fd 1, .inl (cyI, 31, .inl f_stack)), (fd 2, .inl (cyI, 6, .inl (upd f4981 (3 : Int32).toNatClampNeg x4)))] := hD
    generalize ef4982 : upd f4981 (3 : Int32).toNatClampNeg x4 = f4982 at hP hD
    refine lv_aload_n hx hb dX0_delay_38 rfl (lv_at hl 0 rfl) ?_
    refine va_get (D := (dC, dI)) (ci := 0) (v := .ref (fd 2)) (C := RX0) (T := TX0) (N := 4) hx hb hts hi0 hown hK hP 0 rfl rfl 2 (by decide) (hts _ (ow_m (k := 1) rfl)) (fun _ h9 => h9) rfl dX0_delay_39 ?_
    refine lv_iconst (v := 4) hx hb dX0_delay_42 (by decide) ?_
    refine lv_iload hx hb dX0_delay_43 (lv_at hl 5 rfl) ?_
    refine va_iast hx hb hK hP hD hS 3 1 rfl rfl (vp_i (a := 4) (by decide) (by decide) (by decide)) dX0_delay_45 (fun H locs hP hD hS => ?_)
    have hP : va_P (dC, dI) vwCl [(hf, .inr (0, [.ref (fd 0), .ref (fd 1), .ref (fd 2), .int f_length])), (fd 0, .inl (cyI, 270, .inl f_steps)), (fd 1, .inl (cyI, 31, .inl f_stack)), (fd 2, .inl (cyI, 6, .inl (upd f4982 (4 : Int32).toNatClampNeg x5)))] H := hP
    have hD : va_D A [(hf, .inr (0, [.ref (fd 0), .ref (fd 1), .ref (fd 2), .int f_length])), (fd 0, .inl (cyI, 270, .inl f_steps)), (fd 1, .inl (cyI, 31, .inl f_stack)), (fd 2, .inl (cyI, 6, .inl (upd f4982 (4 : Int32).toNatClampNeg x5)))] := hD
    generalize ef4983 : upd f4982 (4 : Int32).toNatClampNeg x5 = f4983 at hP hD
    refine lv_aload_n hx hb dX0_delay_46 rfl (lv_at hl 0 rfl) ?_
    refine va_get (D := (dC, dI)) (ci := 0) (v := .ref (fd 2)) (C := RX0) (T := TX0) (N := 4) hx hb hts hi0 hown hK hP 0 rfl rfl 2 (by decide) (hts _ (ow_m (k := 1) rfl)) (fun _ h9 => h9) rfl dX0_delay_47 ?_
    refine lv_iconst (v := 5) hx hb dX0_delay_50 (by decide) ?_
    refine lv_iload hx hb dX0_delay_51 (lv_at hl 6 rfl) ?_
    refine va_iast hx hb hK hP hD hS 3 1 rfl rfl (vp_i (a := 5) (by decide) (by decide) (by decide)) dX0_delay_53 (fun H locs hP hD hS => ?_)
    have hP : va_P (dC, dI) vwCl [(hf, .inr (0, [.ref (fd 0), .ref (fd 1), .ref (fd 2), .int f_length])), (fd 0, .inl (cyI, 270, .inl f_steps)), (fd 1, .inl (cyI, 31, .inl f_stack)), (fd 2, .inl (cyI, 6, .inl (upd f4983 (5 : Int32).toNatClampNeg x6)))] H := hP
    have hD : va_D A [(hf, .inr (0, [.ref (fd 0), .ref (fd 1), .ref (fd 2), .int f_length])), (fd 0, .inl (cyI, 270, .inl f_steps)), (fd 1, .inl (cyI, 31, .inl f_stack)), (fd 2, .inl (cyI, 6, .inl (upd f4983 (5 : Int32).toNatClampNeg x6)))] := hD
    generalize ef4984 : upd f4983 (5 : Int32).toNatClampNeg x6 = f4984 at hP hD
    refine lv_iconst (v := 0) hx hb dX0_delay_54 (by decide) ?_
    refine lv_istore (lv' := [(7, .int 0), (0, .ref hf), (1, .int x1), (2, .int x2), (3, .int x3), (4, .int x4), (5, .int x5), (6, .int x6)]) hx hb dX0_delay_55 hl (by decide) rfl (fun ls hl => ?_)
    refine lv_iconst (v := 0) hx hb dX0_delay_57 (by decide) ?_
    refine lv_istore (lv' := [(8, .int 0), (7, .int 0), (0, .ref hf), (1, .int x1), (2, .int x2), (3, .int x3), (4, .int x4), (5, .int x5), (6, .int x6)]) hx hb dX0_delay_58 hl (by decide) rfl (fun ls hl => ?_)
    refine w_gen (fun H locs ls hP hS hl => ?_) hP hS hl
    obtain ⟨f4985, v4986, v4987, hl2, hP2, hD2, b4988, b4989, b4990, b4991⟩ : ∃ (f4985 : Nat → Int32) (v4986 : Int32) (v4987 : Int32), lv_has ls 10 [(8, .int v4987), (7, .int v4986), (0, .ref hf), (1, .int x1), (2, .int x2), (3, .int x3), (4, .int x4), (5, .int x5), (6, .int x6)] ∧ va_P (dC, dI) vwCl [(hf, .inr (0, [.ref (fd 0), .ref (fd 1), .ref (fd 2), .int f_length])), (fd 0, .inl (cyI, 270, .inl f_steps)), (fd 1, .inl (cyI, 31, .inl f4985)), (fd 2, .inl (cyI, 6, .inl f4984))] H ∧ va_D A [(hf, .inr (0, [.ref (fd 0), .ref (fd 1), .ref (fd 2), .int f_length])), (fd 0, .inl (cyI, 270, .inl f_steps)), (fd 1, .inl (cyI, 31, .inl f4985)), (fd 2, .inl (cyI, 6, .inl f4984))] ∧ (0 ≤ v4986.toInt) ∧ (v4986.toInt ≤ 31) ∧ (0 ≤ v4987.toInt) ∧ (v4987.toInt ≤ 270) := ⟨f_stack, (0 : Int32), (0 : Int32), hl, hP, hD, by first | assumption | omega, by first | assumption | omega, by first | assumption | omega, by first | assumption | omega⟩
    clear hP hl
    have hP := hP2
    have hD := hD2
    have hl := hl2
    clear hP2 hD2 hl2
    obtain ⟨n4992, hn4992⟩ : ∃ n : Nat, 270 - v4987.toInt < (n : Int) := ⟨(270 - v4987.toInt).toNat + 1, by omega⟩
    induction n4992 generalizing f4985 v4986 v4987 H locs ls with
    | zero => exfalso; omega
    | succ n4992 ih4993 =>
      refine lv_iload hx hb dX0_delay_60 (lv_at hl 0 rfl) ?_
      refine lv_aload_n hx hb dX0_delay_62 rfl (lv_at hl 2 rfl) ?_
      refine va_get (D := (dC, dI)) (ci := 0) (v := .int f_length) (C := RX0) (T := TX0) (N := 4) hx hb hts hi0 hown hK hP 0 rfl rfl 3 (by decide) (hts _ (ow_m (k := 0) rfl)) (fun _ h9 => h9) rfl dX0_delay_63 ?_
      refine lv_icmp_ge (tgt := 215) hx hb dX0_delay_66 (by decide) (fun c4994 => ?_) (fun c4994 => ?_)
      · have c4994 := i_le (a := f_length.toInt) (b := v4987.toInt) c4994 rfl rfl
        refine lv_iconst (v := 1) hx hb dX0_delay_215 (by decide) ?_
        refine lv_bipush (v := 9) hx hb dX0_delay_216 (by decide) ?_
        refine lv_aload_n hx hb dX0_delay_218 rfl (lv_at hl 2 rfl) ?_
        refine va_get (D := (dC, dI)) (ci := 0) (v := .ref (fd 1)) (C := RX0) (T := TX0) (N := 4) hx hb hts hi0 hown hK hP 0 rfl rfl 1 (by decide) (hts _ (ow_m (k := 2) rfl)) (fun _ h9 => h9) rfl dX0_delay_219 ?_
        refine lv_iconst (v := 0) hx hb dX0_delay_222 (by decide) ?_
        refine va_iald hx hb hK hP 2 1 rfl rfl (vp_i (a := 0) (by decide) (by decide) (by decide)) dX0_delay_223 ?_
        refine lv_topi (fun z4995 ez4995 => ?_)
        refine va_mmin hx hb (hml.trans hl.1.symm) hown (hts _ (ow_m (k := 3) rfl)) (hts _ (ow_m (k := 4) rfl)) (hts _ (ow_m (k := 5) rfl)) (hts _ (ow_m (k := 6) rfl)) (Nat.le_of_ble_eq_true rfl) (Nat.le_of_ble_eq_true rfl) (Nat.le_of_ble_eq_true rfl) (Nat.le_of_ble_eq_true rfl) dX0_delay_224 ?_
        refine lv_topi (fun z4996 ez4996 => ?_)
        have tz4996 := mm_min (a := 9) (b := z4995.toInt) ez4996 (by decide) rfl
        refine va_mmax hx hb (hml.trans hl.1.symm) hown (hts _ (ow_m (k := 7) rfl)) (hts _ (ow_m (k := 8) rfl)) (hts _ (ow_m (k := 5) rfl)) (hts _ (ow_m (k := 9) rfl)) (Nat.le_of_ble_eq_true rfl) (Nat.le_of_ble_eq_true rfl) (Nat.le_of_ble_eq_true rfl) (Nat.le_of_ble_eq_true rfl) dX0_delay_227 ?_
        refine lv_topi (fun z4997 ez4997 => ?_)
        have tz4997 := mm_max (a := 1) (b := z4996.toInt) ez4997 (by decide) rfl
        have w4998 : 1 ≤ z4997.toInt := by first | omega | assumption
        have w4999 : z4997.toInt ≤ 9 := by first | omega | assumption
        exact W.iret (v := z4997) hx hb hr (fun t ht hW => ⟨⟨z4997, ((fun k => match k with | 0 => f4985 | _ => f4984), (fun _ => 0), (fun _ => 0), (fun _ => fun _ => 0)), rfl, ⟨w4998, w4999⟩, cE.of ht hP hD [0, 1, 2, 3] (by decide) rfl⟩, hS.F ht⟩) hS.2.2 dX0_delay_230
      · have c4994 := i_nle (a := f_length.toInt) (b := v4987.toInt) c4994 rfl rfl
        refine lv_aload_n hx hb dX0_delay_69 rfl (lv_at hl 2 rfl) ?_
        refine va_get (D := (dC, dI)) (ci := 0) (v := .ref (fd 0)) (C := RX0) (T := TX0) (N := 4) hx hb hts hi0 hown hK hP 0 rfl rfl 0 (by decide) (hts _ (ow_m (k := 10) rfl)) (fun _ h9 => h9) rfl dX0_delay_70 ?_
        refine lv_iload hx hb dX0_delay_73 (lv_at hl 0 rfl) ?_
        refine va_iald hx hb hK hP 1 1 rfl rfl (vp_i rfl (by omega) (by omega)) dX0_delay_75 ?_
        refine lv_topi (fun z5000 ez5000 => ?_)
        refine lv_istore (lv' := [(9, .int z5000), (8, .int v4987), (7, .int v4986), (0, .ref hf), (1, .int x1), (2, .int x2), (3, .int x3), (4, .int x4), (5, .int x5), (6, .int x6)]) hx hb dX0_delay_76 hl (by decide) rfl (fun ls hl => ?_)
        refine lv_iload hx hb dX0_delay_78 (lv_at hl 0 rfl) ?_
        refine lv_if_ge (tgt := 90) hx hb dX0_delay_80 (by decide) (fun c5001 => ?_) (fun c5001 => ?_)
        · have c5001 := i_le (a := 0) (b := z5000.toInt) c5001 (by decide) rfl
          refine lv_iload hx hb dX0_delay_90 (lv_at hl 2 rfl) ?_
          refine lv_aload_n hx hb dX0_delay_92 rfl (lv_at hl 3 rfl) ?_
          refine va_get (D := (dC, dI)) (ci := 0) (v := .ref (fd 1)) (C := RX0) (T := TX0) (N := 4) hx hb hts hi0 hown hK hP 0 rfl rfl 1 (by decide) (hts _ (ow_m (k := 2) rfl)) (fun _ h9 => h9) rfl dX0_delay_93 ?_
          refine va_alen (v := 31) hx hb hK hP 2 1 rfl rfl rfl dX0_delay_96 ?_
          refine lv_icmp_ge (tgt := 209) hx hb dX0_delay_97 (by decide) (fun c5002 => ?_) (fun c5002 => ?_)
          · have c5002 := i_le (a := 31) (b := v4986.toInt) c5002 (by decide) rfl
            obtain ⟨z5003, ez5003⟩ : ∃ y : Int32, y = v4987 + 1 := ⟨_, rfl⟩
            have tz5003 := ti_add (a := v4987.toInt) (b := 1) ez5003 rfl (by decide) (by omega) (by omega)
            refine lv_iinc (v := z5003) (lv' := [(8, .int z5003), (9, .int z5000), (7, .int v4986), (0, .ref hf), (1, .int x1), (2, .int x2), (3, .int x3), (4, .int x4), (5, .int x5), (6, .int x6)]) hx hb dX0_delay_209 hl (k := 1) rfl (by rw [ez5003]; rfl) (by decide) rfl (fun ls hl => ?_)
            refine lv_goto (tgt := 60) hx hb dX0_delay_212 (by decide) ?_
            have hl := lv_sub (l' := [(8, .int z5003), (7, .int v4986), (0, .ref hf), (1, .int x1), (2, .int x2), (3, .int x3), (4, .int x4), (5, .int x5), (6, .int x6)]) hl [0, 2, 3, 4, 5, 6, 7, 8, 9] rfl
            apply ih4993 (f4985 := f4985) (v4986 := v4986) (v4987 := z5003) (H := H) (locs := locs) (ls := ls) <;> first | assumption | omega
          · have c5002 := i_nle (a := 31) (b := v4986.toInt) c5002 (by decide) rfl
            refine lv_aload_n hx hb dX0_delay_100 rfl (lv_at hl 3 rfl) ?_
            refine va_get (D := (dC, dI)) (ci := 0) (v := .ref (fd 1)) (C := RX0) (T := TX0) (N := 4) hx hb hts hi0 hown hK hP 0 rfl rfl 1 (by decide) (hts _ (ow_m (k := 2) rfl)) (fun _ h9 => h9) rfl dX0_delay_101 ?_
            refine lv_iload hx hb dX0_delay_104 (lv_at hl 2 rfl) ?_
            refine lv_iload hx hb dX0_delay_106 (lv_at hl 0 rfl) ?_
            refine lv_if_lt (tgt := 116) hx hb dX0_delay_108 (by decide) (fun c5004 => ?_) (fun c5004 => ?_)
            · have c5004 := i_lt (a := z5000.toInt) (b := 0) c5004 rfl (by decide)
              exfalso; omega
            · have c5004 := i_nlt (a := z5000.toInt) (b := 0) c5004 rfl (by decide)
              refine lv_iload hx hb dX0_delay_111 (lv_at hl 0 rfl) ?_
              refine lv_goto (tgt := 122) hx hb dX0_delay_113 (by decide) ?_
              refine va_iast hx hb hK hP hD hS 2 1 rfl rfl (vp_i rfl (by omega) (by omega)) dX0_delay_122 (fun H locs hP hD hS => ?_)
              have hP : va_P (dC, dI) vwCl [(hf, .inr (0, [.ref (fd 0), .ref (fd 1), .ref (fd 2), .int f_length])), (fd 0, .inl (cyI, 270, .inl f_steps)), (fd 1, .inl (cyI, 31, .inl (upd f4985 v4986.toNatClampNeg z5000))), (fd 2, .inl (cyI, 6, .inl f4984))] H := hP
              have hD : va_D A [(hf, .inr (0, [.ref (fd 0), .ref (fd 1), .ref (fd 2), .int f_length])), (fd 0, .inl (cyI, 270, .inl f_steps)), (fd 1, .inl (cyI, 31, .inl (upd f4985 v4986.toNatClampNeg z5000))), (fd 2, .inl (cyI, 6, .inl f4984))] := hD
              generalize ef5005 : upd f4985 v4986.toNatClampNeg z5000 = f5005 at hP hD
              obtain ⟨z5006, ez5006⟩ : ∃ y : Int32, y = v4986 + 1 := ⟨_, rfl⟩
              have tz5006 := ti_add (a := v4986.toInt) (b := 1) ez5006 rfl (by decide) (by omega) (by omega)
              refine lv_iinc (v := z5006) (lv' := [(7, .int z5006), (9, .int z5000), (8, .int v4987), (0, .ref hf), (1, .int x1), (2, .int x2), (3, .int x3), (4, .int x4), (5, .int x5), (6, .int x6)]) hx hb dX0_delay_123 hl (k := 2) rfl (by rw [ez5006]; rfl) (by decide) rfl (fun ls hl => ?_)
              refine lv_goto (tgt := 209) hx hb dX0_delay_126 (by decide) ?_
              obtain ⟨z5007, ez5007⟩ : ∃ y : Int32, y = v4987 + 1 := ⟨_, rfl⟩
              have tz5007 := ti_add (a := v4987.toInt) (b := 1) ez5007 rfl (by decide) (by omega) (by omega)
              refine lv_iinc (v := z5007) (lv' := [(8, .int z5007), (7, .int z5006), (9, .int z5000), (0, .ref hf), (1, .int x1), (2, .int x2), (3, .int x3), (4, .int x4), (5, .int x5), (6, .int x6)]) hx hb dX0_delay_209 hl (k := 2) rfl (by rw [ez5007]; rfl) (by decide) rfl (fun ls hl => ?_)
              refine lv_goto (tgt := 60) hx hb dX0_delay_212 (by decide) ?_
              have hl := lv_sub (l' := [(8, .int z5007), (7, .int z5006), (0, .ref hf), (1, .int x1), (2, .int x2), (3, .int x3), (4, .int x4), (5, .int x5), (6, .int x6)]) hl [0, 1, 3, 4, 5, 6, 7, 8, 9] rfl
              apply ih4993 (f4985 := f5005) (v4986 := z5006) (v4987 := z5007) (H := H) (locs := locs) (ls := ls) <;> first | assumption | omega
        · have c5001 := i_nle (a := 0) (b := z5000.toInt) c5001 (by decide) rfl
          refine lv_iload hx hb dX0_delay_83 (lv_at hl 0 rfl) ?_
          refine lv_bipush (v := (-20)) hx hb dX0_delay_85 (by decide) ?_
          refine lv_icmp_gt (tgt := 129) hx hb dX0_delay_87 (by decide) (fun c5008 => ?_) (fun c5008 => ?_)
          · have c5008 := i_lt (a := (-20)) (b := z5000.toInt) c5008 (by decide) rfl
            refine lv_iload hx hb dX0_delay_129 (lv_at hl 0 rfl) ?_
            refine lv_bipush (v := (-3)) hx hb dX0_delay_131 (by decide) ?_
            refine lv_icmp_ne (tgt := 170) hx hb dX0_delay_133 (by decide) (fun c5009 => ?_) (fun c5009 => ?_)
            · have c5009 := i_ne (a := z5000.toInt) (b := (-3)) c5009 rfl (by decide)
              refine lv_iload hx hb dX0_delay_170 (lv_at hl 2 rfl) ?_
              refine lv_iconst (v := 1) hx hb dX0_delay_172 (by decide) ?_
              refine lv_icmp_le (tgt := 209) hx hb dX0_delay_173 (by decide) (fun c5010 => ?_) (fun c5010 => ?_)
              · have c5010 := i_le (a := v4986.toInt) (b := 1) c5010 rfl (by decide)
                obtain ⟨z5011, ez5011⟩ : ∃ y : Int32, y = v4987 + 1 := ⟨_, rfl⟩
                have tz5011 := ti_add (a := v4987.toInt) (b := 1) ez5011 rfl (by decide) (by omega) (by omega)
                refine lv_iinc (v := z5011) (lv' := [(8, .int z5011), (9, .int z5000), (7, .int v4986), (0, .ref hf), (1, .int x1), (2, .int x2), (3, .int x3), (4, .int x4), (5, .int x5), (6, .int x6)]) hx hb dX0_delay_209 hl (k := 1) rfl (by rw [ez5011]; rfl) (by decide) rfl (fun ls hl => ?_)
                refine lv_goto (tgt := 60) hx hb dX0_delay_212 (by decide) ?_
                have hl := lv_sub (l' := [(8, .int z5011), (7, .int v4986), (0, .ref hf), (1, .int x1), (2, .int x2), (3, .int x3), (4, .int x4), (5, .int x5), (6, .int x6)]) hl [0, 2, 3, 4, 5, 6, 7, 8, 9] rfl
                apply ih4993 (f4985 := f4985) (v4986 := v4986) (v4987 := z5011) (H := H) (locs := locs) (ls := ls) <;> first | assumption | omega
              · have c5010 := i_nle (a := v4986.toInt) (b := 1) c5010 rfl (by decide)
                obtain ⟨z5012, ez5012⟩ : ∃ y : Int32, y = v4986 + (-1) := ⟨_, rfl⟩
                have tz5012 := ti_add (a := v4986.toInt) (b := (-1)) ez5012 rfl (by decide) (by omega) (by omega)
                refine lv_iinc (v := z5012) (lv' := [(7, .int z5012), (9, .int z5000), (8, .int v4987), (0, .ref hf), (1, .int x1), (2, .int x2), (3, .int x3), (4, .int x4), (5, .int x5), (6, .int x6)]) hx hb dX0_delay_176 hl (k := 2) rfl (by rw [ez5012]; rfl) (by decide) rfl (fun ls hl => ?_)
                refine lv_aload_n hx hb dX0_delay_179 rfl (lv_at hl 3 rfl) ?_
                refine va_get (D := (dC, dI)) (ci := 0) (v := .ref (fd 1)) (C := RX0) (T := TX0) (N := 4) hx hb hts hi0 hown hK hP 0 rfl rfl 1 (by decide) (hts _ (ow_m (k := 2) rfl)) (fun _ h9 => h9) rfl dX0_delay_180 ?_
                refine lv_iload hx hb dX0_delay_183 (lv_at hl 0 rfl) ?_
                refine lv_iconst (v := 1) hx hb dX0_delay_185 (by decide) ?_
                refine lv_isub hx hb dX0_delay_186 ?_
                refine lv_topi (fun z5013 ez5013 => ?_)
                have tz5013 := ti_sub (a := z5012.toInt) (b := 1) ez5013 rfl (by decide) (by omega) (by omega)
                refine lv_iload hx hb dX0_delay_187 (lv_at hl 1 rfl) ?_
                refine lv_aload_n hx hb dX0_delay_189 rfl (lv_at hl 3 rfl) ?_
                refine va_get (D := (dC, dI)) (ci := 0) (v := .ref (fd 1)) (C := RX0) (T := TX0) (N := 4) hx hb hts hi0 hown hK hP 0 rfl rfl 1 (by decide) (hts _ (ow_m (k := 2) rfl)) (fun _ h9 => h9) rfl dX0_delay_190 ?_
                refine lv_iload hx hb dX0_delay_193 (lv_at hl 0 rfl) ?_
                refine lv_iconst (v := 1) hx hb dX0_delay_195 (by decide) ?_
                refine lv_isub hx hb dX0_delay_196 ?_
                refine lv_topi (fun z5014 ez5014 => ?_)
                have tz5014 := ti_sub (a := z5012.toInt) (b := 1) ez5014 rfl (by decide) (by omega) (by omega)
                refine va_iald hx hb hK hP 2 1 rfl rfl (vp_i rfl (by omega) (by omega)) dX0_delay_197 ?_
                refine lv_topi (fun z5015 ez5015 => ?_)
                refine lv_aload_n hx hb dX0_delay_198 rfl (lv_at hl 3 rfl) ?_
                refine va_get (D := (dC, dI)) (ci := 0) (v := .ref (fd 1)) (C := RX0) (T := TX0) (N := 4) hx hb hts hi0 hown hK hP 0 rfl rfl 1 (by decide) (hts _ (ow_m (k := 2) rfl)) (fun _ h9 => h9) rfl dX0_delay_199 ?_
                refine lv_iload hx hb dX0_delay_202 (lv_at hl 0 rfl) ?_
                refine va_iald hx hb hK hP 2 1 rfl rfl (vp_i rfl (by omega) (by omega)) dX0_delay_204 ?_
                refine lv_topi (fun z5016 ez5016 => ?_)
                refine gf_i (wr := [(hf, .inr (0, [.ref (fd 0), .ref (fd 1), .ref (fd 2), .int f_length])), (fd 0, .inl (cyI, 270, .inl f_steps)), (fd 1, .inl (cyI, 31, .inl f4985)), (fd 2, .inl (cyI, 6, .inl f4984))]) (va_runS (As := [.int z5000, .int z5015, .int z5016]) (rest := [.int z5013, .ref (fd 1)]) hfix (k_Fo_joined l dC dI cyB cyI cyJ cyZ cyO z5000 z5015 z5016 _) (va_cwS 3 hts (gi_S (ow_m (k := 11) rfl) (ow_m (k := 12) rfl) (ow_m (k := 13) rfl) (sb_c sb_l) gd_k_Fo_joined) rfl rfl rfl (by decide +kernel) ⟨Nat.le_of_ble_eq_true rfl, Nat.le_of_ble_eq_true rfl⟩) (g_preS hKN hP hD [] rfl (by decide)) rfl rfl hl.1 rfl (lv_room (Nat.le_of_ble_eq_true rfl)) dX0_delay_205 ⟨Nat.le_of_ble_eq_true rfl, Nat.le_of_ble_eq_true rfl⟩) hP hD hS hA [] [0, 1, 2, 3] rfl rfl (by decide) (by decide) (fun r5017 u5018 H locs qu5018 hP hD hS => ?_)
                have hP : va_P (dC, dI) vwCl [(hf, .inr (0, [.ref (fd 0), .ref (fd 1), .ref (fd 2), .int f_length])), (fd 0, .inl (cyI, 270, .inl f_steps)), (fd 1, .inl (cyI, 31, .inl f4985)), (fd 2, .inl (cyI, 6, .inl f4984))] H := hP
                have hD : va_D A [(hf, .inr (0, [.ref (fd 0), .ref (fd 1), .ref (fd 2), .int f_length])), (fd 0, .inl (cyI, 270, .inl f_steps)), (fd 1, .inl (cyI, 31, .inl f4985)), (fd 2, .inl (cyI, 6, .inl f4984))] := hD
                refine va_iast hx hb hK hP hD hS 2 1 rfl rfl (vp_i rfl (by omega) (by omega)) dX0_delay_208 (fun H locs hP hD hS => ?_)
                have hP : va_P (dC, dI) vwCl [(hf, .inr (0, [.ref (fd 0), .ref (fd 1), .ref (fd 2), .int f_length])), (fd 0, .inl (cyI, 270, .inl f_steps)), (fd 1, .inl (cyI, 31, .inl (upd f4985 z5013.toNatClampNeg r5017))), (fd 2, .inl (cyI, 6, .inl f4984))] H := hP
                have hD : va_D A [(hf, .inr (0, [.ref (fd 0), .ref (fd 1), .ref (fd 2), .int f_length])), (fd 0, .inl (cyI, 270, .inl f_steps)), (fd 1, .inl (cyI, 31, .inl (upd f4985 z5013.toNatClampNeg r5017))), (fd 2, .inl (cyI, 6, .inl f4984))] := hD
                generalize ef5019 : upd f4985 z5013.toNatClampNeg r5017 = f5019 at hP hD
                obtain ⟨z5020, ez5020⟩ : ∃ y : Int32, y = v4987 + 1 := ⟨_, rfl⟩
                have tz5020 := ti_add (a := v4987.toInt) (b := 1) ez5020 rfl (by decide) (by omega) (by omega)
                refine lv_iinc (v := z5020) (lv' := [(8, .int z5020), (7, .int z5012), (9, .int z5000), (0, .ref hf), (1, .int x1), (2, .int x2), (3, .int x3), (4, .int x4), (5, .int x5), (6, .int x6)]) hx hb dX0_delay_209 hl (k := 2) rfl (by rw [ez5020]; rfl) (by decide) rfl (fun ls hl => ?_)
                refine lv_goto (tgt := 60) hx hb dX0_delay_212 (by decide) ?_
                have hl := lv_sub (l' := [(8, .int z5020), (7, .int z5012), (0, .ref hf), (1, .int x1), (2, .int x2), (3, .int x3), (4, .int x4), (5, .int x5), (6, .int x6)]) hl [0, 1, 3, 4, 5, 6, 7, 8, 9] rfl
                apply ih4993 (f4985 := f5019) (v4986 := z5012) (v4987 := z5020) (H := H) (locs := locs) (ls := ls) <;> first | assumption | omega
            · have c5009 := i_eq (a := z5000.toInt) (b := (-3)) c5009 rfl (by decide)
              refine lv_iload hx hb dX0_delay_136 (lv_at hl 2 rfl) ?_
              refine lv_if_le (tgt := 209) hx hb dX0_delay_138 (by decide) (fun c5021 => ?_) (fun c5021 => ?_)
              · have c5021 := i_le (a := v4986.toInt) (b := 0) c5021 rfl (by decide)
                obtain ⟨z5022, ez5022⟩ : ∃ y : Int32, y = v4987 + 1 := ⟨_, rfl⟩
                have tz5022 := ti_add (a := v4987.toInt) (b := 1) ez5022 rfl (by decide) (by omega) (by omega)
                refine lv_iinc (v := z5022) (lv' := [(8, .int z5022), (9, .int z5000), (7, .int v4986), (0, .ref hf), (1, .int x1), (2, .int x2), (3, .int x3), (4, .int x4), (5, .int x5), (6, .int x6)]) hx hb dX0_delay_209 hl (k := 1) rfl (by rw [ez5022]; rfl) (by decide) rfl (fun ls hl => ?_)
                refine lv_goto (tgt := 60) hx hb dX0_delay_212 (by decide) ?_
                have hl := lv_sub (l' := [(8, .int z5022), (7, .int v4986), (0, .ref hf), (1, .int x1), (2, .int x2), (3, .int x3), (4, .int x4), (5, .int x5), (6, .int x6)]) hl [0, 2, 3, 4, 5, 6, 7, 8, 9] rfl
                apply ih4993 (f4985 := f4985) (v4986 := v4986) (v4987 := z5022) (H := H) (locs := locs) (ls := ls) <;> first | assumption | omega
              · have c5021 := i_nle (a := v4986.toInt) (b := 0) c5021 rfl (by decide)
                refine lv_aload_n hx hb dX0_delay_141 rfl (lv_at hl 3 rfl) ?_
                refine va_get (D := (dC, dI)) (ci := 0) (v := .ref (fd 1)) (C := RX0) (T := TX0) (N := 4) hx hb hts hi0 hown hK hP 0 rfl rfl 1 (by decide) (hts _ (ow_m (k := 2) rfl)) (fun _ h9 => h9) rfl dX0_delay_142 ?_
                refine lv_iload hx hb dX0_delay_145 (lv_at hl 2 rfl) ?_
                refine lv_iconst (v := 1) hx hb dX0_delay_147 (by decide) ?_
                refine lv_isub hx hb dX0_delay_148 ?_
                refine lv_topi (fun z5023 ez5023 => ?_)
                have tz5023 := ti_sub (a := v4986.toInt) (b := 1) ez5023 rfl (by decide) (by omega) (by omega)
                refine lv_aload_n hx hb dX0_delay_149 rfl (lv_at hl 3 rfl) ?_
                refine va_get (D := (dC, dI)) (ci := 0) (v := .ref (fd 1)) (C := RX0) (T := TX0) (N := 4) hx hb hts hi0 hown hK hP 0 rfl rfl 1 (by decide) (hts _ (ow_m (k := 2) rfl)) (fun _ h9 => h9) rfl dX0_delay_150 ?_
                refine lv_iload hx hb dX0_delay_153 (lv_at hl 2 rfl) ?_
                refine lv_iconst (v := 1) hx hb dX0_delay_155 (by decide) ?_
                refine lv_isub hx hb dX0_delay_156 ?_
                refine lv_topi (fun z5024 ez5024 => ?_)
                have tz5024 := ti_sub (a := v4986.toInt) (b := 1) ez5024 rfl (by decide) (by omega) (by omega)
                refine va_iald hx hb hK hP 2 1 rfl rfl (vp_i rfl (by omega) (by omega)) dX0_delay_157 ?_
                refine lv_topi (fun z5025 ez5025 => ?_)
                refine lv_if_ne (tgt := 165) hx hb dX0_delay_158 (by decide) (fun c5026 => ?_) (fun c5026 => ?_)
                · have c5026 := i_ne (a := z5025.toInt) (b := 0) c5026 rfl (by decide)
                  refine lv_iconst (v := 0) hx hb dX0_delay_165 (by decide) ?_
                  refine va_iast hx hb hK hP hD hS 2 1 rfl rfl (vp_i rfl (by omega) (by omega)) dX0_delay_166 (fun H locs hP hD hS => ?_)
                  have hP : va_P (dC, dI) vwCl [(hf, .inr (0, [.ref (fd 0), .ref (fd 1), .ref (fd 2), .int f_length])), (fd 0, .inl (cyI, 270, .inl f_steps)), (fd 1, .inl (cyI, 31, .inl (upd f4985 z5023.toNatClampNeg 0))), (fd 2, .inl (cyI, 6, .inl f4984))] H := hP
                  have hD : va_D A [(hf, .inr (0, [.ref (fd 0), .ref (fd 1), .ref (fd 2), .int f_length])), (fd 0, .inl (cyI, 270, .inl f_steps)), (fd 1, .inl (cyI, 31, .inl (upd f4985 z5023.toNatClampNeg 0))), (fd 2, .inl (cyI, 6, .inl f4984))] := hD
                  generalize ef5027 : upd f4985 z5023.toNatClampNeg 0 = f5027 at hP hD
                  refine lv_goto (tgt := 209) hx hb dX0_delay_167 (by decide) ?_
                  obtain ⟨z5028, ez5028⟩ : ∃ y : Int32, y = v4987 + 1 := ⟨_, rfl⟩
                  have tz5028 := ti_add (a := v4987.toInt) (b := 1) ez5028 rfl (by decide) (by omega) (by omega)
                  refine lv_iinc (v := z5028) (lv' := [(8, .int z5028), (9, .int z5000), (7, .int v4986), (0, .ref hf), (1, .int x1), (2, .int x2), (3, .int x3), (4, .int x4), (5, .int x5), (6, .int x6)]) hx hb dX0_delay_209 hl (k := 1) rfl (by rw [ez5028]; rfl) (by decide) rfl (fun ls hl => ?_)
                  refine lv_goto (tgt := 60) hx hb dX0_delay_212 (by decide) ?_
                  have hl := lv_sub (l' := [(8, .int z5028), (7, .int v4986), (0, .ref hf), (1, .int x1), (2, .int x2), (3, .int x3), (4, .int x4), (5, .int x5), (6, .int x6)]) hl [0, 2, 3, 4, 5, 6, 7, 8, 9] rfl
                  apply ih4993 (f4985 := f5027) (v4986 := v4986) (v4987 := z5028) (H := H) (locs := locs) (ls := ls) <;> first | assumption | omega
                · have c5026 := i_eq (a := z5025.toInt) (b := 0) c5026 rfl (by decide)
                  refine lv_iconst (v := 1) hx hb dX0_delay_161 (by decide) ?_
                  refine lv_goto (tgt := 166) hx hb dX0_delay_162 (by decide) ?_
                  refine va_iast hx hb hK hP hD hS 2 1 rfl rfl (vp_i rfl (by omega) (by omega)) dX0_delay_166 (fun H locs hP hD hS => ?_)
                  have hP : va_P (dC, dI) vwCl [(hf, .inr (0, [.ref (fd 0), .ref (fd 1), .ref (fd 2), .int f_length])), (fd 0, .inl (cyI, 270, .inl f_steps)), (fd 1, .inl (cyI, 31, .inl (upd f4985 z5023.toNatClampNeg 1))), (fd 2, .inl (cyI, 6, .inl f4984))] H := hP
                  have hD : va_D A [(hf, .inr (0, [.ref (fd 0), .ref (fd 1), .ref (fd 2), .int f_length])), (fd 0, .inl (cyI, 270, .inl f_steps)), (fd 1, .inl (cyI, 31, .inl (upd f4985 z5023.toNatClampNeg 1))), (fd 2, .inl (cyI, 6, .inl f4984))] := hD
                  generalize ef5029 : upd f4985 z5023.toNatClampNeg 1 = f5029 at hP hD
                  refine lv_goto (tgt := 209) hx hb dX0_delay_167 (by decide) ?_
                  obtain ⟨z5030, ez5030⟩ : ∃ y : Int32, y = v4987 + 1 := ⟨_, rfl⟩
                  have tz5030 := ti_add (a := v4987.toInt) (b := 1) ez5030 rfl (by decide) (by omega) (by omega)
                  refine lv_iinc (v := z5030) (lv' := [(8, .int z5030), (9, .int z5000), (7, .int v4986), (0, .ref hf), (1, .int x1), (2, .int x2), (3, .int x3), (4, .int x4), (5, .int x5), (6, .int x6)]) hx hb dX0_delay_209 hl (k := 1) rfl (by rw [ez5030]; rfl) (by decide) rfl (fun ls hl => ?_)
                  refine lv_goto (tgt := 60) hx hb dX0_delay_212 (by decide) ?_
                  have hl := lv_sub (l' := [(8, .int z5030), (7, .int v4986), (0, .ref hf), (1, .int x1), (2, .int x2), (3, .int x3), (4, .int x4), (5, .int x5), (6, .int x6)]) hl [0, 2, 3, 4, 5, 6, 7, 8, 9] rfl
                  apply ih4993 (f4985 := f5029) (v4986 := v4986) (v4987 := z5030) (H := H) (locs := locs) (ls := ls) <;> first | assumption | omega
          · have c5008 := i_nlt (a := (-20)) (b := z5000.toInt) c5008 (by decide) rfl
            refine lv_iload hx hb dX0_delay_90 (lv_at hl 2 rfl) ?_
            refine lv_aload_n hx hb dX0_delay_92 rfl (lv_at hl 3 rfl) ?_
            refine va_get (D := (dC, dI)) (ci := 0) (v := .ref (fd 1)) (C := RX0) (T := TX0) (N := 4) hx hb hts hi0 hown hK hP 0 rfl rfl 1 (by decide) (hts _ (ow_m (k := 2) rfl)) (fun _ h9 => h9) rfl dX0_delay_93 ?_
            refine va_alen (v := 31) hx hb hK hP 2 1 rfl rfl rfl dX0_delay_96 ?_
            refine lv_icmp_ge (tgt := 209) hx hb dX0_delay_97 (by decide) (fun c5031 => ?_) (fun c5031 => ?_)
            · have c5031 := i_le (a := 31) (b := v4986.toInt) c5031 (by decide) rfl
              obtain ⟨z5032, ez5032⟩ : ∃ y : Int32, y = v4987 + 1 := ⟨_, rfl⟩
              have tz5032 := ti_add (a := v4987.toInt) (b := 1) ez5032 rfl (by decide) (by omega) (by omega)
              refine lv_iinc (v := z5032) (lv' := [(8, .int z5032), (9, .int z5000), (7, .int v4986), (0, .ref hf), (1, .int x1), (2, .int x2), (3, .int x3), (4, .int x4), (5, .int x5), (6, .int x6)]) hx hb dX0_delay_209 hl (k := 1) rfl (by rw [ez5032]; rfl) (by decide) rfl (fun ls hl => ?_)
              refine lv_goto (tgt := 60) hx hb dX0_delay_212 (by decide) ?_
              have hl := lv_sub (l' := [(8, .int z5032), (7, .int v4986), (0, .ref hf), (1, .int x1), (2, .int x2), (3, .int x3), (4, .int x4), (5, .int x5), (6, .int x6)]) hl [0, 2, 3, 4, 5, 6, 7, 8, 9] rfl
              apply ih4993 (f4985 := f4985) (v4986 := v4986) (v4987 := z5032) (H := H) (locs := locs) (ls := ls) <;> first | assumption | omega
            · have c5031 := i_nle (a := 31) (b := v4986.toInt) c5031 (by decide) rfl
              refine lv_aload_n hx hb dX0_delay_100 rfl (lv_at hl 3 rfl) ?_
              refine va_get (D := (dC, dI)) (ci := 0) (v := .ref (fd 1)) (C := RX0) (T := TX0) (N := 4) hx hb hts hi0 hown hK hP 0 rfl rfl 1 (by decide) (hts _ (ow_m (k := 2) rfl)) (fun _ h9 => h9) rfl dX0_delay_101 ?_
              refine lv_iload hx hb dX0_delay_104 (lv_at hl 2 rfl) ?_
              refine lv_iload hx hb dX0_delay_106 (lv_at hl 0 rfl) ?_
              refine lv_if_lt (tgt := 116) hx hb dX0_delay_108 (by decide) (fun c5033 => ?_) (fun c5033 => ?_)
              · have c5033 := i_lt (a := z5000.toInt) (b := 0) c5033 rfl (by decide)
                refine lv_aload_n hx hb dX0_delay_116 rfl (lv_at hl 3 rfl) ?_
                refine lv_iload hx hb dX0_delay_117 (lv_at hl 0 rfl) ?_
                refine gf_i (wr := [(fd 0, .inl (cyI, 270, .inl f_steps)), (fd 1, .inl (cyI, 31, .inl f4985))]) (va_runV (As := [.int z5000]) (rest := [.int v4986, .ref (fd 1)]) hfix (k_Fo_factOf l dC dI cyB cyI cyJ cyZ cyO hf fd f4984 f_length z5000 _ (by first | omega | assumption) (by first | omega | assumption)) (cwV 1 hts (gi_V (ow_m (k := 14) rfl) (ow_m (k := 15) rfl) (ow_m (k := 16) rfl) (ow_m (k := 13) rfl) (sb_c (sb_r sb_l)) gd_k_Fo_factOf) rfl rfl rfl (by decide +kernel) ⟨Nat.le_of_ble_eq_true rfl, Nat.le_of_ble_eq_true rfl⟩) (g_preV hKN hP hD [0, 3] rfl (by decide) 0 0 rfl rfl) rfl rfl hl.1 rfl (lv_room (Nat.le_of_ble_eq_true rfl)) dX0_delay_119 ⟨Nat.le_of_ble_eq_true rfl, Nat.le_of_ble_eq_true rfl⟩) hP hD hS hA [0, 3] [1, 2] rfl rfl (by decide) (by decide) (fun r5034 u5035 H locs qu5035 hP hD hS => ?_)
                have hP : va_P (dC, dI) vwCl [(fd 0, .inl (cyI, 270, .inl f_steps)), (fd 1, .inl (cyI, 31, .inl f4985)), (hf, .inr (0, [.ref (fd 0), .ref (fd 1), .ref (fd 2), .int f_length])), (fd 2, .inl (cyI, 6, .inl f4984))] H := hP
                have hD : va_D A [(fd 0, .inl (cyI, 270, .inl f_steps)), (fd 1, .inl (cyI, 31, .inl f4985)), (hf, .inr (0, [.ref (fd 0), .ref (fd 1), .ref (fd 2), .int f_length])), (fd 2, .inl (cyI, 6, .inl f4984))] := hD
                refine va_iast hx hb hK hP hD hS 1 1 rfl rfl (vp_i rfl (by omega) (by omega)) dX0_delay_122 (fun H locs hP hD hS => ?_)
                have hP : va_P (dC, dI) vwCl [(fd 0, .inl (cyI, 270, .inl f_steps)), (fd 1, .inl (cyI, 31, .inl (upd f4985 v4986.toNatClampNeg r5034))), (hf, .inr (0, [.ref (fd 0), .ref (fd 1), .ref (fd 2), .int f_length])), (fd 2, .inl (cyI, 6, .inl f4984))] H := hP
                have hD : va_D A [(fd 0, .inl (cyI, 270, .inl f_steps)), (fd 1, .inl (cyI, 31, .inl (upd f4985 v4986.toNatClampNeg r5034))), (hf, .inr (0, [.ref (fd 0), .ref (fd 1), .ref (fd 2), .int f_length])), (fd 2, .inl (cyI, 6, .inl f4984))] := hD
                generalize ef5036 : upd f4985 v4986.toNatClampNeg r5034 = f5036 at hP hD
                obtain ⟨z5037, ez5037⟩ : ∃ y : Int32, y = v4986 + 1 := ⟨_, rfl⟩
                have tz5037 := ti_add (a := v4986.toInt) (b := 1) ez5037 rfl (by decide) (by omega) (by omega)
                refine lv_iinc (v := z5037) (lv' := [(7, .int z5037), (9, .int z5000), (8, .int v4987), (0, .ref hf), (1, .int x1), (2, .int x2), (3, .int x3), (4, .int x4), (5, .int x5), (6, .int x6)]) hx hb dX0_delay_123 hl (k := 2) rfl (by rw [ez5037]; rfl) (by decide) rfl (fun ls hl => ?_)
                refine lv_goto (tgt := 209) hx hb dX0_delay_126 (by decide) ?_
                obtain ⟨z5038, ez5038⟩ : ∃ y : Int32, y = v4987 + 1 := ⟨_, rfl⟩
                have tz5038 := ti_add (a := v4987.toInt) (b := 1) ez5038 rfl (by decide) (by omega) (by omega)
                refine lv_iinc (v := z5038) (lv' := [(8, .int z5038), (7, .int z5037), (9, .int z5000), (0, .ref hf), (1, .int x1), (2, .int x2), (3, .int x3), (4, .int x4), (5, .int x5), (6, .int x6)]) hx hb dX0_delay_209 hl (k := 2) rfl (by rw [ez5038]; rfl) (by decide) rfl (fun ls hl => ?_)
                refine lv_goto (tgt := 60) hx hb dX0_delay_212 (by decide) ?_
                have hl := lv_sub (l' := [(8, .int z5038), (7, .int z5037), (0, .ref hf), (1, .int x1), (2, .int x2), (3, .int x3), (4, .int x4), (5, .int x5), (6, .int x6)]) hl [0, 1, 3, 4, 5, 6, 7, 8, 9] rfl
                have hP : va_P (dC, dI) vwCl [(hf, .inr (0, [.ref (fd 0), .ref (fd 1), .ref (fd 2), .int f_length])), (fd 0, .inl (cyI, 270, .inl f_steps)), (fd 1, .inl (cyI, 31, .inl f5036)), (fd 2, .inl (cyI, 6, .inl f4984))] H := g_sub (isC := [2, 0, 1, 3]) hP rfl
                have hD : va_D A [(hf, .inr (0, [.ref (fd 0), .ref (fd 1), .ref (fd 2), .int f_length])), (fd 0, .inl (cyI, 270, .inl f_steps)), (fd 1, .inl (cyI, 31, .inl f5036)), (fd 2, .inl (cyI, 6, .inl f4984))] := hD.sub [2, 0, 1, 3] (by decide) rfl
                apply ih4993 (f4985 := f5036) (v4986 := z5037) (v4987 := z5038) (H := H) (locs := locs) (ls := ls) <;> first | assumption | omega
              · have c5033 := i_nlt (a := z5000.toInt) (b := 0) c5033 rfl (by decide)
                exfalso; omega
  · have c4978 := i_eq (a := f_length.toInt) (b := 0) c4978 rfl (by decide)
    refine lv_iconst (v := 1) hx hb dX0_delay_7 (by decide) ?_
    have w5039 : 1 ≤ (1 : Int32).toInt := by first | omega | assumption
    have w5040 : (1 : Int32).toInt ≤ 9 := by first | omega | assumption
    exact W.iret (v := 1) hx hb hr (fun t ht hW => ⟨⟨1, ((fun k => match k with | 0 => f_stack | _ => f_facts), (fun _ => 0), (fun _ => 0), (fun _ => fun _ => 0)), rfl, ⟨w5039, w5040⟩, cE.of ht hP hD [0, 1, 2, 3] (by decide) rfl⟩, hS.F ht⟩) hS.2.2 dX0_delay_8
def wo_k_St_dueAt : List Cond := []
def wq_k_St_dueAt : List Cond := .code yX5_dueAt cX5_dueAt 2 (some .int) :: (wo_k_St_dueAt ++ [])
theorem gd_k_St_dueAt : Gd wq_k_St_dueAt := gd_c (gd_a (gd_o (by decide +kernel)) gd_0)
abbrev wc_k_St_dueAt (cyB cyI cyJ cyZ cyO : ClassId) (x0 : Int32) (x1 : Int32) : va_W := []
set_option maxHeartbeats 4000000 in
set_option maxRecDepth 100000 in
theorem k_St_dueAt (l : Launch) (dC : Nat → ClassId) (dI : Nat → Nat → Nat) (cyB cyI cyJ cyZ cyO : ClassId) (x0 : Int32) (x1 : Int32) (sz : Nat) (l_x0 : 0 ≤ x0.toInt) (u_x0 : x0.toInt ≤ 7) (l_x1 : 0 ≤ x1.toInt) (u_x1 : x1.toInt ≤ 40) : Met l yX5_dueAt wq_k_St_dueAt ({ frames := 0, cells := 0, slots := 0, locals := 0 }) (va_Pc [.int x0, .int x1] (cB (dC, dI) (kT cyB cyI cyJ cyZ cyO) (wc_k_St_dueAt cyB cyI cyJ cyZ cyO x0 x1) sz)) (va_Qi (fun (r : Int32) (u : Unit) => (0 ≤ r.toInt) ∧ (r.toInt ≤ 327)) (fun (u : Unit) t => cE (dC, dI) (va_A (wc_k_St_dueAt cyB cyI cyJ cyZ cyO x0 x1) sz) ([]) t.heap) (va_A (wc_k_St_dueAt cyB cyI cyJ cyZ cyO x0 x1) sz)) 0 0 (va_A (wc_k_St_dueAt cyB cyI cyJ cyZ cyO x0 x1) sz) := by
  refine Met.ofW (cc := cX5_dueAt) (maxL := 2) (ret := (some .int)) (by decide) rfl ?_
  intro p e s m args below meth c s₁ B hml hv
  obtain ⟨rfl, hsz, hP, hKN, hD0⟩ := hv
  have hx := B.exec
  have hb := B.bytes
  have hr := B.returns
  have hts := atoms_spec (ws := wq_k_St_dueAt) B.pre
  have hown : s.vm.findClass RX5 = some m.cls := findClass_of_methodNamed B.named
  have hlocks := B.notSynchronized
  have hK := hKN.1
  have hfix : CallFix p m c cX5_dueAt 2 s [.int x0, .int x1].toArray wq_k_St_dueAt RX5 := ⟨hx, hb, hml, hown, hts⟩
  subst hsz
  have hD := hD0.self (sz := s.heap.size)
  generalize hAe : va_A (wc_k_St_dueAt cyB cyI cyJ cyZ cyO x0 x1) s.heap.size = A at hD ⊢
  have hA : ∀ q : Nat, s.heap.size ≤ q → A q := fun q h => by rw [← hAe]; exact Or.inr h
  have hS : va_S A s.heap s.heap [] := va_S.rf
  have hl := lv_entry ([.int x0, .int x1]) (n := 2) (Nat.le_of_ble_eq_true rfl)
  rw [lg_entry_eq]
  generalize (lg_sl ([.int x0, .int x1]) ++ List.replicate (2 - (lg_sl ([.int x0, .int x1])).length) Slot.unset).toArray = ls at hl ⊢
  have hl : lv_has ls 2 [(0, .int x0), (1, .int x1)] := hl
  refine lv_iload_n hx hb dX5_dueAt_0 rfl (lv_at hl 0 rfl) ?_
  refine lv_bipush (v := 41) hx hb dX5_dueAt_1 (by decide) ?_
  refine lv_imul hx hb dX5_dueAt_3 ?_
  refine lv_topi (fun z5043 ez5043 => ?_)
  have tz5043 := ti_mul (a := x0.toInt) (b := 41) ez5043 rfl (by decide) (by omega) (by omega)
  refine lv_iload_n hx hb dX5_dueAt_4 rfl (lv_at hl 1 rfl) ?_
  refine lv_iadd hx hb dX5_dueAt_5 ?_
  refine lv_topi (fun z5044 ez5044 => ?_)
  have tz5044 := ti_add (a := z5043.toInt) (b := x1.toInt) ez5044 rfl rfl (by omega) (by omega)
  have w5045 : 0 ≤ z5044.toInt := by first | omega | assumption
  have w5046 : z5044.toInt ≤ 327 := by first | omega | assumption
  exact W.iret (v := z5044) hx hb hr (fun t ht hW => ⟨⟨z5044, (), rfl, ⟨w5045, w5046⟩, cE.of ht hP hD [] (by decide) rfl⟩, hS.F ht⟩) hS.2.2 dX5_dueAt_6
def wo_k_St_placeOf : List Cond := [.fieldLink RX5 42 "ReplicaChain$State" "size" "I", .fieldLink RX5 9 "ReplicaChain$State" "row" "[I"]
def wq_k_St_placeOf : List Cond := .code yX5_placeOf cX5_placeOf 3 (some .int) :: (wo_k_St_placeOf ++ (wsX50 ++ []))
theorem gd_k_St_placeOf : Gd wq_k_St_placeOf := gd_c (gd_a (gd_o (by decide +kernel)) (gd_a gd_u gd_0))
abbrev wc_k_St_placeOf (cyB cyI cyJ cyZ cyO : ClassId) (hs : Nat) (sd : Nat → Nat) (s_row : Nat → Int32) (s_size : Int32) (s_copier : Int32) (s_copyLeft : Int32) (s_tick : Int32) (s_seed : Int32) (s_dropped : Int32) (x1 : Int32) : va_W := [(hs, .inr (5, [.ref (sd 0), .ref (sd 1), .ref (sd 2), .ref (sd 3), .ref (sd 4), .ref (sd 5), .ref (sd 6), .int s_size, .int s_copier, .int s_copyLeft, .int s_tick, .int s_seed, .int s_dropped])), (sd 0, .inl (cyI, 6, .inl s_row))]
set_option maxHeartbeats 4000000 in
set_option maxRecDepth 100000 in
theorem k_St_placeOf (l : Launch) (dC : Nat → ClassId) (dI : Nat → Nat → Nat) (cyB cyI cyJ cyZ cyO : ClassId) (hs : Nat) (sd : Nat → Nat) (s_row : Nat → Int32) (s_size : Int32) (s_copier : Int32) (s_copyLeft : Int32) (s_tick : Int32) (s_seed : Int32) (s_dropped : Int32) (x1 : Int32) (sz : Nat) (l_s_size : 0 ≤ s_size.toInt) (u_s_size : s_size.toInt ≤ 6) (l_s_copier : -1 ≤ s_copier.toInt) (u_s_copier : s_copier.toInt ≤ 7) (l_s_seed : 0 ≤ s_seed.toInt) (u_s_seed : s_seed.toInt ≤ 999) (i0_s_row : In2 s_row 0 6 (0) (7)) : Met l yX5_placeOf wq_k_St_placeOf ({ frames := 0, cells := 0, slots := 0, locals := 0 }) (va_Pc [.ref hs, .int x1] (cB (dC, dI) (kT cyB cyI cyJ cyZ cyO) (wc_k_St_placeOf cyB cyI cyJ cyZ cyO hs sd s_row s_size s_copier s_copyLeft s_tick s_seed s_dropped x1) sz)) (va_Qi (fun (r : Int32) (u : Unit) => (-1 ≤ r.toInt) ∧ (r.toInt ≤ 5) ∧ (r.toInt < s_size.toInt) ∧ (0 ≤ r.toInt → s_row r.toNatClampNeg = x1)) (fun (u : Unit) t => cE (dC, dI) (va_A (wc_k_St_placeOf cyB cyI cyJ cyZ cyO hs sd s_row s_size s_copier s_copyLeft s_tick s_seed s_dropped x1) sz) ([(hs, .inr (5, [.ref (sd 0), .ref (sd 1), .ref (sd 2), .ref (sd 3), .ref (sd 4), .ref (sd 5), .ref (sd 6), .int s_size, .int s_copier, .int s_copyLeft, .int s_tick, .int s_seed, .int s_dropped])), (sd 0, .inl (cyI, 6, .inl s_row))]) t.heap) (va_A (wc_k_St_placeOf cyB cyI cyJ cyZ cyO hs sd s_row s_size s_copier s_copyLeft s_tick s_seed s_dropped x1) sz)) 0 0 (va_A (wc_k_St_placeOf cyB cyI cyJ cyZ cyO hs sd s_row s_size s_copier s_copyLeft s_tick s_seed s_dropped x1) sz) := by
  refine Met.ofW (cc := cX5_placeOf) (maxL := 3) (ret := (some .int)) (by decide) rfl ?_
  intro p e s m args below meth c s₁ B hml hv
  obtain ⟨rfl, hsz, hP, hKN, hD0⟩ := hv
  have hx := B.exec
  have hb := B.bytes
  have hr := B.returns
  have hts := atoms_spec (ws := wq_k_St_placeOf) B.pre
  have hown : s.vm.findClass RX5 = some m.cls := findClass_of_methodNamed B.named
  have hlocks := B.notSynchronized
  have hK := hKN.1
  have hfix : CallFix p m c cX5_placeOf 3 s [.ref hs, .int x1].toArray wq_k_St_placeOf RX5 := ⟨hx, hb, hml, hown, hts⟩
  have hi5 : ∀ w ∈ wsX50, w ∈ wq_k_St_placeOf := (sb_c sb_l)
  subst hsz
  have hD := hD0.self (sz := s.heap.size)
  generalize hAe : va_A (wc_k_St_placeOf cyB cyI cyJ cyZ cyO hs sd s_row s_size s_copier s_copyLeft s_tick s_seed s_dropped x1) s.heap.size = A at hD ⊢
  have hA : ∀ q : Nat, s.heap.size ≤ q → A q := fun q h => by rw [← hAe]; exact Or.inr h
  have hS : va_S A s.heap s.heap [] := va_S.rf
  have hl := lv_entry ([.ref hs, .int x1]) (n := 3) (Nat.le_of_ble_eq_true rfl)
  rw [lg_entry_eq]
  generalize (lg_sl ([.ref hs, .int x1]) ++ List.replicate (3 - (lg_sl ([.ref hs, .int x1])).length) Slot.unset).toArray = ls at hl ⊢
  have hl : lv_has ls 3 [(0, .ref hs), (1, .int x1)] := hl
  have ckm1 : (-1 : Int32).toInt = -1 := by decide
  have ck0 : (0 : Int32).toInt = 0 := by decide
  refine lv_iconst (v := 0) hx hb dX5_placeOf_0 (by decide) ?_
  refine lv_istore_n (lv' := [(2, .int 0), (0, .ref hs), (1, .int x1)]) hx hb dX5_placeOf_1 rfl hl (by decide) rfl (fun ls hl => ?_)
  refine w_gen (fun H locs ls hP hS hl => ?_) hP hS hl
  obtain ⟨v5179, hl2, hP2, hD2, b5180, b5181, b5182⟩ : ∃ (v5179 : Int32), lv_has ls 3 [(2, .int v5179), (0, .ref hs), (1, .int x1)] ∧ va_P (dC, dI) vwCl [(hs, .inr (5, [.ref (sd 0), .ref (sd 1), .ref (sd 2), .ref (sd 3), .ref (sd 4), .ref (sd 5), .ref (sd 6), .int s_size, .int s_copier, .int s_copyLeft, .int s_tick, .int s_seed, .int s_dropped])), (sd 0, .inl (cyI, 6, .inl s_row))] H ∧ va_D A [(hs, .inr (5, [.ref (sd 0), .ref (sd 1), .ref (sd 2), .ref (sd 3), .ref (sd 4), .ref (sd 5), .ref (sd 6), .int s_size, .int s_copier, .int s_copyLeft, .int s_tick, .int s_seed, .int s_dropped])), (sd 0, .inl (cyI, 6, .inl s_row))] ∧ (0 ≤ v5179.toInt) ∧ (v5179.toInt ≤ 6) ∧ (v5179.toInt ≤ s_size.toInt) := ⟨(0 : Int32), hl, hP, hD, by first | assumption | omega, by first | assumption | omega, by first | assumption | omega⟩
  clear hP hl
  have hP := hP2
  have hD := hD2
  have hl := hl2
  clear hP2 hD2 hl2
  obtain ⟨n5183, hn5183⟩ : ∃ n : Nat, 6 - v5179.toInt < (n : Int) := ⟨(6 - v5179.toInt).toNat + 1, by omega⟩
  induction n5183 generalizing v5179 H locs ls with
  | zero => exfalso; omega
  | succ n5183 ih5184 =>
    refine lv_iload_n hx hb dX5_placeOf_2 rfl (lv_at hl 0 rfl) ?_
    refine lv_aload_n hx hb dX5_placeOf_3 rfl (lv_at hl 1 rfl) ?_
    refine va_get (D := (dC, dI)) (ci := 5) (v := .int s_size) (C := RX5) (T := TX5) (N := 13) hx hb hts hi5 hown hK hP 0 rfl rfl 7 (by decide) (hts _ (ow_m (k := 0) rfl)) (fun _ h9 => h9) rfl dX5_placeOf_4 ?_
    refine lv_icmp_ge (tgt := 28) hx hb dX5_placeOf_7 (by decide) (fun c5185 => ?_) (fun c5185 => ?_)
    · have c5185 := i_le (a := s_size.toInt) (b := v5179.toInt) c5185 rfl rfl
      refine lv_iconst (v := (-1)) hx hb dX5_placeOf_28 (by decide) ?_
      have hpo : 0 ≤ (-1 : Int32).toInt → s_row (-1 : Int32).toNatClampNeg = x1 := by intro; omega
      have w5186 : -1 ≤ (-1 : Int32).toInt := by first | omega | assumption
      have w5187 : (-1 : Int32).toInt ≤ 5 := by first | omega | assumption
      have w5188 : (-1 : Int32).toInt < s_size.toInt := by first | omega | assumption
      have w5189 : 0 ≤ (-1 : Int32).toInt → s_row (-1 : Int32).toNatClampNeg = x1 := by first | omega | assumption
      exact W.iret (v := (-1)) hx hb hr (fun t ht hW => ⟨⟨(-1), (), rfl, ⟨w5186, w5187, w5188, w5189⟩, cE.of ht hP hD [0, 1] (by decide) rfl⟩, hS.F ht⟩) hS.2.2 dX5_placeOf_29
    · have c5185 := i_nle (a := s_size.toInt) (b := v5179.toInt) c5185 rfl rfl
      refine lv_aload_n hx hb dX5_placeOf_10 rfl (lv_at hl 1 rfl) ?_
      refine va_get (D := (dC, dI)) (ci := 5) (v := .ref (sd 0)) (C := RX5) (T := TX5) (N := 13) hx hb hts hi5 hown hK hP 0 rfl rfl 0 (by decide) (hts _ (ow_m (k := 1) rfl)) (fun _ h9 => h9) rfl dX5_placeOf_11 ?_
      refine lv_iload_n hx hb dX5_placeOf_14 rfl (lv_at hl 0 rfl) ?_
      refine va_iald hx hb hK hP 1 1 rfl rfl (vp_i rfl (by omega) (by omega)) dX5_placeOf_15 ?_
      refine lv_topi (fun z5190 ez5190 => ?_)
      have tz5190 := i0_s_row.at (x := v5179.toInt) ez5190 rfl (by omega) (by omega)
      refine lv_iload_n hx hb dX5_placeOf_16 rfl (lv_at hl 2 rfl) ?_
      refine lv_icmp_ne (tgt := 22) hx hb dX5_placeOf_17 (by decide) (fun c5191 => ?_) (fun c5191 => ?_)
      · have c5191 := i_ne (a := z5190.toInt) (b := x1.toInt) c5191 rfl rfl
        obtain ⟨z5192, ez5192⟩ : ∃ y : Int32, y = v5179 + 1 := ⟨_, rfl⟩
        have tz5192 := ti_add (a := v5179.toInt) (b := 1) ez5192 rfl (by decide) (by omega) (by omega)
        refine lv_iinc (v := z5192) (lv' := [(2, .int z5192), (0, .ref hs), (1, .int x1)]) hx hb dX5_placeOf_22 hl (k := 0) rfl (by rw [ez5192]; rfl) (by decide) rfl (fun ls hl => ?_)
        refine lv_goto (tgt := 2) hx hb dX5_placeOf_25 (by decide) ?_
        have hl := lv_sub (l' := [(2, .int z5192), (0, .ref hs), (1, .int x1)]) hl [0, 1, 2] rfl
        apply ih5184 (v5179 := z5192) (H := H) (locs := locs) (ls := ls) <;> first | assumption | omega
      · have c5191 := i_eq (a := z5190.toInt) (b := x1.toInt) c5191 rfl rfl
        refine lv_iload_n hx hb dX5_placeOf_20 rfl (lv_at hl 0 rfl) ?_
        have hpo : 0 ≤ v5179.toInt → s_row v5179.toNatClampNeg = x1 := fun _ => by rw [← ez5190]; exact Int32.toInt_inj.mp (by omega)
        have w5193 : -1 ≤ v5179.toInt := by first | omega | assumption
        have w5194 : v5179.toInt ≤ 5 := by first | omega | assumption
        have w5195 : v5179.toInt < s_size.toInt := by first | omega | assumption
        have w5196 : 0 ≤ v5179.toInt → s_row v5179.toNatClampNeg = x1 := by first | omega | assumption
        exact W.iret (v := v5179) hx hb hr (fun t ht hW => ⟨⟨v5179, (), rfl, ⟨w5193, w5194, w5195, w5196⟩, cE.of ht hP hD [0, 1] (by decide) rfl⟩, hS.F ht⟩) hS.2.2 dX5_placeOf_21
def wo_k_St_memberBits : List Cond := [.fieldLink RX5 42 "ReplicaChain$State" "size" "I", .fieldLink RX5 9 "ReplicaChain$State" "row" "[I"]
def wq_k_St_memberBits : List Cond := .code yX5_memberBits cX5_memberBits 3 (some .int) :: (wo_k_St_memberBits ++ (wsX50 ++ []))
theorem gd_k_St_memberBits : Gd wq_k_St_memberBits := gd_c (gd_a (gd_o (by decide +kernel)) (gd_a gd_u gd_0))
abbrev wc_k_St_memberBits (cyB cyI cyJ cyZ cyO : ClassId) (hs : Nat) (sd : Nat → Nat) (s_row : Nat → Int32) (s_size : Int32) (s_copier : Int32) (s_copyLeft : Int32) (s_tick : Int32) (s_seed : Int32) (s_dropped : Int32) : va_W := [(hs, .inr (5, [.ref (sd 0), .ref (sd 1), .ref (sd 2), .ref (sd 3), .ref (sd 4), .ref (sd 5), .ref (sd 6), .int s_size, .int s_copier, .int s_copyLeft, .int s_tick, .int s_seed, .int s_dropped])), (sd 0, .inl (cyI, 6, .inl s_row))]
set_option maxHeartbeats 4000000 in
set_option maxRecDepth 100000 in
theorem k_St_memberBits (l : Launch) (dC : Nat → ClassId) (dI : Nat → Nat → Nat) (cyB cyI cyJ cyZ cyO : ClassId) (hs : Nat) (sd : Nat → Nat) (s_row : Nat → Int32) (s_size : Int32) (s_copier : Int32) (s_copyLeft : Int32) (s_tick : Int32) (s_seed : Int32) (s_dropped : Int32) (sz : Nat) (l_s_size : 0 ≤ s_size.toInt) (u_s_size : s_size.toInt ≤ 6) (l_s_copier : -1 ≤ s_copier.toInt) (u_s_copier : s_copier.toInt ≤ 7) (l_s_seed : 0 ≤ s_seed.toInt) (u_s_seed : s_seed.toInt ≤ 999) (i0_s_row : In2 s_row 0 6 (0) (7)) : Met l yX5_memberBits wq_k_St_memberBits ({ frames := 0, cells := 0, slots := 0, locals := 0 }) (va_Pc [.ref hs] (cB (dC, dI) (kT cyB cyI cyJ cyZ cyO) (wc_k_St_memberBits cyB cyI cyJ cyZ cyO hs sd s_row s_size s_copier s_copyLeft s_tick s_seed s_dropped) sz)) (va_Qi (fun (r : Int32) (u : Unit) => True) (fun (u : Unit) t => cE (dC, dI) (va_A (wc_k_St_memberBits cyB cyI cyJ cyZ cyO hs sd s_row s_size s_copier s_copyLeft s_tick s_seed s_dropped) sz) ([(hs, .inr (5, [.ref (sd 0), .ref (sd 1), .ref (sd 2), .ref (sd 3), .ref (sd 4), .ref (sd 5), .ref (sd 6), .int s_size, .int s_copier, .int s_copyLeft, .int s_tick, .int s_seed, .int s_dropped])), (sd 0, .inl (cyI, 6, .inl s_row))]) t.heap) (va_A (wc_k_St_memberBits cyB cyI cyJ cyZ cyO hs sd s_row s_size s_copier s_copyLeft s_tick s_seed s_dropped) sz)) 0 0 (va_A (wc_k_St_memberBits cyB cyI cyJ cyZ cyO hs sd s_row s_size s_copier s_copyLeft s_tick s_seed s_dropped) sz) := by
  refine Met.ofW (cc := cX5_memberBits) (maxL := 3) (ret := (some .int)) (by decide) rfl ?_
  intro p e s m args below meth c s₁ B hml hv
  obtain ⟨rfl, hsz, hP, hKN, hD0⟩ := hv
  have hx := B.exec
  have hb := B.bytes
  have hr := B.returns
  have hts := atoms_spec (ws := wq_k_St_memberBits) B.pre
  have hown : s.vm.findClass RX5 = some m.cls := findClass_of_methodNamed B.named
  have hlocks := B.notSynchronized
  have hK := hKN.1
  have hfix : CallFix p m c cX5_memberBits 3 s [.ref hs].toArray wq_k_St_memberBits RX5 := ⟨hx, hb, hml, hown, hts⟩
  have hi5 : ∀ w ∈ wsX50, w ∈ wq_k_St_memberBits := (sb_c sb_l)
  subst hsz
  have hD := hD0.self (sz := s.heap.size)
  generalize hAe : va_A (wc_k_St_memberBits cyB cyI cyJ cyZ cyO hs sd s_row s_size s_copier s_copyLeft s_tick s_seed s_dropped) s.heap.size = A at hD ⊢
  have hA : ∀ q : Nat, s.heap.size ≤ q → A q := fun q h => by rw [← hAe]; exact Or.inr h
  have hS : va_S A s.heap s.heap [] := va_S.rf
  have hl := lv_entry ([.ref hs]) (n := 3) (Nat.le_of_ble_eq_true rfl)
  rw [lg_entry_eq]
  generalize (lg_sl ([.ref hs]) ++ List.replicate (3 - (lg_sl ([.ref hs])).length) Slot.unset).toArray = ls at hl ⊢
  have hl : lv_has ls 3 [(0, .ref hs)] := hl
  have ck0 : (0 : Int32).toInt = 0 := by decide
  refine lv_iconst (v := 0) hx hb dX5_memberBits_0 (by decide) ?_
  refine lv_istore_n (lv' := [(1, .int 0), (0, .ref hs)]) hx hb dX5_memberBits_1 rfl hl (by decide) rfl (fun ls hl => ?_)
  refine lv_iconst (v := 0) hx hb dX5_memberBits_2 (by decide) ?_
  refine lv_istore_n (lv' := [(2, .int 0), (1, .int 0), (0, .ref hs)]) hx hb dX5_memberBits_3 rfl hl (by decide) rfl (fun ls hl => ?_)
  refine w_gen (fun H locs ls hP hS hl => ?_) hP hS hl
  obtain ⟨v5341, v5342, hl2, hP2, hD2, b5343, b5344⟩ : ∃ (v5341 : Int32) (v5342 : Int32), lv_has ls 3 [(2, .int v5342), (1, .int v5341), (0, .ref hs)] ∧ va_P (dC, dI) vwCl [(hs, .inr (5, [.ref (sd 0), .ref (sd 1), .ref (sd 2), .ref (sd 3), .ref (sd 4), .ref (sd 5), .ref (sd 6), .int s_size, .int s_copier, .int s_copyLeft, .int s_tick, .int s_seed, .int s_dropped])), (sd 0, .inl (cyI, 6, .inl s_row))] H ∧ va_D A [(hs, .inr (5, [.ref (sd 0), .ref (sd 1), .ref (sd 2), .ref (sd 3), .ref (sd 4), .ref (sd 5), .ref (sd 6), .int s_size, .int s_copier, .int s_copyLeft, .int s_tick, .int s_seed, .int s_dropped])), (sd 0, .inl (cyI, 6, .inl s_row))] ∧ (0 ≤ v5342.toInt) ∧ (v5342.toInt ≤ 6) := ⟨(0 : Int32), (0 : Int32), hl, hP, hD, by first | assumption | omega, by first | assumption | omega⟩
  clear hP hl
  have hP := hP2
  have hD := hD2
  have hl := hl2
  clear hP2 hD2 hl2
  obtain ⟨n5345, hn5345⟩ : ∃ n : Nat, 6 - v5342.toInt < (n : Int) := ⟨(6 - v5342.toInt).toNat + 1, by omega⟩
  induction n5345 generalizing v5341 v5342 H locs ls with
  | zero => exfalso; omega
  | succ n5345 ih5346 =>
    refine lv_iload_n hx hb dX5_memberBits_4 rfl (lv_at hl 0 rfl) ?_
    refine lv_aload_n hx hb dX5_memberBits_5 rfl (lv_at hl 2 rfl) ?_
    refine va_get (D := (dC, dI)) (ci := 5) (v := .int s_size) (C := RX5) (T := TX5) (N := 13) hx hb hts hi5 hown hK hP 0 rfl rfl 7 (by decide) (hts _ (ow_m (k := 0) rfl)) (fun _ h9 => h9) rfl dX5_memberBits_6 ?_
    refine lv_icmp_ge (tgt := 29) hx hb dX5_memberBits_9 (by decide) (fun c5347 => ?_) (fun c5347 => ?_)
    · have c5347 := i_le (a := s_size.toInt) (b := v5342.toInt) c5347 rfl rfl
      refine lv_iload_n hx hb dX5_memberBits_29 rfl (lv_at hl 1 rfl) ?_
      exact W.iret (v := v5341) hx hb hr (fun t ht hW => ⟨⟨v5341, (), rfl, trivial, cE.of ht hP hD [0, 1] (by decide) rfl⟩, hS.F ht⟩) hS.2.2 dX5_memberBits_30
    · have c5347 := i_nle (a := s_size.toInt) (b := v5342.toInt) c5347 rfl rfl
      refine lv_iload_n hx hb dX5_memberBits_12 rfl (lv_at hl 1 rfl) ?_
      refine lv_iconst (v := 1) hx hb dX5_memberBits_13 (by decide) ?_
      refine lv_aload_n hx hb dX5_memberBits_14 rfl (lv_at hl 2 rfl) ?_
      refine va_get (D := (dC, dI)) (ci := 5) (v := .ref (sd 0)) (C := RX5) (T := TX5) (N := 13) hx hb hts hi5 hown hK hP 0 rfl rfl 0 (by decide) (hts _ (ow_m (k := 1) rfl)) (fun _ h9 => h9) rfl dX5_memberBits_15 ?_
      refine lv_iload_n hx hb dX5_memberBits_18 rfl (lv_at hl 0 rfl) ?_
      refine va_iald hx hb hK hP 1 1 rfl rfl (vp_i rfl (by omega) (by omega)) dX5_memberBits_19 ?_
      refine lv_topi (fun z5348 ez5348 => ?_)
      have tz5348 := i0_s_row.at (x := v5342.toInt) ez5348 rfl (by omega) (by omega)
      refine lv_ishl hx hb dX5_memberBits_20 ?_
      refine lv_topi (fun z5349 ez5349 => ?_)
      refine lv_ior hx hb dX5_memberBits_21 ?_
      refine lv_topi (fun z5350 ez5350 => ?_)
      refine lv_istore_n (lv' := [(1, .int z5350), (2, .int v5342), (0, .ref hs)]) hx hb dX5_memberBits_22 rfl hl (by decide) rfl (fun ls hl => ?_)
      obtain ⟨z5351, ez5351⟩ : ∃ y : Int32, y = v5342 + 1 := ⟨_, rfl⟩
      have tz5351 := ti_add (a := v5342.toInt) (b := 1) ez5351 rfl (by decide) (by omega) (by omega)
      refine lv_iinc (v := z5351) (lv' := [(2, .int z5351), (1, .int z5350), (0, .ref hs)]) hx hb dX5_memberBits_23 hl (k := 1) rfl (by rw [ez5351]; rfl) (by decide) rfl (fun ls hl => ?_)
      refine lv_goto (tgt := 4) hx hb dX5_memberBits_26 (by decide) ?_
      have hl := lv_sub (l' := [(2, .int z5351), (1, .int z5350), (0, .ref hs)]) hl [0, 1, 2] rfl
      apply ih5346 (v5341 := z5350) (v5342 := z5351) (H := H) (locs := locs) (ls := ls) <;> first | assumption | omega
def wo_k_St_headHas : List Cond := [.fieldLink RX5 42 "ReplicaChain$State" "size" "I", .fieldLink RX5 15 "ReplicaChain$State" "has" "[I", .fieldLink RX5 9 "ReplicaChain$State" "row" "[I"]
def wq_k_St_headHas : List Cond := .code yX5_headHas cX5_headHas 1 (some .int) :: (wo_k_St_headHas ++ (wsX50 ++ []))
theorem gd_k_St_headHas : Gd wq_k_St_headHas := gd_c (gd_a (gd_o (by decide +kernel)) (gd_a gd_u gd_0))
abbrev wc_k_St_headHas (cyB cyI cyJ cyZ cyO : ClassId) (hs : Nat) (sd : Nat → Nat) (s_row : Nat → Int32) (s_has : Nat → Int32) (s_size : Int32) (s_copier : Int32) (s_copyLeft : Int32) (s_tick : Int32) (s_seed : Int32) (s_dropped : Int32) : va_W := [(hs, .inr (5, [.ref (sd 0), .ref (sd 1), .ref (sd 2), .ref (sd 3), .ref (sd 4), .ref (sd 5), .ref (sd 6), .int s_size, .int s_copier, .int s_copyLeft, .int s_tick, .int s_seed, .int s_dropped])), (sd 0, .inl (cyI, 6, .inl s_row)), (sd 1, .inl (cyI, 8, .inl s_has))]
set_option maxHeartbeats 4000000 in
set_option maxRecDepth 100000 in
theorem k_St_headHas (l : Launch) (dC : Nat → ClassId) (dI : Nat → Nat → Nat) (cyB cyI cyJ cyZ cyO : ClassId) (hs : Nat) (sd : Nat → Nat) (s_row : Nat → Int32) (s_has : Nat → Int32) (s_size : Int32) (s_copier : Int32) (s_copyLeft : Int32) (s_tick : Int32) (s_seed : Int32) (s_dropped : Int32) (sz : Nat) (l_s_size : 0 ≤ s_size.toInt) (u_s_size : s_size.toInt ≤ 6) (l_s_copier : -1 ≤ s_copier.toInt) (u_s_copier : s_copier.toInt ≤ 7) (l_s_seed : 0 ≤ s_seed.toInt) (u_s_seed : s_seed.toInt ≤ 999) (i0_s_row : In2 s_row 0 6 (0) (7)) (i0_s_has : In2 s_has 0 8 (0) (40)) : Met l yX5_headHas wq_k_St_headHas ({ frames := 0, cells := 0, slots := 0, locals := 0 }) (va_Pc [.ref hs] (cB (dC, dI) (kT cyB cyI cyJ cyZ cyO) (wc_k_St_headHas cyB cyI cyJ cyZ cyO hs sd s_row s_has s_size s_copier s_copyLeft s_tick s_seed s_dropped) sz)) (va_Qi (fun (r : Int32) (u : Unit) => (0 ≤ r.toInt) ∧ (r.toInt ≤ 40)) (fun (u : Unit) t => cE (dC, dI) (va_A (wc_k_St_headHas cyB cyI cyJ cyZ cyO hs sd s_row s_has s_size s_copier s_copyLeft s_tick s_seed s_dropped) sz) ([(hs, .inr (5, [.ref (sd 0), .ref (sd 1), .ref (sd 2), .ref (sd 3), .ref (sd 4), .ref (sd 5), .ref (sd 6), .int s_size, .int s_copier, .int s_copyLeft, .int s_tick, .int s_seed, .int s_dropped])), (sd 0, .inl (cyI, 6, .inl s_row)), (sd 1, .inl (cyI, 8, .inl s_has))]) t.heap) (va_A (wc_k_St_headHas cyB cyI cyJ cyZ cyO hs sd s_row s_has s_size s_copier s_copyLeft s_tick s_seed s_dropped) sz)) 0 0 (va_A (wc_k_St_headHas cyB cyI cyJ cyZ cyO hs sd s_row s_has s_size s_copier s_copyLeft s_tick s_seed s_dropped) sz) := by
  refine Met.ofW (cc := cX5_headHas) (maxL := 1) (ret := (some .int)) (by decide) rfl ?_
  intro p e s m args below meth c s₁ B hml hv
  obtain ⟨rfl, hsz, hP, hKN, hD0⟩ := hv
  have hx := B.exec
  have hb := B.bytes
  have hr := B.returns
  have hts := atoms_spec (ws := wq_k_St_headHas) B.pre
  have hown : s.vm.findClass RX5 = some m.cls := findClass_of_methodNamed B.named
  have hlocks := B.notSynchronized
  have hK := hKN.1
  have hfix : CallFix p m c cX5_headHas 1 s [.ref hs].toArray wq_k_St_headHas RX5 := ⟨hx, hb, hml, hown, hts⟩
  have hi5 : ∀ w ∈ wsX50, w ∈ wq_k_St_headHas := (sb_c sb_l)
  subst hsz
  have hD := hD0.self (sz := s.heap.size)
  generalize hAe : va_A (wc_k_St_headHas cyB cyI cyJ cyZ cyO hs sd s_row s_has s_size s_copier s_copyLeft s_tick s_seed s_dropped) s.heap.size = A at hD ⊢
  have hA : ∀ q : Nat, s.heap.size ≤ q → A q := fun q h => by rw [← hAe]; exact Or.inr h
  have hS : va_S A s.heap s.heap [] := va_S.rf
  have hl := lv_entry ([.ref hs]) (n := 1) (Nat.le_of_ble_eq_true rfl)
  rw [lg_entry_eq]
  generalize (lg_sl ([.ref hs]) ++ List.replicate (1 - (lg_sl ([.ref hs])).length) Slot.unset).toArray = ls at hl ⊢
  have hl : lv_has ls 1 [(0, .ref hs)] := hl
  have ck0 : (0 : Int32).toInt = 0 := by decide
  refine lv_aload_n hx hb dX5_headHas_0 rfl (lv_at hl 0 rfl) ?_
  refine va_get (D := (dC, dI)) (ci := 5) (v := .int s_size) (C := RX5) (T := TX5) (N := 13) hx hb hts hi5 hown hK hP 0 rfl rfl 7 (by decide) (hts _ (ow_m (k := 0) rfl)) (fun _ h9 => h9) rfl dX5_headHas_1 ?_
  refine lv_if_ne (tgt := 11) hx hb dX5_headHas_4 (by decide) (fun c5358 => ?_) (fun c5358 => ?_)
  · have c5358 := i_ne (a := s_size.toInt) (b := 0) c5358 rfl (by decide)
    refine lv_aload_n hx hb dX5_headHas_11 rfl (lv_at hl 0 rfl) ?_
    refine va_get (D := (dC, dI)) (ci := 5) (v := .ref (sd 1)) (C := RX5) (T := TX5) (N := 13) hx hb hts hi5 hown hK hP 0 rfl rfl 1 (by decide) (hts _ (ow_m (k := 1) rfl)) (fun _ h9 => h9) rfl dX5_headHas_12 ?_
    refine lv_aload_n hx hb dX5_headHas_15 rfl (lv_at hl 0 rfl) ?_
    refine va_get (D := (dC, dI)) (ci := 5) (v := .ref (sd 0)) (C := RX5) (T := TX5) (N := 13) hx hb hts hi5 hown hK hP 0 rfl rfl 0 (by decide) (hts _ (ow_m (k := 2) rfl)) (fun _ h9 => h9) rfl dX5_headHas_16 ?_
    refine lv_iconst (v := 0) hx hb dX5_headHas_19 (by decide) ?_
    refine va_iald hx hb hK hP 1 1 rfl rfl (vp_i (a := 0) (by decide) (by decide) (by decide)) dX5_headHas_20 ?_
    refine lv_topi (fun z5359 ez5359 => ?_)
    have tz5359 := i0_s_row.at (x := 0) ez5359 (by decide) (by decide) (by decide)
    refine va_iald hx hb hK hP 2 1 rfl rfl (vp_i rfl (by omega) (by omega)) dX5_headHas_21 ?_
    refine lv_topi (fun z5360 ez5360 => ?_)
    have tz5360 := i0_s_has.at (x := z5359.toInt) ez5360 rfl (by omega) (by omega)
    have w5361 : 0 ≤ z5360.toInt := by first | omega | assumption
    have w5362 : z5360.toInt ≤ 40 := by first | omega | assumption
    exact W.iret (v := z5360) hx hb hr (fun t ht hW => ⟨⟨z5360, (), rfl, ⟨w5361, w5362⟩, cE.of ht hP hD [0, 1, 2] (by decide) rfl⟩, hS.F ht⟩) hS.2.2 dX5_headHas_22
  · have c5358 := i_eq (a := s_size.toInt) (b := 0) c5358 rfl (by decide)
    refine lv_iconst (v := 0) hx hb dX5_headHas_7 (by decide) ?_
    refine lv_goto (tgt := 22) hx hb dX5_headHas_8 (by decide) ?_
    have w5363 : 0 ≤ (0 : Int32).toInt := by first | omega | assumption
    have w5364 : (0 : Int32).toInt ≤ 40 := by first | omega | assumption
    exact W.iret (v := 0) hx hb hr (fun t ht hW => ⟨⟨0, (), rfl, ⟨w5363, w5364⟩, cE.of ht hP hD [0, 1, 2] (by decide) rfl⟩, hS.F ht⟩) hS.2.2 dX5_headHas_22
def wo_k_St_headClean : List Cond := [.fieldLink RX5 42 "ReplicaChain$State" "size" "I", .fieldLink RX5 18 "ReplicaChain$State" "clean" "[I", .fieldLink RX5 9 "ReplicaChain$State" "row" "[I"]
def wq_k_St_headClean : List Cond := .code yX5_headClean cX5_headClean 1 (some .int) :: (wo_k_St_headClean ++ (wsX50 ++ []))
theorem gd_k_St_headClean : Gd wq_k_St_headClean := gd_c (gd_a (gd_o (by decide +kernel)) (gd_a gd_u gd_0))
abbrev wc_k_St_headClean (cyB cyI cyJ cyZ cyO : ClassId) (hs : Nat) (sd : Nat → Nat) (s_row : Nat → Int32) (s_clean : Nat → Int32) (s_size : Int32) (s_copier : Int32) (s_copyLeft : Int32) (s_tick : Int32) (s_seed : Int32) (s_dropped : Int32) : va_W := [(hs, .inr (5, [.ref (sd 0), .ref (sd 1), .ref (sd 2), .ref (sd 3), .ref (sd 4), .ref (sd 5), .ref (sd 6), .int s_size, .int s_copier, .int s_copyLeft, .int s_tick, .int s_seed, .int s_dropped])), (sd 0, .inl (cyI, 6, .inl s_row)), (sd 2, .inl (cyI, 8, .inl s_clean))]
set_option maxHeartbeats 4000000 in
set_option maxRecDepth 100000 in
theorem k_St_headClean (l : Launch) (dC : Nat → ClassId) (dI : Nat → Nat → Nat) (cyB cyI cyJ cyZ cyO : ClassId) (hs : Nat) (sd : Nat → Nat) (s_row : Nat → Int32) (s_clean : Nat → Int32) (s_size : Int32) (s_copier : Int32) (s_copyLeft : Int32) (s_tick : Int32) (s_seed : Int32) (s_dropped : Int32) (sz : Nat) (l_s_size : 0 ≤ s_size.toInt) (u_s_size : s_size.toInt ≤ 6) (l_s_copier : -1 ≤ s_copier.toInt) (u_s_copier : s_copier.toInt ≤ 7) (l_s_seed : 0 ≤ s_seed.toInt) (u_s_seed : s_seed.toInt ≤ 999) (i0_s_row : In2 s_row 0 6 (0) (7)) (i0_s_clean : In2 s_clean 0 8 (0) (40)) : Met l yX5_headClean wq_k_St_headClean ({ frames := 0, cells := 0, slots := 0, locals := 0 }) (va_Pc [.ref hs] (cB (dC, dI) (kT cyB cyI cyJ cyZ cyO) (wc_k_St_headClean cyB cyI cyJ cyZ cyO hs sd s_row s_clean s_size s_copier s_copyLeft s_tick s_seed s_dropped) sz)) (va_Qi (fun (r : Int32) (u : Unit) => (0 ≤ r.toInt) ∧ (r.toInt ≤ 40)) (fun (u : Unit) t => cE (dC, dI) (va_A (wc_k_St_headClean cyB cyI cyJ cyZ cyO hs sd s_row s_clean s_size s_copier s_copyLeft s_tick s_seed s_dropped) sz) ([(hs, .inr (5, [.ref (sd 0), .ref (sd 1), .ref (sd 2), .ref (sd 3), .ref (sd 4), .ref (sd 5), .ref (sd 6), .int s_size, .int s_copier, .int s_copyLeft, .int s_tick, .int s_seed, .int s_dropped])), (sd 0, .inl (cyI, 6, .inl s_row)), (sd 2, .inl (cyI, 8, .inl s_clean))]) t.heap) (va_A (wc_k_St_headClean cyB cyI cyJ cyZ cyO hs sd s_row s_clean s_size s_copier s_copyLeft s_tick s_seed s_dropped) sz)) 0 0 (va_A (wc_k_St_headClean cyB cyI cyJ cyZ cyO hs sd s_row s_clean s_size s_copier s_copyLeft s_tick s_seed s_dropped) sz) := by
  refine Met.ofW (cc := cX5_headClean) (maxL := 1) (ret := (some .int)) (by decide) rfl ?_
  intro p e s m args below meth c s₁ B hml hv
  obtain ⟨rfl, hsz, hP, hKN, hD0⟩ := hv
  have hx := B.exec
  have hb := B.bytes
  have hr := B.returns
  have hts := atoms_spec (ws := wq_k_St_headClean) B.pre
  have hown : s.vm.findClass RX5 = some m.cls := findClass_of_methodNamed B.named
  have hlocks := B.notSynchronized
  have hK := hKN.1
  have hfix : CallFix p m c cX5_headClean 1 s [.ref hs].toArray wq_k_St_headClean RX5 := ⟨hx, hb, hml, hown, hts⟩
  have hi5 : ∀ w ∈ wsX50, w ∈ wq_k_St_headClean := (sb_c sb_l)
  subst hsz
  have hD := hD0.self (sz := s.heap.size)
  generalize hAe : va_A (wc_k_St_headClean cyB cyI cyJ cyZ cyO hs sd s_row s_clean s_size s_copier s_copyLeft s_tick s_seed s_dropped) s.heap.size = A at hD ⊢
  have hA : ∀ q : Nat, s.heap.size ≤ q → A q := fun q h => by rw [← hAe]; exact Or.inr h
  have hS : va_S A s.heap s.heap [] := va_S.rf
  have hl := lv_entry ([.ref hs]) (n := 1) (Nat.le_of_ble_eq_true rfl)
  rw [lg_entry_eq]
  generalize (lg_sl ([.ref hs]) ++ List.replicate (1 - (lg_sl ([.ref hs])).length) Slot.unset).toArray = ls at hl ⊢
  have hl : lv_has ls 1 [(0, .ref hs)] := hl
  have ck0 : (0 : Int32).toInt = 0 := by decide
  refine lv_aload_n hx hb dX5_headClean_0 rfl (lv_at hl 0 rfl) ?_
  refine va_get (D := (dC, dI)) (ci := 5) (v := .int s_size) (C := RX5) (T := TX5) (N := 13) hx hb hts hi5 hown hK hP 0 rfl rfl 7 (by decide) (hts _ (ow_m (k := 0) rfl)) (fun _ h9 => h9) rfl dX5_headClean_1 ?_
  refine lv_if_ne (tgt := 11) hx hb dX5_headClean_4 (by decide) (fun c5371 => ?_) (fun c5371 => ?_)
  · have c5371 := i_ne (a := s_size.toInt) (b := 0) c5371 rfl (by decide)
    refine lv_aload_n hx hb dX5_headClean_11 rfl (lv_at hl 0 rfl) ?_
    refine va_get (D := (dC, dI)) (ci := 5) (v := .ref (sd 2)) (C := RX5) (T := TX5) (N := 13) hx hb hts hi5 hown hK hP 0 rfl rfl 2 (by decide) (hts _ (ow_m (k := 1) rfl)) (fun _ h9 => h9) rfl dX5_headClean_12 ?_
    refine lv_aload_n hx hb dX5_headClean_15 rfl (lv_at hl 0 rfl) ?_
    refine va_get (D := (dC, dI)) (ci := 5) (v := .ref (sd 0)) (C := RX5) (T := TX5) (N := 13) hx hb hts hi5 hown hK hP 0 rfl rfl 0 (by decide) (hts _ (ow_m (k := 2) rfl)) (fun _ h9 => h9) rfl dX5_headClean_16 ?_
    refine lv_iconst (v := 0) hx hb dX5_headClean_19 (by decide) ?_
    refine va_iald hx hb hK hP 1 1 rfl rfl (vp_i (a := 0) (by decide) (by decide) (by decide)) dX5_headClean_20 ?_
    refine lv_topi (fun z5372 ez5372 => ?_)
    have tz5372 := i0_s_row.at (x := 0) ez5372 (by decide) (by decide) (by decide)
    refine va_iald hx hb hK hP 2 1 rfl rfl (vp_i rfl (by omega) (by omega)) dX5_headClean_21 ?_
    refine lv_topi (fun z5373 ez5373 => ?_)
    have tz5373 := i0_s_clean.at (x := z5372.toInt) ez5373 rfl (by omega) (by omega)
    have w5374 : 0 ≤ z5373.toInt := by first | omega | assumption
    have w5375 : z5373.toInt ≤ 40 := by first | omega | assumption
    exact W.iret (v := z5373) hx hb hr (fun t ht hW => ⟨⟨z5373, (), rfl, ⟨w5374, w5375⟩, cE.of ht hP hD [0, 1, 2] (by decide) rfl⟩, hS.F ht⟩) hS.2.2 dX5_headClean_22
  · have c5371 := i_eq (a := s_size.toInt) (b := 0) c5371 rfl (by decide)
    refine lv_iconst (v := 0) hx hb dX5_headClean_7 (by decide) ?_
    refine lv_goto (tgt := 22) hx hb dX5_headClean_8 (by decide) ?_
    have w5376 : 0 ≤ (0 : Int32).toInt := by first | omega | assumption
    have w5377 : (0 : Int32).toInt ≤ 40 := by first | omega | assumption
    exact W.iret (v := 0) hx hb hr (fun t ht hW => ⟨⟨0, (), rfl, ⟨w5376, w5377⟩, cE.of ht hP hD [0, 1, 2] (by decide) rfl⟩, hS.F ht⟩) hS.2.2 dX5_headClean_22
def wo_k_St_underWay : List Cond := [.fieldLink RX5 42 "ReplicaChain$State" "size" "I", .fieldLink RX5 9 "ReplicaChain$State" "row" "[I", .fieldLink RX5 18 "ReplicaChain$State" "clean" "[I", .fieldLink RX5 15 "ReplicaChain$State" "has" "[I"]
def wq_k_St_underWay : List Cond := .code yX5_underWay cX5_underWay 5 (some .int) :: (wo_k_St_underWay ++ (wsX50 ++ []))
theorem gd_k_St_underWay : Gd wq_k_St_underWay := gd_c (gd_a (gd_o (by decide +kernel)) (gd_a gd_u gd_0))
abbrev wc_k_St_underWay (cyB cyI cyJ cyZ cyO : ClassId) (hs : Nat) (sd : Nat → Nat) (s_row : Nat → Int32) (s_has : Nat → Int32) (s_clean : Nat → Int32) (s_size : Int32) (s_copier : Int32) (s_copyLeft : Int32) (s_tick : Int32) (s_seed : Int32) (s_dropped : Int32) (x1 : Int32) (x2 : Int32) : va_W := [(hs, .inr (5, [.ref (sd 0), .ref (sd 1), .ref (sd 2), .ref (sd 3), .ref (sd 4), .ref (sd 5), .ref (sd 6), .int s_size, .int s_copier, .int s_copyLeft, .int s_tick, .int s_seed, .int s_dropped])), (sd 0, .inl (cyI, 6, .inl s_row)), (sd 1, .inl (cyI, 8, .inl s_has)), (sd 2, .inl (cyI, 8, .inl s_clean))]
set_option maxHeartbeats 4000000 in
set_option maxRecDepth 100000 in
theorem k_St_underWay (l : Launch) (dC : Nat → ClassId) (dI : Nat → Nat → Nat) (cyB cyI cyJ cyZ cyO : ClassId) (hs : Nat) (sd : Nat → Nat) (s_row : Nat → Int32) (s_has : Nat → Int32) (s_clean : Nat → Int32) (s_size : Int32) (s_copier : Int32) (s_copyLeft : Int32) (s_tick : Int32) (s_seed : Int32) (s_dropped : Int32) (x1 : Int32) (x2 : Int32) (sz : Nat) (l_s_size : 0 ≤ s_size.toInt) (u_s_size : s_size.toInt ≤ 6) (l_s_copier : -1 ≤ s_copier.toInt) (u_s_copier : s_copier.toInt ≤ 7) (l_s_seed : 0 ≤ s_seed.toInt) (u_s_seed : s_seed.toInt ≤ 999) (i0_s_row : In2 s_row 0 6 (0) (7)) (i0_s_has : In2 s_has 0 8 (0) (40)) (i0_s_clean : In2 s_clean 0 8 (0) (40)) (l_x1 : 0 ≤ x1.toInt) (u_x1 : x1.toInt ≤ 5) : Met l yX5_underWay wq_k_St_underWay ({ frames := 0, cells := 0, slots := 0, locals := 0 }) (va_Pc [.ref hs, .int x1, .int x2] (cB (dC, dI) (kT cyB cyI cyJ cyZ cyO) (wc_k_St_underWay cyB cyI cyJ cyZ cyO hs sd s_row s_has s_clean s_size s_copier s_copyLeft s_tick s_seed s_dropped x1 x2) sz)) (va_Qi (fun (r : Int32) (u : Unit) => (-40 ≤ r.toInt) ∧ (r.toInt ≤ 40)) (fun (u : Unit) t => cE (dC, dI) (va_A (wc_k_St_underWay cyB cyI cyJ cyZ cyO hs sd s_row s_has s_clean s_size s_copier s_copyLeft s_tick s_seed s_dropped x1 x2) sz) ([(hs, .inr (5, [.ref (sd 0), .ref (sd 1), .ref (sd 2), .ref (sd 3), .ref (sd 4), .ref (sd 5), .ref (sd 6), .int s_size, .int s_copier, .int s_copyLeft, .int s_tick, .int s_seed, .int s_dropped])), (sd 0, .inl (cyI, 6, .inl s_row)), (sd 1, .inl (cyI, 8, .inl s_has)), (sd 2, .inl (cyI, 8, .inl s_clean))]) t.heap) (va_A (wc_k_St_underWay cyB cyI cyJ cyZ cyO hs sd s_row s_has s_clean s_size s_copier s_copyLeft s_tick s_seed s_dropped x1 x2) sz)) 0 0 (va_A (wc_k_St_underWay cyB cyI cyJ cyZ cyO hs sd s_row s_has s_clean s_size s_copier s_copyLeft s_tick s_seed s_dropped x1 x2) sz) := by
  refine Met.ofW (cc := cX5_underWay) (maxL := 5) (ret := (some .int)) (by decide) rfl ?_
  intro p e s m args below meth c s₁ B hml hv
  obtain ⟨rfl, hsz, hP, hKN, hD0⟩ := hv
  have hx := B.exec
  have hb := B.bytes
  have hr := B.returns
  have hts := atoms_spec (ws := wq_k_St_underWay) B.pre
  have hown : s.vm.findClass RX5 = some m.cls := findClass_of_methodNamed B.named
  have hlocks := B.notSynchronized
  have hK := hKN.1
  have hfix : CallFix p m c cX5_underWay 5 s [.ref hs, .int x1, .int x2].toArray wq_k_St_underWay RX5 := ⟨hx, hb, hml, hown, hts⟩
  have hi5 : ∀ w ∈ wsX50, w ∈ wq_k_St_underWay := (sb_c sb_l)
  subst hsz
  have hD := hD0.self (sz := s.heap.size)
  generalize hAe : va_A (wc_k_St_underWay cyB cyI cyJ cyZ cyO hs sd s_row s_has s_clean s_size s_copier s_copyLeft s_tick s_seed s_dropped x1 x2) s.heap.size = A at hD ⊢
  have hA : ∀ q : Nat, s.heap.size ≤ q → A q := fun q h => by rw [← hAe]; exact Or.inr h
  have hS : va_S A s.heap s.heap [] := va_S.rf
  have hl := lv_entry ([.ref hs, .int x1, .int x2]) (n := 5) (Nat.le_of_ble_eq_true rfl)
  rw [lg_entry_eq]
  generalize (lg_sl ([.ref hs, .int x1, .int x2]) ++ List.replicate (5 - (lg_sl ([.ref hs, .int x1, .int x2])).length) Slot.unset).toArray = ls at hl ⊢
  have hl : lv_has ls 5 [(0, .ref hs), (1, .int x1), (2, .int x2)] := hl
  have ck0 : (0 : Int32).toInt = 0 := by decide
  refine lv_iload_n hx hb dX5_underWay_0 rfl (lv_at hl 1 rfl) ?_
  refine lv_if_lt (tgt := 14) hx hb dX5_underWay_1 (by decide) (fun c5404 => ?_) (fun c5404 => ?_)
  · have c5404 := i_lt (a := x1.toInt) (b := 0) c5404 rfl (by decide)
    exfalso; omega
  · have c5404 := i_nlt (a := x1.toInt) (b := 0) c5404 rfl (by decide)
    refine lv_iload_n hx hb dX5_underWay_4 rfl (lv_at hl 1 rfl) ?_
    refine lv_iconst (v := 1) hx hb dX5_underWay_5 (by decide) ?_
    refine lv_iadd hx hb dX5_underWay_6 ?_
    refine lv_topi (fun z5405 ez5405 => ?_)
    have tz5405 := ti_add (a := x1.toInt) (b := 1) ez5405 rfl (by decide) (by omega) (by omega)
    refine lv_aload_n hx hb dX5_underWay_7 rfl (lv_at hl 0 rfl) ?_
    refine va_get (D := (dC, dI)) (ci := 5) (v := .int s_size) (C := RX5) (T := TX5) (N := 13) hx hb hts hi5 hown hK hP 0 rfl rfl 7 (by decide) (hts _ (ow_m (k := 0) rfl)) (fun _ h9 => h9) rfl dX5_underWay_8 ?_
    refine lv_icmp_lt (tgt := 16) hx hb dX5_underWay_11 (by decide) (fun c5406 => ?_) (fun c5406 => ?_)
    · have c5406 := i_lt (a := z5405.toInt) (b := s_size.toInt) c5406 rfl rfl
      refine lv_aload_n hx hb dX5_underWay_16 rfl (lv_at hl 0 rfl) ?_
      refine va_get (D := (dC, dI)) (ci := 5) (v := .ref (sd 0)) (C := RX5) (T := TX5) (N := 13) hx hb hts hi5 hown hK hP 0 rfl rfl 0 (by decide) (hts _ (ow_m (k := 1) rfl)) (fun _ h9 => h9) rfl dX5_underWay_17 ?_
      refine lv_iload_n hx hb dX5_underWay_20 rfl (lv_at hl 1 rfl) ?_
      refine va_iald hx hb hK hP 1 1 rfl rfl (vp_i rfl (by omega) (by omega)) dX5_underWay_21 ?_
      refine lv_topi (fun z5407 ez5407 => ?_)
      have tz5407 := i0_s_row.at (x := x1.toInt) ez5407 rfl (by omega) (by omega)
      refine lv_istore_n (lv' := [(3, .int z5407), (0, .ref hs), (1, .int x1), (2, .int x2)]) hx hb dX5_underWay_22 rfl hl (by decide) rfl (fun ls hl => ?_)
      refine lv_aload_n hx hb dX5_underWay_23 rfl (lv_at hl 1 rfl) ?_
      refine va_get (D := (dC, dI)) (ci := 5) (v := .ref (sd 0)) (C := RX5) (T := TX5) (N := 13) hx hb hts hi5 hown hK hP 0 rfl rfl 0 (by decide) (hts _ (ow_m (k := 1) rfl)) (fun _ h9 => h9) rfl dX5_underWay_24 ?_
      refine lv_iload_n hx hb dX5_underWay_27 rfl (lv_at hl 2 rfl) ?_
      refine lv_iconst (v := 1) hx hb dX5_underWay_28 (by decide) ?_
      refine lv_iadd hx hb dX5_underWay_29 ?_
      refine lv_topi (fun z5408 ez5408 => ?_)
      have tz5408 := ti_add (a := x1.toInt) (b := 1) ez5408 rfl (by decide) (by omega) (by omega)
      refine va_iald hx hb hK hP 1 1 rfl rfl (vp_i rfl (by omega) (by omega)) dX5_underWay_30 ?_
      refine lv_topi (fun z5409 ez5409 => ?_)
      have tz5409 := i0_s_row.at (x := z5408.toInt) ez5409 rfl (by omega) (by omega)
      refine lv_istore (lv' := [(4, .int z5409), (3, .int z5407), (0, .ref hs), (1, .int x1), (2, .int x2)]) hx hb dX5_underWay_31 hl (by decide) rfl (fun ls hl => ?_)
      refine lv_iload_n hx hb dX5_underWay_33 rfl (lv_at hl 4 rfl) ?_
      refine lv_if_ne (tgt := 54) hx hb dX5_underWay_34 (by decide) (fun c5410 => ?_) (fun c5410 => ?_)
      · have c5410 := i_ne (a := x2.toInt) (b := 0) c5410 rfl (by decide)
        refine lv_aload_n hx hb dX5_underWay_54 rfl (lv_at hl 2 rfl) ?_
        refine va_get (D := (dC, dI)) (ci := 5) (v := .ref (sd 2)) (C := RX5) (T := TX5) (N := 13) hx hb hts hi5 hown hK hP 0 rfl rfl 2 (by decide) (hts _ (ow_m (k := 2) rfl)) (fun _ h9 => h9) rfl dX5_underWay_55 ?_
        refine lv_iload hx hb dX5_underWay_58 (lv_at hl 0 rfl) ?_
        refine va_iald hx hb hK hP 3 1 rfl rfl (vp_i rfl (by omega) (by omega)) dX5_underWay_60 ?_
        refine lv_topi (fun z5411 ez5411 => ?_)
        have tz5411 := i0_s_clean.at (x := z5409.toInt) ez5411 rfl (by omega) (by omega)
        refine lv_aload_n hx hb dX5_underWay_61 rfl (lv_at hl 2 rfl) ?_
        refine va_get (D := (dC, dI)) (ci := 5) (v := .ref (sd 2)) (C := RX5) (T := TX5) (N := 13) hx hb hts hi5 hown hK hP 0 rfl rfl 2 (by decide) (hts _ (ow_m (k := 2) rfl)) (fun _ h9 => h9) rfl dX5_underWay_62 ?_
        refine lv_iload_n hx hb dX5_underWay_65 rfl (lv_at hl 1 rfl) ?_
        refine va_iald hx hb hK hP 3 1 rfl rfl (vp_i rfl (by omega) (by omega)) dX5_underWay_66 ?_
        refine lv_topi (fun z5412 ez5412 => ?_)
        have tz5412 := i0_s_clean.at (x := z5407.toInt) ez5412 rfl (by omega) (by omega)
        refine lv_isub hx hb dX5_underWay_67 ?_
        refine lv_topi (fun z5413 ez5413 => ?_)
        have tz5413 := ti_sub (a := z5411.toInt) (b := z5412.toInt) ez5413 rfl rfl (by omega) (by omega)
        have w5414 : -40 ≤ z5413.toInt := by first | omega | assumption
        have w5415 : z5413.toInt ≤ 40 := by first | omega | assumption
        exact W.iret (v := z5413) hx hb hr (fun t ht hW => ⟨⟨z5413, (), rfl, ⟨w5414, w5415⟩, cE.of ht hP hD [0, 1, 2, 3] (by decide) rfl⟩, hS.F ht⟩) hS.2.2 dX5_underWay_68
      · have c5410 := i_eq (a := x2.toInt) (b := 0) c5410 rfl (by decide)
        refine lv_aload_n hx hb dX5_underWay_37 rfl (lv_at hl 2 rfl) ?_
        refine va_get (D := (dC, dI)) (ci := 5) (v := .ref (sd 1)) (C := RX5) (T := TX5) (N := 13) hx hb hts hi5 hown hK hP 0 rfl rfl 1 (by decide) (hts _ (ow_m (k := 3) rfl)) (fun _ h9 => h9) rfl dX5_underWay_38 ?_
        refine lv_iload_n hx hb dX5_underWay_41 rfl (lv_at hl 1 rfl) ?_
        refine va_iald hx hb hK hP 2 1 rfl rfl (vp_i rfl (by omega) (by omega)) dX5_underWay_42 ?_
        refine lv_topi (fun z5416 ez5416 => ?_)
        have tz5416 := i0_s_has.at (x := z5407.toInt) ez5416 rfl (by omega) (by omega)
        refine lv_aload_n hx hb dX5_underWay_43 rfl (lv_at hl 2 rfl) ?_
        refine va_get (D := (dC, dI)) (ci := 5) (v := .ref (sd 1)) (C := RX5) (T := TX5) (N := 13) hx hb hts hi5 hown hK hP 0 rfl rfl 1 (by decide) (hts _ (ow_m (k := 3) rfl)) (fun _ h9 => h9) rfl dX5_underWay_44 ?_
        refine lv_iload hx hb dX5_underWay_47 (lv_at hl 0 rfl) ?_
        refine va_iald hx hb hK hP 2 1 rfl rfl (vp_i rfl (by omega) (by omega)) dX5_underWay_49 ?_
        refine lv_topi (fun z5417 ez5417 => ?_)
        have tz5417 := i0_s_has.at (x := z5409.toInt) ez5417 rfl (by omega) (by omega)
        refine lv_isub hx hb dX5_underWay_50 ?_
        refine lv_topi (fun z5418 ez5418 => ?_)
        have tz5418 := ti_sub (a := z5416.toInt) (b := z5417.toInt) ez5418 rfl rfl (by omega) (by omega)
        refine lv_goto (tgt := 68) hx hb dX5_underWay_51 (by decide) ?_
        have w5419 : -40 ≤ z5418.toInt := by first | omega | assumption
        have w5420 : z5418.toInt ≤ 40 := by first | omega | assumption
        exact W.iret (v := z5418) hx hb hr (fun t ht hW => ⟨⟨z5418, (), rfl, ⟨w5419, w5420⟩, cE.of ht hP hD [0, 1, 2, 3] (by decide) rfl⟩, hS.F ht⟩) hS.2.2 dX5_underWay_68
    · have c5406 := i_nlt (a := z5405.toInt) (b := s_size.toInt) c5406 rfl rfl
      refine lv_iconst (v := 0) hx hb dX5_underWay_14 (by decide) ?_
      have w5421 : -40 ≤ (0 : Int32).toInt := by first | omega | assumption
      have w5422 : (0 : Int32).toInt ≤ 40 := by first | omega | assumption
      exact W.iret (v := 0) hx hb hr (fun t ht hW => ⟨⟨0, (), rfl, ⟨w5421, w5422⟩, cE.of ht hP hD [0, 1, 2, 3] (by decide) rfl⟩, hS.F ht⟩) hS.2.2 dX5_underWay_15
def wo_k_St_allUnderWay : List Cond := [.fieldLink RX5 42 "ReplicaChain$State" "size" "I", .methodLink RX5 69 yX5_underWay, .instanceMethod yX5_underWay, .selects RX5 yX5_underWay yX5_underWay, .initialized RX5]
def wq_k_St_allUnderWay : List Cond := .code yX5_allUnderWay cX5_allUnderWay 3 (some .int) :: (wo_k_St_allUnderWay ++ (wq_k_St_underWay ++ (wsX50 ++ [])))
theorem gd_k_St_allUnderWay : Gd wq_k_St_allUnderWay := gd_c (gd_a (gd_o (by decide +kernel)) (gd_a gd_k_St_underWay (gd_a gd_u gd_0)))
abbrev wc_k_St_allUnderWay (cyB cyI cyJ cyZ cyO : ClassId) (hs : Nat) (sd : Nat → Nat) (s_row : Nat → Int32) (s_has : Nat → Int32) (s_clean : Nat → Int32) (s_size : Int32) (s_copier : Int32) (s_copyLeft : Int32) (s_tick : Int32) (s_seed : Int32) (s_dropped : Int32) : va_W := [(hs, .inr (5, [.ref (sd 0), .ref (sd 1), .ref (sd 2), .ref (sd 3), .ref (sd 4), .ref (sd 5), .ref (sd 6), .int s_size, .int s_copier, .int s_copyLeft, .int s_tick, .int s_seed, .int s_dropped])), (sd 0, .inl (cyI, 6, .inl s_row)), (sd 1, .inl (cyI, 8, .inl s_has)), (sd 2, .inl (cyI, 8, .inl s_clean))]
set_option maxHeartbeats 4000000 in
set_option maxRecDepth 100000 in
theorem k_St_allUnderWay (l : Launch) (dC : Nat → ClassId) (dI : Nat → Nat → Nat) (cyB cyI cyJ cyZ cyO : ClassId) (hs : Nat) (sd : Nat → Nat) (s_row : Nat → Int32) (s_has : Nat → Int32) (s_clean : Nat → Int32) (s_size : Int32) (s_copier : Int32) (s_copyLeft : Int32) (s_tick : Int32) (s_seed : Int32) (s_dropped : Int32) (sz : Nat) (l_s_size : 0 ≤ s_size.toInt) (u_s_size : s_size.toInt ≤ 6) (l_s_copier : -1 ≤ s_copier.toInt) (u_s_copier : s_copier.toInt ≤ 7) (l_s_seed : 0 ≤ s_seed.toInt) (u_s_seed : s_seed.toInt ≤ 999) (i0_s_row : In2 s_row 0 6 (0) (7)) (i0_s_has : In2 s_has 0 8 (0) (40)) (i0_s_clean : In2 s_clean 0 8 (0) (40)) : Met l yX5_allUnderWay wq_k_St_allUnderWay ({ frames := 1, cells := 0, slots := 0, locals := 24 }) (va_Pc [.ref hs] (cB (dC, dI) (kT cyB cyI cyJ cyZ cyO) (wc_k_St_allUnderWay cyB cyI cyJ cyZ cyO hs sd s_row s_has s_clean s_size s_copier s_copyLeft s_tick s_seed s_dropped) sz)) (va_Qi (fun (r : Int32) (u : Unit) => True) (fun (u : Unit) t => cE (dC, dI) (va_A (wc_k_St_allUnderWay cyB cyI cyJ cyZ cyO hs sd s_row s_has s_clean s_size s_copier s_copyLeft s_tick s_seed s_dropped) sz) ([(hs, .inr (5, [.ref (sd 0), .ref (sd 1), .ref (sd 2), .ref (sd 3), .ref (sd 4), .ref (sd 5), .ref (sd 6), .int s_size, .int s_copier, .int s_copyLeft, .int s_tick, .int s_seed, .int s_dropped])), (sd 0, .inl (cyI, 6, .inl s_row)), (sd 1, .inl (cyI, 8, .inl s_has)), (sd 2, .inl (cyI, 8, .inl s_clean))]) t.heap) (va_A (wc_k_St_allUnderWay cyB cyI cyJ cyZ cyO hs sd s_row s_has s_clean s_size s_copier s_copyLeft s_tick s_seed s_dropped) sz)) 0 0 (va_A (wc_k_St_allUnderWay cyB cyI cyJ cyZ cyO hs sd s_row s_has s_clean s_size s_copier s_copyLeft s_tick s_seed s_dropped) sz) := by
  refine Met.ofW (cc := cX5_allUnderWay) (maxL := 3) (ret := (some .int)) (by decide) rfl ?_
  intro p e s m args below meth c s₁ B hml hv
  obtain ⟨rfl, hsz, hP, hKN, hD0⟩ := hv
  have hx := B.exec
  have hb := B.bytes
  have hr := B.returns
  have hts := atoms_spec (ws := wq_k_St_allUnderWay) B.pre
  have hown : s.vm.findClass RX5 = some m.cls := findClass_of_methodNamed B.named
  have hlocks := B.notSynchronized
  have hK := hKN.1
  have hfix : CallFix p m c cX5_allUnderWay 3 s [.ref hs].toArray wq_k_St_allUnderWay RX5 := ⟨hx, hb, hml, hown, hts⟩
  have hi5 : ∀ w ∈ wsX50, w ∈ wq_k_St_allUnderWay := (sb_c (sb_r sb_l))
  subst hsz
  have hD := hD0.self (sz := s.heap.size)
  generalize hAe : va_A (wc_k_St_allUnderWay cyB cyI cyJ cyZ cyO hs sd s_row s_has s_clean s_size s_copier s_copyLeft s_tick s_seed s_dropped) s.heap.size = A at hD ⊢
  have hA : ∀ q : Nat, s.heap.size ≤ q → A q := fun q h => by rw [← hAe]; exact Or.inr h
  have hS : va_S A s.heap s.heap [] := va_S.rf
  have hl := lv_entry ([.ref hs]) (n := 3) (Nat.le_of_ble_eq_true rfl)
  rw [lg_entry_eq]
  generalize (lg_sl ([.ref hs]) ++ List.replicate (3 - (lg_sl ([.ref hs])).length) Slot.unset).toArray = ls at hl ⊢
  have hl : lv_has ls 3 [(0, .ref hs)] := hl
  have ck0 : (0 : Int32).toInt = 0 := by decide
  have ck1 : (1 : Int32).toInt = 1 := by decide
  refine lv_iconst (v := 0) hx hb dX5_allUnderWay_0 (by decide) ?_
  refine lv_istore_n (lv' := [(1, .int 0), (0, .ref hs)]) hx hb dX5_allUnderWay_1 rfl hl (by decide) rfl (fun ls hl => ?_)
  refine lv_iconst (v := 0) hx hb dX5_allUnderWay_2 (by decide) ?_
  refine lv_istore_n (lv' := [(2, .int 0), (1, .int 0), (0, .ref hs)]) hx hb dX5_allUnderWay_3 rfl hl (by decide) rfl (fun ls hl => ?_)
  refine w_gen (fun H locs ls hP hS hl => ?_) hP hS hl
  obtain ⟨v5823, v5824, hl2, hP2, hD2, b5825, b5826⟩ : ∃ (v5823 : Int32) (v5824 : Int32), lv_has ls 3 [(2, .int v5824), (1, .int v5823), (0, .ref hs)] ∧ va_P (dC, dI) vwCl [(hs, .inr (5, [.ref (sd 0), .ref (sd 1), .ref (sd 2), .ref (sd 3), .ref (sd 4), .ref (sd 5), .ref (sd 6), .int s_size, .int s_copier, .int s_copyLeft, .int s_tick, .int s_seed, .int s_dropped])), (sd 0, .inl (cyI, 6, .inl s_row)), (sd 1, .inl (cyI, 8, .inl s_has)), (sd 2, .inl (cyI, 8, .inl s_clean))] H ∧ va_D A [(hs, .inr (5, [.ref (sd 0), .ref (sd 1), .ref (sd 2), .ref (sd 3), .ref (sd 4), .ref (sd 5), .ref (sd 6), .int s_size, .int s_copier, .int s_copyLeft, .int s_tick, .int s_seed, .int s_dropped])), (sd 0, .inl (cyI, 6, .inl s_row)), (sd 1, .inl (cyI, 8, .inl s_has)), (sd 2, .inl (cyI, 8, .inl s_clean))] ∧ (0 ≤ v5824.toInt) ∧ (v5824.toInt ≤ 5) := ⟨(0 : Int32), (0 : Int32), hl, hP, hD, by first | assumption | omega, by first | assumption | omega⟩
  clear hP hl
  have hP := hP2
  have hD := hD2
  have hl := hl2
  clear hP2 hD2 hl2
  obtain ⟨n5827, hn5827⟩ : ∃ n : Nat, 5 - v5824.toInt < (n : Int) := ⟨(5 - v5824.toInt).toNat + 1, by omega⟩
  induction n5827 generalizing v5823 v5824 H locs ls with
  | zero => exfalso; omega
  | succ n5827 ih5828 =>
    refine lv_iload_n hx hb dX5_allUnderWay_4 rfl (lv_at hl 0 rfl) ?_
    refine lv_aload_n hx hb dX5_allUnderWay_5 rfl (lv_at hl 2 rfl) ?_
    refine va_get (D := (dC, dI)) (ci := 5) (v := .int s_size) (C := RX5) (T := TX5) (N := 13) hx hb hts hi5 hown hK hP 0 rfl rfl 7 (by decide) (hts _ (ow_m (k := 0) rfl)) (fun _ h9 => h9) rfl dX5_allUnderWay_6 ?_
    refine lv_iconst (v := 1) hx hb dX5_allUnderWay_9 (by decide) ?_
    refine lv_isub hx hb dX5_allUnderWay_10 ?_
    refine lv_topi (fun z5829 ez5829 => ?_)
    have tz5829 := ti_sub (a := s_size.toInt) (b := 1) ez5829 rfl (by decide) (by omega) (by omega)
    refine lv_icmp_ge (tgt := 36) hx hb dX5_allUnderWay_11 (by decide) (fun c5830 => ?_) (fun c5830 => ?_)
    · have c5830 := i_le (a := z5829.toInt) (b := v5824.toInt) c5830 rfl rfl
      refine lv_iload_n hx hb dX5_allUnderWay_36 rfl (lv_at hl 1 rfl) ?_
      exact W.iret (v := v5823) hx hb hr (fun t ht hW => ⟨⟨v5823, (), rfl, trivial, cE.of ht hP hD [0, 1, 2, 3] (by decide) rfl⟩, hS.F ht⟩) hS.2.2 dX5_allUnderWay_37
    · have c5830 := i_nle (a := z5829.toInt) (b := v5824.toInt) c5830 rfl rfl
      refine lv_iload_n hx hb dX5_allUnderWay_14 rfl (lv_at hl 1 rfl) ?_
      refine lv_aload_n hx hb dX5_allUnderWay_15 rfl (lv_at hl 2 rfl) ?_
      refine lv_iload_n hx hb dX5_allUnderWay_16 rfl (lv_at hl 0 rfl) ?_
      refine lv_iconst (v := 0) hx hb dX5_allUnderWay_17 (by decide) ?_
      refine gf_i (wr := []) (va_runV (As := [.int v5824, .int 0]) (rest := [.int v5823]) hfix (k_St_underWay l dC dI cyB cyI cyJ cyZ cyO hs sd s_row s_has s_clean s_size s_copier s_copyLeft s_tick s_seed s_dropped v5824 (0 : Int32) _ (by first | omega | assumption) (by first | omega | assumption) (by first | omega | assumption) (by first | omega | assumption) (by first | omega | assumption) (by first | omega | assumption) i0_s_row i0_s_has i0_s_clean (by first | omega | assumption) (by first | omega | assumption)) (cwV 2 hts (gi_V (ow_m (k := 1) rfl) (ow_m (k := 2) rfl) (ow_m (k := 3) rfl) (ow_m (k := 4) rfl) (sb_c sb_l) gd_k_St_underWay) rfl rfl rfl (by decide +kernel) ⟨Nat.le_of_ble_eq_true rfl, Nat.le_of_ble_eq_true rfl⟩) (g_preV hKN hP hD [0, 1, 2, 3] rfl (by decide) 0 5 rfl rfl) rfl rfl hl.1 rfl (lv_room (Nat.le_of_ble_eq_true rfl)) dX5_allUnderWay_18 ⟨Nat.le_of_ble_eq_true rfl, Nat.le_of_ble_eq_true rfl⟩) hP hD hS hA [0, 1, 2, 3] [] rfl rfl (by decide) (by decide) (fun r5831 u5832 H locs qu5832 hP hD hS => ?_)
      obtain ⟨b5833, b5834⟩ := qu5832
      have hP : va_P (dC, dI) vwCl [(hs, .inr (5, [.ref (sd 0), .ref (sd 1), .ref (sd 2), .ref (sd 3), .ref (sd 4), .ref (sd 5), .ref (sd 6), .int s_size, .int s_copier, .int s_copyLeft, .int s_tick, .int s_seed, .int s_dropped])), (sd 0, .inl (cyI, 6, .inl s_row)), (sd 1, .inl (cyI, 8, .inl s_has)), (sd 2, .inl (cyI, 8, .inl s_clean))] H := hP
      have hD : va_D A [(hs, .inr (5, [.ref (sd 0), .ref (sd 1), .ref (sd 2), .ref (sd 3), .ref (sd 4), .ref (sd 5), .ref (sd 6), .int s_size, .int s_copier, .int s_copyLeft, .int s_tick, .int s_seed, .int s_dropped])), (sd 0, .inl (cyI, 6, .inl s_row)), (sd 1, .inl (cyI, 8, .inl s_has)), (sd 2, .inl (cyI, 8, .inl s_clean))] := hD
      refine lv_aload_n hx hb dX5_allUnderWay_21 rfl (lv_at hl 2 rfl) ?_
      refine lv_iload_n hx hb dX5_allUnderWay_22 rfl (lv_at hl 0 rfl) ?_
      refine lv_iconst (v := 1) hx hb dX5_allUnderWay_23 (by decide) ?_
      refine gf_i (wr := []) (va_runV (As := [.int v5824, .int 1]) (rest := [.int r5831, .int v5823]) hfix (k_St_underWay l dC dI cyB cyI cyJ cyZ cyO hs sd s_row s_has s_clean s_size s_copier s_copyLeft s_tick s_seed s_dropped v5824 (1 : Int32) _ (by first | omega | assumption) (by first | omega | assumption) (by first | omega | assumption) (by first | omega | assumption) (by first | omega | assumption) (by first | omega | assumption) i0_s_row i0_s_has i0_s_clean (by first | omega | assumption) (by first | omega | assumption)) (cwV 2 hts (gi_V (ow_m (k := 1) rfl) (ow_m (k := 2) rfl) (ow_m (k := 3) rfl) (ow_m (k := 4) rfl) (sb_c sb_l) gd_k_St_underWay) rfl rfl rfl (by decide +kernel) ⟨Nat.le_of_ble_eq_true rfl, Nat.le_of_ble_eq_true rfl⟩) (g_preV hKN hP hD [0, 1, 2, 3] rfl (by decide) 0 5 rfl rfl) rfl rfl hl.1 rfl (lv_room (Nat.le_of_ble_eq_true rfl)) dX5_allUnderWay_24 ⟨Nat.le_of_ble_eq_true rfl, Nat.le_of_ble_eq_true rfl⟩) hP hD hS hA [0, 1, 2, 3] [] rfl rfl (by decide) (by decide) (fun r5835 u5836 H locs qu5836 hP hD hS => ?_)
      obtain ⟨b5837, b5838⟩ := qu5836
      have hP : va_P (dC, dI) vwCl [(hs, .inr (5, [.ref (sd 0), .ref (sd 1), .ref (sd 2), .ref (sd 3), .ref (sd 4), .ref (sd 5), .ref (sd 6), .int s_size, .int s_copier, .int s_copyLeft, .int s_tick, .int s_seed, .int s_dropped])), (sd 0, .inl (cyI, 6, .inl s_row)), (sd 1, .inl (cyI, 8, .inl s_has)), (sd 2, .inl (cyI, 8, .inl s_clean))] H := hP
      have hD : va_D A [(hs, .inr (5, [.ref (sd 0), .ref (sd 1), .ref (sd 2), .ref (sd 3), .ref (sd 4), .ref (sd 5), .ref (sd 6), .int s_size, .int s_copier, .int s_copyLeft, .int s_tick, .int s_seed, .int s_dropped])), (sd 0, .inl (cyI, 6, .inl s_row)), (sd 1, .inl (cyI, 8, .inl s_has)), (sd 2, .inl (cyI, 8, .inl s_clean))] := hD
      refine lv_iadd hx hb dX5_allUnderWay_27 ?_
      refine lv_topi (fun z5839 ez5839 => ?_)
      have tz5839 := ti_add (a := r5831.toInt) (b := r5835.toInt) ez5839 rfl rfl (by omega) (by omega)
      refine lv_iadd hx hb dX5_allUnderWay_28 ?_
      refine lv_topi (fun z5840 ez5840 => ?_)
      refine lv_istore_n (lv' := [(1, .int z5840), (2, .int v5824), (0, .ref hs)]) hx hb dX5_allUnderWay_29 rfl hl (by decide) rfl (fun ls hl => ?_)
      obtain ⟨z5841, ez5841⟩ : ∃ y : Int32, y = v5824 + 1 := ⟨_, rfl⟩
      have tz5841 := ti_add (a := v5824.toInt) (b := 1) ez5841 rfl (by decide) (by omega) (by omega)
      refine lv_iinc (v := z5841) (lv' := [(2, .int z5841), (1, .int z5840), (0, .ref hs)]) hx hb dX5_allUnderWay_30 hl (k := 1) rfl (by rw [ez5841]; rfl) (by decide) rfl (fun ls hl => ?_)
      refine lv_goto (tgt := 4) hx hb dX5_allUnderWay_33 (by decide) ?_
      have hl := lv_sub (l' := [(2, .int z5841), (1, .int z5840), (0, .ref hs)]) hl [0, 1, 2] rfl
      apply ih5828 (v5823 := z5840) (v5824 := z5841) (H := H) (locs := locs) (ls := ls) <;> first | assumption | omega
def wo_k_St_whoReaches_has : List Cond := [.fieldLink RX5 42 "ReplicaChain$State" "size" "I", .fieldLink RX5 9 "ReplicaChain$State" "row" "[I"]
def wq_k_St_whoReaches_has : List Cond := .code yX5_whoReaches cX5_whoReaches 5 (some .int) :: (wo_k_St_whoReaches_has ++ (wsX50 ++ []))
theorem gd_k_St_whoReaches_has : Gd wq_k_St_whoReaches_has := gd_c (gd_a (gd_o (by decide +kernel)) (gd_a gd_u gd_0))
abbrev wc_k_St_whoReaches_has (cyB cyI cyJ cyZ cyO : ClassId) (hs : Nat) (sd : Nat → Nat) (s_row : Nat → Int32) (s_has : Nat → Int32) (s_size : Int32) (s_copier : Int32) (s_copyLeft : Int32) (s_tick : Int32) (s_seed : Int32) (s_dropped : Int32) (x2 : Int32) : va_W := [(hs, .inr (5, [.ref (sd 0), .ref (sd 1), .ref (sd 2), .ref (sd 3), .ref (sd 4), .ref (sd 5), .ref (sd 6), .int s_size, .int s_copier, .int s_copyLeft, .int s_tick, .int s_seed, .int s_dropped])), (sd 0, .inl (cyI, 6, .inl s_row)), (sd 1, .inl (cyI, 8, .inl s_has))]
set_option maxHeartbeats 4000000 in
set_option maxRecDepth 100000 in
theorem k_St_whoReaches_has (l : Launch) (dC : Nat → ClassId) (dI : Nat → Nat → Nat) (cyB cyI cyJ cyZ cyO : ClassId) (hs : Nat) (sd : Nat → Nat) (s_row : Nat → Int32) (s_has : Nat → Int32) (s_size : Int32) (s_copier : Int32) (s_copyLeft : Int32) (s_tick : Int32) (s_seed : Int32) (s_dropped : Int32) (x2 : Int32) (sz : Nat) (l_s_size : 0 ≤ s_size.toInt) (u_s_size : s_size.toInt ≤ 6) (l_s_copier : -1 ≤ s_copier.toInt) (u_s_copier : s_copier.toInt ≤ 7) (l_s_seed : 0 ≤ s_seed.toInt) (u_s_seed : s_seed.toInt ≤ 999) (i0_s_row : In2 s_row 0 6 (0) (7)) (i0_s_has : In2 s_has 0 8 (0) (40)) : Met l yX5_whoReaches wq_k_St_whoReaches_has ({ frames := 0, cells := 0, slots := 0, locals := 0 }) (va_Pc [.ref hs, .ref (sd 1), .int x2] (cB (dC, dI) (kT cyB cyI cyJ cyZ cyO) (wc_k_St_whoReaches_has cyB cyI cyJ cyZ cyO hs sd s_row s_has s_size s_copier s_copyLeft s_tick s_seed s_dropped x2) sz)) (va_Qi (fun (r : Int32) (u : Unit) => True) (fun (u : Unit) t => cE (dC, dI) (va_A (wc_k_St_whoReaches_has cyB cyI cyJ cyZ cyO hs sd s_row s_has s_size s_copier s_copyLeft s_tick s_seed s_dropped x2) sz) ([(hs, .inr (5, [.ref (sd 0), .ref (sd 1), .ref (sd 2), .ref (sd 3), .ref (sd 4), .ref (sd 5), .ref (sd 6), .int s_size, .int s_copier, .int s_copyLeft, .int s_tick, .int s_seed, .int s_dropped])), (sd 0, .inl (cyI, 6, .inl s_row)), (sd 1, .inl (cyI, 8, .inl s_has))]) t.heap) (va_A (wc_k_St_whoReaches_has cyB cyI cyJ cyZ cyO hs sd s_row s_has s_size s_copier s_copyLeft s_tick s_seed s_dropped x2) sz)) 0 0 (va_A (wc_k_St_whoReaches_has cyB cyI cyJ cyZ cyO hs sd s_row s_has s_size s_copier s_copyLeft s_tick s_seed s_dropped x2) sz) := by
  refine Met.ofW (cc := cX5_whoReaches) (maxL := 5) (ret := (some .int)) (by decide) rfl ?_
  intro p e s m args below meth c s₁ B hml hv
  obtain ⟨rfl, hsz, hP, hKN, hD0⟩ := hv
  have hx := B.exec
  have hb := B.bytes
  have hr := B.returns
  have hts := atoms_spec (ws := wq_k_St_whoReaches_has) B.pre
  have hown : s.vm.findClass RX5 = some m.cls := findClass_of_methodNamed B.named
  have hlocks := B.notSynchronized
  have hK := hKN.1
  have hfix : CallFix p m c cX5_whoReaches 5 s [.ref hs, .ref (sd 1), .int x2].toArray wq_k_St_whoReaches_has RX5 := ⟨hx, hb, hml, hown, hts⟩
  have hi5 : ∀ w ∈ wsX50, w ∈ wq_k_St_whoReaches_has := (sb_c sb_l)
  subst hsz
  have hD := hD0.self (sz := s.heap.size)
  generalize hAe : va_A (wc_k_St_whoReaches_has cyB cyI cyJ cyZ cyO hs sd s_row s_has s_size s_copier s_copyLeft s_tick s_seed s_dropped x2) s.heap.size = A at hD ⊢
  have hA : ∀ q : Nat, s.heap.size ≤ q → A q := fun q h => by rw [← hAe]; exact Or.inr h
  have hS : va_S A s.heap s.heap [] := va_S.rf
  have hl := lv_entry ([.ref hs, .ref (sd 1), .int x2]) (n := 5) (Nat.le_of_ble_eq_true rfl)
  rw [lg_entry_eq]
  generalize (lg_sl ([.ref hs, .ref (sd 1), .int x2]) ++ List.replicate (5 - (lg_sl ([.ref hs, .ref (sd 1), .int x2])).length) Slot.unset).toArray = ls at hl ⊢
  have hl : lv_has ls 5 [(0, .ref hs), (1, .ref (sd 1)), (2, .int x2)] := hl
  have ck0 : (0 : Int32).toInt = 0 := by decide
  refine lv_iconst (v := 0) hx hb dX5_whoReaches_0 (by decide) ?_
  refine lv_istore_n (lv' := [(3, .int 0), (0, .ref hs), (1, .ref (sd 1)), (2, .int x2)]) hx hb dX5_whoReaches_1 rfl hl (by decide) rfl (fun ls hl => ?_)
  refine lv_iconst (v := 0) hx hb dX5_whoReaches_2 (by decide) ?_
  refine lv_istore (lv' := [(4, .int 0), (3, .int 0), (0, .ref hs), (1, .ref (sd 1)), (2, .int x2)]) hx hb dX5_whoReaches_3 hl (by decide) rfl (fun ls hl => ?_)
  refine w_gen (fun H locs ls hP hS hl => ?_) hP hS hl
  obtain ⟨v6012, v6013, hl2, hP2, hD2, b6014, b6015⟩ : ∃ (v6012 : Int32) (v6013 : Int32), lv_has ls 5 [(4, .int v6013), (3, .int v6012), (0, .ref hs), (1, .ref (sd 1)), (2, .int x2)] ∧ va_P (dC, dI) vwCl [(hs, .inr (5, [.ref (sd 0), .ref (sd 1), .ref (sd 2), .ref (sd 3), .ref (sd 4), .ref (sd 5), .ref (sd 6), .int s_size, .int s_copier, .int s_copyLeft, .int s_tick, .int s_seed, .int s_dropped])), (sd 0, .inl (cyI, 6, .inl s_row)), (sd 1, .inl (cyI, 8, .inl s_has))] H ∧ va_D A [(hs, .inr (5, [.ref (sd 0), .ref (sd 1), .ref (sd 2), .ref (sd 3), .ref (sd 4), .ref (sd 5), .ref (sd 6), .int s_size, .int s_copier, .int s_copyLeft, .int s_tick, .int s_seed, .int s_dropped])), (sd 0, .inl (cyI, 6, .inl s_row)), (sd 1, .inl (cyI, 8, .inl s_has))] ∧ (0 ≤ v6013.toInt) ∧ (v6013.toInt ≤ 6) := ⟨(0 : Int32), (0 : Int32), hl, hP, hD, by first | assumption | omega, by first | assumption | omega⟩
  clear hP hl
  have hP := hP2
  have hD := hD2
  have hl := hl2
  clear hP2 hD2 hl2
  obtain ⟨n6016, hn6016⟩ : ∃ n : Nat, 6 - v6013.toInt < (n : Int) := ⟨(6 - v6013.toInt).toNat + 1, by omega⟩
  induction n6016 generalizing v6012 v6013 H locs ls with
  | zero => exfalso; omega
  | succ n6016 ih6017 =>
    refine lv_iload hx hb dX5_whoReaches_5 (lv_at hl 0 rfl) ?_
    refine lv_aload_n hx hb dX5_whoReaches_7 rfl (lv_at hl 2 rfl) ?_
    refine va_get (D := (dC, dI)) (ci := 5) (v := .int s_size) (C := RX5) (T := TX5) (N := 13) hx hb hts hi5 hown hK hP 0 rfl rfl 7 (by decide) (hts _ (ow_m (k := 0) rfl)) (fun _ h9 => h9) rfl dX5_whoReaches_8 ?_
    refine lv_icmp_ge (tgt := 45) hx hb dX5_whoReaches_11 (by decide) (fun c6018 => ?_) (fun c6018 => ?_)
    · have c6018 := i_le (a := s_size.toInt) (b := v6013.toInt) c6018 rfl rfl
      refine lv_iload_n hx hb dX5_whoReaches_45 rfl (lv_at hl 1 rfl) ?_
      exact W.iret (v := v6012) hx hb hr (fun t ht hW => ⟨⟨v6012, (), rfl, trivial, cE.of ht hP hD [0, 1, 2] (by decide) rfl⟩, hS.F ht⟩) hS.2.2 dX5_whoReaches_46
    · have c6018 := i_nle (a := s_size.toInt) (b := v6013.toInt) c6018 rfl rfl
      refine lv_aload_n hx hb dX5_whoReaches_14 rfl (lv_at hl 3 rfl) ?_
      refine lv_aload_n hx hb dX5_whoReaches_15 rfl (lv_at hl 2 rfl) ?_
      refine va_get (D := (dC, dI)) (ci := 5) (v := .ref (sd 0)) (C := RX5) (T := TX5) (N := 13) hx hb hts hi5 hown hK hP 0 rfl rfl 0 (by decide) (hts _ (ow_m (k := 1) rfl)) (fun _ h9 => h9) rfl dX5_whoReaches_16 ?_
      refine lv_iload hx hb dX5_whoReaches_19 (lv_at hl 0 rfl) ?_
      refine va_iald hx hb hK hP 1 1 rfl rfl (vp_i rfl (by omega) (by omega)) dX5_whoReaches_21 ?_
      refine lv_topi (fun z6019 ez6019 => ?_)
      have tz6019 := i0_s_row.at (x := v6013.toInt) ez6019 rfl (by omega) (by omega)
      refine va_iald hx hb hK hP 2 1 rfl rfl (vp_i rfl (by omega) (by omega)) dX5_whoReaches_22 ?_
      refine lv_topi (fun z6020 ez6020 => ?_)
      have tz6020 := i0_s_has.at (x := z6019.toInt) ez6020 rfl (by omega) (by omega)
      refine lv_iload_n hx hb dX5_whoReaches_23 rfl (lv_at hl 4 rfl) ?_
      refine lv_icmp_lt (tgt := 39) hx hb dX5_whoReaches_24 (by decide) (fun c6021 => ?_) (fun c6021 => ?_)
      · have c6021 := i_lt (a := z6020.toInt) (b := x2.toInt) c6021 rfl rfl
        obtain ⟨z6022, ez6022⟩ : ∃ y : Int32, y = v6013 + 1 := ⟨_, rfl⟩
        have tz6022 := ti_add (a := v6013.toInt) (b := 1) ez6022 rfl (by decide) (by omega) (by omega)
        refine lv_iinc (v := z6022) (lv' := [(4, .int z6022), (3, .int v6012), (0, .ref hs), (1, .ref (sd 1)), (2, .int x2)]) hx hb dX5_whoReaches_39 hl (k := 0) rfl (by rw [ez6022]; rfl) (by decide) rfl (fun ls hl => ?_)
        refine lv_goto (tgt := 5) hx hb dX5_whoReaches_42 (by decide) ?_
        have hl := lv_sub (l' := [(4, .int z6022), (3, .int v6012), (0, .ref hs), (1, .ref (sd 1)), (2, .int x2)]) hl [0, 1, 2, 3, 4] rfl
        apply ih6017 (v6012 := v6012) (v6013 := z6022) (H := H) (locs := locs) (ls := ls) <;> first | assumption | omega
      · have c6021 := i_nlt (a := z6020.toInt) (b := x2.toInt) c6021 rfl rfl
        refine lv_iload_n hx hb dX5_whoReaches_27 rfl (lv_at hl 1 rfl) ?_
        refine lv_iconst (v := 1) hx hb dX5_whoReaches_28 (by decide) ?_
        refine lv_aload_n hx hb dX5_whoReaches_29 rfl (lv_at hl 2 rfl) ?_
        refine va_get (D := (dC, dI)) (ci := 5) (v := .ref (sd 0)) (C := RX5) (T := TX5) (N := 13) hx hb hts hi5 hown hK hP 0 rfl rfl 0 (by decide) (hts _ (ow_m (k := 1) rfl)) (fun _ h9 => h9) rfl dX5_whoReaches_30 ?_
        refine lv_iload hx hb dX5_whoReaches_33 (lv_at hl 0 rfl) ?_
        refine va_iald hx hb hK hP 1 1 rfl rfl (vp_i rfl (by omega) (by omega)) dX5_whoReaches_35 ?_
        refine lv_topi (fun z6023 ez6023 => ?_)
        have tz6023 := i0_s_row.at (x := v6013.toInt) ez6023 rfl (by omega) (by omega)
        refine lv_ishl hx hb dX5_whoReaches_36 ?_
        refine lv_topi (fun z6024 ez6024 => ?_)
        refine lv_ior hx hb dX5_whoReaches_37 ?_
        refine lv_topi (fun z6025 ez6025 => ?_)
        refine lv_istore_n (lv' := [(3, .int z6025), (4, .int v6013), (0, .ref hs), (1, .ref (sd 1)), (2, .int x2)]) hx hb dX5_whoReaches_38 rfl hl (by decide) rfl (fun ls hl => ?_)
        obtain ⟨z6026, ez6026⟩ : ∃ y : Int32, y = v6013 + 1 := ⟨_, rfl⟩
        have tz6026 := ti_add (a := v6013.toInt) (b := 1) ez6026 rfl (by decide) (by omega) (by omega)
        refine lv_iinc (v := z6026) (lv' := [(4, .int z6026), (3, .int z6025), (0, .ref hs), (1, .ref (sd 1)), (2, .int x2)]) hx hb dX5_whoReaches_39 hl (k := 1) rfl (by rw [ez6026]; rfl) (by decide) rfl (fun ls hl => ?_)
        refine lv_goto (tgt := 5) hx hb dX5_whoReaches_42 (by decide) ?_
        have hl := lv_sub (l' := [(4, .int z6026), (3, .int z6025), (0, .ref hs), (1, .ref (sd 1)), (2, .int x2)]) hl [0, 1, 2, 3, 4] rfl
        apply ih6017 (v6012 := z6025) (v6013 := z6026) (H := H) (locs := locs) (ls := ls) <;> first | assumption | omega
def wo_k_St_whoReaches_clean : List Cond := [.fieldLink RX5 42 "ReplicaChain$State" "size" "I", .fieldLink RX5 9 "ReplicaChain$State" "row" "[I"]
def wq_k_St_whoReaches_clean : List Cond := .code yX5_whoReaches cX5_whoReaches 5 (some .int) :: (wo_k_St_whoReaches_clean ++ (wsX50 ++ []))
theorem gd_k_St_whoReaches_clean : Gd wq_k_St_whoReaches_clean := gd_c (gd_a (gd_o (by decide +kernel)) (gd_a gd_u gd_0))
abbrev wc_k_St_whoReaches_clean (cyB cyI cyJ cyZ cyO : ClassId) (hs : Nat) (sd : Nat → Nat) (s_row : Nat → Int32) (s_clean : Nat → Int32) (s_size : Int32) (s_copier : Int32) (s_copyLeft : Int32) (s_tick : Int32) (s_seed : Int32) (s_dropped : Int32) (x2 : Int32) : va_W := [(hs, .inr (5, [.ref (sd 0), .ref (sd 1), .ref (sd 2), .ref (sd 3), .ref (sd 4), .ref (sd 5), .ref (sd 6), .int s_size, .int s_copier, .int s_copyLeft, .int s_tick, .int s_seed, .int s_dropped])), (sd 0, .inl (cyI, 6, .inl s_row)), (sd 2, .inl (cyI, 8, .inl s_clean))]
set_option maxHeartbeats 4000000 in
set_option maxRecDepth 100000 in
theorem k_St_whoReaches_clean (l : Launch) (dC : Nat → ClassId) (dI : Nat → Nat → Nat) (cyB cyI cyJ cyZ cyO : ClassId) (hs : Nat) (sd : Nat → Nat) (s_row : Nat → Int32) (s_clean : Nat → Int32) (s_size : Int32) (s_copier : Int32) (s_copyLeft : Int32) (s_tick : Int32) (s_seed : Int32) (s_dropped : Int32) (x2 : Int32) (sz : Nat) (l_s_size : 0 ≤ s_size.toInt) (u_s_size : s_size.toInt ≤ 6) (l_s_copier : -1 ≤ s_copier.toInt) (u_s_copier : s_copier.toInt ≤ 7) (l_s_seed : 0 ≤ s_seed.toInt) (u_s_seed : s_seed.toInt ≤ 999) (i0_s_row : In2 s_row 0 6 (0) (7)) (i0_s_clean : In2 s_clean 0 8 (0) (40)) : Met l yX5_whoReaches wq_k_St_whoReaches_clean ({ frames := 0, cells := 0, slots := 0, locals := 0 }) (va_Pc [.ref hs, .ref (sd 2), .int x2] (cB (dC, dI) (kT cyB cyI cyJ cyZ cyO) (wc_k_St_whoReaches_clean cyB cyI cyJ cyZ cyO hs sd s_row s_clean s_size s_copier s_copyLeft s_tick s_seed s_dropped x2) sz)) (va_Qi (fun (r : Int32) (u : Unit) => True) (fun (u : Unit) t => cE (dC, dI) (va_A (wc_k_St_whoReaches_clean cyB cyI cyJ cyZ cyO hs sd s_row s_clean s_size s_copier s_copyLeft s_tick s_seed s_dropped x2) sz) ([(hs, .inr (5, [.ref (sd 0), .ref (sd 1), .ref (sd 2), .ref (sd 3), .ref (sd 4), .ref (sd 5), .ref (sd 6), .int s_size, .int s_copier, .int s_copyLeft, .int s_tick, .int s_seed, .int s_dropped])), (sd 0, .inl (cyI, 6, .inl s_row)), (sd 2, .inl (cyI, 8, .inl s_clean))]) t.heap) (va_A (wc_k_St_whoReaches_clean cyB cyI cyJ cyZ cyO hs sd s_row s_clean s_size s_copier s_copyLeft s_tick s_seed s_dropped x2) sz)) 0 0 (va_A (wc_k_St_whoReaches_clean cyB cyI cyJ cyZ cyO hs sd s_row s_clean s_size s_copier s_copyLeft s_tick s_seed s_dropped x2) sz) := by
  refine Met.ofW (cc := cX5_whoReaches) (maxL := 5) (ret := (some .int)) (by decide) rfl ?_
  intro p e s m args below meth c s₁ B hml hv
  obtain ⟨rfl, hsz, hP, hKN, hD0⟩ := hv
  have hx := B.exec
  have hb := B.bytes
  have hr := B.returns
  have hts := atoms_spec (ws := wq_k_St_whoReaches_clean) B.pre
  have hown : s.vm.findClass RX5 = some m.cls := findClass_of_methodNamed B.named
  have hlocks := B.notSynchronized
  have hK := hKN.1
  have hfix : CallFix p m c cX5_whoReaches 5 s [.ref hs, .ref (sd 2), .int x2].toArray wq_k_St_whoReaches_clean RX5 := ⟨hx, hb, hml, hown, hts⟩
  have hi5 : ∀ w ∈ wsX50, w ∈ wq_k_St_whoReaches_clean := (sb_c sb_l)
  subst hsz
  have hD := hD0.self (sz := s.heap.size)
  generalize hAe : va_A (wc_k_St_whoReaches_clean cyB cyI cyJ cyZ cyO hs sd s_row s_clean s_size s_copier s_copyLeft s_tick s_seed s_dropped x2) s.heap.size = A at hD ⊢
  have hA : ∀ q : Nat, s.heap.size ≤ q → A q := fun q h => by rw [← hAe]; exact Or.inr h
  have hS : va_S A s.heap s.heap [] := va_S.rf
  have hl := lv_entry ([.ref hs, .ref (sd 2), .int x2]) (n := 5) (Nat.le_of_ble_eq_true rfl)
  rw [lg_entry_eq]
  generalize (lg_sl ([.ref hs, .ref (sd 2), .int x2]) ++ List.replicate (5 - (lg_sl ([.ref hs, .ref (sd 2), .int x2])).length) Slot.unset).toArray = ls at hl ⊢
  have hl : lv_has ls 5 [(0, .ref hs), (1, .ref (sd 2)), (2, .int x2)] := hl
  have ck0 : (0 : Int32).toInt = 0 := by decide
  refine lv_iconst (v := 0) hx hb dX5_whoReaches_0 (by decide) ?_
  refine lv_istore_n (lv' := [(3, .int 0), (0, .ref hs), (1, .ref (sd 2)), (2, .int x2)]) hx hb dX5_whoReaches_1 rfl hl (by decide) rfl (fun ls hl => ?_)
  refine lv_iconst (v := 0) hx hb dX5_whoReaches_2 (by decide) ?_
  refine lv_istore (lv' := [(4, .int 0), (3, .int 0), (0, .ref hs), (1, .ref (sd 2)), (2, .int x2)]) hx hb dX5_whoReaches_3 hl (by decide) rfl (fun ls hl => ?_)
  refine w_gen (fun H locs ls hP hS hl => ?_) hP hS hl
  obtain ⟨v6197, v6198, hl2, hP2, hD2, b6199, b6200⟩ : ∃ (v6197 : Int32) (v6198 : Int32), lv_has ls 5 [(4, .int v6198), (3, .int v6197), (0, .ref hs), (1, .ref (sd 2)), (2, .int x2)] ∧ va_P (dC, dI) vwCl [(hs, .inr (5, [.ref (sd 0), .ref (sd 1), .ref (sd 2), .ref (sd 3), .ref (sd 4), .ref (sd 5), .ref (sd 6), .int s_size, .int s_copier, .int s_copyLeft, .int s_tick, .int s_seed, .int s_dropped])), (sd 0, .inl (cyI, 6, .inl s_row)), (sd 2, .inl (cyI, 8, .inl s_clean))] H ∧ va_D A [(hs, .inr (5, [.ref (sd 0), .ref (sd 1), .ref (sd 2), .ref (sd 3), .ref (sd 4), .ref (sd 5), .ref (sd 6), .int s_size, .int s_copier, .int s_copyLeft, .int s_tick, .int s_seed, .int s_dropped])), (sd 0, .inl (cyI, 6, .inl s_row)), (sd 2, .inl (cyI, 8, .inl s_clean))] ∧ (0 ≤ v6198.toInt) ∧ (v6198.toInt ≤ 6) := ⟨(0 : Int32), (0 : Int32), hl, hP, hD, by first | assumption | omega, by first | assumption | omega⟩
  clear hP hl
  have hP := hP2
  have hD := hD2
  have hl := hl2
  clear hP2 hD2 hl2
  obtain ⟨n6201, hn6201⟩ : ∃ n : Nat, 6 - v6198.toInt < (n : Int) := ⟨(6 - v6198.toInt).toNat + 1, by omega⟩
  induction n6201 generalizing v6197 v6198 H locs ls with
  | zero => exfalso; omega
  | succ n6201 ih6202 =>
    refine lv_iload hx hb dX5_whoReaches_5 (lv_at hl 0 rfl) ?_
    refine lv_aload_n hx hb dX5_whoReaches_7 rfl (lv_at hl 2 rfl) ?_
    refine va_get (D := (dC, dI)) (ci := 5) (v := .int s_size) (C := RX5) (T := TX5) (N := 13) hx hb hts hi5 hown hK hP 0 rfl rfl 7 (by decide) (hts _ (ow_m (k := 0) rfl)) (fun _ h9 => h9) rfl dX5_whoReaches_8 ?_
    refine lv_icmp_ge (tgt := 45) hx hb dX5_whoReaches_11 (by decide) (fun c6203 => ?_) (fun c6203 => ?_)
    · have c6203 := i_le (a := s_size.toInt) (b := v6198.toInt) c6203 rfl rfl
      refine lv_iload_n hx hb dX5_whoReaches_45 rfl (lv_at hl 1 rfl) ?_
      exact W.iret (v := v6197) hx hb hr (fun t ht hW => ⟨⟨v6197, (), rfl, trivial, cE.of ht hP hD [0, 1, 2] (by decide) rfl⟩, hS.F ht⟩) hS.2.2 dX5_whoReaches_46
    · have c6203 := i_nle (a := s_size.toInt) (b := v6198.toInt) c6203 rfl rfl
      refine lv_aload_n hx hb dX5_whoReaches_14 rfl (lv_at hl 3 rfl) ?_
      refine lv_aload_n hx hb dX5_whoReaches_15 rfl (lv_at hl 2 rfl) ?_
      refine va_get (D := (dC, dI)) (ci := 5) (v := .ref (sd 0)) (C := RX5) (T := TX5) (N := 13) hx hb hts hi5 hown hK hP 0 rfl rfl 0 (by decide) (hts _ (ow_m (k := 1) rfl)) (fun _ h9 => h9) rfl dX5_whoReaches_16 ?_
      refine lv_iload hx hb dX5_whoReaches_19 (lv_at hl 0 rfl) ?_
      refine va_iald hx hb hK hP 1 1 rfl rfl (vp_i rfl (by omega) (by omega)) dX5_whoReaches_21 ?_
      refine lv_topi (fun z6204 ez6204 => ?_)
      have tz6204 := i0_s_row.at (x := v6198.toInt) ez6204 rfl (by omega) (by omega)
      refine va_iald hx hb hK hP 2 1 rfl rfl (vp_i rfl (by omega) (by omega)) dX5_whoReaches_22 ?_
      refine lv_topi (fun z6205 ez6205 => ?_)
      have tz6205 := i0_s_clean.at (x := z6204.toInt) ez6205 rfl (by omega) (by omega)
      refine lv_iload_n hx hb dX5_whoReaches_23 rfl (lv_at hl 4 rfl) ?_
      refine lv_icmp_lt (tgt := 39) hx hb dX5_whoReaches_24 (by decide) (fun c6206 => ?_) (fun c6206 => ?_)
      · have c6206 := i_lt (a := z6205.toInt) (b := x2.toInt) c6206 rfl rfl
        obtain ⟨z6207, ez6207⟩ : ∃ y : Int32, y = v6198 + 1 := ⟨_, rfl⟩
        have tz6207 := ti_add (a := v6198.toInt) (b := 1) ez6207 rfl (by decide) (by omega) (by omega)
        refine lv_iinc (v := z6207) (lv' := [(4, .int z6207), (3, .int v6197), (0, .ref hs), (1, .ref (sd 2)), (2, .int x2)]) hx hb dX5_whoReaches_39 hl (k := 0) rfl (by rw [ez6207]; rfl) (by decide) rfl (fun ls hl => ?_)
        refine lv_goto (tgt := 5) hx hb dX5_whoReaches_42 (by decide) ?_
        have hl := lv_sub (l' := [(4, .int z6207), (3, .int v6197), (0, .ref hs), (1, .ref (sd 2)), (2, .int x2)]) hl [0, 1, 2, 3, 4] rfl
        apply ih6202 (v6197 := v6197) (v6198 := z6207) (H := H) (locs := locs) (ls := ls) <;> first | assumption | omega
      · have c6206 := i_nlt (a := z6205.toInt) (b := x2.toInt) c6206 rfl rfl
        refine lv_iload_n hx hb dX5_whoReaches_27 rfl (lv_at hl 1 rfl) ?_
        refine lv_iconst (v := 1) hx hb dX5_whoReaches_28 (by decide) ?_
        refine lv_aload_n hx hb dX5_whoReaches_29 rfl (lv_at hl 2 rfl) ?_
        refine va_get (D := (dC, dI)) (ci := 5) (v := .ref (sd 0)) (C := RX5) (T := TX5) (N := 13) hx hb hts hi5 hown hK hP 0 rfl rfl 0 (by decide) (hts _ (ow_m (k := 1) rfl)) (fun _ h9 => h9) rfl dX5_whoReaches_30 ?_
        refine lv_iload hx hb dX5_whoReaches_33 (lv_at hl 0 rfl) ?_
        refine va_iald hx hb hK hP 1 1 rfl rfl (vp_i rfl (by omega) (by omega)) dX5_whoReaches_35 ?_
        refine lv_topi (fun z6208 ez6208 => ?_)
        have tz6208 := i0_s_row.at (x := v6198.toInt) ez6208 rfl (by omega) (by omega)
        refine lv_ishl hx hb dX5_whoReaches_36 ?_
        refine lv_topi (fun z6209 ez6209 => ?_)
        refine lv_ior hx hb dX5_whoReaches_37 ?_
        refine lv_topi (fun z6210 ez6210 => ?_)
        refine lv_istore_n (lv' := [(3, .int z6210), (4, .int v6198), (0, .ref hs), (1, .ref (sd 2)), (2, .int x2)]) hx hb dX5_whoReaches_38 rfl hl (by decide) rfl (fun ls hl => ?_)
        obtain ⟨z6211, ez6211⟩ : ∃ y : Int32, y = v6198 + 1 := ⟨_, rfl⟩
        have tz6211 := ti_add (a := v6198.toInt) (b := 1) ez6211 rfl (by decide) (by omega) (by omega)
        refine lv_iinc (v := z6211) (lv' := [(4, .int z6211), (3, .int z6210), (0, .ref hs), (1, .ref (sd 2)), (2, .int x2)]) hx hb dX5_whoReaches_39 hl (k := 1) rfl (by rw [ez6211]; rfl) (by decide) rfl (fun ls hl => ?_)
        refine lv_goto (tgt := 5) hx hb dX5_whoReaches_42 (by decide) ?_
        have hl := lv_sub (l' := [(4, .int z6211), (3, .int z6210), (0, .ref hs), (1, .ref (sd 2)), (2, .int x2)]) hl [0, 1, 2, 3, 4] rfl
        apply ih6202 (v6197 := z6210) (v6198 := z6211) (H := H) (locs := locs) (ls := ls) <;> first | assumption | omega
def wo_k_St_latestUpTo : List Cond := [.methodLink RX5 76 Lib.Math.min.name, .static Lib.Math.min.name, .initialized "java/lang/Math", .code Lib.Math.min.name Lib.Math.min.code 2 (some .int), .fieldLink RX5 27 "ReplicaChain$State" "keys" "[I"]
def wq_k_St_latestUpTo : List Cond := .code yX5_latestUpTo cX5_latestUpTo 4 (some .int) :: (wo_k_St_latestUpTo ++ (wsX50 ++ []))
theorem gd_k_St_latestUpTo : Gd wq_k_St_latestUpTo := gd_c (gd_a (gd_o (by decide +kernel)) (gd_a gd_u gd_0))
abbrev wc_k_St_latestUpTo (cyB cyI cyJ cyZ cyO : ClassId) (hs : Nat) (sd : Nat → Nat) (s_ks : Nat → Int32) (s_size : Int32) (s_copier : Int32) (s_copyLeft : Int32) (s_tick : Int32) (s_seed : Int32) (s_dropped : Int32) (x1 : Int32) (x2 : Int32) : va_W := [(hs, .inr (5, [.ref (sd 0), .ref (sd 1), .ref (sd 2), .ref (sd 3), .ref (sd 4), .ref (sd 5), .ref (sd 6), .int s_size, .int s_copier, .int s_copyLeft, .int s_tick, .int s_seed, .int s_dropped])), (sd 5, .inl (cyI, 41, .inl s_ks))]
set_option maxHeartbeats 4000000 in
set_option maxRecDepth 100000 in
theorem k_St_latestUpTo (l : Launch) (dC : Nat → ClassId) (dI : Nat → Nat → Nat) (cyB cyI cyJ cyZ cyO : ClassId) (hs : Nat) (sd : Nat → Nat) (s_ks : Nat → Int32) (s_size : Int32) (s_copier : Int32) (s_copyLeft : Int32) (s_tick : Int32) (s_seed : Int32) (s_dropped : Int32) (x1 : Int32) (x2 : Int32) (sz : Nat) (l_s_size : 0 ≤ s_size.toInt) (u_s_size : s_size.toInt ≤ 6) (l_s_copier : -1 ≤ s_copier.toInt) (u_s_copier : s_copier.toInt ≤ 7) (l_s_seed : 0 ≤ s_seed.toInt) (u_s_seed : s_seed.toInt ≤ 999) : Met l yX5_latestUpTo wq_k_St_latestUpTo ({ frames := 1, cells := 0, slots := 0, locals := 24 }) (va_Pc [.ref hs, .int x1, .int x2] (cB (dC, dI) (kT cyB cyI cyJ cyZ cyO) (wc_k_St_latestUpTo cyB cyI cyJ cyZ cyO hs sd s_ks s_size s_copier s_copyLeft s_tick s_seed s_dropped x1 x2) sz)) (va_Qi (fun (r : Int32) (u : Unit) => (0 ≤ r.toInt) ∧ (r.toInt ≤ 40)) (fun (u : Unit) t => cE (dC, dI) (va_A (wc_k_St_latestUpTo cyB cyI cyJ cyZ cyO hs sd s_ks s_size s_copier s_copyLeft s_tick s_seed s_dropped x1 x2) sz) ([(hs, .inr (5, [.ref (sd 0), .ref (sd 1), .ref (sd 2), .ref (sd 3), .ref (sd 4), .ref (sd 5), .ref (sd 6), .int s_size, .int s_copier, .int s_copyLeft, .int s_tick, .int s_seed, .int s_dropped])), (sd 5, .inl (cyI, 41, .inl s_ks))]) t.heap) (va_A (wc_k_St_latestUpTo cyB cyI cyJ cyZ cyO hs sd s_ks s_size s_copier s_copyLeft s_tick s_seed s_dropped x1 x2) sz)) 0 0 (va_A (wc_k_St_latestUpTo cyB cyI cyJ cyZ cyO hs sd s_ks s_size s_copier s_copyLeft s_tick s_seed s_dropped x1 x2) sz) := by
  refine Met.ofW (cc := cX5_latestUpTo) (maxL := 4) (ret := (some .int)) (by decide) rfl ?_
  intro p e s m args below meth c s₁ B hml hv
  obtain ⟨rfl, hsz, hP, hKN, hD0⟩ := hv
  have hx := B.exec
  have hb := B.bytes
  have hr := B.returns
  have hts := atoms_spec (ws := wq_k_St_latestUpTo) B.pre
  have hown : s.vm.findClass RX5 = some m.cls := findClass_of_methodNamed B.named
  have hlocks := B.notSynchronized
  have hK := hKN.1
  have hfix : CallFix p m c cX5_latestUpTo 4 s [.ref hs, .int x1, .int x2].toArray wq_k_St_latestUpTo RX5 := ⟨hx, hb, hml, hown, hts⟩
  have hi5 : ∀ w ∈ wsX50, w ∈ wq_k_St_latestUpTo := (sb_c sb_l)
  subst hsz
  have hD := hD0.self (sz := s.heap.size)
  generalize hAe : va_A (wc_k_St_latestUpTo cyB cyI cyJ cyZ cyO hs sd s_ks s_size s_copier s_copyLeft s_tick s_seed s_dropped x1 x2) s.heap.size = A at hD ⊢
  have hA : ∀ q : Nat, s.heap.size ≤ q → A q := fun q h => by rw [← hAe]; exact Or.inr h
  have hS : va_S A s.heap s.heap [] := va_S.rf
  have hl := lv_entry ([.ref hs, .int x1, .int x2]) (n := 4) (Nat.le_of_ble_eq_true rfl)
  rw [lg_entry_eq]
  generalize (lg_sl ([.ref hs, .int x1, .int x2]) ++ List.replicate (4 - (lg_sl ([.ref hs, .int x1, .int x2])).length) Slot.unset).toArray = ls at hl ⊢
  have hl : lv_has ls 4 [(0, .ref hs), (1, .int x1), (2, .int x2)] := hl
  have ck0 : (0 : Int32).toInt = 0 := by decide
  refine lv_iload_n hx hb dX5_latestUpTo_0 rfl (lv_at hl 2 rfl) ?_
  refine lv_bipush (v := 40) hx hb dX5_latestUpTo_1 (by decide) ?_
  refine va_mmin hx hb (hml.trans hl.1.symm) hown (hts _ (ow_m (k := 0) rfl)) (hts _ (ow_m (k := 1) rfl)) (hts _ (ow_m (k := 2) rfl)) (hts _ (ow_m (k := 3) rfl)) (Nat.le_of_ble_eq_true rfl) (Nat.le_of_ble_eq_true rfl) (Nat.le_of_ble_eq_true rfl) (Nat.le_of_ble_eq_true rfl) dX5_latestUpTo_3 ?_
  refine lv_topi (fun z6244 ez6244 => ?_)
  have tz6244 := mm_min (a := x2.toInt) (b := 40) ez6244 rfl (by decide)
  refine lv_istore_n (lv' := [(3, .int z6244), (0, .ref hs), (1, .int x1), (2, .int x2)]) hx hb dX5_latestUpTo_6 rfl hl (by decide) rfl (fun ls hl => ?_)
  refine w_gen (fun H locs ls hP hS hl => ?_) hP hS hl
  obtain ⟨v6245, hl2, hP2, hD2, b6246⟩ : ∃ (v6245 : Int32), lv_has ls 4 [(3, .int v6245), (0, .ref hs), (1, .int x1), (2, .int x2)] ∧ va_P (dC, dI) vwCl [(hs, .inr (5, [.ref (sd 0), .ref (sd 1), .ref (sd 2), .ref (sd 3), .ref (sd 4), .ref (sd 5), .ref (sd 6), .int s_size, .int s_copier, .int s_copyLeft, .int s_tick, .int s_seed, .int s_dropped])), (sd 5, .inl (cyI, 41, .inl s_ks))] H ∧ va_D A [(hs, .inr (5, [.ref (sd 0), .ref (sd 1), .ref (sd 2), .ref (sd 3), .ref (sd 4), .ref (sd 5), .ref (sd 6), .int s_size, .int s_copier, .int s_copyLeft, .int s_tick, .int s_seed, .int s_dropped])), (sd 5, .inl (cyI, 41, .inl s_ks))] ∧ (v6245.toInt ≤ 40) := ⟨z6244, hl, hP, hD, by first | assumption | omega⟩
  clear hP hl
  have hP := hP2
  have hD := hD2
  have hl := hl2
  clear hP2 hD2 hl2
  obtain ⟨n6247, hn6247⟩ : ∃ n : Nat, max v6245.toInt 0 < (n : Int) := ⟨(max v6245.toInt 0).toNat + 1, by omega⟩
  induction n6247 generalizing v6245 H locs ls with
  | zero => exfalso; omega
  | succ n6247 ih6248 =>
    refine lv_iload_n hx hb dX5_latestUpTo_7 rfl (lv_at hl 0 rfl) ?_
    refine lv_if_le (tgt := 29) hx hb dX5_latestUpTo_8 (by decide) (fun c6249 => ?_) (fun c6249 => ?_)
    · have c6249 := i_le (a := v6245.toInt) (b := 0) c6249 rfl (by decide)
      refine lv_iconst (v := 0) hx hb dX5_latestUpTo_29 (by decide) ?_
      have w6250 : 0 ≤ (0 : Int32).toInt := by first | omega | assumption
      have w6251 : (0 : Int32).toInt ≤ 40 := by first | omega | assumption
      exact W.iret (v := 0) hx hb hr (fun t ht hW => ⟨⟨0, (), rfl, ⟨w6250, w6251⟩, cE.of ht hP hD [0, 1] (by decide) rfl⟩, hS.F ht⟩) hS.2.2 dX5_latestUpTo_30
    · have c6249 := i_nle (a := v6245.toInt) (b := 0) c6249 rfl (by decide)
      refine lv_aload_n hx hb dX5_latestUpTo_11 rfl (lv_at hl 1 rfl) ?_
      refine va_get (D := (dC, dI)) (ci := 5) (v := .ref (sd 5)) (C := RX5) (T := TX5) (N := 13) hx hb hts hi5 hown hK hP 0 rfl rfl 5 (by decide) (hts _ (ow_m (k := 4) rfl)) (fun _ h9 => h9) rfl dX5_latestUpTo_12 ?_
      refine lv_iload_n hx hb dX5_latestUpTo_15 rfl (lv_at hl 0 rfl) ?_
      refine va_iald hx hb hK hP 1 1 rfl rfl (vp_i rfl (by omega) (by omega)) dX5_latestUpTo_16 ?_
      refine lv_topi (fun z6252 ez6252 => ?_)
      refine lv_iload_n hx hb dX5_latestUpTo_17 rfl (lv_at hl 2 rfl) ?_
      refine lv_icmp_ne (tgt := 23) hx hb dX5_latestUpTo_18 (by decide) (fun c6253 => ?_) (fun c6253 => ?_)
      · have c6253 := i_ne (a := z6252.toInt) (b := x1.toInt) c6253 rfl rfl
        obtain ⟨z6254, ez6254⟩ : ∃ y : Int32, y = v6245 + (-1) := ⟨_, rfl⟩
        have tz6254 := ti_add (a := v6245.toInt) (b := (-1)) ez6254 rfl (by decide) (by omega) (by omega)
        refine lv_iinc (v := z6254) (lv' := [(3, .int z6254), (0, .ref hs), (1, .int x1), (2, .int x2)]) hx hb dX5_latestUpTo_23 hl (k := 0) rfl (by rw [ez6254]; rfl) (by decide) rfl (fun ls hl => ?_)
        refine lv_goto (tgt := 7) hx hb dX5_latestUpTo_26 (by decide) ?_
        have hl := lv_sub (l' := [(3, .int z6254), (0, .ref hs), (1, .int x1), (2, .int x2)]) hl [0, 1, 2, 3] rfl
        apply ih6248 (v6245 := z6254) (H := H) (locs := locs) (ls := ls) <;> first | assumption | omega
      · have c6253 := i_eq (a := z6252.toInt) (b := x1.toInt) c6253 rfl rfl
        refine lv_iload_n hx hb dX5_latestUpTo_21 rfl (lv_at hl 0 rfl) ?_
        have w6255 : 0 ≤ v6245.toInt := by first | omega | assumption
        have w6256 : v6245.toInt ≤ 40 := by first | omega | assumption
        exact W.iret (v := v6245) hx hb hr (fun t ht hW => ⟨⟨v6245, (), rfl, ⟨w6255, w6256⟩, cE.of ht hP hD [0, 1] (by decide) rfl⟩, hS.F ht⟩) hS.2.2 dX5_latestUpTo_22
def wo_k_St_valueUpTo : List Cond := [.methodLink RX5 81 yX5_latestUpTo, .instanceMethod yX5_latestUpTo, .selects RX5 yX5_latestUpTo yX5_latestUpTo, .initialized RX5, .fieldLink RX5 30 "ReplicaChain$State" "values" "[I"]
def wq_k_St_valueUpTo : List Cond := .code yX5_valueUpTo cX5_valueUpTo 4 (some .int) :: (wo_k_St_valueUpTo ++ (wq_k_St_latestUpTo ++ (wsX50 ++ [])))
theorem gd_k_St_valueUpTo : Gd wq_k_St_valueUpTo := gd_c (gd_a (gd_o (by decide +kernel)) (gd_a gd_k_St_latestUpTo (gd_a gd_u gd_0)))
abbrev wc_k_St_valueUpTo (cyB cyI cyJ cyZ cyO : ClassId) (hs : Nat) (sd : Nat → Nat) (s_ks : Nat → Int32) (s_vs : Nat → Int32) (s_size : Int32) (s_copier : Int32) (s_copyLeft : Int32) (s_tick : Int32) (s_seed : Int32) (s_dropped : Int32) (x1 : Int32) (x2 : Int32) : va_W := [(hs, .inr (5, [.ref (sd 0), .ref (sd 1), .ref (sd 2), .ref (sd 3), .ref (sd 4), .ref (sd 5), .ref (sd 6), .int s_size, .int s_copier, .int s_copyLeft, .int s_tick, .int s_seed, .int s_dropped])), (sd 5, .inl (cyI, 41, .inl s_ks)), (sd 6, .inl (cyI, 41, .inl s_vs))]
set_option maxHeartbeats 4000000 in
set_option maxRecDepth 100000 in
theorem k_St_valueUpTo (l : Launch) (dC : Nat → ClassId) (dI : Nat → Nat → Nat) (cyB cyI cyJ cyZ cyO : ClassId) (hs : Nat) (sd : Nat → Nat) (s_ks : Nat → Int32) (s_vs : Nat → Int32) (s_size : Int32) (s_copier : Int32) (s_copyLeft : Int32) (s_tick : Int32) (s_seed : Int32) (s_dropped : Int32) (x1 : Int32) (x2 : Int32) (sz : Nat) (l_s_size : 0 ≤ s_size.toInt) (u_s_size : s_size.toInt ≤ 6) (l_s_copier : -1 ≤ s_copier.toInt) (u_s_copier : s_copier.toInt ≤ 7) (l_s_seed : 0 ≤ s_seed.toInt) (u_s_seed : s_seed.toInt ≤ 999) : Met l yX5_valueUpTo wq_k_St_valueUpTo ({ frames := 2, cells := 0, slots := 0, locals := 47 }) (va_Pc [.ref hs, .int x1, .int x2] (cB (dC, dI) (kT cyB cyI cyJ cyZ cyO) (wc_k_St_valueUpTo cyB cyI cyJ cyZ cyO hs sd s_ks s_vs s_size s_copier s_copyLeft s_tick s_seed s_dropped x1 x2) sz)) (va_Qi (fun (r : Int32) (u : Unit) => True) (fun (u : Unit) t => cE (dC, dI) (va_A (wc_k_St_valueUpTo cyB cyI cyJ cyZ cyO hs sd s_ks s_vs s_size s_copier s_copyLeft s_tick s_seed s_dropped x1 x2) sz) ([(hs, .inr (5, [.ref (sd 0), .ref (sd 1), .ref (sd 2), .ref (sd 3), .ref (sd 4), .ref (sd 5), .ref (sd 6), .int s_size, .int s_copier, .int s_copyLeft, .int s_tick, .int s_seed, .int s_dropped])), (sd 5, .inl (cyI, 41, .inl s_ks)), (sd 6, .inl (cyI, 41, .inl s_vs))]) t.heap) (va_A (wc_k_St_valueUpTo cyB cyI cyJ cyZ cyO hs sd s_ks s_vs s_size s_copier s_copyLeft s_tick s_seed s_dropped x1 x2) sz)) 0 0 (va_A (wc_k_St_valueUpTo cyB cyI cyJ cyZ cyO hs sd s_ks s_vs s_size s_copier s_copyLeft s_tick s_seed s_dropped x1 x2) sz) := by
  refine Met.ofW (cc := cX5_valueUpTo) (maxL := 4) (ret := (some .int)) (by decide) rfl ?_
  intro p e s m args below meth c s₁ B hml hv
  obtain ⟨rfl, hsz, hP, hKN, hD0⟩ := hv
  have hx := B.exec
  have hb := B.bytes
  have hr := B.returns
  have hts := atoms_spec (ws := wq_k_St_valueUpTo) B.pre
  have hown : s.vm.findClass RX5 = some m.cls := findClass_of_methodNamed B.named
  have hlocks := B.notSynchronized
  have hK := hKN.1
  have hfix : CallFix p m c cX5_valueUpTo 4 s [.ref hs, .int x1, .int x2].toArray wq_k_St_valueUpTo RX5 := ⟨hx, hb, hml, hown, hts⟩
  have hi5 : ∀ w ∈ wsX50, w ∈ wq_k_St_valueUpTo := (sb_c (sb_r sb_l))
  subst hsz
  have hD := hD0.self (sz := s.heap.size)
  generalize hAe : va_A (wc_k_St_valueUpTo cyB cyI cyJ cyZ cyO hs sd s_ks s_vs s_size s_copier s_copyLeft s_tick s_seed s_dropped x1 x2) s.heap.size = A at hD ⊢
  have hA : ∀ q : Nat, s.heap.size ≤ q → A q := fun q h => by rw [← hAe]; exact Or.inr h
  have hS : va_S A s.heap s.heap [] := va_S.rf
  have hl := lv_entry ([.ref hs, .int x1, .int x2]) (n := 4) (Nat.le_of_ble_eq_true rfl)
  rw [lg_entry_eq]
  generalize (lg_sl ([.ref hs, .int x1, .int x2]) ++ List.replicate (4 - (lg_sl ([.ref hs, .int x1, .int x2])).length) Slot.unset).toArray = ls at hl ⊢
  have hl : lv_has ls 4 [(0, .ref hs), (1, .int x1), (2, .int x2)] := hl
  refine lv_aload_n hx hb dX5_valueUpTo_0 rfl (lv_at hl 0 rfl) ?_
  refine lv_iload_n hx hb dX5_valueUpTo_1 rfl (lv_at hl 1 rfl) ?_
  refine lv_iload_n hx hb dX5_valueUpTo_2 rfl (lv_at hl 2 rfl) ?_
  refine gf_i (wr := [(sd 6, .inl (cyI, 41, .inl s_vs))]) (va_runV (As := [.int x1, .int x2]) (rest := []) hfix (k_St_latestUpTo l dC dI cyB cyI cyJ cyZ cyO hs sd s_ks s_size s_copier s_copyLeft s_tick s_seed s_dropped x1 x2 _ (by first | omega | assumption) (by first | omega | assumption) (by first | omega | assumption) (by first | omega | assumption) (by first | omega | assumption) (by first | omega | assumption)) (cwV 2 hts (gi_V (ow_m (k := 0) rfl) (ow_m (k := 1) rfl) (ow_m (k := 2) rfl) (ow_m (k := 3) rfl) (sb_c sb_l) gd_k_St_latestUpTo) rfl rfl rfl (by decide +kernel) ⟨Nat.le_of_ble_eq_true rfl, Nat.le_of_ble_eq_true rfl⟩) (g_preV hKN hP hD [0, 1] rfl (by decide) 0 5 rfl rfl) rfl rfl hl.1 rfl (lv_room (Nat.le_of_ble_eq_true rfl)) dX5_valueUpTo_3 ⟨Nat.le_of_ble_eq_true rfl, Nat.le_of_ble_eq_true rfl⟩) hP hD hS hA [0, 1] [2] rfl rfl (by decide) (by decide) (fun r6269 u6270 H locs qu6270 hP hD hS => ?_)
  obtain ⟨b6271, b6272⟩ := qu6270
  have hP : va_P (dC, dI) vwCl [(sd 6, .inl (cyI, 41, .inl s_vs)), (hs, .inr (5, [.ref (sd 0), .ref (sd 1), .ref (sd 2), .ref (sd 3), .ref (sd 4), .ref (sd 5), .ref (sd 6), .int s_size, .int s_copier, .int s_copyLeft, .int s_tick, .int s_seed, .int s_dropped])), (sd 5, .inl (cyI, 41, .inl s_ks))] H := hP
  have hD : va_D A [(sd 6, .inl (cyI, 41, .inl s_vs)), (hs, .inr (5, [.ref (sd 0), .ref (sd 1), .ref (sd 2), .ref (sd 3), .ref (sd 4), .ref (sd 5), .ref (sd 6), .int s_size, .int s_copier, .int s_copyLeft, .int s_tick, .int s_seed, .int s_dropped])), (sd 5, .inl (cyI, 41, .inl s_ks))] := hD
  refine lv_istore_n (lv' := [(3, .int r6269), (0, .ref hs), (1, .int x1), (2, .int x2)]) hx hb dX5_valueUpTo_6 rfl hl (by decide) rfl (fun ls hl => ?_)
  refine lv_iload_n hx hb dX5_valueUpTo_7 rfl (lv_at hl 0 rfl) ?_
  refine lv_if_ne (tgt := 15) hx hb dX5_valueUpTo_8 (by decide) (fun c6273 => ?_) (fun c6273 => ?_)
  · have c6273 := i_ne (a := r6269.toInt) (b := 0) c6273 rfl (by decide)
    refine lv_aload_n hx hb dX5_valueUpTo_15 rfl (lv_at hl 1 rfl) ?_
    refine va_get (D := (dC, dI)) (ci := 5) (v := .ref (sd 6)) (C := RX5) (T := TX5) (N := 13) hx hb hts hi5 hown hK hP 1 rfl rfl 6 (by decide) (hts _ (ow_m (k := 4) rfl)) (fun _ h9 => h9) rfl dX5_valueUpTo_16 ?_
    refine lv_iload_n hx hb dX5_valueUpTo_19 rfl (lv_at hl 0 rfl) ?_
    refine va_iald hx hb hK hP 0 1 rfl rfl (vp_i rfl (by omega) (by omega)) dX5_valueUpTo_20 ?_
    refine lv_topi (fun z6274 ez6274 => ?_)
    exact W.iret (v := z6274) hx hb hr (fun t ht hW => ⟨⟨z6274, (), rfl, trivial, cE.of ht hP hD [1, 2, 0] (by decide) rfl⟩, hS.F ht⟩) hS.2.2 dX5_valueUpTo_21
  · have c6273 := i_eq (a := r6269.toInt) (b := 0) c6273 rfl (by decide)
    refine lv_iconst (v := (-1)) hx hb dX5_valueUpTo_11 (by decide) ?_
    refine lv_goto (tgt := 21) hx hb dX5_valueUpTo_12 (by decide) ?_
    exact W.iret (v := (-1)) hx hb hr (fun t ht hW => ⟨⟨(-1), (), rfl, trivial, cE.of ht hP hD [1, 2, 0] (by decide) rfl⟩, hS.F ht⟩) hS.2.2 dX5_valueUpTo_21
def wo_k_St_dirtyOf : List Cond := [.fieldLink RX5 18 "ReplicaChain$State" "clean" "[I", .fieldLink RX5 15 "ReplicaChain$State" "has" "[I", .fieldLink RX5 27 "ReplicaChain$State" "keys" "[I"]
def wq_k_St_dirtyOf : List Cond := .code yX5_dirtyOf cX5_dirtyOf 5 (some .int) :: (wo_k_St_dirtyOf ++ (wsX50 ++ []))
theorem gd_k_St_dirtyOf : Gd wq_k_St_dirtyOf := gd_c (gd_a (gd_o (by decide +kernel)) (gd_a gd_u gd_0))
abbrev wc_k_St_dirtyOf (cyB cyI cyJ cyZ cyO : ClassId) (hs : Nat) (sd : Nat → Nat) (s_has : Nat → Int32) (s_clean : Nat → Int32) (s_ks : Nat → Int32) (s_size : Int32) (s_copier : Int32) (s_copyLeft : Int32) (s_tick : Int32) (s_seed : Int32) (s_dropped : Int32) (x1 : Int32) (x2 : Int32) : va_W := [(hs, .inr (5, [.ref (sd 0), .ref (sd 1), .ref (sd 2), .ref (sd 3), .ref (sd 4), .ref (sd 5), .ref (sd 6), .int s_size, .int s_copier, .int s_copyLeft, .int s_tick, .int s_seed, .int s_dropped])), (sd 1, .inl (cyI, 8, .inl s_has)), (sd 2, .inl (cyI, 8, .inl s_clean)), (sd 5, .inl (cyI, 41, .inl s_ks))]
set_option maxHeartbeats 4000000 in
set_option maxRecDepth 100000 in
theorem k_St_dirtyOf (l : Launch) (dC : Nat → ClassId) (dI : Nat → Nat → Nat) (cyB cyI cyJ cyZ cyO : ClassId) (hs : Nat) (sd : Nat → Nat) (s_has : Nat → Int32) (s_clean : Nat → Int32) (s_ks : Nat → Int32) (s_size : Int32) (s_copier : Int32) (s_copyLeft : Int32) (s_tick : Int32) (s_seed : Int32) (s_dropped : Int32) (x1 : Int32) (x2 : Int32) (sz : Nat) (l_s_size : 0 ≤ s_size.toInt) (u_s_size : s_size.toInt ≤ 6) (l_s_copier : -1 ≤ s_copier.toInt) (u_s_copier : s_copier.toInt ≤ 7) (l_s_seed : 0 ≤ s_seed.toInt) (u_s_seed : s_seed.toInt ≤ 999) (i0_s_has : In2 s_has 0 8 (0) (40)) (i0_s_clean : In2 s_clean 0 8 (0) (40)) (l_x1 : 0 ≤ x1.toInt) (u_x1 : x1.toInt ≤ 7) : Met l yX5_dirtyOf wq_k_St_dirtyOf ({ frames := 0, cells := 0, slots := 0, locals := 0 }) (va_Pc [.ref hs, .int x1, .int x2] (cB (dC, dI) (kT cyB cyI cyJ cyZ cyO) (wc_k_St_dirtyOf cyB cyI cyJ cyZ cyO hs sd s_has s_clean s_ks s_size s_copier s_copyLeft s_tick s_seed s_dropped x1 x2) sz)) (va_Qi (fun (r : Int32) (u : Unit) => True) (fun (u : Unit) t => cE (dC, dI) (va_A (wc_k_St_dirtyOf cyB cyI cyJ cyZ cyO hs sd s_has s_clean s_ks s_size s_copier s_copyLeft s_tick s_seed s_dropped x1 x2) sz) ([(hs, .inr (5, [.ref (sd 0), .ref (sd 1), .ref (sd 2), .ref (sd 3), .ref (sd 4), .ref (sd 5), .ref (sd 6), .int s_size, .int s_copier, .int s_copyLeft, .int s_tick, .int s_seed, .int s_dropped])), (sd 1, .inl (cyI, 8, .inl s_has)), (sd 2, .inl (cyI, 8, .inl s_clean)), (sd 5, .inl (cyI, 41, .inl s_ks))]) t.heap) (va_A (wc_k_St_dirtyOf cyB cyI cyJ cyZ cyO hs sd s_has s_clean s_ks s_size s_copier s_copyLeft s_tick s_seed s_dropped x1 x2) sz)) 0 0 (va_A (wc_k_St_dirtyOf cyB cyI cyJ cyZ cyO hs sd s_has s_clean s_ks s_size s_copier s_copyLeft s_tick s_seed s_dropped x1 x2) sz) := by
  refine Met.ofW (cc := cX5_dirtyOf) (maxL := 5) (ret := (some .int)) (by decide) rfl ?_
  intro p e s m args below meth c s₁ B hml hv
  obtain ⟨rfl, hsz, hP, hKN, hD0⟩ := hv
  have hx := B.exec
  have hb := B.bytes
  have hr := B.returns
  have hts := atoms_spec (ws := wq_k_St_dirtyOf) B.pre
  have hown : s.vm.findClass RX5 = some m.cls := findClass_of_methodNamed B.named
  have hlocks := B.notSynchronized
  have hK := hKN.1
  have hfix : CallFix p m c cX5_dirtyOf 5 s [.ref hs, .int x1, .int x2].toArray wq_k_St_dirtyOf RX5 := ⟨hx, hb, hml, hown, hts⟩
  have hi5 : ∀ w ∈ wsX50, w ∈ wq_k_St_dirtyOf := (sb_c sb_l)
  subst hsz
  have hD := hD0.self (sz := s.heap.size)
  generalize hAe : va_A (wc_k_St_dirtyOf cyB cyI cyJ cyZ cyO hs sd s_has s_clean s_ks s_size s_copier s_copyLeft s_tick s_seed s_dropped x1 x2) s.heap.size = A at hD ⊢
  have hA : ∀ q : Nat, s.heap.size ≤ q → A q := fun q h => by rw [← hAe]; exact Or.inr h
  have hS : va_S A s.heap s.heap [] := va_S.rf
  have hl := lv_entry ([.ref hs, .int x1, .int x2]) (n := 5) (Nat.le_of_ble_eq_true rfl)
  rw [lg_entry_eq]
  generalize (lg_sl ([.ref hs, .int x1, .int x2]) ++ List.replicate (5 - (lg_sl ([.ref hs, .int x1, .int x2])).length) Slot.unset).toArray = ls at hl ⊢
  have hl : lv_has ls 5 [(0, .ref hs), (1, .int x1), (2, .int x2)] := hl
  have ck0 : (0 : Int32).toInt = 0 := by decide
  refine lv_iconst (v := 0) hx hb dX5_dirtyOf_0 (by decide) ?_
  refine lv_istore_n (lv' := [(3, .int 0), (0, .ref hs), (1, .int x1), (2, .int x2)]) hx hb dX5_dirtyOf_1 rfl hl (by decide) rfl (fun ls hl => ?_)
  refine lv_aload_n hx hb dX5_dirtyOf_2 rfl (lv_at hl 1 rfl) ?_
  refine va_get (D := (dC, dI)) (ci := 5) (v := .ref (sd 2)) (C := RX5) (T := TX5) (N := 13) hx hb hts hi5 hown hK hP 0 rfl rfl 2 (by decide) (hts _ (ow_m (k := 0) rfl)) (fun _ h9 => h9) rfl dX5_dirtyOf_3 ?_
  refine lv_iload_n hx hb dX5_dirtyOf_6 rfl (lv_at hl 2 rfl) ?_
  refine va_iald hx hb hK hP 2 1 rfl rfl (vp_i rfl (by omega) (by omega)) dX5_dirtyOf_7 ?_
  refine lv_topi (fun z8795 ez8795 => ?_)
  have tz8795 := i0_s_clean.at (x := x1.toInt) ez8795 rfl (by omega) (by omega)
  refine lv_iconst (v := 1) hx hb dX5_dirtyOf_8 (by decide) ?_
  refine lv_iadd hx hb dX5_dirtyOf_9 ?_
  refine lv_topi (fun z8796 ez8796 => ?_)
  have tz8796 := ti_add (a := z8795.toInt) (b := 1) ez8796 rfl (by decide) (by omega) (by omega)
  refine lv_istore (lv' := [(4, .int z8796), (3, .int 0), (0, .ref hs), (1, .int x1), (2, .int x2)]) hx hb dX5_dirtyOf_10 hl (by decide) rfl (fun ls hl => ?_)
  refine w_gen (fun H locs ls hP hS hl => ?_) hP hS hl
  obtain ⟨v8797, v8798, hl2, hP2, hD2, b8799, b8800⟩ : ∃ (v8797 : Int32) (v8798 : Int32), lv_has ls 5 [(4, .int v8798), (3, .int v8797), (0, .ref hs), (1, .int x1), (2, .int x2)] ∧ va_P (dC, dI) vwCl [(hs, .inr (5, [.ref (sd 0), .ref (sd 1), .ref (sd 2), .ref (sd 3), .ref (sd 4), .ref (sd 5), .ref (sd 6), .int s_size, .int s_copier, .int s_copyLeft, .int s_tick, .int s_seed, .int s_dropped])), (sd 1, .inl (cyI, 8, .inl s_has)), (sd 2, .inl (cyI, 8, .inl s_clean)), (sd 5, .inl (cyI, 41, .inl s_ks))] H ∧ va_D A [(hs, .inr (5, [.ref (sd 0), .ref (sd 1), .ref (sd 2), .ref (sd 3), .ref (sd 4), .ref (sd 5), .ref (sd 6), .int s_size, .int s_copier, .int s_copyLeft, .int s_tick, .int s_seed, .int s_dropped])), (sd 1, .inl (cyI, 8, .inl s_has)), (sd 2, .inl (cyI, 8, .inl s_clean)), (sd 5, .inl (cyI, 41, .inl s_ks))] ∧ (1 ≤ v8798.toInt) ∧ (v8798.toInt ≤ 41) := ⟨(0 : Int32), z8796, hl, hP, hD, by first | assumption | omega, by first | assumption | omega⟩
  clear hP hl
  have hP := hP2
  have hD := hD2
  have hl := hl2
  clear hP2 hD2 hl2
  obtain ⟨n8801, hn8801⟩ : ∃ n : Nat, 41 - v8798.toInt < (n : Int) := ⟨(41 - v8798.toInt).toNat + 1, by omega⟩
  induction n8801 generalizing v8797 v8798 H locs ls with
  | zero => exfalso; omega
  | succ n8801 ih8802 =>
    refine lv_iload hx hb dX5_dirtyOf_12 (lv_at hl 0 rfl) ?_
    refine lv_aload_n hx hb dX5_dirtyOf_14 rfl (lv_at hl 2 rfl) ?_
    refine va_get (D := (dC, dI)) (ci := 5) (v := .ref (sd 1)) (C := RX5) (T := TX5) (N := 13) hx hb hts hi5 hown hK hP 0 rfl rfl 1 (by decide) (hts _ (ow_m (k := 1) rfl)) (fun _ h9 => h9) rfl dX5_dirtyOf_15 ?_
    refine lv_iload_n hx hb dX5_dirtyOf_18 rfl (lv_at hl 3 rfl) ?_
    refine va_iald hx hb hK hP 1 1 rfl rfl (vp_i rfl (by omega) (by omega)) dX5_dirtyOf_19 ?_
    refine lv_topi (fun z8803 ez8803 => ?_)
    have tz8803 := i0_s_has.at (x := x1.toInt) ez8803 rfl (by omega) (by omega)
    refine lv_icmp_gt (tgt := 43) hx hb dX5_dirtyOf_20 (by decide) (fun c8804 => ?_) (fun c8804 => ?_)
    · have c8804 := i_lt (a := z8803.toInt) (b := v8798.toInt) c8804 rfl rfl
      refine lv_iload_n hx hb dX5_dirtyOf_43 rfl (lv_at hl 1 rfl) ?_
      exact W.iret (v := v8797) hx hb hr (fun t ht hW => ⟨⟨v8797, (), rfl, trivial, cE.of ht hP hD [0, 1, 2, 3] (by decide) rfl⟩, hS.F ht⟩) hS.2.2 dX5_dirtyOf_44
    · have c8804 := i_nlt (a := z8803.toInt) (b := v8798.toInt) c8804 rfl rfl
      refine lv_aload_n hx hb dX5_dirtyOf_23 rfl (lv_at hl 2 rfl) ?_
      refine va_get (D := (dC, dI)) (ci := 5) (v := .ref (sd 5)) (C := RX5) (T := TX5) (N := 13) hx hb hts hi5 hown hK hP 0 rfl rfl 5 (by decide) (hts _ (ow_m (k := 2) rfl)) (fun _ h9 => h9) rfl dX5_dirtyOf_24 ?_
      refine lv_iload hx hb dX5_dirtyOf_27 (lv_at hl 0 rfl) ?_
      refine va_iald hx hb hK hP 3 1 rfl rfl (vp_i rfl (by omega) (by omega)) dX5_dirtyOf_29 ?_
      refine lv_topi (fun z8805 ez8805 => ?_)
      refine lv_iload_n hx hb dX5_dirtyOf_30 rfl (lv_at hl 4 rfl) ?_
      refine lv_icmp_ne (tgt := 37) hx hb dX5_dirtyOf_31 (by decide) (fun c8806 => ?_) (fun c8806 => ?_)
      · have c8806 := i_ne (a := z8805.toInt) (b := x2.toInt) c8806 rfl rfl
        obtain ⟨z8807, ez8807⟩ : ∃ y : Int32, y = v8798 + 1 := ⟨_, rfl⟩
        have tz8807 := ti_add (a := v8798.toInt) (b := 1) ez8807 rfl (by decide) (by omega) (by omega)
        refine lv_iinc (v := z8807) (lv' := [(4, .int z8807), (3, .int v8797), (0, .ref hs), (1, .int x1), (2, .int x2)]) hx hb dX5_dirtyOf_37 hl (k := 0) rfl (by rw [ez8807]; rfl) (by decide) rfl (fun ls hl => ?_)
        refine lv_goto (tgt := 12) hx hb dX5_dirtyOf_40 (by decide) ?_
        have hl := lv_sub (l' := [(4, .int z8807), (3, .int v8797), (0, .ref hs), (1, .int x1), (2, .int x2)]) hl [0, 1, 2, 3, 4] rfl
        apply ih8802 (v8797 := v8797) (v8798 := z8807) (H := H) (locs := locs) (ls := ls) <;> first | assumption | omega
      · have c8806 := i_eq (a := z8805.toInt) (b := x2.toInt) c8806 rfl rfl
        obtain ⟨z8808, ez8808⟩ : ∃ y : Int32, y = v8797 + 1 := ⟨_, rfl⟩
        refine lv_iinc (v := z8808) (lv' := [(3, .int z8808), (4, .int v8798), (0, .ref hs), (1, .int x1), (2, .int x2)]) hx hb dX5_dirtyOf_34 hl (k := 1) rfl (by rw [ez8808]; rfl) (by decide) rfl (fun ls hl => ?_)
        obtain ⟨z8809, ez8809⟩ : ∃ y : Int32, y = v8798 + 1 := ⟨_, rfl⟩
        have tz8809 := ti_add (a := v8798.toInt) (b := 1) ez8809 rfl (by decide) (by omega) (by omega)
        refine lv_iinc (v := z8809) (lv' := [(4, .int z8809), (3, .int z8808), (0, .ref hs), (1, .int x1), (2, .int x2)]) hx hb dX5_dirtyOf_37 hl (k := 1) rfl (by rw [ez8809]; rfl) (by decide) rfl (fun ls hl => ?_)
        refine lv_goto (tgt := 12) hx hb dX5_dirtyOf_40 (by decide) ?_
        have hl := lv_sub (l' := [(4, .int z8809), (3, .int z8808), (0, .ref hs), (1, .int x1), (2, .int x2)]) hl [0, 1, 2, 3, 4] rfl
        apply ih8802 (v8797 := z8808) (v8798 := z8809) (H := H) (locs := locs) (ls := ls) <;> first | assumption | omega
def wo_k_St_versionsOf : List Cond := [.fieldLink RX5 18 "ReplicaChain$State" "clean" "[I", .methodLink RX5 81 yX5_latestUpTo, .instanceMethod yX5_latestUpTo, .selects RX5 yX5_latestUpTo yX5_latestUpTo, .initialized RX5, .methodLink RX5 84 yX5_dirtyOf, .instanceMethod yX5_dirtyOf, .selects RX5 yX5_dirtyOf yX5_dirtyOf]
def wq_k_St_versionsOf : List Cond := .code yX5_versionsOf cX5_versionsOf 3 (some .int) :: (wo_k_St_versionsOf ++ (wq_k_St_latestUpTo ++ (wq_k_St_dirtyOf ++ (wsX50 ++ []))))
theorem gd_k_St_versionsOf : Gd wq_k_St_versionsOf := gd_c (gd_a (gd_o (by decide +kernel)) (gd_a gd_k_St_latestUpTo (gd_a gd_k_St_dirtyOf (gd_a gd_u gd_0))))
abbrev wc_k_St_versionsOf (cyB cyI cyJ cyZ cyO : ClassId) (hs : Nat) (sd : Nat → Nat) (s_has : Nat → Int32) (s_clean : Nat → Int32) (s_ks : Nat → Int32) (s_size : Int32) (s_copier : Int32) (s_copyLeft : Int32) (s_tick : Int32) (s_seed : Int32) (s_dropped : Int32) (x1 : Int32) (x2 : Int32) : va_W := [(hs, .inr (5, [.ref (sd 0), .ref (sd 1), .ref (sd 2), .ref (sd 3), .ref (sd 4), .ref (sd 5), .ref (sd 6), .int s_size, .int s_copier, .int s_copyLeft, .int s_tick, .int s_seed, .int s_dropped])), (sd 1, .inl (cyI, 8, .inl s_has)), (sd 2, .inl (cyI, 8, .inl s_clean)), (sd 5, .inl (cyI, 41, .inl s_ks))]
set_option maxHeartbeats 4000000 in
set_option maxRecDepth 100000 in
theorem k_St_versionsOf (l : Launch) (dC : Nat → ClassId) (dI : Nat → Nat → Nat) (cyB cyI cyJ cyZ cyO : ClassId) (hs : Nat) (sd : Nat → Nat) (s_has : Nat → Int32) (s_clean : Nat → Int32) (s_ks : Nat → Int32) (s_size : Int32) (s_copier : Int32) (s_copyLeft : Int32) (s_tick : Int32) (s_seed : Int32) (s_dropped : Int32) (x1 : Int32) (x2 : Int32) (sz : Nat) (l_s_size : 0 ≤ s_size.toInt) (u_s_size : s_size.toInt ≤ 6) (l_s_copier : -1 ≤ s_copier.toInt) (u_s_copier : s_copier.toInt ≤ 7) (l_s_seed : 0 ≤ s_seed.toInt) (u_s_seed : s_seed.toInt ≤ 999) (i0_s_has : In2 s_has 0 8 (0) (40)) (i0_s_clean : In2 s_clean 0 8 (0) (40)) (l_x1 : 0 ≤ x1.toInt) (u_x1 : x1.toInt ≤ 7) : Met l yX5_versionsOf wq_k_St_versionsOf ({ frames := 2, cells := 0, slots := 0, locals := 47 }) (va_Pc [.ref hs, .int x1, .int x2] (cB (dC, dI) (kT cyB cyI cyJ cyZ cyO) (wc_k_St_versionsOf cyB cyI cyJ cyZ cyO hs sd s_has s_clean s_ks s_size s_copier s_copyLeft s_tick s_seed s_dropped x1 x2) sz)) (va_Qi (fun (r : Int32) (u : Unit) => True) (fun (u : Unit) t => cE (dC, dI) (va_A (wc_k_St_versionsOf cyB cyI cyJ cyZ cyO hs sd s_has s_clean s_ks s_size s_copier s_copyLeft s_tick s_seed s_dropped x1 x2) sz) ([(hs, .inr (5, [.ref (sd 0), .ref (sd 1), .ref (sd 2), .ref (sd 3), .ref (sd 4), .ref (sd 5), .ref (sd 6), .int s_size, .int s_copier, .int s_copyLeft, .int s_tick, .int s_seed, .int s_dropped])), (sd 1, .inl (cyI, 8, .inl s_has)), (sd 2, .inl (cyI, 8, .inl s_clean)), (sd 5, .inl (cyI, 41, .inl s_ks))]) t.heap) (va_A (wc_k_St_versionsOf cyB cyI cyJ cyZ cyO hs sd s_has s_clean s_ks s_size s_copier s_copyLeft s_tick s_seed s_dropped x1 x2) sz)) 0 0 (va_A (wc_k_St_versionsOf cyB cyI cyJ cyZ cyO hs sd s_has s_clean s_ks s_size s_copier s_copyLeft s_tick s_seed s_dropped x1 x2) sz) := by
  refine Met.ofW (cc := cX5_versionsOf) (maxL := 3) (ret := (some .int)) (by decide) rfl ?_
  intro p e s m args below meth c s₁ B hml hv
  obtain ⟨rfl, hsz, hP, hKN, hD0⟩ := hv
  have hx := B.exec
  have hb := B.bytes
  have hr := B.returns
  have hts := atoms_spec (ws := wq_k_St_versionsOf) B.pre
  have hown : s.vm.findClass RX5 = some m.cls := findClass_of_methodNamed B.named
  have hlocks := B.notSynchronized
  have hK := hKN.1
  have hfix : CallFix p m c cX5_versionsOf 3 s [.ref hs, .int x1, .int x2].toArray wq_k_St_versionsOf RX5 := ⟨hx, hb, hml, hown, hts⟩
  have hi5 : ∀ w ∈ wsX50, w ∈ wq_k_St_versionsOf := (sb_c (sb_r (sb_r sb_l)))
  subst hsz
  have hD := hD0.self (sz := s.heap.size)
  generalize hAe : va_A (wc_k_St_versionsOf cyB cyI cyJ cyZ cyO hs sd s_has s_clean s_ks s_size s_copier s_copyLeft s_tick s_seed s_dropped x1 x2) s.heap.size = A at hD ⊢
  have hA : ∀ q : Nat, s.heap.size ≤ q → A q := fun q h => by rw [← hAe]; exact Or.inr h
  have hS : va_S A s.heap s.heap [] := va_S.rf
  have hl := lv_entry ([.ref hs, .int x1, .int x2]) (n := 3) (Nat.le_of_ble_eq_true rfl)
  rw [lg_entry_eq]
  generalize (lg_sl ([.ref hs, .int x1, .int x2]) ++ List.replicate (3 - (lg_sl ([.ref hs, .int x1, .int x2])).length) Slot.unset).toArray = ls at hl ⊢
  have hl : lv_has ls 3 [(0, .ref hs), (1, .int x1), (2, .int x2)] := hl
  refine lv_aload_n hx hb dX5_versionsOf_0 rfl (lv_at hl 0 rfl) ?_
  refine lv_iload_n hx hb dX5_versionsOf_1 rfl (lv_at hl 2 rfl) ?_
  refine lv_aload_n hx hb dX5_versionsOf_2 rfl (lv_at hl 0 rfl) ?_
  refine va_get (D := (dC, dI)) (ci := 5) (v := .ref (sd 2)) (C := RX5) (T := TX5) (N := 13) hx hb hts hi5 hown hK hP 0 rfl rfl 2 (by decide) (hts _ (ow_m (k := 0) rfl)) (fun _ h9 => h9) rfl dX5_versionsOf_3 ?_
  refine lv_iload_n hx hb dX5_versionsOf_6 rfl (lv_at hl 1 rfl) ?_
  refine va_iald hx hb hK hP 2 1 rfl rfl (vp_i rfl (by omega) (by omega)) dX5_versionsOf_7 ?_
  refine lv_topi (fun z8834 ez8834 => ?_)
  have tz8834 := i0_s_clean.at (x := x1.toInt) ez8834 rfl (by omega) (by omega)
  refine gf_i (wr := [(sd 1, .inl (cyI, 8, .inl s_has)), (sd 2, .inl (cyI, 8, .inl s_clean))]) (va_runV (As := [.int x2, .int z8834]) (rest := []) hfix (k_St_latestUpTo l dC dI cyB cyI cyJ cyZ cyO hs sd s_ks s_size s_copier s_copyLeft s_tick s_seed s_dropped x2 z8834 _ (by first | omega | assumption) (by first | omega | assumption) (by first | omega | assumption) (by first | omega | assumption) (by first | omega | assumption) (by first | omega | assumption)) (cwV 2 hts (gi_V (ow_m (k := 1) rfl) (ow_m (k := 2) rfl) (ow_m (k := 3) rfl) (ow_m (k := 4) rfl) (sb_c sb_l) gd_k_St_latestUpTo) rfl rfl rfl (by decide +kernel) ⟨Nat.le_of_ble_eq_true rfl, Nat.le_of_ble_eq_true rfl⟩) (g_preV hKN hP hD [0, 3] rfl (by decide) 0 5 rfl rfl) rfl rfl hl.1 rfl (lv_room (Nat.le_of_ble_eq_true rfl)) dX5_versionsOf_8 ⟨Nat.le_of_ble_eq_true rfl, Nat.le_of_ble_eq_true rfl⟩) hP hD hS hA [0, 3] [1, 2] rfl rfl (by decide) (by decide) (fun r8835 u8836 H locs qu8836 hP hD hS => ?_)
  obtain ⟨b8837, b8838⟩ := qu8836
  have hP : va_P (dC, dI) vwCl [(sd 1, .inl (cyI, 8, .inl s_has)), (sd 2, .inl (cyI, 8, .inl s_clean)), (hs, .inr (5, [.ref (sd 0), .ref (sd 1), .ref (sd 2), .ref (sd 3), .ref (sd 4), .ref (sd 5), .ref (sd 6), .int s_size, .int s_copier, .int s_copyLeft, .int s_tick, .int s_seed, .int s_dropped])), (sd 5, .inl (cyI, 41, .inl s_ks))] H := hP
  have hD : va_D A [(sd 1, .inl (cyI, 8, .inl s_has)), (sd 2, .inl (cyI, 8, .inl s_clean)), (hs, .inr (5, [.ref (sd 0), .ref (sd 1), .ref (sd 2), .ref (sd 3), .ref (sd 4), .ref (sd 5), .ref (sd 6), .int s_size, .int s_copier, .int s_copyLeft, .int s_tick, .int s_seed, .int s_dropped])), (sd 5, .inl (cyI, 41, .inl s_ks))] := hD
  refine lv_if_le (tgt := 18) hx hb dX5_versionsOf_11 (by decide) (fun c8839 => ?_) (fun c8839 => ?_)
  · have c8839 := i_le (a := r8835.toInt) (b := 0) c8839 rfl (by decide)
    refine lv_iconst (v := 0) hx hb dX5_versionsOf_18 (by decide) ?_
    refine lv_aload_n hx hb dX5_versionsOf_19 rfl (lv_at hl 0 rfl) ?_
    refine lv_iload_n hx hb dX5_versionsOf_20 rfl (lv_at hl 1 rfl) ?_
    refine lv_iload_n hx hb dX5_versionsOf_21 rfl (lv_at hl 2 rfl) ?_
    refine gf_i (wr := []) (va_runV (As := [.int x1, .int x2]) (rest := [.int 0]) hfix (k_St_dirtyOf l dC dI cyB cyI cyJ cyZ cyO hs sd s_has s_clean s_ks s_size s_copier s_copyLeft s_tick s_seed s_dropped x1 x2 _ (by first | omega | assumption) (by first | omega | assumption) (by first | omega | assumption) (by first | omega | assumption) (by first | omega | assumption) (by first | omega | assumption) i0_s_has i0_s_clean (by first | omega | assumption) (by first | omega | assumption)) (cwV 2 hts (gi_V (ow_m (k := 5) rfl) (ow_m (k := 6) rfl) (ow_m (k := 7) rfl) (ow_m (k := 4) rfl) (sb_c (sb_r sb_l)) gd_k_St_dirtyOf) rfl rfl rfl (by decide +kernel) ⟨Nat.le_of_ble_eq_true rfl, Nat.le_of_ble_eq_true rfl⟩) (g_preV hKN hP hD [2, 0, 1, 3] rfl (by decide) 0 5 rfl rfl) rfl rfl hl.1 rfl (lv_room (Nat.le_of_ble_eq_true rfl)) dX5_versionsOf_22 ⟨Nat.le_of_ble_eq_true rfl, Nat.le_of_ble_eq_true rfl⟩) hP hD hS hA [2, 0, 1, 3] [] rfl rfl (by decide) (by decide) (fun r8840 u8841 H locs qu8841 hP hD hS => ?_)
    have hP : va_P (dC, dI) vwCl [(hs, .inr (5, [.ref (sd 0), .ref (sd 1), .ref (sd 2), .ref (sd 3), .ref (sd 4), .ref (sd 5), .ref (sd 6), .int s_size, .int s_copier, .int s_copyLeft, .int s_tick, .int s_seed, .int s_dropped])), (sd 1, .inl (cyI, 8, .inl s_has)), (sd 2, .inl (cyI, 8, .inl s_clean)), (sd 5, .inl (cyI, 41, .inl s_ks))] H := hP
    have hD : va_D A [(hs, .inr (5, [.ref (sd 0), .ref (sd 1), .ref (sd 2), .ref (sd 3), .ref (sd 4), .ref (sd 5), .ref (sd 6), .int s_size, .int s_copier, .int s_copyLeft, .int s_tick, .int s_seed, .int s_dropped])), (sd 1, .inl (cyI, 8, .inl s_has)), (sd 2, .inl (cyI, 8, .inl s_clean)), (sd 5, .inl (cyI, 41, .inl s_ks))] := hD
    refine lv_iadd hx hb dX5_versionsOf_25 ?_
    refine lv_topi (fun z8842 ez8842 => ?_)
    exact W.iret (v := z8842) hx hb hr (fun t ht hW => ⟨⟨z8842, (), rfl, trivial, cE.of ht hP hD [0, 1, 2, 3] (by decide) rfl⟩, hS.F ht⟩) hS.2.2 dX5_versionsOf_26
  · have c8839 := i_nle (a := r8835.toInt) (b := 0) c8839 rfl (by decide)
    refine lv_iconst (v := 1) hx hb dX5_versionsOf_14 (by decide) ?_
    refine lv_goto (tgt := 19) hx hb dX5_versionsOf_15 (by decide) ?_
    refine lv_aload_n hx hb dX5_versionsOf_19 rfl (lv_at hl 0 rfl) ?_
    refine lv_iload_n hx hb dX5_versionsOf_20 rfl (lv_at hl 1 rfl) ?_
    refine lv_iload_n hx hb dX5_versionsOf_21 rfl (lv_at hl 2 rfl) ?_
    refine gf_i (wr := []) (va_runV (As := [.int x1, .int x2]) (rest := [.int 1]) hfix (k_St_dirtyOf l dC dI cyB cyI cyJ cyZ cyO hs sd s_has s_clean s_ks s_size s_copier s_copyLeft s_tick s_seed s_dropped x1 x2 _ (by first | omega | assumption) (by first | omega | assumption) (by first | omega | assumption) (by first | omega | assumption) (by first | omega | assumption) (by first | omega | assumption) i0_s_has i0_s_clean (by first | omega | assumption) (by first | omega | assumption)) (cwV 2 hts (gi_V (ow_m (k := 5) rfl) (ow_m (k := 6) rfl) (ow_m (k := 7) rfl) (ow_m (k := 4) rfl) (sb_c (sb_r sb_l)) gd_k_St_dirtyOf) rfl rfl rfl (by decide +kernel) ⟨Nat.le_of_ble_eq_true rfl, Nat.le_of_ble_eq_true rfl⟩) (g_preV hKN hP hD [2, 0, 1, 3] rfl (by decide) 0 5 rfl rfl) rfl rfl hl.1 rfl (lv_room (Nat.le_of_ble_eq_true rfl)) dX5_versionsOf_22 ⟨Nat.le_of_ble_eq_true rfl, Nat.le_of_ble_eq_true rfl⟩) hP hD hS hA [2, 0, 1, 3] [] rfl rfl (by decide) (by decide) (fun r8843 u8844 H locs qu8844 hP hD hS => ?_)
    have hP : va_P (dC, dI) vwCl [(hs, .inr (5, [.ref (sd 0), .ref (sd 1), .ref (sd 2), .ref (sd 3), .ref (sd 4), .ref (sd 5), .ref (sd 6), .int s_size, .int s_copier, .int s_copyLeft, .int s_tick, .int s_seed, .int s_dropped])), (sd 1, .inl (cyI, 8, .inl s_has)), (sd 2, .inl (cyI, 8, .inl s_clean)), (sd 5, .inl (cyI, 41, .inl s_ks))] H := hP
    have hD : va_D A [(hs, .inr (5, [.ref (sd 0), .ref (sd 1), .ref (sd 2), .ref (sd 3), .ref (sd 4), .ref (sd 5), .ref (sd 6), .int s_size, .int s_copier, .int s_copyLeft, .int s_tick, .int s_seed, .int s_dropped])), (sd 1, .inl (cyI, 8, .inl s_has)), (sd 2, .inl (cyI, 8, .inl s_clean)), (sd 5, .inl (cyI, 41, .inl s_ks))] := hD
    refine lv_iadd hx hb dX5_versionsOf_25 ?_
    refine lv_topi (fun z8845 ez8845 => ?_)
    exact W.iret (v := z8845) hx hb hr (fun t ht hW => ⟨⟨z8845, (), rfl, trivial, cE.of ht hP hD [0, 1, 2, 3] (by decide) rfl⟩, hS.F ht⟩) hS.2.2 dX5_versionsOf_26
def wo_k_St_droppedWithout : List Cond := [.fieldLink RX5 42 "ReplicaChain$State" "size" "I", .methodLink RX5 90 yX5_headHas, .instanceMethod yX5_headHas, .selects RX5 yX5_headHas yX5_headHas, .initialized RX5, .fieldLink RX5 9 "ReplicaChain$State" "row" "[I", .fieldLink RX5 15 "ReplicaChain$State" "has" "[I", .methodLink RX5 87 Lib.Math.max.name, .static Lib.Math.max.name, .initialized "java/lang/Math", .code Lib.Math.max.name Lib.Math.max.code 2 (some .int)]
def wq_k_St_droppedWithout : List Cond := .code yX5_droppedWithout cX5_droppedWithout 4 (some .int) :: (wo_k_St_droppedWithout ++ (wq_k_St_headHas ++ (wsX50 ++ [])))
theorem gd_k_St_droppedWithout : Gd wq_k_St_droppedWithout := gd_c (gd_a (gd_o (by decide +kernel)) (gd_a gd_k_St_headHas (gd_a gd_u gd_0)))
abbrev wc_k_St_droppedWithout (cyB cyI cyJ cyZ cyO : ClassId) (hs : Nat) (sd : Nat → Nat) (s_row : Nat → Int32) (s_has : Nat → Int32) (s_size : Int32) (s_copier : Int32) (s_copyLeft : Int32) (s_tick : Int32) (s_seed : Int32) (s_dropped : Int32) (x1 : Int32) : va_W := [(hs, .inr (5, [.ref (sd 0), .ref (sd 1), .ref (sd 2), .ref (sd 3), .ref (sd 4), .ref (sd 5), .ref (sd 6), .int s_size, .int s_copier, .int s_copyLeft, .int s_tick, .int s_seed, .int s_dropped])), (sd 0, .inl (cyI, 6, .inl s_row)), (sd 1, .inl (cyI, 8, .inl s_has))]
set_option maxHeartbeats 4000000 in
set_option maxRecDepth 100000 in
theorem k_St_droppedWithout (l : Launch) (dC : Nat → ClassId) (dI : Nat → Nat → Nat) (cyB cyI cyJ cyZ cyO : ClassId) (hs : Nat) (sd : Nat → Nat) (s_row : Nat → Int32) (s_has : Nat → Int32) (s_size : Int32) (s_copier : Int32) (s_copyLeft : Int32) (s_tick : Int32) (s_seed : Int32) (s_dropped : Int32) (x1 : Int32) (sz : Nat) (l_s_size : 0 ≤ s_size.toInt) (u_s_size : s_size.toInt ≤ 6) (l_s_copier : -1 ≤ s_copier.toInt) (u_s_copier : s_copier.toInt ≤ 7) (l_s_seed : 0 ≤ s_seed.toInt) (u_s_seed : s_seed.toInt ≤ 999) (i0_s_row : In2 s_row 0 6 (0) (7)) (i0_s_has : In2 s_has 0 8 (0) (40)) : Met l yX5_droppedWithout wq_k_St_droppedWithout ({ frames := 1, cells := 0, slots := 0, locals := 24 }) (va_Pc [.ref hs, .int x1] (cB (dC, dI) (kT cyB cyI cyJ cyZ cyO) (wc_k_St_droppedWithout cyB cyI cyJ cyZ cyO hs sd s_row s_has s_size s_copier s_copyLeft s_tick s_seed s_dropped x1) sz)) (va_Qi (fun (r : Int32) (u : Unit) => (-40 ≤ r.toInt) ∧ (r.toInt ≤ 40)) (fun (u : Unit) t => cE (dC, dI) (va_A (wc_k_St_droppedWithout cyB cyI cyJ cyZ cyO hs sd s_row s_has s_size s_copier s_copyLeft s_tick s_seed s_dropped x1) sz) ([(hs, .inr (5, [.ref (sd 0), .ref (sd 1), .ref (sd 2), .ref (sd 3), .ref (sd 4), .ref (sd 5), .ref (sd 6), .int s_size, .int s_copier, .int s_copyLeft, .int s_tick, .int s_seed, .int s_dropped])), (sd 0, .inl (cyI, 6, .inl s_row)), (sd 1, .inl (cyI, 8, .inl s_has))]) t.heap) (va_A (wc_k_St_droppedWithout cyB cyI cyJ cyZ cyO hs sd s_row s_has s_size s_copier s_copyLeft s_tick s_seed s_dropped x1) sz)) 0 0 (va_A (wc_k_St_droppedWithout cyB cyI cyJ cyZ cyO hs sd s_row s_has s_size s_copier s_copyLeft s_tick s_seed s_dropped x1) sz) := by
  refine Met.ofW (cc := cX5_droppedWithout) (maxL := 4) (ret := (some .int)) (by decide) rfl ?_
  intro p e s m args below meth c s₁ B hml hv
  obtain ⟨rfl, hsz, hP, hKN, hD0⟩ := hv
  have hx := B.exec
  have hb := B.bytes
  have hr := B.returns
  have hts := atoms_spec (ws := wq_k_St_droppedWithout) B.pre
  have hown : s.vm.findClass RX5 = some m.cls := findClass_of_methodNamed B.named
  have hlocks := B.notSynchronized
  have hK := hKN.1
  have hfix : CallFix p m c cX5_droppedWithout 4 s [.ref hs, .int x1].toArray wq_k_St_droppedWithout RX5 := ⟨hx, hb, hml, hown, hts⟩
  have hi5 : ∀ w ∈ wsX50, w ∈ wq_k_St_droppedWithout := (sb_c (sb_r sb_l))
  subst hsz
  have hD := hD0.self (sz := s.heap.size)
  generalize hAe : va_A (wc_k_St_droppedWithout cyB cyI cyJ cyZ cyO hs sd s_row s_has s_size s_copier s_copyLeft s_tick s_seed s_dropped x1) s.heap.size = A at hD ⊢
  have hA : ∀ q : Nat, s.heap.size ≤ q → A q := fun q h => by rw [← hAe]; exact Or.inr h
  have hS : va_S A s.heap s.heap [] := va_S.rf
  have hl := lv_entry ([.ref hs, .int x1]) (n := 4) (Nat.le_of_ble_eq_true rfl)
  rw [lg_entry_eq]
  generalize (lg_sl ([.ref hs, .int x1]) ++ List.replicate (4 - (lg_sl ([.ref hs, .int x1])).length) Slot.unset).toArray = ls at hl ⊢
  have hl : lv_has ls 4 [(0, .ref hs), (1, .int x1)] := hl
  have ck0 : (0 : Int32).toInt = 0 := by decide
  refine lv_iconst (v := 0) hx hb dX5_droppedWithout_0 (by decide) ?_
  refine lv_istore_n (lv' := [(2, .int 0), (0, .ref hs), (1, .int x1)]) hx hb dX5_droppedWithout_1 rfl hl (by decide) rfl (fun ls hl => ?_)
  refine lv_iconst (v := 0) hx hb dX5_droppedWithout_2 (by decide) ?_
  refine lv_istore_n (lv' := [(3, .int 0), (2, .int 0), (0, .ref hs), (1, .int x1)]) hx hb dX5_droppedWithout_3 rfl hl (by decide) rfl (fun ls hl => ?_)
  refine w_gen (fun H locs ls hP hS hl => ?_) hP hS hl
  obtain ⟨v9116, v9117, hl2, hP2, hD2, b9118, b9119, b9120, b9121⟩ : ∃ (v9116 : Int32) (v9117 : Int32), lv_has ls 4 [(3, .int v9117), (2, .int v9116), (0, .ref hs), (1, .int x1)] ∧ va_P (dC, dI) vwCl [(hs, .inr (5, [.ref (sd 0), .ref (sd 1), .ref (sd 2), .ref (sd 3), .ref (sd 4), .ref (sd 5), .ref (sd 6), .int s_size, .int s_copier, .int s_copyLeft, .int s_tick, .int s_seed, .int s_dropped])), (sd 0, .inl (cyI, 6, .inl s_row)), (sd 1, .inl (cyI, 8, .inl s_has))] H ∧ va_D A [(hs, .inr (5, [.ref (sd 0), .ref (sd 1), .ref (sd 2), .ref (sd 3), .ref (sd 4), .ref (sd 5), .ref (sd 6), .int s_size, .int s_copier, .int s_copyLeft, .int s_tick, .int s_seed, .int s_dropped])), (sd 0, .inl (cyI, 6, .inl s_row)), (sd 1, .inl (cyI, 8, .inl s_has))] ∧ (0 ≤ v9116.toInt) ∧ (v9116.toInt ≤ 40) ∧ (0 ≤ v9117.toInt) ∧ (v9117.toInt ≤ 6) := ⟨(0 : Int32), (0 : Int32), hl, hP, hD, by first | assumption | omega, by first | assumption | omega, by first | assumption | omega, by first | assumption | omega⟩
  clear hP hl
  have hP := hP2
  have hD := hD2
  have hl := hl2
  clear hP2 hD2 hl2
  obtain ⟨n9122, hn9122⟩ : ∃ n : Nat, 6 - v9117.toInt < (n : Int) := ⟨(6 - v9117.toInt).toNat + 1, by omega⟩
  induction n9122 generalizing v9116 v9117 H locs ls with
  | zero => exfalso; omega
  | succ n9122 ih9123 =>
    refine lv_iload_n hx hb dX5_droppedWithout_4 rfl (lv_at hl 0 rfl) ?_
    refine lv_aload_n hx hb dX5_droppedWithout_5 rfl (lv_at hl 2 rfl) ?_
    refine va_get (D := (dC, dI)) (ci := 5) (v := .int s_size) (C := RX5) (T := TX5) (N := 13) hx hb hts hi5 hown hK hP 0 rfl rfl 7 (by decide) (hts _ (ow_m (k := 0) rfl)) (fun _ h9 => h9) rfl dX5_droppedWithout_6 ?_
    refine lv_icmp_ge (tgt := 47) hx hb dX5_droppedWithout_9 (by decide) (fun c9124 => ?_) (fun c9124 => ?_)
    · have c9124 := i_le (a := s_size.toInt) (b := v9117.toInt) c9124 rfl rfl
      refine lv_aload_n hx hb dX5_droppedWithout_47 rfl (lv_at hl 2 rfl) ?_
      refine gf_i (wr := []) (va_runV (As := []) (rest := []) hfix (k_St_headHas l dC dI cyB cyI cyJ cyZ cyO hs sd s_row s_has s_size s_copier s_copyLeft s_tick s_seed s_dropped _ (by first | omega | assumption) (by first | omega | assumption) (by first | omega | assumption) (by first | omega | assumption) (by first | omega | assumption) (by first | omega | assumption) i0_s_row i0_s_has) (cwV 0 hts (gi_V (ow_m (k := 1) rfl) (ow_m (k := 2) rfl) (ow_m (k := 3) rfl) (ow_m (k := 4) rfl) (sb_c sb_l) gd_k_St_headHas) rfl rfl rfl (by decide +kernel) ⟨Nat.le_of_ble_eq_true rfl, Nat.le_of_ble_eq_true rfl⟩) (g_preV hKN hP hD [0, 1, 2] rfl (by decide) 0 5 rfl rfl) rfl rfl hl.1 rfl (lv_room (Nat.le_of_ble_eq_true rfl)) dX5_droppedWithout_48 ⟨Nat.le_of_ble_eq_true rfl, Nat.le_of_ble_eq_true rfl⟩) hP hD hS hA [0, 1, 2] [] rfl rfl (by decide) (by decide) (fun r9125 u9126 H locs qu9126 hP hD hS => ?_)
      obtain ⟨b9127, b9128⟩ := qu9126
      have hP : va_P (dC, dI) vwCl [(hs, .inr (5, [.ref (sd 0), .ref (sd 1), .ref (sd 2), .ref (sd 3), .ref (sd 4), .ref (sd 5), .ref (sd 6), .int s_size, .int s_copier, .int s_copyLeft, .int s_tick, .int s_seed, .int s_dropped])), (sd 0, .inl (cyI, 6, .inl s_row)), (sd 1, .inl (cyI, 8, .inl s_has))] H := hP
      have hD : va_D A [(hs, .inr (5, [.ref (sd 0), .ref (sd 1), .ref (sd 2), .ref (sd 3), .ref (sd 4), .ref (sd 5), .ref (sd 6), .int s_size, .int s_copier, .int s_copyLeft, .int s_tick, .int s_seed, .int s_dropped])), (sd 0, .inl (cyI, 6, .inl s_row)), (sd 1, .inl (cyI, 8, .inl s_has))] := hD
      refine lv_iload_n hx hb dX5_droppedWithout_51 rfl (lv_at hl 1 rfl) ?_
      refine lv_isub hx hb dX5_droppedWithout_52 ?_
      refine lv_topi (fun z9129 ez9129 => ?_)
      have tz9129 := ti_sub (a := r9125.toInt) (b := v9116.toInt) ez9129 rfl rfl (by omega) (by omega)
      have w9130 : -40 ≤ z9129.toInt := by first | omega | assumption
      have w9131 : z9129.toInt ≤ 40 := by first | omega | assumption
      exact W.iret (v := z9129) hx hb hr (fun t ht hW => ⟨⟨z9129, (), rfl, ⟨w9130, w9131⟩, cE.of ht hP hD [0, 1, 2] (by decide) rfl⟩, hS.F ht⟩) hS.2.2 dX5_droppedWithout_53
    · have c9124 := i_nle (a := s_size.toInt) (b := v9117.toInt) c9124 rfl rfl
      refine lv_iload_n hx hb dX5_droppedWithout_12 rfl (lv_at hl 3 rfl) ?_
      refine lv_aload_n hx hb dX5_droppedWithout_13 rfl (lv_at hl 2 rfl) ?_
      refine va_get (D := (dC, dI)) (ci := 5) (v := .ref (sd 0)) (C := RX5) (T := TX5) (N := 13) hx hb hts hi5 hown hK hP 0 rfl rfl 0 (by decide) (hts _ (ow_m (k := 5) rfl)) (fun _ h9 => h9) rfl dX5_droppedWithout_14 ?_
      refine lv_iload_n hx hb dX5_droppedWithout_17 rfl (lv_at hl 0 rfl) ?_
      refine va_iald hx hb hK hP 1 1 rfl rfl (vp_i rfl (by omega) (by omega)) dX5_droppedWithout_18 ?_
      refine lv_topi (fun z9132 ez9132 => ?_)
      have tz9132 := i0_s_row.at (x := v9117.toInt) ez9132 rfl (by omega) (by omega)
      refine lv_ishr hx hb dX5_droppedWithout_19 ?_
      refine lv_topi (fun z9133 ez9133 => ?_)
      refine lv_iconst (v := 1) hx hb dX5_droppedWithout_20 (by decide) ?_
      refine lv_iand hx hb dX5_droppedWithout_21 ?_
      refine lv_topi (fun z9134 ez9134 => ?_)
      have tz9134 := ti_and z9133 (m := 1) 1 ez9134 rfl (by decide)
      refine lv_if_ne (tgt := 41) hx hb dX5_droppedWithout_22 (by decide) (fun c9135 => ?_) (fun c9135 => ?_)
      · have c9135 := i_ne (a := z9134.toInt) (b := 0) c9135 rfl (by decide)
        obtain ⟨z9136, ez9136⟩ : ∃ y : Int32, y = v9117 + 1 := ⟨_, rfl⟩
        have tz9136 := ti_add (a := v9117.toInt) (b := 1) ez9136 rfl (by decide) (by omega) (by omega)
        refine lv_iinc (v := z9136) (lv' := [(3, .int z9136), (2, .int v9116), (0, .ref hs), (1, .int x1)]) hx hb dX5_droppedWithout_41 hl (k := 0) rfl (by rw [ez9136]; rfl) (by decide) rfl (fun ls hl => ?_)
        refine lv_goto (tgt := 4) hx hb dX5_droppedWithout_44 (by decide) ?_
        have hl := lv_sub (l' := [(3, .int z9136), (2, .int v9116), (0, .ref hs), (1, .int x1)]) hl [0, 1, 2, 3] rfl
        apply ih9123 (v9116 := v9116) (v9117 := z9136) (H := H) (locs := locs) (ls := ls) <;> first | assumption | omega
      · have c9135 := i_eq (a := z9134.toInt) (b := 0) c9135 rfl (by decide)
        refine lv_iload_n hx hb dX5_droppedWithout_25 rfl (lv_at hl 1 rfl) ?_
        refine lv_aload_n hx hb dX5_droppedWithout_26 rfl (lv_at hl 2 rfl) ?_
        refine va_get (D := (dC, dI)) (ci := 5) (v := .ref (sd 1)) (C := RX5) (T := TX5) (N := 13) hx hb hts hi5 hown hK hP 0 rfl rfl 1 (by decide) (hts _ (ow_m (k := 6) rfl)) (fun _ h9 => h9) rfl dX5_droppedWithout_27 ?_
        refine lv_aload_n hx hb dX5_droppedWithout_30 rfl (lv_at hl 2 rfl) ?_
        refine va_get (D := (dC, dI)) (ci := 5) (v := .ref (sd 0)) (C := RX5) (T := TX5) (N := 13) hx hb hts hi5 hown hK hP 0 rfl rfl 0 (by decide) (hts _ (ow_m (k := 5) rfl)) (fun _ h9 => h9) rfl dX5_droppedWithout_31 ?_
        refine lv_iload_n hx hb dX5_droppedWithout_34 rfl (lv_at hl 0 rfl) ?_
        refine va_iald hx hb hK hP 1 1 rfl rfl (vp_i rfl (by omega) (by omega)) dX5_droppedWithout_35 ?_
        refine lv_topi (fun z9137 ez9137 => ?_)
        have tz9137 := i0_s_row.at (x := v9117.toInt) ez9137 rfl (by omega) (by omega)
        refine va_iald hx hb hK hP 2 1 rfl rfl (vp_i rfl (by omega) (by omega)) dX5_droppedWithout_36 ?_
        refine lv_topi (fun z9138 ez9138 => ?_)
        have tz9138 := i0_s_has.at (x := z9137.toInt) ez9138 rfl (by omega) (by omega)
        refine va_mmax hx hb (hml.trans hl.1.symm) hown (hts _ (ow_m (k := 7) rfl)) (hts _ (ow_m (k := 8) rfl)) (hts _ (ow_m (k := 9) rfl)) (hts _ (ow_m (k := 10) rfl)) (Nat.le_of_ble_eq_true rfl) (Nat.le_of_ble_eq_true rfl) (Nat.le_of_ble_eq_true rfl) (Nat.le_of_ble_eq_true rfl) dX5_droppedWithout_37 ?_
        refine lv_topi (fun z9139 ez9139 => ?_)
        have tz9139 := mm_max (a := v9116.toInt) (b := z9138.toInt) ez9139 rfl rfl
        refine lv_istore_n (lv' := [(2, .int z9139), (3, .int v9117), (0, .ref hs), (1, .int x1)]) hx hb dX5_droppedWithout_40 rfl hl (by decide) rfl (fun ls hl => ?_)
        obtain ⟨z9140, ez9140⟩ : ∃ y : Int32, y = v9117 + 1 := ⟨_, rfl⟩
        have tz9140 := ti_add (a := v9117.toInt) (b := 1) ez9140 rfl (by decide) (by omega) (by omega)
        refine lv_iinc (v := z9140) (lv' := [(3, .int z9140), (2, .int z9139), (0, .ref hs), (1, .int x1)]) hx hb dX5_droppedWithout_41 hl (k := 1) rfl (by rw [ez9140]; rfl) (by decide) rfl (fun ls hl => ?_)
        refine lv_goto (tgt := 4) hx hb dX5_droppedWithout_44 (by decide) ?_
        have hl := lv_sub (l' := [(3, .int z9140), (2, .int z9139), (0, .ref hs), (1, .int x1)]) hl [0, 1, 2, 3] rfl
        apply ih9123 (v9116 := z9139) (v9117 := z9140) (H := H) (locs := locs) (ls := ls) <;> first | assumption | omega
def wo_k_Si_forget : List Cond := [.fieldLink RX4 25 "ReplicaChain$Sightings" "count" "I"]
def wq_k_Si_forget : List Cond := .code yX4_forget cX4_forget 1 none :: (wo_k_Si_forget ++ (wsX40 ++ []))
theorem gd_k_Si_forget : Gd wq_k_Si_forget := gd_c (gd_a (gd_o (by decide +kernel)) (gd_a gd_u gd_0))
abbrev wc_k_Si_forget (cyB cyI cyJ cyZ cyO : ClassId) (hg : Nat) (gd : Nat → Nat) (g_count : Int32) : va_W := [(hg, .inr (4, [.ref (gd 0), .ref (gd 1), .ref (gd 2), .ref (gd 3), .int g_count]))]
set_option maxHeartbeats 4000000 in
set_option maxRecDepth 100000 in
theorem k_Si_forget (l : Launch) (dC : Nat → ClassId) (dI : Nat → Nat → Nat) (cyB cyI cyJ cyZ cyO : ClassId) (hg : Nat) (gd : Nat → Nat) (g_count : Int32) (sz : Nat) (l_g_count : 0 ≤ g_count.toInt) (u_g_count : g_count.toInt ≤ 30) : Met l yX4_forget wq_k_Si_forget ({ frames := 0, cells := 0, slots := 0, locals := 0 }) (va_Pc [.ref hg] (cB (dC, dI) (kT cyB cyI cyJ cyZ cyO) (wc_k_Si_forget cyB cyI cyJ cyZ cyO hg gd g_count) sz)) (va_Qv (fun (u : ST4) => (0 ≤ (u.2.1 0).toInt) ∧ ((u.2.1 0).toInt ≤ 30)) (fun (u : ST4) t => cE (dC, dI) (va_A (wc_k_Si_forget cyB cyI cyJ cyZ cyO hg gd g_count) sz) ([(hg, .inr (4, [.ref (gd 0), .ref (gd 1), .ref (gd 2), .ref (gd 3), .int (u.2.1 0)]))]) t.heap) (va_A (wc_k_Si_forget cyB cyI cyJ cyZ cyO hg gd g_count) sz)) 0 0 (va_A (wc_k_Si_forget cyB cyI cyJ cyZ cyO hg gd g_count) sz) := by
  refine Met.ofW (cc := cX4_forget) (maxL := 1) (ret := none) (by decide) rfl ?_
  intro p e s m args below meth c s₁ B hml hv
  obtain ⟨rfl, hsz, hP, hKN, hD0⟩ := hv
  have hx := B.exec
  have hb := B.bytes
  have hr := B.returns
  have hts := atoms_spec (ws := wq_k_Si_forget) B.pre
  have hown : s.vm.findClass RX4 = some m.cls := findClass_of_methodNamed B.named
  have hlocks := B.notSynchronized
  have hK := hKN.1
  have hfix : CallFix p m c cX4_forget 1 s [.ref hg].toArray wq_k_Si_forget RX4 := ⟨hx, hb, hml, hown, hts⟩
  have hi4 : ∀ w ∈ wsX40, w ∈ wq_k_Si_forget := (sb_c sb_l)
  subst hsz
  have hD := hD0.self (sz := s.heap.size)
  generalize hAe : va_A (wc_k_Si_forget cyB cyI cyJ cyZ cyO hg gd g_count) s.heap.size = A at hD ⊢
  have hA : ∀ q : Nat, s.heap.size ≤ q → A q := fun q h => by rw [← hAe]; exact Or.inr h
  have hS : va_S A s.heap s.heap [] := va_S.rf
  have hl := lv_entry ([.ref hg]) (n := 1) (Nat.le_of_ble_eq_true rfl)
  rw [lg_entry_eq]
  generalize (lg_sl ([.ref hg]) ++ List.replicate (1 - (lg_sl ([.ref hg])).length) Slot.unset).toArray = ls at hl ⊢
  have hl : lv_has ls 1 [(0, .ref hg)] := hl
  have ck0 : (0 : Int32).toInt = 0 := by decide
  refine lv_aload_n hx hb dX4_forget_0 rfl (lv_at hl 0 rfl) ?_
  refine lv_iconst (v := 0) hx hb dX4_forget_1 (by decide) ?_
  refine va_put (D := (dC, dI)) (ci := 4) (v := .int 0) (ty := .int) (C := RX4) (T := TX4) (N := 5) hx hb hts hi4 tyX4 tyX4_ok nmX4 hown hK hP hD hS 0 rfl rfl 4 (by decide) (hts _ (ow_m (k := 0) rfl)) (fun _ h9 => h9) rfl (by decide +kernel) rfl rfl (Nat.le_of_ble_eq_true rfl) dX4_forget_2 (fun H locs hP hD hS => ?_)
  have hP : va_P (dC, dI) vwCl [(hg, .inr (4, [.ref (gd 0), .ref (gd 1), .ref (gd 2), .ref (gd 3), .int 0]))] H := hP
  have hD : va_D A [(hg, .inr (4, [.ref (gd 0), .ref (gd 1), .ref (gd 2), .ref (gd 3), .int 0]))] := hD
  have w9141 : 0 ≤ (0 : Int32).toInt := by first | omega | assumption
  have w9142 : (0 : Int32).toInt ≤ 30 := by first | omega | assumption
  exact W.vret hx hb hr (fun t ht hW => ⟨⟨((fun _ => fun _ => 0), (fun _ => 0), (fun _ => 0), (fun _ => fun _ => 0)), rfl, ⟨w9141, w9142⟩, cE.of ht hP hD [0] (by decide) rfl⟩, hS.F ht⟩) hS.2.2 dX4_forget_5
def wo_k_Si_tell : List Cond := [.fieldLink RX4 25 "ReplicaChain$Sightings" "count" "I", .fieldLink RX4 9 "ReplicaChain$Sightings" "ticks" "[I", .fieldLink RX4 15 "ReplicaChain$Sightings" "is" "[Z", .fieldLink RX4 19 "ReplicaChain$Sightings" "toldAt" "[I", .fieldLink RX4 22 "ReplicaChain$Sightings" "untoldAt" "[I"]
def wq_k_Si_tell : List Cond := .code yX4_tell cX4_tell 4 (some .int) :: (wo_k_Si_tell ++ (wsX40 ++ []))
theorem gd_k_Si_tell : Gd wq_k_Si_tell := gd_c (gd_a (gd_o (by decide +kernel)) (gd_a gd_u gd_0))
abbrev wc_k_Si_tell (cyB cyI cyJ cyZ cyO : ClassId) (hg : Nat) (gd : Nat → Nat) (g_ticks : Nat → Int32) (g_is : Nat → Int32) (g_toldAt : Nat → Int32) (g_untold : Nat → Int32) (g_count : Int32) (x1 : Int32) (x2 : Int32) (x3 : Int32) : va_W := [(hg, .inr (4, [.ref (gd 0), .ref (gd 1), .ref (gd 2), .ref (gd 3), .int g_count])), (gd 0, .inl (cyI, 30, .inl g_ticks)), (gd 1, .inl (cyZ, 30, .inl g_is)), (gd 2, .inl (cyI, 30, .inl g_toldAt)), (gd 3, .inl (cyI, 30, .inl g_untold))]
set_option maxHeartbeats 4000000 in
set_option maxRecDepth 100000 in
theorem k_Si_tell (l : Launch) (dC : Nat → ClassId) (dI : Nat → Nat → Nat) (cyB cyI cyJ cyZ cyO : ClassId) (hg : Nat) (gd : Nat → Nat) (g_ticks : Nat → Int32) (g_is : Nat → Int32) (g_toldAt : Nat → Int32) (g_untold : Nat → Int32) (g_count : Int32) (x1 : Int32) (x2 : Int32) (x3 : Int32) (sz : Nat) (l_g_count : 0 ≤ g_count.toInt) (u_g_count : g_count.toInt ≤ 30) : Met l yX4_tell wq_k_Si_tell ({ frames := 0, cells := 0, slots := 0, locals := 0 }) (va_Pc [.ref hg, .int x1, .int x2, .int x3] (cB (dC, dI) (kT cyB cyI cyJ cyZ cyO) (wc_k_Si_tell cyB cyI cyJ cyZ cyO hg gd g_ticks g_is g_toldAt g_untold g_count x1 x2 x3) sz)) (va_Qi (fun (r : Int32) (u : ST4) => (-1 ≤ r.toInt) ∧ (r.toInt ≤ 29) ∧ (0 ≤ (u.2.1 0).toInt) ∧ ((u.2.1 0).toInt ≤ 30)) (fun (u : ST4) t => cE (dC, dI) (va_A (wc_k_Si_tell cyB cyI cyJ cyZ cyO hg gd g_ticks g_is g_toldAt g_untold g_count x1 x2 x3) sz) ([(hg, .inr (4, [.ref (gd 0), .ref (gd 1), .ref (gd 2), .ref (gd 3), .int (u.2.1 0)])), (gd 0, .inl (cyI, 30, .inl (u.1 0))), (gd 1, .inl (cyZ, 30, .inl (u.1 1))), (gd 2, .inl (cyI, 30, .inl (u.1 2))), (gd 3, .inl (cyI, 30, .inl (u.1 3)))]) t.heap) (va_A (wc_k_Si_tell cyB cyI cyJ cyZ cyO hg gd g_ticks g_is g_toldAt g_untold g_count x1 x2 x3) sz)) 0 0 (va_A (wc_k_Si_tell cyB cyI cyJ cyZ cyO hg gd g_ticks g_is g_toldAt g_untold g_count x1 x2 x3) sz) := by
  refine Met.ofW (cc := cX4_tell) (maxL := 4) (ret := (some .int)) (by decide) rfl ?_
  intro p e s m args below meth c s₁ B hml hv
  obtain ⟨rfl, hsz, hP, hKN, hD0⟩ := hv
  have hx := B.exec
  have hb := B.bytes
  have hr := B.returns
  have hts := atoms_spec (ws := wq_k_Si_tell) B.pre
  have hown : s.vm.findClass RX4 = some m.cls := findClass_of_methodNamed B.named
  have hlocks := B.notSynchronized
  have hK := hKN.1
  have hfix : CallFix p m c cX4_tell 4 s [.ref hg, .int x1, .int x2, .int x3].toArray wq_k_Si_tell RX4 := ⟨hx, hb, hml, hown, hts⟩
  have hi4 : ∀ w ∈ wsX40, w ∈ wq_k_Si_tell := (sb_c sb_l)
  subst hsz
  have hD := hD0.self (sz := s.heap.size)
  generalize hAe : va_A (wc_k_Si_tell cyB cyI cyJ cyZ cyO hg gd g_ticks g_is g_toldAt g_untold g_count x1 x2 x3) s.heap.size = A at hD ⊢
  have hA : ∀ q : Nat, s.heap.size ≤ q → A q := fun q h => by rw [← hAe]; exact Or.inr h
  have hS : va_S A s.heap s.heap [] := va_S.rf
  have hl := lv_entry ([.ref hg, .int x1, .int x2, .int x3]) (n := 4) (Nat.le_of_ble_eq_true rfl)
  rw [lg_entry_eq]
  generalize (lg_sl ([.ref hg, .int x1, .int x2, .int x3]) ++ List.replicate (4 - (lg_sl ([.ref hg, .int x1, .int x2, .int x3])).length) Slot.unset).toArray = ls at hl ⊢
  have hl : lv_has ls 4 [(0, .ref hg), (1, .int x1), (2, .int x2), (3, .int x3)] := hl
  have ckm1 : (-1 : Int32).toInt = -1 := by decide
  refine lv_aload_n hx hb dX4_tell_0 rfl (lv_at hl 0 rfl) ?_
  refine va_get (D := (dC, dI)) (ci := 4) (v := .int g_count) (C := RX4) (T := TX4) (N := 5) hx hb hts hi4 hown hK hP 0 rfl rfl 4 (by decide) (hts _ (ow_m (k := 0) rfl)) (fun _ h9 => h9) rfl dX4_tell_1 ?_
  refine lv_bipush (v := 30) hx hb dX4_tell_4 (by decide) ?_
  refine lv_icmp_lt (tgt := 11) hx hb dX4_tell_6 (by decide) (fun c9157 => ?_) (fun c9157 => ?_)
  · have c9157 := i_lt (a := g_count.toInt) (b := 30) c9157 rfl (by decide)
    refine lv_aload_n hx hb dX4_tell_11 rfl (lv_at hl 0 rfl) ?_
    refine va_get (D := (dC, dI)) (ci := 4) (v := .ref (gd 0)) (C := RX4) (T := TX4) (N := 5) hx hb hts hi4 hown hK hP 0 rfl rfl 0 (by decide) (hts _ (ow_m (k := 1) rfl)) (fun _ h9 => h9) rfl dX4_tell_12 ?_
    refine lv_aload_n hx hb dX4_tell_15 rfl (lv_at hl 0 rfl) ?_
    refine va_get (D := (dC, dI)) (ci := 4) (v := .int g_count) (C := RX4) (T := TX4) (N := 5) hx hb hts hi4 hown hK hP 0 rfl rfl 4 (by decide) (hts _ (ow_m (k := 0) rfl)) (fun _ h9 => h9) rfl dX4_tell_16 ?_
    refine lv_iload_n hx hb dX4_tell_19 rfl (lv_at hl 1 rfl) ?_
    refine va_iast hx hb hK hP hD hS 1 1 rfl rfl (vp_i rfl (by omega) (by omega)) dX4_tell_20 (fun H locs hP hD hS => ?_)
    have hP : va_P (dC, dI) vwCl [(hg, .inr (4, [.ref (gd 0), .ref (gd 1), .ref (gd 2), .ref (gd 3), .int g_count])), (gd 0, .inl (cyI, 30, .inl (upd g_ticks g_count.toNatClampNeg x1))), (gd 1, .inl (cyZ, 30, .inl g_is)), (gd 2, .inl (cyI, 30, .inl g_toldAt)), (gd 3, .inl (cyI, 30, .inl g_untold))] H := hP
    have hD : va_D A [(hg, .inr (4, [.ref (gd 0), .ref (gd 1), .ref (gd 2), .ref (gd 3), .int g_count])), (gd 0, .inl (cyI, 30, .inl (upd g_ticks g_count.toNatClampNeg x1))), (gd 1, .inl (cyZ, 30, .inl g_is)), (gd 2, .inl (cyI, 30, .inl g_toldAt)), (gd 3, .inl (cyI, 30, .inl g_untold))] := hD
    generalize ef9158 : upd g_ticks g_count.toNatClampNeg x1 = f9158 at hP hD
    refine lv_aload_n hx hb dX4_tell_21 rfl (lv_at hl 0 rfl) ?_
    refine va_get (D := (dC, dI)) (ci := 4) (v := .ref (gd 1)) (C := RX4) (T := TX4) (N := 5) hx hb hts hi4 hown hK hP 0 rfl rfl 1 (by decide) (hts _ (ow_m (k := 2) rfl)) (fun _ h9 => h9) rfl dX4_tell_22 ?_
    refine lv_aload_n hx hb dX4_tell_25 rfl (lv_at hl 0 rfl) ?_
    refine va_get (D := (dC, dI)) (ci := 4) (v := .int g_count) (C := RX4) (T := TX4) (N := 5) hx hb hts hi4 hown hK hP 0 rfl rfl 4 (by decide) (hts _ (ow_m (k := 0) rfl)) (fun _ h9 => h9) rfl dX4_tell_26 ?_
    refine lv_iload_n hx hb dX4_tell_29 rfl (lv_at hl 2 rfl) ?_
    refine va_zast hx hb hK hP hD hS 2 3 rfl rfl (vp_i rfl (by omega) (by omega)) dX4_tell_30 (fun H locs hP hD hS => ?_)
    have hP : va_P (dC, dI) vwCl [(hg, .inr (4, [.ref (gd 0), .ref (gd 1), .ref (gd 2), .ref (gd 3), .int g_count])), (gd 0, .inl (cyI, 30, .inl f9158)), (gd 1, .inl (cyZ, 30, .inl (upd g_is g_count.toNatClampNeg (vp_nar .boolean x2)))), (gd 2, .inl (cyI, 30, .inl g_toldAt)), (gd 3, .inl (cyI, 30, .inl g_untold))] H := hP
    have hD : va_D A [(hg, .inr (4, [.ref (gd 0), .ref (gd 1), .ref (gd 2), .ref (gd 3), .int g_count])), (gd 0, .inl (cyI, 30, .inl f9158)), (gd 1, .inl (cyZ, 30, .inl (upd g_is g_count.toNatClampNeg (vp_nar .boolean x2)))), (gd 2, .inl (cyI, 30, .inl g_toldAt)), (gd 3, .inl (cyI, 30, .inl g_untold))] := hD
    generalize ef9159 : upd g_is g_count.toNatClampNeg (vp_nar .boolean x2) = f9159 at hP hD
    refine lv_aload_n hx hb dX4_tell_31 rfl (lv_at hl 0 rfl) ?_
    refine va_get (D := (dC, dI)) (ci := 4) (v := .ref (gd 2)) (C := RX4) (T := TX4) (N := 5) hx hb hts hi4 hown hK hP 0 rfl rfl 2 (by decide) (hts _ (ow_m (k := 3) rfl)) (fun _ h9 => h9) rfl dX4_tell_32 ?_
    refine lv_aload_n hx hb dX4_tell_35 rfl (lv_at hl 0 rfl) ?_
    refine va_get (D := (dC, dI)) (ci := 4) (v := .int g_count) (C := RX4) (T := TX4) (N := 5) hx hb hts hi4 hown hK hP 0 rfl rfl 4 (by decide) (hts _ (ow_m (k := 0) rfl)) (fun _ h9 => h9) rfl dX4_tell_36 ?_
    refine lv_iload_n hx hb dX4_tell_39 rfl (lv_at hl 3 rfl) ?_
    refine va_iast hx hb hK hP hD hS 3 1 rfl rfl (vp_i rfl (by omega) (by omega)) dX4_tell_40 (fun H locs hP hD hS => ?_)
    have hP : va_P (dC, dI) vwCl [(hg, .inr (4, [.ref (gd 0), .ref (gd 1), .ref (gd 2), .ref (gd 3), .int g_count])), (gd 0, .inl (cyI, 30, .inl f9158)), (gd 1, .inl (cyZ, 30, .inl f9159)), (gd 2, .inl (cyI, 30, .inl (upd g_toldAt g_count.toNatClampNeg x3))), (gd 3, .inl (cyI, 30, .inl g_untold))] H := hP
    have hD : va_D A [(hg, .inr (4, [.ref (gd 0), .ref (gd 1), .ref (gd 2), .ref (gd 3), .int g_count])), (gd 0, .inl (cyI, 30, .inl f9158)), (gd 1, .inl (cyZ, 30, .inl f9159)), (gd 2, .inl (cyI, 30, .inl (upd g_toldAt g_count.toNatClampNeg x3))), (gd 3, .inl (cyI, 30, .inl g_untold))] := hD
    generalize ef9160 : upd g_toldAt g_count.toNatClampNeg x3 = f9160 at hP hD
    refine lv_aload_n hx hb dX4_tell_41 rfl (lv_at hl 0 rfl) ?_
    refine va_get (D := (dC, dI)) (ci := 4) (v := .ref (gd 3)) (C := RX4) (T := TX4) (N := 5) hx hb hts hi4 hown hK hP 0 rfl rfl 3 (by decide) (hts _ (ow_m (k := 4) rfl)) (fun _ h9 => h9) rfl dX4_tell_42 ?_
    refine lv_aload_n hx hb dX4_tell_45 rfl (lv_at hl 0 rfl) ?_
    refine va_get (D := (dC, dI)) (ci := 4) (v := .int g_count) (C := RX4) (T := TX4) (N := 5) hx hb hts hi4 hown hK hP 0 rfl rfl 4 (by decide) (hts _ (ow_m (k := 0) rfl)) (fun _ h9 => h9) rfl dX4_tell_46 ?_
    refine lv_iconst (v := (-1)) hx hb dX4_tell_49 (by decide) ?_
    refine va_iast hx hb hK hP hD hS 4 1 rfl rfl (vp_i rfl (by omega) (by omega)) dX4_tell_50 (fun H locs hP hD hS => ?_)
    have hP : va_P (dC, dI) vwCl [(hg, .inr (4, [.ref (gd 0), .ref (gd 1), .ref (gd 2), .ref (gd 3), .int g_count])), (gd 0, .inl (cyI, 30, .inl f9158)), (gd 1, .inl (cyZ, 30, .inl f9159)), (gd 2, .inl (cyI, 30, .inl f9160)), (gd 3, .inl (cyI, 30, .inl (upd g_untold g_count.toNatClampNeg (-1))))] H := hP
    have hD : va_D A [(hg, .inr (4, [.ref (gd 0), .ref (gd 1), .ref (gd 2), .ref (gd 3), .int g_count])), (gd 0, .inl (cyI, 30, .inl f9158)), (gd 1, .inl (cyZ, 30, .inl f9159)), (gd 2, .inl (cyI, 30, .inl f9160)), (gd 3, .inl (cyI, 30, .inl (upd g_untold g_count.toNatClampNeg (-1))))] := hD
    generalize ef9161 : upd g_untold g_count.toNatClampNeg (-1) = f9161 at hP hD
    refine lv_aload_n hx hb dX4_tell_51 rfl (lv_at hl 0 rfl) ?_
    refine lv_dup hx hb dX4_tell_52 rfl ?_
    refine va_get (D := (dC, dI)) (ci := 4) (v := .int g_count) (C := RX4) (T := TX4) (N := 5) hx hb hts hi4 hown hK hP 0 rfl rfl 4 (by decide) (hts _ (ow_m (k := 0) rfl)) (fun _ h9 => h9) rfl dX4_tell_53 ?_
    refine lv_iconst (v := 1) hx hb dX4_tell_56 (by decide) ?_
    refine lv_iadd hx hb dX4_tell_57 ?_
    refine lv_topi (fun z9162 ez9162 => ?_)
    have tz9162 := ti_add (a := g_count.toInt) (b := 1) ez9162 rfl (by decide) (by omega) (by omega)
    refine va_put (D := (dC, dI)) (ci := 4) (v := .int z9162) (ty := .int) (C := RX4) (T := TX4) (N := 5) hx hb hts hi4 tyX4 tyX4_ok nmX4 hown hK hP hD hS 0 rfl rfl 4 (by decide) (hts _ (ow_m (k := 0) rfl)) (fun _ h9 => h9) rfl (by decide +kernel) rfl rfl (Nat.le_of_ble_eq_true rfl) dX4_tell_58 (fun H locs hP hD hS => ?_)
    have hP : va_P (dC, dI) vwCl [(hg, .inr (4, [.ref (gd 0), .ref (gd 1), .ref (gd 2), .ref (gd 3), .int z9162])), (gd 0, .inl (cyI, 30, .inl f9158)), (gd 1, .inl (cyZ, 30, .inl f9159)), (gd 2, .inl (cyI, 30, .inl f9160)), (gd 3, .inl (cyI, 30, .inl f9161))] H := hP
    have hD : va_D A [(hg, .inr (4, [.ref (gd 0), .ref (gd 1), .ref (gd 2), .ref (gd 3), .int z9162])), (gd 0, .inl (cyI, 30, .inl f9158)), (gd 1, .inl (cyZ, 30, .inl f9159)), (gd 2, .inl (cyI, 30, .inl f9160)), (gd 3, .inl (cyI, 30, .inl f9161))] := hD
    refine lv_aload_n hx hb dX4_tell_61 rfl (lv_at hl 0 rfl) ?_
    refine va_get (D := (dC, dI)) (ci := 4) (v := .int z9162) (C := RX4) (T := TX4) (N := 5) hx hb hts hi4 hown hK hP 0 rfl rfl 4 (by decide) (hts _ (ow_m (k := 0) rfl)) (fun _ h9 => h9) rfl dX4_tell_62 ?_
    refine lv_iconst (v := 1) hx hb dX4_tell_65 (by decide) ?_
    refine lv_isub hx hb dX4_tell_66 ?_
    refine lv_topi (fun z9163 ez9163 => ?_)
    have tz9163 := ti_sub (a := z9162.toInt) (b := 1) ez9163 rfl (by decide) (by omega) (by omega)
    have w9164 : -1 ≤ z9163.toInt := by first | omega | assumption
    have w9165 : z9163.toInt ≤ 29 := by first | omega | assumption
    have w9166 : 0 ≤ z9162.toInt := by first | omega | assumption
    have w9167 : z9162.toInt ≤ 30 := by first | omega | assumption
    exact W.iret (v := z9163) hx hb hr (fun t ht hW => ⟨⟨z9163, ((fun k => match k with | 0 => f9158 | 1 => f9159 | 2 => f9160 | _ => f9161), (fun _ => z9162), (fun _ => 0), (fun _ => fun _ => 0)), rfl, ⟨w9164, w9165, w9166, w9167⟩, cE.of ht hP hD [0, 1, 2, 3, 4] (by decide) rfl⟩, hS.F ht⟩) hS.2.2 dX4_tell_67
  · have c9157 := i_nlt (a := g_count.toInt) (b := 30) c9157 rfl (by decide)
    refine lv_iconst (v := (-1)) hx hb dX4_tell_9 (by decide) ?_
    have w9168 : -1 ≤ (-1 : Int32).toInt := by first | omega | assumption
    have w9169 : (-1 : Int32).toInt ≤ 29 := by first | omega | assumption
    have w9170 : 0 ≤ g_count.toInt := by first | omega | assumption
    have w9171 : g_count.toInt ≤ 30 := by first | omega | assumption
    exact W.iret (v := (-1)) hx hb hr (fun t ht hW => ⟨⟨(-1), ((fun k => match k with | 0 => g_ticks | 1 => g_is | 2 => g_toldAt | _ => g_untold), (fun _ => g_count), (fun _ => 0), (fun _ => fun _ => 0)), rfl, ⟨w9168, w9169, w9170, w9171⟩, cE.of ht hP hD [0, 1, 2, 3, 4] (by decide) rfl⟩, hS.F ht⟩) hS.2.2 dX4_tell_10
def wo_k_Si_takeBack : List Cond := [.fieldLink RX4 25 "ReplicaChain$Sightings" "count" "I", .fieldLink RX4 22 "ReplicaChain$Sightings" "untoldAt" "[I"]
def wq_k_Si_takeBack : List Cond := .code yX4_takeBack cX4_takeBack 3 (some .boolean) :: (wo_k_Si_takeBack ++ (wsX40 ++ []))
theorem gd_k_Si_takeBack : Gd wq_k_Si_takeBack := gd_c (gd_a (gd_o (by decide +kernel)) (gd_a gd_u gd_0))
abbrev wc_k_Si_takeBack (cyB cyI cyJ cyZ cyO : ClassId) (hg : Nat) (gd : Nat → Nat) (g_untold : Nat → Int32) (g_count : Int32) (x1 : Int32) (x2 : Int32) : va_W := [(hg, .inr (4, [.ref (gd 0), .ref (gd 1), .ref (gd 2), .ref (gd 3), .int g_count])), (gd 3, .inl (cyI, 30, .inl g_untold))]
set_option maxHeartbeats 4000000 in
set_option maxRecDepth 100000 in
theorem k_Si_takeBack (l : Launch) (dC : Nat → ClassId) (dI : Nat → Nat → Nat) (cyB cyI cyJ cyZ cyO : ClassId) (hg : Nat) (gd : Nat → Nat) (g_untold : Nat → Int32) (g_count : Int32) (x1 : Int32) (x2 : Int32) (sz : Nat) (l_g_count : 0 ≤ g_count.toInt) (u_g_count : g_count.toInt ≤ 30) : Met l yX4_takeBack wq_k_Si_takeBack ({ frames := 0, cells := 0, slots := 0, locals := 0 }) (va_Pc [.ref hg, .int x1, .int x2] (cB (dC, dI) (kT cyB cyI cyJ cyZ cyO) (wc_k_Si_takeBack cyB cyI cyJ cyZ cyO hg gd g_untold g_count x1 x2) sz)) (va_Qi (fun (r : Int32) (u : ST4) => (0 ≤ r.toInt) ∧ (r.toInt ≤ 1)) (fun (u : ST4) t => cE (dC, dI) (va_A (wc_k_Si_takeBack cyB cyI cyJ cyZ cyO hg gd g_untold g_count x1 x2) sz) ([(hg, .inr (4, [.ref (gd 0), .ref (gd 1), .ref (gd 2), .ref (gd 3), .int g_count])), (gd 3, .inl (cyI, 30, .inl (u.1 0)))]) t.heap) (va_A (wc_k_Si_takeBack cyB cyI cyJ cyZ cyO hg gd g_untold g_count x1 x2) sz)) 0 0 (va_A (wc_k_Si_takeBack cyB cyI cyJ cyZ cyO hg gd g_untold g_count x1 x2) sz) := by
  refine Met.ofW (cc := cX4_takeBack) (maxL := 3) (ret := (some .boolean)) (by decide) rfl ?_
  intro p e s m args below meth c s₁ B hml hv
  obtain ⟨rfl, hsz, hP, hKN, hD0⟩ := hv
  have hx := B.exec
  have hb := B.bytes
  have hr := B.returns
  have hts := atoms_spec (ws := wq_k_Si_takeBack) B.pre
  have hown : s.vm.findClass RX4 = some m.cls := findClass_of_methodNamed B.named
  have hlocks := B.notSynchronized
  have hK := hKN.1
  have hfix : CallFix p m c cX4_takeBack 3 s [.ref hg, .int x1, .int x2].toArray wq_k_Si_takeBack RX4 := ⟨hx, hb, hml, hown, hts⟩
  have hi4 : ∀ w ∈ wsX40, w ∈ wq_k_Si_takeBack := (sb_c sb_l)
  subst hsz
  have hD := hD0.self (sz := s.heap.size)
  generalize hAe : va_A (wc_k_Si_takeBack cyB cyI cyJ cyZ cyO hg gd g_untold g_count x1 x2) s.heap.size = A at hD ⊢
  have hA : ∀ q : Nat, s.heap.size ≤ q → A q := fun q h => by rw [← hAe]; exact Or.inr h
  have hS : va_S A s.heap s.heap [] := va_S.rf
  have hl := lv_entry ([.ref hg, .int x1, .int x2]) (n := 3) (Nat.le_of_ble_eq_true rfl)
  rw [lg_entry_eq]
  generalize (lg_sl ([.ref hg, .int x1, .int x2]) ++ List.replicate (3 - (lg_sl ([.ref hg, .int x1, .int x2])).length) Slot.unset).toArray = ls at hl ⊢
  have hl : lv_has ls 3 [(0, .ref hg), (1, .int x1), (2, .int x2)] := hl
  have ck0 : (0 : Int32).toInt = 0 := by decide
  have ck1 : (1 : Int32).toInt = 1 := by decide
  refine lv_iload_n hx hb dX4_takeBack_0 rfl (lv_at hl 1 rfl) ?_
  refine lv_if_lt (tgt := 22) hx hb dX4_takeBack_1 (by decide) (fun c9182 => ?_) (fun c9182 => ?_)
  · have c9182 := i_lt (a := x1.toInt) (b := 0) c9182 rfl (by decide)
    refine lv_iconst (v := 0) hx hb dX4_takeBack_22 (by decide) ?_
    have w9183 : 0 ≤ (0 : Int32).toInt := by first | omega | assumption
    have w9184 : (0 : Int32).toInt ≤ 1 := by first | omega | assumption
    exact W.zret (v := 0) hx hb hr (by decide) (fun t ht hW => ⟨⟨0, ((fun _ => g_untold), (fun _ => 0), (fun _ => 0), (fun _ => fun _ => 0)), rfl, ⟨w9183, w9184⟩, cE.of ht hP hD [0, 1] (by decide) rfl⟩, hS.F ht⟩) hS.2.2 dX4_takeBack_23
  · have c9182 := i_nlt (a := x1.toInt) (b := 0) c9182 rfl (by decide)
    refine lv_iload_n hx hb dX4_takeBack_4 rfl (lv_at hl 1 rfl) ?_
    refine lv_aload_n hx hb dX4_takeBack_5 rfl (lv_at hl 0 rfl) ?_
    refine va_get (D := (dC, dI)) (ci := 4) (v := .int g_count) (C := RX4) (T := TX4) (N := 5) hx hb hts hi4 hown hK hP 0 rfl rfl 4 (by decide) (hts _ (ow_m (k := 0) rfl)) (fun _ h9 => h9) rfl dX4_takeBack_6 ?_
    refine lv_icmp_ge (tgt := 22) hx hb dX4_takeBack_9 (by decide) (fun c9185 => ?_) (fun c9185 => ?_)
    · have c9185 := i_le (a := g_count.toInt) (b := x1.toInt) c9185 rfl rfl
      refine lv_iconst (v := 0) hx hb dX4_takeBack_22 (by decide) ?_
      have w9186 : 0 ≤ (0 : Int32).toInt := by first | omega | assumption
      have w9187 : (0 : Int32).toInt ≤ 1 := by first | omega | assumption
      exact W.zret (v := 0) hx hb hr (by decide) (fun t ht hW => ⟨⟨0, ((fun _ => g_untold), (fun _ => 0), (fun _ => 0), (fun _ => fun _ => 0)), rfl, ⟨w9186, w9187⟩, cE.of ht hP hD [0, 1] (by decide) rfl⟩, hS.F ht⟩) hS.2.2 dX4_takeBack_23
    · have c9185 := i_nle (a := g_count.toInt) (b := x1.toInt) c9185 rfl rfl
      refine lv_aload_n hx hb dX4_takeBack_12 rfl (lv_at hl 0 rfl) ?_
      refine va_get (D := (dC, dI)) (ci := 4) (v := .ref (gd 3)) (C := RX4) (T := TX4) (N := 5) hx hb hts hi4 hown hK hP 0 rfl rfl 3 (by decide) (hts _ (ow_m (k := 1) rfl)) (fun _ h9 => h9) rfl dX4_takeBack_13 ?_
      refine lv_iload_n hx hb dX4_takeBack_16 rfl (lv_at hl 1 rfl) ?_
      refine va_iald hx hb hK hP 1 1 rfl rfl (vp_i rfl (by omega) (by omega)) dX4_takeBack_17 ?_
      refine lv_topi (fun z9188 ez9188 => ?_)
      refine lv_iconst (v := (-1)) hx hb dX4_takeBack_18 (by decide) ?_
      refine lv_icmp_eq (tgt := 24) hx hb dX4_takeBack_19 (by decide) (fun c9189 => ?_) (fun c9189 => ?_)
      · have c9189 := i_eq (a := z9188.toInt) (b := (-1)) c9189 rfl (by decide)
        refine lv_aload_n hx hb dX4_takeBack_24 rfl (lv_at hl 0 rfl) ?_
        refine va_get (D := (dC, dI)) (ci := 4) (v := .ref (gd 3)) (C := RX4) (T := TX4) (N := 5) hx hb hts hi4 hown hK hP 0 rfl rfl 3 (by decide) (hts _ (ow_m (k := 1) rfl)) (fun _ h9 => h9) rfl dX4_takeBack_25 ?_
        refine lv_iload_n hx hb dX4_takeBack_28 rfl (lv_at hl 1 rfl) ?_
        refine lv_iload_n hx hb dX4_takeBack_29 rfl (lv_at hl 2 rfl) ?_
        refine va_iast hx hb hK hP hD hS 1 1 rfl rfl (vp_i rfl (by omega) (by omega)) dX4_takeBack_30 (fun H locs hP hD hS => ?_)
        have hP : va_P (dC, dI) vwCl [(hg, .inr (4, [.ref (gd 0), .ref (gd 1), .ref (gd 2), .ref (gd 3), .int g_count])), (gd 3, .inl (cyI, 30, .inl (upd g_untold x1.toNatClampNeg x2)))] H := hP
        have hD : va_D A [(hg, .inr (4, [.ref (gd 0), .ref (gd 1), .ref (gd 2), .ref (gd 3), .int g_count])), (gd 3, .inl (cyI, 30, .inl (upd g_untold x1.toNatClampNeg x2)))] := hD
        generalize ef9190 : upd g_untold x1.toNatClampNeg x2 = f9190 at hP hD
        refine lv_iconst (v := 1) hx hb dX4_takeBack_31 (by decide) ?_
        have w9191 : 0 ≤ (1 : Int32).toInt := by first | omega | assumption
        have w9192 : (1 : Int32).toInt ≤ 1 := by first | omega | assumption
        exact W.zret (v := 1) hx hb hr (by decide) (fun t ht hW => ⟨⟨1, ((fun _ => f9190), (fun _ => 0), (fun _ => 0), (fun _ => fun _ => 0)), rfl, ⟨w9191, w9192⟩, cE.of ht hP hD [0, 1] (by decide) rfl⟩, hS.F ht⟩) hS.2.2 dX4_takeBack_32
      · have c9189 := i_ne (a := z9188.toInt) (b := (-1)) c9189 rfl (by decide)
        refine lv_iconst (v := 0) hx hb dX4_takeBack_22 (by decide) ?_
        have w9193 : 0 ≤ (0 : Int32).toInt := by first | omega | assumption
        have w9194 : (0 : Int32).toInt ≤ 1 := by first | omega | assumption
        exact W.zret (v := 0) hx hb hr (by decide) (fun t ht hW => ⟨⟨0, ((fun _ => g_untold), (fun _ => 0), (fun _ => 0), (fun _ => fun _ => 0)), rfl, ⟨w9193, w9194⟩, cE.of ht hP hD [0, 1] (by decide) rfl⟩, hS.F ht⟩) hS.2.2 dX4_takeBack_23
def wo_k_Si_counts : List Cond := [.fieldLink RX4 22 "ReplicaChain$Sightings" "untoldAt" "[I", .fieldLink RX4 19 "ReplicaChain$Sightings" "toldAt" "[I"]
def wq_k_Si_counts : List Cond := .code yX4_counts cX4_counts 4 (some .boolean) :: (wo_k_Si_counts ++ (wsX40 ++ []))
theorem gd_k_Si_counts : Gd wq_k_Si_counts := gd_c (gd_a (gd_o (by decide +kernel)) (gd_a gd_u gd_0))
abbrev wc_k_Si_counts (cyB cyI cyJ cyZ cyO : ClassId) (hg : Nat) (gd : Nat → Nat) (g_toldAt : Nat → Int32) (g_untold : Nat → Int32) (g_count : Int32) (x1 : Int32) (x2 : Int32) : va_W := [(hg, .inr (4, [.ref (gd 0), .ref (gd 1), .ref (gd 2), .ref (gd 3), .int g_count])), (gd 2, .inl (cyI, 30, .inl g_toldAt)), (gd 3, .inl (cyI, 30, .inl g_untold))]
set_option maxHeartbeats 4000000 in
set_option maxRecDepth 100000 in
theorem k_Si_counts (l : Launch) (dC : Nat → ClassId) (dI : Nat → Nat → Nat) (cyB cyI cyJ cyZ cyO : ClassId) (hg : Nat) (gd : Nat → Nat) (g_toldAt : Nat → Int32) (g_untold : Nat → Int32) (g_count : Int32) (x1 : Int32) (x2 : Int32) (sz : Nat) (l_g_count : 0 ≤ g_count.toInt) (u_g_count : g_count.toInt ≤ 30) (l_x1 : 0 ≤ x1.toInt) (u_x1 : x1.toInt ≤ 29) : Met l yX4_counts wq_k_Si_counts ({ frames := 0, cells := 0, slots := 0, locals := 0 }) (va_Pc [.ref hg, .int x1, .int x2] (cB (dC, dI) (kT cyB cyI cyJ cyZ cyO) (wc_k_Si_counts cyB cyI cyJ cyZ cyO hg gd g_toldAt g_untold g_count x1 x2) sz)) (va_Qi (fun (r : Int32) (u : Unit) => (0 ≤ r.toInt) ∧ (r.toInt ≤ 1)) (fun (u : Unit) t => cE (dC, dI) (va_A (wc_k_Si_counts cyB cyI cyJ cyZ cyO hg gd g_toldAt g_untold g_count x1 x2) sz) ([(hg, .inr (4, [.ref (gd 0), .ref (gd 1), .ref (gd 2), .ref (gd 3), .int g_count])), (gd 2, .inl (cyI, 30, .inl g_toldAt)), (gd 3, .inl (cyI, 30, .inl g_untold))]) t.heap) (va_A (wc_k_Si_counts cyB cyI cyJ cyZ cyO hg gd g_toldAt g_untold g_count x1 x2) sz)) 0 0 (va_A (wc_k_Si_counts cyB cyI cyJ cyZ cyO hg gd g_toldAt g_untold g_count x1 x2) sz) := by
  refine Met.ofW (cc := cX4_counts) (maxL := 4) (ret := (some .boolean)) (by decide) rfl ?_
  intro p e s m args below meth c s₁ B hml hv
  obtain ⟨rfl, hsz, hP, hKN, hD0⟩ := hv
  have hx := B.exec
  have hb := B.bytes
  have hr := B.returns
  have hts := atoms_spec (ws := wq_k_Si_counts) B.pre
  have hown : s.vm.findClass RX4 = some m.cls := findClass_of_methodNamed B.named
  have hlocks := B.notSynchronized
  have hK := hKN.1
  have hfix : CallFix p m c cX4_counts 4 s [.ref hg, .int x1, .int x2].toArray wq_k_Si_counts RX4 := ⟨hx, hb, hml, hown, hts⟩
  have hi4 : ∀ w ∈ wsX40, w ∈ wq_k_Si_counts := (sb_c sb_l)
  subst hsz
  have hD := hD0.self (sz := s.heap.size)
  generalize hAe : va_A (wc_k_Si_counts cyB cyI cyJ cyZ cyO hg gd g_toldAt g_untold g_count x1 x2) s.heap.size = A at hD ⊢
  have hA : ∀ q : Nat, s.heap.size ≤ q → A q := fun q h => by rw [← hAe]; exact Or.inr h
  have hS : va_S A s.heap s.heap [] := va_S.rf
  have hl := lv_entry ([.ref hg, .int x1, .int x2]) (n := 4) (Nat.le_of_ble_eq_true rfl)
  rw [lg_entry_eq]
  generalize (lg_sl ([.ref hg, .int x1, .int x2]) ++ List.replicate (4 - (lg_sl ([.ref hg, .int x1, .int x2])).length) Slot.unset).toArray = ls at hl ⊢
  have hl : lv_has ls 4 [(0, .ref hg), (1, .int x1), (2, .int x2)] := hl
  have ck0 : (0 : Int32).toInt = 0 := by decide
  have ck1 : (1 : Int32).toInt = 1 := by decide
  refine lv_aload_n hx hb dX4_counts_0 rfl (lv_at hl 0 rfl) ?_
  refine va_get (D := (dC, dI)) (ci := 4) (v := .ref (gd 3)) (C := RX4) (T := TX4) (N := 5) hx hb hts hi4 hown hK hP 0 rfl rfl 3 (by decide) (hts _ (ow_m (k := 0) rfl)) (fun _ h9 => h9) rfl dX4_counts_1 ?_
  refine lv_iload_n hx hb dX4_counts_4 rfl (lv_at hl 1 rfl) ?_
  refine va_iald hx hb hK hP 2 1 rfl rfl (vp_i rfl (by omega) (by omega)) dX4_counts_5 ?_
  refine lv_topi (fun z9221 ez9221 => ?_)
  refine lv_iconst (v := (-1)) hx hb dX4_counts_6 (by decide) ?_
  refine lv_icmp_eq (tgt := 24) hx hb dX4_counts_7 (by decide) (fun c9222 => ?_) (fun c9222 => ?_)
  · have c9222 := i_eq (a := z9221.toInt) (b := (-1)) c9222 rfl (by decide)
    refine lv_iconst (v := 0) hx hb dX4_counts_24 (by decide) ?_
    refine lv_istore_n (lv' := [(3, .int 0), (0, .ref hg), (1, .int x1), (2, .int x2)]) hx hb dX4_counts_25 rfl hl (by decide) rfl (fun ls hl => ?_)
    refine lv_aload_n hx hb dX4_counts_26 rfl (lv_at hl 1 rfl) ?_
    refine va_get (D := (dC, dI)) (ci := 4) (v := .ref (gd 2)) (C := RX4) (T := TX4) (N := 5) hx hb hts hi4 hown hK hP 0 rfl rfl 2 (by decide) (hts _ (ow_m (k := 1) rfl)) (fun _ h9 => h9) rfl dX4_counts_27 ?_
    refine lv_iload_n hx hb dX4_counts_30 rfl (lv_at hl 2 rfl) ?_
    refine va_iald hx hb hK hP 1 1 rfl rfl (vp_i rfl (by omega) (by omega)) dX4_counts_31 ?_
    refine lv_topi (fun z9223 ez9223 => ?_)
    refine lv_iload_n hx hb dX4_counts_32 rfl (lv_at hl 3 rfl) ?_
    refine lv_icmp_gt (tgt := 44) hx hb dX4_counts_33 (by decide) (fun c9224 => ?_) (fun c9224 => ?_)
    · have c9224 := i_lt (a := x2.toInt) (b := z9223.toInt) c9224 rfl rfl
      refine lv_iconst (v := 0) hx hb dX4_counts_44 (by decide) ?_
      have w9225 : 0 ≤ (0 : Int32).toInt := by first | omega | assumption
      have w9226 : (0 : Int32).toInt ≤ 1 := by first | omega | assumption
      exact W.zret (v := 0) hx hb hr (by decide) (fun t ht hW => ⟨⟨0, (), rfl, ⟨w9225, w9226⟩, cE.of ht hP hD [0, 1, 2] (by decide) rfl⟩, hS.F ht⟩) hS.2.2 dX4_counts_45
    · have c9224 := i_nlt (a := x2.toInt) (b := z9223.toInt) c9224 rfl rfl
      refine lv_iload_n hx hb dX4_counts_36 rfl (lv_at hl 0 rfl) ?_
      refine lv_if_ne (tgt := 44) hx hb dX4_counts_37 (by decide) (fun c9227 => absurd (by decide) c9227) (fun _ => ?_)
      refine lv_iconst (v := 1) hx hb dX4_counts_40 (by decide) ?_
      refine lv_goto (tgt := 45) hx hb dX4_counts_41 (by decide) ?_
      have w9228 : 0 ≤ (1 : Int32).toInt := by first | omega | assumption
      have w9229 : (1 : Int32).toInt ≤ 1 := by first | omega | assumption
      exact W.zret (v := 1) hx hb hr (by decide) (fun t ht hW => ⟨⟨1, (), rfl, ⟨w9228, w9229⟩, cE.of ht hP hD [0, 1, 2] (by decide) rfl⟩, hS.F ht⟩) hS.2.2 dX4_counts_45
  · have c9222 := i_ne (a := z9221.toInt) (b := (-1)) c9222 rfl (by decide)
    refine lv_aload_n hx hb dX4_counts_10 rfl (lv_at hl 0 rfl) ?_
    refine va_get (D := (dC, dI)) (ci := 4) (v := .ref (gd 3)) (C := RX4) (T := TX4) (N := 5) hx hb hts hi4 hown hK hP 0 rfl rfl 3 (by decide) (hts _ (ow_m (k := 0) rfl)) (fun _ h9 => h9) rfl dX4_counts_11 ?_
    refine lv_iload_n hx hb dX4_counts_14 rfl (lv_at hl 1 rfl) ?_
    refine va_iald hx hb hK hP 2 1 rfl rfl (vp_i rfl (by omega) (by omega)) dX4_counts_15 ?_
    refine lv_topi (fun z9230 ez9230 => ?_)
    refine lv_iload_n hx hb dX4_counts_16 rfl (lv_at hl 2 rfl) ?_
    refine lv_icmp_gt (tgt := 24) hx hb dX4_counts_17 (by decide) (fun c9231 => ?_) (fun c9231 => ?_)
    · have c9231 := i_lt (a := x2.toInt) (b := z9230.toInt) c9231 rfl rfl
      refine lv_iconst (v := 0) hx hb dX4_counts_24 (by decide) ?_
      refine lv_istore_n (lv' := [(3, .int 0), (0, .ref hg), (1, .int x1), (2, .int x2)]) hx hb dX4_counts_25 rfl hl (by decide) rfl (fun ls hl => ?_)
      refine lv_aload_n hx hb dX4_counts_26 rfl (lv_at hl 1 rfl) ?_
      refine va_get (D := (dC, dI)) (ci := 4) (v := .ref (gd 2)) (C := RX4) (T := TX4) (N := 5) hx hb hts hi4 hown hK hP 0 rfl rfl 2 (by decide) (hts _ (ow_m (k := 1) rfl)) (fun _ h9 => h9) rfl dX4_counts_27 ?_
      refine lv_iload_n hx hb dX4_counts_30 rfl (lv_at hl 2 rfl) ?_
      refine va_iald hx hb hK hP 1 1 rfl rfl (vp_i rfl (by omega) (by omega)) dX4_counts_31 ?_
      refine lv_topi (fun z9232 ez9232 => ?_)
      refine lv_iload_n hx hb dX4_counts_32 rfl (lv_at hl 3 rfl) ?_
      refine lv_icmp_gt (tgt := 44) hx hb dX4_counts_33 (by decide) (fun c9233 => ?_) (fun c9233 => ?_)
      · have c9233 := i_lt (a := x2.toInt) (b := z9232.toInt) c9233 rfl rfl
        refine lv_iconst (v := 0) hx hb dX4_counts_44 (by decide) ?_
        have w9234 : 0 ≤ (0 : Int32).toInt := by first | omega | assumption
        have w9235 : (0 : Int32).toInt ≤ 1 := by first | omega | assumption
        exact W.zret (v := 0) hx hb hr (by decide) (fun t ht hW => ⟨⟨0, (), rfl, ⟨w9234, w9235⟩, cE.of ht hP hD [0, 1, 2] (by decide) rfl⟩, hS.F ht⟩) hS.2.2 dX4_counts_45
      · have c9233 := i_nlt (a := x2.toInt) (b := z9232.toInt) c9233 rfl rfl
        refine lv_iload_n hx hb dX4_counts_36 rfl (lv_at hl 0 rfl) ?_
        refine lv_if_ne (tgt := 44) hx hb dX4_counts_37 (by decide) (fun c9236 => absurd (by decide) c9236) (fun _ => ?_)
        refine lv_iconst (v := 1) hx hb dX4_counts_40 (by decide) ?_
        refine lv_goto (tgt := 45) hx hb dX4_counts_41 (by decide) ?_
        have w9237 : 0 ≤ (1 : Int32).toInt := by first | omega | assumption
        have w9238 : (1 : Int32).toInt ≤ 1 := by first | omega | assumption
        exact W.zret (v := 1) hx hb hr (by decide) (fun t ht hW => ⟨⟨1, (), rfl, ⟨w9237, w9238⟩, cE.of ht hP hD [0, 1, 2] (by decide) rfl⟩, hS.F ht⟩) hS.2.2 dX4_counts_45
    · have c9231 := i_nlt (a := x2.toInt) (b := z9230.toInt) c9231 rfl rfl
      refine lv_iconst (v := 1) hx hb dX4_counts_20 (by decide) ?_
      refine lv_goto (tgt := 25) hx hb dX4_counts_21 (by decide) ?_
      refine lv_istore_n (lv' := [(3, .int 1), (0, .ref hg), (1, .int x1), (2, .int x2)]) hx hb dX4_counts_25 rfl hl (by decide) rfl (fun ls hl => ?_)
      refine lv_aload_n hx hb dX4_counts_26 rfl (lv_at hl 1 rfl) ?_
      refine va_get (D := (dC, dI)) (ci := 4) (v := .ref (gd 2)) (C := RX4) (T := TX4) (N := 5) hx hb hts hi4 hown hK hP 0 rfl rfl 2 (by decide) (hts _ (ow_m (k := 1) rfl)) (fun _ h9 => h9) rfl dX4_counts_27 ?_
      refine lv_iload_n hx hb dX4_counts_30 rfl (lv_at hl 2 rfl) ?_
      refine va_iald hx hb hK hP 1 1 rfl rfl (vp_i rfl (by omega) (by omega)) dX4_counts_31 ?_
      refine lv_topi (fun z9239 ez9239 => ?_)
      refine lv_iload_n hx hb dX4_counts_32 rfl (lv_at hl 3 rfl) ?_
      refine lv_icmp_gt (tgt := 44) hx hb dX4_counts_33 (by decide) (fun c9240 => ?_) (fun c9240 => ?_)
      · have c9240 := i_lt (a := x2.toInt) (b := z9239.toInt) c9240 rfl rfl
        refine lv_iconst (v := 0) hx hb dX4_counts_44 (by decide) ?_
        have w9241 : 0 ≤ (0 : Int32).toInt := by first | omega | assumption
        have w9242 : (0 : Int32).toInt ≤ 1 := by first | omega | assumption
        exact W.zret (v := 0) hx hb hr (by decide) (fun t ht hW => ⟨⟨0, (), rfl, ⟨w9241, w9242⟩, cE.of ht hP hD [0, 1, 2] (by decide) rfl⟩, hS.F ht⟩) hS.2.2 dX4_counts_45
      · have c9240 := i_nlt (a := x2.toInt) (b := z9239.toInt) c9240 rfl rfl
        refine lv_iload_n hx hb dX4_counts_36 rfl (lv_at hl 0 rfl) ?_
        refine lv_if_ne (tgt := 44) hx hb dX4_counts_37 (by decide) (fun _ => ?_) (fun c9243 => absurd c9243 (by decide))
        refine lv_iconst (v := 0) hx hb dX4_counts_44 (by decide) ?_
        have w9244 : 0 ≤ (0 : Int32).toInt := by first | omega | assumption
        have w9245 : (0 : Int32).toInt ≤ 1 := by first | omega | assumption
        exact W.zret (v := 0) hx hb hr (by decide) (fun t ht hW => ⟨⟨0, (), rfl, ⟨w9244, w9245⟩, cE.of ht hP hD [0, 1, 2] (by decide) rfl⟩, hS.F ht⟩) hS.2.2 dX4_counts_45
def wo_k_Si_allow : List Cond := [.fieldLink RX4 25 "ReplicaChain$Sightings" "count" "I", .methodLink RX4 29 yX4_counts, .instanceMethod yX4_counts, .selects RX4 yX4_counts yX4_counts, .initialized RX4, .fieldLink RX4 15 "ReplicaChain$Sightings" "is" "[Z", .fieldLink RX4 9 "ReplicaChain$Sightings" "ticks" "[I"]
def wq_k_Si_allow : List Cond := .code yX4_allow cX4_allow 4 (some .boolean) :: (wo_k_Si_allow ++ (wq_k_Si_counts ++ (wsX40 ++ [])))
theorem gd_k_Si_allow : Gd wq_k_Si_allow := gd_c (gd_a (gd_o (by decide +kernel)) (gd_a gd_k_Si_counts (gd_a gd_u gd_0)))
abbrev wc_k_Si_allow (cyB cyI cyJ cyZ cyO : ClassId) (hg : Nat) (gd : Nat → Nat) (g_ticks : Nat → Int32) (g_is : Nat → Int32) (g_toldAt : Nat → Int32) (g_untold : Nat → Int32) (g_count : Int32) (x1 : Int32) (x2 : Int32) : va_W := [(hg, .inr (4, [.ref (gd 0), .ref (gd 1), .ref (gd 2), .ref (gd 3), .int g_count])), (gd 0, .inl (cyI, 30, .inl g_ticks)), (gd 1, .inl (cyZ, 30, .inl g_is)), (gd 2, .inl (cyI, 30, .inl g_toldAt)), (gd 3, .inl (cyI, 30, .inl g_untold))]
set_option maxHeartbeats 4000000 in
set_option maxRecDepth 100000 in
theorem k_Si_allow (l : Launch) (dC : Nat → ClassId) (dI : Nat → Nat → Nat) (cyB cyI cyJ cyZ cyO : ClassId) (hg : Nat) (gd : Nat → Nat) (g_ticks : Nat → Int32) (g_is : Nat → Int32) (g_toldAt : Nat → Int32) (g_untold : Nat → Int32) (g_count : Int32) (x1 : Int32) (x2 : Int32) (sz : Nat) (l_g_count : 0 ≤ g_count.toInt) (u_g_count : g_count.toInt ≤ 30) : Met l yX4_allow wq_k_Si_allow ({ frames := 1, cells := 0, slots := 0, locals := 23 }) (va_Pc [.ref hg, .int x1, .int x2] (cB (dC, dI) (kT cyB cyI cyJ cyZ cyO) (wc_k_Si_allow cyB cyI cyJ cyZ cyO hg gd g_ticks g_is g_toldAt g_untold g_count x1 x2) sz)) (va_Qi (fun (r : Int32) (u : Unit) => (0 ≤ r.toInt) ∧ (r.toInt ≤ 1)) (fun (u : Unit) t => cE (dC, dI) (va_A (wc_k_Si_allow cyB cyI cyJ cyZ cyO hg gd g_ticks g_is g_toldAt g_untold g_count x1 x2) sz) ([(hg, .inr (4, [.ref (gd 0), .ref (gd 1), .ref (gd 2), .ref (gd 3), .int g_count])), (gd 0, .inl (cyI, 30, .inl g_ticks)), (gd 1, .inl (cyZ, 30, .inl g_is)), (gd 2, .inl (cyI, 30, .inl g_toldAt)), (gd 3, .inl (cyI, 30, .inl g_untold))]) t.heap) (va_A (wc_k_Si_allow cyB cyI cyJ cyZ cyO hg gd g_ticks g_is g_toldAt g_untold g_count x1 x2) sz)) 0 0 (va_A (wc_k_Si_allow cyB cyI cyJ cyZ cyO hg gd g_ticks g_is g_toldAt g_untold g_count x1 x2) sz) := by
  refine Met.ofW (cc := cX4_allow) (maxL := 4) (ret := (some .boolean)) (by decide) rfl ?_
  intro p e s m args below meth c s₁ B hml hv
  obtain ⟨rfl, hsz, hP, hKN, hD0⟩ := hv
  have hx := B.exec
  have hb := B.bytes
  have hr := B.returns
  have hts := atoms_spec (ws := wq_k_Si_allow) B.pre
  have hown : s.vm.findClass RX4 = some m.cls := findClass_of_methodNamed B.named
  have hlocks := B.notSynchronized
  have hK := hKN.1
  have hfix : CallFix p m c cX4_allow 4 s [.ref hg, .int x1, .int x2].toArray wq_k_Si_allow RX4 := ⟨hx, hb, hml, hown, hts⟩
  have hi4 : ∀ w ∈ wsX40, w ∈ wq_k_Si_allow := (sb_c (sb_r sb_l))
  subst hsz
  have hD := hD0.self (sz := s.heap.size)
  generalize hAe : va_A (wc_k_Si_allow cyB cyI cyJ cyZ cyO hg gd g_ticks g_is g_toldAt g_untold g_count x1 x2) s.heap.size = A at hD ⊢
  have hA : ∀ q : Nat, s.heap.size ≤ q → A q := fun q h => by rw [← hAe]; exact Or.inr h
  have hS : va_S A s.heap s.heap [] := va_S.rf
  have hl := lv_entry ([.ref hg, .int x1, .int x2]) (n := 4) (Nat.le_of_ble_eq_true rfl)
  rw [lg_entry_eq]
  generalize (lg_sl ([.ref hg, .int x1, .int x2]) ++ List.replicate (4 - (lg_sl ([.ref hg, .int x1, .int x2])).length) Slot.unset).toArray = ls at hl ⊢
  have hl : lv_has ls 4 [(0, .ref hg), (1, .int x1), (2, .int x2)] := hl
  have ck0 : (0 : Int32).toInt = 0 := by decide
  have ck1 : (1 : Int32).toInt = 1 := by decide
  refine lv_iconst (v := 0) hx hb dX4_allow_0 (by decide) ?_
  refine lv_istore_n (lv' := [(3, .int 0), (0, .ref hg), (1, .int x1), (2, .int x2)]) hx hb dX4_allow_1 rfl hl (by decide) rfl (fun ls hl => ?_)
  refine w_gen (fun H locs ls hP hS hl => ?_) hP hS hl
  obtain ⟨v9996, hl2, hP2, hD2, b9997, b9998⟩ : ∃ (v9996 : Int32), lv_has ls 4 [(3, .int v9996), (0, .ref hg), (1, .int x1), (2, .int x2)] ∧ va_P (dC, dI) vwCl [(hg, .inr (4, [.ref (gd 0), .ref (gd 1), .ref (gd 2), .ref (gd 3), .int g_count])), (gd 0, .inl (cyI, 30, .inl g_ticks)), (gd 1, .inl (cyZ, 30, .inl g_is)), (gd 2, .inl (cyI, 30, .inl g_toldAt)), (gd 3, .inl (cyI, 30, .inl g_untold))] H ∧ va_D A [(hg, .inr (4, [.ref (gd 0), .ref (gd 1), .ref (gd 2), .ref (gd 3), .int g_count])), (gd 0, .inl (cyI, 30, .inl g_ticks)), (gd 1, .inl (cyZ, 30, .inl g_is)), (gd 2, .inl (cyI, 30, .inl g_toldAt)), (gd 3, .inl (cyI, 30, .inl g_untold))] ∧ (0 ≤ v9996.toInt) ∧ (v9996.toInt ≤ 30) := ⟨(0 : Int32), hl, hP, hD, by first | assumption | omega, by first | assumption | omega⟩
  clear hP hl
  have hP := hP2
  have hD := hD2
  have hl := hl2
  clear hP2 hD2 hl2
  obtain ⟨n9999, hn9999⟩ : ∃ n : Nat, 30 - v9996.toInt < (n : Int) := ⟨(30 - v9996.toInt).toNat + 1, by omega⟩
  induction n9999 generalizing v9996 H locs ls with
  | zero => exfalso; omega
  | succ n9999 ih10000 =>
    refine lv_iload_n hx hb dX4_allow_2 rfl (lv_at hl 0 rfl) ?_
    refine lv_aload_n hx hb dX4_allow_3 rfl (lv_at hl 1 rfl) ?_
    refine va_get (D := (dC, dI)) (ci := 4) (v := .int g_count) (C := RX4) (T := TX4) (N := 5) hx hb hts hi4 hown hK hP 0 rfl rfl 4 (by decide) (hts _ (ow_m (k := 0) rfl)) (fun _ h9 => h9) rfl dX4_allow_4 ?_
    refine lv_icmp_ge (tgt := 51) hx hb dX4_allow_7 (by decide) (fun c10001 => ?_) (fun c10001 => ?_)
    · have c10001 := i_le (a := g_count.toInt) (b := v9996.toInt) c10001 rfl rfl
      refine lv_iconst (v := 1) hx hb dX4_allow_51 (by decide) ?_
      have w10002 : 0 ≤ (1 : Int32).toInt := by first | omega | assumption
      have w10003 : (1 : Int32).toInt ≤ 1 := by first | omega | assumption
      exact W.zret (v := 1) hx hb hr (by decide) (fun t ht hW => ⟨⟨1, (), rfl, ⟨w10002, w10003⟩, cE.of ht hP hD [0, 1, 2, 3, 4] (by decide) rfl⟩, hS.F ht⟩) hS.2.2 dX4_allow_52
    · have c10001 := i_nle (a := g_count.toInt) (b := v9996.toInt) c10001 rfl rfl
      refine lv_aload_n hx hb dX4_allow_10 rfl (lv_at hl 1 rfl) ?_
      refine lv_iload_n hx hb dX4_allow_11 rfl (lv_at hl 0 rfl) ?_
      refine lv_iload_n hx hb dX4_allow_12 rfl (lv_at hl 3 rfl) ?_
      refine gf_i (wr := [(gd 0, .inl (cyI, 30, .inl g_ticks)), (gd 1, .inl (cyZ, 30, .inl g_is))]) (va_runV (As := [.int v9996, .int x2]) (rest := []) hfix (k_Si_counts l dC dI cyB cyI cyJ cyZ cyO hg gd g_toldAt g_untold g_count v9996 x2 _ (by first | omega | assumption) (by first | omega | assumption) (by first | omega | assumption) (by first | omega | assumption)) (cwV 2 hts (gi_V (ow_m (k := 1) rfl) (ow_m (k := 2) rfl) (ow_m (k := 3) rfl) (ow_m (k := 4) rfl) (sb_c sb_l) gd_k_Si_counts) rfl rfl rfl (by decide +kernel) ⟨Nat.le_of_ble_eq_true rfl, Nat.le_of_ble_eq_true rfl⟩) (g_preV hKN hP hD [0, 3, 4] rfl (by decide) 0 4 rfl rfl) rfl rfl hl.1 rfl (lv_room (Nat.le_of_ble_eq_true rfl)) dX4_allow_13 ⟨Nat.le_of_ble_eq_true rfl, Nat.le_of_ble_eq_true rfl⟩) hP hD hS hA [0, 3, 4] [1, 2] rfl rfl (by decide) (by decide) (fun r10004 u10005 H locs qu10005 hP hD hS => ?_)
      obtain ⟨b10006, b10007⟩ := qu10005
      have hP : va_P (dC, dI) vwCl [(gd 0, .inl (cyI, 30, .inl g_ticks)), (gd 1, .inl (cyZ, 30, .inl g_is)), (hg, .inr (4, [.ref (gd 0), .ref (gd 1), .ref (gd 2), .ref (gd 3), .int g_count])), (gd 2, .inl (cyI, 30, .inl g_toldAt)), (gd 3, .inl (cyI, 30, .inl g_untold))] H := hP
      have hD : va_D A [(gd 0, .inl (cyI, 30, .inl g_ticks)), (gd 1, .inl (cyZ, 30, .inl g_is)), (hg, .inr (4, [.ref (gd 0), .ref (gd 1), .ref (gd 2), .ref (gd 3), .int g_count])), (gd 2, .inl (cyI, 30, .inl g_toldAt)), (gd 3, .inl (cyI, 30, .inl g_untold))] := hD
      refine lv_if_eq (tgt := 45) hx hb dX4_allow_16 (by decide) (fun c10008 => ?_) (fun c10008 => ?_)
      · have c10008 := i_eq (a := r10004.toInt) (b := 0) c10008 rfl (by decide)
        obtain ⟨z10009, ez10009⟩ : ∃ y : Int32, y = v9996 + 1 := ⟨_, rfl⟩
        have tz10009 := ti_add (a := v9996.toInt) (b := 1) ez10009 rfl (by decide) (by omega) (by omega)
        refine lv_iinc (v := z10009) (lv' := [(3, .int z10009), (0, .ref hg), (1, .int x1), (2, .int x2)]) hx hb dX4_allow_45 hl (k := 0) rfl (by rw [ez10009]; rfl) (by decide) rfl (fun ls hl => ?_)
        refine lv_goto (tgt := 2) hx hb dX4_allow_48 (by decide) ?_
        have hl := lv_sub (l' := [(3, .int z10009), (0, .ref hg), (1, .int x1), (2, .int x2)]) hl [0, 1, 2, 3] rfl
        have hP : va_P (dC, dI) vwCl [(hg, .inr (4, [.ref (gd 0), .ref (gd 1), .ref (gd 2), .ref (gd 3), .int g_count])), (gd 0, .inl (cyI, 30, .inl g_ticks)), (gd 1, .inl (cyZ, 30, .inl g_is)), (gd 2, .inl (cyI, 30, .inl g_toldAt)), (gd 3, .inl (cyI, 30, .inl g_untold))] H := g_sub (isC := [2, 0, 1, 3, 4]) hP rfl
        have hD : va_D A [(hg, .inr (4, [.ref (gd 0), .ref (gd 1), .ref (gd 2), .ref (gd 3), .int g_count])), (gd 0, .inl (cyI, 30, .inl g_ticks)), (gd 1, .inl (cyZ, 30, .inl g_is)), (gd 2, .inl (cyI, 30, .inl g_toldAt)), (gd 3, .inl (cyI, 30, .inl g_untold))] := hD.sub [2, 0, 1, 3, 4] (by decide) rfl
        apply ih10000 (v9996 := z10009) (H := H) (locs := locs) (ls := ls) <;> first | assumption | omega
      · have c10008 := i_ne (a := r10004.toInt) (b := 0) c10008 rfl (by decide)
        refine lv_aload_n hx hb dX4_allow_19 rfl (lv_at hl 1 rfl) ?_
        refine va_get (D := (dC, dI)) (ci := 4) (v := .ref (gd 1)) (C := RX4) (T := TX4) (N := 5) hx hb hts hi4 hown hK hP 2 rfl rfl 1 (by decide) (hts _ (ow_m (k := 5) rfl)) (fun _ h9 => h9) rfl dX4_allow_20 ?_
        refine lv_iload_n hx hb dX4_allow_23 rfl (lv_at hl 0 rfl) ?_
        refine va_zald hx hb hK hP 1 3 rfl rfl (vp_i rfl (by omega) (by omega)) dX4_allow_24 ?_
        refine lv_topi (fun z10010 ez10010 => ?_)
        refine lv_iload_n hx hb dX4_allow_25 rfl (lv_at hl 2 rfl) ?_
        refine lv_aload_n hx hb dX4_allow_26 rfl (lv_at hl 1 rfl) ?_
        refine va_get (D := (dC, dI)) (ci := 4) (v := .ref (gd 0)) (C := RX4) (T := TX4) (N := 5) hx hb hts hi4 hown hK hP 2 rfl rfl 0 (by decide) (hts _ (ow_m (k := 6) rfl)) (fun _ h9 => h9) rfl dX4_allow_27 ?_
        refine lv_iload_n hx hb dX4_allow_30 rfl (lv_at hl 0 rfl) ?_
        refine va_iald hx hb hK hP 0 1 rfl rfl (vp_i rfl (by omega) (by omega)) dX4_allow_31 ?_
        refine lv_topi (fun z10011 ez10011 => ?_)
        refine lv_icmp_gt (tgt := 39) hx hb dX4_allow_32 (by decide) (fun c10012 => ?_) (fun c10012 => ?_)
        · have c10012 := i_lt (a := z10011.toInt) (b := x1.toInt) c10012 rfl rfl
          refine lv_iconst (v := 0) hx hb dX4_allow_39 (by decide) ?_
          refine lv_icmp_eq (tgt := 45) hx hb dX4_allow_40 (by decide) (fun c10013 => ?_) (fun c10013 => ?_)
          · have c10013 := i_eq (a := z10010.toInt) (b := 0) c10013 rfl (by decide)
            obtain ⟨z10014, ez10014⟩ : ∃ y : Int32, y = v9996 + 1 := ⟨_, rfl⟩
            have tz10014 := ti_add (a := v9996.toInt) (b := 1) ez10014 rfl (by decide) (by omega) (by omega)
            refine lv_iinc (v := z10014) (lv' := [(3, .int z10014), (0, .ref hg), (1, .int x1), (2, .int x2)]) hx hb dX4_allow_45 hl (k := 0) rfl (by rw [ez10014]; rfl) (by decide) rfl (fun ls hl => ?_)
            refine lv_goto (tgt := 2) hx hb dX4_allow_48 (by decide) ?_
            have hl := lv_sub (l' := [(3, .int z10014), (0, .ref hg), (1, .int x1), (2, .int x2)]) hl [0, 1, 2, 3] rfl
            have hP : va_P (dC, dI) vwCl [(hg, .inr (4, [.ref (gd 0), .ref (gd 1), .ref (gd 2), .ref (gd 3), .int g_count])), (gd 0, .inl (cyI, 30, .inl g_ticks)), (gd 1, .inl (cyZ, 30, .inl g_is)), (gd 2, .inl (cyI, 30, .inl g_toldAt)), (gd 3, .inl (cyI, 30, .inl g_untold))] H := g_sub (isC := [2, 0, 1, 3, 4]) hP rfl
            have hD : va_D A [(hg, .inr (4, [.ref (gd 0), .ref (gd 1), .ref (gd 2), .ref (gd 3), .int g_count])), (gd 0, .inl (cyI, 30, .inl g_ticks)), (gd 1, .inl (cyZ, 30, .inl g_is)), (gd 2, .inl (cyI, 30, .inl g_toldAt)), (gd 3, .inl (cyI, 30, .inl g_untold))] := hD.sub [2, 0, 1, 3, 4] (by decide) rfl
            apply ih10000 (v9996 := z10014) (H := H) (locs := locs) (ls := ls) <;> first | assumption | omega
          · have c10013 := i_ne (a := z10010.toInt) (b := 0) c10013 rfl (by decide)
            refine lv_iconst (v := 0) hx hb dX4_allow_43 (by decide) ?_
            have w10015 : 0 ≤ (0 : Int32).toInt := by first | omega | assumption
            have w10016 : (0 : Int32).toInt ≤ 1 := by first | omega | assumption
            exact W.zret (v := 0) hx hb hr (by decide) (fun t ht hW => ⟨⟨0, (), rfl, ⟨w10015, w10016⟩, cE.of ht hP hD [2, 0, 1, 3, 4] (by decide) rfl⟩, hS.F ht⟩) hS.2.2 dX4_allow_44
        · have c10012 := i_nlt (a := z10011.toInt) (b := x1.toInt) c10012 rfl rfl
          refine lv_iconst (v := 1) hx hb dX4_allow_35 (by decide) ?_
          refine lv_goto (tgt := 40) hx hb dX4_allow_36 (by decide) ?_
          refine lv_icmp_eq (tgt := 45) hx hb dX4_allow_40 (by decide) (fun c10017 => ?_) (fun c10017 => ?_)
          · have c10017 := i_eq (a := z10010.toInt) (b := 1) c10017 rfl (by decide)
            obtain ⟨z10018, ez10018⟩ : ∃ y : Int32, y = v9996 + 1 := ⟨_, rfl⟩
            have tz10018 := ti_add (a := v9996.toInt) (b := 1) ez10018 rfl (by decide) (by omega) (by omega)
            refine lv_iinc (v := z10018) (lv' := [(3, .int z10018), (0, .ref hg), (1, .int x1), (2, .int x2)]) hx hb dX4_allow_45 hl (k := 0) rfl (by rw [ez10018]; rfl) (by decide) rfl (fun ls hl => ?_)
            refine lv_goto (tgt := 2) hx hb dX4_allow_48 (by decide) ?_
            have hl := lv_sub (l' := [(3, .int z10018), (0, .ref hg), (1, .int x1), (2, .int x2)]) hl [0, 1, 2, 3] rfl
            have hP : va_P (dC, dI) vwCl [(hg, .inr (4, [.ref (gd 0), .ref (gd 1), .ref (gd 2), .ref (gd 3), .int g_count])), (gd 0, .inl (cyI, 30, .inl g_ticks)), (gd 1, .inl (cyZ, 30, .inl g_is)), (gd 2, .inl (cyI, 30, .inl g_toldAt)), (gd 3, .inl (cyI, 30, .inl g_untold))] H := g_sub (isC := [2, 0, 1, 3, 4]) hP rfl
            have hD : va_D A [(hg, .inr (4, [.ref (gd 0), .ref (gd 1), .ref (gd 2), .ref (gd 3), .int g_count])), (gd 0, .inl (cyI, 30, .inl g_ticks)), (gd 1, .inl (cyZ, 30, .inl g_is)), (gd 2, .inl (cyI, 30, .inl g_toldAt)), (gd 3, .inl (cyI, 30, .inl g_untold))] := hD.sub [2, 0, 1, 3, 4] (by decide) rfl
            apply ih10000 (v9996 := z10018) (H := H) (locs := locs) (ls := ls) <;> first | assumption | omega
          · have c10017 := i_ne (a := z10010.toInt) (b := 1) c10017 rfl (by decide)
            refine lv_iconst (v := 0) hx hb dX4_allow_43 (by decide) ?_
            have w10019 : 0 ≤ (0 : Int32).toInt := by first | omega | assumption
            have w10020 : (0 : Int32).toInt ≤ 1 := by first | omega | assumption
            exact W.zret (v := 0) hx hb hr (by decide) (fun t ht hW => ⟨⟨0, (), rfl, ⟨w10019, w10020⟩, cE.of ht hP hD [2, 0, 1, 3, 4] (by decide) rfl⟩, hS.F ht⟩) hS.2.2 dX4_allow_44
