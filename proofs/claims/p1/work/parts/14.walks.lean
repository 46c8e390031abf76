def wo_k_X5_copyFrom_v7 : List Cond := [.fieldLink RX5 9 "ReplicaChain$State" "row" "[I", .methodLink RX5 63 arraycopyName, .native arraycopyName, .static arraycopyName, .initialized "java/lang/System", .fieldLink RX5 15 "ReplicaChain$State" "has" "[I", .fieldLink RX5 18 "ReplicaChain$State" "clean" "[I", .fieldLink RX5 21 "ReplicaChain$State" "downDue" "[I", .fieldLink RX5 24 "ReplicaChain$State" "upDue" "[I", .fieldLink RX5 27 "ReplicaChain$State" "keys" "[I", .fieldLink RX5 30 "ReplicaChain$State" "values" "[I", .fieldLink RX5 42 "ReplicaChain$State" "size" "I", .fieldLink RX5 33 "ReplicaChain$State" "copier" "I", .fieldLink RX5 48 "ReplicaChain$State" "copyLeft" "I", .fieldLink RX5 51 "ReplicaChain$State" "tick" "I", .fieldLink RX5 57 "ReplicaChain$State" "seed" "I", .fieldLink RX5 60 "ReplicaChain$State" "dropped" "I"]
def wq_k_X5_copyFrom_v7 : List Cond := .code yX5_copyFrom cX5_copyFrom 2 none :: (wo_k_X5_copyFrom_v7 ++ (wsX50 ++ []))
theorem gd_k_X5_copyFrom_v7 : Gd wq_k_X5_copyFrom_v7 := gd_c (gd_a (gd_o (by decide +kernel)) (gd_a gd_u gd_0))
abbrev wc_k_X5_copyFrom_v7 (cyB cyI cyJ cyZ cyO : ClassId) (ad : Nat → Nat) (sd : Nat → Nat) (q1431 : Nat) (u1447 : Nat → Nat) : va_W := [(ad 9, .inr (5, [.ref (sd 0), .ref (sd 1), .ref (sd 2), .ref (sd 3), .ref (sd 4), .ref (sd 5), .ref (sd 6), .int 0, .int (-1), .int 0, .int 0, .int 0, .int 0])), (sd 0, .inl (cyI, 6, .inl (fun _ => 0))), (sd 1, .inl (cyI, 8, .inl (fun _ => 0))), (sd 2, .inl (cyI, 8, .inl (fun _ => 0))), (sd 3, .inl (cyI, 328, .inl (fun _ => 0))), (sd 4, .inl (cyI, 328, .inl (fun _ => 0))), (sd 5, .inl (cyI, 41, .inl (fun _ => 0))), (sd 6, .inl (cyI, 41, .inl (fun _ => 0))), (q1431, .inr (5, [.ref (u1447 0), .ref (u1447 1), .ref (u1447 2), .ref (u1447 3), .ref (u1447 4), .ref (u1447 5), .ref (u1447 6), .int 0, .int (-1), .int 0, .int 0, .int 0, .int 0])), (u1447 0, .inl (cyI, 6, .inl (fun _ => 0))), (u1447 1, .inl (cyI, 8, .inl (fun _ => 0))), (u1447 2, .inl (cyI, 8, .inl (fun _ => 0))), (u1447 3, .inl (cyI, 328, .inl (fun _ => 0))), (u1447 4, .inl (cyI, 328, .inl (fun _ => 0))), (u1447 5, .inl (cyI, 41, .inl (fun _ => 0))), (u1447 6, .inl (cyI, 41, .inl (fun _ => 0)))]
set_option maxHeartbeats 4000000 in
set_option maxRecDepth 100000 in
theorem k_X5_copyFrom_v7 (l : Launch) (dC : Nat → ClassId) (dI : Nat → Nat → Nat) (cyB cyI cyJ cyZ cyO : ClassId) (ad : Nat → Nat) (sd : Nat → Nat) (q1431 : Nat) (u1447 : Nat → Nat) (sz : Nat) : Met l yX5_copyFrom wq_k_X5_copyFrom_v7 ({ frames := 1, cells := 0, slots := 0, locals := 80 }) (va_Pc [.ref q1431, .ref (ad 9)] (cB (dC, dI) (kT cyB cyI cyJ cyZ cyO) (wc_k_X5_copyFrom_v7 cyB cyI cyJ cyZ cyO ad sd q1431 u1447) sz)) (va_Qv (fun _ => True) (fun (u : Unit) t => cE (dC, dI) (va_A (wc_k_X5_copyFrom_v7 cyB cyI cyJ cyZ cyO ad sd q1431 u1447) sz) ([(ad 9, .inr (5, [.ref (sd 0), .ref (sd 1), .ref (sd 2), .ref (sd 3), .ref (sd 4), .ref (sd 5), .ref (sd 6), .int 0, .int (-1), .int 0, .int 0, .int 0, .int 0])), (sd 0, .inl (cyI, 6, .inl (fun _ => 0))), (sd 1, .inl (cyI, 8, .inl (fun _ => 0))), (sd 2, .inl (cyI, 8, .inl (fun _ => 0))), (sd 3, .inl (cyI, 328, .inl (fun _ => 0))), (sd 4, .inl (cyI, 328, .inl (fun _ => 0))), (sd 5, .inl (cyI, 41, .inl (fun _ => 0))), (sd 6, .inl (cyI, 41, .inl (fun _ => 0))), (q1431, .inr (5, [.ref (u1447 0), .ref (u1447 1), .ref (u1447 2), .ref (u1447 3), .ref (u1447 4), .ref (u1447 5), .ref (u1447 6), .int 0, .int (-1), .int 0, .int 0, .int 0, .int 0])), (u1447 0, .inl (cyI, 6, .inl (fun _ => 0))), (u1447 1, .inl (cyI, 8, .inl (fun _ => 0))), (u1447 2, .inl (cyI, 8, .inl (fun _ => 0))), (u1447 3, .inl (cyI, 328, .inl (fun _ => 0))), (u1447 4, .inl (cyI, 328, .inl (fun _ => 0))), (u1447 5, .inl (cyI, 41, .inl (fun _ => 0))), (u1447 6, .inl (cyI, 41, .inl (fun _ => 0)))]) t.heap) (va_A (wc_k_X5_copyFrom_v7 cyB cyI cyJ cyZ cyO ad sd q1431 u1447) sz)) 0 0 (va_A (wc_k_X5_copyFrom_v7 cyB cyI cyJ cyZ cyO ad sd q1431 u1447) sz) := by
  refine Met.ofW (cc := cX5_copyFrom) (maxL := 2) (ret := none) (by decide) rfl ?_
  intro p e s m args below meth c s₁ B hml hv
  obtain ⟨rfl, hsz, hP, hKN, hD0⟩ := hv
  have hx := B.exec
  have hb := B.bytes
  have hr := B.returns
  have hts := atoms_spec (ws := wq_k_X5_copyFrom_v7) B.pre
  have hown : s.vm.findClass RX5 = some m.cls := findClass_of_methodNamed B.named
  have hlocks := B.notSynchronized
  have hK := hKN.1
  have hfix : CallFix p m c cX5_copyFrom 2 s [.ref q1431, .ref (ad 9)].toArray wq_k_X5_copyFrom_v7 RX5 := ⟨hx, hb, hml, hown, hts⟩
  have hi5 : ∀ w ∈ wsX50, w ∈ wq_k_X5_copyFrom_v7 := (sb_c sb_l)
  subst hsz
  have hD := hD0.self (sz := s.heap.size)
  generalize hAe : va_A (wc_k_X5_copyFrom_v7 cyB cyI cyJ cyZ cyO ad sd q1431 u1447) s.heap.size = A at hD ⊢
  have hA : ∀ q : Nat, s.heap.size ≤ q → A q := fun q h => by rw [← hAe]; exact Or.inr h
  have hS : va_S A s.heap s.heap [] := va_S.rf
  have hl := lv_entry ([.ref q1431, .ref (ad 9)]) (n := 2) (Nat.le_of_ble_eq_true rfl)
  rw [lg_entry_eq]
  generalize (lg_sl ([.ref q1431, .ref (ad 9)]) ++ List.replicate (2 - (lg_sl ([.ref q1431, .ref (ad 9)])).length) Slot.unset).toArray = ls at hl ⊢
  have hl : lv_has ls 2 [(0, .ref q1431), (1, .ref (ad 9))] := hl
  refine lv_aload_n hx hb dX5_copyFrom_0 rfl (lv_at hl 1 rfl) ?_
  refine va_get (D := (dC, dI)) (ci := 5) (v := .ref (sd 0)) (C := RX5) (T := TX5) (N := 13) hx hb hts hi5 hown hK hP 0 rfl rfl 0 (by decide) (hts _ (ow_m (k := 0) rfl)) (fun _ h9 => h9) rfl dX5_copyFrom_1 ?_
  refine lv_iconst (v := 0) hx hb dX5_copyFrom_4 (by decide) ?_
  refine lv_aload_n hx hb dX5_copyFrom_5 rfl (lv_at hl 0 rfl) ?_
  refine va_get (D := (dC, dI)) (ci := 5) (v := .ref (u1447 0)) (C := RX5) (T := TX5) (N := 13) hx hb hts hi5 hown hK hP 8 rfl rfl 0 (by decide) (hts _ (ow_m (k := 0) rfl)) (fun _ h9 => h9) rfl dX5_copyFrom_6 ?_
  refine lv_iconst (v := 0) hx hb dX5_copyFrom_9 (by decide) ?_
  refine lv_aload_n hx hb dX5_copyFrom_10 rfl (lv_at hl 0 rfl) ?_
  refine va_get (D := (dC, dI)) (ci := 5) (v := .ref (u1447 0)) (C := RX5) (T := TX5) (N := 13) hx hb hts hi5 hown hK hP 8 rfl rfl 0 (by decide) (hts _ (ow_m (k := 0) rfl)) (fun _ h9 => h9) rfl dX5_copyFrom_11 ?_
  refine va_alen (v := 6) hx hb hK hP 9 1 rfl rfl rfl dX5_copyFrom_14 ?_
  refine va_copyi hx hb (hml.trans hl.1.symm) hown (hts _ (ow_m (k := 1) rfl)) (hts _ (ow_m (k := 2) rfl)) (hts _ (ow_m (k := 3) rfl)) (hts _ (ow_m (k := 4) rfl)) hK hP hD hS 1 9 1 1 rfl rfl rfl rfl rfl (by decide) (by decide) (by decide) (by decide) (by decide) (fun _ _ => rfl) (Nat.le_of_ble_eq_true rfl) (Nat.le_of_ble_eq_true rfl) dX5_copyFrom_15 (fun H locs hP hD hS => ?_)
  have hP : va_P (dC, dI) vwCl [(ad 9, .inr (5, [.ref (sd 0), .ref (sd 1), .ref (sd 2), .ref (sd 3), .ref (sd 4), .ref (sd 5), .ref (sd 6), .int 0, .int (-1), .int 0, .int 0, .int 0, .int 0])), (sd 0, .inl (cyI, 6, .inl (fun _ => 0))), (sd 1, .inl (cyI, 8, .inl (fun _ => 0))), (sd 2, .inl (cyI, 8, .inl (fun _ => 0))), (sd 3, .inl (cyI, 328, .inl (fun _ => 0))), (sd 4, .inl (cyI, 328, .inl (fun _ => 0))), (sd 5, .inl (cyI, 41, .inl (fun _ => 0))), (sd 6, .inl (cyI, 41, .inl (fun _ => 0))), (q1431, .inr (5, [.ref (u1447 0), .ref (u1447 1), .ref (u1447 2), .ref (u1447 3), .ref (u1447 4), .ref (u1447 5), .ref (u1447 6), .int 0, .int (-1), .int 0, .int 0, .int 0, .int 0])), (u1447 0, .inl (cyI, 6, .inl (va_cpy (fun _ => 0) (fun _ => 0) 0 0 6))), (u1447 1, .inl (cyI, 8, .inl (fun _ => 0))), (u1447 2, .inl (cyI, 8, .inl (fun _ => 0))), (u1447 3, .inl (cyI, 328, .inl (fun _ => 0))), (u1447 4, .inl (cyI, 328, .inl (fun _ => 0))), (u1447 5, .inl (cyI, 41, .inl (fun _ => 0))), (u1447 6, .inl (cyI, 41, .inl (fun _ => 0)))] H := hP
  have hD : va_D A [(ad 9, .inr (5, [.ref (sd 0), .ref (sd 1), .ref (sd 2), .ref (sd 3), .ref (sd 4), .ref (sd 5), .ref (sd 6), .int 0, .int (-1), .int 0, .int 0, .int 0, .int 0])), (sd 0, .inl (cyI, 6, .inl (fun _ => 0))), (sd 1, .inl (cyI, 8, .inl (fun _ => 0))), (sd 2, .inl (cyI, 8, .inl (fun _ => 0))), (sd 3, .inl (cyI, 328, .inl (fun _ => 0))), (sd 4, .inl (cyI, 328, .inl (fun _ => 0))), (sd 5, .inl (cyI, 41, .inl (fun _ => 0))), (sd 6, .inl (cyI, 41, .inl (fun _ => 0))), (q1431, .inr (5, [.ref (u1447 0), .ref (u1447 1), .ref (u1447 2), .ref (u1447 3), .ref (u1447 4), .ref (u1447 5), .ref (u1447 6), .int 0, .int (-1), .int 0, .int 0, .int 0, .int 0])), (u1447 0, .inl (cyI, 6, .inl (va_cpy (fun _ => 0) (fun _ => 0) 0 0 6))), (u1447 1, .inl (cyI, 8, .inl (fun _ => 0))), (u1447 2, .inl (cyI, 8, .inl (fun _ => 0))), (u1447 3, .inl (cyI, 328, .inl (fun _ => 0))), (u1447 4, .inl (cyI, 328, .inl (fun _ => 0))), (u1447 5, .inl (cyI, 41, .inl (fun _ => 0))), (u1447 6, .inl (cyI, 41, .inl (fun _ => 0)))] := hD
  rw [cpy_z] at hP hD
  refine lv_aload_n hx hb dX5_copyFrom_18 rfl (lv_at hl 1 rfl) ?_
  refine va_get (D := (dC, dI)) (ci := 5) (v := .ref (sd 1)) (C := RX5) (T := TX5) (N := 13) hx hb hts hi5 hown hK hP 0 rfl rfl 1 (by decide) (hts _ (ow_m (k := 5) rfl)) (fun _ h9 => h9) rfl dX5_copyFrom_19 ?_
  refine lv_iconst (v := 0) hx hb dX5_copyFrom_22 (by decide) ?_
  refine lv_aload_n hx hb dX5_copyFrom_23 rfl (lv_at hl 0 rfl) ?_
  refine va_get (D := (dC, dI)) (ci := 5) (v := .ref (u1447 1)) (C := RX5) (T := TX5) (N := 13) hx hb hts hi5 hown hK hP 8 rfl rfl 1 (by decide) (hts _ (ow_m (k := 5) rfl)) (fun _ h9 => h9) rfl dX5_copyFrom_24 ?_
  refine lv_iconst (v := 0) hx hb dX5_copyFrom_27 (by decide) ?_
  refine lv_aload_n hx hb dX5_copyFrom_28 rfl (lv_at hl 0 rfl) ?_
  refine va_get (D := (dC, dI)) (ci := 5) (v := .ref (u1447 1)) (C := RX5) (T := TX5) (N := 13) hx hb hts hi5 hown hK hP 8 rfl rfl 1 (by decide) (hts _ (ow_m (k := 5) rfl)) (fun _ h9 => h9) rfl dX5_copyFrom_29 ?_
  refine va_alen (v := 8) hx hb hK hP 10 1 rfl rfl rfl dX5_copyFrom_32 ?_
  refine va_copyi hx hb (hml.trans hl.1.symm) hown (hts _ (ow_m (k := 1) rfl)) (hts _ (ow_m (k := 2) rfl)) (hts _ (ow_m (k := 3) rfl)) (hts _ (ow_m (k := 4) rfl)) hK hP hD hS 2 10 1 1 rfl rfl rfl rfl rfl (by decide) (by decide) (by decide) (by decide) (by decide) (fun _ _ => rfl) (Nat.le_of_ble_eq_true rfl) (Nat.le_of_ble_eq_true rfl) dX5_copyFrom_33 (fun H locs hP hD hS => ?_)
  have hP : va_P (dC, dI) vwCl [(ad 9, .inr (5, [.ref (sd 0), .ref (sd 1), .ref (sd 2), .ref (sd 3), .ref (sd 4), .ref (sd 5), .ref (sd 6), .int 0, .int (-1), .int 0, .int 0, .int 0, .int 0])), (sd 0, .inl (cyI, 6, .inl (fun _ => 0))), (sd 1, .inl (cyI, 8, .inl (fun _ => 0))), (sd 2, .inl (cyI, 8, .inl (fun _ => 0))), (sd 3, .inl (cyI, 328, .inl (fun _ => 0))), (sd 4, .inl (cyI, 328, .inl (fun _ => 0))), (sd 5, .inl (cyI, 41, .inl (fun _ => 0))), (sd 6, .inl (cyI, 41, .inl (fun _ => 0))), (q1431, .inr (5, [.ref (u1447 0), .ref (u1447 1), .ref (u1447 2), .ref (u1447 3), .ref (u1447 4), .ref (u1447 5), .ref (u1447 6), .int 0, .int (-1), .int 0, .int 0, .int 0, .int 0])), (u1447 0, .inl (cyI, 6, .inl (fun _ => 0))), (u1447 1, .inl (cyI, 8, .inl (va_cpy (fun _ => 0) (fun _ => 0) 0 0 8))), (u1447 2, .inl (cyI, 8, .inl (fun _ => 0))), (u1447 3, .inl (cyI, 328, .inl (fun _ => 0))), (u1447 4, .inl (cyI, 328, .inl (fun _ => 0))), (u1447 5, .inl (cyI, 41, .inl (fun _ => 0))), (u1447 6, .inl (cyI, 41, .inl (fun _ => 0)))] H := hP
  have hD : va_D A [(ad 9, .inr (5, [.ref (sd 0), .ref (sd 1), .ref (sd 2), .ref (sd 3), .ref (sd 4), .ref (sd 5), .ref (sd 6), .int 0, .int (-1), .int 0, .int 0, .int 0, .int 0])), (sd 0, .inl (cyI, 6, .inl (fun _ => 0))), (sd 1, .inl (cyI, 8, .inl (fun _ => 0))), (sd 2, .inl (cyI, 8, .inl (fun _ => 0))), (sd 3, .inl (cyI, 328, .inl (fun _ => 0))), (sd 4, .inl (cyI, 328, .inl (fun _ => 0))), (sd 5, .inl (cyI, 41, .inl (fun _ => 0))), (sd 6, .inl (cyI, 41, .inl (fun _ => 0))), (q1431, .inr (5, [.ref (u1447 0), .ref (u1447 1), .ref (u1447 2), .ref (u1447 3), .ref (u1447 4), .ref (u1447 5), .ref (u1447 6), .int 0, .int (-1), .int 0, .int 0, .int 0, .int 0])), (u1447 0, .inl (cyI, 6, .inl (fun _ => 0))), (u1447 1, .inl (cyI, 8, .inl (va_cpy (fun _ => 0) (fun _ => 0) 0 0 8))), (u1447 2, .inl (cyI, 8, .inl (fun _ => 0))), (u1447 3, .inl (cyI, 328, .inl (fun _ => 0))), (u1447 4, .inl (cyI, 328, .inl (fun _ => 0))), (u1447 5, .inl (cyI, 41, .inl (fun _ => 0))), (u1447 6, .inl (cyI, 41, .inl (fun _ => 0)))] := hD
  rw [cpy_z] at hP hD
  refine lv_aload_n hx hb dX5_copyFrom_36 rfl (lv_at hl 1 rfl) ?_
  refine va_get (D := (dC, dI)) (ci := 5) (v := .ref (sd 2)) (C := RX5) (T := TX5) (N := 13) hx hb hts hi5 hown hK hP 0 rfl rfl 2 (by decide) (hts _ (ow_m (k := 6) rfl)) (fun _ h9 => h9) rfl dX5_copyFrom_37 ?_
  refine lv_iconst (v := 0) hx hb dX5_copyFrom_40 (by decide) ?_
  refine lv_aload_n hx hb dX5_copyFrom_41 rfl (lv_at hl 0 rfl) ?_
  refine va_get (D := (dC, dI)) (ci := 5) (v := .ref (u1447 2)) (C := RX5) (T := TX5) (N := 13) hx hb hts hi5 hown hK hP 8 rfl rfl 2 (by decide) (hts _ (ow_m (k := 6) rfl)) (fun _ h9 => h9) rfl dX5_copyFrom_42 ?_
  refine lv_iconst (v := 0) hx hb dX5_copyFrom_45 (by decide) ?_
  refine lv_aload_n hx hb dX5_copyFrom_46 rfl (lv_at hl 0 rfl) ?_
  refine va_get (D := (dC, dI)) (ci := 5) (v := .ref (u1447 2)) (C := RX5) (T := TX5) (N := 13) hx hb hts hi5 hown hK hP 8 rfl rfl 2 (by decide) (hts _ (ow_m (k := 6) rfl)) (fun _ h9 => h9) rfl dX5_copyFrom_47 ?_
  refine va_alen (v := 8) hx hb hK hP 11 1 rfl rfl rfl dX5_copyFrom_50 ?_
  refine va_copyi hx hb (hml.trans hl.1.symm) hown (hts _ (ow_m (k := 1) rfl)) (hts _ (ow_m (k := 2) rfl)) (hts _ (ow_m (k := 3) rfl)) (hts _ (ow_m (k := 4) rfl)) hK hP hD hS 3 11 1 1 rfl rfl rfl rfl rfl (by decide) (by decide) (by decide) (by decide) (by decide) (fun _ _ => rfl) (Nat.le_of_ble_eq_true rfl) (Nat.le_of_ble_eq_true rfl) dX5_copyFrom_51 (fun H locs hP hD hS => ?_)
  have hP : va_P (dC, dI) vwCl [(ad 9, .inr (5, [.ref (sd 0), .ref (sd 1), .ref (sd 2), .ref (sd 3), .ref (sd 4), .ref (sd 5), .ref (sd 6), .int 0, .int (-1), .int 0, .int 0, .int 0, .int 0])), (sd 0, .inl (cyI, 6, .inl (fun _ => 0))), (sd 1, .inl (cyI, 8, .inl (fun _ => 0))), (sd 2, .inl (cyI, 8, .inl (fun _ => 0))), (sd 3, .inl (cyI, 328, .inl (fun _ => 0))), (sd 4, .inl (cyI, 328, .inl (fun _ => 0))), (sd 5, .inl (cyI, 41, .inl (fun _ => 0))), (sd 6, .inl (cyI, 41, .inl (fun _ => 0))), (q1431, .inr (5, [.ref (u1447 0), .ref (u1447 1), .ref (u1447 2), .ref (u1447 3), .ref (u1447 4), .ref (u1447 5), .ref (u1447 6), .int 0, .int (-1), .int 0, .int 0, .int 0, .int 0])), (u1447 0, .inl (cyI, 6, .inl (fun _ => 0))), (u1447 1, .inl (cyI, 8, .inl (fun _ => 0))), (u1447 2, .inl (cyI, 8, .inl (va_cpy (fun _ => 0) (fun _ => 0) 0 0 8))), (u1447 3, .inl (cyI, 328, .inl (fun _ => 0))), (u1447 4, .inl (cyI, 328, .inl (fun _ => 0))), (u1447 5, .inl (cyI, 41, .inl (fun _ => 0))), (u1447 6, .inl (cyI, 41, .inl (fun _ => 0)))] H := hP
  have hD : va_D A [(ad 9, .inr (5, [.ref (sd 0), .ref (sd 1), .ref (sd 2), .ref (sd 3), .ref (sd 4), .ref (sd 5), .ref (sd 6), .int 0, .int (-1), .int 0, .int 0, .int 0, .int 0])), (sd 0, .inl (cyI, 6, .inl (fun _ => 0))), (sd 1, .inl (cyI, 8, .inl (fun _ => 0))), (sd 2, .inl (cyI, 8, .inl (fun _ => 0))), (sd 3, .inl (cyI, 328, .inl (fun _ => 0))), (sd 4, .inl (cyI, 328, .inl (fun _ => 0))), (sd 5, .inl (cyI, 41, .inl (fun _ => 0))), (sd 6, .inl (cyI, 41, .inl (fun _ => 0))), (q1431, .inr (5, [.ref (u1447 0), .ref (u1447 1), .ref (u1447 2), .ref (u1447 3), .ref (u1447 4), .ref (u1447 5), .ref (u1447 6), .int 0, .int (-1), .int 0, .int 0, .int 0, .int 0])), (u1447 0, .inl (cyI, 6, .inl (fun _ => 0))), (u1447 1, .inl (cyI, 8, .inl (fun _ => 0))), (u1447 2, .inl (cyI, 8, .inl (va_cpy (fun _ => 0) (fun _ => 0) 0 0 8))), (u1447 3, .inl (cyI, 328, .inl (fun _ => 0))), (u1447 4, .inl (cyI, 328, .inl (fun _ => 0))), (u1447 5, .inl (cyI, 41, .inl (fun _ => 0))), (u1447 6, .inl (cyI, 41, .inl (fun _ => 0)))] := hD
  rw [cpy_z] at hP hD
  refine lv_aload_n hx hb dX5_copyFrom_54 rfl (lv_at hl 1 rfl) ?_
  refine va_get (D := (dC, dI)) (ci := 5) (v := .ref (sd 3)) (C := RX5) (T := TX5) (N := 13) hx hb hts hi5 hown hK hP 0 rfl rfl 3 (by decide) (hts _ (ow_m (k := 7) rfl)) (fun _ h9 => h9) rfl dX5_copyFrom_55 ?_
  refine lv_iconst (v := 0) hx hb dX5_copyFrom_58 (by decide) ?_
  refine lv_aload_n hx hb dX5_copyFrom_59 rfl (lv_at hl 0 rfl) ?_
  refine va_get (D := (dC, dI)) (ci := 5) (v := .ref (u1447 3)) (C := RX5) (T := TX5) (N := 13) hx hb hts hi5 hown hK hP 8 rfl rfl 3 (by decide) (hts _ (ow_m (k := 7) rfl)) (fun _ h9 => h9) rfl dX5_copyFrom_60 ?_
  refine lv_iconst (v := 0) hx hb dX5_copyFrom_63 (by decide) ?_
  refine lv_aload_n hx hb dX5_copyFrom_64 rfl (lv_at hl 0 rfl) ?_
  refine va_get (D := (dC, dI)) (ci := 5) (v := .ref (u1447 3)) (C := RX5) (T := TX5) (N := 13) hx hb hts hi5 hown hK hP 8 rfl rfl 3 (by decide) (hts _ (ow_m (k := 7) rfl)) (fun _ h9 => h9) rfl dX5_copyFrom_65 ?_
  refine va_alen (v := 328) hx hb hK hP 12 1 rfl rfl rfl dX5_copyFrom_68 ?_
  refine va_copyi hx hb (hml.trans hl.1.symm) hown (hts _ (ow_m (k := 1) rfl)) (hts _ (ow_m (k := 2) rfl)) (hts _ (ow_m (k := 3) rfl)) (hts _ (ow_m (k := 4) rfl)) hK hP hD hS 4 12 1 1 rfl rfl rfl rfl rfl (by decide) (by decide) (by decide) (by decide) (by decide) (fun _ _ => rfl) (Nat.le_of_ble_eq_true rfl) (Nat.le_of_ble_eq_true rfl) dX5_copyFrom_69 (fun H locs hP hD hS => ?_)
  have hP : va_P (dC, dI) vwCl [(ad 9, .inr (5, [.ref (sd 0), .ref (sd 1), .ref (sd 2), .ref (sd 3), .ref (sd 4), .ref (sd 5), .ref (sd 6), .int 0, .int (-1), .int 0, .int 0, .int 0, .int 0])), (sd 0, .inl (cyI, 6, .inl (fun _ => 0))), (sd 1, .inl (cyI, 8, .inl (fun _ => 0))), (sd 2, .inl (cyI, 8, .inl (fun _ => 0))), (sd 3, .inl (cyI, 328, .inl (fun _ => 0))), (sd 4, .inl (cyI, 328, .inl (fun _ => 0))), (sd 5, .inl (cyI, 41, .inl (fun _ => 0))), (sd 6, .inl (cyI, 41, .inl (fun _ => 0))), (q1431, .inr (5, [.ref (u1447 0), .ref (u1447 1), .ref (u1447 2), .ref (u1447 3), .ref (u1447 4), .ref (u1447 5), .ref (u1447 6), .int 0, .int (-1), .int 0, .int 0, .int 0, .int 0])), (u1447 0, .inl (cyI, 6, .inl (fun _ => 0))), (u1447 1, .inl (cyI, 8, .inl (fun _ => 0))), (u1447 2, .inl (cyI, 8, .inl (fun _ => 0))), (u1447 3, .inl (cyI, 328, .inl (va_cpy (fun _ => 0) (fun _ => 0) 0 0 328))), (u1447 4, .inl (cyI, 328, .inl (fun _ => 0))), (u1447 5, .inl (cyI, 41, .inl (fun _ => 0))), (u1447 6, .inl (cyI, 41, .inl (fun _ => 0)))] H := hP
  have hD : va_D A [(ad 9, .inr (5, [.ref (sd 0), .ref (sd 1), .ref (sd 2), .ref (sd 3), .ref (sd 4), .ref (sd 5), .ref (sd 6), .int 0, .int (-1), .int 0, .int 0, .int 0, .int 0])), (sd 0, .inl (cyI, 6, .inl (fun _ => 0))), (sd 1, .inl (cyI, 8, .inl (fun _ => 0))), (sd 2, .inl (cyI, 8, .inl (fun _ => 0))), (sd 3, .inl (cyI, 328, .inl (fun _ => 0))), (sd 4, .inl (cyI, 328, .inl (fun _ => 0))), (sd 5, .inl (cyI, 41, .inl (fun _ => 0))), (sd 6, .inl (cyI, 41, .inl (fun _ => 0))), (q1431, .inr (5, [.ref (u1447 0), .ref (u1447 1), .ref (u1447 2), .ref (u1447 3), .ref (u1447 4), .ref (u1447 5), .ref (u1447 6), .int 0, .int (-1), .int 0, .int 0, .int 0, .int 0])), (u1447 0, .inl (cyI, 6, .inl (fun _ => 0))), (u1447 1, .inl (cyI, 8, .inl (fun _ => 0))), (u1447 2, .inl (cyI, 8, .inl (fun _ => 0))), (u1447 3, .inl (cyI, 328, .inl (va_cpy (fun _ => 0) (fun _ => 0) 0 0 328))), (u1447 4, .inl (cyI, 328, .inl (fun _ => 0))), (u1447 5, .inl (cyI, 41, .inl (fun _ => 0))), (u1447 6, .inl (cyI, 41, .inl (fun _ => 0)))] := hD
  rw [cpy_z] at hP hD
  refine lv_aload_n hx hb dX5_copyFrom_72 rfl (lv_at hl 1 rfl) ?_
  refine va_get (D := (dC, dI)) (ci := 5) (v := .ref (sd 4)) (C := RX5) (T := TX5) (N := 13) hx hb hts hi5 hown hK hP 0 rfl rfl 4 (by decide) (hts _ (ow_m (k := 8) rfl)) (fun _ h9 => h9) rfl dX5_copyFrom_73 ?_
  refine lv_iconst (v := 0) hx hb dX5_copyFrom_76 (by decide) ?_
  refine lv_aload_n hx hb dX5_copyFrom_77 rfl (lv_at hl 0 rfl) ?_
  refine va_get (D := (dC, dI)) (ci := 5) (v := .ref (u1447 4)) (C := RX5) (T := TX5) (N := 13) hx hb hts hi5 hown hK hP 8 rfl rfl 4 (by decide) (hts _ (ow_m (k := 8) rfl)) (fun _ h9 => h9) rfl dX5_copyFrom_78 ?_
  refine lv_iconst (v := 0) hx hb dX5_copyFrom_81 (by decide) ?_
  refine lv_aload_n hx hb dX5_copyFrom_82 rfl (lv_at hl 0 rfl) ?_
  refine va_get (D := (dC, dI)) (ci := 5) (v := .ref (u1447 4)) (C := RX5) (T := TX5) (N := 13) hx hb hts hi5 hown hK hP 8 rfl rfl 4 (by decide) (hts _ (ow_m (k := 8) rfl)) (fun _ h9 => h9) rfl dX5_copyFrom_83 ?_
  refine va_alen (v := 328) hx hb hK hP 13 1 rfl rfl rfl dX5_copyFrom_86 ?_
  refine va_copyi hx hb (hml.trans hl.1.symm) hown (hts _ (ow_m (k := 1) rfl)) (hts _ (ow_m (k := 2) rfl)) (hts _ (ow_m (k := 3) rfl)) (hts _ (ow_m (k := 4) rfl)) hK hP hD hS 5 13 1 1 rfl rfl rfl rfl rfl (by decide) (by decide) (by decide) (by decide) (by decide) (fun _ _ => rfl) (Nat.le_of_ble_eq_true rfl) (Nat.le_of_ble_eq_true rfl) dX5_copyFrom_87 (fun H locs hP hD hS => ?_)
  have hP : va_P (dC, dI) vwCl [(ad 9, .inr (5, [.ref (sd 0), .ref (sd 1), .ref (sd 2), .ref (sd 3), .ref (sd 4), .ref (sd 5), .ref (sd 6), .int 0, .int (-1), .int 0, .int 0, .int 0, .int 0])), (sd 0, .inl (cyI, 6, .inl (fun _ => 0))), (sd 1, .inl (cyI, 8, .inl (fun _ => 0))), (sd 2, .inl (cyI, 8, .inl (fun _ => 0))), (sd 3, .inl (cyI, 328, .inl (fun _ => 0))), (sd 4, .inl (cyI, 328, .inl (fun _ => 0))), (sd 5, .inl (cyI, 41, .inl (fun _ => 0))), (sd 6, .inl (cyI, 41, .inl (fun _ => 0))), (q1431, .inr (5, [.ref (u1447 0), .ref (u1447 1), .ref (u1447 2), .ref (u1447 3), .ref (u1447 4), .ref (u1447 5), .ref (u1447 6), .int 0, .int (-1), .int 0, .int 0, .int 0, .int 0])), (u1447 0, .inl (cyI, 6, .inl (fun _ => 0))), (u1447 1, .inl (cyI, 8, .inl (fun _ => 0))), (u1447 2, .inl (cyI, 8, .inl (fun _ => 0))), (u1447 3, .inl (cyI, 328, .inl (fun _ => 0))), (u1447 4, .inl (cyI, 328, .inl (va_cpy (fun _ => 0) (fun _ => 0) 0 0 328))), (u1447 5, .inl (cyI, 41, .inl (fun _ => 0))), (u1447 6, .inl (cyI, 41, .inl (fun _ => 0)))] H := hP
  have hD : va_D A [(ad 9, .inr (5, [.ref (sd 0), .ref (sd 1), .ref (sd 2), .ref (sd 3), .ref (sd 4), .ref (sd 5), .ref (sd 6), .int 0, .int (-1), .int 0, .int 0, .int 0, .int 0])), (sd 0, .inl (cyI, 6, .inl (fun _ => 0))), (sd 1, .inl (cyI, 8, .inl (fun _ => 0))), (sd 2, .inl (cyI, 8, .inl (fun _ => 0))), (sd 3, .inl (cyI, 328, .inl (fun _ => 0))), (sd 4, .inl (cyI, 328, .inl (fun _ => 0))), (sd 5, .inl (cyI, 41, .inl (fun _ => 0))), (sd 6, .inl (cyI, 41, .inl (fun _ => 0))), (q1431, .inr (5, [.ref (u1447 0), .ref (u1447 1), .ref (u1447 2), .ref (u1447 3), .ref (u1447 4), .ref (u1447 5), .ref (u1447 6), .int 0, .int (-1), .int 0, .int 0, .int 0, .int 0])), (u1447 0, .inl (cyI, 6, .inl (fun _ => 0))), (u1447 1, .inl (cyI, 8, .inl (fun _ => 0))), (u1447 2, .inl (cyI, 8, .inl (fun _ => 0))), (u1447 3, .inl (cyI, 328, .inl (fun _ => 0))), (u1447 4, .inl (cyI, 328, .inl (va_cpy (fun _ => 0) (fun _ => 0) 0 0 328))), (u1447 5, .inl (cyI, 41, .inl (fun _ => 0))), (u1447 6, .inl (cyI, 41, .inl (fun _ => 0)))] := hD
  rw [cpy_z] at hP hD
  refine lv_aload_n hx hb dX5_copyFrom_90 rfl (lv_at hl 1 rfl) ?_
  refine va_get (D := (dC, dI)) (ci := 5) (v := .ref (sd 5)) (C := RX5) (T := TX5) (N := 13) hx hb hts hi5 hown hK hP 0 rfl rfl 5 (by decide) (hts _ (ow_m (k := 9) rfl)) (fun _ h9 => h9) rfl dX5_copyFrom_91 ?_
  refine lv_iconst (v := 0) hx hb dX5_copyFrom_94 (by decide) ?_
  refine lv_aload_n hx hb dX5_copyFrom_95 rfl (lv_at hl 0 rfl) ?_
  refine va_get (D := (dC, dI)) (ci := 5) (v := .ref (u1447 5)) (C := RX5) (T := TX5) (N := 13) hx hb hts hi5 hown hK hP 8 rfl rfl 5 (by decide) (hts _ (ow_m (k := 9) rfl)) (fun _ h9 => h9) rfl dX5_copyFrom_96 ?_
  refine lv_iconst (v := 0) hx hb dX5_copyFrom_99 (by decide) ?_
  refine lv_aload_n hx hb dX5_copyFrom_100 rfl (lv_at hl 0 rfl) ?_
  refine va_get (D := (dC, dI)) (ci := 5) (v := .ref (u1447 5)) (C := RX5) (T := TX5) (N := 13) hx hb hts hi5 hown hK hP 8 rfl rfl 5 (by decide) (hts _ (ow_m (k := 9) rfl)) (fun _ h9 => h9) rfl dX5_copyFrom_101 ?_
  refine va_alen (v := 41) hx hb hK hP 14 1 rfl rfl rfl dX5_copyFrom_104 ?_
  refine va_copyi hx hb (hml.trans hl.1.symm) hown (hts _ (ow_m (k := 1) rfl)) (hts _ (ow_m (k := 2) rfl)) (hts _ (ow_m (k := 3) rfl)) (hts _ (ow_m (k := 4) rfl)) hK hP hD hS 6 14 1 1 rfl rfl rfl rfl rfl (by decide) (by decide) (by decide) (by decide) (by decide) (fun _ _ => rfl) (Nat.le_of_ble_eq_true rfl) (Nat.le_of_ble_eq_true rfl) dX5_copyFrom_105 (fun H locs hP hD hS => ?_)
  have hP : va_P (dC, dI) vwCl [(ad 9, .inr (5, [.ref (sd 0), .ref (sd 1), .ref (sd 2), .ref (sd 3), .ref (sd 4), .ref (sd 5), .ref (sd 6), .int 0, .int (-1), .int 0, .int 0, .int 0, .int 0])), (sd 0, .inl (cyI, 6, .inl (fun _ => 0))), (sd 1, .inl (cyI, 8, .inl (fun _ => 0))), (sd 2, .inl (cyI, 8, .inl (fun _ => 0))), (sd 3, .inl (cyI, 328, .inl (fun _ => 0))), (sd 4, .inl (cyI, 328, .inl (fun _ => 0))), (sd 5, .inl (cyI, 41, .inl (fun _ => 0))), (sd 6, .inl (cyI, 41, .inl (fun _ => 0))), (q1431, .inr (5, [.ref (u1447 0), .ref (u1447 1), .ref (u1447 2), .ref (u1447 3), .ref (u1447 4), .ref (u1447 5), .ref (u1447 6), .int 0, .int (-1), .int 0, .int 0, .int 0, .int 0])), (u1447 0, .inl (cyI, 6, .inl (fun _ => 0))), (u1447 1, .inl (cyI, 8, .inl (fun _ => 0))), (u1447 2, .inl (cyI, 8, .inl (fun _ => 0))), (u1447 3, .inl (cyI, 328, .inl (fun _ => 0))), (u1447 4, .inl (cyI, 328, .inl (fun _ => 0))), (u1447 5, .inl (cyI, 41, .inl (va_cpy (fun _ => 0) (fun _ => 0) 0 0 41))), (u1447 6, .inl (cyI, 41, .inl (fun _ => 0)))] H := hP
  have hD : va_D A [(ad 9, .inr (5, [.ref (sd 0), .ref (sd 1), .ref (sd 2), .ref (sd 3), .ref (sd 4), .ref (sd 5), .ref (sd 6), .int 0, .int (-1), .int 0, .int 0, .int 0, .int 0])), (sd 0, .inl (cyI, 6, .inl (fun _ => 0))), (sd 1, .inl (cyI, 8, .inl (fun _ => 0))), (sd 2, .inl (cyI, 8, .inl (fun _ => 0))), (sd 3, .inl (cyI, 328, .inl (fun _ => 0))), (sd 4, .inl (cyI, 328, .inl (fun _ => 0))), (sd 5, .inl (cyI, 41, .inl (fun _ => 0))), (sd 6, .inl (cyI, 41, .inl (fun _ => 0))), (q1431, .inr (5, [.ref (u1447 0), .ref (u1447 1), .ref (u1447 2), .ref (u1447 3), .ref (u1447 4), .ref (u1447 5), .ref (u1447 6), .int 0, .int (-1), .int 0, .int 0, .int 0, .int 0])), (u1447 0, .inl (cyI, 6, .inl (fun _ => 0))), (u1447 1, .inl (cyI, 8, .inl (fun _ => 0))), (u1447 2, .inl (cyI, 8, .inl (fun _ => 0))), (u1447 3, .inl (cyI, 328, .inl (fun _ => 0))), (u1447 4, .inl (cyI, 328, .inl (fun _ => 0))), (u1447 5, .inl (cyI, 41, .inl (va_cpy (fun _ => 0) (fun _ => 0) 0 0 41))), (u1447 6, .inl (cyI, 41, .inl (fun _ => 0)))] := hD
  rw [cpy_z] at hP hD
  refine lv_aload_n hx hb dX5_copyFrom_108 rfl (lv_at hl 1 rfl) ?_
  refine va_get (D := (dC, dI)) (ci := 5) (v := .ref (sd 6)) (C := RX5) (T := TX5) (N := 13) hx hb hts hi5 hown hK hP 0 rfl rfl 6 (by decide) (hts _ (ow_m (k := 10) rfl)) (fun _ h9 => h9) rfl dX5_copyFrom_109 ?_
  refine lv_iconst (v := 0) hx hb dX5_copyFrom_112 (by decide) ?_
  refine lv_aload_n hx hb dX5_copyFrom_113 rfl (lv_at hl 0 rfl) ?_
  refine va_get (D := (dC, dI)) (ci := 5) (v := .ref (u1447 6)) (C := RX5) (T := TX5) (N := 13) hx hb hts hi5 hown hK hP 8 rfl rfl 6 (by decide) (hts _ (ow_m (k := 10) rfl)) (fun _ h9 => h9) rfl dX5_copyFrom_114 ?_
  refine lv_iconst (v := 0) hx hb dX5_copyFrom_117 (by decide) ?_
  refine lv_aload_n hx hb dX5_copyFrom_118 rfl (lv_at hl 0 rfl) ?_
  refine va_get (D := (dC, dI)) (ci := 5) (v := .ref (u1447 6)) (C := RX5) (T := TX5) (N := 13) hx hb hts hi5 hown hK hP 8 rfl rfl 6 (by decide) (hts _ (ow_m (k := 10) rfl)) (fun _ h9 => h9) rfl dX5_copyFrom_119 ?_
  refine va_alen (v := 41) hx hb hK hP 15 1 rfl rfl rfl dX5_copyFrom_122 ?_
  refine va_copyi hx hb (hml.trans hl.1.symm) hown (hts _ (ow_m (k := 1) rfl)) (hts _ (ow_m (k := 2) rfl)) (hts _ (ow_m (k := 3) rfl)) (hts _ (ow_m (k := 4) rfl)) hK hP hD hS 7 15 1 1 rfl rfl rfl rfl rfl (by decide) (by decide) (by decide) (by decide) (by decide) (fun _ _ => rfl) (Nat.le_of_ble_eq_true rfl) (Nat.le_of_ble_eq_true rfl) dX5_copyFrom_123 (fun H locs hP hD hS => ?_)
  have hP : va_P (dC, dI) vwCl [(ad 9, .inr (5, [.ref (sd 0), .ref (sd 1), .ref (sd 2), .ref (sd 3), .ref (sd 4), .ref (sd 5), .ref (sd 6), .int 0, .int (-1), .int 0, .int 0, .int 0, .int 0])), (sd 0, .inl (cyI, 6, .inl (fun _ => 0))), (sd 1, .inl (cyI, 8, .inl (fun _ => 0))), (sd 2, .inl (cyI, 8, .inl (fun _ => 0))), (sd 3, .inl (cyI, 328, .inl (fun _ => 0))), (sd 4, .inl (cyI, 328, .inl (fun _ => 0))), (sd 5, .inl (cyI, 41, .inl (fun _ => 0))), (sd 6, .inl (cyI, 41, .inl (fun _ => 0))), (q1431, .inr (5, [.ref (u1447 0), .ref (u1447 1), .ref (u1447 2), .ref (u1447 3), .ref (u1447 4), .ref (u1447 5), .ref (u1447 6), .int 0, .int (-1), .int 0, .int 0, .int 0, .int 0])), (u1447 0, .inl (cyI, 6, .inl (fun _ => 0))), (u1447 1, .inl (cyI, 8, .inl (fun _ => 0))), (u1447 2, .inl (cyI, 8, .inl (fun _ => 0))), (u1447 3, .inl (cyI, 328, .inl (fun _ => 0))), (u1447 4, .inl (cyI, 328, .inl (fun _ => 0))), (u1447 5, .inl (cyI, 41, .inl (fun _ => 0))), (u1447 6, .inl (cyI, 41, .inl (va_cpy (fun _ => 0) (fun _ => 0) 0 0 41)))] H := hP
  have hD : va_D A [(ad 9, .inr (5, [.ref (sd 0), .ref (sd 1), .ref (sd 2), .ref (sd 3), .ref (sd 4), .ref (sd 5), .ref (sd 6), .int 0, .int (-1), .int 0, .int 0, .int 0, .int 0])), (sd 0, .inl (cyI, 6, .inl (fun _ => 0))), (sd 1, .inl (cyI, 8, .inl (fun _ => 0))), (sd 2, .inl (cyI, 8, .inl (fun _ => 0))), (sd 3, .inl (cyI, 328, .inl (fun _ => 0))), (sd 4, .inl (cyI, 328, .inl (fun _ => 0))), (sd 5, .inl (cyI, 41, .inl (fun _ => 0))), (sd 6, .inl (cyI, 41, .inl (fun _ => 0))), (q1431, .inr (5, [.ref (u1447 0), .ref (u1447 1), .ref (u1447 2), .ref (u1447 3), .ref (u1447 4), .ref (u1447 5), .ref (u1447 6), .int 0, .int (-1), .int 0, .int 0, .int 0, .int 0])), (u1447 0, .inl (cyI, 6, .inl (fun _ => 0))), (u1447 1, .inl (cyI, 8, .inl (fun _ => 0))), (u1447 2, .inl (cyI, 8, .inl (fun _ => 0))), (u1447 3, .inl (cyI, 328, .inl (fun _ => 0))), (u1447 4, .inl (cyI, 328, .inl (fun _ => 0))), (u1447 5, .inl (cyI, 41, .inl (fun _ => 0))), (u1447 6, .inl (cyI, 41, .inl (va_cpy (fun _ => 0) (fun _ => 0) 0 0 41)))] := hD
  rw [cpy_z] at hP hD
  refine lv_aload_n hx hb dX5_copyFrom_126 rfl (lv_at hl 0 rfl) ?_
  refine lv_aload_n hx hb dX5_copyFrom_127 rfl (lv_at hl 1 rfl) ?_
  refine va_get (D := (dC, dI)) (ci := 5) (v := .int 0) (C := RX5) (T := TX5) (N := 13) hx hb hts hi5 hown hK hP 0 rfl rfl 7 (by decide) (hts _ (ow_m (k := 11) rfl)) (fun _ h9 => h9) rfl dX5_copyFrom_128 ?_
  refine va_put (D := (dC, dI)) (ci := 5) (v := .int 0) (ty := .int) (C := RX5) (T := TX5) (N := 13) hx hb hts hi5 tyX5 tyX5_ok nmX5 hown hK hP hD hS 8 rfl rfl 7 (by decide) (hts _ (ow_m (k := 11) rfl)) (fun _ h9 => h9) rfl (by decide +kernel) rfl rfl (Nat.le_of_ble_eq_true rfl) dX5_copyFrom_131 (fun H locs hP hD hS => ?_)
  have hP : va_P (dC, dI) vwCl [(ad 9, .inr (5, [.ref (sd 0), .ref (sd 1), .ref (sd 2), .ref (sd 3), .ref (sd 4), .ref (sd 5), .ref (sd 6), .int 0, .int (-1), .int 0, .int 0, .int 0, .int 0])), (sd 0, .inl (cyI, 6, .inl (fun _ => 0))), (sd 1, .inl (cyI, 8, .inl (fun _ => 0))), (sd 2, .inl (cyI, 8, .inl (fun _ => 0))), (sd 3, .inl (cyI, 328, .inl (fun _ => 0))), (sd 4, .inl (cyI, 328, .inl (fun _ => 0))), (sd 5, .inl (cyI, 41, .inl (fun _ => 0))), (sd 6, .inl (cyI, 41, .inl (fun _ => 0))), (q1431, .inr (5, [.ref (u1447 0), .ref (u1447 1), .ref (u1447 2), .ref (u1447 3), .ref (u1447 4), .ref (u1447 5), .ref (u1447 6), .int 0, .int (-1), .int 0, .int 0, .int 0, .int 0])), (u1447 0, .inl (cyI, 6, .inl (fun _ => 0))), (u1447 1, .inl (cyI, 8, .inl (fun _ => 0))), (u1447 2, .inl (cyI, 8, .inl (fun _ => 0))), (u1447 3, .inl (cyI, 328, .inl (fun _ => 0))), (u1447 4, .inl (cyI, 328, .inl (fun _ => 0))), (u1447 5, .inl (cyI, 41, .inl (fun _ => 0))), (u1447 6, .inl (cyI, 41, .inl (fun _ => 0)))] H := hP
  have hD : va_D A [(ad 9, .inr (5, [.ref (sd 0), .ref (sd 1), .ref (sd 2), .ref (sd 3), .ref (sd 4), .ref (sd 5), .ref (sd 6), .int 0, .int (-1), .int 0, .int 0, .int 0, .int 0])), (sd 0, .inl (cyI, 6, .inl (fun _ => 0))), (sd 1, .inl (cyI, 8, .inl (fun _ => 0))), (sd 2, .inl (cyI, 8, .inl (fun _ => 0))), (sd 3, .inl (cyI, 328, .inl (fun _ => 0))), (sd 4, .inl (cyI, 328, .inl (fun _ => 0))), (sd 5, .inl (cyI, 41, .inl (fun _ => 0))), (sd 6, .inl (cyI, 41, .inl (fun _ => 0))), (q1431, .inr (5, [.ref (u1447 0), .ref (u1447 1), .ref (u1447 2), .ref (u1447 3), .ref (u1447 4), .ref (u1447 5), .ref (u1447 6), .int 0, .int (-1), .int 0, .int 0, .int 0, .int 0])), (u1447 0, .inl (cyI, 6, .inl (fun _ => 0))), (u1447 1, .inl (cyI, 8, .inl (fun _ => 0))), (u1447 2, .inl (cyI, 8, .inl (fun _ => 0))), (u1447 3, .inl (cyI, 328, .inl (fun _ => 0))), (u1447 4, .inl (cyI, 328, .inl (fun _ => 0))), (u1447 5, .inl (cyI, 41, .inl (fun _ => 0))), (u1447 6, .inl (cyI, 41, .inl (fun _ => 0)))] := hD
  refine lv_aload_n hx hb dX5_copyFrom_134 rfl (lv_at hl 0 rfl) ?_
  refine lv_aload_n hx hb dX5_copyFrom_135 rfl (lv_at hl 1 rfl) ?_
  refine va_get (D := (dC, dI)) (ci := 5) (v := .int (-1)) (C := RX5) (T := TX5) (N := 13) hx hb hts hi5 hown hK hP 0 rfl rfl 8 (by decide) (hts _ (ow_m (k := 12) rfl)) (fun _ h9 => h9) rfl dX5_copyFrom_136 ?_
  refine va_put (D := (dC, dI)) (ci := 5) (v := .int (-1)) (ty := .int) (C := RX5) (T := TX5) (N := 13) hx hb hts hi5 tyX5 tyX5_ok nmX5 hown hK hP hD hS 8 rfl rfl 8 (by decide) (hts _ (ow_m (k := 12) rfl)) (fun _ h9 => h9) rfl (by decide +kernel) rfl rfl (Nat.le_of_ble_eq_true rfl) dX5_copyFrom_139 (fun H locs hP hD hS => ?_)
  have hP : va_P (dC, dI) vwCl [(ad 9, .inr (5, [.ref (sd 0), .ref (sd 1), .ref (sd 2), .ref (sd 3), .ref (sd 4), .ref (sd 5), .ref (sd 6), .int 0, .int (-1), .int 0, .int 0, .int 0, .int 0])), (sd 0, .inl (cyI, 6, .inl (fun _ => 0))), (sd 1, .inl (cyI, 8, .inl (fun _ => 0))), (sd 2, .inl (cyI, 8, .inl (fun _ => 0))), (sd 3, .inl (cyI, 328, .inl (fun _ => 0))), (sd 4, .inl (cyI, 328, .inl (fun _ => 0))), (sd 5, .inl (cyI, 41, .inl (fun _ => 0))), (sd 6, .inl (cyI, 41, .inl (fun _ => 0))), (q1431, .inr (5, [.ref (u1447 0), .ref (u1447 1), .ref (u1447 2), .ref (u1447 3), .ref (u1447 4), .ref (u1447 5), .ref (u1447 6), .int 0, .int (-1), .int 0, .int 0, .int 0, .int 0])), (u1447 0, .inl (cyI, 6, .inl (fun _ => 0))), (u1447 1, .inl (cyI, 8, .inl (fun _ => 0))), (u1447 2, .inl (cyI, 8, .inl (fun _ => 0))), (u1447 3, .inl (cyI, 328, .inl (fun _ => 0))), (u1447 4, .inl (cyI, 328, .inl (fun _ => 0))), (u1447 5, .inl (cyI, 41, .inl (fun _ => 0))), (u1447 6, .inl (cyI, 41, .inl (fun _ => 0)))] H := hP
  have hD : va_D A [(ad 9, .inr (5, [.ref (sd 0), .ref (sd 1), .ref (sd 2), .ref (sd 3), .ref (sd 4), .ref (sd 5), .ref (sd 6), .int 0, .int (-1), .int 0, .int 0, .int 0, .int 0])), (sd 0, .inl (cyI, 6, .inl (fun _ => 0))), (sd 1, .inl (cyI, 8, .inl (fun _ => 0))), (sd 2, .inl (cyI, 8, .inl (fun _ => 0))), (sd 3, .inl (cyI, 328, .inl (fun _ => 0))), (sd 4, .inl (cyI, 328, .inl (fun _ => 0))), (sd 5, .inl (cyI, 41, .inl (fun _ => 0))), (sd 6, .inl (cyI, 41, .inl (fun _ => 0))), (q1431, .inr (5, [.ref (u1447 0), .ref (u1447 1), .ref (u1447 2), .ref (u1447 3), .ref (u1447 4), .ref (u1447 5), .ref (u1447 6), .int 0, .int (-1), .int 0, .int 0, .int 0, .int 0])), (u1447 0, .inl (cyI, 6, .inl (fun _ => 0))), (u1447 1, .inl (cyI, 8, .inl (fun _ => 0))), (u1447 2, .inl (cyI, 8, .inl (fun _ => 0))), (u1447 3, .inl (cyI, 328, .inl (fun _ => 0))), (u1447 4, .inl (cyI, 328, .inl (fun _ => 0))), (u1447 5, .inl (cyI, 41, .inl (fun _ => 0))), (u1447 6, .inl (cyI, 41, .inl (fun _ => 0)))] := hD
  refine lv_aload_n hx hb dX5_copyFrom_142 rfl (lv_at hl 0 rfl) ?_
  refine lv_aload_n hx hb dX5_copyFrom_143 rfl (lv_at hl 1 rfl) ?_
  refine va_get (D := (dC, dI)) (ci := 5) (v := .int 0) (C := RX5) (T := TX5) (N := 13) hx hb hts hi5 hown hK hP 0 rfl rfl 9 (by decide) (hts _ (ow_m (k := 13) rfl)) (fun _ h9 => h9) rfl dX5_copyFrom_144 ?_
  refine va_put (D := (dC, dI)) (ci := 5) (v := .int 0) (ty := .int) (C := RX5) (T := TX5) (N := 13) hx hb hts hi5 tyX5 tyX5_ok nmX5 hown hK hP hD hS 8 rfl rfl 9 (by decide) (hts _ (ow_m (k := 13) rfl)) (fun _ h9 => h9) rfl (by decide +kernel) rfl rfl (Nat.le_of_ble_eq_true rfl) dX5_copyFrom_147 (fun H locs hP hD hS => ?_)
  have hP : va_P (dC, dI) vwCl [(ad 9, .inr (5, [.ref (sd 0), .ref (sd 1), .ref (sd 2), .ref (sd 3), .ref (sd 4), .ref (sd 5), .ref (sd 6), .int 0, .int (-1), .int 0, .int 0, .int 0, .int 0])), (sd 0, .inl (cyI, 6, .inl (fun _ => 0))), (sd 1, .inl (cyI, 8, .inl (fun _ => 0))), (sd 2, .inl (cyI, 8, .inl (fun _ => 0))), (sd 3, .inl (cyI, 328, .inl (fun _ => 0))), (sd 4, .inl (cyI, 328, .inl (fun _ => 0))), (sd 5, .inl (cyI, 41, .inl (fun _ => 0))), (sd 6, .inl (cyI, 41, .inl (fun _ => 0))), (q1431, .inr (5, [.ref (u1447 0), .ref (u1447 1), .ref (u1447 2), .ref (u1447 3), .ref (u1447 4), .ref (u1447 5), .ref (u1447 6), .int 0, .int (-1), .int 0, .int 0, .int 0, .int 0])), (u1447 0, .inl (cyI, 6, .inl (fun _ => 0))), (u1447 1, .inl (cyI, 8, .inl (fun _ => 0))), (u1447 2, .inl (cyI, 8, .inl (fun _ => 0))), (u1447 3, .inl (cyI, 328, .inl (fun _ => 0))), (u1447 4, .inl (cyI, 328, .inl (fun _ => 0))), (u1447 5, .inl (cyI, 41, .inl (fun _ => 0))), (u1447 6, .inl (cyI, 41, .inl (fun _ => 0)))] H := hP
  have hD : va_D A [(ad 9, .inr (5, [.ref (sd 0), .ref (sd 1), .ref (sd 2), .ref (sd 3), .ref (sd 4), .ref (sd 5), .ref (sd 6), .int 0, .int (-1), .int 0, .int 0, .int 0, .int 0])), (sd 0, .inl (cyI, 6, .inl (fun _ => 0))), (sd 1, .inl (cyI, 8, .inl (fun _ => 0))), (sd 2, .inl (cyI, 8, .inl (fun _ => 0))), (sd 3, .inl (cyI, 328, .inl (fun _ => 0))), (sd 4, .inl (cyI, 328, .inl (fun _ => 0))), (sd 5, .inl (cyI, 41, .inl (fun _ => 0))), (sd 6, .inl (cyI, 41, .inl (fun _ => 0))), (q1431, .inr (5, [.ref (u1447 0), .ref (u1447 1), .ref (u1447 2), .ref (u1447 3), .ref (u1447 4), .ref (u1447 5), .ref (u1447 6), .int 0, .int (-1), .int 0, .int 0, .int 0, .int 0])), (u1447 0, .inl (cyI, 6, .inl (fun _ => 0))), (u1447 1, .inl (cyI, 8, .inl (fun _ => 0))), (u1447 2, .inl (cyI, 8, .inl (fun _ => 0))), (u1447 3, .inl (cyI, 328, .inl (fun _ => 0))), (u1447 4, .inl (cyI, 328, .inl (fun _ => 0))), (u1447 5, .inl (cyI, 41, .inl (fun _ => 0))), (u1447 6, .inl (cyI, 41, .inl (fun _ => 0)))] := hD
  refine lv_aload_n hx hb dX5_copyFrom_150 rfl (lv_at hl 0 rfl) ?_
  refine lv_aload_n hx hb dX5_copyFrom_151 rfl (lv_at hl 1 rfl) ?_
  refine va_get (D := (dC, dI)) (ci := 5) (v := .int 0) (C := RX5) (T := TX5) (N := 13) hx hb hts hi5 hown hK hP 0 rfl rfl 10 (by decide) (hts _ (ow_m (k := 14) rfl)) (fun _ h9 => h9) rfl dX5_copyFrom_152 ?_
  refine va_put (D := (dC, dI)) (ci := 5) (v := .int 0) (ty := .int) (C := RX5) (T := TX5) (N := 13) hx hb hts hi5 tyX5 tyX5_ok nmX5 hown hK hP hD hS 8 rfl rfl 10 (by decide) (hts _ (ow_m (k := 14) rfl)) (fun _ h9 => h9) rfl (by decide +kernel) rfl rfl (Nat.le_of_ble_eq_true rfl) dX5_copyFrom_155 (fun H locs hP hD hS => ?_)
  have hP : va_P (dC, dI) vwCl [(ad 9, .inr (5, [.ref (sd 0), .ref (sd 1), .ref (sd 2), .ref (sd 3), .ref (sd 4), .ref (sd 5), .ref (sd 6), .int 0, .int (-1), .int 0, .int 0, .int 0, .int 0])), (sd 0, .inl (cyI, 6, .inl (fun _ => 0))), (sd 1, .inl (cyI, 8, .inl (fun _ => 0))), (sd 2, .inl (cyI, 8, .inl (fun _ => 0))), (sd 3, .inl (cyI, 328, .inl (fun _ => 0))), (sd 4, .inl (cyI, 328, .inl (fun _ => 0))), (sd 5, .inl (cyI, 41, .inl (fun _ => 0))), (sd 6, .inl (cyI, 41, .inl (fun _ => 0))), (q1431, .inr (5, [.ref (u1447 0), .ref (u1447 1), .ref (u1447 2), .ref (u1447 3), .ref (u1447 4), .ref (u1447 5), .ref (u1447 6), .int 0, .int (-1), .int 0, .int 0, .int 0, .int 0])), (u1447 0, .inl (cyI, 6, .inl (fun _ => 0))), (u1447 1, .inl (cyI, 8, .inl (fun _ => 0))), (u1447 2, .inl (cyI, 8, .inl (fun _ => 0))), (u1447 3, .inl (cyI, 328, .inl (fun _ => 0))), (u1447 4, .inl (cyI, 328, .inl (fun _ => 0))), (u1447 5, .inl (cyI, 41, .inl (fun _ => 0))), (u1447 6, .inl (cyI, 41, .inl (fun _ => 0)))] H := hP
  have hD : va_D A [(ad 9, .inr (5, [.ref (sd 0), .ref (sd 1), .ref (sd 2), .ref (sd 3), .ref (sd 4), .ref (sd 5), .ref (sd 6), .int 0, .int (-1), .int 0, .int 0, .int 0, .int 0])), (sd 0, .inl (cyI, 6, .inl (fun _ => 0))), (sd 1, .inl (cyI, 8, .inl (fun _ => 0))), (sd 2, .inl (cyI, 8, .inl (fun _ => 0))), (sd 3, .inl (cyI, 328, .inl (fun _ => 0))), (sd 4, .inl (cyI, 328, .inl (fun _ => 0))), (sd 5, .inl (cyI, 41, .inl (fun _ => 0))), (sd 6, .inl (cyI, 41, .inl (fun _ => 0))), (q1431, .inr (5, [.ref (u1447 0), .ref (u1447 1), .ref (u1447 2), .ref (u1447 3), .ref (u1447 4), .ref (u1447 5), .ref (u1447 6), .int 0, .int (-1), .int 0, .int 0, .int 0, .int 0])), (u1447 0, .inl (cyI, 6, .inl (fun _ => 0))), (u1447 1, .inl (cyI, 8, .inl (fun _ => 0))), (u1447 2, .inl (cyI, 8, .inl (fun _ => 0))), (u1447 3, .inl (cyI, 328, .inl (fun _ => 0))), (u1447 4, .inl (cyI, 328, .inl (fun _ => 0))), (u1447 5, .inl (cyI, 41, .inl (fun _ => 0))), (u1447 6, .inl (cyI, 41, .inl (fun _ => 0)))] := hD
  refine lv_aload_n hx hb dX5_copyFrom_158 rfl (lv_at hl 0 rfl) ?_
  refine lv_aload_n hx hb dX5_copyFrom_159 rfl (lv_at hl 1 rfl) ?_
  refine va_get (D := (dC, dI)) (ci := 5) (v := .int 0) (C := RX5) (T := TX5) (N := 13) hx hb hts hi5 hown hK hP 0 rfl rfl 11 (by decide) (hts _ (ow_m (k := 15) rfl)) (fun _ h9 => h9) rfl dX5_copyFrom_160 ?_
  refine va_put (D := (dC, dI)) (ci := 5) (v := .int 0) (ty := .int) (C := RX5) (T := TX5) (N := 13) hx hb hts hi5 tyX5 tyX5_ok nmX5 hown hK hP hD hS 8 rfl rfl 11 (by decide) (hts _ (ow_m (k := 15) rfl)) (fun _ h9 => h9) rfl (by decide +kernel) rfl rfl (Nat.le_of_ble_eq_true rfl) dX5_copyFrom_163 (fun H locs hP hD hS => ?_)
  have hP : va_P (dC, dI) vwCl [(ad 9, .inr (5, [.ref (sd 0), .ref (sd 1), .ref (sd 2), .ref (sd 3), .ref (sd 4), .ref (sd 5), .ref (sd 6), .int 0, .int (-1), .int 0, .int 0, .int 0, .int 0])), (sd 0, .inl (cyI, 6, .inl (fun _ => 0))), (sd 1, .inl (cyI, 8, .inl (fun _ => 0))), (sd 2, .inl (cyI, 8, .inl (fun _ => 0))), (sd 3, .inl (cyI, 328, .inl (fun _ => 0))), (sd 4, .inl (cyI, 328, .inl (fun _ => 0))), (sd 5, .inl (cyI, 41, .inl (fun _ => 0))), (sd 6, .inl (cyI, 41, .inl (fun _ => 0))), (q1431, .inr (5, [.ref (u1447 0), .ref (u1447 1), .ref (u1447 2), .ref (u1447 3), .ref (u1447 4), .ref (u1447 5), .ref (u1447 6), .int 0, .int (-1), .int 0, .int 0, .int 0, .int 0])), (u1447 0, .inl (cyI, 6, .inl (fun _ => 0))), (u1447 1, .inl (cyI, 8, .inl (fun _ => 0))), (u1447 2, .inl (cyI, 8, .inl (fun _ => 0))), (u1447 3, .inl (cyI, 328, .inl (fun _ => 0))), (u1447 4, .inl (cyI, 328, .inl (fun _ => 0))), (u1447 5, .inl (cyI, 41, .inl (fun _ => 0))), (u1447 6, .inl (cyI, 41, .inl (fun _ => 0)))] H := hP
  have hD : va_D A [(ad 9, .inr (5, [.ref (sd 0), .ref (sd 1), .ref (sd 2), .ref (sd 3), .ref (sd 4), .ref (sd 5), .ref (sd 6), .int 0, .int (-1), .int 0, .int 0, .int 0, .int 0])), (sd 0, .inl (cyI, 6, .inl (fun _ => 0))), (sd 1, .inl (cyI, 8, .inl (fun _ => 0))), (sd 2, .inl (cyI, 8, .inl (fun _ => 0))), (sd 3, .inl (cyI, 328, .inl (fun _ => 0))), (sd 4, .inl (cyI, 328, .inl (fun _ => 0))), (sd 5, .inl (cyI, 41, .inl (fun _ => 0))), (sd 6, .inl (cyI, 41, .inl (fun _ => 0))), (q1431, .inr (5, [.ref (u1447 0), .ref (u1447 1), .ref (u1447 2), .ref (u1447 3), .ref (u1447 4), .ref (u1447 5), .ref (u1447 6), .int 0, .int (-1), .int 0, .int 0, .int 0, .int 0])), (u1447 0, .inl (cyI, 6, .inl (fun _ => 0))), (u1447 1, .inl (cyI, 8, .inl (fun _ => 0))), (u1447 2, .inl (cyI, 8, .inl (fun _ => 0))), (u1447 3, .inl (cyI, 328, .inl (fun _ => 0))), (u1447 4, .inl (cyI, 328, .inl (fun _ => 0))), (u1447 5, .inl (cyI, 41, .inl (fun _ => 0))), (u1447 6, .inl (cyI, 41, .inl (fun _ => 0)))] := hD
  refine lv_aload_n hx hb dX5_copyFrom_166 rfl (lv_at hl 0 rfl) ?_
  refine lv_aload_n hx hb dX5_copyFrom_167 rfl (lv_at hl 1 rfl) ?_
  refine va_get (D := (dC, dI)) (ci := 5) (v := .int 0) (C := RX5) (T := TX5) (N := 13) hx hb hts hi5 hown hK hP 0 rfl rfl 12 (by decide) (hts _ (ow_m (k := 16) rfl)) (fun _ h9 => h9) rfl dX5_copyFrom_168 ?_
  refine va_put (D := (dC, dI)) (ci := 5) (v := .int 0) (ty := .int) (C := RX5) (T := TX5) (N := 13) hx hb hts hi5 tyX5 tyX5_ok nmX5 hown hK hP hD hS 8 rfl rfl 12 (by decide) (hts _ (ow_m (k := 16) rfl)) (fun _ h9 => h9) rfl (by decide +kernel) rfl rfl (Nat.le_of_ble_eq_true rfl) dX5_copyFrom_171 (fun H locs hP hD hS => ?_)
  have hP : va_P (dC, dI) vwCl [(ad 9, .inr (5, [.ref (sd 0), .ref (sd 1), .ref (sd 2), .ref (sd 3), .ref (sd 4), .ref (sd 5), .ref (sd 6), .int 0, .int (-1), .int 0, .int 0, .int 0, .int 0])), (sd 0, .inl (cyI, 6, .inl (fun _ => 0))), (sd 1, .inl (cyI, 8, .inl (fun _ => 0))), (sd 2, .inl (cyI, 8, .inl (fun _ => 0))), (sd 3, .inl (cyI, 328, .inl (fun _ => 0))), (sd 4, .inl (cyI, 328, .inl (fun _ => 0))), (sd 5, .inl (cyI, 41, .inl (fun _ => 0))), (sd 6, .inl (cyI, 41, .inl (fun _ => 0))), (q1431, .inr (5, [.ref (u1447 0), .ref (u1447 1), .ref (u1447 2), .ref (u1447 3), .ref (u1447 4), .ref (u1447 5), .ref (u1447 6), .int 0, .int (-1), .int 0, .int 0, .int 0, .int 0])), (u1447 0, .inl (cyI, 6, .inl (fun _ => 0))), (u1447 1, .inl (cyI, 8, .inl (fun _ => 0))), (u1447 2, .inl (cyI, 8, .inl (fun _ => 0))), (u1447 3, .inl (cyI, 328, .inl (fun _ => 0))), (u1447 4, .inl (cyI, 328, .inl (fun _ => 0))), (u1447 5, .inl (cyI, 41, .inl (fun _ => 0))), (u1447 6, .inl (cyI, 41, .inl (fun _ => 0)))] H := hP
  have hD : va_D A [(ad 9, .inr (5, [.ref (sd 0), .ref (sd 1), .ref (sd 2), .ref (sd 3), .ref (sd 4), .ref (sd 5), .ref (sd 6), .int 0, .int (-1), .int 0, .int 0, .int 0, .int 0])), (sd 0, .inl (cyI, 6, .inl (fun _ => 0))), (sd 1, .inl (cyI, 8, .inl (fun _ => 0))), (sd 2, .inl (cyI, 8, .inl (fun _ => 0))), (sd 3, .inl (cyI, 328, .inl (fun _ => 0))), (sd 4, .inl (cyI, 328, .inl (fun _ => 0))), (sd 5, .inl (cyI, 41, .inl (fun _ => 0))), (sd 6, .inl (cyI, 41, .inl (fun _ => 0))), (q1431, .inr (5, [.ref (u1447 0), .ref (u1447 1), .ref (u1447 2), .ref (u1447 3), .ref (u1447 4), .ref (u1447 5), .ref (u1447 6), .int 0, .int (-1), .int 0, .int 0, .int 0, .int 0])), (u1447 0, .inl (cyI, 6, .inl (fun _ => 0))), (u1447 1, .inl (cyI, 8, .inl (fun _ => 0))), (u1447 2, .inl (cyI, 8, .inl (fun _ => 0))), (u1447 3, .inl (cyI, 328, .inl (fun _ => 0))), (u1447 4, .inl (cyI, 328, .inl (fun _ => 0))), (u1447 5, .inl (cyI, 41, .inl (fun _ => 0))), (u1447 6, .inl (cyI, 41, .inl (fun _ => 0)))] := hD
  exact W.vret hx hb hr (fun t ht hW => ⟨⟨(), rfl, trivial, cE.of ht hP hD [0, 1, 2, 3, 4, 5, 6, 7, 8, 9, 10, 11, 12, 13, 14, 15] (by decide) rfl⟩, hS.F ht⟩) hS.2.2 dX5_copyFrom_174
def wo_k_X5_init_v7 : List Cond := [.methodLink RX5 3 objectInit, .instanceMethod objectInit, .code objectInit ⟨#[0xb1]⟩ 1 none, .arrayClass .int, .fieldLink RX5 9 "ReplicaChain$State" "row" "[I", .fieldLink RX5 15 "ReplicaChain$State" "has" "[I", .fieldLink RX5 18 "ReplicaChain$State" "clean" "[I", .fieldLink RX5 21 "ReplicaChain$State" "downDue" "[I", .fieldLink RX5 24 "ReplicaChain$State" "upDue" "[I", .fieldLink RX5 27 "ReplicaChain$State" "keys" "[I", .fieldLink RX5 30 "ReplicaChain$State" "values" "[I", .fieldLink RX5 33 "ReplicaChain$State" "copier" "I"]
def wq_k_X5_init_v7 : List Cond := .code yX5_init cX5_init 1 none :: (wo_k_X5_init_v7 ++ (wsX50 ++ []))
theorem gd_k_X5_init_v7 : Gd wq_k_X5_init_v7 := gd_c (gd_a (gd_o (by decide +kernel)) (gd_a gd_u gd_0))
abbrev wc_k_X5_init_v7 (cyB cyI cyJ cyZ cyO : ClassId) (q1453 : Nat) : va_W := [(q1453, .inr (5, [.null, .null, .null, .null, .null, .null, .null, .int 0, .int 0, .int 0, .int 0, .int 0, .int 0]))]
set_option maxHeartbeats 4000000 in
set_option maxRecDepth 100000 in
theorem k_X5_init_v7 (l : Launch) (dC : Nat → ClassId) (dI : Nat → Nat → Nat) (cyB cyI cyJ cyZ cyO : ClassId) (q1453 : Nat) (sz : Nat) : Met l yX5_init wq_k_X5_init_v7 ({ frames := 1, cells := 7, slots := 760, locals := 20 }) (va_Pc [.ref q1453] (cB (dC, dI) (kT cyB cyI cyJ cyZ cyO) (wc_k_X5_init_v7 cyB cyI cyJ cyZ cyO q1453) sz)) (va_Qv (fun _ => True) (fun (u : Nat → Nat) t => cE (dC, dI) (va_A (wc_k_X5_init_v7 cyB cyI cyJ cyZ cyO q1453) sz) ([(q1453, .inr (5, [.ref (u 0), .ref (u 1), .ref (u 2), .ref (u 3), .ref (u 4), .ref (u 5), .ref (u 6), .int 0, .int (-1), .int 0, .int 0, .int 0, .int 0])), (u 0, .inl (cyI, 6, .inl (fun _ => 0))), (u 1, .inl (cyI, 8, .inl (fun _ => 0))), (u 2, .inl (cyI, 8, .inl (fun _ => 0))), (u 3, .inl (cyI, 328, .inl (fun _ => 0))), (u 4, .inl (cyI, 328, .inl (fun _ => 0))), (u 5, .inl (cyI, 41, .inl (fun _ => 0))), (u 6, .inl (cyI, 41, .inl (fun _ => 0)))]) t.heap) (va_A (wc_k_X5_init_v7 cyB cyI cyJ cyZ cyO q1453) sz)) 7 760 (va_A (wc_k_X5_init_v7 cyB cyI cyJ cyZ cyO q1453) sz) := by
  refine Met.ofW (cc := cX5_init) (maxL := 1) (ret := none) (by decide) rfl ?_
  intro p e s m args below meth c s₁ B hml hv
  obtain ⟨rfl, hsz, hP, hKN, hD0⟩ := hv
  have hx := B.exec
  have hb := B.bytes
  have hr := B.returns
  have hts := atoms_spec (ws := wq_k_X5_init_v7) B.pre
  have hown : s.vm.findClass RX5 = some m.cls := findClass_of_methodNamed B.named
  have hlocks := B.notSynchronized
  have hin : meth.name = "<init>" := (name_of_methodNamed B.named B.method).1
  have hK := hKN.1
  have hfix : CallFix p m c cX5_init 1 s [.ref q1453].toArray wq_k_X5_init_v7 RX5 := ⟨hx, hb, hml, hown, hts⟩
  have hi5 : ∀ w ∈ wsX50, w ∈ wq_k_X5_init_v7 := (sb_c sb_l)
  subst hsz
  have hD := hD0.self (sz := s.heap.size)
  generalize hAe : va_A (wc_k_X5_init_v7 cyB cyI cyJ cyZ cyO q1453) s.heap.size = A at hD ⊢
  have hA : ∀ q : Nat, s.heap.size ≤ q → A q := fun q h => by rw [← hAe]; exact Or.inr h
  have hS : va_S A s.heap s.heap [] := va_S.rf
  have hl := lv_entry ([.ref q1453]) (n := 1) (Nat.le_of_ble_eq_true rfl)
  rw [lg_entry_eq]
  generalize (lg_sl ([.ref q1453]) ++ List.replicate (1 - (lg_sl ([.ref q1453])).length) Slot.unset).toArray = ls at hl ⊢
  have hl : lv_has ls 1 [(0, .ref q1453)] := hl
  refine lv_aload_n hx hb dX5_init_0 rfl (lv_at hl 0 rfl) ?_
  refine W.objInit hx hb hown (hts _ (ow_m (k := 0) rfl)) (hts _ (ow_m (k := 1) rfl)) (hts _ (ow_m (k := 2) rfl)) rfl (by rw [hml]; exact hl.1) rfl dX5_init_1 (Nat.le_of_ble_eq_true rfl) (Nat.le_of_ble_eq_true rfl) ?_
  refine W.eq (g2 := F0 m 4 ls []) rfl ?_
  refine lv_aload_n hx hb dX5_init_4 rfl (lv_at hl 0 rfl) ?_
  refine lv_bipush (v := 6) hx hb dX5_init_5 (by decide) ?_
  refine g_newa (a0 := (6, .inl (fun _ => 0))) hx hb (hts _ (ow_m (k := 3) rfl)) rfl hKN hP hD hS hA 1 rfl rfl (fun _ => rfl) (by decide) (by decide) (by decide) (Nat.le_of_ble_eq_true rfl) (Nat.le_of_ble_eq_true rfl) dX5_init_7 (fun q1461 H hP hD hS => ?_)
  have hP : va_P (dC, dI) vwCl [(q1453, .inr (5, [.null, .null, .null, .null, .null, .null, .null, .int 0, .int 0, .int 0, .int 0, .int 0, .int 0])), (q1461, .inl (cyI, 6, .inl (fun _ => 0)))] H := hP
  have hD : va_D A [(q1453, .inr (5, [.null, .null, .null, .null, .null, .null, .null, .int 0, .int 0, .int 0, .int 0, .int 0, .int 0])), (q1461, .inl (cyI, 6, .inl (fun _ => 0)))] := hD
  refine W.widen (k := 1) (n := 6) (by omega) (by omega) ?_
  refine va_putF (D := (dC, dI)) (ci := 5) (v := .ref q1461) (ty := .array .int) (C := RX5) (T := TX5) (N := 13) hx hb hts hi5 tyX5 tyX5_ok nmX5 hown hK hP hD hS 0 rfl rfl 0 (by decide) (hts _ (ow_m (k := 4) rfl)) (fun _ h9 => h9) rfl hin rfl (by decide +kernel) rfl rfl (Nat.le_of_ble_eq_true rfl) dX5_init_9 (fun H locs hP hD hS => ?_)
  have hP : va_P (dC, dI) vwCl [(q1453, .inr (5, [.ref q1461, .null, .null, .null, .null, .null, .null, .int 0, .int 0, .int 0, .int 0, .int 0, .int 0])), (q1461, .inl (cyI, 6, .inl (fun _ => 0)))] H := hP
  have hD : va_D A [(q1453, .inr (5, [.ref q1461, .null, .null, .null, .null, .null, .null, .int 0, .int 0, .int 0, .int 0, .int 0, .int 0])), (q1461, .inl (cyI, 6, .inl (fun _ => 0)))] := hD
  refine lv_aload_n hx hb dX5_init_12 rfl (lv_at hl 0 rfl) ?_
  refine lv_bipush (v := 8) hx hb dX5_init_13 (by decide) ?_
  refine g_newa (a0 := (8, .inl (fun _ => 0))) hx hb (hts _ (ow_m (k := 3) rfl)) rfl hKN hP hD hS hA 1 rfl rfl (fun _ => rfl) (by decide) (by decide) (by decide) (Nat.le_of_ble_eq_true rfl) (Nat.le_of_ble_eq_true rfl) dX5_init_15 (fun q1462 H hP hD hS => ?_)
  have hP : va_P (dC, dI) vwCl [(q1453, .inr (5, [.ref q1461, .null, .null, .null, .null, .null, .null, .int 0, .int 0, .int 0, .int 0, .int 0, .int 0])), (q1461, .inl (cyI, 6, .inl (fun _ => 0))), (q1462, .inl (cyI, 8, .inl (fun _ => 0)))] H := hP
  have hD : va_D A [(q1453, .inr (5, [.ref q1461, .null, .null, .null, .null, .null, .null, .int 0, .int 0, .int 0, .int 0, .int 0, .int 0])), (q1461, .inl (cyI, 6, .inl (fun _ => 0))), (q1462, .inl (cyI, 8, .inl (fun _ => 0)))] := hD
  refine W.widen (k := 2) (n := 14) (by omega) (by omega) ?_
  refine va_putF (D := (dC, dI)) (ci := 5) (v := .ref q1462) (ty := .array .int) (C := RX5) (T := TX5) (N := 13) hx hb hts hi5 tyX5 tyX5_ok nmX5 hown hK hP hD hS 0 rfl rfl 1 (by decide) (hts _ (ow_m (k := 5) rfl)) (fun _ h9 => h9) rfl hin rfl (by decide +kernel) rfl rfl (Nat.le_of_ble_eq_true rfl) dX5_init_17 (fun H locs hP hD hS => ?_)
  have hP : va_P (dC, dI) vwCl [(q1453, .inr (5, [.ref q1461, .ref q1462, .null, .null, .null, .null, .null, .int 0, .int 0, .int 0, .int 0, .int 0, .int 0])), (q1461, .inl (cyI, 6, .inl (fun _ => 0))), (q1462, .inl (cyI, 8, .inl (fun _ => 0)))] H := hP
  have hD : va_D A [(q1453, .inr (5, [.ref q1461, .ref q1462, .null, .null, .null, .null, .null, .int 0, .int 0, .int 0, .int 0, .int 0, .int 0])), (q1461, .inl (cyI, 6, .inl (fun _ => 0))), (q1462, .inl (cyI, 8, .inl (fun _ => 0)))] := hD
  refine lv_aload_n hx hb dX5_init_20 rfl (lv_at hl 0 rfl) ?_
  refine lv_bipush (v := 8) hx hb dX5_init_21 (by decide) ?_
  refine g_newa (a0 := (8, .inl (fun _ => 0))) hx hb (hts _ (ow_m (k := 3) rfl)) rfl hKN hP hD hS hA 1 rfl rfl (fun _ => rfl) (by decide) (by decide) (by decide) (Nat.le_of_ble_eq_true rfl) (Nat.le_of_ble_eq_true rfl) dX5_init_23 (fun q1463 H hP hD hS => ?_)
  have hP : va_P (dC, dI) vwCl [(q1453, .inr (5, [.ref q1461, .ref q1462, .null, .null, .null, .null, .null, .int 0, .int 0, .int 0, .int 0, .int 0, .int 0])), (q1461, .inl (cyI, 6, .inl (fun _ => 0))), (q1462, .inl (cyI, 8, .inl (fun _ => 0))), (q1463, .inl (cyI, 8, .inl (fun _ => 0)))] H := hP
  have hD : va_D A [(q1453, .inr (5, [.ref q1461, .ref q1462, .null, .null, .null, .null, .null, .int 0, .int 0, .int 0, .int 0, .int 0, .int 0])), (q1461, .inl (cyI, 6, .inl (fun _ => 0))), (q1462, .inl (cyI, 8, .inl (fun _ => 0))), (q1463, .inl (cyI, 8, .inl (fun _ => 0)))] := hD
  refine W.widen (k := 3) (n := 22) (by omega) (by omega) ?_
  refine va_putF (D := (dC, dI)) (ci := 5) (v := .ref q1463) (ty := .array .int) (C := RX5) (T := TX5) (N := 13) hx hb hts hi5 tyX5 tyX5_ok nmX5 hown hK hP hD hS 0 rfl rfl 2 (by decide) (hts _ (ow_m (k := 6) rfl)) (fun _ h9 => h9) rfl hin rfl (by decide +kernel) rfl rfl (Nat.le_of_ble_eq_true rfl) dX5_init_25 (fun H locs hP hD hS => ?_)
  have hP : va_P (dC, dI) vwCl [(q1453, .inr (5, [.ref q1461, .ref q1462, .ref q1463, .null, .null, .null, .null, .int 0, .int 0, .int 0, .int 0, .int 0, .int 0])), (q1461, .inl (cyI, 6, .inl (fun _ => 0))), (q1462, .inl (cyI, 8, .inl (fun _ => 0))), (q1463, .inl (cyI, 8, .inl (fun _ => 0)))] H := hP
  have hD : va_D A [(q1453, .inr (5, [.ref q1461, .ref q1462, .ref q1463, .null, .null, .null, .null, .int 0, .int 0, .int 0, .int 0, .int 0, .int 0])), (q1461, .inl (cyI, 6, .inl (fun _ => 0))), (q1462, .inl (cyI, 8, .inl (fun _ => 0))), (q1463, .inl (cyI, 8, .inl (fun _ => 0)))] := hD
  refine lv_aload_n hx hb dX5_init_28 rfl (lv_at hl 0 rfl) ?_
  refine lv_sipush (v := 328) hx hb dX5_init_29 (by decide) ?_
  refine g_newa (a0 := (328, .inl (fun _ => 0))) hx hb (hts _ (ow_m (k := 3) rfl)) rfl hKN hP hD hS hA 1 rfl rfl (fun _ => rfl) (by decide) (by decide) (by decide) (Nat.le_of_ble_eq_true rfl) (Nat.le_of_ble_eq_true rfl) dX5_init_32 (fun q1464 H hP hD hS => ?_)
  have hP : va_P (dC, dI) vwCl [(q1453, .inr (5, [.ref q1461, .ref q1462, .ref q1463, .null, .null, .null, .null, .int 0, .int 0, .int 0, .int 0, .int 0, .int 0])), (q1461, .inl (cyI, 6, .inl (fun _ => 0))), (q1462, .inl (cyI, 8, .inl (fun _ => 0))), (q1463, .inl (cyI, 8, .inl (fun _ => 0))), (q1464, .inl (cyI, 328, .inl (fun _ => 0)))] H := hP
  have hD : va_D A [(q1453, .inr (5, [.ref q1461, .ref q1462, .ref q1463, .null, .null, .null, .null, .int 0, .int 0, .int 0, .int 0, .int 0, .int 0])), (q1461, .inl (cyI, 6, .inl (fun _ => 0))), (q1462, .inl (cyI, 8, .inl (fun _ => 0))), (q1463, .inl (cyI, 8, .inl (fun _ => 0))), (q1464, .inl (cyI, 328, .inl (fun _ => 0)))] := hD
  refine W.widen (k := 4) (n := 350) (by omega) (by omega) ?_
  refine va_putF (D := (dC, dI)) (ci := 5) (v := .ref q1464) (ty := .array .int) (C := RX5) (T := TX5) (N := 13) hx hb hts hi5 tyX5 tyX5_ok nmX5 hown hK hP hD hS 0 rfl rfl 3 (by decide) (hts _ (ow_m (k := 7) rfl)) (fun _ h9 => h9) rfl hin rfl (by decide +kernel) rfl rfl (Nat.le_of_ble_eq_true rfl) dX5_init_34 (fun H locs hP hD hS => ?_)
  have hP : va_P (dC, dI) vwCl [(q1453, .inr (5, [.ref q1461, .ref q1462, .ref q1463, .ref q1464, .null, .null, .null, .int 0, .int 0, .int 0, .int 0, .int 0, .int 0])), (q1461, .inl (cyI, 6, .inl (fun _ => 0))), (q1462, .inl (cyI, 8, .inl (fun _ => 0))), (q1463, .inl (cyI, 8, .inl (fun _ => 0))), (q1464, .inl (cyI, 328, .inl (fun _ => 0)))] H := hP
  have hD : va_D A [(q1453, .inr (5, [.ref q1461, .ref q1462, .ref q1463, .ref q1464, .null, .null, .null, .int 0, .int 0, .int 0, .int 0, .int 0, .int 0])), (q1461, .inl (cyI, 6, .inl (fun _ => 0))), (q1462, .inl (cyI, 8, .inl (fun _ => 0))), (q1463, .inl (cyI, 8, .inl (fun _ => 0))), (q1464, .inl (cyI, 328, .inl (fun _ => 0)))] := hD
  refine lv_aload_n hx hb dX5_init_37 rfl (lv_at hl 0 rfl) ?_
  refine lv_sipush (v := 328) hx hb dX5_init_38 (by decide) ?_
  refine g_newa (a0 := (328, .inl (fun _ => 0))) hx hb (hts _ (ow_m (k := 3) rfl)) rfl hKN hP hD hS hA 1 rfl rfl (fun _ => rfl) (by decide) (by decide) (by decide) (Nat.le_of_ble_eq_true rfl) (Nat.le_of_ble_eq_true rfl) dX5_init_41 (fun q1465 H hP hD hS => ?_)
  have hP : va_P (dC, dI) vwCl [(q1453, .inr (5, [.ref q1461, .ref q1462, .ref q1463, .ref q1464, .null, .null, .null, .int 0, .int 0, .int 0, .int 0, .int 0, .int 0])), (q1461, .inl (cyI, 6, .inl (fun _ => 0))), (q1462, .inl (cyI, 8, .inl (fun _ => 0))), (q1463, .inl (cyI, 8, .inl (fun _ => 0))), (q1464, .inl (cyI, 328, .inl (fun _ => 0))), (q1465, .inl (cyI, 328, .inl (fun _ => 0)))] H := hP
  have hD : va_D A [(q1453, .inr (5, [.ref q1461, .ref q1462, .ref q1463, .ref q1464, .null, .null, .null, .int 0, .int 0, .int 0, .int 0, .int 0, .int 0])), (q1461, .inl (cyI, 6, .inl (fun _ => 0))), (q1462, .inl (cyI, 8, .inl (fun _ => 0))), (q1463, .inl (cyI, 8, .inl (fun _ => 0))), (q1464, .inl (cyI, 328, .inl (fun _ => 0))), (q1465, .inl (cyI, 328, .inl (fun _ => 0)))] := hD
  refine W.widen (k := 5) (n := 678) (by omega) (by omega) ?_
  refine va_putF (D := (dC, dI)) (ci := 5) (v := .ref q1465) (ty := .array .int) (C := RX5) (T := TX5) (N := 13) hx hb hts hi5 tyX5 tyX5_ok nmX5 hown hK hP hD hS 0 rfl rfl 4 (by decide) (hts _ (ow_m (k := 8) rfl)) (fun _ h9 => h9) rfl hin rfl (by decide +kernel) rfl rfl (Nat.le_of_ble_eq_true rfl) dX5_init_43 (fun H locs hP hD hS => ?_)
  have hP : va_P (dC, dI) vwCl [(q1453, .inr (5, [.ref q1461, .ref q1462, .ref q1463, .ref q1464, .ref q1465, .null, .null, .int 0, .int 0, .int 0, .int 0, .int 0, .int 0])), (q1461, .inl (cyI, 6, .inl (fun _ => 0))), (q1462, .inl (cyI, 8, .inl (fun _ => 0))), (q1463, .inl (cyI, 8, .inl (fun _ => 0))), (q1464, .inl (cyI, 328, .inl (fun _ => 0))), (q1465, .inl (cyI, 328, .inl (fun _ => 0)))] H := hP
  have hD : va_D A [(q1453, .inr (5, [.ref q1461, .ref q1462, .ref q1463, .ref q1464, .ref q1465, .null, .null, .int 0, .int 0, .int 0, .int 0, .int 0, .int 0])), (q1461, .inl (cyI, 6, .inl (fun _ => 0))), (q1462, .inl (cyI, 8, .inl (fun _ => 0))), (q1463, .inl (cyI, 8, .inl (fun _ => 0))), (q1464, .inl (cyI, 328, .inl (fun _ => 0))), (q1465, .inl (cyI, 328, .inl (fun _ => 0)))] := hD
  refine lv_aload_n hx hb dX5_init_46 rfl (lv_at hl 0 rfl) ?_
  refine lv_bipush (v := 41) hx hb dX5_init_47 (by decide) ?_
  refine g_newa (a0 := (41, .inl (fun _ => 0))) hx hb (hts _ (ow_m (k := 3) rfl)) rfl hKN hP hD hS hA 1 rfl rfl (fun _ => rfl) (by decide) (by decide) (by decide) (Nat.le_of_ble_eq_true rfl) (Nat.le_of_ble_eq_true rfl) dX5_init_49 (fun q1466 H hP hD hS => ?_)
  have hP : va_P (dC, dI) vwCl [(q1453, .inr (5, [.ref q1461, .ref q1462, .ref q1463, .ref q1464, .ref q1465, .null, .null, .int 0, .int 0, .int 0, .int 0, .int 0, .int 0])), (q1461, .inl (cyI, 6, .inl (fun _ => 0))), (q1462, .inl (cyI, 8, .inl (fun _ => 0))), (q1463, .inl (cyI, 8, .inl (fun _ => 0))), (q1464, .inl (cyI, 328, .inl (fun _ => 0))), (q1465, .inl (cyI, 328, .inl (fun _ => 0))), (q1466, .inl (cyI, 41, .inl (fun _ => 0)))] H := hP
  have hD : va_D A [(q1453, .inr (5, [.ref q1461, .ref q1462, .ref q1463, .ref q1464, .ref q1465, .null, .null, .int 0, .int 0, .int 0, .int 0, .int 0, .int 0])), (q1461, .inl (cyI, 6, .inl (fun _ => 0))), (q1462, .inl (cyI, 8, .inl (fun _ => 0))), (q1463, .inl (cyI, 8, .inl (fun _ => 0))), (q1464, .inl (cyI, 328, .inl (fun _ => 0))), (q1465, .inl (cyI, 328, .inl (fun _ => 0))), (q1466, .inl (cyI, 41, .inl (fun _ => 0)))] := hD
  refine W.widen (k := 6) (n := 719) (by omega) (by omega) ?_
  refine va_putF (D := (dC, dI)) (ci := 5) (v := .ref q1466) (ty := .array .int) (C := RX5) (T := TX5) (N := 13) hx hb hts hi5 tyX5 tyX5_ok nmX5 hown hK hP hD hS 0 rfl rfl 5 (by decide) (hts _ (ow_m (k := 9) rfl)) (fun _ h9 => h9) rfl hin rfl (by decide +kernel) rfl rfl (Nat.le_of_ble_eq_true rfl) dX5_init_51 (fun H locs hP hD hS => ?_)
  have hP : va_P (dC, dI) vwCl [(q1453, .inr (5, [.ref q1461, .ref q1462, .ref q1463, .ref q1464, .ref q1465, .ref q1466, .null, .int 0, .int 0, .int 0, .int 0, .int 0, .int 0])), (q1461, .inl (cyI, 6, .inl (fun _ => 0))), (q1462, .inl (cyI, 8, .inl (fun _ => 0))), (q1463, .inl (cyI, 8, .inl (fun _ => 0))), (q1464, .inl (cyI, 328, .inl (fun _ => 0))), (q1465, .inl (cyI, 328, .inl (fun _ => 0))), (q1466, .inl (cyI, 41, .inl (fun _ => 0)))] H := hP
  have hD : va_D A [(q1453, .inr (5, [.ref q1461, .ref q1462, .ref q1463, .ref q1464, .ref q1465, .ref q1466, .null, .int 0, .int 0, .int 0, .int 0, .int 0, .int 0])), (q1461, .inl (cyI, 6, .inl (fun _ => 0))), (q1462, .inl (cyI, 8, .inl (fun _ => 0))), (q1463, .inl (cyI, 8, .inl (fun _ => 0))), (q1464, .inl (cyI, 328, .inl (fun _ => 0))), (q1465, .inl (cyI, 328, .inl (fun _ => 0))), (q1466, .inl (cyI, 41, .inl (fun _ => 0)))] := hD
  refine lv_aload_n hx hb dX5_init_54 rfl (lv_at hl 0 rfl) ?_
  refine lv_bipush (v := 41) hx hb dX5_init_55 (by decide) ?_
  refine g_newa (a0 := (41, .inl (fun _ => 0))) hx hb (hts _ (ow_m (k := 3) rfl)) rfl hKN hP hD hS hA 1 rfl rfl (fun _ => rfl) (by decide) (by decide) (by decide) (Nat.le_of_ble_eq_true rfl) (Nat.le_of_ble_eq_true rfl) dX5_init_57 (fun q1467 H hP hD hS => ?_)
  have hP : va_P (dC, dI) vwCl [(q1453, .inr (5, [.ref q1461, .ref q1462, .ref q1463, .ref q1464, .ref q1465, .ref q1466, .null, .int 0, .int 0, .int 0, .int 0, .int 0, .int 0])), (q1461, .inl (cyI, 6, .inl (fun _ => 0))), (q1462, .inl (cyI, 8, .inl (fun _ => 0))), (q1463, .inl (cyI, 8, .inl (fun _ => 0))), (q1464, .inl (cyI, 328, .inl (fun _ => 0))), (q1465, .inl (cyI, 328, .inl (fun _ => 0))), (q1466, .inl (cyI, 41, .inl (fun _ => 0))), (q1467, .inl (cyI, 41, .inl (fun _ => 0)))] H := hP
  have hD : va_D A [(q1453, .inr (5, [.ref q1461, .ref q1462, .ref q1463, .ref q1464, .ref q1465, .ref q1466, .null, .int 0, .int 0, .int 0, .int 0, .int 0, .int 0])), (q1461, .inl (cyI, 6, .inl (fun _ => 0))), (q1462, .inl (cyI, 8, .inl (fun _ => 0))), (q1463, .inl (cyI, 8, .inl (fun _ => 0))), (q1464, .inl (cyI, 328, .inl (fun _ => 0))), (q1465, .inl (cyI, 328, .inl (fun _ => 0))), (q1466, .inl (cyI, 41, .inl (fun _ => 0))), (q1467, .inl (cyI, 41, .inl (fun _ => 0)))] := hD
  refine W.widen (k := 7) (n := 760) (by omega) (by omega) ?_
  refine va_putF (D := (dC, dI)) (ci := 5) (v := .ref q1467) (ty := .array .int) (C := RX5) (T := TX5) (N := 13) hx hb hts hi5 tyX5 tyX5_ok nmX5 hown hK hP hD hS 0 rfl rfl 6 (by decide) (hts _ (ow_m (k := 10) rfl)) (fun _ h9 => h9) rfl hin rfl (by decide +kernel) rfl rfl (Nat.le_of_ble_eq_true rfl) dX5_init_59 (fun H locs hP hD hS => ?_)
  have hP : va_P (dC, dI) vwCl [(q1453, .inr (5, [.ref q1461, .ref q1462, .ref q1463, .ref q1464, .ref q1465, .ref q1466, .ref q1467, .int 0, .int 0, .int 0, .int 0, .int 0, .int 0])), (q1461, .inl (cyI, 6, .inl (fun _ => 0))), (q1462, .inl (cyI, 8, .inl (fun _ => 0))), (q1463, .inl (cyI, 8, .inl (fun _ => 0))), (q1464, .inl (cyI, 328, .inl (fun _ => 0))), (q1465, .inl (cyI, 328, .inl (fun _ => 0))), (q1466, .inl (cyI, 41, .inl (fun _ => 0))), (q1467, .inl (cyI, 41, .inl (fun _ => 0)))] H := hP
  have hD : va_D A [(q1453, .inr (5, [.ref q1461, .ref q1462, .ref q1463, .ref q1464, .ref q1465, .ref q1466, .ref q1467, .int 0, .int 0, .int 0, .int 0, .int 0, .int 0])), (q1461, .inl (cyI, 6, .inl (fun _ => 0))), (q1462, .inl (cyI, 8, .inl (fun _ => 0))), (q1463, .inl (cyI, 8, .inl (fun _ => 0))), (q1464, .inl (cyI, 328, .inl (fun _ => 0))), (q1465, .inl (cyI, 328, .inl (fun _ => 0))), (q1466, .inl (cyI, 41, .inl (fun _ => 0))), (q1467, .inl (cyI, 41, .inl (fun _ => 0)))] := hD
  refine lv_aload_n hx hb dX5_init_62 rfl (lv_at hl 0 rfl) ?_
  refine lv_iconst (v := (-1)) hx hb dX5_init_63 (by decide) ?_
  refine va_put (D := (dC, dI)) (ci := 5) (v := .int (-1)) (ty := .int) (C := RX5) (T := TX5) (N := 13) hx hb hts hi5 tyX5 tyX5_ok nmX5 hown hK hP hD hS 0 rfl rfl 8 (by decide) (hts _ (ow_m (k := 11) rfl)) (fun _ h9 => h9) rfl (by decide +kernel) rfl rfl (Nat.le_of_ble_eq_true rfl) dX5_init_64 (fun H locs hP hD hS => ?_)
  have hP : va_P (dC, dI) vwCl [(q1453, .inr (5, [.ref q1461, .ref q1462, .ref q1463, .ref q1464, .ref q1465, .ref q1466, .ref q1467, .int 0, .int (-1), .int 0, .int 0, .int 0, .int 0])), (q1461, .inl (cyI, 6, .inl (fun _ => 0))), (q1462, .inl (cyI, 8, .inl (fun _ => 0))), (q1463, .inl (cyI, 8, .inl (fun _ => 0))), (q1464, .inl (cyI, 328, .inl (fun _ => 0))), (q1465, .inl (cyI, 328, .inl (fun _ => 0))), (q1466, .inl (cyI, 41, .inl (fun _ => 0))), (q1467, .inl (cyI, 41, .inl (fun _ => 0)))] H := hP
  have hD : va_D A [(q1453, .inr (5, [.ref q1461, .ref q1462, .ref q1463, .ref q1464, .ref q1465, .ref q1466, .ref q1467, .int 0, .int (-1), .int 0, .int 0, .int 0, .int 0])), (q1461, .inl (cyI, 6, .inl (fun _ => 0))), (q1462, .inl (cyI, 8, .inl (fun _ => 0))), (q1463, .inl (cyI, 8, .inl (fun _ => 0))), (q1464, .inl (cyI, 328, .inl (fun _ => 0))), (q1465, .inl (cyI, 328, .inl (fun _ => 0))), (q1466, .inl (cyI, 41, .inl (fun _ => 0))), (q1467, .inl (cyI, 41, .inl (fun _ => 0)))] := hD
  exact W.vret hx hb hr (fun t ht hW => ⟨⟨(fun k => match k with | 0 => q1461 | 1 => q1462 | 2 => q1463 | 3 => q1464 | 4 => q1465 | 5 => q1466 | _ => q1467), rfl, trivial, cE.of ht hP hD [0, 1, 2, 3, 4, 5, 6, 7] (by decide) rfl⟩, hS.F ht⟩) hS.2.2 dX5_init_67
def wo_k_X5_copyFrom_v8 : List Cond := [.fieldLink RX5 9 "ReplicaChain$State" "row" "[I", .methodLink RX5 63 arraycopyName, .native arraycopyName, .static arraycopyName, .initialized "java/lang/System", .fieldLink RX5 15 "ReplicaChain$State" "has" "[I", .fieldLink RX5 18 "ReplicaChain$State" "clean" "[I", .fieldLink RX5 21 "ReplicaChain$State" "downDue" "[I", .fieldLink RX5 24 "ReplicaChain$State" "upDue" "[I", .fieldLink RX5 27 "ReplicaChain$State" "keys" "[I", .fieldLink RX5 30 "ReplicaChain$State" "values" "[I", .fieldLink RX5 42 "ReplicaChain$State" "size" "I", .fieldLink RX5 33 "ReplicaChain$State" "copier" "I", .fieldLink RX5 48 "ReplicaChain$State" "copyLeft" "I", .fieldLink RX5 51 "ReplicaChain$State" "tick" "I", .fieldLink RX5 57 "ReplicaChain$State" "seed" "I", .fieldLink RX5 60 "ReplicaChain$State" "dropped" "I"]
def wq_k_X5_copyFrom_v8 : List Cond := .code yX5_copyFrom cX5_copyFrom 2 none :: (wo_k_X5_copyFrom_v8 ++ (wsX50 ++ []))
theorem gd_k_X5_copyFrom_v8 : Gd wq_k_X5_copyFrom_v8 := gd_c (gd_a (gd_o (by decide +kernel)) (gd_a gd_u gd_0))
abbrev wc_k_X5_copyFrom_v8 (cyB cyI cyJ cyZ cyO : ClassId) (ad : Nat → Nat) (sd : Nat → Nat) (q1453 : Nat) (u1469 : Nat → Nat) : va_W := [(ad 9, .inr (5, [.ref (sd 0), .ref (sd 1), .ref (sd 2), .ref (sd 3), .ref (sd 4), .ref (sd 5), .ref (sd 6), .int 0, .int (-1), .int 0, .int 0, .int 0, .int 0])), (sd 0, .inl (cyI, 6, .inl (fun _ => 0))), (sd 1, .inl (cyI, 8, .inl (fun _ => 0))), (sd 2, .inl (cyI, 8, .inl (fun _ => 0))), (sd 3, .inl (cyI, 328, .inl (fun _ => 0))), (sd 4, .inl (cyI, 328, .inl (fun _ => 0))), (sd 5, .inl (cyI, 41, .inl (fun _ => 0))), (sd 6, .inl (cyI, 41, .inl (fun _ => 0))), (q1453, .inr (5, [.ref (u1469 0), .ref (u1469 1), .ref (u1469 2), .ref (u1469 3), .ref (u1469 4), .ref (u1469 5), .ref (u1469 6), .int 0, .int (-1), .int 0, .int 0, .int 0, .int 0])), (u1469 0, .inl (cyI, 6, .inl (fun _ => 0))), (u1469 1, .inl (cyI, 8, .inl (fun _ => 0))), (u1469 2, .inl (cyI, 8, .inl (fun _ => 0))), (u1469 3, .inl (cyI, 328, .inl (fun _ => 0))), (u1469 4, .inl (cyI, 328, .inl (fun _ => 0))), (u1469 5, .inl (cyI, 41, .inl (fun _ => 0))), (u1469 6, .inl (cyI, 41, .inl (fun _ => 0)))]
set_option maxHeartbeats 4000000 in
set_option maxRecDepth 100000 in
theorem k_X5_copyFrom_v8 (l : Launch) (dC : Nat → ClassId) (dI : Nat → Nat → Nat) (cyB cyI cyJ cyZ cyO : ClassId) (ad : Nat → Nat) (sd : Nat → Nat) (q1453 : Nat) (u1469 : Nat → Nat) (sz : Nat) : Met l yX5_copyFrom wq_k_X5_copyFrom_v8 ({ frames := 1, cells := 0, slots := 0, locals := 80 }) (va_Pc [.ref q1453, .ref (ad 9)] (cB (dC, dI) (kT cyB cyI cyJ cyZ cyO) (wc_k_X5_copyFrom_v8 cyB cyI cyJ cyZ cyO ad sd q1453 u1469) sz)) (va_Qv (fun _ => True) (fun (u : Unit) t => cE (dC, dI) (va_A (wc_k_X5_copyFrom_v8 cyB cyI cyJ cyZ cyO ad sd q1453 u1469) sz) ([(ad 9, .inr (5, [.ref (sd 0), .ref (sd 1), .ref (sd 2), .ref (sd 3), .ref (sd 4), .ref (sd 5), .ref (sd 6), .int 0, .int (-1), .int 0, .int 0, .int 0, .int 0])), (sd 0, .inl (cyI, 6, .inl (fun _ => 0))), (sd 1, .inl (cyI, 8, .inl (fun _ => 0))), (sd 2, .inl (cyI, 8, .inl (fun _ => 0))), (sd 3, .inl (cyI, 328, .inl (fun _ => 0))), (sd 4, .inl (cyI, 328, .inl (fun _ => 0))), (sd 5, .inl (cyI, 41, .inl (fun _ => 0))), (sd 6, .inl (cyI, 41, .inl (fun _ => 0))), (q1453, .inr (5, [.ref (u1469 0), .ref (u1469 1), .ref (u1469 2), .ref (u1469 3), .ref (u1469 4), .ref (u1469 5), .ref (u1469 6), .int 0, .int (-1), .int 0, .int 0, .int 0, .int 0])), (u1469 0, .inl (cyI, 6, .inl (fun _ => 0))), (u1469 1, .inl (cyI, 8, .inl (fun _ => 0))), (u1469 2, .inl (cyI, 8, .inl (fun _ => 0))), (u1469 3, .inl (cyI, 328, .inl (fun _ => 0))), (u1469 4, .inl (cyI, 328, .inl (fun _ => 0))), (u1469 5, .inl (cyI, 41, .inl (fun _ => 0))), (u1469 6, .inl (cyI, 41, .inl (fun _ => 0)))]) t.heap) (va_A (wc_k_X5_copyFrom_v8 cyB cyI cyJ cyZ cyO ad sd q1453 u1469) sz)) 0 0 (va_A (wc_k_X5_copyFrom_v8 cyB cyI cyJ cyZ cyO ad sd q1453 u1469) sz) := by
  refine Met.ofW (cc := cX5_copyFrom) (maxL := 2) (ret := none) (by decide) rfl ?_
  intro p e s m args below meth c s₁ B hml hv
  obtain ⟨rfl, hsz, hP, hKN, hD0⟩ := hv
  have hx := B.exec
  have hb := B.bytes
  have hr := B.returns
  have hts := atoms_spec (ws := wq_k_X5_copyFrom_v8) B.pre
  have hown : s.vm.findClass RX5 = some m.cls := findClass_of_methodNamed B.named
  have hlocks := B.notSynchronized
  have hK := hKN.1
  have hfix : CallFix p m c cX5_copyFrom 2 s [.ref q1453, .ref (ad 9)].toArray wq_k_X5_copyFrom_v8 RX5 := ⟨hx, hb, hml, hown, hts⟩
  have hi5 : ∀ w ∈ wsX50, w ∈ wq_k_X5_copyFrom_v8 := (sb_c sb_l)
  subst hsz
  have hD := hD0.self (sz := s.heap.size)
  generalize hAe : va_A (wc_k_X5_copyFrom_v8 cyB cyI cyJ cyZ cyO ad sd q1453 u1469) s.heap.size = A at hD ⊢
  have hA : ∀ q : Nat, s.heap.size ≤ q → A q := fun q h => by rw [← hAe]; exact Or.inr h
  have hS : va_S A s.heap s.heap [] := va_S.rf
  have hl := lv_entry ([.ref q1453, .ref (ad 9)]) (n := 2) (Nat.le_of_ble_eq_true rfl)
  rw [lg_entry_eq]
  generalize (lg_sl ([.ref q1453, .ref (ad 9)]) ++ List.replicate (2 - (lg_sl ([.ref q1453, .ref (ad 9)])).length) Slot.unset).toArray = ls at hl ⊢
  have hl : lv_has ls 2 [(0, .ref q1453), (1, .ref (ad 9))] := hl
  refine lv_aload_n hx hb dX5_copyFrom_0 rfl (lv_at hl 1 rfl) ?_
  refine va_get (D := (dC, dI)) (ci := 5) (v := .ref (sd 0)) (C := RX5) (T := TX5) (N := 13) hx hb hts hi5 hown hK hP 0 rfl rfl 0 (by decide) (hts _ (ow_m (k := 0) rfl)) (fun _ h9 => h9) rfl dX5_copyFrom_1 ?_
  refine lv_iconst (v := 0) hx hb dX5_copyFrom_4 (by decide) ?_
  refine lv_aload_n hx hb dX5_copyFrom_5 rfl (lv_at hl 0 rfl) ?_
  refine va_get (D := (dC, dI)) (ci := 5) (v := .ref (u1469 0)) (C := RX5) (T := TX5) (N := 13) hx hb hts hi5 hown hK hP 8 rfl rfl 0 (by decide) (hts _ (ow_m (k := 0) rfl)) (fun _ h9 => h9) rfl dX5_copyFrom_6 ?_
  refine lv_iconst (v := 0) hx hb dX5_copyFrom_9 (by decide) ?_
  refine lv_aload_n hx hb dX5_copyFrom_10 rfl (lv_at hl 0 rfl) ?_
  refine va_get (D := (dC, dI)) (ci := 5) (v := .ref (u1469 0)) (C := RX5) (T := TX5) (N := 13) hx hb hts hi5 hown hK hP 8 rfl rfl 0 (by decide) (hts _ (ow_m (k := 0) rfl)) (fun _ h9 => h9) rfl dX5_copyFrom_11 ?_
  refine va_alen (v := 6) hx hb hK hP 9 1 rfl rfl rfl dX5_copyFrom_14 ?_
  refine va_copyi hx hb (hml.trans hl.1.symm) hown (hts _ (ow_m (k := 1) rfl)) (hts _ (ow_m (k := 2) rfl)) (hts _ (ow_m (k := 3) rfl)) (hts _ (ow_m (k := 4) rfl)) hK hP hD hS 1 9 1 1 rfl rfl rfl rfl rfl (by decide) (by decide) (by decide) (by decide) (by decide) (fun _ _ => rfl) (Nat.le_of_ble_eq_true rfl) (Nat.le_of_ble_eq_true rfl) dX5_copyFrom_15 (fun H locs hP hD hS => ?_)
  have hP : va_P (dC, dI) vwCl [(ad 9, .inr (5, [.ref (sd 0), .ref (sd 1), .ref (sd 2), .ref (sd 3), .ref (sd 4), .ref (sd 5), .ref (sd 6), .int 0, .int (-1), .int 0, .int 0, .int 0, .int 0])), (sd 0, .inl (cyI, 6, .inl (fun _ => 0))), (sd 1, .inl (cyI, 8, .inl (fun _ => 0))), (sd 2, .inl (cyI, 8, .inl (fun _ => 0))), (sd 3, .inl (cyI, 328, .inl (fun _ => 0))), (sd 4, .inl (cyI, 328, .inl (fun _ => 0))), (sd 5, .inl (cyI, 41, .inl (fun _ => 0))), (sd 6, .inl (cyI, 41, .inl (fun _ => 0))), (q1453, .inr (5, [.ref (u1469 0), .ref (u1469 1), .ref (u1469 2), .ref (u1469 3), .ref (u1469 4), .ref (u1469 5), .ref (u1469 6), .int 0, .int (-1), .int 0, .int 0, .int 0, .int 0])), (u1469 0, .inl (cyI, 6, .inl (va_cpy (fun _ => 0) (fun _ => 0) 0 0 6))), (u1469 1, .inl (cyI, 8, .inl (fun _ => 0))), (u1469 2, .inl (cyI, 8, .inl (fun _ => 0))), (u1469 3, .inl (cyI, 328, .inl (fun _ => 0))), (u1469 4, .inl (cyI, 328, .inl (fun _ => 0))), (u1469 5, .inl (cyI, 41, .inl (fun _ => 0))), (u1469 6, .inl (cyI, 41, .inl (fun _ => 0)))] H := hP
  have hD : va_D A [(ad 9, .inr (5, [.ref (sd 0), .ref (sd 1), .ref (sd 2), .ref (sd 3), .ref (sd 4), .ref (sd 5), .ref (sd 6), .int 0, .int (-1), .int 0, .int 0, .int 0, .int 0])), (sd 0, .inl (cyI, 6, .inl (fun _ => 0))), (sd 1, .inl (cyI, 8, .inl (fun _ => 0))), (sd 2, .inl (cyI, 8, .inl (fun _ => 0))), (sd 3, .inl (cyI, 328, .inl (fun _ => 0))), (sd 4, .inl (cyI, 328, .inl (fun _ => 0))), (sd 5, .inl (cyI, 41, .inl (fun _ => 0))), (sd 6, .inl (cyI, 41, .inl (fun _ => 0))), (q1453, .inr (5, [.ref (u1469 0), .ref (u1469 1), .ref (u1469 2), .ref (u1469 3), .ref (u1469 4), .ref (u1469 5), .ref (u1469 6), .int 0, .int (-1), .int 0, .int 0, .int 0, .int 0])), (u1469 0, .inl (cyI, 6, .inl (va_cpy (fun _ => 0) (fun _ => 0) 0 0 6))), (u1469 1, .inl (cyI, 8, .inl (fun _ => 0))), (u1469 2, .inl (cyI, 8, .inl (fun _ => 0))), (u1469 3, .inl (cyI, 328, .inl (fun _ => 0))), (u1469 4, .inl (cyI, 328, .inl (fun _ => 0))), (u1469 5, .inl (cyI, 41, .inl (fun _ => 0))), (u1469 6, .inl (cyI, 41, .inl (fun _ => 0)))] := hD
  rw [cpy_z] at hP hD
  refine lv_aload_n hx hb dX5_copyFrom_18 rfl (lv_at hl 1 rfl) ?_
  refine va_get (D := (dC, dI)) (ci := 5) (v := .ref (sd 1)) (C := RX5) (T := TX5) (N := 13) hx hb hts hi5 hown hK hP 0 rfl rfl 1 (by decide) (hts _ (ow_m (k := 5) rfl)) (fun _ h9 => h9) rfl dX5_copyFrom_19 ?_
  refine lv_iconst (v := 0) hx hb dX5_copyFrom_22 (by decide) ?_
  refine lv_aload_n hx hb dX5_copyFrom_23 rfl (lv_at hl 0 rfl) ?_
  refine va_get (D := (dC, dI)) (ci := 5) (v := .ref (u1469 1)) (C := RX5) (T := TX5) (N := 13) hx hb hts hi5 hown hK hP 8 rfl rfl 1 (by decide) (hts _ (ow_m (k := 5) rfl)) (fun _ h9 => h9) rfl dX5_copyFrom_24 ?_
  refine lv_iconst (v := 0) hx hb dX5_copyFrom_27 (by decide) ?_
  refine lv_aload_n hx hb dX5_copyFrom_28 rfl (lv_at hl 0 rfl) ?_
  refine va_get (D := (dC, dI)) (ci := 5) (v := .ref (u1469 1)) (C := RX5) (T := TX5) (N := 13) hx hb hts hi5 hown hK hP 8 rfl rfl 1 (by decide) (hts _ (ow_m (k := 5) rfl)) (fun _ h9 => h9) rfl dX5_copyFrom_29 ?_
  refine va_alen (v := 8) hx hb hK hP 10 1 rfl rfl rfl dX5_copyFrom_32 ?_
  refine va_copyi hx hb (hml.trans hl.1.symm) hown (hts _ (ow_m (k := 1) rfl)) (hts _ (ow_m (k := 2) rfl)) (hts _ (ow_m (k := 3) rfl)) (hts _ (ow_m (k := 4) rfl)) hK hP hD hS 2 10 1 1 rfl rfl rfl rfl rfl (by decide) (by decide) (by decide) (by decide) (by decide) (fun _ _ => rfl) (Nat.le_of_ble_eq_true rfl) (Nat.le_of_ble_eq_true rfl) dX5_copyFrom_33 (fun H locs hP hD hS => ?_)
  have hP : va_P (dC, dI) vwCl [(ad 9, .inr (5, [.ref (sd 0), .ref (sd 1), .ref (sd 2), .ref (sd 3), .ref (sd 4), .ref (sd 5), .ref (sd 6), .int 0, .int (-1), .int 0, .int 0, .int 0, .int 0])), (sd 0, .inl (cyI, 6, .inl (fun _ => 0))), (sd 1, .inl (cyI, 8, .inl (fun _ => 0))), (sd 2, .inl (cyI, 8, .inl (fun _ => 0))), (sd 3, .inl (cyI, 328, .inl (fun _ => 0))), (sd 4, .inl (cyI, 328, .inl (fun _ => 0))), (sd 5, .inl (cyI, 41, .inl (fun _ => 0))), (sd 6, .inl (cyI, 41, .inl (fun _ => 0))), (q1453, .inr (5, [.ref (u1469 0), .ref (u1469 1), .ref (u1469 2), .ref (u1469 3), .ref (u1469 4), .ref (u1469 5), .ref (u1469 6), .int 0, .int (-1), .int 0, .int 0, .int 0, .int 0])), (u1469 0, .inl (cyI, 6, .inl (fun _ => 0))), (u1469 1, .inl (cyI, 8, .inl (va_cpy (fun _ => 0) (fun _ => 0) 0 0 8))), (u1469 2, .inl (cyI, 8, .inl (fun _ => 0))), (u1469 3, .inl (cyI, 328, .inl (fun _ => 0))), (u1469 4, .inl (cyI, 328, .inl (fun _ => 0))), (u1469 5, .inl (cyI, 41, .inl (fun _ => 0))), (u1469 6, .inl (cyI, 41, .inl (fun _ => 0)))] H := hP
  have hD : va_D A [(ad 9, .inr (5, [.ref (sd 0), .ref (sd 1), .ref (sd 2), .ref (sd 3), .ref (sd 4), .ref (sd 5), .ref (sd 6), .int 0, .int (-1), .int 0, .int 0, .int 0, .int 0])), (sd 0, .inl (cyI, 6, .inl (fun _ => 0))), (sd 1, .inl (cyI, 8, .inl (fun _ => 0))), (sd 2, .inl (cyI, 8, .inl (fun _ => 0))), (sd 3, .inl (cyI, 328, .inl (fun _ => 0))), (sd 4, .inl (cyI, 328, .inl (fun _ => 0))), (sd 5, .inl (cyI, 41, .inl (fun _ => 0))), (sd 6, .inl (cyI, 41, .inl (fun _ => 0))), (q1453, .inr (5, [.ref (u1469 0), .ref (u1469 1), .ref (u1469 2), .ref (u1469 3), .ref (u1469 4), .ref (u1469 5), .ref (u1469 6), .int 0, .int (-1), .int 0, .int 0, .int 0, .int 0])), (u1469 0, .inl (cyI, 6, .inl (fun _ => 0))), (u1469 1, .inl (cyI, 8, .inl (va_cpy (fun _ => 0) (fun _ => 0) 0 0 8))), (u1469 2, .inl (cyI, 8, .inl (fun _ => 0))), (u1469 3, .inl (cyI, 328, .inl (fun _ => 0))), (u1469 4, .inl (cyI, 328, .inl (fun _ => 0))), (u1469 5, .inl (cyI, 41, .inl (fun _ => 0))), (u1469 6, .inl (cyI, 41, .inl (fun _ => 0)))] := hD
  rw [cpy_z] at hP hD
  refine lv_aload_n hx hb dX5_copyFrom_36 rfl (lv_at hl 1 rfl) ?_
  refine va_get (D := (dC, dI)) (ci := 5) (v := .ref (sd 2)) (C := RX5) (T := TX5) (N := 13) hx hb hts hi5 hown hK hP 0 rfl rfl 2 (by decide) (hts _ (ow_m (k := 6) rfl)) (fun _ h9 => h9) rfl dX5_copyFrom_37 ?_
  refine lv_iconst (v := 0) hx hb dX5_copyFrom_40 (by decide) ?_
  refine lv_aload_n hx hb dX5_copyFrom_41 rfl (lv_at hl 0 rfl) ?_
  refine va_get (D := (dC, dI)) (ci := 5) (v := .ref (u1469 2)) (C := RX5) (T := TX5) (N := 13) hx hb hts hi5 hown hK hP 8 rfl rfl 2 (by decide) (hts _ (ow_m (k := 6) rfl)) (fun _ h9 => h9) rfl dX5_copyFrom_42 ?_
  refine lv_iconst (v := 0) hx hb dX5_copyFrom_45 (by decide) ?_
  refine lv_aload_n hx hb dX5_copyFrom_46 rfl (lv_at hl 0 rfl) ?_
  refine va_get (D := (dC, dI)) (ci := 5) (v := .ref (u1469 2)) (C := RX5) (T := TX5) (N := 13) hx hb hts hi5 hown hK hP 8 rfl rfl 2 (by decide) (hts _ (ow_m (k := 6) rfl)) (fun _ h9 => h9) rfl dX5_copyFrom_47 ?_
  refine va_alen (v := 8) hx hb hK hP 11 1 rfl rfl rfl dX5_copyFrom_50 ?_
  refine va_copyi hx hb (hml.trans hl.1.symm) hown (hts _ (ow_m (k := 1) rfl)) (hts _ (ow_m (k := 2) rfl)) (hts _ (ow_m (k := 3) rfl)) (hts _ (ow_m (k := 4) rfl)) hK hP hD hS 3 11 1 1 rfl rfl rfl rfl rfl (by decide) (by decide) (by decide) (by decide) (by decide) (fun _ _ => rfl) (Nat.le_of_ble_eq_true rfl) (Nat.le_of_ble_eq_true rfl) dX5_copyFrom_51 (fun H locs hP hD hS => ?_)
  have hP : va_P (dC, dI) vwCl [(ad 9, .inr (5, [.ref (sd 0), .ref (sd 1), .ref (sd 2), .ref (sd 3), .ref (sd 4), .ref (sd 5), .ref (sd 6), .int 0, .int (-1), .int 0, .int 0, .int 0, .int 0])), (sd 0, .inl (cyI, 6, .inl (fun _ => 0))), (sd 1, .inl (cyI, 8, .inl (fun _ => 0))), (sd 2, .inl (cyI, 8, .inl (fun _ => 0))), (sd 3, .inl (cyI, 328, .inl (fun _ => 0))), (sd 4, .inl (cyI, 328, .inl (fun _ => 0))), (sd 5, .inl (cyI, 41, .inl (fun _ => 0))), (sd 6, .inl (cyI, 41, .inl (fun _ => 0))), (q1453, .inr (5, [.ref (u1469 0), .ref (u1469 1), .ref (u1469 2), .ref (u1469 3), .ref (u1469 4), .ref (u1469 5), .ref (u1469 6), .int 0, .int (-1), .int 0, .int 0, .int 0, .int 0])), (u1469 0, .inl (cyI, 6, .inl (fun _ => 0))), (u1469 1, .inl (cyI, 8, .inl (fun _ => 0))), (u1469 2, .inl (cyI, 8, .inl (va_cpy (fun _ => 0) (fun _ => 0) 0 0 8))), (u1469 3, .inl (cyI, 328, .inl (fun _ => 0))), (u1469 4, .inl (cyI, 328, .inl (fun _ => 0))), (u1469 5, .inl (cyI, 41, .inl (fun _ => 0))), (u1469 6, .inl (cyI, 41, .inl (fun _ => 0)))] H := hP
  have hD : va_D A [(ad 9, .inr (5, [.ref (sd 0), .ref (sd 1), .ref (sd 2), .ref (sd 3), .ref (sd 4), .ref (sd 5), .ref (sd 6), .int 0, .int (-1), .int 0, .int 0, .int 0, .int 0])), (sd 0, .inl (cyI, 6, .inl (fun _ => 0))), (sd 1, .inl (cyI, 8, .inl (fun _ => 0))), (sd 2, .inl (cyI, 8, .inl (fun _ => 0))), (sd 3, .inl (cyI, 328, .inl (fun _ => 0))), (sd 4, .inl (cyI, 328, .inl (fun _ => 0))), (sd 5, .inl (cyI, 41, .inl (fun _ => 0))), (sd 6, .inl (cyI, 41, .inl (fun _ => 0))), (q1453, .inr (5, [.ref (u1469 0), .ref (u1469 1), .ref (u1469 2), .ref (u1469 3), .ref (u1469 4), .ref (u1469 5), .ref (u1469 6), .int 0, .int (-1), .int 0, .int 0, .int 0, .int 0])), (u1469 0, .inl (cyI, 6, .inl (fun _ => 0))), (u1469 1, .inl (cyI, 8, .inl (fun _ => 0))), (u1469 2, .inl (cyI, 8, .inl (va_cpy (fun _ => 0) (fun _ => 0) 0 0 8))), (u1469 3, .inl (cyI, 328, .inl (fun _ => 0))), (u1469 4, .inl (cyI, 328, .inl (fun _ => 0))), (u1469 5, .inl (cyI, 41, .inl (fun _ => 0))), (u1469 6, .inl (cyI, 41, .inl (fun _ => 0)))] := hD
  rw [cpy_z] at hP hD
  refine lv_aload_n hx hb dX5_copyFrom_54 rfl (lv_at hl 1 rfl) ?_
  refine va_get (D := (dC, dI)) (ci := 5) (v := .ref (sd 3)) (C := RX5) (T := TX5) (N := 13) hx hb hts hi5 hown hK hP 0 rfl rfl 3 (by decide) (hts _ (ow_m (k := 7) rfl)) (fun _ h9 => h9) rfl dX5_copyFrom_55 ?_
  refine lv_iconst (v := 0) hx hb dX5_copyFrom_58 (by decide) ?_
  refine lv_aload_n hx hb dX5_copyFrom_59 rfl (lv_at hl 0 rfl) ?_
  refine va_get (D := (dC, dI)) (ci := 5) (v := .ref (u1469 3)) (C := RX5) (T := TX5) (N := 13) hx hb hts hi5 hown hK hP 8 rfl rfl 3 (by decide) (hts _ (ow_m (k := 7) rfl)) (fun _ h9 => h9) rfl dX5_copyFrom_60 ?_
  refine lv_iconst (v := 0) hx hb dX5_copyFrom_63 (by decide) ?_
  refine lv_aload_n hx hb dX5_copyFrom_64 rfl (lv_at hl 0 rfl) ?_
  refine va_get (D := (dC, dI)) (ci := 5) (v := .ref (u1469 3)) (C := RX5) (T := TX5) (N := 13) hx hb hts hi5 hown hK hP 8 rfl rfl 3 (by decide) (hts _ (ow_m (k := 7) rfl)) (fun _ h9 => h9) rfl dX5_copyFrom_65 ?_
  refine va_alen (v := 328) hx hb hK hP 12 1 rfl rfl rfl dX5_copyFrom_68 ?_
  refine va_copyi hx hb (hml.trans hl.1.symm) hown (hts _ (ow_m (k := 1) rfl)) (hts _ (ow_m (k := 2) rfl)) (hts _ (ow_m (k := 3) rfl)) (hts _ (ow_m (k := 4) rfl)) hK hP hD hS 4 12 1 1 rfl rfl rfl rfl rfl (by decide) (by decide) (by decide) (by decide) (by decide) (fun _ _ => rfl) (Nat.le_of_ble_eq_true rfl) (Nat.le_of_ble_eq_true rfl) dX5_copyFrom_69 (fun H locs hP hD hS => ?_)
  have hP : va_P (dC, dI) vwCl [(ad 9, .inr (5, [.ref (sd 0), .ref (sd 1), .ref (sd 2), .ref (sd 3), .ref (sd 4), .ref (sd 5), .ref (sd 6), .int 0, .int (-1), .int 0, .int 0, .int 0, .int 0])), (sd 0, .inl (cyI, 6, .inl (fun _ => 0))), (sd 1, .inl (cyI, 8, .inl (fun _ => 0))), (sd 2, .inl (cyI, 8, .inl (fun _ => 0))), (sd 3, .inl (cyI, 328, .inl (fun _ => 0))), (sd 4, .inl (cyI, 328, .inl (fun _ => 0))), (sd 5, .inl (cyI, 41, .inl (fun _ => 0))), (sd 6, .inl (cyI, 41, .inl (fun _ => 0))), (q1453, .inr (5, [.ref (u1469 0), .ref (u1469 1), .ref (u1469 2), .ref (u1469 3), .ref (u1469 4), .ref (u1469 5), .ref (u1469 6), .int 0, .int (-1), .int 0, .int 0, .int 0, .int 0])), (u1469 0, .inl (cyI, 6, .inl (fun _ => 0))), (u1469 1, .inl (cyI, 8, .inl (fun _ => 0))), (u1469 2, .inl (cyI, 8, .inl (fun _ => 0))), (u1469 3, .inl (cyI, 328, .inl (va_cpy (fun _ => 0) (fun _ => 0) 0 0 328))), (u1469 4, .inl (cyI, 328, .inl (fun _ => 0))), (u1469 5, .inl (cyI, 41, .inl (fun _ => 0))), (u1469 6, .inl (cyI, 41, .inl (fun _ => 0)))] H := hP
  have hD : va_D A [(ad 9, .inr (5, [.ref (sd 0), .ref (sd 1), .ref (sd 2), .ref (sd 3), .ref (sd 4), .ref (sd 5), .ref (sd 6), .int 0, .int (-1), .int 0, .int 0, .int 0, .int 0])), (sd 0, .inl (cyI, 6, .inl (fun _ => 0))), (sd 1, .inl (cyI, 8, .inl (fun _ => 0))), (sd 2, .inl (cyI, 8, .inl (fun _ => 0))), (sd 3, .inl (cyI, 328, .inl (fun _ => 0))), (sd 4, .inl (cyI, 328, .inl (fun _ => 0))), (sd 5, .inl (cyI, 41, .inl (fun _ => 0))), (sd 6, .inl (cyI, 41, .inl (fun _ => 0))), (q1453, .inr (5, [.ref (u1469 0), .ref (u1469 1), .ref (u1469 2), .ref (u1469 3), .ref (u1469 4), .ref (u1469 5), .ref (u1469 6), .int 0, .int (-1), .int 0, .int 0, .int 0, .int 0])), (u1469 0, .inl (cyI, 6, .inl (fun _ => 0))), (u1469 1, .inl (cyI, 8, .inl (fun _ => 0))), (u1469 2, .inl (cyI, 8, .inl (fun _ => 0))), (u1469 3, .inl (cyI, 328, .inl (va_cpy (fun _ => 0) (fun _ => 0) 0 0 328))), (u1469 4, .inl (cyI, 328, .inl (fun _ => 0))), (u1469 5, .inl (cyI, 41, .inl (fun _ => 0))), (u1469 6, .inl (cyI, 41, .inl (fun _ => 0)))] := hD
  rw [cpy_z] at hP hD
  refine lv_aload_n hx hb dX5_copyFrom_72 rfl (lv_at hl 1 rfl) ?_
  refine va_get (D := (dC, dI)) (ci := 5) (v := .ref (sd 4)) (C := RX5) (T := TX5) (N := 13) hx hb hts hi5 hown hK hP 0 rfl rfl 4 (by decide) (hts _ (ow_m (k := 8) rfl)) (fun _ h9 => h9) rfl dX5_copyFrom_73 ?_
  refine lv_iconst (v := 0) hx hb dX5_copyFrom_76 (by decide) ?_
  refine lv_aload_n hx hb dX5_copyFrom_77 rfl (lv_at hl 0 rfl) ?_
  refine va_get (D := (dC, dI)) (ci := 5) (v := .ref (u1469 4)) (C := RX5) (T := TX5) (N := 13) hx hb hts hi5 hown hK hP 8 rfl rfl 4 (by decide) (hts _ (ow_m (k := 8) rfl)) (fun _ h9 => h9) rfl dX5_copyFrom_78 ?_
  refine lv_iconst (v := 0) hx hb dX5_copyFrom_81 (by decide) ?_
  refine lv_aload_n hx hb dX5_copyFrom_82 rfl (lv_at hl 0 rfl) ?_
  refine va_get (D := (dC, dI)) (ci := 5) (v := .ref (u1469 4)) (C := RX5) (T := TX5) (N := 13) hx hb hts hi5 hown hK hP 8 rfl rfl 4 (by decide) (hts _ (ow_m (k := 8) rfl)) (fun _ h9 => h9) rfl dX5_copyFrom_83 ?_
  refine va_alen (v := 328) hx hb hK hP 13 1 rfl rfl rfl dX5_copyFrom_86 ?_
  refine va_copyi hx hb (hml.trans hl.1.symm) hown (hts _ (ow_m (k := 1) rfl)) (hts _ (ow_m (k := 2) rfl)) (hts _ (ow_m (k := 3) rfl)) (hts _ (ow_m (k := 4) rfl)) hK hP hD hS 5 13 1 1 rfl rfl rfl rfl rfl (by decide) (by decide) (by decide) (by decide) (by decide) (fun _ _ => rfl) (Nat.le_of_ble_eq_true rfl) (Nat.le_of_ble_eq_true rfl) dX5_copyFrom_87 (fun H locs hP hD hS => ?_)
  have hP : va_P (dC, dI) vwCl [(ad 9, .inr (5, [.ref (sd 0), .ref (sd 1), .ref (sd 2), .ref (sd 3), .ref (sd 4), .ref (sd 5), .ref (sd 6), .int 0, .int (-1), .int 0, .int 0, .int 0, .int 0])), (sd 0, .inl (cyI, 6, .inl (fun _ => 0))), (sd 1, .inl (cyI, 8, .inl (fun _ => 0))), (sd 2, .inl (cyI, 8, .inl (fun _ => 0))), (sd 3, .inl (cyI, 328, .inl (fun _ => 0))), (sd 4, .inl (cyI, 328, .inl (fun _ => 0))), (sd 5, .inl (cyI, 41, .inl (fun _ => 0))), (sd 6, .inl (cyI, 41, .inl (fun _ => 0))), (q1453, .inr (5, [.ref (u1469 0), .ref (u1469 1), .ref (u1469 2), .ref (u1469 3), .ref (u1469 4), .ref (u1469 5), .ref (u1469 6), .int 0, .int (-1), .int 0, .int 0, .int 0, .int 0])), (u1469 0, .inl (cyI, 6, .inl (fun _ => 0))), (u1469 1, .inl (cyI, 8, .inl (fun _ => 0))), (u1469 2, .inl (cyI, 8, .inl (fun _ => 0))), (u1469 3, .inl (cyI, 328, .inl (fun _ => 0))), (u1469 4, .inl (cyI, 328, .inl (va_cpy (fun _ => 0) (fun _ => 0) 0 0 328))), (u1469 5, .inl (cyI, 41, .inl (fun _ => 0))), (u1469 6, .inl (cyI, 41, .inl (fun _ => 0)))] H := hP
  have hD : va_D A [(ad 9, .inr (5, [.ref (sd 0), .ref (sd 1), .ref (sd 2), .ref (sd 3), .ref (sd 4), .ref (sd 5), .ref (sd 6), .int 0, .int (-1), .int 0, .int 0, .int 0, .int 0])), (sd 0, .inl (cyI, 6, .inl (fun _ => 0))), (sd 1, .inl (cyI, 8, .inl (fun _ => 0))), (sd 2, .inl (cyI, 8, .inl (fun _ => 0))), (sd 3, .inl (cyI, 328, .inl (fun _ => 0))), (sd 4, .inl (cyI, 328, .inl (fun _ => 0))), (sd 5, .inl (cyI, 41, .inl (fun _ => 0))), (sd 6, .inl (cyI, 41, .inl (fun _ => 0))), (q1453, .inr (5, [.ref (u1469 0), .ref (u1469 1), .ref (u1469 2), .ref (u1469 3), .ref (u1469 4), .ref (u1469 5), .ref (u1469 6), .int 0, .int (-1), .int 0, .int 0, .int 0, .int 0])), (u1469 0, .inl (cyI, 6, .inl (fun _ => 0))), (u1469 1, .inl (cyI, 8, .inl (fun _ => 0))), (u1469 2, .inl (cyI, 8, .inl (fun _ => 0))), (u1469 3, .inl (cyI, 328, .inl (fun _ => 0))), (u1469 4, .inl (cyI, 328, .inl (va_cpy (fun _ => 0) (fun _ => 0) 0 0 328))), (u1469 5, .inl (cyI, 41, .inl (fun _ => 0))), (u1469 6, .inl (cyI, 41, .inl (fun _ => 0)))] := hD
  rw [cpy_z] at hP hD
  refine lv_aload_n hx hb dX5_copyFrom_90 rfl (lv_at hl 1 rfl) ?_
  refine va_get (D := (dC, dI)) (ci := 5) (v := .ref (sd 5)) (C := RX5) (T := TX5) (N := 13) hx hb hts hi5 hown hK hP 0 rfl rfl 5 (by decide) (hts _ (ow_m (k := 9) rfl)) (fun _ h9 => h9) rfl dX5_copyFrom_91 ?_
  refine lv_iconst (v := 0) hx hb dX5_copyFrom_94 (by decide) ?_
  refine lv_aload_n hx hb dX5_copyFrom_95 rfl (lv_at hl 0 rfl) ?_
  refine va_get (D := (dC, dI)) (ci := 5) (v := .ref (u1469 5)) (C := RX5) (T := TX5) (N := 13) hx hb hts hi5 hown hK hP 8 rfl rfl 5 (by decide) (hts _ (ow_m (k := 9) rfl)) (fun _ h9 => h9) rfl dX5_copyFrom_96 ?_
  refine lv_iconst (v := 0) hx hb dX5_copyFrom_99 (by decide) ?_
  refine lv_aload_n hx hb dX5_copyFrom_100 rfl (lv_at hl 0 rfl) ?_
  refine va_get (D := (dC, dI)) (ci := 5) (v := .ref (u1469 5)) (C := RX5) (T := TX5) (N := 13) hx hb hts hi5 hown hK hP 8 rfl rfl 5 (by decide) (hts _ (ow_m (k := 9) rfl)) (fun _ h9 => h9) rfl dX5_copyFrom_101 ?_
  refine va_alen (v := 41) hx hb hK hP 14 1 rfl rfl rfl dX5_copyFrom_104 ?_
  refine va_copyi hx hb (hml.trans hl.1.symm) hown (hts _ (ow_m (k := 1) rfl)) (hts _ (ow_m (k := 2) rfl)) (hts _ (ow_m (k := 3) rfl)) (hts _ (ow_m (k := 4) rfl)) hK hP hD hS 6 14 1 1 rfl rfl rfl rfl rfl (by decide) (by decide) (by decide) (by decide) (by decide) (fun _ _ => rfl) (Nat.le_of_ble_eq_true rfl) (Nat.le_of_ble_eq_true rfl) dX5_copyFrom_105 (fun H locs hP hD hS => ?_)
  have hP : va_P (dC, dI) vwCl [(ad 9, .inr (5, [.ref (sd 0), .ref (sd 1), .ref (sd 2), .ref (sd 3), .ref (sd 4), .ref (sd 5), .ref (sd 6), .int 0, .int (-1), .int 0, .int 0, .int 0, .int 0])), (sd 0, .inl (cyI, 6, .inl (fun _ => 0))), (sd 1, .inl (cyI, 8, .inl (fun _ => 0))), (sd 2, .inl (cyI, 8, .inl (fun _ => 0))), (sd 3, .inl (cyI, 328, .inl (fun _ => 0))), (sd 4, .inl (cyI, 328, .inl (fun _ => 0))), (sd 5, .inl (cyI, 41, .inl (fun _ => 0))), (sd 6, .inl (cyI, 41, .inl (fun _ => 0))), (q1453, .inr (5, [.ref (u1469 0), .ref (u1469 1), .ref (u1469 2), .ref (u1469 3), .ref (u1469 4), .ref (u1469 5), .ref (u1469 6), .int 0, .int (-1), .int 0, .int 0, .int 0, .int 0])), (u1469 0, .inl (cyI, 6, .inl (fun _ => 0))), (u1469 1, .inl (cyI, 8, .inl (fun _ => 0))), (u1469 2, .inl (cyI, 8, .inl (fun _ => 0))), (u1469 3, .inl (cyI, 328, .inl (fun _ => 0))), (u1469 4, .inl (cyI, 328, .inl (fun _ => 0))), (u1469 5, .inl (cyI, 41, .inl (va_cpy (fun _ => 0) (fun _ => 0) 0 0 41))), (u1469 6, .inl (cyI, 41, .inl (fun _ => 0)))] H := hP
  have hD : va_D A [(ad 9, .inr (5, [.ref (sd 0), .ref (sd 1), .ref (sd 2), .ref (sd 3), .ref (sd 4), .ref (sd 5), .ref (sd 6), .int 0, .int (-1), .int 0, .int 0, .int 0, .int 0])), (sd 0, .inl (cyI, 6, .inl (fun _ => 0))), (sd 1, .inl (cyI, 8, .inl (fun _ => 0))), (sd 2, .inl (cyI, 8, .inl (fun _ => 0))), (sd 3, .inl (cyI, 328, .inl (fun _ => 0))), (sd 4, .inl (cyI, 328, .inl (fun _ => 0))), (sd 5, .inl (cyI, 41, .inl (fun _ => 0))), (sd 6, .inl (cyI, 41, .inl (fun _ => 0))), (q1453, .inr (5, [.ref (u1469 0), .ref (u1469 1), .ref (u1469 2), .ref (u1469 3), .ref (u1469 4), .ref (u1469 5), .ref (u1469 6), .int 0, .int (-1), .int 0, .int 0, .int 0, .int 0])), (u1469 0, .inl (cyI, 6, .inl (fun _ => 0))), (u1469 1, .inl (cyI, 8, .inl (fun _ => 0))), (u1469 2, .inl (cyI, 8, .inl (fun _ => 0))), (u1469 3, .inl (cyI, 328, .inl (fun _ => 0))), (u1469 4, .inl (cyI, 328, .inl (fun _ => 0))), (u1469 5, .inl (cyI, 41, .inl (va_cpy (fun _ => 0) (fun _ => 0) 0 0 41))), (u1469 6, .inl (cyI, 41, .inl (fun _ => 0)))] := hD
  rw [cpy_z] at hP hD
  refine lv_aload_n hx hb dX5_copyFrom_108 rfl (lv_at hl 1 rfl) ?_
  refine va_get (D := (dC, dI)) (ci := 5) (v := .ref (sd 6)) (C := RX5) (T := TX5) (N := 13) hx hb hts hi5 hown hK hP 0 rfl rfl 6 (by decide) (hts _ (ow_m (k := 10) rfl)) (fun _ h9 => h9) rfl dX5_copyFrom_109 ?_
  refine lv_iconst (v := 0) hx hb dX5_copyFrom_112 (by decide) ?_
  refine lv_aload_n hx hb dX5_copyFrom_113 rfl (lv_at hl 0 rfl) ?_
  refine va_get (D := (dC, dI)) (ci := 5) (v := .ref (u1469 6)) (C := RX5) (T := TX5) (N := 13) hx hb hts hi5 hown hK hP 8 rfl rfl 6 (by decide) (hts _ (ow_m (k := 10) rfl)) (fun _ h9 => h9) rfl dX5_copyFrom_114 ?_
  refine lv_iconst (v := 0) hx hb dX5_copyFrom_117 (by decide) ?_
  refine lv_aload_n hx hb dX5_copyFrom_118 rfl (lv_at hl 0 rfl) ?_
  refine va_get (D := (dC, dI)) (ci := 5) (v := .ref (u1469 6)) (C := RX5) (T := TX5) (N := 13) hx hb hts hi5 hown hK hP 8 rfl rfl 6 (by decide) (hts _ (ow_m (k := 10) rfl)) (fun _ h9 => h9) rfl dX5_copyFrom_119 ?_
  refine va_alen (v := 41) hx hb hK hP 15 1 rfl rfl rfl dX5_copyFrom_122 ?_
  refine va_copyi hx hb (hml.trans hl.1.symm) hown (hts _ (ow_m (k := 1) rfl)) (hts _ (ow_m (k := 2) rfl)) (hts _ (ow_m (k := 3) rfl)) (hts _ (ow_m (k := 4) rfl)) hK hP hD hS 7 15 1 1 rfl rfl rfl rfl rfl (by decide) (by decide) (by decide) (by decide) (by decide) (fun _ _ => rfl) (Nat.le_of_ble_eq_true rfl) (Nat.le_of_ble_eq_true rfl) dX5_copyFrom_123 (fun H locs hP hD hS => ?_)
  have hP : va_P (dC, dI) vwCl [(ad 9, .inr (5, [.ref (sd 0), .ref (sd 1), .ref (sd 2), .ref (sd 3), .ref (sd 4), .ref (sd 5), .ref (sd 6), .int 0, .int (-1), .int 0, .int 0, .int 0, .int 0])), (sd 0, .inl (cyI, 6, .inl (fun _ => 0))), (sd 1, .inl (cyI, 8, .inl (fun _ => 0))), (sd 2, .inl (cyI, 8, .inl (fun _ => 0))), (sd 3, .inl (cyI, 328, .inl (fun _ => 0))), (sd 4, .inl (cyI, 328, .inl (fun _ => 0))), (sd 5, .inl (cyI, 41, .inl (fun _ => 0))), (sd 6, .inl (cyI, 41, .inl (fun _ => 0))), (q1453, .inr (5, [.ref (u1469 0), .ref (u1469 1), .ref (u1469 2), .ref (u1469 3), .ref (u1469 4), .ref (u1469 5), .ref (u1469 6), .int 0, .int (-1), .int 0, .int 0, .int 0, .int 0])), (u1469 0, .inl (cyI, 6, .inl (fun _ => 0))), (u1469 1, .inl (cyI, 8, .inl (fun _ => 0))), (u1469 2, .inl (cyI, 8, .inl (fun _ => 0))), (u1469 3, .inl (cyI, 328, .inl (fun _ => 0))), (u1469 4, .inl (cyI, 328, .inl (fun _ => 0))), (u1469 5, .inl (cyI, 41, .inl (fun _ => 0))), (u1469 6, .inl (cyI, 41, .inl (va_cpy (fun _ => 0) (fun _ => 0) 0 0 41)))] H := hP
  have hD : va_D A [(ad 9, .inr (5, [.ref (sd 0), .ref (sd 1), .ref (sd 2), .ref (sd 3), .ref (sd 4), .ref (sd 5), .ref (sd 6), .int 0, .int (-1), .int 0, .int 0, .int 0, .int 0])), (sd 0, .inl (cyI, 6, .inl (fun _ => 0))), (sd 1, .inl (cyI, 8, .inl (fun _ => 0))), (sd 2, .inl (cyI, 8, .inl (fun _ => 0))), (sd 3, .inl (cyI, 328, .inl (fun _ => 0))), (sd 4, .inl (cyI, 328, .inl (fun _ => 0))), (sd 5, .inl (cyI, 41, .inl (fun _ => 0))), (sd 6, .inl (cyI, 41, .inl (fun _ => 0))), (q1453, .inr (5, [.ref (u1469 0), .ref (u1469 1), .ref (u1469 2), .ref (u1469 3), .ref (u1469 4), .ref (u1469 5), .ref (u1469 6), .int 0, .int (-1), .int 0, .int 0, .int 0, .int 0])), (u1469 0, .inl (cyI, 6, .inl (fun _ => 0))), (u1469 1, .inl (cyI, 8, .inl (fun _ => 0))), (u1469 2, .inl (cyI, 8, .inl (fun _ => 0))), (u1469 3, .inl (cyI, 328, .inl (fun _ => 0))), (u1469 4, .inl (cyI, 328, .inl (fun _ => 0))), (u1469 5, .inl (cyI, 41, .inl (fun _ => 0))), (u1469 6, .inl (cyI, 41, .inl (va_cpy (fun _ => 0) (fun _ => 0) 0 0 41)))] := hD
  rw [cpy_z] at hP hD
  refine lv_aload_n hx hb dX5_copyFrom_126 rfl (lv_at hl 0 rfl) ?_
  refine lv_aload_n hx hb dX5_copyFrom_127 rfl (lv_at hl 1 rfl) ?_
  refine va_get (D := (dC, dI)) (ci := 5) (v := .int 0) (C := RX5) (T := TX5) (N := 13) hx hb hts hi5 hown hK hP 0 rfl rfl 7 (by decide) (hts _ (ow_m (k := 11) rfl)) (fun _ h9 => h9) rfl dX5_copyFrom_128 ?_
  refine va_put (D := (dC, dI)) (ci := 5) (v := .int 0) (ty := .int) (C := RX5) (T := TX5) (N := 13) hx hb hts hi5 tyX5 tyX5_ok nmX5 hown hK hP hD hS 8 rfl rfl 7 (by decide) (hts _ (ow_m (k := 11) rfl)) (fun _ h9 => h9) rfl (by decide +kernel) rfl rfl (Nat.le_of_ble_eq_true rfl) dX5_copyFrom_131 (fun H locs hP hD hS => ?_)
  have hP : va_P (dC, dI) vwCl [(ad 9, .inr (5, [.ref (sd 0), .ref (sd 1), .ref (sd 2), .ref (sd 3), .ref (sd 4), .ref (sd 5), .ref (sd 6), .int 0, .int (-1), .int 0, .int 0, .int 0, .int 0])), (sd 0, .inl (cyI, 6, .inl (fun _ => 0))), (sd 1, .inl (cyI, 8, .inl (fun _ => 0))), (sd 2, .inl (cyI, 8, .inl (fun _ => 0))), (sd 3, .inl (cyI, 328, .inl (fun _ => 0))), (sd 4, .inl (cyI, 328, .inl (fun _ => 0))), (sd 5, .inl (cyI, 41, .inl (fun _ => 0))), (sd 6, .inl (cyI, 41, .inl (fun _ => 0))), (q1453, .inr (5, [.ref (u1469 0), .ref (u1469 1), .ref (u1469 2), .ref (u1469 3), .ref (u1469 4), .ref (u1469 5), .ref (u1469 6), .int 0, .int (-1), .int 0, .int 0, .int 0, .int 0])), (u1469 0, .inl (cyI, 6, .inl (fun _ => 0))), (u1469 1, .inl (cyI, 8, .inl (fun _ => 0))), (u1469 2, .inl (cyI, 8, .inl (fun _ => 0))), (u1469 3, .inl (cyI, 328, .inl (fun _ => 0))), (u1469 4, .inl (cyI, 328, .inl (fun _ => 0))), (u1469 5, .inl (cyI, 41, .inl (fun _ => 0))), (u1469 6, .inl (cyI, 41, .inl (fun _ => 0)))] H := hP
  have hD : va_D A [(ad 9, .inr (5, [.ref (sd 0), .ref (sd 1), .ref (sd 2), .ref (sd 3), .ref (sd 4), .ref (sd 5), .ref (sd 6), .int 0, .int (-1), .int 0, .int 0, .int 0, .int 0])), (sd 0, .inl (cyI, 6, .inl (fun _ => 0))), (sd 1, .inl (cyI, 8, .inl (fun _ => 0))), (sd 2, .inl (cyI, 8, .inl (fun _ => 0))), (sd 3, .inl (cyI, 328, .inl (fun _ => 0))), (sd 4, .inl (cyI, 328, .inl (fun _ => 0))), (sd 5, .inl (cyI, 41, .inl (fun _ => 0))), (sd 6, .inl (cyI, 41, .inl (fun _ => 0))), (q1453, .inr (5, [.ref (u1469 0), .ref (u1469 1), .ref (u1469 2), .ref (u1469 3), .ref (u1469 4), .ref (u1469 5), .ref (u1469 6), .int 0, .int (-1), .int 0, .int 0, .int 0, .int 0])), (u1469 0, .inl (cyI, 6, .inl (fun _ => 0))), (u1469 1, .inl (cyI, 8, .inl (fun _ => 0))), (u1469 2, .inl (cyI, 8, .inl (fun _ => 0))), (u1469 3, .inl (cyI, 328, .inl (fun _ => 0))), (u1469 4, .inl (cyI, 328, .inl (fun _ => 0))), (u1469 5, .inl (cyI, 41, .inl (fun _ => 0))), (u1469 6, .inl (cyI, 41, .inl (fun _ => 0)))] := hD
  refine lv_aload_n hx hb dX5_copyFrom_134 rfl (lv_at hl 0 rfl) ?_
  refine lv_aload_n hx hb dX5_copyFrom_135 rfl (lv_at hl 1 rfl) ?_
  refine va_get (D := (dC, dI)) (ci := 5) (v := .int (-1)) (C := RX5) (T := TX5) (N := 13) hx hb hts hi5 hown hK hP 0 rfl rfl 8 (by decide) (hts _ (ow_m (k := 12) rfl)) (fun _ h9 => h9) rfl dX5_copyFrom_136 ?_
  refine va_put (D := (dC, dI)) (ci := 5) (v := .int (-1)) (ty := .int) (C := RX5) (T := TX5) (N := 13) hx hb hts hi5 tyX5 tyX5_ok nmX5 hown hK hP hD hS 8 rfl rfl 8 (by decide) (hts _ (ow_m (k := 12) rfl)) (fun _ h9 => h9) rfl (by decide +kernel) rfl rfl (Nat.le_of_ble_eq_true rfl) dX5_copyFrom_139 (fun H locs hP hD hS => ?_)
  have hP : va_P (dC, dI) vwCl [(ad 9, .inr (5, [.ref (sd 0), .ref (sd 1), .ref (sd 2), .ref (sd 3), .ref (sd 4), .ref (sd 5), .ref (sd 6), .int 0, .int (-1), .int 0, .int 0, .int 0, .int 0])), (sd 0, .inl (cyI, 6, .inl (fun _ => 0))), (sd 1, .inl (cyI, 8, .inl (fun _ => 0))), (sd 2, .inl (cyI, 8, .inl (fun _ => 0))), (sd 3, .inl (cyI, 328, .inl (fun _ => 0))), (sd 4, .inl (cyI, 328, .inl (fun _ => 0))), (sd 5, .inl (cyI, 41, .inl (fun _ => 0))), (sd 6, .inl (cyI, 41, .inl (fun _ => 0))), (q1453, .inr (5, [.ref (u1469 0), .ref (u1469 1), .ref (u1469 2), .ref (u1469 3), .ref (u1469 4), .ref (u1469 5), .ref (u1469 6), .int 0, .int (-1), .int 0, .int 0, .int 0, .int 0])), (u1469 0, .inl (cyI, 6, .inl (fun _ => 0))), (u1469 1, .inl (cyI, 8, .inl (fun _ => 0))), (u1469 2, .inl (cyI, 8, .inl (fun _ => 0))), (u1469 3, .inl (cyI, 328, .inl (fun _ => 0))), (u1469 4, .inl (cyI, 328, .inl (fun _ => 0))), (u1469 5, .inl (cyI, 41, .inl (fun _ => 0))), (u1469 6, .inl (cyI, 41, .inl (fun _ => 0)))] H := hP
  have hD : va_D A [(ad 9, .inr (5, [.ref (sd 0), .ref (sd 1), .ref (sd 2), .ref (sd 3), .ref (sd 4), .ref (sd 5), .ref (sd 6), .int 0, .int (-1), .int 0, .int 0, .int 0, .int 0])), (sd 0, .inl (cyI, 6, .inl (fun _ => 0))), (sd 1, .inl (cyI, 8, .inl (fun _ => 0))), (sd 2, .inl (cyI, 8, .inl (fun _ => 0))), (sd 3, .inl (cyI, 328, .inl (fun _ => 0))), (sd 4, .inl (cyI, 328, .inl (fun _ => 0))), (sd 5, .inl (cyI, 41, .inl (fun _ => 0))), (sd 6, .inl (cyI, 41, .inl (fun _ => 0))), (q1453, .inr (5, [.ref (u1469 0), .ref (u1469 1), .ref (u1469 2), .ref (u1469 3), .ref (u1469 4), .ref (u1469 5), .ref (u1469 6), .int 0, .int (-1), .int 0, .int 0, .int 0, .int 0])), (u1469 0, .inl (cyI, 6, .inl (fun _ => 0))), (u1469 1, .inl (cyI, 8, .inl (fun _ => 0))), (u1469 2, .inl (cyI, 8, .inl (fun _ => 0))), (u1469 3, .inl (cyI, 328, .inl (fun _ => 0))), (u1469 4, .inl (cyI, 328, .inl (fun _ => 0))), (u1469 5, .inl (cyI, 41, .inl (fun _ => 0))), (u1469 6, .inl (cyI, 41, .inl (fun _ => 0)))] := hD
  refine lv_aload_n hx hb dX5_copyFrom_142 rfl (lv_at hl 0 rfl) ?_
  refine lv_aload_n hx hb dX5_copyFrom_143 rfl (lv_at hl 1 rfl) ?_
  refine va_get (D := (dC, dI)) (ci := 5) (v := .int 0) (C := RX5) (T := TX5) (N := 13) hx hb hts hi5 hown hK hP 0 rfl rfl 9 (by decide) (hts _ (ow_m (k := 13) rfl)) (fun _ h9 => h9) rfl dX5_copyFrom_144 ?_
  refine va_put (D := (dC, dI)) (ci := 5) (v := .int 0) (ty := .int) (C := RX5) (T := TX5) (N := 13) hx hb hts hi5 tyX5 tyX5_ok nmX5 hown hK hP hD hS 8 rfl rfl 9 (by decide) (hts _ (ow_m (k := 13) rfl)) (fun _ h9 => h9) rfl (by decide +kernel) rfl rfl (Nat.le_of_ble_eq_true rfl) dX5_copyFrom_147 (fun H locs hP hD hS => ?_)
  have hP : va_P (dC, dI) vwCl [(ad 9, .inr (5, [.ref (sd 0), .ref (sd 1), .ref (sd 2), .ref (sd 3), .ref (sd 4), .ref (sd 5), .ref (sd 6), .int 0, .int (-1), .int 0, .int 0, .int 0, .int 0])), (sd 0, .inl (cyI, 6, .inl (fun _ => 0))), (sd 1, .inl (cyI, 8, .inl (fun _ => 0))), (sd 2, .inl (cyI, 8, .inl (fun _ => 0))), (sd 3, .inl (cyI, 328, .inl (fun _ => 0))), (sd 4, .inl (cyI, 328, .inl (fun _ => 0))), (sd 5, .inl (cyI, 41, .inl (fun _ => 0))), (sd 6, .inl (cyI, 41, .inl (fun _ => 0))), (q1453, .inr (5, [.ref (u1469 0), .ref (u1469 1), .ref (u1469 2), .ref (u1469 3), .ref (u1469 4), .ref (u1469 5), .ref (u1469 6), .int 0, .int (-1), .int 0, .int 0, .int 0, .int 0])), (u1469 0, .inl (cyI, 6, .inl (fun _ => 0))), (u1469 1, .inl (cyI, 8, .inl (fun _ => 0))), (u1469 2, .inl (cyI, 8, .inl (fun _ => 0))), (u1469 3, .inl (cyI, 328, .inl (fun _ => 0))), (u1469 4, .inl (cyI, 328, .inl (fun _ => 0))), (u1469 5, .inl (cyI, 41, .inl (fun _ => 0))), (u1469 6, .inl (cyI, 41, .inl (fun _ => 0)))] H := hP
  have hD : va_D A [(ad 9, .inr (5, [.ref (sd 0), .ref (sd 1), .ref (sd 2), .ref (sd 3), .ref (sd 4), .ref (sd 5), .ref (sd 6), .int 0, .int (-1), .int 0, .int 0, .int 0, .int 0])), (sd 0, .inl (cyI, 6, .inl (fun _ => 0))), (sd 1, .inl (cyI, 8, .inl (fun _ => 0))), (sd 2, .inl (cyI, 8, .inl (fun _ => 0))), (sd 3, .inl (cyI, 328, .inl (fun _ => 0))), (sd 4, .inl (cyI, 328, .inl (fun _ => 0))), (sd 5, .inl (cyI, 41, .inl (fun _ => 0))), (sd 6, .inl (cyI, 41, .inl (fun _ => 0))), (q1453, .inr (5, [.ref (u1469 0), .ref (u1469 1), .ref (u1469 2), .ref (u1469 3), .ref (u1469 4), .ref (u1469 5), .ref (u1469 6), .int 0, .int (-1), .int 0, .int 0, .int 0, .int 0])), (u1469 0, .inl (cyI, 6, .inl (fun _ => 0))), (u1469 1, .inl (cyI, 8, .inl (fun _ => 0))), (u1469 2, .inl (cyI, 8, .inl (fun _ => 0))), (u1469 3, .inl (cyI, 328, .inl (fun _ => 0))), (u1469 4, .inl (cyI, 328, .inl (fun _ => 0))), (u1469 5, .inl (cyI, 41, .inl (fun _ => 0))), (u1469 6, .inl (cyI, 41, .inl (fun _ => 0)))] := hD
  refine lv_aload_n hx hb dX5_copyFrom_150 rfl (lv_at hl 0 rfl) ?_
  refine lv_aload_n hx hb dX5_copyFrom_151 rfl (lv_at hl 1 rfl) ?_
  refine va_get (D := (dC, dI)) (ci := 5) (v := .int 0) (C := RX5) (T := TX5) (N := 13) hx hb hts hi5 hown hK hP 0 rfl rfl 10 (by decide) (hts _ (ow_m (k := 14) rfl)) (fun _ h9 => h9) rfl dX5_copyFrom_152 ?_
  refine va_put (D := (dC, dI)) (ci := 5) (v := .int 0) (ty := .int) (C := RX5) (T := TX5) (N := 13) hx hb hts hi5 tyX5 tyX5_ok nmX5 hown hK hP hD hS 8 rfl rfl 10 (by decide) (hts _ (ow_m (k := 14) rfl)) (fun _ h9 => h9) rfl (by decide +kernel) rfl rfl (Nat.le_of_ble_eq_true rfl) dX5_copyFrom_155 (fun H locs hP hD hS => ?_)
  have hP : va_P (dC, dI) vwCl [(ad 9, .inr (5, [.ref (sd 0), .ref (sd 1), .ref (sd 2), .ref (sd 3), .ref (sd 4), .ref (sd 5), .ref (sd 6), .int 0, .int (-1), .int 0, .int 0, .int 0, .int 0])), (sd 0, .inl (cyI, 6, .inl (fun _ => 0))), (sd 1, .inl (cyI, 8, .inl (fun _ => 0))), (sd 2, .inl (cyI, 8, .inl (fun _ => 0))), (sd 3, .inl (cyI, 328, .inl (fun _ => 0))), (sd 4, .inl (cyI, 328, .inl (fun _ => 0))), (sd 5, .inl (cyI, 41, .inl (fun _ => 0))), (sd 6, .inl (cyI, 41, .inl (fun _ => 0))), (q1453, .inr (5, [.ref (u1469 0), .ref (u1469 1), .ref (u1469 2), .ref (u1469 3), .ref (u1469 4), .ref (u1469 5), .ref (u1469 6), .int 0, .int (-1), .int 0, .int 0, .int 0, .int 0])), (u1469 0, .inl (cyI, 6, .inl (fun _ => 0))), (u1469 1, .inl (cyI, 8, .inl (fun _ => 0))), (u1469 2, .inl (cyI, 8, .inl (fun _ => 0))), (u1469 3, .inl (cyI, 328, .inl (fun _ => 0))), (u1469 4, .inl (cyI, 328, .inl (fun _ => 0))), (u1469 5, .inl (cyI, 41, .inl (fun _ => 0))), (u1469 6, .inl (cyI, 41, .inl (fun _ => 0)))] H := hP
  have hD : va_D A [(ad 9, .inr (5, [.ref (sd 0), .ref (sd 1), .ref (sd 2), .ref (sd 3), .ref (sd 4), .ref (sd 5), .ref (sd 6), .int 0, .int (-1), .int 0, .int 0, .int 0, .int 0])), (sd 0, .inl (cyI, 6, .inl (fun _ => 0))), (sd 1, .inl (cyI, 8, .inl (fun _ => 0))), (sd 2, .inl (cyI, 8, .inl (fun _ => 0))), (sd 3, .inl (cyI, 328, .inl (fun _ => 0))), (sd 4, .inl (cyI, 328, .inl (fun _ => 0))), (sd 5, .inl (cyI, 41, .inl (fun _ => 0))), (sd 6, .inl (cyI, 41, .inl (fun _ => 0))), (q1453, .inr (5, [.ref (u1469 0), .ref (u1469 1), .ref (u1469 2), .ref (u1469 3), .ref (u1469 4), .ref (u1469 5), .ref (u1469 6), .int 0, .int (-1), .int 0, .int 0, .int 0, .int 0])), (u1469 0, .inl (cyI, 6, .inl (fun _ => 0))), (u1469 1, .inl (cyI, 8, .inl (fun _ => 0))), (u1469 2, .inl (cyI, 8, .inl (fun _ => 0))), (u1469 3, .inl (cyI, 328, .inl (fun _ => 0))), (u1469 4, .inl (cyI, 328, .inl (fun _ => 0))), (u1469 5, .inl (cyI, 41, .inl (fun _ => 0))), (u1469 6, .inl (cyI, 41, .inl (fun _ => 0)))] := hD
  refine lv_aload_n hx hb dX5_copyFrom_158 rfl (lv_at hl 0 rfl) ?_
  refine lv_aload_n hx hb dX5_copyFrom_159 rfl (lv_at hl 1 rfl) ?_
  refine va_get (D := (dC, dI)) (ci := 5) (v := .int 0) (C := RX5) (T := TX5) (N := 13) hx hb hts hi5 hown hK hP 0 rfl rfl 11 (by decide) (hts _ (ow_m (k := 15) rfl)) (fun _ h9 => h9) rfl dX5_copyFrom_160 ?_
  refine va_put (D := (dC, dI)) (ci := 5) (v := .int 0) (ty := .int) (C := RX5) (T := TX5) (N := 13) hx hb hts hi5 tyX5 tyX5_ok nmX5 hown hK hP hD hS 8 rfl rfl 11 (by decide) (hts _ (ow_m (k := 15) rfl)) (fun _ h9 => h9) rfl (by decide +kernel) rfl rfl (Nat.le_of_ble_eq_true rfl) dX5_copyFrom_163 (fun H locs hP hD hS => ?_)
  have hP : va_P (dC, dI) vwCl [(ad 9, .inr (5, [.ref (sd 0), .ref (sd 1), .ref (sd 2), .ref (sd 3), .ref (sd 4), .ref (sd 5), .ref (sd 6), .int 0, .int (-1), .int 0, .int 0, .int 0, .int 0])), (sd 0, .inl (cyI, 6, .inl (fun _ => 0))), (sd 1, .inl (cyI, 8, .inl (fun _ => 0))), (sd 2, .inl (cyI, 8, .inl (fun _ => 0))), (sd 3, .inl (cyI, 328, .inl (fun _ => 0))), (sd 4, .inl (cyI, 328, .inl (fun _ => 0))), (sd 5, .inl (cyI, 41, .inl (fun _ => 0))), (sd 6, .inl (cyI, 41, .inl (fun _ => 0))), (q1453, .inr (5, [.ref (u1469 0), .ref (u1469 1), .ref (u1469 2), .ref (u1469 3), .ref (u1469 4), .ref (u1469 5), .ref (u1469 6), .int 0, .int (-1), .int 0, .int 0, .int 0, .int 0])), (u1469 0, .inl (cyI, 6, .inl (fun _ => 0))), (u1469 1, .inl (cyI, 8, .inl (fun _ => 0))), (u1469 2, .inl (cyI, 8, .inl (fun _ => 0))), (u1469 3, .inl (cyI, 328, .inl (fun _ => 0))), (u1469 4, .inl (cyI, 328, .inl (fun _ => 0))), (u1469 5, .inl (cyI, 41, .inl (fun _ => 0))), (u1469 6, .inl (cyI, 41, .inl (fun _ => 0)))] H := hP
  have hD : va_D A [(ad 9, .inr (5, [.ref (sd 0), .ref (sd 1), .ref (sd 2), .ref (sd 3), .ref (sd 4), .ref (sd 5), .ref (sd 6), .int 0, .int (-1), .int 0, .int 0, .int 0, .int 0])), (sd 0, .inl (cyI, 6, .inl (fun _ => 0))), (sd 1, .inl (cyI, 8, .inl (fun _ => 0))), (sd 2, .inl (cyI, 8, .inl (fun _ => 0))), (sd 3, .inl (cyI, 328, .inl (fun _ => 0))), (sd 4, .inl (cyI, 328, .inl (fun _ => 0))), (sd 5, .inl (cyI, 41, .inl (fun _ => 0))), (sd 6, .inl (cyI, 41, .inl (fun _ => 0))), (q1453, .inr (5, [.ref (u1469 0), .ref (u1469 1), .ref (u1469 2), .ref (u1469 3), .ref (u1469 4), .ref (u1469 5), .ref (u1469 6), .int 0, .int (-1), .int 0, .int 0, .int 0, .int 0])), (u1469 0, .inl (cyI, 6, .inl (fun _ => 0))), (u1469 1, .inl (cyI, 8, .inl (fun _ => 0))), (u1469 2, .inl (cyI, 8, .inl (fun _ => 0))), (u1469 3, .inl (cyI, 328, .inl (fun _ => 0))), (u1469 4, .inl (cyI, 328, .inl (fun _ => 0))), (u1469 5, .inl (cyI, 41, .inl (fun _ => 0))), (u1469 6, .inl (cyI, 41, .inl (fun _ => 0)))] := hD
  refine lv_aload_n hx hb dX5_copyFrom_166 rfl (lv_at hl 0 rfl) ?_
  refine lv_aload_n hx hb dX5_copyFrom_167 rfl (lv_at hl 1 rfl) ?_
  refine va_get (D := (dC, dI)) (ci := 5) (v := .int 0) (C := RX5) (T := TX5) (N := 13) hx hb hts hi5 hown hK hP 0 rfl rfl 12 (by decide) (hts _ (ow_m (k := 16) rfl)) (fun _ h9 => h9) rfl dX5_copyFrom_168 ?_
  refine va_put (D := (dC, dI)) (ci := 5) (v := .int 0) (ty := .int) (C := RX5) (T := TX5) (N := 13) hx hb hts hi5 tyX5 tyX5_ok nmX5 hown hK hP hD hS 8 rfl rfl 12 (by decide) (hts _ (ow_m (k := 16) rfl)) (fun _ h9 => h9) rfl (by decide +kernel) rfl rfl (Nat.le_of_ble_eq_true rfl) dX5_copyFrom_171 (fun H locs hP hD hS => ?_)
  have hP : va_P (dC, dI) vwCl [(ad 9, .inr (5, [.ref (sd 0), .ref (sd 1), .ref (sd 2), .ref (sd 3), .ref (sd 4), .ref (sd 5), .ref (sd 6), .int 0, .int (-1), .int 0, .int 0, .int 0, .int 0])), (sd 0, .inl (cyI, 6, .inl (fun _ => 0))), (sd 1, .inl (cyI, 8, .inl (fun _ => 0))), (sd 2, .inl (cyI, 8, .inl (fun _ => 0))), (sd 3, .inl (cyI, 328, .inl (fun _ => 0))), (sd 4, .inl (cyI, 328, .inl (fun _ => 0))), (sd 5, .inl (cyI, 41, .inl (fun _ => 0))), (sd 6, .inl (cyI, 41, .inl (fun _ => 0))), (q1453, .inr (5, [.ref (u1469 0), .ref (u1469 1), .ref (u1469 2), .ref (u1469 3), .ref (u1469 4), .ref (u1469 5), .ref (u1469 6), .int 0, .int (-1), .int 0, .int 0, .int 0, .int 0])), (u1469 0, .inl (cyI, 6, .inl (fun _ => 0))), (u1469 1, .inl (cyI, 8, .inl (fun _ => 0))), (u1469 2, .inl (cyI, 8, .inl (fun _ => 0))), (u1469 3, .inl (cyI, 328, .inl (fun _ => 0))), (u1469 4, .inl (cyI, 328, .inl (fun _ => 0))), (u1469 5, .inl (cyI, 41, .inl (fun _ => 0))), (u1469 6, .inl (cyI, 41, .inl (fun _ => 0)))] H := hP
  have hD : va_D A [(ad 9, .inr (5, [.ref (sd 0), .ref (sd 1), .ref (sd 2), .ref (sd 3), .ref (sd 4), .ref (sd 5), .ref (sd 6), .int 0, .int (-1), .int 0, .int 0, .int 0, .int 0])), (sd 0, .inl (cyI, 6, .inl (fun _ => 0))), (sd 1, .inl (cyI, 8, .inl (fun _ => 0))), (sd 2, .inl (cyI, 8, .inl (fun _ => 0))), (sd 3, .inl (cyI, 328, .inl (fun _ => 0))), (sd 4, .inl (cyI, 328, .inl (fun _ => 0))), (sd 5, .inl (cyI, 41, .inl (fun _ => 0))), (sd 6, .inl (cyI, 41, .inl (fun _ => 0))), (q1453, .inr (5, [.ref (u1469 0), .ref (u1469 1), .ref (u1469 2), .ref (u1469 3), .ref (u1469 4), .ref (u1469 5), .ref (u1469 6), .int 0, .int (-1), .int 0, .int 0, .int 0, .int 0])), (u1469 0, .inl (cyI, 6, .inl (fun _ => 0))), (u1469 1, .inl (cyI, 8, .inl (fun _ => 0))), (u1469 2, .inl (cyI, 8, .inl (fun _ => 0))), (u1469 3, .inl (cyI, 328, .inl (fun _ => 0))), (u1469 4, .inl (cyI, 328, .inl (fun _ => 0))), (u1469 5, .inl (cyI, 41, .inl (fun _ => 0))), (u1469 6, .inl (cyI, 41, .inl (fun _ => 0)))] := hD
  exact W.vret hx hb hr (fun t ht hW => ⟨⟨(), rfl, trivial, cE.of ht hP hD [0, 1, 2, 3, 4, 5, 6, 7, 8, 9, 10, 11, 12, 13, 14, 15] (by decide) rfl⟩, hS.F ht⟩) hS.2.2 dX5_copyFrom_174
def wo_k_X5_init_v8 : List Cond := [.methodLink RX5 3 objectInit, .instanceMethod objectInit, .code objectInit ⟨#[0xb1]⟩ 1 none, .arrayClass .int, .fieldLink RX5 9 "ReplicaChain$State" "row" "[I", .fieldLink RX5 15 "ReplicaChain$State" "has" "[I", .fieldLink RX5 18 "ReplicaChain$State" "clean" "[I", .fieldLink RX5 21 "ReplicaChain$State" "downDue" "[I", .fieldLink RX5 24 "ReplicaChain$State" "upDue" "[I", .fieldLink RX5 27 "ReplicaChain$State" "keys" "[I", .fieldLink RX5 30 "ReplicaChain$State" "values" "[I", .fieldLink RX5 33 "ReplicaChain$State" "copier" "I"]
def wq_k_X5_init_v8 : List Cond := .code yX5_init cX5_init 1 none :: (wo_k_X5_init_v8 ++ (wsX50 ++ []))
theorem gd_k_X5_init_v8 : Gd wq_k_X5_init_v8 := gd_c (gd_a (gd_o (by decide +kernel)) (gd_a gd_u gd_0))
abbrev wc_k_X5_init_v8 (cyB cyI cyJ cyZ cyO : ClassId) (q1474 : Nat) : va_W := [(q1474, .inr (5, [.null, .null, .null, .null, .null, .null, .null, .int 0, .int 0, .int 0, .int 0, .int 0, .int 0]))]
set_option maxHeartbeats 4000000 in
set_option maxRecDepth 100000 in
theorem k_X5_init_v8 (l : Launch) (dC : Nat → ClassId) (dI : Nat → Nat → Nat) (cyB cyI cyJ cyZ cyO : ClassId) (q1474 : Nat) (sz : Nat) : Met l yX5_init wq_k_X5_init_v8 ({ frames := 1, cells := 7, slots := 760, locals := 20 }) (va_Pc [.ref q1474] (cB (dC, dI) (kT cyB cyI cyJ cyZ cyO) (wc_k_X5_init_v8 cyB cyI cyJ cyZ cyO q1474) sz)) (va_Qv (fun _ => True) (fun (u : Nat → Nat) t => cE (dC, dI) (va_A (wc_k_X5_init_v8 cyB cyI cyJ cyZ cyO q1474) sz) ([(q1474, .inr (5, [.ref (u 0), .ref (u 1), .ref (u 2), .ref (u 3), .ref (u 4), .ref (u 5), .ref (u 6), .int 0, .int (-1), .int 0, .int 0, .int 0, .int 0])), (u 0, .inl (cyI, 6, .inl (fun _ => 0))), (u 1, .inl (cyI, 8, .inl (fun _ => 0))), (u 2, .inl (cyI, 8, .inl (fun _ => 0))), (u 3, .inl (cyI, 328, .inl (fun _ => 0))), (u 4, .inl (cyI, 328, .inl (fun _ => 0))), (u 5, .inl (cyI, 41, .inl (fun _ => 0))), (u 6, .inl (cyI, 41, .inl (fun _ => 0)))]) t.heap) (va_A (wc_k_X5_init_v8 cyB cyI cyJ cyZ cyO q1474) sz)) 7 760 (va_A (wc_k_X5_init_v8 cyB cyI cyJ cyZ cyO q1474) sz) := by
  refine Met.ofW (cc := cX5_init) (maxL := 1) (ret := none) (by decide) rfl ?_
  intro p e s m args below meth c s₁ B hml hv
  obtain ⟨rfl, hsz, hP, hKN, hD0⟩ := hv
  have hx := B.exec
  have hb := B.bytes
  have hr := B.returns
  have hts := atoms_spec (ws := wq_k_X5_init_v8) B.pre
  have hown : s.vm.findClass RX5 = some m.cls := findClass_of_methodNamed B.named
  have hlocks := B.notSynchronized
  have hin : meth.name = "<init>" := (name_of_methodNamed B.named B.method).1
  have hK := hKN.1
  have hfix : CallFix p m c cX5_init 1 s [.ref q1474].toArray wq_k_X5_init_v8 RX5 := ⟨hx, hb, hml, hown, hts⟩
  have hi5 : ∀ w ∈ wsX50, w ∈ wq_k_X5_init_v8 := (sb_c sb_l)
  subst hsz
  have hD := hD0.self (sz := s.heap.size)
  generalize hAe : va_A (wc_k_X5_init_v8 cyB cyI cyJ cyZ cyO q1474) s.heap.size = A at hD ⊢
  have hA : ∀ q : Nat, s.heap.size ≤ q → A q := fun q h => by rw [← hAe]; exact Or.inr h
  have hS : va_S A s.heap s.heap [] := va_S.rf
  have hl := lv_entry ([.ref q1474]) (n := 1) (Nat.le_of_ble_eq_true rfl)
  rw [lg_entry_eq]
  generalize (lg_sl ([.ref q1474]) ++ List.replicate (1 - (lg_sl ([.ref q1474])).length) Slot.unset).toArray = ls at hl ⊢
  have hl : lv_has ls 1 [(0, .ref q1474)] := hl
  refine lv_aload_n hx hb dX5_init_0 rfl (lv_at hl 0 rfl) ?_
  refine W.objInit hx hb hown (hts _ (ow_m (k := 0) rfl)) (hts _ (ow_m (k := 1) rfl)) (hts _ (ow_m (k := 2) rfl)) rfl (by rw [hml]; exact hl.1) rfl dX5_init_1 (Nat.le_of_ble_eq_true rfl) (Nat.le_of_ble_eq_true rfl) ?_
  refine W.eq (g2 := F0 m 4 ls []) rfl ?_
  refine lv_aload_n hx hb dX5_init_4 rfl (lv_at hl 0 rfl) ?_
  refine lv_bipush (v := 6) hx hb dX5_init_5 (by decide) ?_
  refine g_newa (a0 := (6, .inl (fun _ => 0))) hx hb (hts _ (ow_m (k := 3) rfl)) rfl hKN hP hD hS hA 1 rfl rfl (fun _ => rfl) (by decide) (by decide) (by decide) (Nat.le_of_ble_eq_true rfl) (Nat.le_of_ble_eq_true rfl) dX5_init_7 (fun q1482 H hP hD hS => ?_)
  have hP : va_P (dC, dI) vwCl [(q1474, .inr (5, [.null, .null, .null, .null, .null, .null, .null, .int 0, .int 0, .int 0, .int 0, .int 0, .int 0])), (q1482, .inl (cyI, 6, .inl (fun _ => 0)))] H := hP
  have hD : va_D A [(q1474, .inr (5, [.null, .null, .null, .null, .null, .null, .null, .int 0, .int 0, .int 0, .int 0, .int 0, .int 0])), (q1482, .inl (cyI, 6, .inl (fun _ => 0)))] := hD
  refine W.widen (k := 1) (n := 6) (by omega) (by omega) ?_
  refine va_putF (D := (dC, dI)) (ci := 5) (v := .ref q1482) (ty := .array .int) (C := RX5) (T := TX5) (N := 13) hx hb hts hi5 tyX5 tyX5_ok nmX5 hown hK hP hD hS 0 rfl rfl 0 (by decide) (hts _ (ow_m (k := 4) rfl)) (fun _ h9 => h9) rfl hin rfl (by decide +kernel) rfl rfl (Nat.le_of_ble_eq_true rfl) dX5_init_9 (fun H locs hP hD hS => ?_)
  have hP : va_P (dC, dI) vwCl [(q1474, .inr (5, [.ref q1482, .null, .null, .null, .null, .null, .null, .int 0, .int 0, .int 0, .int 0, .int 0, .int 0])), (q1482, .inl (cyI, 6, .inl (fun _ => 0)))] H := hP
  have hD : va_D A [(q1474, .inr (5, [.ref q1482, .null, .null, .null, .null, .null, .null, .int 0, .int 0, .int 0, .int 0, .int 0, .int 0])), (q1482, .inl (cyI, 6, .inl (fun _ => 0)))] := hD
  refine lv_aload_n hx hb dX5_init_12 rfl (lv_at hl 0 rfl) ?_
  refine lv_bipush (v := 8) hx hb dX5_init_13 (by decide) ?_
  refine g_newa (a0 := (8, .inl (fun _ => 0))) hx hb (hts _ (ow_m (k := 3) rfl)) rfl hKN hP hD hS hA 1 rfl rfl (fun _ => rfl) (by decide) (by decide) (by decide) (Nat.le_of_ble_eq_true rfl) (Nat.le_of_ble_eq_true rfl) dX5_init_15 (fun q1483 H hP hD hS => ?_)
  have hP : va_P (dC, dI) vwCl [(q1474, .inr (5, [.ref q1482, .null, .null, .null, .null, .null, .null, .int 0, .int 0, .int 0, .int 0, .int 0, .int 0])), (q1482, .inl (cyI, 6, .inl (fun _ => 0))), (q1483, .inl (cyI, 8, .inl (fun _ => 0)))] H := hP
  have hD : va_D A [(q1474, .inr (5, [.ref q1482, .null, .null, .null, .null, .null, .null, .int 0, .int 0, .int 0, .int 0, .int 0, .int 0])), (q1482, .inl (cyI, 6, .inl (fun _ => 0))), (q1483, .inl (cyI, 8, .inl (fun _ => 0)))] := hD
  refine W.widen (k := 2) (n := 14) (by omega) (by omega) ?_
  refine va_putF (D := (dC, dI)) (ci := 5) (v := .ref q1483) (ty := .array .int) (C := RX5) (T := TX5) (N := 13) hx hb hts hi5 tyX5 tyX5_ok nmX5 hown hK hP hD hS 0 rfl rfl 1 (by decide) (hts _ (ow_m (k := 5) rfl)) (fun _ h9 => h9) rfl hin rfl (by decide +kernel) rfl rfl (Nat.le_of_ble_eq_true rfl) dX5_init_17 (fun H locs hP hD hS => ?_)
  have hP : va_P (dC, dI) vwCl [(q1474, .inr (5, [.ref q1482, .ref q1483, .null, .null, .null, .null, .null, .int 0, .int 0, .int 0, .int 0, .int 0, .int 0])), (q1482, .inl (cyI, 6, .inl (fun _ => 0))), (q1483, .inl (cyI, 8, .inl (fun _ => 0)))] H := hP
  have hD : va_D A [(q1474, .inr (5, [.ref q1482, .ref q1483, .null, .null, .null, .null, .null, .int 0, .int 0, .int 0, .int 0, .int 0, .int 0])), (q1482, .inl (cyI, 6, .inl (fun _ => 0))), (q1483, .inl (cyI, 8, .inl (fun _ => 0)))] := hD
  refine lv_aload_n hx hb dX5_init_20 rfl (lv_at hl 0 rfl) ?_
  refine lv_bipush (v := 8) hx hb dX5_init_21 (by decide) ?_
  refine g_newa (a0 := (8, .inl (fun _ => 0))) hx hb (hts _ (ow_m (k := 3) rfl)) rfl hKN hP hD hS hA 1 rfl rfl (fun _ => rfl) (by decide) (by decide) (by decide) (Nat.le_of_ble_eq_true rfl) (Nat.le_of_ble_eq_true rfl) dX5_init_23 (fun q1484 H hP hD hS => ?_)
  have hP : va_P (dC, dI) vwCl [(q1474, .inr (5, [.ref q1482, .ref q1483, .null, .null, .null, .null, .null, .int 0, .int 0, .int 0, .int 0, .int 0, .int 0])), (q1482, .inl (cyI, 6, .inl (fun _ => 0))), (q1483, .inl (cyI, 8, .inl (fun _ => 0))), (q1484, .inl (cyI, 8, .inl (fun _ => 0)))] H := hP
  have hD : va_D A [(q1474, .inr (5, [.ref q1482, .ref q1483, .null, .null, .null, .null, .null, .int 0, .int 0, .int 0, .int 0, .int 0, .int 0])), (q1482, .inl (cyI, 6, .inl (fun _ => 0))), (q1483, .inl (cyI, 8, .inl (fun _ => 0))), (q1484, .inl (cyI, 8, .inl (fun _ => 0)))] := hD
  refine W.widen (k := 3) (n := 22) (by omega) (by omega) ?_
  refine va_putF (D := (dC, dI)) (ci := 5) (v := .ref q1484) (ty := .array .int) (C := RX5) (T := TX5) (N := 13) hx hb hts hi5 tyX5 tyX5_ok nmX5 hown hK hP hD hS 0 rfl rfl 2 (by decide) (hts _ (ow_m (k := 6) rfl)) (fun _ h9 => h9) rfl hin rfl (by decide +kernel) rfl rfl (Nat.le_of_ble_eq_true rfl) dX5_init_25 (fun H locs hP hD hS => ?_)
  have hP : va_P (dC, dI) vwCl [(q1474, .inr (5, [.ref q1482, .ref q1483, .ref q1484, .null, .null, .null, .null, .int 0, .int 0, .int 0, .int 0, .int 0, .int 0])), (q1482, .inl (cyI, 6, .inl (fun _ => 0))), (q1483, .inl (cyI, 8, .inl (fun _ => 0))), (q1484, .inl (cyI, 8, .inl (fun _ => 0)))] H := hP
  have hD : va_D A [(q1474, .inr (5, [.ref q1482, .ref q1483, .ref q1484, .null, .null, .null, .null, .int 0, .int 0, .int 0, .int 0, .int 0, .int 0])), (q1482, .inl (cyI, 6, .inl (fun _ => 0))), (q1483, .inl (cyI, 8, .inl (fun _ => 0))), (q1484, .inl (cyI, 8, .inl (fun _ => 0)))] := hD
  refine lv_aload_n hx hb dX5_init_28 rfl (lv_at hl 0 rfl) ?_
  refine lv_sipush (v := 328) hx hb dX5_init_29 (by decide) ?_
  refine g_newa (a0 := (328, .inl (fun _ => 0))) hx hb (hts _ (ow_m (k := 3) rfl)) rfl hKN hP hD hS hA 1 rfl rfl (fun _ => rfl) (by decide) (by decide) (by decide) (Nat.le_of_ble_eq_true rfl) (Nat.le_of_ble_eq_true rfl) dX5_init_32 (fun q1485 H hP hD hS => ?_)
  have hP : va_P (dC, dI) vwCl [(q1474, .inr (5, [.ref q1482, .ref q1483, .ref q1484, .null, .null, .null, .null, .int 0, .int 0, .int 0, .int 0, .int 0, .int 0])), (q1482, .inl (cyI, 6, .inl (fun _ => 0))), (q1483, .inl (cyI, 8, .inl (fun _ => 0))), (q1484, .inl (cyI, 8, .inl (fun _ => 0))), (q1485, .inl (cyI, 328, .inl (fun _ => 0)))] H := hP
  have hD : va_D A [(q1474, .inr (5, [.ref q1482, .ref q1483, .ref q1484, .null, .null, .null, .null, .int 0, .int 0, .int 0, .int 0, .int 0, .int 0])), (q1482, .inl (cyI, 6, .inl (fun _ => 0))), (q1483, .inl (cyI, 8, .inl (fun _ => 0))), (q1484, .inl (cyI, 8, .inl (fun _ => 0))), (q1485, .inl (cyI, 328, .inl (fun _ => 0)))] := hD
  refine W.widen (k := 4) (n := 350) (by omega) (by omega) ?_
  refine va_putF (D := (dC, dI)) (ci := 5) (v := .ref q1485) (ty := .array .int) (C := RX5) (T := TX5) (N := 13) hx hb hts hi5 tyX5 tyX5_ok nmX5 hown hK hP hD hS 0 rfl rfl 3 (by decide) (hts _ (ow_m (k := 7) rfl)) (fun _ h9 => h9) rfl hin rfl (by decide +kernel) rfl rfl (Nat.le_of_ble_eq_true rfl) dX5_init_34 (fun H locs hP hD hS => ?_)
  have hP : va_P (dC, dI) vwCl [(q1474, .inr (5, [.ref q1482, .ref q1483, .ref q1484, .ref q1485, .null, .null, .null, .int 0, .int 0, .int 0, .int 0, .int 0, .int 0])), (q1482, .inl (cyI, 6, .inl (fun _ => 0))), (q1483, .inl (cyI, 8, .inl (fun _ => 0))), (q1484, .inl (cyI, 8, .inl (fun _ => 0))), (q1485, .inl (cyI, 328, .inl (fun _ => 0)))] H := hP
  have hD : va_D A [(q1474, .inr (5, [.ref q1482, .ref q1483, .ref q1484, .ref q1485, .null, .null, .null, .int 0, .int 0, .int 0, .int 0, .int 0, .int 0])), (q1482, .inl (cyI, 6, .inl (fun _ => 0))), (q1483, .inl (cyI, 8, .inl (fun _ => 0))), (q1484, .inl (cyI, 8, .inl (fun _ => 0))), (q1485, .inl (cyI, 328, .inl (fun _ => 0)))] := hD
  refine lv_aload_n hx hb dX5_init_37 rfl (lv_at hl 0 rfl) ?_
  refine lv_sipush (v := 328) hx hb dX5_init_38 (by decide) ?_
  refine g_newa (a0 := (328, .inl (fun _ => 0))) hx hb (hts _ (ow_m (k := 3) rfl)) rfl hKN hP hD hS hA 1 rfl rfl (fun _ => rfl) (by decide) (by decide) (by decide) (Nat.le_of_ble_eq_true rfl) (Nat.le_of_ble_eq_true rfl) dX5_init_41 (fun q1486 H hP hD hS => ?_)
  have hP : va_P (dC, dI) vwCl [(q1474, .inr (5, [.ref q1482, .ref q1483, .ref q1484, .ref q1485, .null, .null, .null, .int 0, .int 0, .int 0, .int 0, .int 0, .int 0])), (q1482, .inl (cyI, 6, .inl (fun _ => 0))), (q1483, .inl (cyI, 8, .inl (fun _ => 0))), (q1484, .inl (cyI, 8, .inl (fun _ => 0))), (q1485, .inl (cyI, 328, .inl (fun _ => 0))), (q1486, .inl (cyI, 328, .inl (fun _ => 0)))] H := hP
  have hD : va_D A [(q1474, .inr (5, [.ref q1482, .ref q1483, .ref q1484, .ref q1485, .null, .null, .null, .int 0, .int 0, .int 0, .int 0, .int 0, .int 0])), (q1482, .inl (cyI, 6, .inl (fun _ => 0))), (q1483, .inl (cyI, 8, .inl (fun _ => 0))), (q1484, .inl (cyI, 8, .inl (fun _ => 0))), (q1485, .inl (cyI, 328, .inl (fun _ => 0))), (q1486, .inl (cyI, 328, .inl (fun _ => 0)))] := hD
  refine W.widen (k := 5) (n := 678) (by omega) (by omega) ?_
  refine va_putF (D := (dC, dI)) (ci := 5) (v := .ref q1486) (ty := .array .int) (C := RX5) (T := TX5) (N := 13) hx hb hts hi5 tyX5 tyX5_ok nmX5 hown hK hP hD hS 0 rfl rfl 4 (by decide) (hts _ (ow_m (k := 8) rfl)) (fun _ h9 => h9) rfl hin rfl (by decide +kernel) rfl rfl (Nat.le_of_ble_eq_true rfl) dX5_init_43 (fun H locs hP hD hS => ?_)
  have hP : va_P (dC, dI) vwCl [(q1474, .inr (5, [.ref q1482, .ref q1483, .ref q1484, .ref q1485, .ref q1486, .null, .null, .int 0, .int 0, .int 0, .int 0, .int 0, .int 0])), (q1482, .inl (cyI, 6, .inl (fun _ => 0))), (q1483, .inl (cyI, 8, .inl (fun _ => 0))), (q1484, .inl (cyI, 8, .inl (fun _ => 0))), (q1485, .inl (cyI, 328, .inl (fun _ => 0))), (q1486, .inl (cyI, 328, .inl (fun _ => 0)))] H := hP
  have hD : va_D A [(q1474, .inr (5, [.ref q1482, .ref q1483, .ref q1484, .ref q1485, .ref q1486, .null, .null, .int 0, .int 0, .int 0, .int 0, .int 0, .int 0])), (q1482, .inl (cyI, 6, .inl (fun _ => 0))), (q1483, .inl (cyI, 8, .inl (fun _ => 0))), (q1484, .inl (cyI, 8, .inl (fun _ => 0))), (q1485, .inl (cyI, 328, .inl (fun _ => 0))), (q1486, .inl (cyI, 328, .inl (fun _ => 0)))] := hD
  refine lv_aload_n hx hb dX5_init_46 rfl (lv_at hl 0 rfl) ?_
  refine lv_bipush (v := 41) hx hb dX5_init_47 (by decide) ?_
  refine g_newa (a0 := (41, .inl (fun _ => 0))) hx hb (hts _ (ow_m (k := 3) rfl)) rfl hKN hP hD hS hA 1 rfl rfl (fun _ => rfl) (by decide) (by decide) (by decide) (Nat.le_of_ble_eq_true rfl) (Nat.le_of_ble_eq_true rfl) dX5_init_49 (fun q1487 H hP hD hS => ?_)
  have hP : va_P (dC, dI) vwCl [(q1474, .inr (5, [.ref q1482, .ref q1483, .ref q1484, .ref q1485, .ref q1486, .null, .null, .int 0, .int 0, .int 0, .int 0, .int 0, .int 0])), (q1482, .inl (cyI, 6, .inl (fun _ => 0))), (q1483, .inl (cyI, 8, .inl (fun _ => 0))), (q1484, .inl (cyI, 8, .inl (fun _ => 0))), (q1485, .inl (cyI, 328, .inl (fun _ => 0))), (q1486, .inl (cyI, 328, .inl (fun _ => 0))), (q1487, .inl (cyI, 41, .inl (fun _ => 0)))] H := hP
  have hD : va_D A [(q1474, .inr (5, [.ref q1482, .ref q1483, .ref q1484, .ref q1485, .ref q1486, .null, .null, .int 0, .int 0, .int 0, .int 0, .int 0, .int 0])), (q1482, .inl (cyI, 6, .inl (fun _ => 0))), (q1483, .inl (cyI, 8, .inl (fun _ => 0))), (q1484, .inl (cyI, 8, .inl (fun _ => 0))), (q1485, .inl (cyI, 328, .inl (fun _ => 0))), (q1486, .inl (cyI, 328, .inl (fun _ => 0))), (q1487, .inl (cyI, 41, .inl (fun _ => 0)))] := hD
  refine W.widen (k := 6) (n := 719) (by omega) (by omega) ?_
  refine va_putF (D := (dC, dI)) (ci := 5) (v := .ref q1487) (ty := .array .int) (C := RX5) (T := TX5) (N := 13) hx hb hts hi5 tyX5 tyX5_ok nmX5 hown hK hP hD hS 0 rfl rfl 5 (by decide) (hts _ (ow_m (k := 9) rfl)) (fun _ h9 => h9) rfl hin rfl (by decide +kernel) rfl rfl (Nat.le_of_ble_eq_true rfl) dX5_init_51 (fun H locs hP hD hS => ?_)
  have hP : va_P (dC, dI) vwCl [(q1474, .inr (5, [.ref q1482, .ref q1483, .ref q1484, .ref q1485, .ref q1486, .ref q1487, .null, .int 0, .int 0, .int 0, .int 0, .int 0, .int 0])), (q1482, .inl (cyI, 6, .inl (fun _ => 0))), (q1483, .inl (cyI, 8, .inl (fun _ => 0))), (q1484, .inl (cyI, 8, .inl (fun _ => 0))), (q1485, .inl (cyI, 328, .inl (fun _ => 0))), (q1486, .inl (cyI, 328, .inl (fun _ => 0))), (q1487, .inl (cyI, 41, .inl (fun _ => 0)))] H := hP
  have hD : va_D A [(q1474, .inr (5, [.ref q1482, .ref q1483, .ref q1484, .ref q1485, .ref q1486, .ref q1487, .null, .int 0, .int 0, .int 0, .int 0, .int 0, .int 0])), (q1482, .inl (cyI, 6, .inl (fun _ => 0))), (q1483, .inl (cyI, 8, .inl (fun _ => 0))), (q1484, .inl (cyI, 8, .inl (fun _ => 0))), (q1485, .inl (cyI, 328, .inl (fun _ => 0))), (q1486, .inl (cyI, 328, .inl (fun _ => 0))), (q1487, .inl (cyI, 41, .inl (fun _ => 0)))] := hD
  refine lv_aload_n hx hb dX5_init_54 rfl (lv_at hl 0 rfl) ?_
  refine lv_bipush (v := 41) hx hb dX5_init_55 (by decide) ?_
  refine g_newa (a0 := (41, .inl (fun _ => 0))) hx hb (hts _ (ow_m (k := 3) rfl)) rfl hKN hP hD hS hA 1 rfl rfl (fun _ => rfl) (by decide) (by decide) (by decide) (Nat.le_of_ble_eq_true rfl) (Nat.le_of_ble_eq_true rfl) dX5_init_57 (fun q1488 H hP hD hS => ?_)
  have hP : va_P (dC, dI) vwCl [(q1474, .inr (5, [.ref q1482, .ref q1483, .ref q1484, .ref q1485, .ref q1486, .ref q1487, .null, .int 0, .int 0, .int 0, .int 0, .int 0, .int 0])), (q1482, .inl (cyI, 6, .inl (fun _ => 0))), (q1483, .inl (cyI, 8, .inl (fun _ => 0))), (q1484, .inl (cyI, 8, .inl (fun _ => 0))), (q1485, .inl (cyI, 328, .inl (fun _ => 0))), (q1486, .inl (cyI, 328, .inl (fun _ => 0))), (q1487, .inl (cyI, 41, .inl (fun _ => 0))), (q1488, .inl (cyI, 41, .inl (fun _ => 0)))] H := hP
  have hD : va_D A [(q1474, .inr (5, [.ref q1482, .ref q1483, .ref q1484, .ref q1485, .ref q1486, .ref q1487, .null, .int 0, .int 0, .int 0, .int 0, .int 0, .int 0])), (q1482, .inl (cyI, 6, .inl (fun _ => 0))), (q1483, .inl (cyI, 8, .inl (fun _ => 0))), (q1484, .inl (cyI, 8, .inl (fun _ => 0))), (q1485, .inl (cyI, 328, .inl (fun _ => 0))), (q1486, .inl (cyI, 328, .inl (fun _ => 0))), (q1487, .inl (cyI, 41, .inl (fun _ => 0))), (q1488, .inl (cyI, 41, .inl (fun _ => 0)))] := hD
  refine W.widen (k := 7) (n := 760) (by omega) (by omega) ?_
  refine va_putF (D := (dC, dI)) (ci := 5) (v := .ref q1488) (ty := .array .int) (C := RX5) (T := TX5) (N := 13) hx hb hts hi5 tyX5 tyX5_ok nmX5 hown hK hP hD hS 0 rfl rfl 6 (by decide) (hts _ (ow_m (k := 10) rfl)) (fun _ h9 => h9) rfl hin rfl (by decide +kernel) rfl rfl (Nat.le_of_ble_eq_true rfl) dX5_init_59 (fun H locs hP hD hS => ?_)
  have hP : va_P (dC, dI) vwCl [(q1474, .inr (5, [.ref q1482, .ref q1483, .ref q1484, .ref q1485, .ref q1486, .ref q1487, .ref q1488, .int 0, .int 0, .int 0, .int 0, .int 0, .int 0])), (q1482, .inl (cyI, 6, .inl (fun _ => 0))), (q1483, .inl (cyI, 8, .inl (fun _ => 0))), (q1484, .inl (cyI, 8, .inl (fun _ => 0))), (q1485, .inl (cyI, 328, .inl (fun _ => 0))), (q1486, .inl (cyI, 328, .inl (fun _ => 0))), (q1487, .inl (cyI, 41, .inl (fun _ => 0))), (q1488, .inl (cyI, 41, .inl (fun _ => 0)))] H := hP
  have hD : va_D A [(q1474, .inr (5, [.ref q1482, .ref q1483, .ref q1484, .ref q1485, .ref q1486, .ref q1487, .ref q1488, .int 0, .int 0, .int 0, .int 0, .int 0, .int 0])), (q1482, .inl (cyI, 6, .inl (fun _ => 0))), (q1483, .inl (cyI, 8, .inl (fun _ => 0))), (q1484, .inl (cyI, 8, .inl (fun _ => 0))), (q1485, .inl (cyI, 328, .inl (fun _ => 0))), (q1486, .inl (cyI, 328, .inl (fun _ => 0))), (q1487, .inl (cyI, 41, .inl (fun _ => 0))), (q1488, .inl (cyI, 41, .inl (fun _ => 0)))] := hD
  refine lv_aload_n hx hb dX5_init_62 rfl (lv_at hl 0 rfl) ?_
  refine lv_iconst (v := (-1)) hx hb dX5_init_63 (by decide) ?_
  refine va_put (D := (dC, dI)) (ci := 5) (v := .int (-1)) (ty := .int) (C := RX5) (T := TX5) (N := 13) hx hb hts hi5 tyX5 tyX5_ok nmX5 hown hK hP hD hS 0 rfl rfl 8 (by decide) (hts _ (ow_m (k := 11) rfl)) (fun _ h9 => h9) rfl (by decide +kernel) rfl rfl (Nat.le_of_ble_eq_true rfl) dX5_init_64 (fun H locs hP hD hS => ?_)
  have hP : va_P (dC, dI) vwCl [(q1474, .inr (5, [.ref q1482, .ref q1483, .ref q1484, .ref q1485, .ref q1486, .ref q1487, .ref q1488, .int 0, .int (-1), .int 0, .int 0, .int 0, .int 0])), (q1482, .inl (cyI, 6, .inl (fun _ => 0))), (q1483, .inl (cyI, 8, .inl (fun _ => 0))), (q1484, .inl (cyI, 8, .inl (fun _ => 0))), (q1485, .inl (cyI, 328, .inl (fun _ => 0))), (q1486, .inl (cyI, 328, .inl (fun _ => 0))), (q1487, .inl (cyI, 41, .inl (fun _ => 0))), (q1488, .inl (cyI, 41, .inl (fun _ => 0)))] H := hP
  have hD : va_D A [(q1474, .inr (5, [.ref q1482, .ref q1483, .ref q1484, .ref q1485, .ref q1486, .ref q1487, .ref q1488, .int 0, .int (-1), .int 0, .int 0, .int 0, .int 0])), (q1482, .inl (cyI, 6, .inl (fun _ => 0))), (q1483, .inl (cyI, 8, .inl (fun _ => 0))), (q1484, .inl (cyI, 8, .inl (fun _ => 0))), (q1485, .inl (cyI, 328, .inl (fun _ => 0))), (q1486, .inl (cyI, 328, .inl (fun _ => 0))), (q1487, .inl (cyI, 41, .inl (fun _ => 0))), (q1488, .inl (cyI, 41, .inl (fun _ => 0)))] := hD
  exact W.vret hx hb hr (fun t ht hW => ⟨⟨(fun k => match k with | 0 => q1482 | 1 => q1483 | 2 => q1484 | 3 => q1485 | 4 => q1486 | 5 => q1487 | _ => q1488), rfl, trivial, cE.of ht hP hD [0, 1, 2, 3, 4, 5, 6, 7] (by decide) rfl⟩, hS.F ht⟩) hS.2.2 dX5_init_67
def wo_k_X5_copyFrom_v9 : List Cond := [.fieldLink RX5 9 "ReplicaChain$State" "row" "[I", .methodLink RX5 63 arraycopyName, .native arraycopyName, .static arraycopyName, .initialized "java/lang/System", .fieldLink RX5 15 "ReplicaChain$State" "has" "[I", .fieldLink RX5 18 "ReplicaChain$State" "clean" "[I", .fieldLink RX5 21 "ReplicaChain$State" "downDue" "[I", .fieldLink RX5 24 "ReplicaChain$State" "upDue" "[I", .fieldLink RX5 27 "ReplicaChain$State" "keys" "[I", .fieldLink RX5 30 "ReplicaChain$State" "values" "[I", .fieldLink RX5 42 "ReplicaChain$State" "size" "I", .fieldLink RX5 33 "ReplicaChain$State" "copier" "I", .fieldLink RX5 48 "ReplicaChain$State" "copyLeft" "I", .fieldLink RX5 51 "ReplicaChain$State" "tick" "I", .fieldLink RX5 57 "ReplicaChain$State" "seed" "I", .fieldLink RX5 60 "ReplicaChain$State" "dropped" "I"]
def wq_k_X5_copyFrom_v9 : List Cond := .code yX5_copyFrom cX5_copyFrom 2 none :: (wo_k_X5_copyFrom_v9 ++ (wsX50 ++ []))
theorem gd_k_X5_copyFrom_v9 : Gd wq_k_X5_copyFrom_v9 := gd_c (gd_a (gd_o (by decide +kernel)) (gd_a gd_u gd_0))
abbrev wc_k_X5_copyFrom_v9 (cyB cyI cyJ cyZ cyO : ClassId) (ad : Nat → Nat) (sd : Nat → Nat) (q1474 : Nat) (u1490 : Nat → Nat) : va_W := [(ad 9, .inr (5, [.ref (sd 0), .ref (sd 1), .ref (sd 2), .ref (sd 3), .ref (sd 4), .ref (sd 5), .ref (sd 6), .int 0, .int (-1), .int 0, .int 0, .int 0, .int 0])), (sd 0, .inl (cyI, 6, .inl (fun _ => 0))), (sd 1, .inl (cyI, 8, .inl (fun _ => 0))), (sd 2, .inl (cyI, 8, .inl (fun _ => 0))), (sd 3, .inl (cyI, 328, .inl (fun _ => 0))), (sd 4, .inl (cyI, 328, .inl (fun _ => 0))), (sd 5, .inl (cyI, 41, .inl (fun _ => 0))), (sd 6, .inl (cyI, 41, .inl (fun _ => 0))), (q1474, .inr (5, [.ref (u1490 0), .ref (u1490 1), .ref (u1490 2), .ref (u1490 3), .ref (u1490 4), .ref (u1490 5), .ref (u1490 6), .int 0, .int (-1), .int 0, .int 0, .int 0, .int 0])), (u1490 0, .inl (cyI, 6, .inl (fun _ => 0))), (u1490 1, .inl (cyI, 8, .inl (fun _ => 0))), (u1490 2, .inl (cyI, 8, .inl (fun _ => 0))), (u1490 3, .inl (cyI, 328, .inl (fun _ => 0))), (u1490 4, .inl (cyI, 328, .inl (fun _ => 0))), (u1490 5, .inl (cyI, 41, .inl (fun _ => 0))), (u1490 6, .inl (cyI, 41, .inl (fun _ => 0)))]
set_option maxHeartbeats 4000000 in
set_option maxRecDepth 100000 in
theorem k_X5_copyFrom_v9 (l : Launch) (dC : Nat → ClassId) (dI : Nat → Nat → Nat) (cyB cyI cyJ cyZ cyO : ClassId) (ad : Nat → Nat) (sd : Nat → Nat) (q1474 : Nat) (u1490 : Nat → Nat) (sz : Nat) : Met l yX5_copyFrom wq_k_X5_copyFrom_v9 ({ frames := 1, cells := 0, slots := 0, locals := 80 }) (va_Pc [.ref q1474, .ref (ad 9)] (cB (dC, dI) (kT cyB cyI cyJ cyZ cyO) (wc_k_X5_copyFrom_v9 cyB cyI cyJ cyZ cyO ad sd q1474 u1490) sz)) (va_Qv (fun _ => True) (fun (u : Unit) t => cE (dC, dI) (va_A (wc_k_X5_copyFrom_v9 cyB cyI cyJ cyZ cyO ad sd q1474 u1490) sz) ([(ad 9, .inr (5, [.ref (sd 0), .ref (sd 1), .ref (sd 2), .ref (sd 3), .ref (sd 4), .ref (sd 5), .ref (sd 6), .int 0, .int (-1), .int 0, .int 0, .int 0, .int 0])), (sd 0, .inl (cyI, 6, .inl (fun _ => 0))), (sd 1, .inl (cyI, 8, .inl (fun _ => 0))), (sd 2, .inl (cyI, 8, .inl (fun _ => 0))), (sd 3, .inl (cyI, 328, .inl (fun _ => 0))), (sd 4, .inl (cyI, 328, .inl (fun _ => 0))), (sd 5, .inl (cyI, 41, .inl (fun _ => 0))), (sd 6, .inl (cyI, 41, .inl (fun _ => 0))), (q1474, .inr (5, [.ref (u1490 0), .ref (u1490 1), .ref (u1490 2), .ref (u1490 3), .ref (u1490 4), .ref (u1490 5), .ref (u1490 6), .int 0, .int (-1), .int 0, .int 0, .int 0, .int 0])), (u1490 0, .inl (cyI, 6, .inl (fun _ => 0))), (u1490 1, .inl (cyI, 8, .inl (fun _ => 0))), (u1490 2, .inl (cyI, 8, .inl (fun _ => 0))), (u1490 3, .inl (cyI, 328, .inl (fun _ => 0))), (u1490 4, .inl (cyI, 328, .inl (fun _ => 0))), (u1490 5, .inl (cyI, 41, .inl (fun _ => 0))), (u1490 6, .inl (cyI, 41, .inl (fun _ => 0)))]) t.heap) (va_A (wc_k_X5_copyFrom_v9 cyB cyI cyJ cyZ cyO ad sd q1474 u1490) sz)) 0 0 (va_A (wc_k_X5_copyFrom_v9 cyB cyI cyJ cyZ cyO ad sd q1474 u1490) sz) := by
  refine Met.ofW (cc := cX5_copyFrom) (maxL := 2) (ret := none) (by decide) rfl ?_
  intro p e s m args below meth c s₁ B hml hv
  obtain ⟨rfl, hsz, hP, hKN, hD0⟩ := hv
  have hx := B.exec
  have hb := B.bytes
  have hr := B.returns
  have hts := atoms_spec (ws := wq_k_X5_copyFrom_v9) B.pre
  have hown : s.vm.findClass RX5 = some m.cls := findClass_of_methodNamed B.named
  have hlocks := B.notSynchronized
  have hK := hKN.1
  have hfix : CallFix p m c cX5_copyFrom 2 s [.ref q1474, .ref (ad 9)].toArray wq_k_X5_copyFrom_v9 RX5 := ⟨hx, hb, hml, hown, hts⟩
  have hi5 : ∀ w ∈ wsX50, w ∈ wq_k_X5_copyFrom_v9 := (sb_c sb_l)
  subst hsz
  have hD := hD0.self (sz := s.heap.size)
  generalize hAe : va_A (wc_k_X5_copyFrom_v9 cyB cyI cyJ cyZ cyO ad sd q1474 u1490) s.heap.size = A at hD ⊢
  have hA : ∀ q : Nat, s.heap.size ≤ q → A q := fun q h => by rw [← hAe]; exact Or.inr h
  have hS : va_S A s.heap s.heap [] := va_S.rf
  have hl := lv_entry ([.ref q1474, .ref (ad 9)]) (n := 2) (Nat.le_of_ble_eq_true rfl)
  rw [lg_entry_eq]
  generalize (lg_sl ([.ref q1474, .ref (ad 9)]) ++ List.replicate (2 - (lg_sl ([.ref q1474, .ref (ad 9)])).length) Slot.unset).toArray = ls at hl ⊢
  have hl : lv_has ls 2 [(0, .ref q1474), (1, .ref (ad 9))] := hl
  refine lv_aload_n hx hb dX5_copyFrom_0 rfl (lv_at hl 1 rfl) ?_
  refine va_get (D := (dC, dI)) (ci := 5) (v := .ref (sd 0)) (C := RX5) (T := TX5) (N := 13) hx hb hts hi5 hown hK hP 0 rfl rfl 0 (by decide) (hts _ (ow_m (k := 0) rfl)) (fun _ h9 => h9) rfl dX5_copyFrom_1 ?_
  refine lv_iconst (v := 0) hx hb dX5_copyFrom_4 (by decide) ?_
  refine lv_aload_n hx hb dX5_copyFrom_5 rfl (lv_at hl 0 rfl) ?_
  refine va_get (D := (dC, dI)) (ci := 5) (v := .ref (u1490 0)) (C := RX5) (T := TX5) (N := 13) hx hb hts hi5 hown hK hP 8 rfl rfl 0 (by decide) (hts _ (ow_m (k := 0) rfl)) (fun _ h9 => h9) rfl dX5_copyFrom_6 ?_
  refine lv_iconst (v := 0) hx hb dX5_copyFrom_9 (by decide) ?_
  refine lv_aload_n hx hb dX5_copyFrom_10 rfl (lv_at hl 0 rfl) ?_
  refine va_get (D := (dC, dI)) (ci := 5) (v := .ref (u1490 0)) (C := RX5) (T := TX5) (N := 13) hx hb hts hi5 hown hK hP 8 rfl rfl 0 (by decide) (hts _ (ow_m (k := 0) rfl)) (fun _ h9 => h9) rfl dX5_copyFrom_11 ?_
  refine va_alen (v := 6) hx hb hK hP 9 1 rfl rfl rfl dX5_copyFrom_14 ?_
  refine va_copyi hx hb (hml.trans hl.1.symm) hown (hts _ (ow_m (k := 1) rfl)) (hts _ (ow_m (k := 2) rfl)) (hts _ (ow_m (k := 3) rfl)) (hts _ (ow_m (k := 4) rfl)) hK hP hD hS 1 9 1 1 rfl rfl rfl rfl rfl (by decide) (by decide) (by decide) (by decide) (by decide) (fun _ _ => rfl) (Nat.le_of_ble_eq_true rfl) (Nat.le_of_ble_eq_true rfl) dX5_copyFrom_15 (fun H locs hP hD hS => ?_)
  have hP : va_P (dC, dI) vwCl [(ad 9, .inr (5, [.ref (sd 0), .ref (sd 1), .ref (sd 2), .ref (sd 3), .ref (sd 4), .ref (sd 5), .ref (sd 6), .int 0, .int (-1), .int 0, .int 0, .int 0, .int 0])), (sd 0, .inl (cyI, 6, .inl (fun _ => 0))), (sd 1, .inl (cyI, 8, .inl (fun _ => 0))), (sd 2, .inl (cyI, 8, .inl (fun _ => 0))), (sd 3, .inl (cyI, 328, .inl (fun _ => 0))), (sd 4, .inl (cyI, 328, .inl (fun _ => 0))), (sd 5, .inl (cyI, 41, .inl (fun _ => 0))), (sd 6, .inl (cyI, 41, .inl (fun _ => 0))), (q1474, .inr (5, [.ref (u1490 0), .ref (u1490 1), .ref (u1490 2), .ref (u1490 3), .ref (u1490 4), .ref (u1490 5), .ref (u1490 6), .int 0, .int (-1), .int 0, .int 0, .int 0, .int 0])), (u1490 0, .inl (cyI, 6, .inl (va_cpy (fun _ => 0) (fun _ => 0) 0 0 6))), (u1490 1, .inl (cyI, 8, .inl (fun _ => 0))), (u1490 2, .inl (cyI, 8, .inl (fun _ => 0))), (u1490 3, .inl (cyI, 328, .inl (fun _ => 0))), (u1490 4, .inl (cyI, 328, .inl (fun _ => 0))), (u1490 5, .inl (cyI, 41, .inl (fun _ => 0))), (u1490 6, .inl (cyI, 41, .inl (fun _ => 0)))] H := hP
  have hD : va_D A [(ad 9, .inr (5, [.ref (sd 0), .ref (sd 1), .ref (sd 2), .ref (sd 3), .ref (sd 4), .ref (sd 5), .ref (sd 6), .int 0, .int (-1), .int 0, .int 0, .int 0, .int 0])), (sd 0, .inl (cyI, 6, .inl (fun _ => 0))), (sd 1, .inl (cyI, 8, .inl (fun _ => 0))), (sd 2, .inl (cyI, 8, .inl (fun _ => 0))), (sd 3, .inl (cyI, 328, .inl (fun _ => 0))), (sd 4, .inl (cyI, 328, .inl (fun _ => 0))), (sd 5, .inl (cyI, 41, .inl (fun _ => 0))), (sd 6, .inl (cyI, 41, .inl (fun _ => 0))), (q1474, .inr (5, [.ref (u1490 0), .ref (u1490 1), .ref (u1490 2), .ref (u1490 3), .ref (u1490 4), .ref (u1490 5), .ref (u1490 6), .int 0, .int (-1), .int 0, .int 0, .int 0, .int 0])), (u1490 0, .inl (cyI, 6, .inl (va_cpy (fun _ => 0) (fun _ => 0) 0 0 6))), (u1490 1, .inl (cyI, 8, .inl (fun _ => 0))), (u1490 2, .inl (cyI, 8, .inl (fun _ => 0))), (u1490 3, .inl (cyI, 328, .inl (fun _ => 0))), (u1490 4, .inl (cyI, 328, .inl (fun _ => 0))), (u1490 5, .inl (cyI, 41, .inl (fun _ => 0))), (u1490 6, .inl (cyI, 41, .inl (fun _ => 0)))] := hD
  rw [cpy_z] at hP hD
  refine lv_aload_n hx hb dX5_copyFrom_18 rfl (lv_at hl 1 rfl) ?_
  refine va_get (D := (dC, dI)) (ci := 5) (v := .ref (sd 1)) (C := RX5) (T := TX5) (N := 13) hx hb hts hi5 hown hK hP 0 rfl rfl 1 (by decide) (hts _ (ow_m (k := 5) rfl)) (fun _ h9 => h9) rfl dX5_copyFrom_19 ?_
  refine lv_iconst (v := 0) hx hb dX5_copyFrom_22 (by decide) ?_
  refine lv_aload_n hx hb dX5_copyFrom_23 rfl (lv_at hl 0 rfl) ?_
  refine va_get (D := (dC, dI)) (ci := 5) (v := .ref (u1490 1)) (C := RX5) (T := TX5) (N := 13) hx hb hts hi5 hown hK hP 8 rfl rfl 1 (by decide) (hts _ (ow_m (k := 5) rfl)) (fun _ h9 => h9) rfl dX5_copyFrom_24 ?_
  refine lv_iconst (v := 0) hx hb dX5_copyFrom_27 (by decide) ?_
  refine lv_aload_n hx hb dX5_copyFrom_28 rfl (lv_at hl 0 rfl) ?_
  refine va_get (D := (dC, dI)) (ci := 5) (v := .ref (u1490 1)) (C := RX5) (T := TX5) (N := 13) hx hb hts hi5 hown hK hP 8 rfl rfl 1 (by decide) (hts _ (ow_m (k := 5) rfl)) (fun _ h9 => h9) rfl dX5_copyFrom_29 ?_
  refine va_alen (v := 8) hx hb hK hP 10 1 rfl rfl rfl dX5_copyFrom_32 ?_
  refine va_copyi hx hb (hml.trans hl.1.symm) hown (hts _ (ow_m (k := 1) rfl)) (hts _ (ow_m (k := 2) rfl)) (hts _ (ow_m (k := 3) rfl)) (hts _ (ow_m (k := 4) rfl)) hK hP hD hS 2 10 1 1 rfl rfl rfl rfl rfl (by decide) (by decide) (by decide) (by decide) (by decide) (fun _ _ => rfl) (Nat.le_of_ble_eq_true rfl) (Nat.le_of_ble_eq_true rfl) dX5_copyFrom_33 (fun H locs hP hD hS => ?_)
  have hP : va_P (dC, dI) vwCl [(ad 9, .inr (5, [.ref (sd 0), .ref (sd 1), .ref (sd 2), .ref (sd 3), .ref (sd 4), .ref (sd 5), .ref (sd 6), .int 0, .int (-1), .int 0, .int 0, .int 0, .int 0])), (sd 0, .inl (cyI, 6, .inl (fun _ => 0))), (sd 1, .inl (cyI, 8, .inl (fun _ => 0))), (sd 2, .inl (cyI, 8, .inl (fun _ => 0))), (sd 3, .inl (cyI, 328, .inl (fun _ => 0))), (sd 4, .inl (cyI, 328, .inl (fun _ => 0))), (sd 5, .inl (cyI, 41, .inl (fun _ => 0))), (sd 6, .inl (cyI, 41, .inl (fun _ => 0))), (q1474, .inr (5, [.ref (u1490 0), .ref (u1490 1), .ref (u1490 2), .ref (u1490 3), .ref (u1490 4), .ref (u1490 5), .ref (u1490 6), .int 0, .int (-1), .int 0, .int 0, .int 0, .int 0])), (u1490 0, .inl (cyI, 6, .inl (fun _ => 0))), (u1490 1, .inl (cyI, 8, .inl (va_cpy (fun _ => 0) (fun _ => 0) 0 0 8))), (u1490 2, .inl (cyI, 8, .inl (fun _ => 0))), (u1490 3, .inl (cyI, 328, .inl (fun _ => 0))), (u1490 4, .inl (cyI, 328, .inl (fun _ => 0))), (u1490 5, .inl (cyI, 41, .inl (fun _ => 0))), (u1490 6, .inl (cyI, 41, .inl (fun _ => 0)))] H := hP
  have hD : va_D A [(ad 9, .inr (5, [.ref (sd 0), .ref (sd 1), .ref (sd 2), .ref (sd 3), .ref (sd 4), .ref (sd 5), .ref (sd 6), .int 0, .int (-1), .int 0, .int 0, .int 0, .int 0])), (sd 0, .inl (cyI, 6, .inl (fun _ => 0))), (sd 1, .inl (cyI, 8, .inl (fun _ => 0))), (sd 2, .inl (cyI, 8, .inl (fun _ => 0))), (sd 3, .inl (cyI, 328, .inl (fun _ => 0))), (sd 4, .inl (cyI, 328, .inl (fun _ => 0))), (sd 5, .inl (cyI, 41, .inl (fun _ => 0))), (sd 6, .inl (cyI, 41, .inl (fun _ => 0))), (q1474, .inr (5, [.ref (u1490 0), .ref (u1490 1), .ref (u1490 2), .ref (u1490 3), .ref (u1490 4), .ref (u1490 5), .ref (u1490 6), .int 0, .int (-1), .int 0, .int 0, .int 0, .int 0])), (u1490 0, .inl (cyI, 6, .inl (fun _ => 0))), (u1490 1, .inl (cyI, 8, .inl (va_cpy (fun _ => 0) (fun _ => 0) 0 0 8))), (u1490 2, .inl (cyI, 8, .inl (fun _ => 0))), (u1490 3, .inl (cyI, 328, .inl (fun _ => 0))), (u1490 4, .inl (cyI, 328, .inl (fun _ => 0))), (u1490 5, .inl (cyI, 41, .inl (fun _ => 0))), (u1490 6, .inl (cyI, 41, .inl (fun _ => 0)))] := hD
  rw [cpy_z] at hP hD
  refine lv_aload_n hx hb dX5_copyFrom_36 rfl (lv_at hl 1 rfl) ?_
  refine va_get (D := (dC, dI)) (ci := 5) (v := .ref (sd 2)) (C := RX5) (T := TX5) (N := 13) hx hb hts hi5 hown hK hP 0 rfl rfl 2 (by decide) (hts _ (ow_m (k := 6) rfl)) (fun _ h9 => h9) rfl dX5_copyFrom_37 ?_
  refine lv_iconst (v := 0) hx hb dX5_copyFrom_40 (by decide) ?_
  refine lv_aload_n hx hb dX5_copyFrom_41 rfl (lv_at hl 0 rfl) ?_
  refine va_get (D := (dC, dI)) (ci := 5) (v := .ref (u1490 2)) (C := RX5) (T := TX5) (N := 13) hx hb hts hi5 hown hK hP 8 rfl rfl 2 (by decide) (hts _ (ow_m (k := 6) rfl)) (fun _ h9 => h9) rfl dX5_copyFrom_42 ?_
  refine lv_iconst (v := 0) hx hb dX5_copyFrom_45 (by decide) ?_
  refine lv_aload_n hx hb dX5_copyFrom_46 rfl (lv_at hl 0 rfl) ?_
  refine va_get (D := (dC, dI)) (ci := 5) (v := .ref (u1490 2)) (C := RX5) (T := TX5) (N := 13) hx hb hts hi5 hown hK hP 8 rfl rfl 2 (by decide) (hts _ (ow_m (k := 6) rfl)) (fun _ h9 => h9) rfl dX5_copyFrom_47 ?_
  refine va_alen (v := 8) hx hb hK hP 11 1 rfl rfl rfl dX5_copyFrom_50 ?_
  refine va_copyi hx hb (hml.trans hl.1.symm) hown (hts _ (ow_m (k := 1) rfl)) (hts _ (ow_m (k := 2) rfl)) (hts _ (ow_m (k := 3) rfl)) (hts _ (ow_m (k := 4) rfl)) hK hP hD hS 3 11 1 1 rfl rfl rfl rfl rfl (by decide) (by decide) (by decide) (by decide) (by decide) (fun _ _ => rfl) (Nat.le_of_ble_eq_true rfl) (Nat.le_of_ble_eq_true rfl) dX5_copyFrom_51 (fun H locs hP hD hS => ?_)
  have hP : va_P (dC, dI) vwCl [(ad 9, .inr (5, [.ref (sd 0), .ref (sd 1), .ref (sd 2), .ref (sd 3), .ref (sd 4), .ref (sd 5), .ref (sd 6), .int 0, .int (-1), .int 0, .int 0, .int 0, .int 0])), (sd 0, .inl (cyI, 6, .inl (fun _ => 0))), (sd 1, .inl (cyI, 8, .inl (fun _ => 0))), (sd 2, .inl (cyI, 8, .inl (fun _ => 0))), (sd 3, .inl (cyI, 328, .inl (fun _ => 0))), (sd 4, .inl (cyI, 328, .inl (fun _ => 0))), (sd 5, .inl (cyI, 41, .inl (fun _ => 0))), (sd 6, .inl (cyI, 41, .inl (fun _ => 0))), (q1474, .inr (5, [.ref (u1490 0), .ref (u1490 1), .ref (u1490 2), .ref (u1490 3), .ref (u1490 4), .ref (u1490 5), .ref (u1490 6), .int 0, .int (-1), .int 0, .int 0, .int 0, .int 0])), (u1490 0, .inl (cyI, 6, .inl (fun _ => 0))), (u1490 1, .inl (cyI, 8, .inl (fun _ => 0))), (u1490 2, .inl (cyI, 8, .inl (va_cpy (fun _ => 0) (fun _ => 0) 0 0 8))), (u1490 3, .inl (cyI, 328, .inl (fun _ => 0))), (u1490 4, .inl (cyI, 328, .inl (fun _ => 0))), (u1490 5, .inl (cyI, 41, .inl (fun _ => 0))), (u1490 6, .inl (cyI, 41, .inl (fun _ => 0)))] H := hP
  have hD : va_D A [(ad 9, .inr (5, [.ref (sd 0), .ref (sd 1), .ref (sd 2), .ref (sd 3), .ref (sd 4), .ref (sd 5), .ref (sd 6), .int 0, .int (-1), .int 0, .int 0, .int 0, .int 0])), (sd 0, .inl (cyI, 6, .inl (fun _ => 0))), (sd 1, .inl (cyI, 8, .inl (fun _ => 0))), (sd 2, .inl (cyI, 8, .inl (fun _ => 0))), (sd 3, .inl (cyI, 328, .inl (fun _ => 0))), (sd 4, .inl (cyI, 328, .inl (fun _ => 0))), (sd 5, .inl (cyI, 41, .inl (fun _ => 0))), (sd 6, .inl (cyI, 41, .inl (fun _ => 0))), (q1474, .inr (5, [.ref (u1490 0), .ref (u1490 1), .ref (u1490 2), .ref (u1490 3), .ref (u1490 4), .ref (u1490 5), .ref (u1490 6), .int 0, .int (-1), .int 0, .int 0, .int 0, .int 0])), (u1490 0, .inl (cyI, 6, .inl (fun _ => 0))), (u1490 1, .inl (cyI, 8, .inl (fun _ => 0))), (u1490 2, .inl (cyI, 8, .inl (va_cpy (fun _ => 0) (fun _ => 0) 0 0 8))), (u1490 3, .inl (cyI, 328, .inl (fun _ => 0))), (u1490 4, .inl (cyI, 328, .inl (fun _ => 0))), (u1490 5, .inl (cyI, 41, .inl (fun _ => 0))), (u1490 6, .inl (cyI, 41, .inl (fun _ => 0)))] := hD
  rw [cpy_z] at hP hD
  refine lv_aload_n hx hb dX5_copyFrom_54 rfl (lv_at hl 1 rfl) ?_
  refine va_get (D := (dC, dI)) (ci := 5) (v := .ref (sd 3)) (C := RX5) (T := TX5) (N := 13) hx hb hts hi5 hown hK hP 0 rfl rfl 3 (by decide) (hts _ (ow_m (k := 7) rfl)) (fun _ h9 => h9) rfl dX5_copyFrom_55 ?_
  refine lv_iconst (v := 0) hx hb dX5_copyFrom_58 (by decide) ?_
  refine lv_aload_n hx hb dX5_copyFrom_59 rfl (lv_at hl 0 rfl) ?_
  refine va_get (D := (dC, dI)) (ci := 5) (v := .ref (u1490 3)) (C := RX5) (T := TX5) (N := 13) hx hb hts hi5 hown hK hP 8 rfl rfl 3 (by decide) (hts _ (ow_m (k := 7) rfl)) (fun _ h9 => h9) rfl dX5_copyFrom_60 ?_
  refine lv_iconst (v := 0) hx hb dX5_copyFrom_63 (by decide) ?_
  refine lv_aload_n hx hb dX5_copyFrom_64 rfl (lv_at hl 0 rfl) ?_
  refine va_get (D := (dC, dI)) (ci := 5) (v := .ref (u1490 3)) (C := RX5) (T := TX5) (N := 13) hx hb hts hi5 hown hK hP 8 rfl rfl 3 (by decide) (hts _ (ow_m (k := 7) rfl)) (fun _ h9 => h9) rfl dX5_copyFrom_65 ?_
  refine va_alen (v := 328) hx hb hK hP 12 1 rfl rfl rfl dX5_copyFrom_68 ?_
  refine va_copyi hx hb (hml.trans hl.1.symm) hown (hts _ (ow_m (k := 1) rfl)) (hts _ (ow_m (k := 2) rfl)) (hts _ (ow_m (k := 3) rfl)) (hts _ (ow_m (k := 4) rfl)) hK hP hD hS 4 12 1 1 rfl rfl rfl rfl rfl (by decide) (by decide) (by decide) (by decide) (by decide) (fun _ _ => rfl) (Nat.le_of_ble_eq_true rfl) (Nat.le_of_ble_eq_true rfl) dX5_copyFrom_69 (fun H locs hP hD hS => ?_)
  have hP : va_P (dC, dI) vwCl [(ad 9, .inr (5, [.ref (sd 0), .ref (sd 1), .ref (sd 2), .ref (sd 3), .ref (sd 4), .ref (sd 5), .ref (sd 6), .int 0, .int (-1), .int 0, .int 0, .int 0, .int 0])), (sd 0, .inl (cyI, 6, .inl (fun _ => 0))), (sd 1, .inl (cyI, 8, .inl (fun _ => 0))), (sd 2, .inl (cyI, 8, .inl (fun _ => 0))), (sd 3, .inl (cyI, 328, .inl (fun _ => 0))), (sd 4, .inl (cyI, 328, .inl (fun _ => 0))), (sd 5, .inl (cyI, 41, .inl (fun _ => 0))), (sd 6, .inl (cyI, 41, .inl (fun _ => 0))), (q1474, .inr (5, [.ref (u1490 0), .ref (u1490 1), .ref (u1490 2), .ref (u1490 3), .ref (u1490 4), .ref (u1490 5), .ref (u1490 6), .int 0, .int (-1), .int 0, .int 0, .int 0, .int 0])), (u1490 0, .inl (cyI, 6, .inl (fun _ => 0))), (u1490 1, .inl (cyI, 8, .inl (fun _ => 0))), (u1490 2, .inl (cyI, 8, .inl (fun _ => 0))), (u1490 3, .inl (cyI, 328, .inl (va_cpy (fun _ => 0) (fun _ => 0) 0 0 328))), (u1490 4, .inl (cyI, 328, .inl (fun _ => 0))), (u1490 5, .inl (cyI, 41, .inl (fun _ => 0))), (u1490 6, .inl (cyI, 41, .inl (fun _ => 0)))] H := hP
  have hD : va_D A [(ad 9, .inr (5, [.ref (sd 0), .ref (sd 1), .ref (sd 2), .ref (sd 3), .ref (sd 4), .ref (sd 5), .ref (sd 6), .int 0, .int (-1), .int 0, .int 0, .int 0, .int 0])), (sd 0, .inl (cyI, 6, .inl (fun _ => 0))), (sd 1, .inl (cyI, 8, .inl (fun _ => 0))), (sd 2, .inl (cyI, 8, .inl (fun _ => 0))), (sd 3, .inl (cyI, 328, .inl (fun _ => 0))), (sd 4, .inl (cyI, 328, .inl (fun _ => 0))), (sd 5, .inl (cyI, 41, .inl (fun _ => 0))), (sd 6, .inl (cyI, 41, .inl (fun _ => 0))), (q1474, .inr (5, [.ref (u1490 0), .ref (u1490 1), .ref (u1490 2), .ref (u1490 3), .ref (u1490 4), .ref (u1490 5), .ref (u1490 6), .int 0, .int (-1), .int 0, .int 0, .int 0, .int 0])), (u1490 0, .inl (cyI, 6, .inl (fun _ => 0))), (u1490 1, .inl (cyI, 8, .inl (fun _ => 0))), (u1490 2, .inl (cyI, 8, .inl (fun _ => 0))), (u1490 3, .inl (cyI, 328, .inl (va_cpy (fun _ => 0) (fun _ => 0) 0 0 328))), (u1490 4, .inl (cyI, 328, .inl (fun _ => 0))), (u1490 5, .inl (cyI, 41, .inl (fun _ => 0))), (u1490 6, .inl (cyI, 41, .inl (fun _ => 0)))] := hD
  rw [cpy_z] at hP hD
  refine lv_aload_n hx hb dX5_copyFrom_72 rfl (lv_at hl 1 rfl) ?_
  refine va_get (D := (dC, dI)) (ci := 5) (v := .ref (sd 4)) (C := RX5) (T := TX5) (N := 13) hx hb hts hi5 hown hK hP 0 rfl rfl 4 (by decide) (hts _ (ow_m (k := 8) rfl)) (fun _ h9 => h9) rfl dX5_copyFrom_73 ?_
  refine lv_iconst (v := 0) hx hb dX5_copyFrom_76 (by decide) ?_
  refine lv_aload_n hx hb dX5_copyFrom_77 rfl (lv_at hl 0 rfl) ?_
  refine va_get (D := (dC, dI)) (ci := 5) (v := .ref (u1490 4)) (C := RX5) (T := TX5) (N := 13) hx hb hts hi5 hown hK hP 8 rfl rfl 4 (by decide) (hts _ (ow_m (k := 8) rfl)) (fun _ h9 => h9) rfl dX5_copyFrom_78 ?_
  refine lv_iconst (v := 0) hx hb dX5_copyFrom_81 (by decide) ?_
  refine lv_aload_n hx hb dX5_copyFrom_82 rfl (lv_at hl 0 rfl) ?_
  refine va_get (D := (dC, dI)) (ci := 5) (v := .ref (u1490 4)) (C := RX5) (T := TX5) (N := 13) hx hb hts hi5 hown hK hP 8 rfl rfl 4 (by decide) (hts _ (ow_m (k := 8) rfl)) (fun _ h9 => h9) rfl dX5_copyFrom_83 ?_
  refine va_alen (v := 328) hx hb hK hP 13 1 rfl rfl rfl dX5_copyFrom_86 ?_
  refine va_copyi hx hb (hml.trans hl.1.symm) hown (hts _ (ow_m (k := 1) rfl)) (hts _ (ow_m (k := 2) rfl)) (hts _ (ow_m (k := 3) rfl)) (hts _ (ow_m (k := 4) rfl)) hK hP hD hS 5 13 1 1 rfl rfl rfl rfl rfl (by decide) (by decide) (by decide) (by decide) (by decide) (fun _ _ => rfl) (Nat.le_of_ble_eq_true rfl) (Nat.le_of_ble_eq_true rfl) dX5_copyFrom_87 (fun H locs hP hD hS => ?_)
  have hP : va_P (dC, dI) vwCl [(ad 9, .inr (5, [.ref (sd 0), .ref (sd 1), .ref (sd 2), .ref (sd 3), .ref (sd 4), .ref (sd 5), .ref (sd 6), .int 0, .int (-1), .int 0, .int 0, .int 0, .int 0])), (sd 0, .inl (cyI, 6, .inl (fun _ => 0))), (sd 1, .inl (cyI, 8, .inl (fun _ => 0))), (sd 2, .inl (cyI, 8, .inl (fun _ => 0))), (sd 3, .inl (cyI, 328, .inl (fun _ => 0))), (sd 4, .inl (cyI, 328, .inl (fun _ => 0))), (sd 5, .inl (cyI, 41, .inl (fun _ => 0))), (sd 6, .inl (cyI, 41, .inl (fun _ => 0))), (q1474, .inr (5, [.ref (u1490 0), .ref (u1490 1), .ref (u1490 2), .ref (u1490 3), .ref (u1490 4), .ref (u1490 5), .ref (u1490 6), .int 0, .int (-1), .int 0, .int 0, .int 0, .int 0])), (u1490 0, .inl (cyI, 6, .inl (fun _ => 0))), (u1490 1, .inl (cyI, 8, .inl (fun _ => 0))), (u1490 2, .inl (cyI, 8, .inl (fun _ => 0))), (u1490 3, .inl (cyI, 328, .inl (fun _ => 0))), (u1490 4, .inl (cyI, 328, .inl (va_cpy (fun _ => 0) (fun _ => 0) 0 0 328))), (u1490 5, .inl (cyI, 41, .inl (fun _ => 0))), (u1490 6, .inl (cyI, 41, .inl (fun _ => 0)))] H := hP
  have hD : va_D A [(ad 9, .inr (5, [.ref (sd 0), .ref (sd 1), .ref (sd 2), .ref (sd 3), .ref (sd 4), .ref (sd 5), .ref (sd 6), .int 0, .int (-1), .int 0, .int 0, .int 0, .int 0])), (sd 0, .inl (cyI, 6, .inl (fun _ => 0))), (sd 1, .inl (cyI, 8, .inl (fun _ => 0))), (sd 2, .inl (cyI, 8, .inl (fun _ => 0))), (sd 3, .inl (cyI, 328, .inl (fun _ => 0))), (sd 4, .inl (cyI, 328, .inl (fun _ => 0))), (sd 5, .inl (cyI, 41, .inl (fun _ => 0))), (sd 6, .inl (cyI, 41, .inl (fun _ => 0))), (q1474, .inr (5, [.ref (u1490 0), .ref (u1490 1), .ref (u1490 2), .ref (u1490 3), .ref (u1490 4), .ref (u1490 5), .ref (u1490 6), .int 0, .int (-1), .int 0, .int 0, .int 0, .int 0])), (u1490 0, .inl (cyI, 6, .inl (fun _ => 0))), (u1490 1, .inl (cyI, 8, .inl (fun _ => 0))), (u1490 2, .inl (cyI, 8, .inl (fun _ => 0))), (u1490 3, .inl (cyI, 328, .inl (fun _ => 0))), (u1490 4, .inl (cyI, 328, .inl (va_cpy (fun _ => 0) (fun _ => 0) 0 0 328))), (u1490 5, .inl (cyI, 41, .inl (fun _ => 0))), (u1490 6, .inl (cyI, 41, .inl (fun _ => 0)))] := hD
  rw [cpy_z] at hP hD
  refine lv_aload_n hx hb dX5_copyFrom_90 rfl (lv_at hl 1 rfl) ?_
  refine va_get (D := (dC, dI)) (ci := 5) (v := .ref (sd 5)) (C := RX5) (T := TX5) (N := 13) hx hb hts hi5 hown hK hP 0 rfl rfl 5 (by decide) (hts _ (ow_m (k := 9) rfl)) (fun _ h9 => h9) rfl dX5_copyFrom_91 ?_
  refine lv_iconst (v := 0) hx hb dX5_copyFrom_94 (by decide) ?_
  refine lv_aload_n hx hb dX5_copyFrom_95 rfl (lv_at hl 0 rfl) ?_
  refine va_get (D := (dC, dI)) (ci := 5) (v := .ref (u1490 5)) (C := RX5) (T := TX5) (N := 13) hx hb hts hi5 hown hK hP 8 rfl rfl 5 (by decide) (hts _ (ow_m (k := 9) rfl)) (fun _ h9 => h9) rfl dX5_copyFrom_96 ?_
  refine lv_iconst (v := 0) hx hb dX5_copyFrom_99 (by decide) ?_
  refine lv_aload_n hx hb dX5_copyFrom_100 rfl (lv_at hl 0 rfl) ?_
  refine va_get (D := (dC, dI)) (ci := 5) (v := .ref (u1490 5)) (C := RX5) (T := TX5) (N := 13) hx hb hts hi5 hown hK hP 8 rfl rfl 5 (by decide) (hts _ (ow_m (k := 9) rfl)) (fun _ h9 => h9) rfl dX5_copyFrom_101 ?_
  refine va_alen (v := 41) hx hb hK hP 14 1 rfl rfl rfl dX5_copyFrom_104 ?_
  refine va_copyi hx hb (hml.trans hl.1.symm) hown (hts _ (ow_m (k := 1) rfl)) (hts _ (ow_m (k := 2) rfl)) (hts _ (ow_m (k := 3) rfl)) (hts _ (ow_m (k := 4) rfl)) hK hP hD hS 6 14 1 1 rfl rfl rfl rfl rfl (by decide) (by decide) (by decide) (by decide) (by decide) (fun _ _ => rfl) (Nat.le_of_ble_eq_true rfl) (Nat.le_of_ble_eq_true rfl) dX5_copyFrom_105 (fun H locs hP hD hS => ?_)
  have hP : va_P (dC, dI) vwCl [(ad 9, .inr (5, [.ref (sd 0), .ref (sd 1), .ref (sd 2), .ref (sd 3), .ref (sd 4), .ref (sd 5), .ref (sd 6), .int 0, .int (-1), .int 0, .int 0, .int 0, .int 0])), (sd 0, .inl (cyI, 6, .inl (fun _ => 0))), (sd 1, .inl (cyI, 8, .inl (fun _ => 0))), (sd 2, .inl (cyI, 8, .inl (fun _ => 0))), (sd 3, .inl (cyI, 328, .inl (fun _ => 0))), (sd 4, .inl (cyI, 328, .inl (fun _ => 0))), (sd 5, .inl (cyI, 41, .inl (fun _ => 0))), (sd 6, .inl (cyI, 41, .inl (fun _ => 0))), (q1474, .inr (5, [.ref (u1490 0), .ref (u1490 1), .ref (u1490 2), .ref (u1490 3), .ref (u1490 4), .ref (u1490 5), .ref (u1490 6), .int 0, .int (-1), .int 0, .int 0, .int 0, .int 0])), (u1490 0, .inl (cyI, 6, .inl (fun _ => 0))), (u1490 1, .inl (cyI, 8, .inl (fun _ => 0))), (u1490 2, .inl (cyI, 8, .inl (fun _ => 0))), (u1490 3, .inl (cyI, 328, .inl (fun _ => 0))), (u1490 4, .inl (cyI, 328, .inl (fun _ => 0))), (u1490 5, .inl (cyI, 41, .inl (va_cpy (fun _ => 0) (fun _ => 0) 0 0 41))), (u1490 6, .inl (cyI, 41, .inl (fun _ => 0)))] H := hP
  have hD : va_D A [(ad 9, .inr (5, [.ref (sd 0), .ref (sd 1), .ref (sd 2), .ref (sd 3), .ref (sd 4), .ref (sd 5), .ref (sd 6), .int 0, .int (-1), .int 0, .int 0, .int 0, .int 0])), (sd 0, .inl (cyI, 6, .inl (fun _ => 0))), (sd 1, .inl (cyI, 8, .inl (fun _ => 0))), (sd 2, .inl (cyI, 8, .inl (fun _ => 0))), (sd 3, .inl (cyI, 328, .inl (fun _ => 0))), (sd 4, .inl (cyI, 328, .inl (fun _ => 0))), (sd 5, .inl (cyI, 41, .inl (fun _ => 0))), (sd 6, .inl (cyI, 41, .inl (fun _ => 0))), (q1474, .inr (5, [.ref (u1490 0), .ref (u1490 1), .ref (u1490 2), .ref (u1490 3), .ref (u1490 4), .ref (u1490 5), .ref (u1490 6), .int 0, .int (-1), .int 0, .int 0, .int 0, .int 0])), (u1490 0, .inl (cyI, 6, .inl (fun _ => 0))), (u1490 1, .inl (cyI, 8, .inl (fun _ => 0))), (u1490 2, .inl (cyI, 8, .inl (fun _ => 0))), (u1490 3, .inl (cyI, 328, .inl (fun _ => 0))), (u1490 4, .inl (cyI, 328, .inl (fun _ => 0))), (u1490 5, .inl (cyI, 41, .inl (va_cpy (fun _ => 0) (fun _ => 0) 0 0 41))), (u1490 6, .inl (cyI, 41, .inl (fun _ => 0)))] := hD
  rw [cpy_z] at hP hD
  refine lv_aload_n hx hb dX5_copyFrom_108 rfl (lv_at hl 1 rfl) ?_
  refine va_get (D := (dC, dI)) (ci := 5) (v := .ref (sd 6)) (C := RX5) (T := TX5) (N := 13) hx hb hts hi5 hown hK hP 0 rfl rfl 6 (by decide) (hts _ (ow_m (k := 10) rfl)) (fun _ h9 => h9) rfl dX5_copyFrom_109 ?_
  refine lv_iconst (v := 0) hx hb dX5_copyFrom_112 (by decide) ?_
  refine lv_aload_n hx hb dX5_copyFrom_113 rfl (lv_at hl 0 rfl) ?_
  refine va_get (D := (dC, dI)) (ci := 5) (v := .ref (u1490 6)) (C := RX5) (T := TX5) (N := 13) hx hb hts hi5 hown hK hP 8 rfl rfl 6 (by decide) (hts _ (ow_m (k := 10) rfl)) (fun _ h9 => h9) rfl dX5_copyFrom_114 ?_
  refine lv_iconst (v := 0) hx hb dX5_copyFrom_117 (by decide) ?_
  refine lv_aload_n hx hb dX5_copyFrom_118 rfl (lv_at hl 0 rfl) ?_
  refine va_get (D := (dC, dI)) (ci := 5) (v := .ref (u1490 6)) (C := RX5) (T := TX5) (N := 13) hx hb hts hi5 hown hK hP 8 rfl rfl 6 (by decide) (hts _ (ow_m (k := 10) rfl)) (fun _ h9 => h9) rfl dX5_copyFrom_119 ?_
  refine va_alen (v := 41) hx hb hK hP 15 1 rfl rfl rfl dX5_copyFrom_122 ?_
  refine va_copyi hx hb (hml.trans hl.1.symm) hown (hts _ (ow_m (k := 1) rfl)) (hts _ (ow_m (k := 2) rfl)) (hts _ (ow_m (k := 3) rfl)) (hts _ (ow_m (k := 4) rfl)) hK hP hD hS 7 15 1 1 rfl rfl rfl rfl rfl (by decide) (by decide) (by decide) (by decide) (by decide) (fun _ _ => rfl) (Nat.le_of_ble_eq_true rfl) (Nat.le_of_ble_eq_true rfl) dX5_copyFrom_123 (fun H locs hP hD hS => ?_)
  have hP : va_P (dC, dI) vwCl [(ad 9, .inr (5, [.ref (sd 0), .ref (sd 1), .ref (sd 2), .ref (sd 3), .ref (sd 4), .ref (sd 5), .ref (sd 6), .int 0, .int (-1), .int 0, .int 0, .int 0, .int 0])), (sd 0, .inl (cyI, 6, .inl (fun _ => 0))), (sd 1, .inl (cyI, 8, .inl (fun _ => 0))), (sd 2, .inl (cyI, 8, .inl (fun _ => 0))), (sd 3, .inl (cyI, 328, .inl (fun _ => 0))), (sd 4, .inl (cyI, 328, .inl (fun _ => 0))), (sd 5, .inl (cyI, 41, .inl (fun _ => 0))), (sd 6, .inl (cyI, 41, .inl (fun _ => 0))), (q1474, .inr (5, [.ref (u1490 0), .ref (u1490 1), .ref (u1490 2), .ref (u1490 3), .ref (u1490 4), .ref (u1490 5), .ref (u1490 6), .int 0, .int (-1), .int 0, .int 0, .int 0, .int 0])), (u1490 0, .inl (cyI, 6, .inl (fun _ => 0))), (u1490 1, .inl (cyI, 8, .inl (fun _ => 0))), (u1490 2, .inl (cyI, 8, .inl (fun _ => 0))), (u1490 3, .inl (cyI, 328, .inl (fun _ => 0))), (u1490 4, .inl (cyI, 328, .inl (fun _ => 0))), (u1490 5, .inl (cyI, 41, .inl (fun _ => 0))), (u1490 6, .inl (cyI, 41, .inl (va_cpy (fun _ => 0) (fun _ => 0) 0 0 41)))] H := hP
  have hD : va_D A [(ad 9, .inr (5, [.ref (sd 0), .ref (sd 1), .ref (sd 2), .ref (sd 3), .ref (sd 4), .ref (sd 5), .ref (sd 6), .int 0, .int (-1), .int 0, .int 0, .int 0, .int 0])), (sd 0, .inl (cyI, 6, .inl (fun _ => 0))), (sd 1, .inl (cyI, 8, .inl (fun _ => 0))), (sd 2, .inl (cyI, 8, .inl (fun _ => 0))), (sd 3, .inl (cyI, 328, .inl (fun _ => 0))), (sd 4, .inl (cyI, 328, .inl (fun _ => 0))), (sd 5, .inl (cyI, 41, .inl (fun _ => 0))), (sd 6, .inl (cyI, 41, .inl (fun _ => 0))), (q1474, .inr (5, [.ref (u1490 0), .ref (u1490 1), .ref (u1490 2), .ref (u1490 3), .ref (u1490 4), .ref (u1490 5), .ref (u1490 6), .int 0, .int (-1), .int 0, .int 0, .int 0, .int 0])), (u1490 0, .inl (cyI, 6, .inl (fun _ => 0))), (u1490 1, .inl (cyI, 8, .inl (fun _ => 0))), (u1490 2, .inl (cyI, 8, .inl (fun _ => 0))), (u1490 3, .inl (cyI, 328, .inl (fun _ => 0))), (u1490 4, .inl (cyI, 328, .inl (fun _ => 0))), (u1490 5, .inl (cyI, 41, .inl (fun _ => 0))), (u1490 6, .inl (cyI, 41, .inl (va_cpy (fun _ => 0) (fun _ => 0) 0 0 41)))] := hD
  rw [cpy_z] at hP hD
  refine lv_aload_n hx hb dX5_copyFrom_126 rfl (lv_at hl 0 rfl) ?_
  refine lv_aload_n hx hb dX5_copyFrom_127 rfl (lv_at hl 1 rfl) ?_
  refine va_get (D := (dC, dI)) (ci := 5) (v := .int 0) (C := RX5) (T := TX5) (N := 13) hx hb hts hi5 hown hK hP 0 rfl rfl 7 (by decide) (hts _ (ow_m (k := 11) rfl)) (fun _ h9 => h9) rfl dX5_copyFrom_128 ?_
  refine va_put (D := (dC, dI)) (ci := 5) (v := .int 0) (ty := .int) (C := RX5) (T := TX5) (N := 13) hx hb hts hi5 tyX5 tyX5_ok nmX5 hown hK hP hD hS 8 rfl rfl 7 (by decide) (hts _ (ow_m (k := 11) rfl)) (fun _ h9 => h9) rfl (by decide +kernel) rfl rfl (Nat.le_of_ble_eq_true rfl) dX5_copyFrom_131 (fun H locs hP hD hS => ?_)
  have hP : va_P (dC, dI) vwCl [(ad 9, .inr (5, [.ref (sd 0), .ref (sd 1), .ref (sd 2), .ref (sd 3), .ref (sd 4), .ref (sd 5), .ref (sd 6), .int 0, .int (-1), .int 0, .int 0, .int 0, .int 0])), (sd 0, .inl (cyI, 6, .inl (fun _ => 0))), (sd 1, .inl (cyI, 8, .inl (fun _ => 0))), (sd 2, .inl (cyI, 8, .inl (fun _ => 0))), (sd 3, .inl (cyI, 328, .inl (fun _ => 0))), (sd 4, .inl (cyI, 328, .inl (fun _ => 0))), (sd 5, .inl (cyI, 41, .inl (fun _ => 0))), (sd 6, .inl (cyI, 41, .inl (fun _ => 0))), (q1474, .inr (5, [.ref (u1490 0), .ref (u1490 1), .ref (u1490 2), .ref (u1490 3), .ref (u1490 4), .ref (u1490 5), .ref (u1490 6), .int 0, .int (-1), .int 0, .int 0, .int 0, .int 0])), (u1490 0, .inl (cyI, 6, .inl (fun _ => 0))), (u1490 1, .inl (cyI, 8, .inl (fun _ => 0))), (u1490 2, .inl (cyI, 8, .inl (fun _ => 0))), (u1490 3, .inl (cyI, 328, .inl (fun _ => 0))), (u1490 4, .inl (cyI, 328, .inl (fun _ => 0))), (u1490 5, .inl (cyI, 41, .inl (fun _ => 0))), (u1490 6, .inl (cyI, 41, .inl (fun _ => 0)))] H := hP
  have hD : va_D A [(ad 9, .inr (5, [.ref (sd 0), .ref (sd 1), .ref (sd 2), .ref (sd 3), .ref (sd 4), .ref (sd 5), .ref (sd 6), .int 0, .int (-1), .int 0, .int 0, .int 0, .int 0])), (sd 0, .inl (cyI, 6, .inl (fun _ => 0))), (sd 1, .inl (cyI, 8, .inl (fun _ => 0))), (sd 2, .inl (cyI, 8, .inl (fun _ => 0))), (sd 3, .inl (cyI, 328, .inl (fun _ => 0))), (sd 4, .inl (cyI, 328, .inl (fun _ => 0))), (sd 5, .inl (cyI, 41, .inl (fun _ => 0))), (sd 6, .inl (cyI, 41, .inl (fun _ => 0))), (q1474, .inr (5, [.ref (u1490 0), .ref (u1490 1), .ref (u1490 2), .ref (u1490 3), .ref (u1490 4), .ref (u1490 5), .ref (u1490 6), .int 0, .int (-1), .int 0, .int 0, .int 0, .int 0])), (u1490 0, .inl (cyI, 6, .inl (fun _ => 0))), (u1490 1, .inl (cyI, 8, .inl (fun _ => 0))), (u1490 2, .inl (cyI, 8, .inl (fun _ => 0))), (u1490 3, .inl (cyI, 328, .inl (fun _ => 0))), (u1490 4, .inl (cyI, 328, .inl (fun _ => 0))), (u1490 5, .inl (cyI, 41, .inl (fun _ => 0))), (u1490 6, .inl (cyI, 41, .inl (fun _ => 0)))] := hD
  refine lv_aload_n hx hb dX5_copyFrom_134 rfl (lv_at hl 0 rfl) ?_
  refine lv_aload_n hx hb dX5_copyFrom_135 rfl (lv_at hl 1 rfl) ?_
  refine va_get (D := (dC, dI)) (ci := 5) (v := .int (-1)) (C := RX5) (T := TX5) (N := 13) hx hb hts hi5 hown hK hP 0 rfl rfl 8 (by decide) (hts _ (ow_m (k := 12) rfl)) (fun _ h9 => h9) rfl dX5_copyFrom_136 ?_
  refine va_put (D := (dC, dI)) (ci := 5) (v := .int (-1)) (ty := .int) (C := RX5) (T := TX5) (N := 13) hx hb hts hi5 tyX5 tyX5_ok nmX5 hown hK hP hD hS 8 rfl rfl 8 (by decide) (hts _ (ow_m (k := 12) rfl)) (fun _ h9 => h9) rfl (by decide +kernel) rfl rfl (Nat.le_of_ble_eq_true rfl) dX5_copyFrom_139 (fun H locs hP hD hS => ?_)
  have hP : va_P (dC, dI) vwCl [(ad 9, .inr (5, [.ref (sd 0), .ref (sd 1), .ref (sd 2), .ref (sd 3), .ref (sd 4), .ref (sd 5), .ref (sd 6), .int 0, .int (-1), .int 0, .int 0, .int 0, .int 0])), (sd 0, .inl (cyI, 6, .inl (fun _ => 0))), (sd 1, .inl (cyI, 8, .inl (fun _ => 0))), (sd 2, .inl (cyI, 8, .inl (fun _ => 0))), (sd 3, .inl (cyI, 328, .inl (fun _ => 0))), (sd 4, .inl (cyI, 328, .inl (fun _ => 0))), (sd 5, .inl (cyI, 41, .inl (fun _ => 0))), (sd 6, .inl (cyI, 41, .inl (fun _ => 0))), (q1474, .inr (5, [.ref (u1490 0), .ref (u1490 1), .ref (u1490 2), .ref (u1490 3), .ref (u1490 4), .ref (u1490 5), .ref (u1490 6), .int 0, .int (-1), .int 0, .int 0, .int 0, .int 0])), (u1490 0, .inl (cyI, 6, .inl (fun _ => 0))), (u1490 1, .inl (cyI, 8, .inl (fun _ => 0))), (u1490 2, .inl (cyI, 8, .inl (fun _ => 0))), (u1490 3, .inl (cyI, 328, .inl (fun _ => 0))), (u1490 4, .inl (cyI, 328, .inl (fun _ => 0))), (u1490 5, .inl (cyI, 41, .inl (fun _ => 0))), (u1490 6, .inl (cyI, 41, .inl (fun _ => 0)))] H := hP
  have hD : va_D A [(ad 9, .inr (5, [.ref (sd 0), .ref (sd 1), .ref (sd 2), .ref (sd 3), .ref (sd 4), .ref (sd 5), .ref (sd 6), .int 0, .int (-1), .int 0, .int 0, .int 0, .int 0])), (sd 0, .inl (cyI, 6, .inl (fun _ => 0))), (sd 1, .inl (cyI, 8, .inl (fun _ => 0))), (sd 2, .inl (cyI, 8, .inl (fun _ => 0))), (sd 3, .inl (cyI, 328, .inl (fun _ => 0))), (sd 4, .inl (cyI, 328, .inl (fun _ => 0))), (sd 5, .inl (cyI, 41, .inl (fun _ => 0))), (sd 6, .inl (cyI, 41, .inl (fun _ => 0))), (q1474, .inr (5, [.ref (u1490 0), .ref (u1490 1), .ref (u1490 2), .ref (u1490 3), .ref (u1490 4), .ref (u1490 5), .ref (u1490 6), .int 0, .int (-1), .int 0, .int 0, .int 0, .int 0])), (u1490 0, .inl (cyI, 6, .inl (fun _ => 0))), (u1490 1, .inl (cyI, 8, .inl (fun _ => 0))), (u1490 2, .inl (cyI, 8, .inl (fun _ => 0))), (u1490 3, .inl (cyI, 328, .inl (fun _ => 0))), (u1490 4, .inl (cyI, 328, .inl (fun _ => 0))), (u1490 5, .inl (cyI, 41, .inl (fun _ => 0))), (u1490 6, .inl (cyI, 41, .inl (fun _ => 0)))] := hD
  refine lv_aload_n hx hb dX5_copyFrom_142 rfl (lv_at hl 0 rfl) ?_
  refine lv_aload_n hx hb dX5_copyFrom_143 rfl (lv_at hl 1 rfl) ?_
  refine va_get (D := (dC, dI)) (ci := 5) (v := .int 0) (C := RX5) (T := TX5) (N := 13) hx hb hts hi5 hown hK hP 0 rfl rfl 9 (by decide) (hts _ (ow_m (k := 13) rfl)) (fun _ h9 => h9) rfl dX5_copyFrom_144 ?_
  refine va_put (D := (dC, dI)) (ci := 5) (v := .int 0) (ty := .int) (C := RX5) (T := TX5) (N := 13) hx hb hts hi5 tyX5 tyX5_ok nmX5 hown hK hP hD hS 8 rfl rfl 9 (by decide) (hts _ (ow_m (k := 13) rfl)) (fun _ h9 => h9) rfl (by decide +kernel) rfl rfl (Nat.le_of_ble_eq_true rfl) dX5_copyFrom_147 (fun H locs hP hD hS => ?_)
  have hP : va_P (dC, dI) vwCl [(ad 9, .inr (5, [.ref (sd 0), .ref (sd 1), .ref (sd 2), .ref (sd 3), .ref (sd 4), .ref (sd 5), .ref (sd 6), .int 0, .int (-1), .int 0, .int 0, .int 0, .int 0])), (sd 0, .inl (cyI, 6, .inl (fun _ => 0))), (sd 1, .inl (cyI, 8, .inl (fun _ => 0))), (sd 2, .inl (cyI, 8, .inl (fun _ => 0))), (sd 3, .inl (cyI, 328, .inl (fun _ => 0))), (sd 4, .inl (cyI, 328, .inl (fun _ => 0))), (sd 5, .inl (cyI, 41, .inl (fun _ => 0))), (sd 6, .inl (cyI, 41, .inl (fun _ => 0))), (q1474, .inr (5, [.ref (u1490 0), .ref (u1490 1), .ref (u1490 2), .ref (u1490 3), .ref (u1490 4), .ref (u1490 5), .ref (u1490 6), .int 0, .int (-1), .int 0, .int 0, .int 0, .int 0])), (u1490 0, .inl (cyI, 6, .inl (fun _ => 0))), (u1490 1, .inl (cyI, 8, .inl (fun _ => 0))), (u1490 2, .inl (cyI, 8, .inl (fun _ => 0))), (u1490 3, .inl (cyI, 328, .inl (fun _ => 0))), (u1490 4, .inl (cyI, 328, .inl (fun _ => 0))), (u1490 5, .inl (cyI, 41, .inl (fun _ => 0))), (u1490 6, .inl (cyI, 41, .inl (fun _ => 0)))] H := hP
  have hD : va_D A [(ad 9, .inr (5, [.ref (sd 0), .ref (sd 1), .ref (sd 2), .ref (sd 3), .ref (sd 4), .ref (sd 5), .ref (sd 6), .int 0, .int (-1), .int 0, .int 0, .int 0, .int 0])), (sd 0, .inl (cyI, 6, .inl (fun _ => 0))), (sd 1, .inl (cyI, 8, .inl (fun _ => 0))), (sd 2, .inl (cyI, 8, .inl (fun _ => 0))), (sd 3, .inl (cyI, 328, .inl (fun _ => 0))), (sd 4, .inl (cyI, 328, .inl (fun _ => 0))), (sd 5, .inl (cyI, 41, .inl (fun _ => 0))), (sd 6, .inl (cyI, 41, .inl (fun _ => 0))), (q1474, .inr (5, [.ref (u1490 0), .ref (u1490 1), .ref (u1490 2), .ref (u1490 3), .ref (u1490 4), .ref (u1490 5), .ref (u1490 6), .int 0, .int (-1), .int 0, .int 0, .int 0, .int 0])), (u1490 0, .inl (cyI, 6, .inl (fun _ => 0))), (u1490 1, .inl (cyI, 8, .inl (fun _ => 0))), (u1490 2, .inl (cyI, 8, .inl (fun _ => 0))), (u1490 3, .inl (cyI, 328, .inl (fun _ => 0))), (u1490 4, .inl (cyI, 328, .inl (fun _ => 0))), (u1490 5, .inl (cyI, 41, .inl (fun _ => 0))), (u1490 6, .inl (cyI, 41, .inl (fun _ => 0)))] := hD
  refine lv_aload_n hx hb dX5_copyFrom_150 rfl (lv_at hl 0 rfl) ?_
  refine lv_aload_n hx hb dX5_copyFrom_151 rfl (lv_at hl 1 rfl) ?_
  refine va_get (D := (dC, dI)) (ci := 5) (v := .int 0) (C := RX5) (T := TX5) (N := 13) hx hb hts hi5 hown hK hP 0 rfl rfl 10 (by decide) (hts _ (ow_m (k := 14) rfl)) (fun _ h9 => h9) rfl dX5_copyFrom_152 ?_
  refine va_put (D := (dC, dI)) (ci := 5) (v := .int 0) (ty := .int) (C := RX5) (T := TX5) (N := 13) hx hb hts hi5 tyX5 tyX5_ok nmX5 hown hK hP hD hS 8 rfl rfl 10 (by decide) (hts _ (ow_m (k := 14) rfl)) (fun _ h9 => h9) rfl (by decide +kernel) rfl rfl (Nat.le_of_ble_eq_true rfl) dX5_copyFrom_155 (fun H locs hP hD hS => ?_)
  have hP : va_P (dC, dI) vwCl [(ad 9, .inr (5, [.ref (sd 0), .ref (sd 1), .ref (sd 2), .ref (sd 3), .ref (sd 4), .ref (sd 5), .ref (sd 6), .int 0, .int (-1), .int 0, .int 0, .int 0, .int 0])), (sd 0, .inl (cyI, 6, .inl (fun _ => 0))), (sd 1, .inl (cyI, 8, .inl (fun _ => 0))), (sd 2, .inl (cyI, 8, .inl (fun _ => 0))), (sd 3, .inl (cyI, 328, .inl (fun _ => 0))), (sd 4, .inl (cyI, 328, .inl (fun _ => 0))), (sd 5, .inl (cyI, 41, .inl (fun _ => 0))), (sd 6, .inl (cyI, 41, .inl (fun _ => 0))), (q1474, .inr (5, [.ref (u1490 0), .ref (u1490 1), .ref (u1490 2), .ref (u1490 3), .ref (u1490 4), .ref (u1490 5), .ref (u1490 6), .int 0, .int (-1), .int 0, .int 0, .int 0, .int 0])), (u1490 0, .inl (cyI, 6, .inl (fun _ => 0))), (u1490 1, .inl (cyI, 8, .inl (fun _ => 0))), (u1490 2, .inl (cyI, 8, .inl (fun _ => 0))), (u1490 3, .inl (cyI, 328, .inl (fun _ => 0))), (u1490 4, .inl (cyI, 328, .inl (fun _ => 0))), (u1490 5, .inl (cyI, 41, .inl (fun _ => 0))), (u1490 6, .inl (cyI, 41, .inl (fun _ => 0)))] H := hP
  have hD : va_D A [(ad 9, .inr (5, [.ref (sd 0), .ref (sd 1), .ref (sd 2), .ref (sd 3), .ref (sd 4), .ref (sd 5), .ref (sd 6), .int 0, .int (-1), .int 0, .int 0, .int 0, .int 0])), (sd 0, .inl (cyI, 6, .inl (fun _ => 0))), (sd 1, .inl (cyI, 8, .inl (fun _ => 0))), (sd 2, .inl (cyI, 8, .inl (fun _ => 0))), (sd 3, .inl (cyI, 328, .inl (fun _ => 0))), (sd 4, .inl (cyI, 328, .inl (fun _ => 0))), (sd 5, .inl (cyI, 41, .inl (fun _ => 0))), (sd 6, .inl (cyI, 41, .inl (fun _ => 0))), (q1474, .inr (5, [.ref (u1490 0), .ref (u1490 1), .ref (u1490 2), .ref (u1490 3), .ref (u1490 4), .ref (u1490 5), .ref (u1490 6), .int 0, .int (-1), .int 0, .int 0, .int 0, .int 0])), (u1490 0, .inl (cyI, 6, .inl (fun _ => 0))), (u1490 1, .inl (cyI, 8, .inl (fun _ => 0))), (u1490 2, .inl (cyI, 8, .inl (fun _ => 0))), (u1490 3, .inl (cyI, 328, .inl (fun _ => 0))), (u1490 4, .inl (cyI, 328, .inl (fun _ => 0))), (u1490 5, .inl (cyI, 41, .inl (fun _ => 0))), (u1490 6, .inl (cyI, 41, .inl (fun _ => 0)))] := hD
  refine lv_aload_n hx hb dX5_copyFrom_158 rfl (lv_at hl 0 rfl) ?_
  refine lv_aload_n hx hb dX5_copyFrom_159 rfl (lv_at hl 1 rfl) ?_
  refine va_get (D := (dC, dI)) (ci := 5) (v := .int 0) (C := RX5) (T := TX5) (N := 13) hx hb hts hi5 hown hK hP 0 rfl rfl 11 (by decide) (hts _ (ow_m (k := 15) rfl)) (fun _ h9 => h9) rfl dX5_copyFrom_160 ?_
  refine va_put (D := (dC, dI)) (ci := 5) (v := .int 0) (ty := .int) (C := RX5) (T := TX5) (N := 13) hx hb hts hi5 tyX5 tyX5_ok nmX5 hown hK hP hD hS 8 rfl rfl 11 (by decide) (hts _ (ow_m (k := 15) rfl)) (fun _ h9 => h9) rfl (by decide +kernel) rfl rfl (Nat.le_of_ble_eq_true rfl) dX5_copyFrom_163 (fun H locs hP hD hS => ?_)
  have hP : va_P (dC, dI) vwCl [(ad 9, .inr (5, [.ref (sd 0), .ref (sd 1), .ref (sd 2), .ref (sd 3), .ref (sd 4), .ref (sd 5), .ref (sd 6), .int 0, .int (-1), .int 0, .int 0, .int 0, .int 0])), (sd 0, .inl (cyI, 6, .inl (fun _ => 0))), (sd 1, .inl (cyI, 8, .inl (fun _ => 0))), (sd 2, .inl (cyI, 8, .inl (fun _ => 0))), (sd 3, .inl (cyI, 328, .inl (fun _ => 0))), (sd 4, .inl (cyI, 328, .inl (fun _ => 0))), (sd 5, .inl (cyI, 41, .inl (fun _ => 0))), (sd 6, .inl (cyI, 41, .inl (fun _ => 0))), (q1474, .inr (5, [.ref (u1490 0), .ref (u1490 1), .ref (u1490 2), .ref (u1490 3), .ref (u1490 4), .ref (u1490 5), .ref (u1490 6), .int 0, .int (-1), .int 0, .int 0, .int 0, .int 0])), (u1490 0, .inl (cyI, 6, .inl (fun _ => 0))), (u1490 1, .inl (cyI, 8, .inl (fun _ => 0))), (u1490 2, .inl (cyI, 8, .inl (fun _ => 0))), (u1490 3, .inl (cyI, 328, .inl (fun _ => 0))), (u1490 4, .inl (cyI, 328, .inl (fun _ => 0))), (u1490 5, .inl (cyI, 41, .inl (fun _ => 0))), (u1490 6, .inl (cyI, 41, .inl (fun _ => 0)))] H := hP
  have hD : va_D A [(ad 9, .inr (5, [.ref (sd 0), .ref (sd 1), .ref (sd 2), .ref (sd 3), .ref (sd 4), .ref (sd 5), .ref (sd 6), .int 0, .int (-1), .int 0, .int 0, .int 0, .int 0])), (sd 0, .inl (cyI, 6, .inl (fun _ => 0))), (sd 1, .inl (cyI, 8, .inl (fun _ => 0))), (sd 2, .inl (cyI, 8, .inl (fun _ => 0))), (sd 3, .inl (cyI, 328, .inl (fun _ => 0))), (sd 4, .inl (cyI, 328, .inl (fun _ => 0))), (sd 5, .inl (cyI, 41, .inl (fun _ => 0))), (sd 6, .inl (cyI, 41, .inl (fun _ => 0))), (q1474, .inr (5, [.ref (u1490 0), .ref (u1490 1), .ref (u1490 2), .ref (u1490 3), .ref (u1490 4), .ref (u1490 5), .ref (u1490 6), .int 0, .int (-1), .int 0, .int 0, .int 0, .int 0])), (u1490 0, .inl (cyI, 6, .inl (fun _ => 0))), (u1490 1, .inl (cyI, 8, .inl (fun _ => 0))), (u1490 2, .inl (cyI, 8, .inl (fun _ => 0))), (u1490 3, .inl (cyI, 328, .inl (fun _ => 0))), (u1490 4, .inl (cyI, 328, .inl (fun _ => 0))), (u1490 5, .inl (cyI, 41, .inl (fun _ => 0))), (u1490 6, .inl (cyI, 41, .inl (fun _ => 0)))] := hD
  refine lv_aload_n hx hb dX5_copyFrom_166 rfl (lv_at hl 0 rfl) ?_
  refine lv_aload_n hx hb dX5_copyFrom_167 rfl (lv_at hl 1 rfl) ?_
  refine va_get (D := (dC, dI)) (ci := 5) (v := .int 0) (C := RX5) (T := TX5) (N := 13) hx hb hts hi5 hown hK hP 0 rfl rfl 12 (by decide) (hts _ (ow_m (k := 16) rfl)) (fun _ h9 => h9) rfl dX5_copyFrom_168 ?_
  refine va_put (D := (dC, dI)) (ci := 5) (v := .int 0) (ty := .int) (C := RX5) (T := TX5) (N := 13) hx hb hts hi5 tyX5 tyX5_ok nmX5 hown hK hP hD hS 8 rfl rfl 12 (by decide) (hts _ (ow_m (k := 16) rfl)) (fun _ h9 => h9) rfl (by decide +kernel) rfl rfl (Nat.le_of_ble_eq_true rfl) dX5_copyFrom_171 (fun H locs hP hD hS => ?_)
  have hP : va_P (dC, dI) vwCl [(ad 9, .inr (5, [.ref (sd 0), .ref (sd 1), .ref (sd 2), .ref (sd 3), .ref (sd 4), .ref (sd 5), .ref (sd 6), .int 0, .int (-1), .int 0, .int 0, .int 0, .int 0])), (sd 0, .inl (cyI, 6, .inl (fun _ => 0))), (sd 1, .inl (cyI, 8, .inl (fun _ => 0))), (sd 2, .inl (cyI, 8, .inl (fun _ => 0))), (sd 3, .inl (cyI, 328, .inl (fun _ => 0))), (sd 4, .inl (cyI, 328, .inl (fun _ => 0))), (sd 5, .inl (cyI, 41, .inl (fun _ => 0))), (sd 6, .inl (cyI, 41, .inl (fun _ => 0))), (q1474, .inr (5, [.ref (u1490 0), .ref (u1490 1), .ref (u1490 2), .ref (u1490 3), .ref (u1490 4), .ref (u1490 5), .ref (u1490 6), .int 0, .int (-1), .int 0, .int 0, .int 0, .int 0])), (u1490 0, .inl (cyI, 6, .inl (fun _ => 0))), (u1490 1, .inl (cyI, 8, .inl (fun _ => 0))), (u1490 2, .inl (cyI, 8, .inl (fun _ => 0))), (u1490 3, .inl (cyI, 328, .inl (fun _ => 0))), (u1490 4, .inl (cyI, 328, .inl (fun _ => 0))), (u1490 5, .inl (cyI, 41, .inl (fun _ => 0))), (u1490 6, .inl (cyI, 41, .inl (fun _ => 0)))] H := hP
  have hD : va_D A [(ad 9, .inr (5, [.ref (sd 0), .ref (sd 1), .ref (sd 2), .ref (sd 3), .ref (sd 4), .ref (sd 5), .ref (sd 6), .int 0, .int (-1), .int 0, .int 0, .int 0, .int 0])), (sd 0, .inl (cyI, 6, .inl (fun _ => 0))), (sd 1, .inl (cyI, 8, .inl (fun _ => 0))), (sd 2, .inl (cyI, 8, .inl (fun _ => 0))), (sd 3, .inl (cyI, 328, .inl (fun _ => 0))), (sd 4, .inl (cyI, 328, .inl (fun _ => 0))), (sd 5, .inl (cyI, 41, .inl (fun _ => 0))), (sd 6, .inl (cyI, 41, .inl (fun _ => 0))), (q1474, .inr (5, [.ref (u1490 0), .ref (u1490 1), .ref (u1490 2), .ref (u1490 3), .ref (u1490 4), .ref (u1490 5), .ref (u1490 6), .int 0, .int (-1), .int 0, .int 0, .int 0, .int 0])), (u1490 0, .inl (cyI, 6, .inl (fun _ => 0))), (u1490 1, .inl (cyI, 8, .inl (fun _ => 0))), (u1490 2, .inl (cyI, 8, .inl (fun _ => 0))), (u1490 3, .inl (cyI, 328, .inl (fun _ => 0))), (u1490 4, .inl (cyI, 328, .inl (fun _ => 0))), (u1490 5, .inl (cyI, 41, .inl (fun _ => 0))), (u1490 6, .inl (cyI, 41, .inl (fun _ => 0)))] := hD
  exact W.vret hx hb hr (fun t ht hW => ⟨⟨(), rfl, trivial, cE.of ht hP hD [0, 1, 2, 3, 4, 5, 6, 7, 8, 9, 10, 11, 12, 13, 14, 15] (by decide) rfl⟩, hS.F ht⟩) hS.2.2 dX5_copyFrom_174
def wo_c_C_image : List Cond := [.fieldLink RX6 52 "ReplicaChain" "boxes" "[LReplicaChain$State;", .classLink RX6 41 RX5, .instantiable RX5 13, .initialized RX5, .instanceMethod yX5_init, .fieldLink RX6 110 "ReplicaChain" "now" "LReplicaChain$State;", .methodLink RX6 228 yX5_copyFrom, .instanceMethod yX5_copyFrom, .selects RX5 yX5_copyFrom yX5_copyFrom, .fieldLink RX6 55 "ReplicaChain" "boxFull" "[Z", .fieldLink RX6 142 "ReplicaChain$State" "tick" "I"]
def wq_c_C_image : List Cond := .code yX6_image cX6_image 3 (some .int) :: (wo_c_C_image ++ (wq_k_X5_init_v5 ++ (wq_k_X5_copyFrom_v6 ++ (wq_k_X5_init_v6 ++ (wq_k_X5_copyFrom_v7 ++ (wq_k_X5_init_v7 ++ (wq_k_X5_copyFrom_v8 ++ (wq_k_X5_init_v8 ++ (wq_k_X5_copyFrom_v9 ++ (wsX50 ++ (wsX60 ++ [])))))))))))
theorem gd_c_C_image : Gd wq_c_C_image := gd_c (gd_a (gd_o (by decide +kernel)) (gd_a gd_k_X5_init_v5 (gd_a gd_k_X5_copyFrom_v6 (gd_a gd_k_X5_init_v6 (gd_a gd_k_X5_copyFrom_v7 (gd_a gd_k_X5_init_v7 (gd_a gd_k_X5_copyFrom_v8 (gd_a gd_k_X5_init_v8 (gd_a gd_k_X5_copyFrom_v9 (gd_a gd_u (gd_a gd_u gd_0)))))))))))
abbrev wc_c_C_image (cyB cyI cyJ cyZ cyO : ClassId) (h0 : Nat) (ad : Nat → Nat) (sd : Nat → Nat) (x1 : Int32) : va_W := [(h0, .inr (6, [.ref (ad 0), .int 0, .ref (ad 2), .ref (ad 3), .ref (ad 4), .ref (ad 5), .ref (ad 6), .int 0, .int 0, .ref (ad 9), .ref (ad 10), .ref (ad 11), .ref (ad 12), .ref (ad 13), .int 0, .ref (ad 15), .int 0, .ref (ad 17), .ref (ad 18), .int 0])), (ad 9, .inr (5, [.ref (sd 0), .ref (sd 1), .ref (sd 2), .ref (sd 3), .ref (sd 4), .ref (sd 5), .ref (sd 6), .int 0, .int (-1), .int 0, .int 0, .int 0, .int 0])), (sd 0, .inl (cyI, 6, .inl (fun _ => 0))), (sd 1, .inl (cyI, 8, .inl (fun _ => 0))), (sd 2, .inl (cyI, 8, .inl (fun _ => 0))), (sd 3, .inl (cyI, 328, .inl (fun _ => 0))), (sd 4, .inl (cyI, 328, .inl (fun _ => 0))), (sd 5, .inl (cyI, 41, .inl (fun _ => 0))), (sd 6, .inl (cyI, 41, .inl (fun _ => 0))), (ad 11, .inl (cyO, 3, .inr (.inr (.inr (.inr (fun _ => none)))))), (ad 12, .inl (cyZ, 3, .inl (fun _ => 0)))]
set_option maxHeartbeats 4000000 in
set_option maxRecDepth 100000 in
theorem c_C_image (l : Launch) (dC : Nat → ClassId) (dI : Nat → Nat → Nat) (cyB cyI cyJ cyZ cyO : ClassId) (h0 : Nat) (ad : Nat → Nat) (sd : Nat → Nat) (x1 : Int32) (sz : Nat) : Met l yX6_image wq_c_C_image ({ frames := 2, cells := 8, slots := 773, locals := 101 }) (va_Pc [.ref h0, .int x1] (cB (dC, dI) (kT cyB cyI cyJ cyZ cyO) (wc_c_C_image cyB cyI cyJ cyZ cyO h0 ad sd x1) sz)) (va_Qi (fun (r : Int32) (_ : Unit) => r = sp_image x1) (fun (u : Unit) t => cE (dC, dI) (va_A (wc_c_C_image cyB cyI cyJ cyZ cyO h0 ad sd x1) sz) ([]) t.heap) (va_A (wc_c_C_image cyB cyI cyJ cyZ cyO h0 ad sd x1) sz)) 8 773 (va_A (wc_c_C_image cyB cyI cyJ cyZ cyO h0 ad sd x1) sz) := by
  refine Met.ofW (cc := cX6_image) (maxL := 3) (ret := (some .int)) (by decide) rfl ?_
  intro p e s m args below meth c s₁ B hml hv
  obtain ⟨rfl, hsz, hP, hKN, hD0⟩ := hv
  have hx := B.exec
  have hb := B.bytes
  have hr := B.returns
  have hts := atoms_spec (ws := wq_c_C_image) B.pre
  have hown : s.vm.findClass RX6 = some m.cls := findClass_of_methodNamed B.named
  have hlocks := B.notSynchronized
  have hK := hKN.1
  have hfix : CallFix p m c cX6_image 3 s [.ref h0, .int x1].toArray wq_c_C_image RX6 := ⟨hx, hb, hml, hown, hts⟩
  have hi5 : ∀ w ∈ wsX50, w ∈ wq_c_C_image := (sb_c (sb_r (sb_r (sb_r (sb_r (sb_r (sb_r (sb_r (sb_r sb_l)))))))))
  have hi6 : ∀ w ∈ wsX60, w ∈ wq_c_C_image := (sb_c (sb_r (sb_r (sb_r (sb_r (sb_r (sb_r (sb_r (sb_r (sb_r sb_l))))))))))
  subst hsz
  have hD := hD0.self (sz := s.heap.size)
  generalize hAe : va_A (wc_c_C_image cyB cyI cyJ cyZ cyO h0 ad sd x1) s.heap.size = A at hD ⊢
  have hA : ∀ q : Nat, s.heap.size ≤ q → A q := fun q h => by rw [← hAe]; exact Or.inr h
  have hS : va_S A s.heap s.heap [] := va_S.rf
  have hl := lv_entry ([.ref h0, .int x1]) (n := 3) (Nat.le_of_ble_eq_true rfl)
  rw [lg_entry_eq]
  generalize (lg_sl ([.ref h0, .int x1]) ++ List.replicate (3 - (lg_sl ([.ref h0, .int x1])).length) Slot.unset).toArray = ls at hl ⊢
  have hl : lv_has ls 3 [(0, .ref h0), (1, .int x1)] := hl
  by_cases c1406 : x1 = 0
  · subst c1406
    have tc1406 : (0 : Int32).toInt = 0 := by decide
    have hl : lv_has ls 3 [(0, .ref h0), (1, .int 0)] := hl
    refine lv_iload_n hx hb dX6_image_0 rfl (lv_at hl 1 rfl) ?_
    refine lv_if_lt (tgt := 9) hx hb dX6_image_1 (by decide) (fun c1407 => absurd c1407 (by decide)) (fun _ => ?_)
    refine lv_iload_n hx hb dX6_image_4 rfl (lv_at hl 1 rfl) ?_
    refine lv_iconst (v := 3) hx hb dX6_image_5 (by decide) ?_
    refine lv_icmp_lt (tgt := 11) hx hb dX6_image_6 (by decide) (fun _ => ?_) (fun c1408 => absurd (by decide) c1408)
    refine lv_aload_n hx hb dX6_image_11 rfl (lv_at hl 0 rfl) ?_
    refine va_get (D := (dC, dI)) (ci := 6) (v := .ref (ad 11)) (C := RX6) (T := TX6) (N := 20) hx hb hts hi6 hown hK hP 0 rfl rfl 11 (by decide) (hts _ (ow_m (k := 0) rfl)) (fun _ h9 => h9) rfl dX6_image_12 ?_
    refine lv_iload_n hx hb dX6_image_15 rfl (lv_at hl 1 rfl) ?_
    refine va_aldq hx hb hK hP 9 4 rfl rfl (vp_i (a := 0) (by decide) (by decide) (by decide)) dX6_image_16 ?_
    refine tp_v (w := .null) rfl ?_
    refine lv_astore_nN (lv' := [(2, .null), (0, .ref h0), (1, .int 0)]) hx hb dX6_image_17 rfl hl (by decide) rfl (fun ls hl => ?_)
    refine lv_aload_nN hx hb dX6_image_18 rfl (lv_at hl 0 rfl) ?_
    refine lv_ifnonnullN hx hb dX6_image_19 ?_
    refine va_new (ci := 5) (fs := [.null, .null, .null, .null, .null, .null, .null, .int 0, .int 0, .int 0, .int 0, .int 0, .int 0]) (C := RX5) (T := TX5) (N := 13) hx hb hts hi5 tyX5 tyX5_ok hown (hts _ (ow_m (k := 1) rfl)) (hts _ (ow_m (k := 2) rfl)) (hts _ (ow_m (k := 3) rfl)) hK hP hD hS hA rfl (by decide) (Nat.le_of_ble_eq_true rfl) (Nat.le_of_ble_eq_true rfl) dX6_image_22 (fun q1409 H hP hD hS => ?_)
    have hP : va_P (dC, dI) vwCl [(h0, .inr (6, [.ref (ad 0), .int 0, .ref (ad 2), .ref (ad 3), .ref (ad 4), .ref (ad 5), .ref (ad 6), .int 0, .int 0, .ref (ad 9), .ref (ad 10), .ref (ad 11), .ref (ad 12), .ref (ad 13), .int 0, .ref (ad 15), .int 0, .ref (ad 17), .ref (ad 18), .int 0])), (ad 9, .inr (5, [.ref (sd 0), .ref (sd 1), .ref (sd 2), .ref (sd 3), .ref (sd 4), .ref (sd 5), .ref (sd 6), .int 0, .int (-1), .int 0, .int 0, .int 0, .int 0])), (sd 0, .inl (cyI, 6, .inl (fun _ => 0))), (sd 1, .inl (cyI, 8, .inl (fun _ => 0))), (sd 2, .inl (cyI, 8, .inl (fun _ => 0))), (sd 3, .inl (cyI, 328, .inl (fun _ => 0))), (sd 4, .inl (cyI, 328, .inl (fun _ => 0))), (sd 5, .inl (cyI, 41, .inl (fun _ => 0))), (sd 6, .inl (cyI, 41, .inl (fun _ => 0))), (ad 11, .inl (cyO, 3, .inr (.inr (.inr (.inr (fun _ => none)))))), (ad 12, .inl (cyZ, 3, .inl (fun _ => 0))), (q1409, .inr (5, [.null, .null, .null, .null, .null, .null, .null, .int 0, .int 0, .int 0, .int 0, .int 0, .int 0]))] H := hP
    have hD : va_D A [(h0, .inr (6, [.ref (ad 0), .int 0, .ref (ad 2), .ref (ad 3), .ref (ad 4), .ref (ad 5), .ref (ad 6), .int 0, .int 0, .ref (ad 9), .ref (ad 10), .ref (ad 11), .ref (ad 12), .ref (ad 13), .int 0, .ref (ad 15), .int 0, .ref (ad 17), .ref (ad 18), .int 0])), (ad 9, .inr (5, [.ref (sd 0), .ref (sd 1), .ref (sd 2), .ref (sd 3), .ref (sd 4), .ref (sd 5), .ref (sd 6), .int 0, .int (-1), .int 0, .int 0, .int 0, .int 0])), (sd 0, .inl (cyI, 6, .inl (fun _ => 0))), (sd 1, .inl (cyI, 8, .inl (fun _ => 0))), (sd 2, .inl (cyI, 8, .inl (fun _ => 0))), (sd 3, .inl (cyI, 328, .inl (fun _ => 0))), (sd 4, .inl (cyI, 328, .inl (fun _ => 0))), (sd 5, .inl (cyI, 41, .inl (fun _ => 0))), (sd 6, .inl (cyI, 41, .inl (fun _ => 0))), (ad 11, .inl (cyO, 3, .inr (.inr (.inr (.inr (fun _ => none)))))), (ad 12, .inl (cyZ, 3, .inl (fun _ => 0))), (q1409, .inr (5, [.null, .null, .null, .null, .null, .null, .null, .int 0, .int 0, .int 0, .int 0, .int 0, .int 0]))] := hD
    refine W.widen (k := 1) (n := 13) (by omega) (by omega) ?_
    refine lv_dup hx hb dX6_image_25 rfl ?_
    refine gf_v (wr := [(h0, .inr (6, [.ref (ad 0), .int 0, .ref (ad 2), .ref (ad 3), .ref (ad 4), .ref (ad 5), .ref (ad 6), .int 0, .int 0, .ref (ad 9), .ref (ad 10), .ref (ad 11), .ref (ad 12), .ref (ad 13), .int 0, .ref (ad 15), .int 0, .ref (ad 17), .ref (ad 18), .int 0])), (ad 9, .inr (5, [.ref (sd 0), .ref (sd 1), .ref (sd 2), .ref (sd 3), .ref (sd 4), .ref (sd 5), .ref (sd 6), .int 0, .int (-1), .int 0, .int 0, .int 0, .int 0])), (sd 0, .inl (cyI, 6, .inl (fun _ => 0))), (sd 1, .inl (cyI, 8, .inl (fun _ => 0))), (sd 2, .inl (cyI, 8, .inl (fun _ => 0))), (sd 3, .inl (cyI, 328, .inl (fun _ => 0))), (sd 4, .inl (cyI, 328, .inl (fun _ => 0))), (sd 5, .inl (cyI, 41, .inl (fun _ => 0))), (sd 6, .inl (cyI, 41, .inl (fun _ => 0))), (ad 11, .inl (cyO, 3, .inr (.inr (.inr (.inr (fun _ => none)))))), (ad 12, .inl (cyZ, 3, .inl (fun _ => 0)))]) (va_runIN (As := []) (rest := [.ref q1409]) hfix (k_X5_init_v5 l dC dI cyB cyI cyJ cyZ cyO q1409 _) ⟨va_cnB 0 hts (gi_I (sb_c sb_l) gd_k_X5_init_v5) rfl rfl rfl hKN.2.2.1 (hts _ (ow_m (k := 3) rfl)) (by decide +kernel) ⟨Nat.le_of_ble_eq_true rfl, Nat.le_of_ble_eq_true rfl⟩, rfl, (hts _ (ow_m (k := 4) rfl))⟩ (g_preS hKN hP hD [11] rfl (by decide)) rfl rfl hl.1 rfl (lv_room (Nat.le_of_ble_eq_true rfl)) dX6_image_26 ⟨Nat.le_of_ble_eq_true rfl, Nat.le_of_ble_eq_true rfl⟩) hP hD hS hA [11] [0, 1, 2, 3, 4, 5, 6, 7, 8, 9, 10] rfl rfl (by decide) (by decide) (fun u1425 H locs qu1425 hP hD hS => ?_)
    have hP : va_P (dC, dI) vwCl [(h0, .inr (6, [.ref (ad 0), .int 0, .ref (ad 2), .ref (ad 3), .ref (ad 4), .ref (ad 5), .ref (ad 6), .int 0, .int 0, .ref (ad 9), .ref (ad 10), .ref (ad 11), .ref (ad 12), .ref (ad 13), .int 0, .ref (ad 15), .int 0, .ref (ad 17), .ref (ad 18), .int 0])), (ad 9, .inr (5, [.ref (sd 0), .ref (sd 1), .ref (sd 2), .ref (sd 3), .ref (sd 4), .ref (sd 5), .ref (sd 6), .int 0, .int (-1), .int 0, .int 0, .int 0, .int 0])), (sd 0, .inl (cyI, 6, .inl (fun _ => 0))), (sd 1, .inl (cyI, 8, .inl (fun _ => 0))), (sd 2, .inl (cyI, 8, .inl (fun _ => 0))), (sd 3, .inl (cyI, 328, .inl (fun _ => 0))), (sd 4, .inl (cyI, 328, .inl (fun _ => 0))), (sd 5, .inl (cyI, 41, .inl (fun _ => 0))), (sd 6, .inl (cyI, 41, .inl (fun _ => 0))), (ad 11, .inl (cyO, 3, .inr (.inr (.inr (.inr (fun _ => none)))))), (ad 12, .inl (cyZ, 3, .inl (fun _ => 0))), (q1409, .inr (5, [.ref (u1425 0), .ref (u1425 1), .ref (u1425 2), .ref (u1425 3), .ref (u1425 4), .ref (u1425 5), .ref (u1425 6), .int 0, .int (-1), .int 0, .int 0, .int 0, .int 0])), (u1425 0, .inl (cyI, 6, .inl (fun _ => 0))), (u1425 1, .inl (cyI, 8, .inl (fun _ => 0))), (u1425 2, .inl (cyI, 8, .inl (fun _ => 0))), (u1425 3, .inl (cyI, 328, .inl (fun _ => 0))), (u1425 4, .inl (cyI, 328, .inl (fun _ => 0))), (u1425 5, .inl (cyI, 41, .inl (fun _ => 0))), (u1425 6, .inl (cyI, 41, .inl (fun _ => 0)))] H := hP
    have hD : va_D A [(h0, .inr (6, [.ref (ad 0), .int 0, .ref (ad 2), .ref (ad 3), .ref (ad 4), .ref (ad 5), .ref (ad 6), .int 0, .int 0, .ref (ad 9), .ref (ad 10), .ref (ad 11), .ref (ad 12), .ref (ad 13), .int 0, .ref (ad 15), .int 0, .ref (ad 17), .ref (ad 18), .int 0])), (ad 9, .inr (5, [.ref (sd 0), .ref (sd 1), .ref (sd 2), .ref (sd 3), .ref (sd 4), .ref (sd 5), .ref (sd 6), .int 0, .int (-1), .int 0, .int 0, .int 0, .int 0])), (sd 0, .inl (cyI, 6, .inl (fun _ => 0))), (sd 1, .inl (cyI, 8, .inl (fun _ => 0))), (sd 2, .inl (cyI, 8, .inl (fun _ => 0))), (sd 3, .inl (cyI, 328, .inl (fun _ => 0))), (sd 4, .inl (cyI, 328, .inl (fun _ => 0))), (sd 5, .inl (cyI, 41, .inl (fun _ => 0))), (sd 6, .inl (cyI, 41, .inl (fun _ => 0))), (ad 11, .inl (cyO, 3, .inr (.inr (.inr (.inr (fun _ => none)))))), (ad 12, .inl (cyZ, 3, .inl (fun _ => 0))), (q1409, .inr (5, [.ref (u1425 0), .ref (u1425 1), .ref (u1425 2), .ref (u1425 3), .ref (u1425 4), .ref (u1425 5), .ref (u1425 6), .int 0, .int (-1), .int 0, .int 0, .int 0, .int 0])), (u1425 0, .inl (cyI, 6, .inl (fun _ => 0))), (u1425 1, .inl (cyI, 8, .inl (fun _ => 0))), (u1425 2, .inl (cyI, 8, .inl (fun _ => 0))), (u1425 3, .inl (cyI, 328, .inl (fun _ => 0))), (u1425 4, .inl (cyI, 328, .inl (fun _ => 0))), (u1425 5, .inl (cyI, 41, .inl (fun _ => 0))), (u1425 6, .inl (cyI, 41, .inl (fun _ => 0)))] := hD
    refine W.widen (k := 8) (n := 773) (by omega) (by omega) ?_
    refine lv_astore_n (lv' := [(2, .ref q1409), (0, .ref h0), (1, .int 0)]) hx hb dX6_image_29 rfl hl (by decide) rfl (fun ls hl => ?_)
    refine lv_aload_n hx hb dX6_image_30 rfl (lv_at hl 1 rfl) ?_
    refine va_get (D := (dC, dI)) (ci := 6) (v := .ref (ad 11)) (C := RX6) (T := TX6) (N := 20) hx hb hts hi6 hown hK hP 0 rfl rfl 11 (by decide) (hts _ (ow_m (k := 0) rfl)) (fun _ h9 => h9) rfl dX6_image_31 ?_
    refine lv_iload_n hx hb dX6_image_34 rfl (lv_at hl 2 rfl) ?_
    refine lv_aload_n hx hb dX6_image_35 rfl (lv_at hl 0 rfl) ?_
    refine va_astq hx hb hK hP hD hS 9 4 11 5 rfl rfl rfl rfl (vp_i (a := 0) (by decide) (by decide) (by decide)) dX6_image_36 (fun H locs hP hD hS => ?_)
    have hP : va_P (dC, dI) vwCl [(h0, .inr (6, [.ref (ad 0), .int 0, .ref (ad 2), .ref (ad 3), .ref (ad 4), .ref (ad 5), .ref (ad 6), .int 0, .int 0, .ref (ad 9), .ref (ad 10), .ref (ad 11), .ref (ad 12), .ref (ad 13), .int 0, .ref (ad 15), .int 0, .ref (ad 17), .ref (ad 18), .int 0])), (ad 9, .inr (5, [.ref (sd 0), .ref (sd 1), .ref (sd 2), .ref (sd 3), .ref (sd 4), .ref (sd 5), .ref (sd 6), .int 0, .int (-1), .int 0, .int 0, .int 0, .int 0])), (sd 0, .inl (cyI, 6, .inl (fun _ => 0))), (sd 1, .inl (cyI, 8, .inl (fun _ => 0))), (sd 2, .inl (cyI, 8, .inl (fun _ => 0))), (sd 3, .inl (cyI, 328, .inl (fun _ => 0))), (sd 4, .inl (cyI, 328, .inl (fun _ => 0))), (sd 5, .inl (cyI, 41, .inl (fun _ => 0))), (sd 6, .inl (cyI, 41, .inl (fun _ => 0))), (ad 11, .inl (cyO, 3, .inr (.inr (.inr (.inr (va_up (fun _ => none) 0 (some q1409))))))), (ad 12, .inl (cyZ, 3, .inl (fun _ => 0))), (q1409, .inr (5, [.ref (u1425 0), .ref (u1425 1), .ref (u1425 2), .ref (u1425 3), .ref (u1425 4), .ref (u1425 5), .ref (u1425 6), .int 0, .int (-1), .int 0, .int 0, .int 0, .int 0])), (u1425 0, .inl (cyI, 6, .inl (fun _ => 0))), (u1425 1, .inl (cyI, 8, .inl (fun _ => 0))), (u1425 2, .inl (cyI, 8, .inl (fun _ => 0))), (u1425 3, .inl (cyI, 328, .inl (fun _ => 0))), (u1425 4, .inl (cyI, 328, .inl (fun _ => 0))), (u1425 5, .inl (cyI, 41, .inl (fun _ => 0))), (u1425 6, .inl (cyI, 41, .inl (fun _ => 0)))] H := hP
    have hD : va_D A [(h0, .inr (6, [.ref (ad 0), .int 0, .ref (ad 2), .ref (ad 3), .ref (ad 4), .ref (ad 5), .ref (ad 6), .int 0, .int 0, .ref (ad 9), .ref (ad 10), .ref (ad 11), .ref (ad 12), .ref (ad 13), .int 0, .ref (ad 15), .int 0, .ref (ad 17), .ref (ad 18), .int 0])), (ad 9, .inr (5, [.ref (sd 0), .ref (sd 1), .ref (sd 2), .ref (sd 3), .ref (sd 4), .ref (sd 5), .ref (sd 6), .int 0, .int (-1), .int 0, .int 0, .int 0, .int 0])), (sd 0, .inl (cyI, 6, .inl (fun _ => 0))), (sd 1, .inl (cyI, 8, .inl (fun _ => 0))), (sd 2, .inl (cyI, 8, .inl (fun _ => 0))), (sd 3, .inl (cyI, 328, .inl (fun _ => 0))), (sd 4, .inl (cyI, 328, .inl (fun _ => 0))), (sd 5, .inl (cyI, 41, .inl (fun _ => 0))), (sd 6, .inl (cyI, 41, .inl (fun _ => 0))), (ad 11, .inl (cyO, 3, .inr (.inr (.inr (.inr (va_up (fun _ => none) 0 (some q1409))))))), (ad 12, .inl (cyZ, 3, .inl (fun _ => 0))), (q1409, .inr (5, [.ref (u1425 0), .ref (u1425 1), .ref (u1425 2), .ref (u1425 3), .ref (u1425 4), .ref (u1425 5), .ref (u1425 6), .int 0, .int (-1), .int 0, .int 0, .int 0, .int 0])), (u1425 0, .inl (cyI, 6, .inl (fun _ => 0))), (u1425 1, .inl (cyI, 8, .inl (fun _ => 0))), (u1425 2, .inl (cyI, 8, .inl (fun _ => 0))), (u1425 3, .inl (cyI, 328, .inl (fun _ => 0))), (u1425 4, .inl (cyI, 328, .inl (fun _ => 0))), (u1425 5, .inl (cyI, 41, .inl (fun _ => 0))), (u1425 6, .inl (cyI, 41, .inl (fun _ => 0)))] := hD
    refine lv_aload_n hx hb dX6_image_37 rfl (lv_at hl 0 rfl) ?_
    refine lv_aload_n hx hb dX6_image_38 rfl (lv_at hl 1 rfl) ?_
    refine va_get (D := (dC, dI)) (ci := 6) (v := .ref (ad 9)) (C := RX6) (T := TX6) (N := 20) hx hb hts hi6 hown hK hP 0 rfl rfl 9 (by decide) (hts _ (ow_m (k := 5) rfl)) (fun _ h9 => h9) rfl dX6_image_39 ?_
    refine gf_v (wr := [(h0, .inr (6, [.ref (ad 0), .int 0, .ref (ad 2), .ref (ad 3), .ref (ad 4), .ref (ad 5), .ref (ad 6), .int 0, .int 0, .ref (ad 9), .ref (ad 10), .ref (ad 11), .ref (ad 12), .ref (ad 13), .int 0, .ref (ad 15), .int 0, .ref (ad 17), .ref (ad 18), .int 0])), (ad 11, .inl (cyO, 3, .inr (.inr (.inr (.inr (va_up (fun _ => none) 0 (some q1409))))))), (ad 12, .inl (cyZ, 3, .inl (fun _ => 0)))]) (va_runV (As := [.ref (ad 9)]) (rest := []) hfix (k_X5_copyFrom_v6 l dC dI cyB cyI cyJ cyZ cyO ad sd q1409 u1425 _) (cwV 1 hts (gi_V (ow_m (k := 6) rfl) (ow_m (k := 7) rfl) (ow_m (k := 8) rfl) (ow_m (k := 3) rfl) (sb_c (sb_r sb_l)) gd_k_X5_copyFrom_v6) rfl rfl rfl (by decide +kernel) ⟨Nat.le_of_ble_eq_true rfl, Nat.le_of_ble_eq_true rfl⟩) (g_preV hKN hP hD [1, 2, 3, 4, 5, 6, 7, 8, 11, 12, 13, 14, 15, 16, 17, 18] rfl (by decide) 8 5 rfl rfl) rfl rfl hl.1 rfl (lv_room (Nat.le_of_ble_eq_true rfl)) dX6_image_42 ⟨Nat.le_of_ble_eq_true rfl, Nat.le_of_ble_eq_true rfl⟩) hP hD hS hA [1, 2, 3, 4, 5, 6, 7, 8, 11, 12, 13, 14, 15, 16, 17, 18] [0, 9, 10] rfl rfl (by decide) (by decide) (fun u1427 H locs qu1427 hP hD hS => ?_)
    have hP : va_P (dC, dI) vwCl [(h0, .inr (6, [.ref (ad 0), .int 0, .ref (ad 2), .ref (ad 3), .ref (ad 4), .ref (ad 5), .ref (ad 6), .int 0, .int 0, .ref (ad 9), .ref (ad 10), .ref (ad 11), .ref (ad 12), .ref (ad 13), .int 0, .ref (ad 15), .int 0, .ref (ad 17), .ref (ad 18), .int 0])), (ad 11, .inl (cyO, 3, .inr (.inr (.inr (.inr (va_up (fun _ => none) 0 (some q1409))))))), (ad 12, .inl (cyZ, 3, .inl (fun _ => 0))), (ad 9, .inr (5, [.ref (sd 0), .ref (sd 1), .ref (sd 2), .ref (sd 3), .ref (sd 4), .ref (sd 5), .ref (sd 6), .int 0, .int (-1), .int 0, .int 0, .int 0, .int 0])), (sd 0, .inl (cyI, 6, .inl (fun _ => 0))), (sd 1, .inl (cyI, 8, .inl (fun _ => 0))), (sd 2, .inl (cyI, 8, .inl (fun _ => 0))), (sd 3, .inl (cyI, 328, .inl (fun _ => 0))), (sd 4, .inl (cyI, 328, .inl (fun _ => 0))), (sd 5, .inl (cyI, 41, .inl (fun _ => 0))), (sd 6, .inl (cyI, 41, .inl (fun _ => 0))), (q1409, .inr (5, [.ref (u1425 0), .ref (u1425 1), .ref (u1425 2), .ref (u1425 3), .ref (u1425 4), .ref (u1425 5), .ref (u1425 6), .int 0, .int (-1), .int 0, .int 0, .int 0, .int 0])), (u1425 0, .inl (cyI, 6, .inl (fun _ => 0))), (u1425 1, .inl (cyI, 8, .inl (fun _ => 0))), (u1425 2, .inl (cyI, 8, .inl (fun _ => 0))), (u1425 3, .inl (cyI, 328, .inl (fun _ => 0))), (u1425 4, .inl (cyI, 328, .inl (fun _ => 0))), (u1425 5, .inl (cyI, 41, .inl (fun _ => 0))), (u1425 6, .inl (cyI, 41, .inl (fun _ => 0)))] H := hP
    have hD : va_D A [(h0, .inr (6, [.ref (ad 0), .int 0, .ref (ad 2), .ref (ad 3), .ref (ad 4), .ref (ad 5), .ref (ad 6), .int 0, .int 0, .ref (ad 9), .ref (ad 10), .ref (ad 11), .ref (ad 12), .ref (ad 13), .int 0, .ref (ad 15), .int 0, .ref (ad 17), .ref (ad 18), .int 0])), (ad 11, .inl (cyO, 3, .inr (.inr (.inr (.inr (va_up (fun _ => none) 0 (some q1409))))))), (ad 12, .inl (cyZ, 3, .inl (fun _ => 0))), (ad 9, .inr (5, [.ref (sd 0), .ref (sd 1), .ref (sd 2), .ref (sd 3), .ref (sd 4), .ref (sd 5), .ref (sd 6), .int 0, .int (-1), .int 0, .int 0, .int 0, .int 0])), (sd 0, .inl (cyI, 6, .inl (fun _ => 0))), (sd 1, .inl (cyI, 8, .inl (fun _ => 0))), (sd 2, .inl (cyI, 8, .inl (fun _ => 0))), (sd 3, .inl (cyI, 328, .inl (fun _ => 0))), (sd 4, .inl (cyI, 328, .inl (fun _ => 0))), (sd 5, .inl (cyI, 41, .inl (fun _ => 0))), (sd 6, .inl (cyI, 41, .inl (fun _ => 0))), (q1409, .inr (5, [.ref (u1425 0), .ref (u1425 1), .ref (u1425 2), .ref (u1425 3), .ref (u1425 4), .ref (u1425 5), .ref (u1425 6), .int 0, .int (-1), .int 0, .int 0, .int 0, .int 0])), (u1425 0, .inl (cyI, 6, .inl (fun _ => 0))), (u1425 1, .inl (cyI, 8, .inl (fun _ => 0))), (u1425 2, .inl (cyI, 8, .inl (fun _ => 0))), (u1425 3, .inl (cyI, 328, .inl (fun _ => 0))), (u1425 4, .inl (cyI, 328, .inl (fun _ => 0))), (u1425 5, .inl (cyI, 41, .inl (fun _ => 0))), (u1425 6, .inl (cyI, 41, .inl (fun _ => 0)))] := hD
    refine lv_aload_n hx hb dX6_image_45 rfl (lv_at hl 1 rfl) ?_
    refine va_get (D := (dC, dI)) (ci := 6) (v := .ref (ad 12)) (C := RX6) (T := TX6) (N := 20) hx hb hts hi6 hown hK hP 0 rfl rfl 12 (by decide) (hts _ (ow_m (k := 9) rfl)) (fun _ h9 => h9) rfl dX6_image_46 ?_
    refine lv_iload_n hx hb dX6_image_49 rfl (lv_at hl 2 rfl) ?_
    refine lv_iconst (v := 1) hx hb dX6_image_50 (by decide) ?_
    refine va_zast hx hb hK hP hD hS 2 3 rfl rfl (vp_i (a := 0) (by decide) (by decide) (by decide)) dX6_image_51 (fun H locs hP hD hS => ?_)
    have hP : va_P (dC, dI) vwCl [(h0, .inr (6, [.ref (ad 0), .int 0, .ref (ad 2), .ref (ad 3), .ref (ad 4), .ref (ad 5), .ref (ad 6), .int 0, .int 0, .ref (ad 9), .ref (ad 10), .ref (ad 11), .ref (ad 12), .ref (ad 13), .int 0, .ref (ad 15), .int 0, .ref (ad 17), .ref (ad 18), .int 0])), (ad 11, .inl (cyO, 3, .inr (.inr (.inr (.inr (va_up (fun _ => none) 0 (some q1409))))))), (ad 12, .inl (cyZ, 3, .inl (upd (fun _ => 0) 0 1))), (ad 9, .inr (5, [.ref (sd 0), .ref (sd 1), .ref (sd 2), .ref (sd 3), .ref (sd 4), .ref (sd 5), .ref (sd 6), .int 0, .int (-1), .int 0, .int 0, .int 0, .int 0])), (sd 0, .inl (cyI, 6, .inl (fun _ => 0))), (sd 1, .inl (cyI, 8, .inl (fun _ => 0))), (sd 2, .inl (cyI, 8, .inl (fun _ => 0))), (sd 3, .inl (cyI, 328, .inl (fun _ => 0))), (sd 4, .inl (cyI, 328, .inl (fun _ => 0))), (sd 5, .inl (cyI, 41, .inl (fun _ => 0))), (sd 6, .inl (cyI, 41, .inl (fun _ => 0))), (q1409, .inr (5, [.ref (u1425 0), .ref (u1425 1), .ref (u1425 2), .ref (u1425 3), .ref (u1425 4), .ref (u1425 5), .ref (u1425 6), .int 0, .int (-1), .int 0, .int 0, .int 0, .int 0])), (u1425 0, .inl (cyI, 6, .inl (fun _ => 0))), (u1425 1, .inl (cyI, 8, .inl (fun _ => 0))), (u1425 2, .inl (cyI, 8, .inl (fun _ => 0))), (u1425 3, .inl (cyI, 328, .inl (fun _ => 0))), (u1425 4, .inl (cyI, 328, .inl (fun _ => 0))), (u1425 5, .inl (cyI, 41, .inl (fun _ => 0))), (u1425 6, .inl (cyI, 41, .inl (fun _ => 0)))] H := hP
    have hD : va_D A [(h0, .inr (6, [.ref (ad 0), .int 0, .ref (ad 2), .ref (ad 3), .ref (ad 4), .ref (ad 5), .ref (ad 6), .int 0, .int 0, .ref (ad 9), .ref (ad 10), .ref (ad 11), .ref (ad 12), .ref (ad 13), .int 0, .ref (ad 15), .int 0, .ref (ad 17), .ref (ad 18), .int 0])), (ad 11, .inl (cyO, 3, .inr (.inr (.inr (.inr (va_up (fun _ => none) 0 (some q1409))))))), (ad 12, .inl (cyZ, 3, .inl (upd (fun _ => 0) 0 1))), (ad 9, .inr (5, [.ref (sd 0), .ref (sd 1), .ref (sd 2), .ref (sd 3), .ref (sd 4), .ref (sd 5), .ref (sd 6), .int 0, .int (-1), .int 0, .int 0, .int 0, .int 0])), (sd 0, .inl (cyI, 6, .inl (fun _ => 0))), (sd 1, .inl (cyI, 8, .inl (fun _ => 0))), (sd 2, .inl (cyI, 8, .inl (fun _ => 0))), (sd 3, .inl (cyI, 328, .inl (fun _ => 0))), (sd 4, .inl (cyI, 328, .inl (fun _ => 0))), (sd 5, .inl (cyI, 41, .inl (fun _ => 0))), (sd 6, .inl (cyI, 41, .inl (fun _ => 0))), (q1409, .inr (5, [.ref (u1425 0), .ref (u1425 1), .ref (u1425 2), .ref (u1425 3), .ref (u1425 4), .ref (u1425 5), .ref (u1425 6), .int 0, .int (-1), .int 0, .int 0, .int 0, .int 0])), (u1425 0, .inl (cyI, 6, .inl (fun _ => 0))), (u1425 1, .inl (cyI, 8, .inl (fun _ => 0))), (u1425 2, .inl (cyI, 8, .inl (fun _ => 0))), (u1425 3, .inl (cyI, 328, .inl (fun _ => 0))), (u1425 4, .inl (cyI, 328, .inl (fun _ => 0))), (u1425 5, .inl (cyI, 41, .inl (fun _ => 0))), (u1425 6, .inl (cyI, 41, .inl (fun _ => 0)))] := hD
    refine lv_aload_n hx hb dX6_image_52 rfl (lv_at hl 1 rfl) ?_
    refine va_get (D := (dC, dI)) (ci := 6) (v := .ref (ad 9)) (C := RX6) (T := TX6) (N := 20) hx hb hts hi6 hown hK hP 0 rfl rfl 9 (by decide) (hts _ (ow_m (k := 5) rfl)) (fun _ h9 => h9) rfl dX6_image_53 ?_
    refine va_get (D := (dC, dI)) (ci := 5) (v := .int 0) (C := RX5) (T := TX5) (N := 13) hx hb hts hi5 hown hK hP 3 rfl rfl 10 (by decide) (hts _ (ow_m (k := 10) rfl)) (fun _ h9 => h9) rfl dX6_image_56 ?_
    exact W.iret (v := 0) hx hb hr (fun t ht hW => ⟨⟨0, (), rfl, (by first | decide | (unfold sp_image; (repeat' split) <;> first | rfl | omega)), cE.nil⟩, hS.F ht⟩) hS.2.2 dX6_image_59
  have c1406i := i_ne (b := 0) c1406 rfl (by decide)
  by_cases c1428 : x1 = 1
  · subst c1428
    have tc1428 : (1 : Int32).toInt = 1 := by decide
    have hl : lv_has ls 3 [(0, .ref h0), (1, .int 1)] := hl
    refine lv_iload_n hx hb dX6_image_0 rfl (lv_at hl 1 rfl) ?_
    refine lv_if_lt (tgt := 9) hx hb dX6_image_1 (by decide) (fun c1429 => absurd c1429 (by decide)) (fun _ => ?_)
    refine lv_iload_n hx hb dX6_image_4 rfl (lv_at hl 1 rfl) ?_
    refine lv_iconst (v := 3) hx hb dX6_image_5 (by decide) ?_
    refine lv_icmp_lt (tgt := 11) hx hb dX6_image_6 (by decide) (fun _ => ?_) (fun c1430 => absurd (by decide) c1430)
    refine lv_aload_n hx hb dX6_image_11 rfl (lv_at hl 0 rfl) ?_
    refine va_get (D := (dC, dI)) (ci := 6) (v := .ref (ad 11)) (C := RX6) (T := TX6) (N := 20) hx hb hts hi6 hown hK hP 0 rfl rfl 11 (by decide) (hts _ (ow_m (k := 0) rfl)) (fun _ h9 => h9) rfl dX6_image_12 ?_
    refine lv_iload_n hx hb dX6_image_15 rfl (lv_at hl 1 rfl) ?_
    refine va_aldq hx hb hK hP 9 4 rfl rfl (vp_i (a := 1) (by decide) (by decide) (by decide)) dX6_image_16 ?_
    refine tp_v (w := .null) rfl ?_
    refine lv_astore_nN (lv' := [(2, .null), (0, .ref h0), (1, .int 1)]) hx hb dX6_image_17 rfl hl (by decide) rfl (fun ls hl => ?_)
    refine lv_aload_nN hx hb dX6_image_18 rfl (lv_at hl 0 rfl) ?_
    refine lv_ifnonnullN hx hb dX6_image_19 ?_
    refine va_new (ci := 5) (fs := [.null, .null, .null, .null, .null, .null, .null, .int 0, .int 0, .int 0, .int 0, .int 0, .int 0]) (C := RX5) (T := TX5) (N := 13) hx hb hts hi5 tyX5 tyX5_ok hown (hts _ (ow_m (k := 1) rfl)) (hts _ (ow_m (k := 2) rfl)) (hts _ (ow_m (k := 3) rfl)) hK hP hD hS hA rfl (by decide) (Nat.le_of_ble_eq_true rfl) (Nat.le_of_ble_eq_true rfl) dX6_image_22 (fun q1431 H hP hD hS => ?_)
    have hP : va_P (dC, dI) vwCl [(h0, .inr (6, [.ref (ad 0), .int 0, .ref (ad 2), .ref (ad 3), .ref (ad 4), .ref (ad 5), .ref (ad 6), .int 0, .int 0, .ref (ad 9), .ref (ad 10), .ref (ad 11), .ref (ad 12), .ref (ad 13), .int 0, .ref (ad 15), .int 0, .ref (ad 17), .ref (ad 18), .int 0])), (ad 9, .inr (5, [.ref (sd 0), .ref (sd 1), .ref (sd 2), .ref (sd 3), .ref (sd 4), .ref (sd 5), .ref (sd 6), .int 0, .int (-1), .int 0, .int 0, .int 0, .int 0])), (sd 0, .inl (cyI, 6, .inl (fun _ => 0))), (sd 1, .inl (cyI, 8, .inl (fun _ => 0))), (sd 2, .inl (cyI, 8, .inl (fun _ => 0))), (sd 3, .inl (cyI, 328, .inl (fun _ => 0))), (sd 4, .inl (cyI, 328, .inl (fun _ => 0))), (sd 5, .inl (cyI, 41, .inl (fun _ => 0))), (sd 6, .inl (cyI, 41, .inl (fun _ => 0))), (ad 11, .inl (cyO, 3, .inr (.inr (.inr (.inr (fun _ => none)))))), (ad 12, .inl (cyZ, 3, .inl (fun _ => 0))), (q1431, .inr (5, [.null, .null, .null, .null, .null, .null, .null, .int 0, .int 0, .int 0, .int 0, .int 0, .int 0]))] H := hP
    have hD : va_D A [(h0, .inr (6, [.ref (ad 0), .int 0, .ref (ad 2), .ref (ad 3), .ref (ad 4), .ref (ad 5), .ref (ad 6), .int 0, .int 0, .ref (ad 9), .ref (ad 10), .ref (ad 11), .ref (ad 12), .ref (ad 13), .int 0, .ref (ad 15), .int 0, .ref (ad 17), .ref (ad 18), .int 0])), (ad 9, .inr (5, [.ref (sd 0), .ref (sd 1), .ref (sd 2), .ref (sd 3), .ref (sd 4), .ref (sd 5), .ref (sd 6), .int 0, .int (-1), .int 0, .int 0, .int 0, .int 0])), (sd 0, .inl (cyI, 6, .inl (fun _ => 0))), (sd 1, .inl (cyI, 8, .inl (fun _ => 0))), (sd 2, .inl (cyI, 8, .inl (fun _ => 0))), (sd 3, .inl (cyI, 328, .inl (fun _ => 0))), (sd 4, .inl (cyI, 328, .inl (fun _ => 0))), (sd 5, .inl (cyI, 41, .inl (fun _ => 0))), (sd 6, .inl (cyI, 41, .inl (fun _ => 0))), (ad 11, .inl (cyO, 3, .inr (.inr (.inr (.inr (fun _ => none)))))), (ad 12, .inl (cyZ, 3, .inl (fun _ => 0))), (q1431, .inr (5, [.null, .null, .null, .null, .null, .null, .null, .int 0, .int 0, .int 0, .int 0, .int 0, .int 0]))] := hD
    refine W.widen (k := 1) (n := 13) (by omega) (by omega) ?_
    refine lv_dup hx hb dX6_image_25 rfl ?_
    refine gf_v (wr := [(h0, .inr (6, [.ref (ad 0), .int 0, .ref (ad 2), .ref (ad 3), .ref (ad 4), .ref (ad 5), .ref (ad 6), .int 0, .int 0, .ref (ad 9), .ref (ad 10), .ref (ad 11), .ref (ad 12), .ref (ad 13), .int 0, .ref (ad 15), .int 0, .ref (ad 17), .ref (ad 18), .int 0])), (ad 9, .inr (5, [.ref (sd 0), .ref (sd 1), .ref (sd 2), .ref (sd 3), .ref (sd 4), .ref (sd 5), .ref (sd 6), .int 0, .int (-1), .int 0, .int 0, .int 0, .int 0])), (sd 0, .inl (cyI, 6, .inl (fun _ => 0))), (sd 1, .inl (cyI, 8, .inl (fun _ => 0))), (sd 2, .inl (cyI, 8, .inl (fun _ => 0))), (sd 3, .inl (cyI, 328, .inl (fun _ => 0))), (sd 4, .inl (cyI, 328, .inl (fun _ => 0))), (sd 5, .inl (cyI, 41, .inl (fun _ => 0))), (sd 6, .inl (cyI, 41, .inl (fun _ => 0))), (ad 11, .inl (cyO, 3, .inr (.inr (.inr (.inr (fun _ => none)))))), (ad 12, .inl (cyZ, 3, .inl (fun _ => 0)))]) (va_runIN (As := []) (rest := [.ref q1431]) hfix (k_X5_init_v6 l dC dI cyB cyI cyJ cyZ cyO q1431 _) ⟨va_cnB 0 hts (gi_I (sb_c (sb_r (sb_r sb_l))) gd_k_X5_init_v6) rfl rfl rfl hKN.2.2.1 (hts _ (ow_m (k := 3) rfl)) (by decide +kernel) ⟨Nat.le_of_ble_eq_true rfl, Nat.le_of_ble_eq_true rfl⟩, rfl, (hts _ (ow_m (k := 4) rfl))⟩ (g_preS hKN hP hD [11] rfl (by decide)) rfl rfl hl.1 rfl (lv_room (Nat.le_of_ble_eq_true rfl)) dX6_image_26 ⟨Nat.le_of_ble_eq_true rfl, Nat.le_of_ble_eq_true rfl⟩) hP hD hS hA [11] [0, 1, 2, 3, 4, 5, 6, 7, 8, 9, 10] rfl rfl (by decide) (by decide) (fun u1447 H locs qu1447 hP hD hS => ?_)
    have hP : va_P (dC, dI) vwCl [(h0, .inr (6, [.ref (ad 0), .int 0, .ref (ad 2), .ref (ad 3), .ref (ad 4), .ref (ad 5), .ref (ad 6), .int 0, .int 0, .ref (ad 9), .ref (ad 10), .ref (ad 11), .ref (ad 12), .ref (ad 13), .int 0, .ref (ad 15), .int 0, .ref (ad 17), .ref (ad 18), .int 0])), (ad 9, .inr (5, [.ref (sd 0), .ref (sd 1), .ref (sd 2), .ref (sd 3), .ref (sd 4), .ref (sd 5), .ref (sd 6), .int 0, .int (-1), .int 0, .int 0, .int 0, .int 0])), (sd 0, .inl (cyI, 6, .inl (fun _ => 0))), (sd 1, .inl (cyI, 8, .inl (fun _ => 0))), (sd 2, .inl (cyI, 8, .inl (fun _ => 0))), (sd 3, .inl (cyI, 328, .inl (fun _ => 0))), (sd 4, .inl (cyI, 328, .inl (fun _ => 0))), (sd 5, .inl (cyI, 41, .inl (fun _ => 0))), (sd 6, .inl (cyI, 41, .inl (fun _ => 0))), (ad 11, .inl (cyO, 3, .inr (.inr (.inr (.inr (fun _ => none)))))), (ad 12, .inl (cyZ, 3, .inl (fun _ => 0))), (q1431, .inr (5, [.ref (u1447 0), .ref (u1447 1), .ref (u1447 2), .ref (u1447 3), .ref (u1447 4), .ref (u1447 5), .ref (u1447 6), .int 0, .int (-1), .int 0, .int 0, .int 0, .int 0])), (u1447 0, .inl (cyI, 6, .inl (fun _ => 0))), (u1447 1, .inl (cyI, 8, .inl (fun _ => 0))), (u1447 2, .inl (cyI, 8, .inl (fun _ => 0))), (u1447 3, .inl (cyI, 328, .inl (fun _ => 0))), (u1447 4, .inl (cyI, 328, .inl (fun _ => 0))), (u1447 5, .inl (cyI, 41, .inl (fun _ => 0))), (u1447 6, .inl (cyI, 41, .inl (fun _ => 0)))] H := hP
    have hD : va_D A [(h0, .inr (6, [.ref (ad 0), .int 0, .ref (ad 2), .ref (ad 3), .ref (ad 4), .ref (ad 5), .ref (ad 6), .int 0, .int 0, .ref (ad 9), .ref (ad 10), .ref (ad 11), .ref (ad 12), .ref (ad 13), .int 0, .ref (ad 15), .int 0, .ref (ad 17), .ref (ad 18), .int 0])), (ad 9, .inr (5, [.ref (sd 0), .ref (sd 1), .ref (sd 2), .ref (sd 3), .ref (sd 4), .ref (sd 5), .ref (sd 6), .int 0, .int (-1), .int 0, .int 0, .int 0, .int 0])), (sd 0, .inl (cyI, 6, .inl (fun _ => 0))), (sd 1, .inl (cyI, 8, .inl (fun _ => 0))), (sd 2, .inl (cyI, 8, .inl (fun _ => 0))), (sd 3, .inl (cyI, 328, .inl (fun _ => 0))), (sd 4, .inl (cyI, 328, .inl (fun _ => 0))), (sd 5, .inl (cyI, 41, .inl (fun _ => 0))), (sd 6, .inl (cyI, 41, .inl (fun _ => 0))), (ad 11, .inl (cyO, 3, .inr (.inr (.inr (.inr (fun _ => none)))))), (ad 12, .inl (cyZ, 3, .inl (fun _ => 0))), (q1431, .inr (5, [.ref (u1447 0), .ref (u1447 1), .ref (u1447 2), .ref (u1447 3), .ref (u1447 4), .ref (u1447 5), .ref (u1447 6), .int 0, .int (-1), .int 0, .int 0, .int 0, .int 0])), (u1447 0, .inl (cyI, 6, .inl (fun _ => 0))), (u1447 1, .inl (cyI, 8, .inl (fun _ => 0))), (u1447 2, .inl (cyI, 8, .inl (fun _ => 0))), (u1447 3, .inl (cyI, 328, .inl (fun _ => 0))), (u1447 4, .inl (cyI, 328, .inl (fun _ => 0))), (u1447 5, .inl (cyI, 41, .inl (fun _ => 0))), (u1447 6, .inl (cyI, 41, .inl (fun _ => 0)))] := hD
    refine W.widen (k := 8) (n := 773) (by omega) (by omega) ?_
    refine lv_astore_n (lv' := [(2, .ref q1431), (0, .ref h0), (1, .int 1)]) hx hb dX6_image_29 rfl hl (by decide) rfl (fun ls hl => ?_)
    refine lv_aload_n hx hb dX6_image_30 rfl (lv_at hl 1 rfl) ?_
    refine va_get (D := (dC, dI)) (ci := 6) (v := .ref (ad 11)) (C := RX6) (T := TX6) (N := 20) hx hb hts hi6 hown hK hP 0 rfl rfl 11 (by decide) (hts _ (ow_m (k := 0) rfl)) (fun _ h9 => h9) rfl dX6_image_31 ?_
    refine lv_iload_n hx hb dX6_image_34 rfl (lv_at hl 2 rfl) ?_
    refine lv_aload_n hx hb dX6_image_35 rfl (lv_at hl 0 rfl) ?_
    refine va_astq hx hb hK hP hD hS 9 4 11 5 rfl rfl rfl rfl (vp_i (a := 1) (by decide) (by decide) (by decide)) dX6_image_36 (fun H locs hP hD hS => ?_)
    have hP : va_P (dC, dI) vwCl [(h0, .inr (6, [.ref (ad 0), .int 0, .ref (ad 2), .ref (ad 3), .ref (ad 4), .ref (ad 5), .ref (ad 6), .int 0, .int 0, .ref (ad 9), .ref (ad 10), .ref (ad 11), .ref (ad 12), .ref (ad 13), .int 0, .ref (ad 15), .int 0, .ref (ad 17), .ref (ad 18), .int 0])), (ad 9, .inr (5, [.ref (sd 0), .ref (sd 1), .ref (sd 2), .ref (sd 3), .ref (sd 4), .ref (sd 5), .ref (sd 6), .int 0, .int (-1), .int 0, .int 0, .int 0, .int 0])), (sd 0, .inl (cyI, 6, .inl (fun _ => 0))), (sd 1, .inl (cyI, 8, .inl (fun _ => 0))), (sd 2, .inl (cyI, 8, .inl (fun _ => 0))), (sd 3, .inl (cyI, 328, .inl (fun _ => 0))), (sd 4, .inl (cyI, 328, .inl (fun _ => 0))), (sd 5, .inl (cyI, 41, .inl (fun _ => 0))), (sd 6, .inl (cyI, 41, .inl (fun _ => 0))), (ad 11, .inl (cyO, 3, .inr (.inr (.inr (.inr (va_up (fun _ => none) 1 (some q1431))))))), (ad 12, .inl (cyZ, 3, .inl (fun _ => 0))), (q1431, .inr (5, [.ref (u1447 0), .ref (u1447 1), .ref (u1447 2), .ref (u1447 3), .ref (u1447 4), .ref (u1447 5), .ref (u1447 6), .int 0, .int (-1), .int 0, .int 0, .int 0, .int 0])), (u1447 0, .inl (cyI, 6, .inl (fun _ => 0))), (u1447 1, .inl (cyI, 8, .inl (fun _ => 0))), (u1447 2, .inl (cyI, 8, .inl (fun _ => 0))), (u1447 3, .inl (cyI, 328, .inl (fun _ => 0))), (u1447 4, .inl (cyI, 328, .inl (fun _ => 0))), (u1447 5, .inl (cyI, 41, .inl (fun _ => 0))), (u1447 6, .inl (cyI, 41, .inl (fun _ => 0)))] H := hP
    have hD : va_D A [(h0, .inr (6, [.ref (ad 0), .int 0, .ref (ad 2), .ref (ad 3), .ref (ad 4), .ref (ad 5), .ref (ad 6), .int 0, .int 0, .ref (ad 9), .ref (ad 10), .ref (ad 11), .ref (ad 12), .ref (ad 13), .int 0, .ref (ad 15), .int 0, .ref (ad 17), .ref (ad 18), .int 0])), (ad 9, .inr (5, [.ref (sd 0), .ref (sd 1), .ref (sd 2), .ref (sd 3), .ref (sd 4), .ref (sd 5), .ref (sd 6), .int 0, .int (-1), .int 0, .int 0, .int 0, .int 0])), (sd 0, .inl (cyI, 6, .inl (fun _ => 0))), (sd 1, .inl (cyI, 8, .inl (fun _ => 0))), (sd 2, .inl (cyI, 8, .inl (fun _ => 0))), (sd 3, .inl (cyI, 328, .inl (fun _ => 0))), (sd 4, .inl (cyI, 328, .inl (fun _ => 0))), (sd 5, .inl (cyI, 41, .inl (fun _ => 0))), (sd 6, .inl (cyI, 41, .inl (fun _ => 0))), (ad 11, .inl (cyO, 3, .inr (.inr (.inr (.inr (va_up (fun _ => none) 1 (some q1431))))))), (ad 12, .inl (cyZ, 3, .inl (fun _ => 0))), (q1431, .inr (5, [.ref (u1447 0), .ref (u1447 1), .ref (u1447 2), .ref (u1447 3), .ref (u1447 4), .ref (u1447 5), .ref (u1447 6), .int 0, .int (-1), .int 0, .int 0, .int 0, .int 0])), (u1447 0, .inl (cyI, 6, .inl (fun _ => 0))), (u1447 1, .inl (cyI, 8, .inl (fun _ => 0))), (u1447 2, .inl (cyI, 8, .inl (fun _ => 0))), (u1447 3, .inl (cyI, 328, .inl (fun _ => 0))), (u1447 4, .inl (cyI, 328, .inl (fun _ => 0))), (u1447 5, .inl (cyI, 41, .inl (fun _ => 0))), (u1447 6, .inl (cyI, 41, .inl (fun _ => 0)))] := hD
    refine lv_aload_n hx hb dX6_image_37 rfl (lv_at hl 0 rfl) ?_
    refine lv_aload_n hx hb dX6_image_38 rfl (lv_at hl 1 rfl) ?_
    refine va_get (D := (dC, dI)) (ci := 6) (v := .ref (ad 9)) (C := RX6) (T := TX6) (N := 20) hx hb hts hi6 hown hK hP 0 rfl rfl 9 (by decide) (hts _ (ow_m (k := 5) rfl)) (fun _ h9 => h9) rfl dX6_image_39 ?_
    refine gf_v (wr := [(h0, .inr (6, [.ref (ad 0), .int 0, .ref (ad 2), .ref (ad 3), .ref (ad 4), .ref (ad 5), .ref (ad 6), .int 0, .int 0, .ref (ad 9), .ref (ad 10), .ref (ad 11), .ref (ad 12), .ref (ad 13), .int 0, .ref (ad 15), .int 0, .ref (ad 17), .ref (ad 18), .int 0])), (ad 11, .inl (cyO, 3, .inr (.inr (.inr (.inr (va_up (fun _ => none) 1 (some q1431))))))), (ad 12, .inl (cyZ, 3, .inl (fun _ => 0)))]) (va_runV (As := [.ref (ad 9)]) (rest := []) hfix (k_X5_copyFrom_v7 l dC dI cyB cyI cyJ cyZ cyO ad sd q1431 u1447 _) (cwV 1 hts (gi_V (ow_m (k := 6) rfl) (ow_m (k := 7) rfl) (ow_m (k := 8) rfl) (ow_m (k := 3) rfl) (sb_c (sb_r (sb_r (sb_r sb_l)))) gd_k_X5_copyFrom_v7) rfl rfl rfl (by decide +kernel) ⟨Nat.le_of_ble_eq_true rfl, Nat.le_of_ble_eq_true rfl⟩) (g_preV hKN hP hD [1, 2, 3, 4, 5, 6, 7, 8, 11, 12, 13, 14, 15, 16, 17, 18] rfl (by decide) 8 5 rfl rfl) rfl rfl hl.1 rfl (lv_room (Nat.le_of_ble_eq_true rfl)) dX6_image_42 ⟨Nat.le_of_ble_eq_true rfl, Nat.le_of_ble_eq_true rfl⟩) hP hD hS hA [1, 2, 3, 4, 5, 6, 7, 8, 11, 12, 13, 14, 15, 16, 17, 18] [0, 9, 10] rfl rfl (by decide) (by decide) (fun u1449 H locs qu1449 hP hD hS => ?_)
    have hP : va_P (dC, dI) vwCl [(h0, .inr (6, [.ref (ad 0), .int 0, .ref (ad 2), .ref (ad 3), .ref (ad 4), .ref (ad 5), .ref (ad 6), .int 0, .int 0, .ref (ad 9), .ref (ad 10), .ref (ad 11), .ref (ad 12), .ref (ad 13), .int 0, .ref (ad 15), .int 0, .ref (ad 17), .ref (ad 18), .int 0])), (ad 11, .inl (cyO, 3, .inr (.inr (.inr (.inr (va_up (fun _ => none) 1 (some q1431))))))), (ad 12, .inl (cyZ, 3, .inl (fun _ => 0))), (ad 9, .inr (5, [.ref (sd 0), .ref (sd 1), .ref (sd 2), .ref (sd 3), .ref (sd 4), .ref (sd 5), .ref (sd 6), .int 0, .int (-1), .int 0, .int 0, .int 0, .int 0])), (sd 0, .inl (cyI, 6, .inl (fun _ => 0))), (sd 1, .inl (cyI, 8, .inl (fun _ => 0))), (sd 2, .inl (cyI, 8, .inl (fun _ => 0))), (sd 3, .inl (cyI, 328, .inl (fun _ => 0))), (sd 4, .inl (cyI, 328, .inl (fun _ => 0))), (sd 5, .inl (cyI, 41, .inl (fun _ => 0))), (sd 6, .inl (cyI, 41, .inl (fun _ => 0))), (q1431, .inr (5, [.ref (u1447 0), .ref (u1447 1), .ref (u1447 2), .ref (u1447 3), .ref (u1447 4), .ref (u1447 5), .ref (u1447 6), .int 0, .int (-1), .int 0, .int 0, .int 0, .int 0])), (u1447 0, .inl (cyI, 6, .inl (fun _ => 0))), (u1447 1, .inl (cyI, 8, .inl (fun _ => 0))), (u1447 2, .inl (cyI, 8, .inl (fun _ => 0))), (u1447 3, .inl (cyI, 328, .inl (fun _ => 0))), (u1447 4, .inl (cyI, 328, .inl (fun _ => 0))), (u1447 5, .inl (cyI, 41, .inl (fun _ => 0))), (u1447 6, .inl (cyI, 41, .inl (fun _ => 0)))] H := hP
    have hD : va_D A [(h0, .inr (6, [.ref (ad 0), .int 0, .ref (ad 2), .ref (ad 3), .ref (ad 4), .ref (ad 5), .ref (ad 6), .int 0, .int 0, .ref (ad 9), .ref (ad 10), .ref (ad 11), .ref (ad 12), .ref (ad 13), .int 0, .ref (ad 15), .int 0, .ref (ad 17), .ref (ad 18), .int 0])), (ad 11, .inl (cyO, 3, .inr (.inr (.inr (.inr (va_up (fun _ => none) 1 (some q1431))))))), (ad 12, .inl (cyZ, 3, .inl (fun _ => 0))), (ad 9, .inr (5, [.ref (sd 0), .ref (sd 1), .ref (sd 2), .ref (sd 3), .ref (sd 4), .ref (sd 5), .ref (sd 6), .int 0, .int (-1), .int 0, .int 0, .int 0, .int 0])), (sd 0, .inl (cyI, 6, .inl (fun _ => 0))), (sd 1, .inl (cyI, 8, .inl (fun _ => 0))), (sd 2, .inl (cyI, 8, .inl (fun _ => 0))), (sd 3, .inl (cyI, 328, .inl (fun _ => 0))), (sd 4, .inl (cyI, 328, .inl (fun _ => 0))), (sd 5, .inl (cyI, 41, .inl (fun _ => 0))), (sd 6, .inl (cyI, 41, .inl (fun _ => 0))), (q1431, .inr (5, [.ref (u1447 0), .ref (u1447 1), .ref (u1447 2), .ref (u1447 3), .ref (u1447 4), .ref (u1447 5), .ref (u1447 6), .int 0, .int (-1), .int 0, .int 0, .int 0, .int 0])), (u1447 0, .inl (cyI, 6, .inl (fun _ => 0))), (u1447 1, .inl (cyI, 8, .inl (fun _ => 0))), (u1447 2, .inl (cyI, 8, .inl (fun _ => 0))), (u1447 3, .inl (cyI, 328, .inl (fun _ => 0))), (u1447 4, .inl (cyI, 328, .inl (fun _ => 0))), (u1447 5, .inl (cyI, 41, .inl (fun _ => 0))), (u1447 6, .inl (cyI, 41, .inl (fun _ => 0)))] := hD
    refine lv_aload_n hx hb dX6_image_45 rfl (lv_at hl 1 rfl) ?_
    refine va_get (D := (dC, dI)) (ci := 6) (v := .ref (ad 12)) (C := RX6) (T := TX6) (N := 20) hx hb hts hi6 hown hK hP 0 rfl rfl 12 (by decide) (hts _ (ow_m (k := 9) rfl)) (fun _ h9 => h9) rfl dX6_image_46 ?_
    refine lv_iload_n hx hb dX6_image_49 rfl (lv_at hl 2 rfl) ?_
    refine lv_iconst (v := 1) hx hb dX6_image_50 (by decide) ?_
    refine va_zast hx hb hK hP hD hS 2 3 rfl rfl (vp_i (a := 1) (by decide) (by decide) (by decide)) dX6_image_51 (fun H locs hP hD hS => ?_)
    have hP : va_P (dC, dI) vwCl [(h0, .inr (6, [.ref (ad 0), .int 0, .ref (ad 2), .ref (ad 3), .ref (ad 4), .ref (ad 5), .ref (ad 6), .int 0, .int 0, .ref (ad 9), .ref (ad 10), .ref (ad 11), .ref (ad 12), .ref (ad 13), .int 0, .ref (ad 15), .int 0, .ref (ad 17), .ref (ad 18), .int 0])), (ad 11, .inl (cyO, 3, .inr (.inr (.inr (.inr (va_up (fun _ => none) 1 (some q1431))))))), (ad 12, .inl (cyZ, 3, .inl (upd (fun _ => 0) 1 1))), (ad 9, .inr (5, [.ref (sd 0), .ref (sd 1), .ref (sd 2), .ref (sd 3), .ref (sd 4), .ref (sd 5), .ref (sd 6), .int 0, .int (-1), .int 0, .int 0, .int 0, .int 0])), (sd 0, .inl (cyI, 6, .inl (fun _ => 0))), (sd 1, .inl (cyI, 8, .inl (fun _ => 0))), (sd 2, .inl (cyI, 8, .inl (fun _ => 0))), (sd 3, .inl (cyI, 328, .inl (fun _ => 0))), (sd 4, .inl (cyI, 328, .inl (fun _ => 0))), (sd 5, .inl (cyI, 41, .inl (fun _ => 0))), (sd 6, .inl (cyI, 41, .inl (fun _ => 0))), (q1431, .inr (5, [.ref (u1447 0), .ref (u1447 1), .ref (u1447 2), .ref (u1447 3), .ref (u1447 4), .ref (u1447 5), .ref (u1447 6), .int 0, .int (-1), .int 0, .int 0, .int 0, .int 0])), (u1447 0, .inl (cyI, 6, .inl (fun _ => 0))), (u1447 1, .inl (cyI, 8, .inl (fun _ => 0))), (u1447 2, .inl (cyI, 8, .inl (fun _ => 0))), (u1447 3, .inl (cyI, 328, .inl (fun _ => 0))), (u1447 4, .inl (cyI, 328, .inl (fun _ => 0))), (u1447 5, .inl (cyI, 41, .inl (fun _ => 0))), (u1447 6, .inl (cyI, 41, .inl (fun _ => 0)))] H := hP
    have hD : va_D A [(h0, .inr (6, [.ref (ad 0), .int 0, .ref (ad 2), .ref (ad 3), .ref (ad 4), .ref (ad 5), .ref (ad 6), .int 0, .int 0, .ref (ad 9), .ref (ad 10), .ref (ad 11), .ref (ad 12), .ref (ad 13), .int 0, .ref (ad 15), .int 0, .ref (ad 17), .ref (ad 18), .int 0])), (ad 11, .inl (cyO, 3, .inr (.inr (.inr (.inr (va_up (fun _ => none) 1 (some q1431))))))), (ad 12, .inl (cyZ, 3, .inl (upd (fun _ => 0) 1 1))), (ad 9, .inr (5, [.ref (sd 0), .ref (sd 1), .ref (sd 2), .ref (sd 3), .ref (sd 4), .ref (sd 5), .ref (sd 6), .int 0, .int (-1), .int 0, .int 0, .int 0, .int 0])), (sd 0, .inl (cyI, 6, .inl (fun _ => 0))), (sd 1, .inl (cyI, 8, .inl (fun _ => 0))), (sd 2, .inl (cyI, 8, .inl (fun _ => 0))), (sd 3, .inl (cyI, 328, .inl (fun _ => 0))), (sd 4, .inl (cyI, 328, .inl (fun _ => 0))), (sd 5, .inl (cyI, 41, .inl (fun _ => 0))), (sd 6, .inl (cyI, 41, .inl (fun _ => 0))), (q1431, .inr (5, [.ref (u1447 0), .ref (u1447 1), .ref (u1447 2), .ref (u1447 3), .ref (u1447 4), .ref (u1447 5), .ref (u1447 6), .int 0, .int (-1), .int 0, .int 0, .int 0, .int 0])), (u1447 0, .inl (cyI, 6, .inl (fun _ => 0))), (u1447 1, .inl (cyI, 8, .inl (fun _ => 0))), (u1447 2, .inl (cyI, 8, .inl (fun _ => 0))), (u1447 3, .inl (cyI, 328, .inl (fun _ => 0))), (u1447 4, .inl (cyI, 328, .inl (fun _ => 0))), (u1447 5, .inl (cyI, 41, .inl (fun _ => 0))), (u1447 6, .inl (cyI, 41, .inl (fun _ => 0)))] := hD
    refine lv_aload_n hx hb dX6_image_52 rfl (lv_at hl 1 rfl) ?_
    refine va_get (D := (dC, dI)) (ci := 6) (v := .ref (ad 9)) (C := RX6) (T := TX6) (N := 20) hx hb hts hi6 hown hK hP 0 rfl rfl 9 (by decide) (hts _ (ow_m (k := 5) rfl)) (fun _ h9 => h9) rfl dX6_image_53 ?_
    refine va_get (D := (dC, dI)) (ci := 5) (v := .int 0) (C := RX5) (T := TX5) (N := 13) hx hb hts hi5 hown hK hP 3 rfl rfl 10 (by decide) (hts _ (ow_m (k := 10) rfl)) (fun _ h9 => h9) rfl dX6_image_56 ?_
    exact W.iret (v := 0) hx hb hr (fun t ht hW => ⟨⟨0, (), rfl, (by first | decide | (unfold sp_image; (repeat' split) <;> first | rfl | omega)), cE.nil⟩, hS.F ht⟩) hS.2.2 dX6_image_59
  have c1428i := i_ne (b := 1) c1428 rfl (by decide)
  by_cases c1450 : x1 = 2
  · subst c1450
    have tc1450 : (2 : Int32).toInt = 2 := by decide
    have hl : lv_has ls 3 [(0, .ref h0), (1, .int 2)] := hl
    refine lv_iload_n hx hb dX6_image_0 rfl (lv_at hl 1 rfl) ?_
    refine lv_if_lt (tgt := 9) hx hb dX6_image_1 (by decide) (fun c1451 => absurd c1451 (by decide)) (fun _ => ?_)
    refine lv_iload_n hx hb dX6_image_4 rfl (lv_at hl 1 rfl) ?_
    refine lv_iconst (v := 3) hx hb dX6_image_5 (by decide) ?_
    refine lv_icmp_lt (tgt := 11) hx hb dX6_image_6 (by decide) (fun _ => ?_) (fun c1452 => absurd (by decide) c1452)
    refine lv_aload_n hx hb dX6_image_11 rfl (lv_at hl 0 rfl) ?_
    refine va_get (D := (dC, dI)) (ci := 6) (v := .ref (ad 11)) (C := RX6) (T := TX6) (N := 20) hx hb hts hi6 hown hK hP 0 rfl rfl 11 (by decide) (hts _ (ow_m (k := 0) rfl)) (fun _ h9 => h9) rfl dX6_image_12 ?_
    refine lv_iload_n hx hb dX6_image_15 rfl (lv_at hl 1 rfl) ?_
    refine va_aldq hx hb hK hP 9 4 rfl rfl (vp_i (a := 2) (by decide) (by decide) (by decide)) dX6_image_16 ?_
    refine tp_v (w := .null) rfl ?_
    refine lv_astore_nN (lv' := [(2, .null), (0, .ref h0), (1, .int 2)]) hx hb dX6_image_17 rfl hl (by decide) rfl (fun ls hl => ?_)
    refine lv_aload_nN hx hb dX6_image_18 rfl (lv_at hl 0 rfl) ?_
    refine lv_ifnonnullN hx hb dX6_image_19 ?_
    refine va_new (ci := 5) (fs := [.null, .null, .null, .null, .null, .null, .null, .int 0, .int 0, .int 0, .int 0, .int 0, .int 0]) (C := RX5) (T := TX5) (N := 13) hx hb hts hi5 tyX5 tyX5_ok hown (hts _ (ow_m (k := 1) rfl)) (hts _ (ow_m (k := 2) rfl)) (hts _ (ow_m (k := 3) rfl)) hK hP hD hS hA rfl (by decide) (Nat.le_of_ble_eq_true rfl) (Nat.le_of_ble_eq_true rfl) dX6_image_22 (fun q1453 H hP hD hS => ?_)
    have hP : va_P (dC, dI) vwCl [(h0, .inr (6, [.ref (ad 0), .int 0, .ref (ad 2), .ref (ad 3), .ref (ad 4), .ref (ad 5), .ref (ad 6), .int 0, .int 0, .ref (ad 9), .ref (ad 10), .ref (ad 11), .ref (ad 12), .ref (ad 13), .int 0, .ref (ad 15), .int 0, .ref (ad 17), .ref (ad 18), .int 0])), (ad 9, .inr (5, [.ref (sd 0), .ref (sd 1), .ref (sd 2), .ref (sd 3), .ref (sd 4), .ref (sd 5), .ref (sd 6), .int 0, .int (-1), .int 0, .int 0, .int 0, .int 0])), (sd 0, .inl (cyI, 6, .inl (fun _ => 0))), (sd 1, .inl (cyI, 8, .inl (fun _ => 0))), (sd 2, .inl (cyI, 8, .inl (fun _ => 0))), (sd 3, .inl (cyI, 328, .inl (fun _ => 0))), (sd 4, .inl (cyI, 328, .inl (fun _ => 0))), (sd 5, .inl (cyI, 41, .inl (fun _ => 0))), (sd 6, .inl (cyI, 41, .inl (fun _ => 0))), (ad 11, .inl (cyO, 3, .inr (.inr (.inr (.inr (fun _ => none)))))), (ad 12, .inl (cyZ, 3, .inl (fun _ => 0))), (q1453, .inr (5, [.null, .null, .null, .null, .null, .null, .null, .int 0, .int 0, .int 0, .int 0, .int 0, .int 0]))] H := hP
    have hD : va_D A [(h0, .inr (6, [.ref (ad 0), .int 0, .ref (ad 2), .ref (ad 3), .ref (ad 4), .ref (ad 5), .ref (ad 6), .int 0, .int 0, .ref (ad 9), .ref (ad 10), .ref (ad 11), .ref (ad 12), .ref (ad 13), .int 0, .ref (ad 15), .int 0, .ref (ad 17), .ref (ad 18), .int 0])), (ad 9, .inr (5, [.ref (sd 0), .ref (sd 1), .ref (sd 2), .ref (sd 3), .ref (sd 4), .ref (sd 5), .ref (sd 6), .int 0, .int (-1), .int 0, .int 0, .int 0, .int 0])), (sd 0, .inl (cyI, 6, .inl (fun _ => 0))), (sd 1, .inl (cyI, 8, .inl (fun _ => 0))), (sd 2, .inl (cyI, 8, .inl (fun _ => 0))), (sd 3, .inl (cyI, 328, .inl (fun _ => 0))), (sd 4, .inl (cyI, 328, .inl (fun _ => 0))), (sd 5, .inl (cyI, 41, .inl (fun _ => 0))), (sd 6, .inl (cyI, 41, .inl (fun _ => 0))), (ad 11, .inl (cyO, 3, .inr (.inr (.inr (.inr (fun _ => none)))))), (ad 12, .inl (cyZ, 3, .inl (fun _ => 0))), (q1453, .inr (5, [.null, .null, .null, .null, .null, .null, .null, .int 0, .int 0, .int 0, .int 0, .int 0, .int 0]))] := hD
    refine W.widen (k := 1) (n := 13) (by omega) (by omega) ?_
    refine lv_dup hx hb dX6_image_25 rfl ?_
    refine gf_v (wr := [(h0, .inr (6, [.ref (ad 0), .int 0, .ref (ad 2), .ref (ad 3), .ref (ad 4), .ref (ad 5), .ref (ad 6), .int 0, .int 0, .ref (ad 9), .ref (ad 10), .ref (ad 11), .ref (ad 12), .ref (ad 13), .int 0, .ref (ad 15), .int 0, .ref (ad 17), .ref (ad 18), .int 0])), (ad 9, .inr (5, [.ref (sd 0), .ref (sd 1), .ref (sd 2), .ref (sd 3), .ref (sd 4), .ref (sd 5), .ref (sd 6), .int 0, .int (-1), .int 0, .int 0, .int 0, .int 0])), (sd 0, .inl (cyI, 6, .inl (fun _ => 0))), (sd 1, .inl (cyI, 8, .inl (fun _ => 0))), (sd 2, .inl (cyI, 8, .inl (fun _ => 0))), (sd 3, .inl (cyI, 328, .inl (fun _ => 0))), (sd 4, .inl (cyI, 328, .inl (fun _ => 0))), (sd 5, .inl (cyI, 41, .inl (fun _ => 0))), (sd 6, .inl (cyI, 41, .inl (fun _ => 0))), (ad 11, .inl (cyO, 3, .inr (.inr (.inr (.inr (fun _ => none)))))), (ad 12, .inl (cyZ, 3, .inl (fun _ => 0)))]) (va_runIN (As := []) (rest := [.ref q1453]) hfix (k_X5_init_v7 l dC dI cyB cyI cyJ cyZ cyO q1453 _) ⟨va_cnB 0 hts (gi_I (sb_c (sb_r (sb_r (sb_r (sb_r sb_l))))) gd_k_X5_init_v7) rfl rfl rfl hKN.2.2.1 (hts _ (ow_m (k := 3) rfl)) (by decide +kernel) ⟨Nat.le_of_ble_eq_true rfl, Nat.le_of_ble_eq_true rfl⟩, rfl, (hts _ (ow_m (k := 4) rfl))⟩ (g_preS hKN hP hD [11] rfl (by decide)) rfl rfl hl.1 rfl (lv_room (Nat.le_of_ble_eq_true rfl)) dX6_image_26 ⟨Nat.le_of_ble_eq_true rfl, Nat.le_of_ble_eq_true rfl⟩) hP hD hS hA [11] [0, 1, 2, 3, 4, 5, 6, 7, 8, 9, 10] rfl rfl (by decide) (by decide) (fun u1469 H locs qu1469 hP hD hS => ?_)
    have hP : va_P (dC, dI) vwCl [(h0, .inr (6, [.ref (ad 0), .int 0, .ref (ad 2), .ref (ad 3), .ref (ad 4), .ref (ad 5), .ref (ad 6), .int 0, .int 0, .ref (ad 9), .ref (ad 10), .ref (ad 11), .ref (ad 12), .ref (ad 13), .int 0, .ref (ad 15), .int 0, .ref (ad 17), .ref (ad 18), .int 0])), (ad 9, .inr (5, [.ref (sd 0), .ref (sd 1), .ref (sd 2), .ref (sd 3), .ref (sd 4), .ref (sd 5), .ref (sd 6), .int 0, .int (-1), .int 0, .int 0, .int 0, .int 0])), (sd 0, .inl (cyI, 6, .inl (fun _ => 0))), (sd 1, .inl (cyI, 8, .inl (fun _ => 0))), (sd 2, .inl (cyI, 8, .inl (fun _ => 0))), (sd 3, .inl (cyI, 328, .inl (fun _ => 0))), (sd 4, .inl (cyI, 328, .inl (fun _ => 0))), (sd 5, .inl (cyI, 41, .inl (fun _ => 0))), (sd 6, .inl (cyI, 41, .inl (fun _ => 0))), (ad 11, .inl (cyO, 3, .inr (.inr (.inr (.inr (fun _ => none)))))), (ad 12, .inl (cyZ, 3, .inl (fun _ => 0))), (q1453, .inr (5, [.ref (u1469 0), .ref (u1469 1), .ref (u1469 2), .ref (u1469 3), .ref (u1469 4), .ref (u1469 5), .ref (u1469 6), .int 0, .int (-1), .int 0, .int 0, .int 0, .int 0])), (u1469 0, .inl (cyI, 6, .inl (fun _ => 0))), (u1469 1, .inl (cyI, 8, .inl (fun _ => 0))), (u1469 2, .inl (cyI, 8, .inl (fun _ => 0))), (u1469 3, .inl (cyI, 328, .inl (fun _ => 0))), (u1469 4, .inl (cyI, 328, .inl (fun _ => 0))), (u1469 5, .inl (cyI, 41, .inl (fun _ => 0))), (u1469 6, .inl (cyI, 41, .inl (fun _ => 0)))] H := hP
    have hD : va_D A [(h0, .inr (6, [.ref (ad 0), .int 0, .ref (ad 2), .ref (ad 3), .ref (ad 4), .ref (ad 5), .ref (ad 6), .int 0, .int 0, .ref (ad 9), .ref (ad 10), .ref (ad 11), .ref (ad 12), .ref (ad 13), .int 0, .ref (ad 15), .int 0, .ref (ad 17), .ref (ad 18), .int 0])), (ad 9, .inr (5, [.ref (sd 0), .ref (sd 1), .ref (sd 2), .ref (sd 3), .ref (sd 4), .ref (sd 5), .ref (sd 6), .int 0, .int (-1), .int 0, .int 0, .int 0, .int 0])), (sd 0, .inl (cyI, 6, .inl (fun _ => 0))), (sd 1, .inl (cyI, 8, .inl (fun _ => 0))), (sd 2, .inl (cyI, 8, .inl (fun _ => 0))), (sd 3, .inl (cyI, 328, .inl (fun _ => 0))), (sd 4, .inl (cyI, 328, .inl (fun _ => 0))), (sd 5, .inl (cyI, 41, .inl (fun _ => 0))), (sd 6, .inl (cyI, 41, .inl (fun _ => 0))), (ad 11, .inl (cyO, 3, .inr (.inr (.inr (.inr (fun _ => none)))))), (ad 12, .inl (cyZ, 3, .inl (fun _ => 0))), (q1453, .inr (5, [.ref (u1469 0), .ref (u1469 1), .ref (u1469 2), .ref (u1469 3), .ref (u1469 4), .ref (u1469 5), .ref (u1469 6), .int 0, .int (-1), .int 0, .int 0, .int 0, .int 0])), (u1469 0, .inl (cyI, 6, .inl (fun _ => 0))), (u1469 1, .inl (cyI, 8, .inl (fun _ => 0))), (u1469 2, .inl (cyI, 8, .inl (fun _ => 0))), (u1469 3, .inl (cyI, 328, .inl (fun _ => 0))), (u1469 4, .inl (cyI, 328, .inl (fun _ => 0))), (u1469 5, .inl (cyI, 41, .inl (fun _ => 0))), (u1469 6, .inl (cyI, 41, .inl (fun _ => 0)))] := hD
    refine W.widen (k := 8) (n := 773) (by omega) (by omega) ?_
    refine lv_astore_n (lv' := [(2, .ref q1453), (0, .ref h0), (1, .int 2)]) hx hb dX6_image_29 rfl hl (by decide) rfl (fun ls hl => ?_)
    refine lv_aload_n hx hb dX6_image_30 rfl (lv_at hl 1 rfl) ?_
    refine va_get (D := (dC, dI)) (ci := 6) (v := .ref (ad 11)) (C := RX6) (T := TX6) (N := 20) hx hb hts hi6 hown hK hP 0 rfl rfl 11 (by decide) (hts _ (ow_m (k := 0) rfl)) (fun _ h9 => h9) rfl dX6_image_31 ?_
    refine lv_iload_n hx hb dX6_image_34 rfl (lv_at hl 2 rfl) ?_
    refine lv_aload_n hx hb dX6_image_35 rfl (lv_at hl 0 rfl) ?_
    refine va_astq hx hb hK hP hD hS 9 4 11 5 rfl rfl rfl rfl (vp_i (a := 2) (by decide) (by decide) (by decide)) dX6_image_36 (fun H locs hP hD hS => ?_)
    have hP : va_P (dC, dI) vwCl [(h0, .inr (6, [.ref (ad 0), .int 0, .ref (ad 2), .ref (ad 3), .ref (ad 4), .ref (ad 5), .ref (ad 6), .int 0, .int 0, .ref (ad 9), .ref (ad 10), .ref (ad 11), .ref (ad 12), .ref (ad 13), .int 0, .ref (ad 15), .int 0, .ref (ad 17), .ref (ad 18), .int 0])), (ad 9, .inr (5, [.ref (sd 0), .ref (sd 1), .ref (sd 2), .ref (sd 3), .ref (sd 4), .ref (sd 5), .ref (sd 6), .int 0, .int (-1), .int 0, .int 0, .int 0, .int 0])), (sd 0, .inl (cyI, 6, .inl (fun _ => 0))), (sd 1, .inl (cyI, 8, .inl (fun _ => 0))), (sd 2, .inl (cyI, 8, .inl (fun _ => 0))), (sd 3, .inl (cyI, 328, .inl (fun _ => 0))), (sd 4, .inl (cyI, 328, .inl (fun _ => 0))), (sd 5, .inl (cyI, 41, .inl (fun _ => 0))), (sd 6, .inl (cyI, 41, .inl (fun _ => 0))), (ad 11, .inl (cyO, 3, .inr (.inr (.inr (.inr (va_up (fun _ => none) 2 (some q1453))))))), (ad 12, .inl (cyZ, 3, .inl (fun _ => 0))), (q1453, .inr (5, [.ref (u1469 0), .ref (u1469 1), .ref (u1469 2), .ref (u1469 3), .ref (u1469 4), .ref (u1469 5), .ref (u1469 6), .int 0, .int (-1), .int 0, .int 0, .int 0, .int 0])), (u1469 0, .inl (cyI, 6, .inl (fun _ => 0))), (u1469 1, .inl (cyI, 8, .inl (fun _ => 0))), (u1469 2, .inl (cyI, 8, .inl (fun _ => 0))), (u1469 3, .inl (cyI, 328, .inl (fun _ => 0))), (u1469 4, .inl (cyI, 328, .inl (fun _ => 0))), (u1469 5, .inl (cyI, 41, .inl (fun _ => 0))), (u1469 6, .inl (cyI, 41, .inl (fun _ => 0)))] H := hP
    have hD : va_D A [(h0, .inr (6, [.ref (ad 0), .int 0, .ref (ad 2), .ref (ad 3), .ref (ad 4), .ref (ad 5), .ref (ad 6), .int 0, .int 0, .ref (ad 9), .ref (ad 10), .ref (ad 11), .ref (ad 12), .ref (ad 13), .int 0, .ref (ad 15), .int 0, .ref (ad 17), .ref (ad 18), .int 0])), (ad 9, .inr (5, [.ref (sd 0), .ref (sd 1), .ref (sd 2), .ref (sd 3), .ref (sd 4), .ref (sd 5), .ref (sd 6), .int 0, .int (-1), .int 0, .int 0, .int 0, .int 0])), (sd 0, .inl (cyI, 6, .inl (fun _ => 0))), (sd 1, .inl (cyI, 8, .inl (fun _ => 0))), (sd 2, .inl (cyI, 8, .inl (fun _ => 0))), (sd 3, .inl (cyI, 328, .inl (fun _ => 0))), (sd 4, .inl (cyI, 328, .inl (fun _ => 0))), (sd 5, .inl (cyI, 41, .inl (fun _ => 0))), (sd 6, .inl (cyI, 41, .inl (fun _ => 0))), (ad 11, .inl (cyO, 3, .inr (.inr (.inr (.inr (va_up (fun _ => none) 2 (some q1453))))))), (ad 12, .inl (cyZ, 3, .inl (fun _ => 0))), (q1453, .inr (5, [.ref (u1469 0), .ref (u1469 1), .ref (u1469 2), .ref (u1469 3), .ref (u1469 4), .ref (u1469 5), .ref (u1469 6), .int 0, .int (-1), .int 0, .int 0, .int 0, .int 0])), (u1469 0, .inl (cyI, 6, .inl (fun _ => 0))), (u1469 1, .inl (cyI, 8, .inl (fun _ => 0))), (u1469 2, .inl (cyI, 8, .inl (fun _ => 0))), (u1469 3, .inl (cyI, 328, .inl (fun _ => 0))), (u1469 4, .inl (cyI, 328, .inl (fun _ => 0))), (u1469 5, .inl (cyI, 41, .inl (fun _ => 0))), (u1469 6, .inl (cyI, 41, .inl (fun _ => 0)))] := hD
    refine lv_aload_n hx hb dX6_image_37 rfl (lv_at hl 0 rfl) ?_
    refine lv_aload_n hx hb dX6_image_38 rfl (lv_at hl 1 rfl) ?_
    refine va_get (D := (dC, dI)) (ci := 6) (v := .ref (ad 9)) (C := RX6) (T := TX6) (N := 20) hx hb hts hi6 hown hK hP 0 rfl rfl 9 (by decide) (hts _ (ow_m (k := 5) rfl)) (fun _ h9 => h9) rfl dX6_image_39 ?_
    refine gf_v (wr := [(h0, .inr (6, [.ref (ad 0), .int 0, .ref (ad 2), .ref (ad 3), .ref (ad 4), .ref (ad 5), .ref (ad 6), .int 0, .int 0, .ref (ad 9), .ref (ad 10), .ref (ad 11), .ref (ad 12), .ref (ad 13), .int 0, .ref (ad 15), .int 0, .ref (ad 17), .ref (ad 18), .int 0])), (ad 11, .inl (cyO, 3, .inr (.inr (.inr (.inr (va_up (fun _ => none) 2 (some q1453))))))), (ad 12, .inl (cyZ, 3, .inl (fun _ => 0)))]) (va_runV (As := [.ref (ad 9)]) (rest := []) hfix (k_X5_copyFrom_v8 l dC dI cyB cyI cyJ cyZ cyO ad sd q1453 u1469 _) (cwV 1 hts (gi_V (ow_m (k := 6) rfl) (ow_m (k := 7) rfl) (ow_m (k := 8) rfl) (ow_m (k := 3) rfl) (sb_c (sb_r (sb_r (sb_r (sb_r (sb_r sb_l)))))) gd_k_X5_copyFrom_v8) rfl rfl rfl (by decide +kernel) ⟨Nat.le_of_ble_eq_true rfl, Nat.le_of_ble_eq_true rfl⟩) (g_preV hKN hP hD [1, 2, 3, 4, 5, 6, 7, 8, 11, 12, 13, 14, 15, 16, 17, 18] rfl (by decide) 8 5 rfl rfl) rfl rfl hl.1 rfl (lv_room (Nat.le_of_ble_eq_true rfl)) dX6_image_42 ⟨Nat.le_of_ble_eq_true rfl, Nat.le_of_ble_eq_true rfl⟩) hP hD hS hA [1, 2, 3, 4, 5, 6, 7, 8, 11, 12, 13, 14, 15, 16, 17, 18] [0, 9, 10] rfl rfl (by decide) (by decide) (fun u1471 H locs qu1471 hP hD hS => ?_)
    have hP : va_P (dC, dI) vwCl [(h0, .inr (6, [.ref (ad 0), .int 0, .ref (ad 2), .ref (ad 3), .ref (ad 4), .ref (ad 5), .ref (ad 6), .int 0, .int 0, .ref (ad 9), .ref (ad 10), .ref (ad 11), .ref (ad 12), .ref (ad 13), .int 0, .ref (ad 15), .int 0, .ref (ad 17), .ref (ad 18), .int 0])), (ad 11, .inl (cyO, 3, .inr (.inr (.inr (.inr (va_up (fun _ => none) 2 (some q1453))))))), (ad 12, .inl (cyZ, 3, .inl (fun _ => 0))), (ad 9, .inr (5, [.ref (sd 0), .ref (sd 1), .ref (sd 2), .ref (sd 3), .ref (sd 4), .ref (sd 5), .ref (sd 6), .int 0, .int (-1), .int 0, .int 0, .int 0, .int 0])), (sd 0, .inl (cyI, 6, .inl (fun _ => 0))), (sd 1, .inl (cyI, 8, .inl (fun _ => 0))), (sd 2, .inl (cyI, 8, .inl (fun _ => 0))), (sd 3, .inl (cyI, 328, .inl (fun _ => 0))), (sd 4, .inl (cyI, 328, .inl (fun _ => 0))), (sd 5, .inl (cyI, 41, .inl (fun _ => 0))), (sd 6, .inl (cyI, 41, .inl (fun _ => 0))), (q1453, .inr (5, [.ref (u1469 0), .ref (u1469 1), .ref (u1469 2), .ref (u1469 3), .ref (u1469 4), .ref (u1469 5), .ref (u1469 6), .int 0, .int (-1), .int 0, .int 0, .int 0, .int 0])), (u1469 0, .inl (cyI, 6, .inl (fun _ => 0))), (u1469 1, .inl (cyI, 8, .inl (fun _ => 0))), (u1469 2, .inl (cyI, 8, .inl (fun _ => 0))), (u1469 3, .inl (cyI, 328, .inl (fun _ => 0))), (u1469 4, .inl (cyI, 328, .inl (fun _ => 0))), (u1469 5, .inl (cyI, 41, .inl (fun _ => 0))), (u1469 6, .inl (cyI, 41, .inl (fun _ => 0)))] H := hP
    have hD : va_D A [(h0, .inr (6, [.ref (ad 0), .int 0, .ref (ad 2), .ref (ad 3), .ref (ad 4), .ref (ad 5), .ref (ad 6), .int 0, .int 0, .ref (ad 9), .ref (ad 10), .ref (ad 11), .ref (ad 12), .ref (ad 13), .int 0, .ref (ad 15), .int 0, .ref (ad 17), .ref (ad 18), .int 0])), (ad 11, .inl (cyO, 3, .inr (.inr (.inr (.inr (va_up (fun _ => none) 2 (some q1453))))))), (ad 12, .inl (cyZ, 3, .inl (fun _ => 0))), (ad 9, .inr (5, [.ref (sd 0), .ref (sd 1), .ref (sd 2), .ref (sd 3), .ref (sd 4), .ref (sd 5), .ref (sd 6), .int 0, .int (-1), .int 0, .int 0, .int 0, .int 0])), (sd 0, .inl (cyI, 6, .inl (fun _ => 0))), (sd 1, .inl (cyI, 8, .inl (fun _ => 0))), (sd 2, .inl (cyI, 8, .inl (fun _ => 0))), (sd 3, .inl (cyI, 328, .inl (fun _ => 0))), (sd 4, .inl (cyI, 328, .inl (fun _ => 0))), (sd 5, .inl (cyI, 41, .inl (fun _ => 0))), (sd 6, .inl (cyI, 41, .inl (fun _ => 0))), (q1453, .inr (5, [.ref (u1469 0), .ref (u1469 1), .ref (u1469 2), .ref (u1469 3), .ref (u1469 4), .ref (u1469 5), .ref (u1469 6), .int 0, .int (-1), .int 0, .int 0, .int 0, .int 0])), (u1469 0, .inl (cyI, 6, .inl (fun _ => 0))), (u1469 1, .inl (cyI, 8, .inl (fun _ => 0))), (u1469 2, .inl (cyI, 8, .inl (fun _ => 0))), (u1469 3, .inl (cyI, 328, .inl (fun _ => 0))), (u1469 4, .inl (cyI, 328, .inl (fun _ => 0))), (u1469 5, .inl (cyI, 41, .inl (fun _ => 0))), (u1469 6, .inl (cyI, 41, .inl (fun _ => 0)))] := hD
    refine lv_aload_n hx hb dX6_image_45 rfl (lv_at hl 1 rfl) ?_
    refine va_get (D := (dC, dI)) (ci := 6) (v := .ref (ad 12)) (C := RX6) (T := TX6) (N := 20) hx hb hts hi6 hown hK hP 0 rfl rfl 12 (by decide) (hts _ (ow_m (k := 9) rfl)) (fun _ h9 => h9) rfl dX6_image_46 ?_
    refine lv_iload_n hx hb dX6_image_49 rfl (lv_at hl 2 rfl) ?_
    refine lv_iconst (v := 1) hx hb dX6_image_50 (by decide) ?_
    refine va_zast hx hb hK hP hD hS 2 3 rfl rfl (vp_i (a := 2) (by decide) (by decide) (by decide)) dX6_image_51 (fun H locs hP hD hS => ?_)
    have hP : va_P (dC, dI) vwCl [(h0, .inr (6, [.ref (ad 0), .int 0, .ref (ad 2), .ref (ad 3), .ref (ad 4), .ref (ad 5), .ref (ad 6), .int 0, .int 0, .ref (ad 9), .ref (ad 10), .ref (ad 11), .ref (ad 12), .ref (ad 13), .int 0, .ref (ad 15), .int 0, .ref (ad 17), .ref (ad 18), .int 0])), (ad 11, .inl (cyO, 3, .inr (.inr (.inr (.inr (va_up (fun _ => none) 2 (some q1453))))))), (ad 12, .inl (cyZ, 3, .inl (upd (fun _ => 0) 2 1))), (ad 9, .inr (5, [.ref (sd 0), .ref (sd 1), .ref (sd 2), .ref (sd 3), .ref (sd 4), .ref (sd 5), .ref (sd 6), .int 0, .int (-1), .int 0, .int 0, .int 0, .int 0])), (sd 0, .inl (cyI, 6, .inl (fun _ => 0))), (sd 1, .inl (cyI, 8, .inl (fun _ => 0))), (sd 2, .inl (cyI, 8, .inl (fun _ => 0))), (sd 3, .inl (cyI, 328, .inl (fun _ => 0))), (sd 4, .inl (cyI, 328, .inl (fun _ => 0))), (sd 5, .inl (cyI, 41, .inl (fun _ => 0))), (sd 6, .inl (cyI, 41, .inl (fun _ => 0))), (q1453, .inr (5, [.ref (u1469 0), .ref (u1469 1), .ref (u1469 2), .ref (u1469 3), .ref (u1469 4), .ref (u1469 5), .ref (u1469 6), .int 0, .int (-1), .int 0, .int 0, .int 0, .int 0])), (u1469 0, .inl (cyI, 6, .inl (fun _ => 0))), (u1469 1, .inl (cyI, 8, .inl (fun _ => 0))), (u1469 2, .inl (cyI, 8, .inl (fun _ => 0))), (u1469 3, .inl (cyI, 328, .inl (fun _ => 0))), (u1469 4, .inl (cyI, 328, .inl (fun _ => 0))), (u1469 5, .inl (cyI, 41, .inl (fun _ => 0))), (u1469 6, .inl (cyI, 41, .inl (fun _ => 0)))] H := hP
    have hD : va_D A [(h0, .inr (6, [.ref (ad 0), .int 0, .ref (ad 2), .ref (ad 3), .ref (ad 4), .ref (ad 5), .ref (ad 6), .int 0, .int 0, .ref (ad 9), .ref (ad 10), .ref (ad 11), .ref (ad 12), .ref (ad 13), .int 0, .ref (ad 15), .int 0, .ref (ad 17), .ref (ad 18), .int 0])), (ad 11, .inl (cyO, 3, .inr (.inr (.inr (.inr (va_up (fun _ => none) 2 (some q1453))))))), (ad 12, .inl (cyZ, 3, .inl (upd (fun _ => 0) 2 1))), (ad 9, .inr (5, [.ref (sd 0), .ref (sd 1), .ref (sd 2), .ref (sd 3), .ref (sd 4), .ref (sd 5), .ref (sd 6), .int 0, .int (-1), .int 0, .int 0, .int 0, .int 0])), (sd 0, .inl (cyI, 6, .inl (fun _ => 0))), (sd 1, .inl (cyI, 8, .inl (fun _ => 0))), (sd 2, .inl (cyI, 8, .inl (fun _ => 0))), (sd 3, .inl (cyI, 328, .inl (fun _ => 0))), (sd 4, .inl (cyI, 328, .inl (fun _ => 0))), (sd 5, .inl (cyI, 41, .inl (fun _ => 0))), (sd 6, .inl (cyI, 41, .inl (fun _ => 0))), (q1453, .inr (5, [.ref (u1469 0), .ref (u1469 1), .ref (u1469 2), .ref (u1469 3), .ref (u1469 4), .ref (u1469 5), .ref (u1469 6), .int 0, .int (-1), .int 0, .int 0, .int 0, .int 0])), (u1469 0, .inl (cyI, 6, .inl (fun _ => 0))), (u1469 1, .inl (cyI, 8, .inl (fun _ => 0))), (u1469 2, .inl (cyI, 8, .inl (fun _ => 0))), (u1469 3, .inl (cyI, 328, .inl (fun _ => 0))), (u1469 4, .inl (cyI, 328, .inl (fun _ => 0))), (u1469 5, .inl (cyI, 41, .inl (fun _ => 0))), (u1469 6, .inl (cyI, 41, .inl (fun _ => 0)))] := hD
    refine lv_aload_n hx hb dX6_image_52 rfl (lv_at hl 1 rfl) ?_
    refine va_get (D := (dC, dI)) (ci := 6) (v := .ref (ad 9)) (C := RX6) (T := TX6) (N := 20) hx hb hts hi6 hown hK hP 0 rfl rfl 9 (by decide) (hts _ (ow_m (k := 5) rfl)) (fun _ h9 => h9) rfl dX6_image_53 ?_
    refine va_get (D := (dC, dI)) (ci := 5) (v := .int 0) (C := RX5) (T := TX5) (N := 13) hx hb hts hi5 hown hK hP 3 rfl rfl 10 (by decide) (hts _ (ow_m (k := 10) rfl)) (fun _ h9 => h9) rfl dX6_image_56 ?_
    exact W.iret (v := 0) hx hb hr (fun t ht hW => ⟨⟨0, (), rfl, (by first | decide | (unfold sp_image; (repeat' split) <;> first | rfl | omega)), cE.nil⟩, hS.F ht⟩) hS.2.2 dX6_image_59
  have c1450i := i_ne (b := 2) c1450 rfl (by decide)
  refine lv_iload_n hx hb dX6_image_0 rfl (lv_at hl 1 rfl) ?_
  refine lv_if_lt (tgt := 9) hx hb dX6_image_1 (by decide) (fun c1472 => ?_) (fun c1472 => ?_)
  · have c1472 := i_lt (a := x1.toInt) (b := 0) c1472 rfl (by decide)
    refine lv_iconst (v := (-1)) hx hb dX6_image_9 (by decide) ?_
    refine W.widen (k := 8) (n := 773) (by omega) (by omega) ?_
    exact W.iret (v := (-1)) hx hb hr (fun t ht hW => ⟨⟨(-1), (), rfl, (by first | decide | (unfold sp_image; (repeat' split) <;> first | rfl | omega)), cE.nil⟩, hS.F ht⟩) hS.2.2 dX6_image_10
  · have c1472 := i_nlt (a := x1.toInt) (b := 0) c1472 rfl (by decide)
    refine lv_iload_n hx hb dX6_image_4 rfl (lv_at hl 1 rfl) ?_
    refine lv_iconst (v := 3) hx hb dX6_image_5 (by decide) ?_
    refine lv_icmp_lt (tgt := 11) hx hb dX6_image_6 (by decide) (fun c1473 => ?_) (fun c1473 => ?_)
    · have c1473 := i_lt (a := x1.toInt) (b := 3) c1473 rfl (by decide)
      refine lv_aload_n hx hb dX6_image_11 rfl (lv_at hl 0 rfl) ?_
      refine va_get (D := (dC, dI)) (ci := 6) (v := .ref (ad 11)) (C := RX6) (T := TX6) (N := 20) hx hb hts hi6 hown hK hP 0 rfl rfl 11 (by decide) (hts _ (ow_m (k := 0) rfl)) (fun _ h9 => h9) rfl dX6_image_12 ?_
      refine lv_iload_n hx hb dX6_image_15 rfl (lv_at hl 1 rfl) ?_
      refine va_aldq hx hb hK hP 9 4 rfl rfl (vp_i rfl (by omega) (by omega)) dX6_image_16 ?_
      refine tp_v (w := .null) rfl ?_
      refine lv_astore_nN (lv' := [(2, .null), (0, .ref h0), (1, .int x1)]) hx hb dX6_image_17 rfl hl (by decide) rfl (fun ls hl => ?_)
      refine lv_aload_nN hx hb dX6_image_18 rfl (lv_at hl 0 rfl) ?_
      refine lv_ifnonnullN hx hb dX6_image_19 ?_
      refine va_new (ci := 5) (fs := [.null, .null, .null, .null, .null, .null, .null, .int 0, .int 0, .int 0, .int 0, .int 0, .int 0]) (C := RX5) (T := TX5) (N := 13) hx hb hts hi5 tyX5 tyX5_ok hown (hts _ (ow_m (k := 1) rfl)) (hts _ (ow_m (k := 2) rfl)) (hts _ (ow_m (k := 3) rfl)) hK hP hD hS hA rfl (by decide) (Nat.le_of_ble_eq_true rfl) (Nat.le_of_ble_eq_true rfl) dX6_image_22 (fun q1474 H hP hD hS => ?_)
      have hP : va_P (dC, dI) vwCl [(h0, .inr (6, [.ref (ad 0), .int 0, .ref (ad 2), .ref (ad 3), .ref (ad 4), .ref (ad 5), .ref (ad 6), .int 0, .int 0, .ref (ad 9), .ref (ad 10), .ref (ad 11), .ref (ad 12), .ref (ad 13), .int 0, .ref (ad 15), .int 0, .ref (ad 17), .ref (ad 18), .int 0])), (ad 9, .inr (5, [.ref (sd 0), .ref (sd 1), .ref (sd 2), .ref (sd 3), .ref (sd 4), .ref (sd 5), .ref (sd 6), .int 0, .int (-1), .int 0, .int 0, .int 0, .int 0])), (sd 0, .inl (cyI, 6, .inl (fun _ => 0))), (sd 1, .inl (cyI, 8, .inl (fun _ => 0))), (sd 2, .inl (cyI, 8, .inl (fun _ => 0))), (sd 3, .inl (cyI, 328, .inl (fun _ => 0))), (sd 4, .inl (cyI, 328, .inl (fun _ => 0))), (sd 5, .inl (cyI, 41, .inl (fun _ => 0))), (sd 6, .inl (cyI, 41, .inl (fun _ => 0))), (ad 11, .inl (cyO, 3, .inr (.inr (.inr (.inr (fun _ => none)))))), (ad 12, .inl (cyZ, 3, .inl (fun _ => 0))), (q1474, .inr (5, [.null, .null, .null, .null, .null, .null, .null, .int 0, .int 0, .int 0, .int 0, .int 0, .int 0]))] H := hP
      have hD : va_D A [(h0, .inr (6, [.ref (ad 0), .int 0, .ref (ad 2), .ref (ad 3), .ref (ad 4), .ref (ad 5), .ref (ad 6), .int 0, .int 0, .ref (ad 9), .ref (ad 10), .ref (ad 11), .ref (ad 12), .ref (ad 13), .int 0, .ref (ad 15), .int 0, .ref (ad 17), .ref (ad 18), .int 0])), (ad 9, .inr (5, [.ref (sd 0), .ref (sd 1), .ref (sd 2), .ref (sd 3), .ref (sd 4), .ref (sd 5), .ref (sd 6), .int 0, .int (-1), .int 0, .int 0, .int 0, .int 0])), (sd 0, .inl (cyI, 6, .inl (fun _ => 0))), (sd 1, .inl (cyI, 8, .inl (fun _ => 0))), (sd 2, .inl (cyI, 8, .inl (fun _ => 0))), (sd 3, .inl (cyI, 328, .inl (fun _ => 0))), (sd 4, .inl (cyI, 328, .inl (fun _ => 0))), (sd 5, .inl (cyI, 41, .inl (fun _ => 0))), (sd 6, .inl (cyI, 41, .inl (fun _ => 0))), (ad 11, .inl (cyO, 3, .inr (.inr (.inr (.inr (fun _ => none)))))), (ad 12, .inl (cyZ, 3, .inl (fun _ => 0))), (q1474, .inr (5, [.null, .null, .null, .null, .null, .null, .null, .int 0, .int 0, .int 0, .int 0, .int 0, .int 0]))] := hD
      refine W.widen (k := 1) (n := 13) (by omega) (by omega) ?_
      refine lv_dup hx hb dX6_image_25 rfl ?_
      refine gf_v (wr := [(h0, .inr (6, [.ref (ad 0), .int 0, .ref (ad 2), .ref (ad 3), .ref (ad 4), .ref (ad 5), .ref (ad 6), .int 0, .int 0, .ref (ad 9), .ref (ad 10), .ref (ad 11), .ref (ad 12), .ref (ad 13), .int 0, .ref (ad 15), .int 0, .ref (ad 17), .ref (ad 18), .int 0])), (ad 9, .inr (5, [.ref (sd 0), .ref (sd 1), .ref (sd 2), .ref (sd 3), .ref (sd 4), .ref (sd 5), .ref (sd 6), .int 0, .int (-1), .int 0, .int 0, .int 0, .int 0])), (sd 0, .inl (cyI, 6, .inl (fun _ => 0))), (sd 1, .inl (cyI, 8, .inl (fun _ => 0))), (sd 2, .inl (cyI, 8, .inl (fun _ => 0))), (sd 3, .inl (cyI, 328, .inl (fun _ => 0))), (sd 4, .inl (cyI, 328, .inl (fun _ => 0))), (sd 5, .inl (cyI, 41, .inl (fun _ => 0))), (sd 6, .inl (cyI, 41, .inl (fun _ => 0))), (ad 11, .inl (cyO, 3, .inr (.inr (.inr (.inr (fun _ => none)))))), (ad 12, .inl (cyZ, 3, .inl (fun _ => 0)))]) (va_runIN (As := []) (rest := [.ref q1474]) hfix (k_X5_init_v8 l dC dI cyB cyI cyJ cyZ cyO q1474 _) ⟨va_cnB 0 hts (gi_I (sb_c (sb_r (sb_r (sb_r (sb_r (sb_r (sb_r sb_l))))))) gd_k_X5_init_v8) rfl rfl rfl hKN.2.2.1 (hts _ (ow_m (k := 3) rfl)) (by decide +kernel) ⟨Nat.le_of_ble_eq_true rfl, Nat.le_of_ble_eq_true rfl⟩, rfl, (hts _ (ow_m (k := 4) rfl))⟩ (g_preS hKN hP hD [11] rfl (by decide)) rfl rfl hl.1 rfl (lv_room (Nat.le_of_ble_eq_true rfl)) dX6_image_26 ⟨Nat.le_of_ble_eq_true rfl, Nat.le_of_ble_eq_true rfl⟩) hP hD hS hA [11] [0, 1, 2, 3, 4, 5, 6, 7, 8, 9, 10] rfl rfl (by decide) (by decide) (fun u1490 H locs qu1490 hP hD hS => ?_)
      have hP : va_P (dC, dI) vwCl [(h0, .inr (6, [.ref (ad 0), .int 0, .ref (ad 2), .ref (ad 3), .ref (ad 4), .ref (ad 5), .ref (ad 6), .int 0, .int 0, .ref (ad 9), .ref (ad 10), .ref (ad 11), .ref (ad 12), .ref (ad 13), .int 0, .ref (ad 15), .int 0, .ref (ad 17), .ref (ad 18), .int 0])), (ad 9, .inr (5, [.ref (sd 0), .ref (sd 1), .ref (sd 2), .ref (sd 3), .ref (sd 4), .ref (sd 5), .ref (sd 6), .int 0, .int (-1), .int 0, .int 0, .int 0, .int 0])), (sd 0, .inl (cyI, 6, .inl (fun _ => 0))), (sd 1, .inl (cyI, 8, .inl (fun _ => 0))), (sd 2, .inl (cyI, 8, .inl (fun _ => 0))), (sd 3, .inl (cyI, 328, .inl (fun _ => 0))), (sd 4, .inl (cyI, 328, .inl (fun _ => 0))), (sd 5, .inl (cyI, 41, .inl (fun _ => 0))), (sd 6, .inl (cyI, 41, .inl (fun _ => 0))), (ad 11, .inl (cyO, 3, .inr (.inr (.inr (.inr (fun _ => none)))))), (ad 12, .inl (cyZ, 3, .inl (fun _ => 0))), (q1474, .inr (5, [.ref (u1490 0), .ref (u1490 1), .ref (u1490 2), .ref (u1490 3), .ref (u1490 4), .ref (u1490 5), .ref (u1490 6), .int 0, .int (-1), .int 0, .int 0, .int 0, .int 0])), (u1490 0, .inl (cyI, 6, .inl (fun _ => 0))), (u1490 1, .inl (cyI, 8, .inl (fun _ => 0))), (u1490 2, .inl (cyI, 8, .inl (fun _ => 0))), (u1490 3, .inl (cyI, 328, .inl (fun _ => 0))), (u1490 4, .inl (cyI, 328, .inl (fun _ => 0))), (u1490 5, .inl (cyI, 41, .inl (fun _ => 0))), (u1490 6, .inl (cyI, 41, .inl (fun _ => 0)))] H := hP
      have hD : va_D A [(h0, .inr (6, [.ref (ad 0), .int 0, .ref (ad 2), .ref (ad 3), .ref (ad 4), .ref (ad 5), .ref (ad 6), .int 0, .int 0, .ref (ad 9), .ref (ad 10), .ref (ad 11), .ref (ad 12), .ref (ad 13), .int 0, .ref (ad 15), .int 0, .ref (ad 17), .ref (ad 18), .int 0])), (ad 9, .inr (5, [.ref (sd 0), .ref (sd 1), .ref (sd 2), .ref (sd 3), .ref (sd 4), .ref (sd 5), .ref (sd 6), .int 0, .int (-1), .int 0, .int 0, .int 0, .int 0])), (sd 0, .inl (cyI, 6, .inl (fun _ => 0))), (sd 1, .inl (cyI, 8, .inl (fun _ => 0))), (sd 2, .inl (cyI, 8, .inl (fun _ => 0))), (sd 3, .inl (cyI, 328, .inl (fun _ => 0))), (sd 4, .inl (cyI, 328, .inl (fun _ => 0))), (sd 5, .inl (cyI, 41, .inl (fun _ => 0))), (sd 6, .inl (cyI, 41, .inl (fun _ => 0))), (ad 11, .inl (cyO, 3, .inr (.inr (.inr (.inr (fun _ => none)))))), (ad 12, .inl (cyZ, 3, .inl (fun _ => 0))), (q1474, .inr (5, [.ref (u1490 0), .ref (u1490 1), .ref (u1490 2), .ref (u1490 3), .ref (u1490 4), .ref (u1490 5), .ref (u1490 6), .int 0, .int (-1), .int 0, .int 0, .int 0, .int 0])), (u1490 0, .inl (cyI, 6, .inl (fun _ => 0))), (u1490 1, .inl (cyI, 8, .inl (fun _ => 0))), (u1490 2, .inl (cyI, 8, .inl (fun _ => 0))), (u1490 3, .inl (cyI, 328, .inl (fun _ => 0))), (u1490 4, .inl (cyI, 328, .inl (fun _ => 0))), (u1490 5, .inl (cyI, 41, .inl (fun _ => 0))), (u1490 6, .inl (cyI, 41, .inl (fun _ => 0)))] := hD
      refine W.widen (k := 8) (n := 773) (by omega) (by omega) ?_
      refine lv_astore_n (lv' := [(2, .ref q1474), (0, .ref h0), (1, .int x1)]) hx hb dX6_image_29 rfl hl (by decide) rfl (fun ls hl => ?_)
      refine lv_aload_n hx hb dX6_image_30 rfl (lv_at hl 1 rfl) ?_
      refine va_get (D := (dC, dI)) (ci := 6) (v := .ref (ad 11)) (C := RX6) (T := TX6) (N := 20) hx hb hts hi6 hown hK hP 0 rfl rfl 11 (by decide) (hts _ (ow_m (k := 0) rfl)) (fun _ h9 => h9) rfl dX6_image_31 ?_
      refine lv_iload_n hx hb dX6_image_34 rfl (lv_at hl 2 rfl) ?_
      refine lv_aload_n hx hb dX6_image_35 rfl (lv_at hl 0 rfl) ?_
      refine va_astq hx hb hK hP hD hS 9 4 11 5 rfl rfl rfl rfl (vp_i rfl (by omega) (by omega)) dX6_image_36 (fun H locs hP hD hS => ?_)
      have hP : va_P (dC, dI) vwCl [(h0, .inr (6, [.ref (ad 0), .int 0, .ref (ad 2), .ref (ad 3), .ref (ad 4), .ref (ad 5), .ref (ad 6), .int 0, .int 0, .ref (ad 9), .ref (ad 10), .ref (ad 11), .ref (ad 12), .ref (ad 13), .int 0, .ref (ad 15), .int 0, .ref (ad 17), .ref (ad 18), .int 0])), (ad 9, .inr (5, [.ref (sd 0), .ref (sd 1), .ref (sd 2), .ref (sd 3), .ref (sd 4), .ref (sd 5), .ref (sd 6), .int 0, .int (-1), .int 0, .int 0, .int 0, .int 0])), (sd 0, .inl (cyI, 6, .inl (fun _ => 0))), (sd 1, .inl (cyI, 8, .inl (fun _ => 0))), (sd 2, .inl (cyI, 8, .inl (fun _ => 0))), (sd 3, .inl (cyI, 328, .inl (fun _ => 0))), (sd 4, .inl (cyI, 328, .inl (fun _ => 0))), (sd 5, .inl (cyI, 41, .inl (fun _ => 0))), (sd 6, .inl (cyI, 41, .inl (fun _ => 0))), (ad 11, .inl (cyO, 3, .inr (.inr (.inr (.inr (va_up (fun _ => none) x1.toNatClampNeg (some q1474))))))), (ad 12, .inl (cyZ, 3, .inl (fun _ => 0))), (q1474, .inr (5, [.ref (u1490 0), .ref (u1490 1), .ref (u1490 2), .ref (u1490 3), .ref (u1490 4), .ref (u1490 5), .ref (u1490 6), .int 0, .int (-1), .int 0, .int 0, .int 0, .int 0])), (u1490 0, .inl (cyI, 6, .inl (fun _ => 0))), (u1490 1, .inl (cyI, 8, .inl (fun _ => 0))), (u1490 2, .inl (cyI, 8, .inl (fun _ => 0))), (u1490 3, .inl (cyI, 328, .inl (fun _ => 0))), (u1490 4, .inl (cyI, 328, .inl (fun _ => 0))), (u1490 5, .inl (cyI, 41, .inl (fun _ => 0))), (u1490 6, .inl (cyI, 41, .inl (fun _ => 0)))] H := hP
      have hD : va_D A [(h0, .inr (6, [.ref (ad 0), .int 0, .ref (ad 2), .ref (ad 3), .ref (ad 4), .ref (ad 5), .ref (ad 6), .int 0, .int 0, .ref (ad 9), .ref (ad 10), .ref (ad 11), .ref (ad 12), .ref (ad 13), .int 0, .ref (ad 15), .int 0, .ref (ad 17), .ref (ad 18), .int 0])), (ad 9, .inr (5, [.ref (sd 0), .ref (sd 1), .ref (sd 2), .ref (sd 3), .ref (sd 4), .ref (sd 5), .ref (sd 6), .int 0, .int (-1), .int 0, .int 0, .int 0, .int 0])), (sd 0, .inl (cyI, 6, .inl (fun _ => 0))), (sd 1, .inl (cyI, 8, .inl (fun _ => 0))), (sd 2, .inl (cyI, 8, .inl (fun _ => 0))), (sd 3, .inl (cyI, 328, .inl (fun _ => 0))), (sd 4, .inl (cyI, 328, .inl (fun _ => 0))), (sd 5, .inl (cyI, 41, .inl (fun _ => 0))), (sd 6, .inl (cyI, 41, .inl (fun _ => 0))), (ad 11, .inl (cyO, 3, .inr (.inr (.inr (.inr (va_up (fun _ => none) x1.toNatClampNeg (some q1474))))))), (ad 12, .inl (cyZ, 3, .inl (fun _ => 0))), (q1474, .inr (5, [.ref (u1490 0), .ref (u1490 1), .ref (u1490 2), .ref (u1490 3), .ref (u1490 4), .ref (u1490 5), .ref (u1490 6), .int 0, .int (-1), .int 0, .int 0, .int 0, .int 0])), (u1490 0, .inl (cyI, 6, .inl (fun _ => 0))), (u1490 1, .inl (cyI, 8, .inl (fun _ => 0))), (u1490 2, .inl (cyI, 8, .inl (fun _ => 0))), (u1490 3, .inl (cyI, 328, .inl (fun _ => 0))), (u1490 4, .inl (cyI, 328, .inl (fun _ => 0))), (u1490 5, .inl (cyI, 41, .inl (fun _ => 0))), (u1490 6, .inl (cyI, 41, .inl (fun _ => 0)))] := hD
      refine lv_aload_n hx hb dX6_image_37 rfl (lv_at hl 0 rfl) ?_
      refine lv_aload_n hx hb dX6_image_38 rfl (lv_at hl 1 rfl) ?_
      refine va_get (D := (dC, dI)) (ci := 6) (v := .ref (ad 9)) (C := RX6) (T := TX6) (N := 20) hx hb hts hi6 hown hK hP 0 rfl rfl 9 (by decide) (hts _ (ow_m (k := 5) rfl)) (fun _ h9 => h9) rfl dX6_image_39 ?_
      refine gf_v (wr := [(h0, .inr (6, [.ref (ad 0), .int 0, .ref (ad 2), .ref (ad 3), .ref (ad 4), .ref (ad 5), .ref (ad 6), .int 0, .int 0, .ref (ad 9), .ref (ad 10), .ref (ad 11), .ref (ad 12), .ref (ad 13), .int 0, .ref (ad 15), .int 0, .ref (ad 17), .ref (ad 18), .int 0])), (ad 11, .inl (cyO, 3, .inr (.inr (.inr (.inr (va_up (fun _ => none) x1.toNatClampNeg (some q1474))))))), (ad 12, .inl (cyZ, 3, .inl (fun _ => 0)))]) (va_runV (As := [.ref (ad 9)]) (rest := []) hfix (k_X5_copyFrom_v9 l dC dI cyB cyI cyJ cyZ cyO ad sd q1474 u1490 _) (cwV 1 hts (gi_V (ow_m (k := 6) rfl) (ow_m (k := 7) rfl) (ow_m (k := 8) rfl) (ow_m (k := 3) rfl) (sb_c (sb_r (sb_r (sb_r (sb_r (sb_r (sb_r (sb_r sb_l)))))))) gd_k_X5_copyFrom_v9) rfl rfl rfl (by decide +kernel) ⟨Nat.le_of_ble_eq_true rfl, Nat.le_of_ble_eq_true rfl⟩) (g_preV hKN hP hD [1, 2, 3, 4, 5, 6, 7, 8, 11, 12, 13, 14, 15, 16, 17, 18] rfl (by decide) 8 5 rfl rfl) rfl rfl hl.1 rfl (lv_room (Nat.le_of_ble_eq_true rfl)) dX6_image_42 ⟨Nat.le_of_ble_eq_true rfl, Nat.le_of_ble_eq_true rfl⟩) hP hD hS hA [1, 2, 3, 4, 5, 6, 7, 8, 11, 12, 13, 14, 15, 16, 17, 18] [0, 9, 10] rfl rfl (by decide) (by decide) (fun u1492 H locs qu1492 hP hD hS => ?_)
      have hP : va_P (dC, dI) vwCl [(h0, .inr (6, [.ref (ad 0), .int 0, .ref (ad 2), .ref (ad 3), .ref (ad 4), .ref (ad 5), .ref (ad 6), .int 0, .int 0, .ref (ad 9), .ref (ad 10), .ref (ad 11), .ref (ad 12), .ref (ad 13), .int 0, .ref (ad 15), .int 0, .ref (ad 17), .ref (ad 18), .int 0])), (ad 11, .inl (cyO, 3, .inr (.inr (.inr (.inr (va_up (fun _ => none) x1.toNatClampNeg (some q1474))))))), (ad 12, .inl (cyZ, 3, .inl (fun _ => 0))), (ad 9, .inr (5, [.ref (sd 0), .ref (sd 1), .ref (sd 2), .ref (sd 3), .ref (sd 4), .ref (sd 5), .ref (sd 6), .int 0, .int (-1), .int 0, .int 0, .int 0, .int 0])), (sd 0, .inl (cyI, 6, .inl (fun _ => 0))), (sd 1, .inl (cyI, 8, .inl (fun _ => 0))), (sd 2, .inl (cyI, 8, .inl (fun _ => 0))), (sd 3, .inl (cyI, 328, .inl (fun _ => 0))), (sd 4, .inl (cyI, 328, .inl (fun _ => 0))), (sd 5, .inl (cyI, 41, .inl (fun _ => 0))), (sd 6, .inl (cyI, 41, .inl (fun _ => 0))), (q1474, .inr (5, [.ref (u1490 0), .ref (u1490 1), .ref (u1490 2), .ref (u1490 3), .ref (u1490 4), .ref (u1490 5), .ref (u1490 6), .int 0, .int (-1), .int 0, .int 0, .int 0, .int 0])), (u1490 0, .inl (cyI, 6, .inl (fun _ => 0))), (u1490 1, .inl (cyI, 8, .inl (fun _ => 0))), (u1490 2, .inl (cyI, 8, .inl (fun _ => 0))), (u1490 3, .inl (cyI, 328, .inl (fun _ => 0))), (u1490 4, .inl (cyI, 328, .inl (fun _ => 0))), (u1490 5, .inl (cyI, 41, .inl (fun _ => 0))), (u1490 6, .inl (cyI, 41, .inl (fun _ => 0)))] H := hP
      have hD : va_D A [(h0, .inr (6, [.ref (ad 0), .int 0, .ref (ad 2), .ref (ad 3), .ref (ad 4), .ref (ad 5), .ref (ad 6), .int 0, .int 0, .ref (ad 9), .ref (ad 10), .ref (ad 11), .ref (ad 12), .ref (ad 13), .int 0, .ref (ad 15), .int 0, .ref (ad 17), .ref (ad 18), .int 0])), (ad 11, .inl (cyO, 3, .inr (.inr (.inr (.inr (va_up (fun _ => none) x1.toNatClampNeg (some q1474))))))), (ad 12, .inl (cyZ, 3, .inl (fun _ => 0))), (ad 9, .inr (5, [.ref (sd 0), .ref (sd 1), .ref (sd 2), .ref (sd 3), .ref (sd 4), .ref (sd 5), .ref (sd 6), .int 0, .int (-1), .int 0, .int 0, .int 0, .int 0])), (sd 0, .inl (cyI, 6, .inl (fun _ => 0))), (sd 1, .inl (cyI, 8, .inl (fun _ => 0))), (sd 2, .inl (cyI, 8, .inl (fun _ => 0))), (sd 3, .inl (cyI, 328, .inl (fun _ => 0))), (sd 4, .inl (cyI, 328, .inl (fun _ => 0))), (sd 5, .inl (cyI, 41, .inl (fun _ => 0))), (sd 6, .inl (cyI, 41, .inl (fun _ => 0))), (q1474, .inr (5, [.ref (u1490 0), .ref (u1490 1), .ref (u1490 2), .ref (u1490 3), .ref (u1490 4), .ref (u1490 5), .ref (u1490 6), .int 0, .int (-1), .int 0, .int 0, .int 0, .int 0])), (u1490 0, .inl (cyI, 6, .inl (fun _ => 0))), (u1490 1, .inl (cyI, 8, .inl (fun _ => 0))), (u1490 2, .inl (cyI, 8, .inl (fun _ => 0))), (u1490 3, .inl (cyI, 328, .inl (fun _ => 0))), (u1490 4, .inl (cyI, 328, .inl (fun _ => 0))), (u1490 5, .inl (cyI, 41, .inl (fun _ => 0))), (u1490 6, .inl (cyI, 41, .inl (fun _ => 0)))] := hD
      refine lv_aload_n hx hb dX6_image_45 rfl (lv_at hl 1 rfl) ?_
      refine va_get (D := (dC, dI)) (ci := 6) (v := .ref (ad 12)) (C := RX6) (T := TX6) (N := 20) hx hb hts hi6 hown hK hP 0 rfl rfl 12 (by decide) (hts _ (ow_m (k := 9) rfl)) (fun _ h9 => h9) rfl dX6_image_46 ?_
      refine lv_iload_n hx hb dX6_image_49 rfl (lv_at hl 2 rfl) ?_
      refine lv_iconst (v := 1) hx hb dX6_image_50 (by decide) ?_
      refine va_zast hx hb hK hP hD hS 2 3 rfl rfl (vp_i rfl (by omega) (by omega)) dX6_image_51 (fun H locs hP hD hS => ?_)
      have hP : va_P (dC, dI) vwCl [(h0, .inr (6, [.ref (ad 0), .int 0, .ref (ad 2), .ref (ad 3), .ref (ad 4), .ref (ad 5), .ref (ad 6), .int 0, .int 0, .ref (ad 9), .ref (ad 10), .ref (ad 11), .ref (ad 12), .ref (ad 13), .int 0, .ref (ad 15), .int 0, .ref (ad 17), .ref (ad 18), .int 0])), (ad 11, .inl (cyO, 3, .inr (.inr (.inr (.inr (va_up (fun _ => none) x1.toNatClampNeg (some q1474))))))), (ad 12, .inl (cyZ, 3, .inl (upd (fun _ => 0) x1.toNatClampNeg 1))), (ad 9, .inr (5, [.ref (sd 0), .ref (sd 1), .ref (sd 2), .ref (sd 3), .ref (sd 4), .ref (sd 5), .ref (sd 6), .int 0, .int (-1), .int 0, .int 0, .int 0, .int 0])), (sd 0, .inl (cyI, 6, .inl (fun _ => 0))), (sd 1, .inl (cyI, 8, .inl (fun _ => 0))), (sd 2, .inl (cyI, 8, .inl (fun _ => 0))), (sd 3, .inl (cyI, 328, .inl (fun _ => 0))), (sd 4, .inl (cyI, 328, .inl (fun _ => 0))), (sd 5, .inl (cyI, 41, .inl (fun _ => 0))), (sd 6, .inl (cyI, 41, .inl (fun _ => 0))), (q1474, .inr (5, [.ref (u1490 0), .ref (u1490 1), .ref (u1490 2), .ref (u1490 3), .ref (u1490 4), .ref (u1490 5), .ref (u1490 6), .int 0, .int (-1), .int 0, .int 0, .int 0, .int 0])), (u1490 0, .inl (cyI, 6, .inl (fun _ => 0))), (u1490 1, .inl (cyI, 8, .inl (fun _ => 0))), (u1490 2, .inl (cyI, 8, .inl (fun _ => 0))), (u1490 3, .inl (cyI, 328, .inl (fun _ => 0))), (u1490 4, .inl (cyI, 328, .inl (fun _ => 0))), (u1490 5, .inl (cyI, 41, .inl (fun _ => 0))), (u1490 6, .inl (cyI, 41, .inl (fun _ => 0)))] H := hP
      have hD : va_D A [(h0, .inr (6, [.ref (ad 0), .int 0, .ref (ad 2), .ref (ad 3), .ref (ad 4), .ref (ad 5), .ref (ad 6), .int 0, .int 0, .ref (ad 9), .ref (ad 10), .ref (ad 11), .ref (ad 12), .ref (ad 13), .int 0, .ref (ad 15), .int 0, .ref (ad 17), .ref (ad 18), .int 0])), (ad 11, .inl (cyO, 3, .inr (.inr (.inr (.inr (va_up (fun _ => none) x1.toNatClampNeg (some q1474))))))), (ad 12, .inl (cyZ, 3, .inl (upd (fun _ => 0) x1.toNatClampNeg 1))), (ad 9, .inr (5, [.ref (sd 0), .ref (sd 1), .ref (sd 2), .ref (sd 3), .ref (sd 4), .ref (sd 5), .ref (sd 6), .int 0, .int (-1), .int 0, .int 0, .int 0, .int 0])), (sd 0, .inl (cyI, 6, .inl (fun _ => 0))), (sd 1, .inl (cyI, 8, .inl (fun _ => 0))), (sd 2, .inl (cyI, 8, .inl (fun _ => 0))), (sd 3, .inl (cyI, 328, .inl (fun _ => 0))), (sd 4, .inl (cyI, 328, .inl (fun _ => 0))), (sd 5, .inl (cyI, 41, .inl (fun _ => 0))), (sd 6, .inl (cyI, 41, .inl (fun _ => 0))), (q1474, .inr (5, [.ref (u1490 0), .ref (u1490 1), .ref (u1490 2), .ref (u1490 3), .ref (u1490 4), .ref (u1490 5), .ref (u1490 6), .int 0, .int (-1), .int 0, .int 0, .int 0, .int 0])), (u1490 0, .inl (cyI, 6, .inl (fun _ => 0))), (u1490 1, .inl (cyI, 8, .inl (fun _ => 0))), (u1490 2, .inl (cyI, 8, .inl (fun _ => 0))), (u1490 3, .inl (cyI, 328, .inl (fun _ => 0))), (u1490 4, .inl (cyI, 328, .inl (fun _ => 0))), (u1490 5, .inl (cyI, 41, .inl (fun _ => 0))), (u1490 6, .inl (cyI, 41, .inl (fun _ => 0)))] := hD
      generalize upd (fun _ => 0) x1.toNatClampNeg 1 = f1493 at hP hD
      refine lv_aload_n hx hb dX6_image_52 rfl (lv_at hl 1 rfl) ?_
      refine va_get (D := (dC, dI)) (ci := 6) (v := .ref (ad 9)) (C := RX6) (T := TX6) (N := 20) hx hb hts hi6 hown hK hP 0 rfl rfl 9 (by decide) (hts _ (ow_m (k := 5) rfl)) (fun _ h9 => h9) rfl dX6_image_53 ?_
      refine va_get (D := (dC, dI)) (ci := 5) (v := .int 0) (C := RX5) (T := TX5) (N := 13) hx hb hts hi5 hown hK hP 3 rfl rfl 10 (by decide) (hts _ (ow_m (k := 10) rfl)) (fun _ h9 => h9) rfl dX6_image_56 ?_
      exact W.iret (v := 0) hx hb hr (fun t ht hW => ⟨⟨0, (), rfl, (by first | decide | (unfold sp_image; (repeat' split) <;> first | rfl | omega)), cE.nil⟩, hS.F ht⟩) hS.2.2 dX6_image_59
    · have c1473 := i_nlt (a := x1.toInt) (b := 3) c1473 rfl (by decide)
      refine lv_iconst (v := (-1)) hx hb dX6_image_9 (by decide) ?_
      refine W.widen (k := 8) (n := 773) (by omega) (by omega) ?_
      exact W.iret (v := (-1)) hx hb hr (fun t ht hW => ⟨⟨(-1), (), rfl, (by first | decide | (unfold sp_image; (repeat' split) <;> first | rfl | omega)), cE.nil⟩, hS.F ht⟩) hS.2.2 dX6_image_10
def wo_c_C_back : List Cond := [.fieldLink RX6 55 "ReplicaChain" "boxFull" "[Z"]
def wq_c_C_back : List Cond := .code yX6_back cX6_back 3 (some .int) :: (wo_c_C_back ++ (wsX60 ++ []))
theorem gd_c_C_back : Gd wq_c_C_back := gd_c (gd_a (gd_o (by decide +kernel)) (gd_a gd_u gd_0))
abbrev wc_c_C_back (cyB cyI cyJ cyZ cyO : ClassId) (h0 : Nat) (ad : Nat → Nat) (x1 : Int32) : va_W := [(h0, .inr (6, [.ref (ad 0), .int 0, .ref (ad 2), .ref (ad 3), .ref (ad 4), .ref (ad 5), .ref (ad 6), .int 0, .int 0, .ref (ad 9), .ref (ad 10), .ref (ad 11), .ref (ad 12), .ref (ad 13), .int 0, .ref (ad 15), .int 0, .ref (ad 17), .ref (ad 18), .int 0])), (ad 12, .inl (cyZ, 3, .inl (fun _ => 0)))]
set_option maxHeartbeats 4000000 in
set_option maxRecDepth 100000 in
theorem c_C_back (l : Launch) (dC : Nat → ClassId) (dI : Nat → Nat → Nat) (cyB cyI cyJ cyZ cyO : ClassId) (h0 : Nat) (ad : Nat → Nat) (x1 : Int32) (sz : Nat) : Met l yX6_back wq_c_C_back ({ frames := 0, cells := 0, slots := 0, locals := 0 }) (va_Pc [.ref h0, .int x1] (cB (dC, dI) (kT cyB cyI cyJ cyZ cyO) (wc_c_C_back cyB cyI cyJ cyZ cyO h0 ad x1) sz)) (va_Qi (fun (r : Int32) (_ : Unit) => r = -1) (fun (u : Unit) t => cE (dC, dI) (va_A (wc_c_C_back cyB cyI cyJ cyZ cyO h0 ad x1) sz) ([]) t.heap) (va_A (wc_c_C_back cyB cyI cyJ cyZ cyO h0 ad x1) sz)) 0 0 (va_A (wc_c_C_back cyB cyI cyJ cyZ cyO h0 ad x1) sz) := by
  refine Met.ofW (cc := cX6_back) (maxL := 3) (ret := (some .int)) (by decide) rfl ?_
  intro p e s m args below meth c s₁ B hml hv
  obtain ⟨rfl, hsz, hP, hKN, hD0⟩ := hv
  have hx := B.exec
  have hb := B.bytes
  have hr := B.returns
  have hts := atoms_spec (ws := wq_c_C_back) B.pre
  have hown : s.vm.findClass RX6 = some m.cls := findClass_of_methodNamed B.named
  have hlocks := B.notSynchronized
  have hK := hKN.1
  have hfix : CallFix p m c cX6_back 3 s [.ref h0, .int x1].toArray wq_c_C_back RX6 := ⟨hx, hb, hml, hown, hts⟩
  have hi6 : ∀ w ∈ wsX60, w ∈ wq_c_C_back := (sb_c sb_l)
  subst hsz
  have hD := hD0.self (sz := s.heap.size)
  generalize hAe : va_A (wc_c_C_back cyB cyI cyJ cyZ cyO h0 ad x1) s.heap.size = A at hD ⊢
  have hA : ∀ q : Nat, s.heap.size ≤ q → A q := fun q h => by rw [← hAe]; exact Or.inr h
  have hS : va_S A s.heap s.heap [] := va_S.rf
  have hl := lv_entry ([.ref h0, .int x1]) (n := 3) (Nat.le_of_ble_eq_true rfl)
  rw [lg_entry_eq]
  generalize (lg_sl ([.ref h0, .int x1]) ++ List.replicate (3 - (lg_sl ([.ref h0, .int x1])).length) Slot.unset).toArray = ls at hl ⊢
  have hl : lv_has ls 3 [(0, .ref h0), (1, .int x1)] := hl
  refine lv_iload_n hx hb dX6_back_0 rfl (lv_at hl 1 rfl) ?_
  refine lv_if_lt (tgt := 18) hx hb dX6_back_1 (by decide) (fun c1497 => ?_) (fun c1497 => ?_)
  · have c1497 := i_lt (a := x1.toInt) (b := 0) c1497 rfl (by decide)
    refine lv_iconst (v := (-1)) hx hb dX6_back_18 (by decide) ?_
    exact W.iret (v := (-1)) hx hb hr (fun t ht hW => ⟨⟨(-1), (), rfl, rfl, cE.nil⟩, hS.F ht⟩) hS.2.2 dX6_back_19
  · have c1497 := i_nlt (a := x1.toInt) (b := 0) c1497 rfl (by decide)
    refine lv_iload_n hx hb dX6_back_4 rfl (lv_at hl 1 rfl) ?_
    refine lv_iconst (v := 3) hx hb dX6_back_5 (by decide) ?_
    refine lv_icmp_ge (tgt := 18) hx hb dX6_back_6 (by decide) (fun c1498 => ?_) (fun c1498 => ?_)
    · have c1498 := i_le (a := 3) (b := x1.toInt) c1498 (by decide) rfl
      refine lv_iconst (v := (-1)) hx hb dX6_back_18 (by decide) ?_
      exact W.iret (v := (-1)) hx hb hr (fun t ht hW => ⟨⟨(-1), (), rfl, rfl, cE.nil⟩, hS.F ht⟩) hS.2.2 dX6_back_19
    · have c1498 := i_nle (a := 3) (b := x1.toInt) c1498 (by decide) rfl
      refine lv_aload_n hx hb dX6_back_9 rfl (lv_at hl 0 rfl) ?_
      refine va_get (D := (dC, dI)) (ci := 6) (v := .ref (ad 12)) (C := RX6) (T := TX6) (N := 20) hx hb hts hi6 hown hK hP 0 rfl rfl 12 (by decide) (hts _ (ow_m (k := 0) rfl)) (fun _ h9 => h9) rfl dX6_back_10 ?_
      refine lv_iload_n hx hb dX6_back_13 rfl (lv_at hl 1 rfl) ?_
      refine va_zald hx hb hK hP 1 3 rfl rfl (vp_i rfl (by omega) (by omega)) dX6_back_14 ?_
      refine tp_c (w := 0) (by rfl) ?_
      refine lv_if_ne (tgt := 20) hx hb dX6_back_15 (by decide) (fun c1499 => absurd (by decide) c1499) (fun _ => ?_)
      refine lv_iconst (v := (-1)) hx hb dX6_back_18 (by decide) ?_
      exact W.iret (v := (-1)) hx hb hr (fun t ht hW => ⟨⟨(-1), (), rfl, rfl, cE.nil⟩, hS.F ht⟩) hS.2.2 dX6_back_19
def wo_c_C_about : List Cond := [.fieldLink RX6 110 "ReplicaChain" "now" "LReplicaChain$State;", .fieldLink RX6 157 "ReplicaChain$State" "size" "I", .fieldLink RX6 16 "ReplicaChain" "plan" "LReplicaChain$Plan;", .fieldLink RX6 179 "ReplicaChain$Plan" "nodeCount" "I", .fieldLink RX6 182 "ReplicaChain$Plan" "keyCount" "I", .methodLink RX6 195 yX5_headHas, .instanceMethod yX5_headHas, .selects RX5 yX5_headHas yX5_headHas, .initialized RX5, .fieldLink RX6 342 "ReplicaChain$State" "dropped" "I", .fieldLink RX6 249 "ReplicaChain$State" "copyLeft" "I", .fieldLink RX6 142 "ReplicaChain$State" "tick" "I", .fieldLink RX6 345 "ReplicaChain$State" "seed" "I", .fieldLink RX6 100 "ReplicaChain" "at" "I", .fieldLink RX6 103 "ReplicaChain" "top" "I", .fieldLink RX6 69 "ReplicaChain" "sightings" "LReplicaChain$Sightings;", .fieldLink RX6 348 "ReplicaChain$Sightings" "count" "I", .fieldLink RX6 317 "ReplicaChain" "time" "I", .fieldLink RX6 79 "ReplicaChain" "tapeLength" "I", .fieldLink RX6 351 "ReplicaChain$Plan" "units" "I", .fieldLink RX6 116 "ReplicaChain" "lyingCount" "I", .fieldLink RX6 246 "ReplicaChain$Plan" "copy" "I", .fieldLink RX6 311 "ReplicaChain$Plan" "loss" "I"]
def wq_c_C_about : List Cond := .code yX6_about cX6_about 2 (some .int) :: (wo_c_C_about ++ (wq_k_X5_headHas ++ (wsX10 ++ (wsX40 ++ (wsX50 ++ (wsX60 ++ []))))))
theorem gd_c_C_about : Gd wq_c_C_about := gd_c (gd_a (gd_o (by decide +kernel)) (gd_a gd_k_X5_headHas (gd_a gd_u (gd_a gd_u (gd_a gd_u (gd_a gd_u gd_0))))))
abbrev wc_c_C_about (cyB cyI cyJ cyZ cyO : ClassId) (h0 : Nat) (ad : Nat → Nat) (pd : Nat → Nat) (sd : Nat → Nat) (gd : Nat → Nat) (x1 : Int32) : va_W := [(h0, .inr (6, [.ref (ad 0), .int 0, .ref (ad 2), .ref (ad 3), .ref (ad 4), .ref (ad 5), .ref (ad 6), .int 0, .int 0, .ref (ad 9), .ref (ad 10), .ref (ad 11), .ref (ad 12), .ref (ad 13), .int 0, .ref (ad 15), .int 0, .ref (ad 17), .ref (ad 18), .int 0])), (ad 2, .inr (1, [.ref (pd 0), .ref (pd 1), .ref (pd 2), .ref (pd 3), .int 0, .int 0, .int 0, .int 0, .int 2, .int 0, .int 0])), (ad 9, .inr (5, [.ref (sd 0), .ref (sd 1), .ref (sd 2), .ref (sd 3), .ref (sd 4), .ref (sd 5), .ref (sd 6), .int 0, .int (-1), .int 0, .int 0, .int 0, .int 0])), (ad 17, .inr (4, [.ref (gd 0), .ref (gd 1), .ref (gd 2), .ref (gd 3), .int 0]))]
set_option maxHeartbeats 4000000 in
set_option maxRecDepth 100000 in
theorem c_C_about (l : Launch) (dC : Nat → ClassId) (dI : Nat → Nat → Nat) (cyB cyI cyJ cyZ cyO : ClassId) (h0 : Nat) (ad : Nat → Nat) (pd : Nat → Nat) (sd : Nat → Nat) (gd : Nat → Nat) (x1 : Int32) (sz : Nat) : Met l yX6_about wq_c_C_about ({ frames := 1, cells := 0, slots := 0, locals := 20 }) (va_Pc [.ref h0, .int x1] (cB (dC, dI) (kT cyB cyI cyJ cyZ cyO) (wc_c_C_about cyB cyI cyJ cyZ cyO h0 ad pd sd gd x1) sz)) (va_Qi (fun (r : Int32) (_ : Unit) => r = sp_about x1) (fun (u : Unit) t => cE (dC, dI) (va_A (wc_c_C_about cyB cyI cyJ cyZ cyO h0 ad pd sd gd x1) sz) ([]) t.heap) (va_A (wc_c_C_about cyB cyI cyJ cyZ cyO h0 ad pd sd gd x1) sz)) 0 0 (va_A (wc_c_C_about cyB cyI cyJ cyZ cyO h0 ad pd sd gd x1) sz) := by
  refine Met.ofW (cc := cX6_about) (maxL := 2) (ret := (some .int)) (by decide) rfl ?_
  intro p e s m args below meth c s₁ B hml hv
  obtain ⟨rfl, hsz, hP, hKN, hD0⟩ := hv
  have hx := B.exec
  have hb := B.bytes
  have hr := B.returns
  have hts := atoms_spec (ws := wq_c_C_about) B.pre
  have hown : s.vm.findClass RX6 = some m.cls := findClass_of_methodNamed B.named
  have hlocks := B.notSynchronized
  have hK := hKN.1
  have hfix : CallFix p m c cX6_about 2 s [.ref h0, .int x1].toArray wq_c_C_about RX6 := ⟨hx, hb, hml, hown, hts⟩
  have hi1 : ∀ w ∈ wsX10, w ∈ wq_c_C_about := (sb_c (sb_r sb_l))
  have hi4 : ∀ w ∈ wsX40, w ∈ wq_c_C_about := (sb_c (sb_r (sb_r sb_l)))
  have hi5 : ∀ w ∈ wsX50, w ∈ wq_c_C_about := (sb_c (sb_r (sb_r (sb_r sb_l))))
  have hi6 : ∀ w ∈ wsX60, w ∈ wq_c_C_about := (sb_c (sb_r (sb_r (sb_r (sb_r sb_l)))))
  subst hsz
  have hD := hD0.self (sz := s.heap.size)
  generalize hAe : va_A (wc_c_C_about cyB cyI cyJ cyZ cyO h0 ad pd sd gd x1) s.heap.size = A at hD ⊢
  have hA : ∀ q : Nat, s.heap.size ≤ q → A q := fun q h => by rw [← hAe]; exact Or.inr h
  have hS : va_S A s.heap s.heap [] := va_S.rf
  have hl := lv_entry ([.ref h0, .int x1]) (n := 2) (Nat.le_of_ble_eq_true rfl)
  rw [lg_entry_eq]
  generalize (lg_sl ([.ref h0, .int x1]) ++ List.replicate (2 - (lg_sl ([.ref h0, .int x1])).length) Slot.unset).toArray = ls at hl ⊢
  have hl : lv_has ls 2 [(0, .ref h0), (1, .int x1)] := hl
  refine lv_iload_n hx hb dX6_about_0 rfl (lv_at hl 1 rfl) ?_
  by_cases c1520 : x1 = 0
  · have c1520i := i_eq (b := 0) c1520 rfl (by decide)
    refine lv_tableIn (tgt := 84) hx hb dX6_about_1 (by rw [c1520]; decide) (by rw [c1520]; decide) (by first | (rw [c1520]; done) | (rw [c1520]; rfl)) (by decide) ?_
    refine lv_aload_n hx hb dX6_about_84 rfl (lv_at hl 0 rfl) ?_
    refine va_get (D := (dC, dI)) (ci := 6) (v := .ref (ad 9)) (C := RX6) (T := TX6) (N := 20) hx hb hts hi6 hown hK hP 0 rfl rfl 9 (by decide) (hts _ (ow_m (k := 0) rfl)) (fun _ h9 => h9) rfl dX6_about_85 ?_
    refine va_get (D := (dC, dI)) (ci := 5) (v := .int 0) (C := RX5) (T := TX5) (N := 13) hx hb hts hi5 hown hK hP 2 rfl rfl 7 (by decide) (hts _ (ow_m (k := 1) rfl)) (fun _ h9 => h9) rfl dX6_about_88 ?_
    exact W.iret (v := 0) hx hb hr (fun t ht hW => ⟨⟨0, (), rfl, (by first | decide | (unfold sp_about; (repeat' split) <;> first | rfl | omega)), cE.nil⟩, hS.F ht⟩) hS.2.2 dX6_about_91
  have c1520i := i_ne (b := 0) c1520 rfl (by decide)
  by_cases c1521 : x1 = 1
  · have c1521i := i_eq (b := 1) c1521 rfl (by decide)
    refine lv_tableIn (tgt := 92) hx hb dX6_about_1 (by rw [c1521]; decide) (by rw [c1521]; decide) (by first | (rw [c1521]; done) | (rw [c1521]; rfl)) (by decide) ?_
    refine lv_aload_n hx hb dX6_about_92 rfl (lv_at hl 0 rfl) ?_
    refine va_get (D := (dC, dI)) (ci := 6) (v := .ref (ad 2)) (C := RX6) (T := TX6) (N := 20) hx hb hts hi6 hown hK hP 0 rfl rfl 2 (by decide) (hts _ (ow_m (k := 2) rfl)) (fun _ h9 => h9) rfl dX6_about_93 ?_
    refine va_get (D := (dC, dI)) (ci := 1) (v := .int 0) (C := RX1) (T := TX1) (N := 11) hx hb hts hi1 hown hK hP 1 rfl rfl 5 (by decide) (hts _ (ow_m (k := 3) rfl)) (fun _ h9 => h9) rfl dX6_about_96 ?_
    exact W.iret (v := 0) hx hb hr (fun t ht hW => ⟨⟨0, (), rfl, (by first | decide | (unfold sp_about; (repeat' split) <;> first | rfl | omega)), cE.nil⟩, hS.F ht⟩) hS.2.2 dX6_about_99
  have c1521i := i_ne (b := 1) c1521 rfl (by decide)
  by_cases c1522 : x1 = 2
  · have c1522i := i_eq (b := 2) c1522 rfl (by decide)
    refine lv_tableIn (tgt := 100) hx hb dX6_about_1 (by rw [c1522]; decide) (by rw [c1522]; decide) (by first | (rw [c1522]; done) | (rw [c1522]; rfl)) (by decide) ?_
    refine lv_aload_n hx hb dX6_about_100 rfl (lv_at hl 0 rfl) ?_
    refine va_get (D := (dC, dI)) (ci := 6) (v := .ref (ad 2)) (C := RX6) (T := TX6) (N := 20) hx hb hts hi6 hown hK hP 0 rfl rfl 2 (by decide) (hts _ (ow_m (k := 2) rfl)) (fun _ h9 => h9) rfl dX6_about_101 ?_
    refine va_get (D := (dC, dI)) (ci := 1) (v := .int 0) (C := RX1) (T := TX1) (N := 11) hx hb hts hi1 hown hK hP 1 rfl rfl 6 (by decide) (hts _ (ow_m (k := 4) rfl)) (fun _ h9 => h9) rfl dX6_about_104 ?_
    exact W.iret (v := 0) hx hb hr (fun t ht hW => ⟨⟨0, (), rfl, (by first | decide | (unfold sp_about; (repeat' split) <;> first | rfl | omega)), cE.nil⟩, hS.F ht⟩) hS.2.2 dX6_about_107
  have c1522i := i_ne (b := 2) c1522 rfl (by decide)
  by_cases c1523 : x1 = 3
  · have c1523i := i_eq (b := 3) c1523 rfl (by decide)
    refine lv_tableIn (tgt := 108) hx hb dX6_about_1 (by rw [c1523]; decide) (by rw [c1523]; decide) (by first | (rw [c1523]; done) | (rw [c1523]; rfl)) (by decide) ?_
    refine lv_aload_n hx hb dX6_about_108 rfl (lv_at hl 0 rfl) ?_
    refine va_get (D := (dC, dI)) (ci := 6) (v := .ref (ad 9)) (C := RX6) (T := TX6) (N := 20) hx hb hts hi6 hown hK hP 0 rfl rfl 9 (by decide) (hts _ (ow_m (k := 0) rfl)) (fun _ h9 => h9) rfl dX6_about_109 ?_
    refine gf_i (wr := [(h0, .inr (6, [.ref (ad 0), .int 0, .ref (ad 2), .ref (ad 3), .ref (ad 4), .ref (ad 5), .ref (ad 6), .int 0, .int 0, .ref (ad 9), .ref (ad 10), .ref (ad 11), .ref (ad 12), .ref (ad 13), .int 0, .ref (ad 15), .int 0, .ref (ad 17), .ref (ad 18), .int 0])), (ad 2, .inr (1, [.ref (pd 0), .ref (pd 1), .ref (pd 2), .ref (pd 3), .int 0, .int 0, .int 0, .int 0, .int 2, .int 0, .int 0])), (ad 17, .inr (4, [.ref (gd 0), .ref (gd 1), .ref (gd 2), .ref (gd 3), .int 0]))]) (va_runV (As := []) (rest := []) hfix (k_X5_headHas l dC dI cyB cyI cyJ cyZ cyO ad sd _) (cwV 0 hts (gi_V (ow_m (k := 5) rfl) (ow_m (k := 6) rfl) (ow_m (k := 7) rfl) (ow_m (k := 8) rfl) (sb_c sb_l) gd_k_X5_headHas) rfl rfl rfl (by decide +kernel) ⟨Nat.le_of_ble_eq_true rfl, Nat.le_of_ble_eq_true rfl⟩) (g_preV hKN hP hD [2] rfl (by decide) 0 5 rfl rfl) rfl rfl hl.1 rfl (lv_room (Nat.le_of_ble_eq_true rfl)) dX6_about_112 ⟨Nat.le_of_ble_eq_true rfl, Nat.le_of_ble_eq_true rfl⟩) hP hD hS hA [2] [0, 1, 3] rfl rfl (by decide) (by decide) (fun r1525 u1526 H locs qu1526 hP hD hS => ?_)
    have hP : va_P (dC, dI) vwCl [(h0, .inr (6, [.ref (ad 0), .int 0, .ref (ad 2), .ref (ad 3), .ref (ad 4), .ref (ad 5), .ref (ad 6), .int 0, .int 0, .ref (ad 9), .ref (ad 10), .ref (ad 11), .ref (ad 12), .ref (ad 13), .int 0, .ref (ad 15), .int 0, .ref (ad 17), .ref (ad 18), .int 0])), (ad 2, .inr (1, [.ref (pd 0), .ref (pd 1), .ref (pd 2), .ref (pd 3), .int 0, .int 0, .int 0, .int 0, .int 2, .int 0, .int 0])), (ad 17, .inr (4, [.ref (gd 0), .ref (gd 1), .ref (gd 2), .ref (gd 3), .int 0])), (ad 9, .inr (5, [.ref (sd 0), .ref (sd 1), .ref (sd 2), .ref (sd 3), .ref (sd 4), .ref (sd 5), .ref (sd 6), .int 0, .int (-1), .int 0, .int 0, .int 0, .int 0]))] H := hP
    have hD : va_D A [(h0, .inr (6, [.ref (ad 0), .int 0, .ref (ad 2), .ref (ad 3), .ref (ad 4), .ref (ad 5), .ref (ad 6), .int 0, .int 0, .ref (ad 9), .ref (ad 10), .ref (ad 11), .ref (ad 12), .ref (ad 13), .int 0, .ref (ad 15), .int 0, .ref (ad 17), .ref (ad 18), .int 0])), (ad 2, .inr (1, [.ref (pd 0), .ref (pd 1), .ref (pd 2), .ref (pd 3), .int 0, .int 0, .int 0, .int 0, .int 2, .int 0, .int 0])), (ad 17, .inr (4, [.ref (gd 0), .ref (gd 1), .ref (gd 2), .ref (gd 3), .int 0])), (ad 9, .inr (5, [.ref (sd 0), .ref (sd 1), .ref (sd 2), .ref (sd 3), .ref (sd 4), .ref (sd 5), .ref (sd 6), .int 0, .int (-1), .int 0, .int 0, .int 0, .int 0]))] := hD
    refine tp_c (w := 0) qu1526 ?_
    exact W.iret (v := 0) hx hb hr (fun t ht hW => ⟨⟨0, (), rfl, (by first | decide | (unfold sp_about; (repeat' split) <;> first | rfl | omega)), cE.nil⟩, hS.F ht⟩) hS.2.2 dX6_about_115
  have c1523i := i_ne (b := 3) c1523 rfl (by decide)
  by_cases c1527 : x1 = 4
  · have c1527i := i_eq (b := 4) c1527 rfl (by decide)
    refine lv_tableIn (tgt := 116) hx hb dX6_about_1 (by rw [c1527]; decide) (by rw [c1527]; decide) (by first | (rw [c1527]; done) | (rw [c1527]; rfl)) (by decide) ?_
    refine lv_aload_n hx hb dX6_about_116 rfl (lv_at hl 0 rfl) ?_
    refine va_get (D := (dC, dI)) (ci := 6) (v := .ref (ad 9)) (C := RX6) (T := TX6) (N := 20) hx hb hts hi6 hown hK hP 0 rfl rfl 9 (by decide) (hts _ (ow_m (k := 0) rfl)) (fun _ h9 => h9) rfl dX6_about_117 ?_
    refine va_get (D := (dC, dI)) (ci := 5) (v := .int 0) (C := RX5) (T := TX5) (N := 13) hx hb hts hi5 hown hK hP 2 rfl rfl 12 (by decide) (hts _ (ow_m (k := 9) rfl)) (fun _ h9 => h9) rfl dX6_about_120 ?_
    exact W.iret (v := 0) hx hb hr (fun t ht hW => ⟨⟨0, (), rfl, (by first | decide | (unfold sp_about; (repeat' split) <;> first | rfl | omega)), cE.nil⟩, hS.F ht⟩) hS.2.2 dX6_about_123
  have c1527i := i_ne (b := 4) c1527 rfl (by decide)
  by_cases c1528 : x1 = 5
  · have c1528i := i_eq (b := 5) c1528 rfl (by decide)
    refine lv_tableIn (tgt := 124) hx hb dX6_about_1 (by rw [c1528]; decide) (by rw [c1528]; decide) (by first | (rw [c1528]; done) | (rw [c1528]; rfl)) (by decide) ?_
    refine lv_aload_n hx hb dX6_about_124 rfl (lv_at hl 0 rfl) ?_
    refine va_get (D := (dC, dI)) (ci := 6) (v := .ref (ad 9)) (C := RX6) (T := TX6) (N := 20) hx hb hts hi6 hown hK hP 0 rfl rfl 9 (by decide) (hts _ (ow_m (k := 0) rfl)) (fun _ h9 => h9) rfl dX6_about_125 ?_
    refine va_get (D := (dC, dI)) (ci := 5) (v := .int 0) (C := RX5) (T := TX5) (N := 13) hx hb hts hi5 hown hK hP 2 rfl rfl 9 (by decide) (hts _ (ow_m (k := 10) rfl)) (fun _ h9 => h9) rfl dX6_about_128 ?_
    exact W.iret (v := 0) hx hb hr (fun t ht hW => ⟨⟨0, (), rfl, (by first | decide | (unfold sp_about; (repeat' split) <;> first | rfl | omega)), cE.nil⟩, hS.F ht⟩) hS.2.2 dX6_about_131
  have c1528i := i_ne (b := 5) c1528 rfl (by decide)
  by_cases c1529 : x1 = 6
  · have c1529i := i_eq (b := 6) c1529 rfl (by decide)
    refine lv_tableIn (tgt := 132) hx hb dX6_about_1 (by rw [c1529]; decide) (by rw [c1529]; decide) (by first | (rw [c1529]; done) | (rw [c1529]; rfl)) (by decide) ?_
    refine lv_aload_n hx hb dX6_about_132 rfl (lv_at hl 0 rfl) ?_
    refine va_get (D := (dC, dI)) (ci := 6) (v := .ref (ad 9)) (C := RX6) (T := TX6) (N := 20) hx hb hts hi6 hown hK hP 0 rfl rfl 9 (by decide) (hts _ (ow_m (k := 0) rfl)) (fun _ h9 => h9) rfl dX6_about_133 ?_
    refine va_get (D := (dC, dI)) (ci := 5) (v := .int 0) (C := RX5) (T := TX5) (N := 13) hx hb hts hi5 hown hK hP 2 rfl rfl 10 (by decide) (hts _ (ow_m (k := 11) rfl)) (fun _ h9 => h9) rfl dX6_about_136 ?_
    exact W.iret (v := 0) hx hb hr (fun t ht hW => ⟨⟨0, (), rfl, (by first | decide | (unfold sp_about; (repeat' split) <;> first | rfl | omega)), cE.nil⟩, hS.F ht⟩) hS.2.2 dX6_about_139
  have c1529i := i_ne (b := 6) c1529 rfl (by decide)
  by_cases c1530 : x1 = 7
  · have c1530i := i_eq (b := 7) c1530 rfl (by decide)
    refine lv_tableIn (tgt := 140) hx hb dX6_about_1 (by rw [c1530]; decide) (by rw [c1530]; decide) (by first | (rw [c1530]; done) | (rw [c1530]; rfl)) (by decide) ?_
    refine lv_aload_n hx hb dX6_about_140 rfl (lv_at hl 0 rfl) ?_
    refine va_get (D := (dC, dI)) (ci := 6) (v := .ref (ad 9)) (C := RX6) (T := TX6) (N := 20) hx hb hts hi6 hown hK hP 0 rfl rfl 9 (by decide) (hts _ (ow_m (k := 0) rfl)) (fun _ h9 => h9) rfl dX6_about_141 ?_
    refine va_get (D := (dC, dI)) (ci := 5) (v := .int 0) (C := RX5) (T := TX5) (N := 13) hx hb hts hi5 hown hK hP 2 rfl rfl 11 (by decide) (hts _ (ow_m (k := 12) rfl)) (fun _ h9 => h9) rfl dX6_about_144 ?_
    exact W.iret (v := 0) hx hb hr (fun t ht hW => ⟨⟨0, (), rfl, (by first | decide | (unfold sp_about; (repeat' split) <;> first | rfl | omega)), cE.nil⟩, hS.F ht⟩) hS.2.2 dX6_about_147
  have c1530i := i_ne (b := 7) c1530 rfl (by decide)
  by_cases c1531 : x1 = 8
  · have c1531i := i_eq (b := 8) c1531 rfl (by decide)
    refine lv_tableIn (tgt := 148) hx hb dX6_about_1 (by rw [c1531]; decide) (by rw [c1531]; decide) (by first | (rw [c1531]; done) | (rw [c1531]; rfl)) (by decide) ?_
    refine lv_aload_n hx hb dX6_about_148 rfl (lv_at hl 0 rfl) ?_
    refine va_get (D := (dC, dI)) (ci := 6) (v := .int 0) (C := RX6) (T := TX6) (N := 20) hx hb hts hi6 hown hK hP 0 rfl rfl 7 (by decide) (hts _ (ow_m (k := 13) rfl)) (fun _ h9 => h9) rfl dX6_about_149 ?_
    exact W.iret (v := 0) hx hb hr (fun t ht hW => ⟨⟨0, (), rfl, (by first | decide | (unfold sp_about; (repeat' split) <;> first | rfl | omega)), cE.nil⟩, hS.F ht⟩) hS.2.2 dX6_about_152
  have c1531i := i_ne (b := 8) c1531 rfl (by decide)
  by_cases c1532 : x1 = 9
  · have c1532i := i_eq (b := 9) c1532 rfl (by decide)
    refine lv_tableIn (tgt := 153) hx hb dX6_about_1 (by rw [c1532]; decide) (by rw [c1532]; decide) (by first | (rw [c1532]; done) | (rw [c1532]; rfl)) (by decide) ?_
    refine lv_aload_n hx hb dX6_about_153 rfl (lv_at hl 0 rfl) ?_
    refine va_get (D := (dC, dI)) (ci := 6) (v := .int 0) (C := RX6) (T := TX6) (N := 20) hx hb hts hi6 hown hK hP 0 rfl rfl 8 (by decide) (hts _ (ow_m (k := 14) rfl)) (fun _ h9 => h9) rfl dX6_about_154 ?_
    refine lv_aload_n hx hb dX6_about_157 rfl (lv_at hl 0 rfl) ?_
    refine va_get (D := (dC, dI)) (ci := 6) (v := .int 0) (C := RX6) (T := TX6) (N := 20) hx hb hts hi6 hown hK hP 0 rfl rfl 7 (by decide) (hts _ (ow_m (k := 13) rfl)) (fun _ h9 => h9) rfl dX6_about_158 ?_
    refine lv_isub hx hb dX6_about_161 ?_
    refine tp_c (w := 0) (by decide) ?_
    exact W.iret (v := 0) hx hb hr (fun t ht hW => ⟨⟨0, (), rfl, (by first | decide | (unfold sp_about; (repeat' split) <;> first | rfl | omega)), cE.nil⟩, hS.F ht⟩) hS.2.2 dX6_about_162
  have c1532i := i_ne (b := 9) c1532 rfl (by decide)
  by_cases c1533 : x1 = 10
  · have c1533i := i_eq (b := 10) c1533 rfl (by decide)
    refine lv_tableIn (tgt := 163) hx hb dX6_about_1 (by rw [c1533]; decide) (by rw [c1533]; decide) (by first | (rw [c1533]; done) | (rw [c1533]; rfl)) (by decide) ?_
    refine lv_aload_n hx hb dX6_about_163 rfl (lv_at hl 0 rfl) ?_
    refine va_get (D := (dC, dI)) (ci := 6) (v := .ref (ad 17)) (C := RX6) (T := TX6) (N := 20) hx hb hts hi6 hown hK hP 0 rfl rfl 17 (by decide) (hts _ (ow_m (k := 15) rfl)) (fun _ h9 => h9) rfl dX6_about_164 ?_
    refine va_get (D := (dC, dI)) (ci := 4) (v := .int 0) (C := RX4) (T := TX4) (N := 5) hx hb hts hi4 hown hK hP 3 rfl rfl 4 (by decide) (hts _ (ow_m (k := 16) rfl)) (fun _ h9 => h9) rfl dX6_about_167 ?_
    exact W.iret (v := 0) hx hb hr (fun t ht hW => ⟨⟨0, (), rfl, (by first | decide | (unfold sp_about; (repeat' split) <;> first | rfl | omega)), cE.nil⟩, hS.F ht⟩) hS.2.2 dX6_about_170
  have c1533i := i_ne (b := 10) c1533 rfl (by decide)
  by_cases c1534 : x1 = 11
  · have c1534i := i_eq (b := 11) c1534 rfl (by decide)
    refine lv_tableIn (tgt := 171) hx hb dX6_about_1 (by rw [c1534]; decide) (by rw [c1534]; decide) (by first | (rw [c1534]; done) | (rw [c1534]; rfl)) (by decide) ?_
    refine lv_aload_n hx hb dX6_about_171 rfl (lv_at hl 0 rfl) ?_
    refine va_get (D := (dC, dI)) (ci := 6) (v := .int 0) (C := RX6) (T := TX6) (N := 20) hx hb hts hi6 hown hK hP 0 rfl rfl 19 (by decide) (hts _ (ow_m (k := 17) rfl)) (fun _ h9 => h9) rfl dX6_about_172 ?_
    exact W.iret (v := 0) hx hb hr (fun t ht hW => ⟨⟨0, (), rfl, (by first | decide | (unfold sp_about; (repeat' split) <;> first | rfl | omega)), cE.nil⟩, hS.F ht⟩) hS.2.2 dX6_about_175
  have c1534i := i_ne (b := 11) c1534 rfl (by decide)
  by_cases c1535 : x1 = 12
  · have c1535i := i_eq (b := 12) c1535 rfl (by decide)
    refine lv_tableIn (tgt := 176) hx hb dX6_about_1 (by rw [c1535]; decide) (by rw [c1535]; decide) (by first | (rw [c1535]; done) | (rw [c1535]; rfl)) (by decide) ?_
    refine lv_aload_n hx hb dX6_about_176 rfl (lv_at hl 0 rfl) ?_
    refine va_get (D := (dC, dI)) (ci := 6) (v := .int 0) (C := RX6) (T := TX6) (N := 20) hx hb hts hi6 hown hK hP 0 rfl rfl 1 (by decide) (hts _ (ow_m (k := 18) rfl)) (fun _ h9 => h9) rfl dX6_about_177 ?_
    exact W.iret (v := 0) hx hb hr (fun t ht hW => ⟨⟨0, (), rfl, (by first | decide | (unfold sp_about; (repeat' split) <;> first | rfl | omega)), cE.nil⟩, hS.F ht⟩) hS.2.2 dX6_about_180
  have c1535i := i_ne (b := 12) c1535 rfl (by decide)
  by_cases c1536 : x1 = 13
  · have c1536i := i_eq (b := 13) c1536 rfl (by decide)
    refine lv_tableIn (tgt := 181) hx hb dX6_about_1 (by rw [c1536]; decide) (by rw [c1536]; decide) (by first | (rw [c1536]; done) | (rw [c1536]; rfl)) (by decide) ?_
    refine lv_aload_n hx hb dX6_about_181 rfl (lv_at hl 0 rfl) ?_
    refine va_get (D := (dC, dI)) (ci := 6) (v := .ref (ad 2)) (C := RX6) (T := TX6) (N := 20) hx hb hts hi6 hown hK hP 0 rfl rfl 2 (by decide) (hts _ (ow_m (k := 2) rfl)) (fun _ h9 => h9) rfl dX6_about_182 ?_
    refine va_get (D := (dC, dI)) (ci := 1) (v := .int 0) (C := RX1) (T := TX1) (N := 11) hx hb hts hi1 hown hK hP 1 rfl rfl 7 (by decide) (hts _ (ow_m (k := 19) rfl)) (fun _ h9 => h9) rfl dX6_about_185 ?_
    exact W.iret (v := 0) hx hb hr (fun t ht hW => ⟨⟨0, (), rfl, (by first | decide | (unfold sp_about; (repeat' split) <;> first | rfl | omega)), cE.nil⟩, hS.F ht⟩) hS.2.2 dX6_about_188
  have c1536i := i_ne (b := 13) c1536 rfl (by decide)
  by_cases c1537 : x1 = 14
  · have c1537i := i_eq (b := 14) c1537 rfl (by decide)
    refine lv_tableIn (tgt := 189) hx hb dX6_about_1 (by rw [c1537]; decide) (by rw [c1537]; decide) (by first | (rw [c1537]; done) | (rw [c1537]; rfl)) (by decide) ?_
    refine lv_aload_n hx hb dX6_about_189 rfl (lv_at hl 0 rfl) ?_
    refine va_get (D := (dC, dI)) (ci := 6) (v := .int 0) (C := RX6) (T := TX6) (N := 20) hx hb hts hi6 hown hK hP 0 rfl rfl 14 (by decide) (hts _ (ow_m (k := 20) rfl)) (fun _ h9 => h9) rfl dX6_about_190 ?_
    exact W.iret (v := 0) hx hb hr (fun t ht hW => ⟨⟨0, (), rfl, (by first | decide | (unfold sp_about; (repeat' split) <;> first | rfl | omega)), cE.nil⟩, hS.F ht⟩) hS.2.2 dX6_about_193
  have c1537i := i_ne (b := 14) c1537 rfl (by decide)
  by_cases c1538 : x1 = 15
  · have c1538i := i_eq (b := 15) c1538 rfl (by decide)
    refine lv_tableIn (tgt := 194) hx hb dX6_about_1 (by rw [c1538]; decide) (by rw [c1538]; decide) (by first | (rw [c1538]; done) | (rw [c1538]; rfl)) (by decide) ?_
    refine lv_aload_n hx hb dX6_about_194 rfl (lv_at hl 0 rfl) ?_
    refine va_get (D := (dC, dI)) (ci := 6) (v := .ref (ad 2)) (C := RX6) (T := TX6) (N := 20) hx hb hts hi6 hown hK hP 0 rfl rfl 2 (by decide) (hts _ (ow_m (k := 2) rfl)) (fun _ h9 => h9) rfl dX6_about_195 ?_
    refine va_get (D := (dC, dI)) (ci := 1) (v := .int 2) (C := RX1) (T := TX1) (N := 11) hx hb hts hi1 hown hK hP 1 rfl rfl 8 (by decide) (hts _ (ow_m (k := 21) rfl)) (fun _ h9 => h9) rfl dX6_about_198 ?_
    exact W.iret (v := 2) hx hb hr (fun t ht hW => ⟨⟨2, (), rfl, (by first | decide | (unfold sp_about; (repeat' split) <;> first | rfl | omega)), cE.nil⟩, hS.F ht⟩) hS.2.2 dX6_about_201
  have c1538i := i_ne (b := 15) c1538 rfl (by decide)
  by_cases c1539 : x1 = 16
  · have c1539i := i_eq (b := 16) c1539 rfl (by decide)
    refine lv_tableIn (tgt := 202) hx hb dX6_about_1 (by rw [c1539]; decide) (by rw [c1539]; decide) (by first | (rw [c1539]; done) | (rw [c1539]; rfl)) (by decide) ?_
    refine lv_aload_n hx hb dX6_about_202 rfl (lv_at hl 0 rfl) ?_
    refine va_get (D := (dC, dI)) (ci := 6) (v := .ref (ad 2)) (C := RX6) (T := TX6) (N := 20) hx hb hts hi6 hown hK hP 0 rfl rfl 2 (by decide) (hts _ (ow_m (k := 2) rfl)) (fun _ h9 => h9) rfl dX6_about_203 ?_
    refine va_get (D := (dC, dI)) (ci := 1) (v := .int 0) (C := RX1) (T := TX1) (N := 11) hx hb hts hi1 hown hK hP 1 rfl rfl 9 (by decide) (hts _ (ow_m (k := 22) rfl)) (fun _ h9 => h9) rfl dX6_about_206 ?_
    exact W.iret (v := 0) hx hb hr (fun t ht hW => ⟨⟨0, (), rfl, (by first | decide | (unfold sp_about; (repeat' split) <;> first | rfl | omega)), cE.nil⟩, hS.F ht⟩) hS.2.2 dX6_about_209
  have c1539i := i_ne (b := 16) c1539 rfl (by decide)
  refine lv_tableOut (tgt := 210) hx hb dX6_about_1 (by omega) (by decide) ?_
  refine lv_iconst (v := (-1)) hx hb dX6_about_210 (by decide) ?_
  exact W.iret (v := (-1)) hx hb hr (fun t ht hW => ⟨⟨(-1), (), rfl, (by first | decide | (unfold sp_about; (repeat' split) <;> first | rfl | omega)), cE.nil⟩, hS.F ht⟩) hS.2.2 dX6_about_211
def wo_c_M_feed : List Cond := [.fieldLink RX7 211 "ReplicaChainModel" "taped" "I", .fieldLink RX7 7 "ReplicaChainModel" "tape" "[B"]
def wq_c_M_feed : List Cond := .code yX7_feed cX7_feed 8 (some .int) :: (wo_c_M_feed ++ (wsX70 ++ []))
theorem gd_c_M_feed : Gd wq_c_M_feed := gd_c (gd_a (gd_o (by decide +kernel)) (gd_a gd_u gd_0))
abbrev wc_c_M_feed (cyB cyI cyJ cyZ cyO : ClassId) (h1 : Nat) (md : Nat → Nat) (x1 : Int32) (x2 : Int32) (x3 : Int32) (x4 : Int32) (x5 : Int32) : va_W := [(h1, .inr (7, [.ref (md 0), .ref (md 1), .int 0, .int 0, .int 0, .int (-1), .int 0, .int 0, .int 0, .int 0, .long 0, .ref (md 11), .ref (md 12), .ref (md 13), .ref (md 14), .ref (md 15), .ref (md 16), .ref (md 17), .ref (md 18), .ref (md 19), .ref (md 20), .ref (md 21), .ref (md 22), .ref (md 23), .ref (md 24), .ref (md 25), .ref (md 26), .ref (md 27), .ref (md 28), .int 0, .int 0, .int 0, .int 0, .int 0, .int 0, .int 0, .int 0, .int 0, .int 0, .int 0, .ref (md 40), .ref (md 41), .int 0, .int 0, .ref (md 44), .int 0, .int 0, .ref (md 47), .ref (md 48), .int 0, .ref (md 50), .ref (md 51), .ref (md 52), .ref (md 53), .ref (md 54), .int 0, .int 0, .ref (md 57), .ref (md 58)])), (md 0, .inl (cyB, 1620, .inl (fun _ => 0)))]
set_option maxHeartbeats 4000000 in
set_option maxRecDepth 100000 in
theorem c_M_feed (l : Launch) (dC : Nat → ClassId) (dI : Nat → Nat → Nat) (cyB cyI cyJ cyZ cyO : ClassId) (h1 : Nat) (md : Nat → Nat) (x1 : Int32) (x2 : Int32) (x3 : Int32) (x4 : Int32) (x5 : Int32) (sz : Nat) : Met l yX7_feed wq_c_M_feed ({ frames := 0, cells := 0, slots := 0, locals := 0 }) (va_Pc [.ref h1, .int x1, .int x2, .int x3, .int x4, .int x5] (cB (dC, dI) (kT cyB cyI cyJ cyZ cyO) (wc_c_M_feed cyB cyI cyJ cyZ cyO h1 md x1 x2 x3 x4 x5) sz)) (va_Qi (fun (r : Int32) (_ : Unit) => r = 20) (fun (u : Unit) t => cE (dC, dI) (va_A (wc_c_M_feed cyB cyI cyJ cyZ cyO h1 md x1 x2 x3 x4 x5) sz) ([]) t.heap) (va_A (wc_c_M_feed cyB cyI cyJ cyZ cyO h1 md x1 x2 x3 x4 x5) sz)) 0 0 (va_A (wc_c_M_feed cyB cyI cyJ cyZ cyO h1 md x1 x2 x3 x4 x5) sz) := by
  refine Met.ofW (cc := cX7_feed) (maxL := 8) (ret := (some .int)) (by decide) rfl ?_
  intro p e s m args below meth c s₁ B hml hv
  obtain ⟨rfl, hsz, hP, hKN, hD0⟩ := hv
  have hx := B.exec
  have hb := B.bytes
  have hr := B.returns
  have hts := atoms_spec (ws := wq_c_M_feed) B.pre
  have hown : s.vm.findClass RX7 = some m.cls := findClass_of_methodNamed B.named
  have hlocks := B.notSynchronized
  have hK := hKN.1
  have hfix : CallFix p m c cX7_feed 8 s [.ref h1, .int x1, .int x2, .int x3, .int x4, .int x5].toArray wq_c_M_feed RX7 := ⟨hx, hb, hml, hown, hts⟩
  have hi7 : ∀ w ∈ wsX70, w ∈ wq_c_M_feed := (sb_c sb_l)
  subst hsz
  have hD := hD0.self (sz := s.heap.size)
  generalize hAe : va_A (wc_c_M_feed cyB cyI cyJ cyZ cyO h1 md x1 x2 x3 x4 x5) s.heap.size = A at hD ⊢
  have hA : ∀ q : Nat, s.heap.size ≤ q → A q := fun q h => by rw [← hAe]; exact Or.inr h
  have hS : va_S A s.heap s.heap [] := va_S.rf
  have hl := lv_entry ([.ref h1, .int x1, .int x2, .int x3, .int x4, .int x5]) (n := 8) (Nat.le_of_ble_eq_true rfl)
  rw [lg_entry_eq]
  generalize (lg_sl ([.ref h1, .int x1, .int x2, .int x3, .int x4, .int x5]) ++ List.replicate (8 - (lg_sl ([.ref h1, .int x1, .int x2, .int x3, .int x4, .int x5])).length) Slot.unset).toArray = ls at hl ⊢
  have hl : lv_has ls 8 [(0, .ref h1), (1, .int x1), (2, .int x2), (3, .int x3), (4, .int x4), (5, .int x5)] := hl
  refine lv_aload_n hx hb dX7_feed_0 rfl (lv_at hl 0 rfl) ?_
  refine va_get (D := (dC, dI)) (ci := 7) (v := .int 0) (C := RX7) (T := TX7) (N := 59) hx hb hts hi7 hown hK hP 0 rfl rfl 2 (by decide) (hts _ (ow_m (k := 0) rfl)) (fun _ h9 => h9) rfl dX7_feed_1 ?_
  refine lv_bipush (v := 20) hx hb dX7_feed_4 (by decide) ?_
  refine lv_iadd hx hb dX7_feed_6 ?_
  refine tp_c (w := 20) (by decide) ?_
  refine lv_sipush (v := 1600) hx hb dX7_feed_7 (by decide) ?_
  refine lv_icmp_le (tgt := 15) hx hb dX7_feed_10 (by decide) (fun _ => ?_) (fun c1678 => absurd (by decide) c1678)
  refine lv_iconst (v := 0) hx hb dX7_feed_15 (by decide) ?_
  refine lv_istore (lv' := [(6, .int 0), (0, .ref h1), (1, .int x1), (2, .int x2), (3, .int x3), (4, .int x4), (5, .int x5)]) hx hb dX7_feed_16 hl (by decide) rfl (fun ls hl => ?_)
  refine lv_iload hx hb dX7_feed_18 (lv_at hl 0 rfl) ?_
  refine lv_bipush (v := 20) hx hb dX7_feed_20 (by decide) ?_
  refine lv_icmp_ge (tgt := 105) hx hb dX7_feed_22 (by decide) (fun c1679 => absurd c1679 (by decide)) (fun _ => ?_)
  refine lv_iload hx hb dX7_feed_25 (lv_at hl 0 rfl) ?_
  refine lv_iconst (v := 4) hx hb dX7_feed_27 (by decide) ?_
  refine lv_icmp_ge (tgt := 35) hx hb dX7_feed_28 (by decide) (fun c1680 => absurd c1680 (by decide)) (fun _ => ?_)
  refine lv_iload_n hx hb dX7_feed_31 rfl (lv_at hl 2 rfl) ?_
  refine lv_goto (tgt := 71) hx hb dX7_feed_32 (by decide) ?_
  refine lv_istore (lv' := [(7, .int x1), (6, .int 0), (0, .ref h1), (1, .int x1), (2, .int x2), (3, .int x3), (4, .int x4), (5, .int x5)]) hx hb dX7_feed_71 hl (by decide) rfl (fun ls hl => ?_)
  refine lv_aload_n hx hb dX7_feed_73 rfl (lv_at hl 2 rfl) ?_
  refine va_get (D := (dC, dI)) (ci := 7) (v := .ref (md 0)) (C := RX7) (T := TX7) (N := 59) hx hb hts hi7 hown hK hP 0 rfl rfl 0 (by decide) (hts _ (ow_m (k := 1) rfl)) (fun _ h9 => h9) rfl dX7_feed_74 ?_
  refine lv_aload_n hx hb dX7_feed_77 rfl (lv_at hl 2 rfl) ?_
  refine va_get (D := (dC, dI)) (ci := 7) (v := .int 0) (C := RX7) (T := TX7) (N := 59) hx hb hts hi7 hown hK hP 0 rfl rfl 2 (by decide) (hts _ (ow_m (k := 0) rfl)) (fun _ h9 => h9) rfl dX7_feed_78 ?_
  refine lv_iload hx hb dX7_feed_81 (lv_at hl 1 rfl) ?_
  refine lv_iadd hx hb dX7_feed_83 ?_
  refine tp_c (w := 0) (by decide) ?_
  refine lv_iload hx hb dX7_feed_84 (lv_at hl 0 rfl) ?_
  refine lv_bipush (v := 24) hx hb dX7_feed_86 (by decide) ?_
  refine lv_bipush (v := 8) hx hb dX7_feed_88 (by decide) ?_
  refine lv_iload hx hb dX7_feed_90 (lv_at hl 1 rfl) ?_
  refine lv_iconst (v := 3) hx hb dX7_feed_92 (by decide) ?_
  refine lv_iand hx hb dX7_feed_93 ?_
  refine tp_c (w := 0) (by decide) ?_
  refine lv_imul hx hb dX7_feed_94 ?_
  refine tp_c (w := 0) (by decide) ?_
  refine lv_isub hx hb dX7_feed_95 ?_
  refine tp_c (w := 24) (by decide) ?_
  refine lv_ishr hx hb dX7_feed_96 ?_
  refine lv_topi (fun z1681 ez1681 => ?_)
  refine lv_i2b hx hb dX7_feed_97 rfl ?_
  refine lv_topi (fun z1682 ez1682 => ?_)
  refine va_bast hx hb hK hP hD hS 1 0 rfl rfl (vp_i (a := 0) (by decide) (by decide) (by decide)) dX7_feed_98 (fun H locs hP hD hS => ?_)
  have hP : va_P (dC, dI) vwCl [(h1, .inr (7, [.ref (md 0), .ref (md 1), .int 0, .int 0, .int 0, .int (-1), .int 0, .int 0, .int 0, .int 0, .long 0, .ref (md 11), .ref (md 12), .ref (md 13), .ref (md 14), .ref (md 15), .ref (md 16), .ref (md 17), .ref (md 18), .ref (md 19), .ref (md 20), .ref (md 21), .ref (md 22), .ref (md 23), .ref (md 24), .ref (md 25), .ref (md 26), .ref (md 27), .ref (md 28), .int 0, .int 0, .int 0, .int 0, .int 0, .int 0, .int 0, .int 0, .int 0, .int 0, .int 0, .ref (md 40), .ref (md 41), .int 0, .int 0, .ref (md 44), .int 0, .int 0, .ref (md 47), .ref (md 48), .int 0, .ref (md 50), .ref (md 51), .ref (md 52), .ref (md 53), .ref (md 54), .int 0, .int 0, .ref (md 57), .ref (md 58)])), (md 0, .inl (cyB, 1620, .inl (upd (fun _ => 0) 0 (vp_nar .byte z1682))))] H := hP
  have hD : va_D A [(h1, .inr (7, [.ref (md 0), .ref (md 1), .int 0, .int 0, .int 0, .int (-1), .int 0, .int 0, .int 0, .int 0, .long 0, .ref (md 11), .ref (md 12), .ref (md 13), .ref (md 14), .ref (md 15), .ref (md 16), .ref (md 17), .ref (md 18), .ref (md 19), .ref (md 20), .ref (md 21), .ref (md 22), .ref (md 23), .ref (md 24), .ref (md 25), .ref (md 26), .ref (md 27), .ref (md 28), .int 0, .int 0, .int 0, .int 0, .int 0, .int 0, .int 0, .int 0, .int 0, .int 0, .int 0, .ref (md 40), .ref (md 41), .int 0, .int 0, .ref (md 44), .int 0, .int 0, .ref (md 47), .ref (md 48), .int 0, .ref (md 50), .ref (md 51), .ref (md 52), .ref (md 53), .ref (md 54), .int 0, .int 0, .ref (md 57), .ref (md 58)])), (md 0, .inl (cyB, 1620, .inl (upd (fun _ => 0) 0 (vp_nar .byte z1682))))] := hD
  generalize upd (fun _ => 0) 0 (vp_nar .byte z1682) = f1683 at hP hD
  refine lv_iinc (v := 1) (lv' := [(6, .int 1), (7, .int x1), (0, .ref h1), (1, .int x1), (2, .int x2), (3, .int x3), (4, .int x4), (5, .int x5)]) hx hb dX7_feed_99 hl (k := 1) rfl (by decide) (by decide) rfl (fun ls hl => ?_)
  refine lv_goto (tgt := 18) hx hb dX7_feed_102 (by decide) ?_
  refine lv_iload hx hb dX7_feed_18 (lv_at hl 0 rfl) ?_
  refine lv_bipush (v := 20) hx hb dX7_feed_20 (by decide) ?_
  refine lv_icmp_ge (tgt := 105) hx hb dX7_feed_22 (by decide) (fun c1684 => absurd c1684 (by decide)) (fun _ => ?_)
  refine lv_iload hx hb dX7_feed_25 (lv_at hl 0 rfl) ?_
  refine lv_iconst (v := 4) hx hb dX7_feed_27 (by decide) ?_
  refine lv_icmp_ge (tgt := 35) hx hb dX7_feed_28 (by decide) (fun c1685 => absurd c1685 (by decide)) (fun _ => ?_)
  refine lv_iload_n hx hb dX7_feed_31 rfl (lv_at hl 3 rfl) ?_
  refine lv_goto (tgt := 71) hx hb dX7_feed_32 (by decide) ?_
  refine lv_istore (lv' := [(7, .int x1), (6, .int 1), (0, .ref h1), (1, .int x1), (2, .int x2), (3, .int x3), (4, .int x4), (5, .int x5)]) hx hb dX7_feed_71 hl (by decide) rfl (fun ls hl => ?_)
  refine lv_aload_n hx hb dX7_feed_73 rfl (lv_at hl 2 rfl) ?_
  refine va_get (D := (dC, dI)) (ci := 7) (v := .ref (md 0)) (C := RX7) (T := TX7) (N := 59) hx hb hts hi7 hown hK hP 0 rfl rfl 0 (by decide) (hts _ (ow_m (k := 1) rfl)) (fun _ h9 => h9) rfl dX7_feed_74 ?_
  refine lv_aload_n hx hb dX7_feed_77 rfl (lv_at hl 2 rfl) ?_
  refine va_get (D := (dC, dI)) (ci := 7) (v := .int 0) (C := RX7) (T := TX7) (N := 59) hx hb hts hi7 hown hK hP 0 rfl rfl 2 (by decide) (hts _ (ow_m (k := 0) rfl)) (fun _ h9 => h9) rfl dX7_feed_78 ?_
  refine lv_iload hx hb dX7_feed_81 (lv_at hl 1 rfl) ?_
  refine lv_iadd hx hb dX7_feed_83 ?_
  refine tp_c (w := 1) (by decide) ?_
  refine lv_iload hx hb dX7_feed_84 (lv_at hl 0 rfl) ?_
  refine lv_bipush (v := 24) hx hb dX7_feed_86 (by decide) ?_
  refine lv_bipush (v := 8) hx hb dX7_feed_88 (by decide) ?_
  refine lv_iload hx hb dX7_feed_90 (lv_at hl 1 rfl) ?_
  refine lv_iconst (v := 3) hx hb dX7_feed_92 (by decide) ?_
  refine lv_iand hx hb dX7_feed_93 ?_
  refine tp_c (w := 1) (by decide) ?_
  refine lv_imul hx hb dX7_feed_94 ?_
  refine tp_c (w := 8) (by decide) ?_
  refine lv_isub hx hb dX7_feed_95 ?_
  refine tp_c (w := 16) (by decide) ?_
  refine lv_ishr hx hb dX7_feed_96 ?_
  refine lv_topi (fun z1686 ez1686 => ?_)
  refine lv_i2b hx hb dX7_feed_97 rfl ?_
  refine lv_topi (fun z1687 ez1687 => ?_)
  refine va_bast hx hb hK hP hD hS 1 0 rfl rfl (vp_i (a := 1) (by decide) (by decide) (by decide)) dX7_feed_98 (fun H locs hP hD hS => ?_)
  have hP : va_P (dC, dI) vwCl [(h1, .inr (7, [.ref (md 0), .ref (md 1), .int 0, .int 0, .int 0, .int (-1), .int 0, .int 0, .int 0, .int 0, .long 0, .ref (md 11), .ref (md 12), .ref (md 13), .ref (md 14), .ref (md 15), .ref (md 16), .ref (md 17), .ref (md 18), .ref (md 19), .ref (md 20), .ref (md 21), .ref (md 22), .ref (md 23), .ref (md 24), .ref (md 25), .ref (md 26), .ref (md 27), .ref (md 28), .int 0, .int 0, .int 0, .int 0, .int 0, .int 0, .int 0, .int 0, .int 0, .int 0, .int 0, .ref (md 40), .ref (md 41), .int 0, .int 0, .ref (md 44), .int 0, .int 0, .ref (md 47), .ref (md 48), .int 0, .ref (md 50), .ref (md 51), .ref (md 52), .ref (md 53), .ref (md 54), .int 0, .int 0, .ref (md 57), .ref (md 58)])), (md 0, .inl (cyB, 1620, .inl (upd f1683 1 (vp_nar .byte z1687))))] H := hP
  have hD : va_D A [(h1, .inr (7, [.ref (md 0), .ref (md 1), .int 0, .int 0, .int 0, .int (-1), .int 0, .int 0, .int 0, .int 0, .long 0, .ref (md 11), .ref (md 12), .ref (md 13), .ref (md 14), .ref (md 15), .ref (md 16), .ref (md 17), .ref (md 18), .ref (md 19), .ref (md 20), .ref (md 21), .ref (md 22), .ref (md 23), .ref (md 24), .ref (md 25), .ref (md 26), .ref (md 27), .ref (md 28), .int 0, .int 0, .int 0, .int 0, .int 0, .int 0, .int 0, .int 0, .int 0, .int 0, .int 0, .ref (md 40), .ref (md 41), .int 0, .int 0, .ref (md 44), .int 0, .int 0, .ref (md 47), .ref (md 48), .int 0, .ref (md 50), .ref (md 51), .ref (md 52), .ref (md 53), .ref (md 54), .int 0, .int 0, .ref (md 57), .ref (md 58)])), (md 0, .inl (cyB, 1620, .inl (upd f1683 1 (vp_nar .byte z1687))))] := hD
  generalize upd f1683 1 (vp_nar .byte z1687) = f1688 at hP hD
  refine lv_iinc (v := 2) (lv' := [(6, .int 2), (7, .int x1), (0, .ref h1), (1, .int x1), (2, .int x2), (3, .int x3), (4, .int x4), (5, .int x5)]) hx hb dX7_feed_99 hl (k := 1) rfl (by decide) (by decide) rfl (fun ls hl => ?_)
  refine lv_goto (tgt := 18) hx hb dX7_feed_102 (by decide) ?_
  refine lv_iload hx hb dX7_feed_18 (lv_at hl 0 rfl) ?_
  refine lv_bipush (v := 20) hx hb dX7_feed_20 (by decide) ?_
  refine lv_icmp_ge (tgt := 105) hx hb dX7_feed_22 (by decide) (fun c1689 => absurd c1689 (by decide)) (fun _ => ?_)
  refine lv_iload hx hb dX7_feed_25 (lv_at hl 0 rfl) ?_
  refine lv_iconst (v := 4) hx hb dX7_feed_27 (by decide) ?_
  refine lv_icmp_ge (tgt := 35) hx hb dX7_feed_28 (by decide) (fun c1690 => absurd c1690 (by decide)) (fun _ => ?_)
  refine lv_iload_n hx hb dX7_feed_31 rfl (lv_at hl 3 rfl) ?_
  refine lv_goto (tgt := 71) hx hb dX7_feed_32 (by decide) ?_
  refine lv_istore (lv' := [(7, .int x1), (6, .int 2), (0, .ref h1), (1, .int x1), (2, .int x2), (3, .int x3), (4, .int x4), (5, .int x5)]) hx hb dX7_feed_71 hl (by decide) rfl (fun ls hl => ?_)
  refine lv_aload_n hx hb dX7_feed_73 rfl (lv_at hl 2 rfl) ?_
  refine va_get (D := (dC, dI)) (ci := 7) (v := .ref (md 0)) (C := RX7) (T := TX7) (N := 59) hx hb hts hi7 hown hK hP 0 rfl rfl 0 (by decide) (hts _ (ow_m (k := 1) rfl)) (fun _ h9 => h9) rfl dX7_feed_74 ?_
  refine lv_aload_n hx hb dX7_feed_77 rfl (lv_at hl 2 rfl) ?_
  refine va_get (D := (dC, dI)) (ci := 7) (v := .int 0) (C := RX7) (T := TX7) (N := 59) hx hb hts hi7 hown hK hP 0 rfl rfl 2 (by decide) (hts _ (ow_m (k := 0) rfl)) (fun _ h9 => h9) rfl dX7_feed_78 ?_
  refine lv_iload hx hb dX7_feed_81 (lv_at hl 1 rfl) ?_
  refine lv_iadd hx hb dX7_feed_83 ?_
  refine tp_c (w := 2) (by decide) ?_
  refine lv_iload hx hb dX7_feed_84 (lv_at hl 0 rfl) ?_
  refine lv_bipush (v := 24) hx hb dX7_feed_86 (by decide) ?_
  refine lv_bipush (v := 8) hx hb dX7_feed_88 (by decide) ?_
  refine lv_iload hx hb dX7_feed_90 (lv_at hl 1 rfl) ?_
  refine lv_iconst (v := 3) hx hb dX7_feed_92 (by decide) ?_
  refine lv_iand hx hb dX7_feed_93 ?_
  refine tp_c (w := 2) (by decide) ?_
  refine lv_imul hx hb dX7_feed_94 ?_
  refine tp_c (w := 16) (by decide) ?_
  refine lv_isub hx hb dX7_feed_95 ?_
  refine tp_c (w := 8) (by decide) ?_
  refine lv_ishr hx hb dX7_feed_96 ?_
  refine lv_topi (fun z1691 ez1691 => ?_)
  refine lv_i2b hx hb dX7_feed_97 rfl ?_
  refine lv_topi (fun z1692 ez1692 => ?_)
  refine va_bast hx hb hK hP hD hS 1 0 rfl rfl (vp_i (a := 2) (by decide) (by decide) (by decide)) dX7_feed_98 (fun H locs hP hD hS => ?_)
  have hP : va_P (dC, dI) vwCl [(h1, .inr (7, [.ref (md 0), .ref (md 1), .int 0, .int 0, .int 0, .int (-1), .int 0, .int 0, .int 0, .int 0, .long 0, .ref (md 11), .ref (md 12), .ref (md 13), .ref (md 14), .ref (md 15), .ref (md 16), .ref (md 17), .ref (md 18), .ref (md 19), .ref (md 20), .ref (md 21), .ref (md 22), .ref (md 23), .ref (md 24), .ref (md 25), .ref (md 26), .ref (md 27), .ref (md 28), .int 0, .int 0, .int 0, .int 0, .int 0, .int 0, .int 0, .int 0, .int 0, .int 0, .int 0, .ref (md 40), .ref (md 41), .int 0, .int 0, .ref (md 44), .int 0, .int 0, .ref (md 47), .ref (md 48), .int 0, .ref (md 50), .ref (md 51), .ref (md 52), .ref (md 53), .ref (md 54), .int 0, .int 0, .ref (md 57), .ref (md 58)])), (md 0, .inl (cyB, 1620, .inl (upd f1688 2 (vp_nar .byte z1692))))] H := hP
  have hD : va_D A [(h1, .inr (7, [.ref (md 0), .ref (md 1), .int 0, .int 0, .int 0, .int (-1), .int 0, .int 0, .int 0, .int 0, .long 0, .ref (md 11), .ref (md 12), .ref (md 13), .ref (md 14), .ref (md 15), .ref (md 16), .ref (md 17), .ref (md 18), .ref (md 19), .ref (md 20), .ref (md 21), .ref (md 22), .ref (md 23), .ref (md 24), .ref (md 25), .ref (md 26), .ref (md 27), .ref (md 28), .int 0, .int 0, .int 0, .int 0, .int 0, .int 0, .int 0, .int 0, .int 0, .int 0, .int 0, .ref (md 40), .ref (md 41), .int 0, .int 0, .ref (md 44), .int 0, .int 0, .ref (md 47), .ref (md 48), .int 0, .ref (md 50), .ref (md 51), .ref (md 52), .ref (md 53), .ref (md 54), .int 0, .int 0, .ref (md 57), .ref (md 58)])), (md 0, .inl (cyB, 1620, .inl (upd f1688 2 (vp_nar .byte z1692))))] := hD
  generalize upd f1688 2 (vp_nar .byte z1692) = f1693 at hP hD
  refine lv_iinc (v := 3) (lv' := [(6, .int 3), (7, .int x1), (0, .ref h1), (1, .int x1), (2, .int x2), (3, .int x3), (4, .int x4), (5, .int x5)]) hx hb dX7_feed_99 hl (k := 1) rfl (by decide) (by decide) rfl (fun ls hl => ?_)
  refine lv_goto (tgt := 18) hx hb dX7_feed_102 (by decide) ?_
  refine lv_iload hx hb dX7_feed_18 (lv_at hl 0 rfl) ?_
  refine lv_bipush (v := 20) hx hb dX7_feed_20 (by decide) ?_
  refine lv_icmp_ge (tgt := 105) hx hb dX7_feed_22 (by decide) (fun c1694 => absurd c1694 (by decide)) (fun _ => ?_)
  refine lv_iload hx hb dX7_feed_25 (lv_at hl 0 rfl) ?_
  refine lv_iconst (v := 4) hx hb dX7_feed_27 (by decide) ?_
  refine lv_icmp_ge (tgt := 35) hx hb dX7_feed_28 (by decide) (fun c1695 => absurd c1695 (by decide)) (fun _ => ?_)
  refine lv_iload_n hx hb dX7_feed_31 rfl (lv_at hl 3 rfl) ?_
  refine lv_goto (tgt := 71) hx hb dX7_feed_32 (by decide) ?_
  refine lv_istore (lv' := [(7, .int x1), (6, .int 3), (0, .ref h1), (1, .int x1), (2, .int x2), (3, .int x3), (4, .int x4), (5, .int x5)]) hx hb dX7_feed_71 hl (by decide) rfl (fun ls hl => ?_)
  refine lv_aload_n hx hb dX7_feed_73 rfl (lv_at hl 2 rfl) ?_
  refine va_get (D := (dC, dI)) (ci := 7) (v := .ref (md 0)) (C := RX7) (T := TX7) (N := 59) hx hb hts hi7 hown hK hP 0 rfl rfl 0 (by decide) (hts _ (ow_m (k := 1) rfl)) (fun _ h9 => h9) rfl dX7_feed_74 ?_
  refine lv_aload_n hx hb dX7_feed_77 rfl (lv_at hl 2 rfl) ?_
  refine va_get (D := (dC, dI)) (ci := 7) (v := .int 0) (C := RX7) (T := TX7) (N := 59) hx hb hts hi7 hown hK hP 0 rfl rfl 2 (by decide) (hts _ (ow_m (k := 0) rfl)) (fun _ h9 => h9) rfl dX7_feed_78 ?_
  refine lv_iload hx hb dX7_feed_81 (lv_at hl 1 rfl) ?_
  refine lv_iadd hx hb dX7_feed_83 ?_
  refine tp_c (w := 3) (by decide) ?_
  refine lv_iload hx hb dX7_feed_84 (lv_at hl 0 rfl) ?_
  refine lv_bipush (v := 24) hx hb dX7_feed_86 (by decide) ?_
  refine lv_bipush (v := 8) hx hb dX7_feed_88 (by decide) ?_
  refine lv_iload hx hb dX7_feed_90 (lv_at hl 1 rfl) ?_
  refine lv_iconst (v := 3) hx hb dX7_feed_92 (by decide) ?_
  refine lv_iand hx hb dX7_feed_93 ?_
  refine tp_c (w := 3) (by decide) ?_
  refine lv_imul hx hb dX7_feed_94 ?_
  refine tp_c (w := 24) (by decide) ?_
  refine lv_isub hx hb dX7_feed_95 ?_
  refine tp_c (w := 0) (by decide) ?_
  refine lv_ishr hx hb dX7_feed_96 ?_
  refine lv_topi (fun z1696 ez1696 => ?_)
  refine lv_i2b hx hb dX7_feed_97 rfl ?_
  refine lv_topi (fun z1697 ez1697 => ?_)
  refine va_bast hx hb hK hP hD hS 1 0 rfl rfl (vp_i (a := 3) (by decide) (by decide) (by decide)) dX7_feed_98 (fun H locs hP hD hS => ?_)
  have hP : va_P (dC, dI) vwCl [(h1, .inr (7, [.ref (md 0), .ref (md 1), .int 0, .int 0, .int 0, .int (-1), .int 0, .int 0, .int 0, .int 0, .long 0, .ref (md 11), .ref (md 12), .ref (md 13), .ref (md 14), .ref (md 15), .ref (md 16), .ref (md 17), .ref (md 18), .ref (md 19), .ref (md 20), .ref (md 21), .ref (md 22), .ref (md 23), .ref (md 24), .ref (md 25), .ref (md 26), .ref (md 27), .ref (md 28), .int 0, .int 0, .int 0, .int 0, .int 0, .int 0, .int 0, .int 0, .int 0, .int 0, .int 0, .ref (md 40), .ref (md 41), .int 0, .int 0, .ref (md 44), .int 0, .int 0, .ref (md 47), .ref (md 48), .int 0, .ref (md 50), .ref (md 51), .ref (md 52), .ref (md 53), .ref (md 54), .int 0, .int 0, .ref (md 57), .ref (md 58)])), (md 0, .inl (cyB, 1620, .inl (upd f1693 3 (vp_nar .byte z1697))))] H := hP
  have hD : va_D A [(h1, .inr (7, [.ref (md 0), .ref (md 1), .int 0, .int 0, .int 0, .int (-1), .int 0, .int 0, .int 0, .int 0, .long 0, .ref (md 11), .ref (md 12), .ref (md 13), .ref (md 14), .ref (md 15), .ref (md 16), .ref (md 17), .ref (md 18), .ref (md 19), .ref (md 20), .ref (md 21), .ref (md 22), .ref (md 23), .ref (md 24), .ref (md 25), .ref (md 26), .ref (md 27), .ref (md 28), .int 0, .int 0, .int 0, .int 0, .int 0, .int 0, .int 0, .int 0, .int 0, .int 0, .int 0, .ref (md 40), .ref (md 41), .int 0, .int 0, .ref (md 44), .int 0, .int 0, .ref (md 47), .ref (md 48), .int 0, .ref (md 50), .ref (md 51), .ref (md 52), .ref (md 53), .ref (md 54), .int 0, .int 0, .ref (md 57), .ref (md 58)])), (md 0, .inl (cyB, 1620, .inl (upd f1693 3 (vp_nar .byte z1697))))] := hD
  generalize upd f1693 3 (vp_nar .byte z1697) = f1698 at hP hD
  refine lv_iinc (v := 4) (lv' := [(6, .int 4), (7, .int x1), (0, .ref h1), (1, .int x1), (2, .int x2), (3, .int x3), (4, .int x4), (5, .int x5)]) hx hb dX7_feed_99 hl (k := 1) rfl (by decide) (by decide) rfl (fun ls hl => ?_)
  refine lv_goto (tgt := 18) hx hb dX7_feed_102 (by decide) ?_
  refine lv_iload hx hb dX7_feed_18 (lv_at hl 0 rfl) ?_
  refine lv_bipush (v := 20) hx hb dX7_feed_20 (by decide) ?_
  refine lv_icmp_ge (tgt := 105) hx hb dX7_feed_22 (by decide) (fun c1699 => absurd c1699 (by decide)) (fun _ => ?_)
  refine lv_iload hx hb dX7_feed_25 (lv_at hl 0 rfl) ?_
  refine lv_iconst (v := 4) hx hb dX7_feed_27 (by decide) ?_
  refine lv_icmp_ge (tgt := 35) hx hb dX7_feed_28 (by decide) (fun _ => ?_) (fun c1700 => absurd (by decide) c1700)
  refine lv_iload hx hb dX7_feed_35 (lv_at hl 0 rfl) ?_
  refine lv_bipush (v := 8) hx hb dX7_feed_37 (by decide) ?_
  refine lv_icmp_ge (tgt := 46) hx hb dX7_feed_39 (by decide) (fun c1701 => absurd c1701 (by decide)) (fun _ => ?_)
  refine lv_iload_n hx hb dX7_feed_42 rfl (lv_at hl 4 rfl) ?_
  refine lv_goto (tgt := 71) hx hb dX7_feed_43 (by decide) ?_
  refine lv_istore (lv' := [(7, .int x2), (6, .int 4), (0, .ref h1), (1, .int x1), (2, .int x2), (3, .int x3), (4, .int x4), (5, .int x5)]) hx hb dX7_feed_71 hl (by decide) rfl (fun ls hl => ?_)
  refine lv_aload_n hx hb dX7_feed_73 rfl (lv_at hl 2 rfl) ?_
  refine va_get (D := (dC, dI)) (ci := 7) (v := .ref (md 0)) (C := RX7) (T := TX7) (N := 59) hx hb hts hi7 hown hK hP 0 rfl rfl 0 (by decide) (hts _ (ow_m (k := 1) rfl)) (fun _ h9 => h9) rfl dX7_feed_74 ?_
  refine lv_aload_n hx hb dX7_feed_77 rfl (lv_at hl 2 rfl) ?_
  refine va_get (D := (dC, dI)) (ci := 7) (v := .int 0) (C := RX7) (T := TX7) (N := 59) hx hb hts hi7 hown hK hP 0 rfl rfl 2 (by decide) (hts _ (ow_m (k := 0) rfl)) (fun _ h9 => h9) rfl dX7_feed_78 ?_
  refine lv_iload hx hb dX7_feed_81 (lv_at hl 1 rfl) ?_
  refine lv_iadd hx hb dX7_feed_83 ?_
  refine tp_c (w := 4) (by decide) ?_
  refine lv_iload hx hb dX7_feed_84 (lv_at hl 0 rfl) ?_
  refine lv_bipush (v := 24) hx hb dX7_feed_86 (by decide) ?_
  refine lv_bipush (v := 8) hx hb dX7_feed_88 (by decide) ?_
  refine lv_iload hx hb dX7_feed_90 (lv_at hl 1 rfl) ?_
  refine lv_iconst (v := 3) hx hb dX7_feed_92 (by decide) ?_
  refine lv_iand hx hb dX7_feed_93 ?_
  refine tp_c (w := 0) (by decide) ?_
  refine lv_imul hx hb dX7_feed_94 ?_
  refine tp_c (w := 0) (by decide) ?_
  refine lv_isub hx hb dX7_feed_95 ?_
  refine tp_c (w := 24) (by decide) ?_
  refine lv_ishr hx hb dX7_feed_96 ?_
  refine lv_topi (fun z1702 ez1702 => ?_)
  refine lv_i2b hx hb dX7_feed_97 rfl ?_
  refine lv_topi (fun z1703 ez1703 => ?_)
  refine va_bast hx hb hK hP hD hS 1 0 rfl rfl (vp_i (a := 4) (by decide) (by decide) (by decide)) dX7_feed_98 (fun H locs hP hD hS => ?_)
  have hP : va_P (dC, dI) vwCl [(h1, .inr (7, [.ref (md 0), .ref (md 1), .int 0, .int 0, .int 0, .int (-1), .int 0, .int 0, .int 0, .int 0, .long 0, .ref (md 11), .ref (md 12), .ref (md 13), .ref (md 14), .ref (md 15), .ref (md 16), .ref (md 17), .ref (md 18), .ref (md 19), .ref (md 20), .ref (md 21), .ref (md 22), .ref (md 23), .ref (md 24), .ref (md 25), .ref (md 26), .ref (md 27), .ref (md 28), .int 0, .int 0, .int 0, .int 0, .int 0, .int 0, .int 0, .int 0, .int 0, .int 0, .int 0, .ref (md 40), .ref (md 41), .int 0, .int 0, .ref (md 44), .int 0, .int 0, .ref (md 47), .ref (md 48), .int 0, .ref (md 50), .ref (md 51), .ref (md 52), .ref (md 53), .ref (md 54), .int 0, .int 0, .ref (md 57), .ref (md 58)])), (md 0, .inl (cyB, 1620, .inl (upd f1698 4 (vp_nar .byte z1703))))] H := hP
  have hD : va_D A [(h1, .inr (7, [.ref (md 0), .ref (md 1), .int 0, .int 0, .int 0, .int (-1), .int 0, .int 0, .int 0, .int 0, .long 0, .ref (md 11), .ref (md 12), .ref (md 13), .ref (md 14), .ref (md 15), .ref (md 16), .ref (md 17), .ref (md 18), .ref (md 19), .ref (md 20), .ref (md 21), .ref (md 22), .ref (md 23), .ref (md 24), .ref (md 25), .ref (md 26), .ref (md 27), .ref (md 28), .int 0, .int 0, .int 0, .int 0, .int 0, .int 0, .int 0, .int 0, .int 0, .int 0, .int 0, .ref (md 40), .ref (md 41), .int 0, .int 0, .ref (md 44), .int 0, .int 0, .ref (md 47), .ref (md 48), .int 0, .ref (md 50), .ref (md 51), .ref (md 52), .ref (md 53), .ref (md 54), .int 0, .int 0, .ref (md 57), .ref (md 58)])), (md 0, .inl (cyB, 1620, .inl (upd f1698 4 (vp_nar .byte z1703))))] := hD
  generalize upd f1698 4 (vp_nar .byte z1703) = f1704 at hP hD
  refine lv_iinc (v := 5) (lv' := [(6, .int 5), (7, .int x2), (0, .ref h1), (1, .int x1), (2, .int x2), (3, .int x3), (4, .int x4), (5, .int x5)]) hx hb dX7_feed_99 hl (k := 1) rfl (by decide) (by decide) rfl (fun ls hl => ?_)
  refine lv_goto (tgt := 18) hx hb dX7_feed_102 (by decide) ?_
  refine lv_iload hx hb dX7_feed_18 (lv_at hl 0 rfl) ?_
  refine lv_bipush (v := 20) hx hb dX7_feed_20 (by decide) ?_
  refine lv_icmp_ge (tgt := 105) hx hb dX7_feed_22 (by decide) (fun c1705 => absurd c1705 (by decide)) (fun _ => ?_)
  refine lv_iload hx hb dX7_feed_25 (lv_at hl 0 rfl) ?_
  refine lv_iconst (v := 4) hx hb dX7_feed_27 (by decide) ?_
  refine lv_icmp_ge (tgt := 35) hx hb dX7_feed_28 (by decide) (fun _ => ?_) (fun c1706 => absurd (by decide) c1706)
  refine lv_iload hx hb dX7_feed_35 (lv_at hl 0 rfl) ?_
  refine lv_bipush (v := 8) hx hb dX7_feed_37 (by decide) ?_
  refine lv_icmp_ge (tgt := 46) hx hb dX7_feed_39 (by decide) (fun c1707 => absurd c1707 (by decide)) (fun _ => ?_)
  refine lv_iload_n hx hb dX7_feed_42 rfl (lv_at hl 4 rfl) ?_
  refine lv_goto (tgt := 71) hx hb dX7_feed_43 (by decide) ?_
  refine lv_istore (lv' := [(7, .int x2), (6, .int 5), (0, .ref h1), (1, .int x1), (2, .int x2), (3, .int x3), (4, .int x4), (5, .int x5)]) hx hb dX7_feed_71 hl (by decide) rfl (fun ls hl => ?_)
  refine lv_aload_n hx hb dX7_feed_73 rfl (lv_at hl 2 rfl) ?_
  refine va_get (D := (dC, dI)) (ci := 7) (v := .ref (md 0)) (C := RX7) (T := TX7) (N := 59) hx hb hts hi7 hown hK hP 0 rfl rfl 0 (by decide) (hts _ (ow_m (k := 1) rfl)) (fun _ h9 => h9) rfl dX7_feed_74 ?_
  refine lv_aload_n hx hb dX7_feed_77 rfl (lv_at hl 2 rfl) ?_
  refine va_get (D := (dC, dI)) (ci := 7) (v := .int 0) (C := RX7) (T := TX7) (N := 59) hx hb hts hi7 hown hK hP 0 rfl rfl 2 (by decide) (hts _ (ow_m (k := 0) rfl)) (fun _ h9 => h9) rfl dX7_feed_78 ?_
  refine lv_iload hx hb dX7_feed_81 (lv_at hl 1 rfl) ?_
  refine lv_iadd hx hb dX7_feed_83 ?_
  refine tp_c (w := 5) (by decide) ?_
  refine lv_iload hx hb dX7_feed_84 (lv_at hl 0 rfl) ?_
  refine lv_bipush (v := 24) hx hb dX7_feed_86 (by decide) ?_
  refine lv_bipush (v := 8) hx hb dX7_feed_88 (by decide) ?_
  refine lv_iload hx hb dX7_feed_90 (lv_at hl 1 rfl) ?_
  refine lv_iconst (v := 3) hx hb dX7_feed_92 (by decide) ?_
  refine lv_iand hx hb dX7_feed_93 ?_
  refine tp_c (w := 1) (by decide) ?_
  refine lv_imul hx hb dX7_feed_94 ?_
  refine tp_c (w := 8) (by decide) ?_
  refine lv_isub hx hb dX7_feed_95 ?_
  refine tp_c (w := 16) (by decide) ?_
  refine lv_ishr hx hb dX7_feed_96 ?_
  refine lv_topi (fun z1708 ez1708 => ?_)
  refine lv_i2b hx hb dX7_feed_97 rfl ?_
  refine lv_topi (fun z1709 ez1709 => ?_)
  refine va_bast hx hb hK hP hD hS 1 0 rfl rfl (vp_i (a := 5) (by decide) (by decide) (by decide)) dX7_feed_98 (fun H locs hP hD hS => ?_)
  have hP : va_P (dC, dI) vwCl [(h1, .inr (7, [.ref (md 0), .ref (md 1), .int 0, .int 0, .int 0, .int (-1), .int 0, .int 0, .int 0, .int 0, .long 0, .ref (md 11), .ref (md 12), .ref (md 13), .ref (md 14), .ref (md 15), .ref (md 16), .ref (md 17), .ref (md 18), .ref (md 19), .ref (md 20), .ref (md 21), .ref (md 22), .ref (md 23), .ref (md 24), .ref (md 25), .ref (md 26), .ref (md 27), .ref (md 28), .int 0, .int 0, .int 0, .int 0, .int 0, .int 0, .int 0, .int 0, .int 0, .int 0, .int 0, .ref (md 40), .ref (md 41), .int 0, .int 0, .ref (md 44), .int 0, .int 0, .ref (md 47), .ref (md 48), .int 0, .ref (md 50), .ref (md 51), .ref (md 52), .ref (md 53), .ref (md 54), .int 0, .int 0, .ref (md 57), .ref (md 58)])), (md 0, .inl (cyB, 1620, .inl (upd f1704 5 (vp_nar .byte z1709))))] H := hP
  have hD : va_D A [(h1, .inr (7, [.ref (md 0), .ref (md 1), .int 0, .int 0, .int 0, .int (-1), .int 0, .int 0, .int 0, .int 0, .long 0, .ref (md 11), .ref (md 12), .ref (md 13), .ref (md 14), .ref (md 15), .ref (md 16), .ref (md 17), .ref (md 18), .ref (md 19), .ref (md 20), .ref (md 21), .ref (md 22), .ref (md 23), .ref (md 24), .ref (md 25), .ref (md 26), .ref (md 27), .ref (md 28), .int 0, .int 0, .int 0, .int 0, .int 0, .int 0, .int 0, .int 0, .int 0, .int 0, .int 0, .ref (md 40), .ref (md 41), .int 0, .int 0, .ref (md 44), .int 0, .int 0, .ref (md 47), .ref (md 48), .int 0, .ref (md 50), .ref (md 51), .ref (md 52), .ref (md 53), .ref (md 54), .int 0, .int 0, .ref (md 57), .ref (md 58)])), (md 0, .inl (cyB, 1620, .inl (upd f1704 5 (vp_nar .byte z1709))))] := hD
  generalize upd f1704 5 (vp_nar .byte z1709) = f1710 at hP hD
  refine lv_iinc (v := 6) (lv' := [(6, .int 6), (7, .int x2), (0, .ref h1), (1, .int x1), (2, .int x2), (3, .int x3), (4, .int x4), (5, .int x5)]) hx hb dX7_feed_99 hl (k := 1) rfl (by decide) (by decide) rfl (fun ls hl => ?_)
  refine lv_goto (tgt := 18) hx hb dX7_feed_102 (by decide) ?_
  refine lv_iload hx hb dX7_feed_18 (lv_at hl 0 rfl) ?_
  refine lv_bipush (v := 20) hx hb dX7_feed_20 (by decide) ?_
  refine lv_icmp_ge (tgt := 105) hx hb dX7_feed_22 (by decide) (fun c1711 => absurd c1711 (by decide)) (fun _ => ?_)
  refine lv_iload hx hb dX7_feed_25 (lv_at hl 0 rfl) ?_
  refine lv_iconst (v := 4) hx hb dX7_feed_27 (by decide) ?_
  refine lv_icmp_ge (tgt := 35) hx hb dX7_feed_28 (by decide) (fun _ => ?_) (fun c1712 => absurd (by decide) c1712)
  refine lv_iload hx hb dX7_feed_35 (lv_at hl 0 rfl) ?_
  refine lv_bipush (v := 8) hx hb dX7_feed_37 (by decide) ?_
  refine lv_icmp_ge (tgt := 46) hx hb dX7_feed_39 (by decide) (fun c1713 => absurd c1713 (by decide)) (fun _ => ?_)
  refine lv_iload_n hx hb dX7_feed_42 rfl (lv_at hl 4 rfl) ?_
  refine lv_goto (tgt := 71) hx hb dX7_feed_43 (by decide) ?_
  refine lv_istore (lv' := [(7, .int x2), (6, .int 6), (0, .ref h1), (1, .int x1), (2, .int x2), (3, .int x3), (4, .int x4), (5, .int x5)]) hx hb dX7_feed_71 hl (by decide) rfl (fun ls hl => ?_)
  refine lv_aload_n hx hb dX7_feed_73 rfl (lv_at hl 2 rfl) ?_
  refine va_get (D := (dC, dI)) (ci := 7) (v := .ref (md 0)) (C := RX7) (T := TX7) (N := 59) hx hb hts hi7 hown hK hP 0 rfl rfl 0 (by decide) (hts _ (ow_m (k := 1) rfl)) (fun _ h9 => h9) rfl dX7_feed_74 ?_
  refine lv_aload_n hx hb dX7_feed_77 rfl (lv_at hl 2 rfl) ?_
  refine va_get (D := (dC, dI)) (ci := 7) (v := .int 0) (C := RX7) (T := TX7) (N := 59) hx hb hts hi7 hown hK hP 0 rfl rfl 2 (by decide) (hts _ (ow_m (k := 0) rfl)) (fun _ h9 => h9) rfl dX7_feed_78 ?_
  refine lv_iload hx hb dX7_feed_81 (lv_at hl 1 rfl) ?_
  refine lv_iadd hx hb dX7_feed_83 ?_
  refine tp_c (w := 6) (by decide) ?_
  refine lv_iload hx hb dX7_feed_84 (lv_at hl 0 rfl) ?_
  refine lv_bipush (v := 24) hx hb dX7_feed_86 (by decide) ?_
  refine lv_bipush (v := 8) hx hb dX7_feed_88 (by decide) ?_
  refine lv_iload hx hb dX7_feed_90 (lv_at hl 1 rfl) ?_
  refine lv_iconst (v := 3) hx hb dX7_feed_92 (by decide) ?_
  refine lv_iand hx hb dX7_feed_93 ?_
  refine tp_c (w := 2) (by decide) ?_
  refine lv_imul hx hb dX7_feed_94 ?_
  refine tp_c (w := 16) (by decide) ?_
  refine lv_isub hx hb dX7_feed_95 ?_
  refine tp_c (w := 8) (by decide) ?_
  refine lv_ishr hx hb dX7_feed_96 ?_
  refine lv_topi (fun z1714 ez1714 => ?_)
  refine lv_i2b hx hb dX7_feed_97 rfl ?_
  refine lv_topi (fun z1715 ez1715 => ?_)
  refine va_bast hx hb hK hP hD hS 1 0 rfl rfl (vp_i (a := 6) (by decide) (by decide) (by decide)) dX7_feed_98 (fun H locs hP hD hS => ?_)
  have hP : va_P (dC, dI) vwCl [(h1, .inr (7, [.ref (md 0), .ref (md 1), .int 0, .int 0, .int 0, .int (-1), .int 0, .int 0, .int 0, .int 0, .long 0, .ref (md 11), .ref (md 12), .ref (md 13), .ref (md 14), .ref (md 15), .ref (md 16), .ref (md 17), .ref (md 18), .ref (md 19), .ref (md 20), .ref (md 21), .ref (md 22), .ref (md 23), .ref (md 24), .ref (md 25), .ref (md 26), .ref (md 27), .ref (md 28), .int 0, .int 0, .int 0, .int 0, .int 0, .int 0, .int 0, .int 0, .int 0, .int 0, .int 0, .ref (md 40), .ref (md 41), .int 0, .int 0, .ref (md 44), .int 0, .int 0, .ref (md 47), .ref (md 48), .int 0, .ref (md 50), .ref (md 51), .ref (md 52), .ref (md 53), .ref (md 54), .int 0, .int 0, .ref (md 57), .ref (md 58)])), (md 0, .inl (cyB, 1620, .inl (upd f1710 6 (vp_nar .byte z1715))))] H := hP
  have hD : va_D A [(h1, .inr (7, [.ref (md 0), .ref (md 1), .int 0, .int 0, .int 0, .int (-1), .int 0, .int 0, .int 0, .int 0, .long 0, .ref (md 11), .ref (md 12), .ref (md 13), .ref (md 14), .ref (md 15), .ref (md 16), .ref (md 17), .ref (md 18), .ref (md 19), .ref (md 20), .ref (md 21), .ref (md 22), .ref (md 23), .ref (md 24), .ref (md 25), .ref (md 26), .ref (md 27), .ref (md 28), .int 0, .int 0, .int 0, .int 0, .int 0, .int 0, .int 0, .int 0, .int 0, .int 0, .int 0, .ref (md 40), .ref (md 41), .int 0, .int 0, .ref (md 44), .int 0, .int 0, .ref (md 47), .ref (md 48), .int 0, .ref (md 50), .ref (md 51), .ref (md 52), .ref (md 53), .ref (md 54), .int 0, .int 0, .ref (md 57), .ref (md 58)])), (md 0, .inl (cyB, 1620, .inl (upd f1710 6 (vp_nar .byte z1715))))] := hD
  generalize upd f1710 6 (vp_nar .byte z1715) = f1716 at hP hD
  refine lv_iinc (v := 7) (lv' := [(6, .int 7), (7, .int x2), (0, .ref h1), (1, .int x1), (2, .int x2), (3, .int x3), (4, .int x4), (5, .int x5)]) hx hb dX7_feed_99 hl (k := 1) rfl (by decide) (by decide) rfl (fun ls hl => ?_)
  refine lv_goto (tgt := 18) hx hb dX7_feed_102 (by decide) ?_
  refine lv_iload hx hb dX7_feed_18 (lv_at hl 0 rfl) ?_
  refine lv_bipush (v := 20) hx hb dX7_feed_20 (by decide) ?_
  refine lv_icmp_ge (tgt := 105) hx hb dX7_feed_22 (by decide) (fun c1717 => absurd c1717 (by decide)) (fun _ => ?_)
  refine lv_iload hx hb dX7_feed_25 (lv_at hl 0 rfl) ?_
  refine lv_iconst (v := 4) hx hb dX7_feed_27 (by decide) ?_
  refine lv_icmp_ge (tgt := 35) hx hb dX7_feed_28 (by decide) (fun _ => ?_) (fun c1718 => absurd (by decide) c1718)
  refine lv_iload hx hb dX7_feed_35 (lv_at hl 0 rfl) ?_
  refine lv_bipush (v := 8) hx hb dX7_feed_37 (by decide) ?_
  refine lv_icmp_ge (tgt := 46) hx hb dX7_feed_39 (by decide) (fun c1719 => absurd c1719 (by decide)) (fun _ => ?_)
  refine lv_iload_n hx hb dX7_feed_42 rfl (lv_at hl 4 rfl) ?_
  refine lv_goto (tgt := 71) hx hb dX7_feed_43 (by decide) ?_
  refine lv_istore (lv' := [(7, .int x2), (6, .int 7), (0, .ref h1), (1, .int x1), (2, .int x2), (3, .int x3), (4, .int x4), (5, .int x5)]) hx hb dX7_feed_71 hl (by decide) rfl (fun ls hl => ?_)
  refine lv_aload_n hx hb dX7_feed_73 rfl (lv_at hl 2 rfl) ?_
  refine va_get (D := (dC, dI)) (ci := 7) (v := .ref (md 0)) (C := RX7) (T := TX7) (N := 59) hx hb hts hi7 hown hK hP 0 rfl rfl 0 (by decide) (hts _ (ow_m (k := 1) rfl)) (fun _ h9 => h9) rfl dX7_feed_74 ?_
  refine lv_aload_n hx hb dX7_feed_77 rfl (lv_at hl 2 rfl) ?_
  refine va_get (D := (dC, dI)) (ci := 7) (v := .int 0) (C := RX7) (T := TX7) (N := 59) hx hb hts hi7 hown hK hP 0 rfl rfl 2 (by decide) (hts _ (ow_m (k := 0) rfl)) (fun _ h9 => h9) rfl dX7_feed_78 ?_
  refine lv_iload hx hb dX7_feed_81 (lv_at hl 1 rfl) ?_
  refine lv_iadd hx hb dX7_feed_83 ?_
  refine tp_c (w := 7) (by decide) ?_
  refine lv_iload hx hb dX7_feed_84 (lv_at hl 0 rfl) ?_
  refine lv_bipush (v := 24) hx hb dX7_feed_86 (by decide) ?_
  refine lv_bipush (v := 8) hx hb dX7_feed_88 (by decide) ?_
  refine lv_iload hx hb dX7_feed_90 (lv_at hl 1 rfl) ?_
  refine lv_iconst (v := 3) hx hb dX7_feed_92 (by decide) ?_
  refine lv_iand hx hb dX7_feed_93 ?_
  refine tp_c (w := 3) (by decide) ?_
  refine lv_imul hx hb dX7_feed_94 ?_
  refine tp_c (w := 24) (by decide) ?_
  refine lv_isub hx hb dX7_feed_95 ?_
  refine tp_c (w := 0) (by decide) ?_
  refine lv_ishr hx hb dX7_feed_96 ?_
  refine lv_topi (fun z1720 ez1720 => ?_)
  refine lv_i2b hx hb dX7_feed_97 rfl ?_
  refine lv_topi (fun z1721 ez1721 => ?_)
  refine va_bast hx hb hK hP hD hS 1 0 rfl rfl (vp_i (a := 7) (by decide) (by decide) (by decide)) dX7_feed_98 (fun H locs hP hD hS => ?_)
  have hP : va_P (dC, dI) vwCl [(h1, .inr (7, [.ref (md 0), .ref (md 1), .int 0, .int 0, .int 0, .int (-1), .int 0, .int 0, .int 0, .int 0, .long 0, .ref (md 11), .ref (md 12), .ref (md 13), .ref (md 14), .ref (md 15), .ref (md 16), .ref (md 17), .ref (md 18), .ref (md 19), .ref (md 20), .ref (md 21), .ref (md 22), .ref (md 23), .ref (md 24), .ref (md 25), .ref (md 26), .ref (md 27), .ref (md 28), .int 0, .int 0, .int 0, .int 0, .int 0, .int 0, .int 0, .int 0, .int 0, .int 0, .int 0, .ref (md 40), .ref (md 41), .int 0, .int 0, .ref (md 44), .int 0, .int 0, .ref (md 47), .ref (md 48), .int 0, .ref (md 50), .ref (md 51), .ref (md 52), .ref (md 53), .ref (md 54), .int 0, .int 0, .ref (md 57), .ref (md 58)])), (md 0, .inl (cyB, 1620, .inl (upd f1716 7 (vp_nar .byte z1721))))] H := hP
  have hD : va_D A [(h1, .inr (7, [.ref (md 0), .ref (md 1), .int 0, .int 0, .int 0, .int (-1), .int 0, .int 0, .int 0, .int 0, .long 0, .ref (md 11), .ref (md 12), .ref (md 13), .ref (md 14), .ref (md 15), .ref (md 16), .ref (md 17), .ref (md 18), .ref (md 19), .ref (md 20), .ref (md 21), .ref (md 22), .ref (md 23), .ref (md 24), .ref (md 25), .ref (md 26), .ref (md 27), .ref (md 28), .int 0, .int 0, .int 0, .int 0, .int 0, .int 0, .int 0, .int 0, .int 0, .int 0, .int 0, .ref (md 40), .ref (md 41), .int 0, .int 0, .ref (md 44), .int 0, .int 0, .ref (md 47), .ref (md 48), .int 0, .ref (md 50), .ref (md 51), .ref (md 52), .ref (md 53), .ref (md 54), .int 0, .int 0, .ref (md 57), .ref (md 58)])), (md 0, .inl (cyB, 1620, .inl (upd f1716 7 (vp_nar .byte z1721))))] := hD
  generalize upd f1716 7 (vp_nar .byte z1721) = f1722 at hP hD
  refine lv_iinc (v := 8) (lv' := [(6, .int 8), (7, .int x2), (0, .ref h1), (1, .int x1), (2, .int x2), (3, .int x3), (4, .int x4), (5, .int x5)]) hx hb dX7_feed_99 hl (k := 1) rfl (by decide) (by decide) rfl (fun ls hl => ?_)
  refine lv_goto (tgt := 18) hx hb dX7_feed_102 (by decide) ?_
  refine lv_iload hx hb dX7_feed_18 (lv_at hl 0 rfl) ?_
  refine lv_bipush (v := 20) hx hb dX7_feed_20 (by decide) ?_
  refine lv_icmp_ge (tgt := 105) hx hb dX7_feed_22 (by decide) (fun c1723 => absurd c1723 (by decide)) (fun _ => ?_)
  refine lv_iload hx hb dX7_feed_25 (lv_at hl 0 rfl) ?_
  refine lv_iconst (v := 4) hx hb dX7_feed_27 (by decide) ?_
  refine lv_icmp_ge (tgt := 35) hx hb dX7_feed_28 (by decide) (fun _ => ?_) (fun c1724 => absurd (by decide) c1724)
  refine lv_iload hx hb dX7_feed_35 (lv_at hl 0 rfl) ?_
  refine lv_bipush (v := 8) hx hb dX7_feed_37 (by decide) ?_
  refine lv_icmp_ge (tgt := 46) hx hb dX7_feed_39 (by decide) (fun _ => ?_) (fun c1725 => absurd (by decide) c1725)
  refine lv_iload hx hb dX7_feed_46 (lv_at hl 0 rfl) ?_
  refine lv_bipush (v := 12) hx hb dX7_feed_48 (by decide) ?_
  refine lv_icmp_ge (tgt := 57) hx hb dX7_feed_50 (by decide) (fun c1726 => absurd c1726 (by decide)) (fun _ => ?_)
  refine lv_iload_n hx hb dX7_feed_53 rfl (lv_at hl 5 rfl) ?_
  refine lv_goto (tgt := 71) hx hb dX7_feed_54 (by decide) ?_
  refine lv_istore (lv' := [(7, .int x3), (6, .int 8), (0, .ref h1), (1, .int x1), (2, .int x2), (3, .int x3), (4, .int x4), (5, .int x5)]) hx hb dX7_feed_71 hl (by decide) rfl (fun ls hl => ?_)
  refine lv_aload_n hx hb dX7_feed_73 rfl (lv_at hl 2 rfl) ?_
  refine va_get (D := (dC, dI)) (ci := 7) (v := .ref (md 0)) (C := RX7) (T := TX7) (N := 59) hx hb hts hi7 hown hK hP 0 rfl rfl 0 (by decide) (hts _ (ow_m (k := 1) rfl)) (fun _ h9 => h9) rfl dX7_feed_74 ?_
  refine lv_aload_n hx hb dX7_feed_77 rfl (lv_at hl 2 rfl) ?_
  refine va_get (D := (dC, dI)) (ci := 7) (v := .int 0) (C := RX7) (T := TX7) (N := 59) hx hb hts hi7 hown hK hP 0 rfl rfl 2 (by decide) (hts _ (ow_m (k := 0) rfl)) (fun _ h9 => h9) rfl dX7_feed_78 ?_
  refine lv_iload hx hb dX7_feed_81 (lv_at hl 1 rfl) ?_
  refine lv_iadd hx hb dX7_feed_83 ?_
  refine tp_c (w := 8) (by decide) ?_
  refine lv_iload hx hb dX7_feed_84 (lv_at hl 0 rfl) ?_
  refine lv_bipush (v := 24) hx hb dX7_feed_86 (by decide) ?_
  refine lv_bipush (v := 8) hx hb dX7_feed_88 (by decide) ?_
  refine lv_iload hx hb dX7_feed_90 (lv_at hl 1 rfl) ?_
  refine lv_iconst (v := 3) hx hb dX7_feed_92 (by decide) ?_
  refine lv_iand hx hb dX7_feed_93 ?_
  refine tp_c (w := 0) (by decide) ?_
  refine lv_imul hx hb dX7_feed_94 ?_
  refine tp_c (w := 0) (by decide) ?_
  refine lv_isub hx hb dX7_feed_95 ?_
  refine tp_c (w := 24) (by decide) ?_
  refine lv_ishr hx hb dX7_feed_96 ?_
  refine lv_topi (fun z1727 ez1727 => ?_)
  refine lv_i2b hx hb dX7_feed_97 rfl ?_
  refine lv_topi (fun z1728 ez1728 => ?_)
  refine va_bast hx hb hK hP hD hS 1 0 rfl rfl (vp_i (a := 8) (by decide) (by decide) (by decide)) dX7_feed_98 (fun H locs hP hD hS => ?_)
  have hP : va_P (dC, dI) vwCl [(h1, .inr (7, [.ref (md 0), .ref (md 1), .int 0, .int 0, .int 0, .int (-1), .int 0, .int 0, .int 0, .int 0, .long 0, .ref (md 11), .ref (md 12), .ref (md 13), .ref (md 14), .ref (md 15), .ref (md 16), .ref (md 17), .ref (md 18), .ref (md 19), .ref (md 20), .ref (md 21), .ref (md 22), .ref (md 23), .ref (md 24), .ref (md 25), .ref (md 26), .ref (md 27), .ref (md 28), .int 0, .int 0, .int 0, .int 0, .int 0, .int 0, .int 0, .int 0, .int 0, .int 0, .int 0, .ref (md 40), .ref (md 41), .int 0, .int 0, .ref (md 44), .int 0, .int 0, .ref (md 47), .ref (md 48), .int 0, .ref (md 50), .ref (md 51), .ref (md 52), .ref (md 53), .ref (md 54), .int 0, .int 0, .ref (md 57), .ref (md 58)])), (md 0, .inl (cyB, 1620, .inl (upd f1722 8 (vp_nar .byte z1728))))] H := hP
  have hD : va_D A [(h1, .inr (7, [.ref (md 0), .ref (md 1), .int 0, .int 0, .int 0, .int (-1), .int 0, .int 0, .int 0, .int 0, .long 0, .ref (md 11), .ref (md 12), .ref (md 13), .ref (md 14), .ref (md 15), .ref (md 16), .ref (md 17), .ref (md 18), .ref (md 19), .ref (md 20), .ref (md 21), .ref (md 22), .ref (md 23), .ref (md 24), .ref (md 25), .ref (md 26), .ref (md 27), .ref (md 28), .int 0, .int 0, .int 0, .int 0, .int 0, .int 0, .int 0, .int 0, .int 0, .int 0, .int 0, .ref (md 40), .ref (md 41), .int 0, .int 0, .ref (md 44), .int 0, .int 0, .ref (md 47), .ref (md 48), .int 0, .ref (md 50), .ref (md 51), .ref (md 52), .ref (md 53), .ref (md 54), .int 0, .int 0, .ref (md 57), .ref (md 58)])), (md 0, .inl (cyB, 1620, .inl (upd f1722 8 (vp_nar .byte z1728))))] := hD
  generalize upd f1722 8 (vp_nar .byte z1728) = f1729 at hP hD
  refine lv_iinc (v := 9) (lv' := [(6, .int 9), (7, .int x3), (0, .ref h1), (1, .int x1), (2, .int x2), (3, .int x3), (4, .int x4), (5, .int x5)]) hx hb dX7_feed_99 hl (k := 1) rfl (by decide) (by decide) rfl (fun ls hl => ?_)
  refine lv_goto (tgt := 18) hx hb dX7_feed_102 (by decide) ?_
  refine lv_iload hx hb dX7_feed_18 (lv_at hl 0 rfl) ?_
  refine lv_bipush (v := 20) hx hb dX7_feed_20 (by decide) ?_
  refine lv_icmp_ge (tgt := 105) hx hb dX7_feed_22 (by decide) (fun c1730 => absurd c1730 (by decide)) (fun _ => ?_)
  refine lv_iload hx hb dX7_feed_25 (lv_at hl 0 rfl) ?_
  refine lv_iconst (v := 4) hx hb dX7_feed_27 (by decide) ?_
  refine lv_icmp_ge (tgt := 35) hx hb dX7_feed_28 (by decide) (fun _ => ?_) (fun c1731 => absurd (by decide) c1731)
  refine lv_iload hx hb dX7_feed_35 (lv_at hl 0 rfl) ?_
  refine lv_bipush (v := 8) hx hb dX7_feed_37 (by decide) ?_
  refine lv_icmp_ge (tgt := 46) hx hb dX7_feed_39 (by decide) (fun _ => ?_) (fun c1732 => absurd (by decide) c1732)
  refine lv_iload hx hb dX7_feed_46 (lv_at hl 0 rfl) ?_
  refine lv_bipush (v := 12) hx hb dX7_feed_48 (by decide) ?_
  refine lv_icmp_ge (tgt := 57) hx hb dX7_feed_50 (by decide) (fun c1733 => absurd c1733 (by decide)) (fun _ => ?_)
  refine lv_iload_n hx hb dX7_feed_53 rfl (lv_at hl 5 rfl) ?_
  refine lv_goto (tgt := 71) hx hb dX7_feed_54 (by decide) ?_
  refine lv_istore (lv' := [(7, .int x3), (6, .int 9), (0, .ref h1), (1, .int x1), (2, .int x2), (3, .int x3), (4, .int x4), (5, .int x5)]) hx hb dX7_feed_71 hl (by decide) rfl (fun ls hl => ?_)
  refine lv_aload_n hx hb dX7_feed_73 rfl (lv_at hl 2 rfl) ?_
  refine va_get (D := (dC, dI)) (ci := 7) (v := .ref (md 0)) (C := RX7) (T := TX7) (N := 59) hx hb hts hi7 hown hK hP 0 rfl rfl 0 (by decide) (hts _ (ow_m (k := 1) rfl)) (fun _ h9 => h9) rfl dX7_feed_74 ?_
  refine lv_aload_n hx hb dX7_feed_77 rfl (lv_at hl 2 rfl) ?_
  refine va_get (D := (dC, dI)) (ci := 7) (v := .int 0) (C := RX7) (T := TX7) (N := 59) hx hb hts hi7 hown hK hP 0 rfl rfl 2 (by decide) (hts _ (ow_m (k := 0) rfl)) (fun _ h9 => h9) rfl dX7_feed_78 ?_
  refine lv_iload hx hb dX7_feed_81 (lv_at hl 1 rfl) ?_
  refine lv_iadd hx hb dX7_feed_83 ?_
  refine tp_c (w := 9) (by decide) ?_
  refine lv_iload hx hb dX7_feed_84 (lv_at hl 0 rfl) ?_
  refine lv_bipush (v := 24) hx hb dX7_feed_86 (by decide) ?_
  refine lv_bipush (v := 8) hx hb dX7_feed_88 (by decide) ?_
  refine lv_iload hx hb dX7_feed_90 (lv_at hl 1 rfl) ?_
  refine lv_iconst (v := 3) hx hb dX7_feed_92 (by decide) ?_
  refine lv_iand hx hb dX7_feed_93 ?_
  refine tp_c (w := 1) (by decide) ?_
  refine lv_imul hx hb dX7_feed_94 ?_
  refine tp_c (w := 8) (by decide) ?_
  refine lv_isub hx hb dX7_feed_95 ?_
  refine tp_c (w := 16) (by decide) ?_
  refine lv_ishr hx hb dX7_feed_96 ?_
  refine lv_topi (fun z1734 ez1734 => ?_)
  refine lv_i2b hx hb dX7_feed_97 rfl ?_
  refine lv_topi (fun z1735 ez1735 => ?_)
  refine va_bast hx hb hK hP hD hS 1 0 rfl rfl (vp_i (a := 9) (by decide) (by decide) (by decide)) dX7_feed_98 (fun H locs hP hD hS => ?_)
  have hP : va_P (dC, dI) vwCl [(h1, .inr (7, [.ref (md 0), .ref (md 1), .int 0, .int 0, .int 0, .int (-1), .int 0, .int 0, .int 0, .int 0, .long 0, .ref (md 11), .ref (md 12), .ref (md 13), .ref (md 14), .ref (md 15), .ref (md 16), .ref (md 17), .ref (md 18), .ref (md 19), .ref (md 20), .ref (md 21), .ref (md 22), .ref (md 23), .ref (md 24), .ref (md 25), .ref (md 26), .ref (md 27), .ref (md 28), .int 0, .int 0, .int 0, .int 0, .int 0, .int 0, .int 0, .int 0, .int 0, .int 0, .int 0, .ref (md 40), .ref (md 41), .int 0, .int 0, .ref (md 44), .int 0, .int 0, .ref (md 47), .ref (md 48), .int 0, .ref (md 50), .ref (md 51), .ref (md 52), .ref (md 53), .ref (md 54), .int 0, .int 0, .ref (md 57), .ref (md 58)])), (md 0, .inl (cyB, 1620, .inl (upd f1729 9 (vp_nar .byte z1735))))] H := hP
  have hD : va_D A [(h1, .inr (7, [.ref (md 0), .ref (md 1), .int 0, .int 0, .int 0, .int (-1), .int 0, .int 0, .int 0, .int 0, .long 0, .ref (md 11), .ref (md 12), .ref (md 13), .ref (md 14), .ref (md 15), .ref (md 16), .ref (md 17), .ref (md 18), .ref (md 19), .ref (md 20), .ref (md 21), .ref (md 22), .ref (md 23), .ref (md 24), .ref (md 25), .ref (md 26), .ref (md 27), .ref (md 28), .int 0, .int 0, .int 0, .int 0, .int 0, .int 0, .int 0, .int 0, .int 0, .int 0, .int 0, .ref (md 40), .ref (md 41), .int 0, .int 0, .ref (md 44), .int 0, .int 0, .ref (md 47), .ref (md 48), .int 0, .ref (md 50), .ref (md 51), .ref (md 52), .ref (md 53), .ref (md 54), .int 0, .int 0, .ref (md 57), .ref (md 58)])), (md 0, .inl (cyB, 1620, .inl (upd f1729 9 (vp_nar .byte z1735))))] := hD
  generalize upd f1729 9 (vp_nar .byte z1735) = f1736 at hP hD
  refine lv_iinc (v := 10) (lv' := [(6, .int 10), (7, .int x3), (0, .ref h1), (1, .int x1), (2, .int x2), (3, .int x3), (4, .int x4), (5, .int x5)]) hx hb dX7_feed_99 hl (k := 1) rfl (by decide) (by decide) rfl (fun ls hl => ?_)
  refine lv_goto (tgt := 18) hx hb dX7_feed_102 (by decide) ?_
  refine lv_iload hx hb dX7_feed_18 (lv_at hl 0 rfl) ?_
  refine lv_bipush (v := 20) hx hb dX7_feed_20 (by decide) ?_
  refine lv_icmp_ge (tgt := 105) hx hb dX7_feed_22 (by decide) (fun c1737 => absurd c1737 (by decide)) (fun _ => ?_)
  refine lv_iload hx hb dX7_feed_25 (lv_at hl 0 rfl) ?_
  refine lv_iconst (v := 4) hx hb dX7_feed_27 (by decide) ?_
  refine lv_icmp_ge (tgt := 35) hx hb dX7_feed_28 (by decide) (fun _ => ?_) (fun c1738 => absurd (by decide) c1738)
  refine lv_iload hx hb dX7_feed_35 (lv_at hl 0 rfl) ?_
  refine lv_bipush (v := 8) hx hb dX7_feed_37 (by decide) ?_
  refine lv_icmp_ge (tgt := 46) hx hb dX7_feed_39 (by decide) (fun _ => ?_) (fun c1739 => absurd (by decide) c1739)
  refine lv_iload hx hb dX7_feed_46 (lv_at hl 0 rfl) ?_
  refine lv_bipush (v := 12) hx hb dX7_feed_48 (by decide) ?_
  refine lv_icmp_ge (tgt := 57) hx hb dX7_feed_50 (by decide) (fun c1740 => absurd c1740 (by decide)) (fun _ => ?_)
  refine lv_iload_n hx hb dX7_feed_53 rfl (lv_at hl 5 rfl) ?_
  refine lv_goto (tgt := 71) hx hb dX7_feed_54 (by decide) ?_
  refine lv_istore (lv' := [(7, .int x3), (6, .int 10), (0, .ref h1), (1, .int x1), (2, .int x2), (3, .int x3), (4, .int x4), (5, .int x5)]) hx hb dX7_feed_71 hl (by decide) rfl (fun ls hl => ?_)
  refine lv_aload_n hx hb dX7_feed_73 rfl (lv_at hl 2 rfl) ?_
  refine va_get (D := (dC, dI)) (ci := 7) (v := .ref (md 0)) (C := RX7) (T := TX7) (N := 59) hx hb hts hi7 hown hK hP 0 rfl rfl 0 (by decide) (hts _ (ow_m (k := 1) rfl)) (fun _ h9 => h9) rfl dX7_feed_74 ?_
  refine lv_aload_n hx hb dX7_feed_77 rfl (lv_at hl 2 rfl) ?_
  refine va_get (D := (dC, dI)) (ci := 7) (v := .int 0) (C := RX7) (T := TX7) (N := 59) hx hb hts hi7 hown hK hP 0 rfl rfl 2 (by decide) (hts _ (ow_m (k := 0) rfl)) (fun _ h9 => h9) rfl dX7_feed_78 ?_
  refine lv_iload hx hb dX7_feed_81 (lv_at hl 1 rfl) ?_
  refine lv_iadd hx hb dX7_feed_83 ?_
  refine tp_c (w := 10) (by decide) ?_
  refine lv_iload hx hb dX7_feed_84 (lv_at hl 0 rfl) ?_
  refine lv_bipush (v := 24) hx hb dX7_feed_86 (by decide) ?_
  refine lv_bipush (v := 8) hx hb dX7_feed_88 (by decide) ?_
  refine lv_iload hx hb dX7_feed_90 (lv_at hl 1 rfl) ?_
  refine lv_iconst (v := 3) hx hb dX7_feed_92 (by decide) ?_
  refine lv_iand hx hb dX7_feed_93 ?_
  refine tp_c (w := 2) (by decide) ?_
  refine lv_imul hx hb dX7_feed_94 ?_
  refine tp_c (w := 16) (by decide) ?_
  refine lv_isub hx hb dX7_feed_95 ?_
  refine tp_c (w := 8) (by decide) ?_
  refine lv_ishr hx hb dX7_feed_96 ?_
  refine lv_topi (fun z1741 ez1741 => ?_)
  refine lv_i2b hx hb dX7_feed_97 rfl ?_
  refine lv_topi (fun z1742 ez1742 => ?_)
  refine va_bast hx hb hK hP hD hS 1 0 rfl rfl (vp_i (a := 10) (by decide) (by decide) (by decide)) dX7_feed_98 (fun H locs hP hD hS => ?_)
  have hP : va_P (dC, dI) vwCl [(h1, .inr (7, [.ref (md 0), .ref (md 1), .int 0, .int 0, .int 0, .int (-1), .int 0, .int 0, .int 0, .int 0, .long 0, .ref (md 11), .ref (md 12), .ref (md 13), .ref (md 14), .ref (md 15), .ref (md 16), .ref (md 17), .ref (md 18), .ref (md 19), .ref (md 20), .ref (md 21), .ref (md 22), .ref (md 23), .ref (md 24), .ref (md 25), .ref (md 26), .ref (md 27), .ref (md 28), .int 0, .int 0, .int 0, .int 0, .int 0, .int 0, .int 0, .int 0, .int 0, .int 0, .int 0, .ref (md 40), .ref (md 41), .int 0, .int 0, .ref (md 44), .int 0, .int 0, .ref (md 47), .ref (md 48), .int 0, .ref (md 50), .ref (md 51), .ref (md 52), .ref (md 53), .ref (md 54), .int 0, .int 0, .ref (md 57), .ref (md 58)])), (md 0, .inl (cyB, 1620, .inl (upd f1736 10 (vp_nar .byte z1742))))] H := hP
  have hD : va_D A [(h1, .inr (7, [.ref (md 0), .ref (md 1), .int 0, .int 0, .int 0, .int (-1), .int 0, .int 0, .int 0, .int 0, .long 0, .ref (md 11), .ref (md 12), .ref (md 13), .ref (md 14), .ref (md 15), .ref (md 16), .ref (md 17), .ref (md 18), .ref (md 19), .ref (md 20), .ref (md 21), .ref (md 22), .ref (md 23), .ref (md 24), .ref (md 25), .ref (md 26), .ref (md 27), .ref (md 28), .int 0, .int 0, .int 0, .int 0, .int 0, .int 0, .int 0, .int 0, .int 0, .int 0, .int 0, .ref (md 40), .ref (md 41), .int 0, .int 0, .ref (md 44), .int 0, .int 0, .ref (md 47), .ref (md 48), .int 0, .ref (md 50), .ref (md 51), .ref (md 52), .ref (md 53), .ref (md 54), .int 0, .int 0, .ref (md 57), .ref (md 58)])), (md 0, .inl (cyB, 1620, .inl (upd f1736 10 (vp_nar .byte z1742))))] := hD
  generalize upd f1736 10 (vp_nar .byte z1742) = f1743 at hP hD
  refine lv_iinc (v := 11) (lv' := [(6, .int 11), (7, .int x3), (0, .ref h1), (1, .int x1), (2, .int x2), (3, .int x3), (4, .int x4), (5, .int x5)]) hx hb dX7_feed_99 hl (k := 1) rfl (by decide) (by decide) rfl (fun ls hl => ?_)
  refine lv_goto (tgt := 18) hx hb dX7_feed_102 (by decide) ?_
  refine lv_iload hx hb dX7_feed_18 (lv_at hl 0 rfl) ?_
  refine lv_bipush (v := 20) hx hb dX7_feed_20 (by decide) ?_
  refine lv_icmp_ge (tgt := 105) hx hb dX7_feed_22 (by decide) (fun c1744 => absurd c1744 (by decide)) (fun _ => ?_)
  refine lv_iload hx hb dX7_feed_25 (lv_at hl 0 rfl) ?_
  refine lv_iconst (v := 4) hx hb dX7_feed_27 (by decide) ?_
  refine lv_icmp_ge (tgt := 35) hx hb dX7_feed_28 (by decide) (fun _ => ?_) (fun c1745 => absurd (by decide) c1745)
  refine lv_iload hx hb dX7_feed_35 (lv_at hl 0 rfl) ?_
  refine lv_bipush (v := 8) hx hb dX7_feed_37 (by decide) ?_
  refine lv_icmp_ge (tgt := 46) hx hb dX7_feed_39 (by decide) (fun _ => ?_) (fun c1746 => absurd (by decide) c1746)
  refine lv_iload hx hb dX7_feed_46 (lv_at hl 0 rfl) ?_
  refine lv_bipush (v := 12) hx hb dX7_feed_48 (by decide) ?_
  refine lv_icmp_ge (tgt := 57) hx hb dX7_feed_50 (by decide) (fun c1747 => absurd c1747 (by decide)) (fun _ => ?_)
  refine lv_iload_n hx hb dX7_feed_53 rfl (lv_at hl 5 rfl) ?_
  refine lv_goto (tgt := 71) hx hb dX7_feed_54 (by decide) ?_
  refine lv_istore (lv' := [(7, .int x3), (6, .int 11), (0, .ref h1), (1, .int x1), (2, .int x2), (3, .int x3), (4, .int x4), (5, .int x5)]) hx hb dX7_feed_71 hl (by decide) rfl (fun ls hl => ?_)
  refine lv_aload_n hx hb dX7_feed_73 rfl (lv_at hl 2 rfl) ?_
  refine va_get (D := (dC, dI)) (ci := 7) (v := .ref (md 0)) (C := RX7) (T := TX7) (N := 59) hx hb hts hi7 hown hK hP 0 rfl rfl 0 (by decide) (hts _ (ow_m (k := 1) rfl)) (fun _ h9 => h9) rfl dX7_feed_74 ?_
  refine lv_aload_n hx hb dX7_feed_77 rfl (lv_at hl 2 rfl) ?_
  refine va_get (D := (dC, dI)) (ci := 7) (v := .int 0) (C := RX7) (T := TX7) (N := 59) hx hb hts hi7 hown hK hP 0 rfl rfl 2 (by decide) (hts _ (ow_m (k := 0) rfl)) (fun _ h9 => h9) rfl dX7_feed_78 ?_
  refine lv_iload hx hb dX7_feed_81 (lv_at hl 1 rfl) ?_
  refine lv_iadd hx hb dX7_feed_83 ?_
  refine tp_c (w := 11) (by decide) ?_
  refine lv_iload hx hb dX7_feed_84 (lv_at hl 0 rfl) ?_
  refine lv_bipush (v := 24) hx hb dX7_feed_86 (by decide) ?_
  refine lv_bipush (v := 8) hx hb dX7_feed_88 (by decide) ?_
  refine lv_iload hx hb dX7_feed_90 (lv_at hl 1 rfl) ?_
  refine lv_iconst (v := 3) hx hb dX7_feed_92 (by decide) ?_
  refine lv_iand hx hb dX7_feed_93 ?_
  refine tp_c (w := 3) (by decide) ?_
  refine lv_imul hx hb dX7_feed_94 ?_
  refine tp_c (w := 24) (by decide) ?_
  refine lv_isub hx hb dX7_feed_95 ?_
  refine tp_c (w := 0) (by decide) ?_
  refine lv_ishr hx hb dX7_feed_96 ?_
  refine lv_topi (fun z1748 ez1748 => ?_)
  refine lv_i2b hx hb dX7_feed_97 rfl ?_
  refine lv_topi (fun z1749 ez1749 => ?_)
  refine va_bast hx hb hK hP hD hS 1 0 rfl rfl (vp_i (a := 11) (by decide) (by decide) (by decide)) dX7_feed_98 (fun H locs hP hD hS => ?_)
  have hP : va_P (dC, dI) vwCl [(h1, .inr (7, [.ref (md 0), .ref (md 1), .int 0, .int 0, .int 0, .int (-1), .int 0, .int 0, .int 0, .int 0, .long 0, .ref (md 11), .ref (md 12), .ref (md 13), .ref (md 14), .ref (md 15), .ref (md 16), .ref (md 17), .ref (md 18), .ref (md 19), .ref (md 20), .ref (md 21), .ref (md 22), .ref (md 23), .ref (md 24), .ref (md 25), .ref (md 26), .ref (md 27), .ref (md 28), .int 0, .int 0, .int 0, .int 0, .int 0, .int 0, .int 0, .int 0, .int 0, .int 0, .int 0, .ref (md 40), .ref (md 41), .int 0, .int 0, .ref (md 44), .int 0, .int 0, .ref (md 47), .ref (md 48), .int 0, .ref (md 50), .ref (md 51), .ref (md 52), .ref (md 53), .ref (md 54), .int 0, .int 0, .ref (md 57), .ref (md 58)])), (md 0, .inl (cyB, 1620, .inl (upd f1743 11 (vp_nar .byte z1749))))] H := hP
  have hD : va_D A [(h1, .inr (7, [.ref (md 0), .ref (md 1), .int 0, .int 0, .int 0, .int (-1), .int 0, .int 0, .int 0, .int 0, .long 0, .ref (md 11), .ref (md 12), .ref (md 13), .ref (md 14), .ref (md 15), .ref (md 16), .ref (md 17), .ref (md 18), .ref (md 19), .ref (md 20), .ref (md 21), .ref (md 22), .ref (md 23), .ref (md 24), .ref (md 25), .ref (md 26), .ref (md 27), .ref (md 28), .int 0, .int 0, .int 0, .int 0, .int 0, .int 0, .int 0, .int 0, .int 0, .int 0, .int 0, .ref (md 40), .ref (md 41), .int 0, .int 0, .ref (md 44), .int 0, .int 0, .ref (md 47), .ref (md 48), .int 0, .ref (md 50), .ref (md 51), .ref (md 52), .ref (md 53), .ref (md 54), .int 0, .int 0, .ref (md 57), .ref (md 58)])), (md 0, .inl (cyB, 1620, .inl (upd f1743 11 (vp_nar .byte z1749))))] := hD
  generalize upd f1743 11 (vp_nar .byte z1749) = f1750 at hP hD
  refine lv_iinc (v := 12) (lv' := [(6, .int 12), (7, .int x3), (0, .ref h1), (1, .int x1), (2, .int x2), (3, .int x3), (4, .int x4), (5, .int x5)]) hx hb dX7_feed_99 hl (k := 1) rfl (by decide) (by decide) rfl (fun ls hl => ?_)
  refine lv_goto (tgt := 18) hx hb dX7_feed_102 (by decide) ?_
  refine lv_iload hx hb dX7_feed_18 (lv_at hl 0 rfl) ?_
  refine lv_bipush (v := 20) hx hb dX7_feed_20 (by decide) ?_
  refine lv_icmp_ge (tgt := 105) hx hb dX7_feed_22 (by decide) (fun c1751 => absurd c1751 (by decide)) (fun _ => ?_)
  refine lv_iload hx hb dX7_feed_25 (lv_at hl 0 rfl) ?_
  refine lv_iconst (v := 4) hx hb dX7_feed_27 (by decide) ?_
  refine lv_icmp_ge (tgt := 35) hx hb dX7_feed_28 (by decide) (fun _ => ?_) (fun c1752 => absurd (by decide) c1752)
  refine lv_iload hx hb dX7_feed_35 (lv_at hl 0 rfl) ?_
  refine lv_bipush (v := 8) hx hb dX7_feed_37 (by decide) ?_
  refine lv_icmp_ge (tgt := 46) hx hb dX7_feed_39 (by decide) (fun _ => ?_) (fun c1753 => absurd (by decide) c1753)
  refine lv_iload hx hb dX7_feed_46 (lv_at hl 0 rfl) ?_
  refine lv_bipush (v := 12) hx hb dX7_feed_48 (by decide) ?_
  refine lv_icmp_ge (tgt := 57) hx hb dX7_feed_50 (by decide) (fun _ => ?_) (fun c1754 => absurd (by decide) c1754)
  refine lv_iload hx hb dX7_feed_57 (lv_at hl 0 rfl) ?_
  refine lv_bipush (v := 16) hx hb dX7_feed_59 (by decide) ?_
  refine lv_icmp_ge (tgt := 69) hx hb dX7_feed_61 (by decide) (fun c1755 => absurd c1755 (by decide)) (fun _ => ?_)
  refine lv_iload hx hb dX7_feed_64 (lv_at hl 6 rfl) ?_
  refine lv_goto (tgt := 71) hx hb dX7_feed_66 (by decide) ?_
  refine lv_istore (lv' := [(7, .int x4), (6, .int 12), (0, .ref h1), (1, .int x1), (2, .int x2), (3, .int x3), (4, .int x4), (5, .int x5)]) hx hb dX7_feed_71 hl (by decide) rfl (fun ls hl => ?_)
  refine lv_aload_n hx hb dX7_feed_73 rfl (lv_at hl 2 rfl) ?_
  refine va_get (D := (dC, dI)) (ci := 7) (v := .ref (md 0)) (C := RX7) (T := TX7) (N := 59) hx hb hts hi7 hown hK hP 0 rfl rfl 0 (by decide) (hts _ (ow_m (k := 1) rfl)) (fun _ h9 => h9) rfl dX7_feed_74 ?_
  refine lv_aload_n hx hb dX7_feed_77 rfl (lv_at hl 2 rfl) ?_
  refine va_get (D := (dC, dI)) (ci := 7) (v := .int 0) (C := RX7) (T := TX7) (N := 59) hx hb hts hi7 hown hK hP 0 rfl rfl 2 (by decide) (hts _ (ow_m (k := 0) rfl)) (fun _ h9 => h9) rfl dX7_feed_78 ?_
  refine lv_iload hx hb dX7_feed_81 (lv_at hl 1 rfl) ?_
  refine lv_iadd hx hb dX7_feed_83 ?_
  refine tp_c (w := 12) (by decide) ?_
  refine lv_iload hx hb dX7_feed_84 (lv_at hl 0 rfl) ?_
  refine lv_bipush (v := 24) hx hb dX7_feed_86 (by decide) ?_
  refine lv_bipush (v := 8) hx hb dX7_feed_88 (by decide) ?_
  refine lv_iload hx hb dX7_feed_90 (lv_at hl 1 rfl) ?_
  refine lv_iconst (v := 3) hx hb dX7_feed_92 (by decide) ?_
  refine lv_iand hx hb dX7_feed_93 ?_
  refine tp_c (w := 0) (by decide) ?_
  refine lv_imul hx hb dX7_feed_94 ?_
  refine tp_c (w := 0) (by decide) ?_
  refine lv_isub hx hb dX7_feed_95 ?_
  refine tp_c (w := 24) (by decide) ?_
  refine lv_ishr hx hb dX7_feed_96 ?_
  refine lv_topi (fun z1756 ez1756 => ?_)
  refine lv_i2b hx hb dX7_feed_97 rfl ?_
  refine lv_topi (fun z1757 ez1757 => ?_)
  refine va_bast hx hb hK hP hD hS 1 0 rfl rfl (vp_i (a := 12) (by decide) (by decide) (by decide)) dX7_feed_98 (fun H locs hP hD hS => ?_)
  have hP : va_P (dC, dI) vwCl [(h1, .inr (7, [.ref (md 0), .ref (md 1), .int 0, .int 0, .int 0, .int (-1), .int 0, .int 0, .int 0, .int 0, .long 0, .ref (md 11), .ref (md 12), .ref (md 13), .ref (md 14), .ref (md 15), .ref (md 16), .ref (md 17), .ref (md 18), .ref (md 19), .ref (md 20), .ref (md 21), .ref (md 22), .ref (md 23), .ref (md 24), .ref (md 25), .ref (md 26), .ref (md 27), .ref (md 28), .int 0, .int 0, .int 0, .int 0, .int 0, .int 0, .int 0, .int 0, .int 0, .int 0, .int 0, .ref (md 40), .ref (md 41), .int 0, .int 0, .ref (md 44), .int 0, .int 0, .ref (md 47), .ref (md 48), .int 0, .ref (md 50), .ref (md 51), .ref (md 52), .ref (md 53), .ref (md 54), .int 0, .int 0, .ref (md 57), .ref (md 58)])), (md 0, .inl (cyB, 1620, .inl (upd f1750 12 (vp_nar .byte z1757))))] H := hP
  have hD : va_D A [(h1, .inr (7, [.ref (md 0), .ref (md 1), .int 0, .int 0, .int 0, .int (-1), .int 0, .int 0, .int 0, .int 0, .long 0, .ref (md 11), .ref (md 12), .ref (md 13), .ref (md 14), .ref (md 15), .ref (md 16), .ref (md 17), .ref (md 18), .ref (md 19), .ref (md 20), .ref (md 21), .ref (md 22), .ref (md 23), .ref (md 24), .ref (md 25), .ref (md 26), .ref (md 27), .ref (md 28), .int 0, .int 0, .int 0, .int 0, .int 0, .int 0, .int 0, .int 0, .int 0, .int 0, .int 0, .ref (md 40), .ref (md 41), .int 0, .int 0, .ref (md 44), .int 0, .int 0, .ref (md 47), .ref (md 48), .int 0, .ref (md 50), .ref (md 51), .ref (md 52), .ref (md 53), .ref (md 54), .int 0, .int 0, .ref (md 57), .ref (md 58)])), (md 0, .inl (cyB, 1620, .inl (upd f1750 12 (vp_nar .byte z1757))))] := hD
  generalize upd f1750 12 (vp_nar .byte z1757) = f1758 at hP hD
  refine lv_iinc (v := 13) (lv' := [(6, .int 13), (7, .int x4), (0, .ref h1), (1, .int x1), (2, .int x2), (3, .int x3), (4, .int x4), (5, .int x5)]) hx hb dX7_feed_99 hl (k := 1) rfl (by decide) (by decide) rfl (fun ls hl => ?_)
  refine lv_goto (tgt := 18) hx hb dX7_feed_102 (by decide) ?_
  refine lv_iload hx hb dX7_feed_18 (lv_at hl 0 rfl) ?_
  refine lv_bipush (v := 20) hx hb dX7_feed_20 (by decide) ?_
  refine lv_icmp_ge (tgt := 105) hx hb dX7_feed_22 (by decide) (fun c1759 => absurd c1759 (by decide)) (fun _ => ?_)
  refine lv_iload hx hb dX7_feed_25 (lv_at hl 0 rfl) ?_
  refine lv_iconst (v := 4) hx hb dX7_feed_27 (by decide) ?_
  refine lv_icmp_ge (tgt := 35) hx hb dX7_feed_28 (by decide) (fun _ => ?_) (fun c1760 => absurd (by decide) c1760)
  refine lv_iload hx hb dX7_feed_35 (lv_at hl 0 rfl) ?_
  refine lv_bipush (v := 8) hx hb dX7_feed_37 (by decide) ?_
  refine lv_icmp_ge (tgt := 46) hx hb dX7_feed_39 (by decide) (fun _ => ?_) (fun c1761 => absurd (by decide) c1761)
  refine lv_iload hx hb dX7_feed_46 (lv_at hl 0 rfl) ?_
  refine lv_bipush (v := 12) hx hb dX7_feed_48 (by decide) ?_
  refine lv_icmp_ge (tgt := 57) hx hb dX7_feed_50 (by decide) (fun _ => ?_) (fun c1762 => absurd (by decide) c1762)
  refine lv_iload hx hb dX7_feed_57 (lv_at hl 0 rfl) ?_
  refine lv_bipush (v := 16) hx hb dX7_feed_59 (by decide) ?_
  refine lv_icmp_ge (tgt := 69) hx hb dX7_feed_61 (by decide) (fun c1763 => absurd c1763 (by decide)) (fun _ => ?_)
  refine lv_iload hx hb dX7_feed_64 (lv_at hl 6 rfl) ?_
  refine lv_goto (tgt := 71) hx hb dX7_feed_66 (by decide) ?_
  refine lv_istore (lv' := [(7, .int x4), (6, .int 13), (0, .ref h1), (1, .int x1), (2, .int x2), (3, .int x3), (4, .int x4), (5, .int x5)]) hx hb dX7_feed_71 hl (by decide) rfl (fun ls hl => ?_)
  refine lv_aload_n hx hb dX7_feed_73 rfl (lv_at hl 2 rfl) ?_
  refine va_get (D := (dC, dI)) (ci := 7) (v := .ref (md 0)) (C := RX7) (T := TX7) (N := 59) hx hb hts hi7 hown hK hP 0 rfl rfl 0 (by decide) (hts _ (ow_m (k := 1) rfl)) (fun _ h9 => h9) rfl dX7_feed_74 ?_
  refine lv_aload_n hx hb dX7_feed_77 rfl (lv_at hl 2 rfl) ?_
  refine va_get (D := (dC, dI)) (ci := 7) (v := .int 0) (C := RX7) (T := TX7) (N := 59) hx hb hts hi7 hown hK hP 0 rfl rfl 2 (by decide) (hts _ (ow_m (k := 0) rfl)) (fun _ h9 => h9) rfl dX7_feed_78 ?_
  refine lv_iload hx hb dX7_feed_81 (lv_at hl 1 rfl) ?_
  refine lv_iadd hx hb dX7_feed_83 ?_
  refine tp_c (w := 13) (by decide) ?_
  refine lv_iload hx hb dX7_feed_84 (lv_at hl 0 rfl) ?_
  refine lv_bipush (v := 24) hx hb dX7_feed_86 (by decide) ?_
  refine lv_bipush (v := 8) hx hb dX7_feed_88 (by decide) ?_
  refine lv_iload hx hb dX7_feed_90 (lv_at hl 1 rfl) ?_
  refine lv_iconst (v := 3) hx hb dX7_feed_92 (by decide) ?_
  refine lv_iand hx hb dX7_feed_93 ?_
  refine tp_c (w := 1) (by decide) ?_
  refine lv_imul hx hb dX7_feed_94 ?_
  refine tp_c (w := 8) (by decide) ?_
  refine lv_isub hx hb dX7_feed_95 ?_
  refine tp_c (w := 16) (by decide) ?_
  refine lv_ishr hx hb dX7_feed_96 ?_
  refine lv_topi (fun z1764 ez1764 => ?_)
  refine lv_i2b hx hb dX7_feed_97 rfl ?_
  refine lv_topi (fun z1765 ez1765 => ?_)
  refine va_bast hx hb hK hP hD hS 1 0 rfl rfl (vp_i (a := 13) (by decide) (by decide) (by decide)) dX7_feed_98 (fun H locs hP hD hS => ?_)
  have hP : va_P (dC, dI) vwCl [(h1, .inr (7, [.ref (md 0), .ref (md 1), .int 0, .int 0, .int 0, .int (-1), .int 0, .int 0, .int 0, .int 0, .long 0, .ref (md 11), .ref (md 12), .ref (md 13), .ref (md 14), .ref (md 15), .ref (md 16), .ref (md 17), .ref (md 18), .ref (md 19), .ref (md 20), .ref (md 21), .ref (md 22), .ref (md 23), .ref (md 24), .ref (md 25), .ref (md 26), .ref (md 27), .ref (md 28), .int 0, .int 0, .int 0, .int 0, .int 0, .int 0, .int 0, .int 0, .int 0, .int 0, .int 0, .ref (md 40), .ref (md 41), .int 0, .int 0, .ref (md 44), .int 0, .int 0, .ref (md 47), .ref (md 48), .int 0, .ref (md 50), .ref (md 51), .ref (md 52), .ref (md 53), .ref (md 54), .int 0, .int 0, .ref (md 57), .ref (md 58)])), (md 0, .inl (cyB, 1620, .inl (upd f1758 13 (vp_nar .byte z1765))))] H := hP
  have hD : va_D A [(h1, .inr (7, [.ref (md 0), .ref (md 1), .int 0, .int 0, .int 0, .int (-1), .int 0, .int 0, .int 0, .int 0, .long 0, .ref (md 11), .ref (md 12), .ref (md 13), .ref (md 14), .ref (md 15), .ref (md 16), .ref (md 17), .ref (md 18), .ref (md 19), .ref (md 20), .ref (md 21), .ref (md 22), .ref (md 23), .ref (md 24), .ref (md 25), .ref (md 26), .ref (md 27), .ref (md 28), .int 0, .int 0, .int 0, .int 0, .int 0, .int 0, .int 0, .int 0, .int 0, .int 0, .int 0, .ref (md 40), .ref (md 41), .int 0, .int 0, .ref (md 44), .int 0, .int 0, .ref (md 47), .ref (md 48), .int 0, .ref (md 50), .ref (md 51), .ref (md 52), .ref (md 53), .ref (md 54), .int 0, .int 0, .ref (md 57), .ref (md 58)])), (md 0, .inl (cyB, 1620, .inl (upd f1758 13 (vp_nar .byte z1765))))] := hD
  generalize upd f1758 13 (vp_nar .byte z1765) = f1766 at hP hD
  refine lv_iinc (v := 14) (lv' := [(6, .int 14), (7, .int x4), (0, .ref h1), (1, .int x1), (2, .int x2), (3, .int x3), (4, .int x4), (5, .int x5)]) hx hb dX7_feed_99 hl (k := 1) rfl (by decide) (by decide) rfl (fun ls hl => ?_)
  refine lv_goto (tgt := 18) hx hb dX7_feed_102 (by decide) ?_
  refine lv_iload hx hb dX7_feed_18 (lv_at hl 0 rfl) ?_
  refine lv_bipush (v := 20) hx hb dX7_feed_20 (by decide) ?_
  refine lv_icmp_ge (tgt := 105) hx hb dX7_feed_22 (by decide) (fun c1767 => absurd c1767 (by decide)) (fun _ => ?_)
  refine lv_iload hx hb dX7_feed_25 (lv_at hl 0 rfl) ?_
  refine lv_iconst (v := 4) hx hb dX7_feed_27 (by decide) ?_
  refine lv_icmp_ge (tgt := 35) hx hb dX7_feed_28 (by decide) (fun _ => ?_) (fun c1768 => absurd (by decide) c1768)
  refine lv_iload hx hb dX7_feed_35 (lv_at hl 0 rfl) ?_
  refine lv_bipush (v := 8) hx hb dX7_feed_37 (by decide) ?_
  refine lv_icmp_ge (tgt := 46) hx hb dX7_feed_39 (by decide) (fun _ => ?_) (fun c1769 => absurd (by decide) c1769)
  refine lv_iload hx hb dX7_feed_46 (lv_at hl 0 rfl) ?_
  refine lv_bipush (v := 12) hx hb dX7_feed_48 (by decide) ?_
  refine lv_icmp_ge (tgt := 57) hx hb dX7_feed_50 (by decide) (fun _ => ?_) (fun c1770 => absurd (by decide) c1770)
  refine lv_iload hx hb dX7_feed_57 (lv_at hl 0 rfl) ?_
  refine lv_bipush (v := 16) hx hb dX7_feed_59 (by decide) ?_
  refine lv_icmp_ge (tgt := 69) hx hb dX7_feed_61 (by decide) (fun c1771 => absurd c1771 (by decide)) (fun _ => ?_)
  refine lv_iload hx hb dX7_feed_64 (lv_at hl 6 rfl) ?_
  refine lv_goto (tgt := 71) hx hb dX7_feed_66 (by decide) ?_
  refine lv_istore (lv' := [(7, .int x4), (6, .int 14), (0, .ref h1), (1, .int x1), (2, .int x2), (3, .int x3), (4, .int x4), (5, .int x5)]) hx hb dX7_feed_71 hl (by decide) rfl (fun ls hl => ?_)
  refine lv_aload_n hx hb dX7_feed_73 rfl (lv_at hl 2 rfl) ?_
  refine va_get (D := (dC, dI)) (ci := 7) (v := .ref (md 0)) (C := RX7) (T := TX7) (N := 59) hx hb hts hi7 hown hK hP 0 rfl rfl 0 (by decide) (hts _ (ow_m (k := 1) rfl)) (fun _ h9 => h9) rfl dX7_feed_74 ?_
  refine lv_aload_n hx hb dX7_feed_77 rfl (lv_at hl 2 rfl) ?_
  refine va_get (D := (dC, dI)) (ci := 7) (v := .int 0) (C := RX7) (T := TX7) (N := 59) hx hb hts hi7 hown hK hP 0 rfl rfl 2 (by decide) (hts _ (ow_m (k := 0) rfl)) (fun _ h9 => h9) rfl dX7_feed_78 ?_
  refine lv_iload hx hb dX7_feed_81 (lv_at hl 1 rfl) ?_
  refine lv_iadd hx hb dX7_feed_83 ?_
  refine tp_c (w := 14) (by decide) ?_
  refine lv_iload hx hb dX7_feed_84 (lv_at hl 0 rfl) ?_
  refine lv_bipush (v := 24) hx hb dX7_feed_86 (by decide) ?_
  refine lv_bipush (v := 8) hx hb dX7_feed_88 (by decide) ?_
  refine lv_iload hx hb dX7_feed_90 (lv_at hl 1 rfl) ?_
  refine lv_iconst (v := 3) hx hb dX7_feed_92 (by decide) ?_
  refine lv_iand hx hb dX7_feed_93 ?_
  refine tp_c (w := 2) (by decide) ?_
  refine lv_imul hx hb dX7_feed_94 ?_
  refine tp_c (w := 16) (by decide) ?_
  refine lv_isub hx hb dX7_feed_95 ?_
  refine tp_c (w := 8) (by decide) ?_
  refine lv_ishr hx hb dX7_feed_96 ?_
  refine lv_topi (fun z1772 ez1772 => ?_)
  refine lv_i2b hx hb dX7_feed_97 rfl ?_
  refine lv_topi (fun z1773 ez1773 => ?_)
  refine va_bast hx hb hK hP hD hS 1 0 rfl rfl (vp_i (a := 14) (by decide) (by decide) (by decide)) dX7_feed_98 (fun H locs hP hD hS => ?_)
  have hP : va_P (dC, dI) vwCl [(h1, .inr (7, [.ref (md 0), .ref (md 1), .int 0, .int 0, .int 0, .int (-1), .int 0, .int 0, .int 0, .int 0, .long 0, .ref (md 11), .ref (md 12), .ref (md 13), .ref (md 14), .ref (md 15), .ref (md 16), .ref (md 17), .ref (md 18), .ref (md 19), .ref (md 20), .ref (md 21), .ref (md 22), .ref (md 23), .ref (md 24), .ref (md 25), .ref (md 26), .ref (md 27), .ref (md 28), .int 0, .int 0, .int 0, .int 0, .int 0, .int 0, .int 0, .int 0, .int 0, .int 0, .int 0, .ref (md 40), .ref (md 41), .int 0, .int 0, .ref (md 44), .int 0, .int 0, .ref (md 47), .ref (md 48), .int 0, .ref (md 50), .ref (md 51), .ref (md 52), .ref (md 53), .ref (md 54), .int 0, .int 0, .ref (md 57), .ref (md 58)])), (md 0, .inl (cyB, 1620, .inl (upd f1766 14 (vp_nar .byte z1773))))] H := hP
  have hD : va_D A [(h1, .inr (7, [.ref (md 0), .ref (md 1), .int 0, .int 0, .int 0, .int (-1), .int 0, .int 0, .int 0, .int 0, .long 0, .ref (md 11), .ref (md 12), .ref (md 13), .ref (md 14), .ref (md 15), .ref (md 16), .ref (md 17), .ref (md 18), .ref (md 19), .ref (md 20), .ref (md 21), .ref (md 22), .ref (md 23), .ref (md 24), .ref (md 25), .ref (md 26), .ref (md 27), .ref (md 28), .int 0, .int 0, .int 0, .int 0, .int 0, .int 0, .int 0, .int 0, .int 0, .int 0, .int 0, .ref (md 40), .ref (md 41), .int 0, .int 0, .ref (md 44), .int 0, .int 0, .ref (md 47), .ref (md 48), .int 0, .ref (md 50), .ref (md 51), .ref (md 52), .ref (md 53), .ref (md 54), .int 0, .int 0, .ref (md 57), .ref (md 58)])), (md 0, .inl (cyB, 1620, .inl (upd f1766 14 (vp_nar .byte z1773))))] := hD
  generalize upd f1766 14 (vp_nar .byte z1773) = f1774 at hP hD
  refine lv_iinc (v := 15) (lv' := [(6, .int 15), (7, .int x4), (0, .ref h1), (1, .int x1), (2, .int x2), (3, .int x3), (4, .int x4), (5, .int x5)]) hx hb dX7_feed_99 hl (k := 1) rfl (by decide) (by decide) rfl (fun ls hl => ?_)
  refine lv_goto (tgt := 18) hx hb dX7_feed_102 (by decide) ?_
  refine lv_iload hx hb dX7_feed_18 (lv_at hl 0 rfl) ?_
  refine lv_bipush (v := 20) hx hb dX7_feed_20 (by decide) ?_
  refine lv_icmp_ge (tgt := 105) hx hb dX7_feed_22 (by decide) (fun c1775 => absurd c1775 (by decide)) (fun _ => ?_)
  refine lv_iload hx hb dX7_feed_25 (lv_at hl 0 rfl) ?_
  refine lv_iconst (v := 4) hx hb dX7_feed_27 (by decide) ?_
  refine lv_icmp_ge (tgt := 35) hx hb dX7_feed_28 (by decide) (fun _ => ?_) (fun c1776 => absurd (by decide) c1776)
  refine lv_iload hx hb dX7_feed_35 (lv_at hl 0 rfl) ?_
  refine lv_bipush (v := 8) hx hb dX7_feed_37 (by decide) ?_
  refine lv_icmp_ge (tgt := 46) hx hb dX7_feed_39 (by decide) (fun _ => ?_) (fun c1777 => absurd (by decide) c1777)
  refine lv_iload hx hb dX7_feed_46 (lv_at hl 0 rfl) ?_
  refine lv_bipush (v := 12) hx hb dX7_feed_48 (by decide) ?_
  refine lv_icmp_ge (tgt := 57) hx hb dX7_feed_50 (by decide) (fun _ => ?_) (fun c1778 => absurd (by decide) c1778)
  refine lv_iload hx hb dX7_feed_57 (lv_at hl 0 rfl) ?_
  refine lv_bipush (v := 16) hx hb dX7_feed_59 (by decide) ?_
  refine lv_icmp_ge (tgt := 69) hx hb dX7_feed_61 (by decide) (fun c1779 => absurd c1779 (by decide)) (fun _ => ?_)
  refine lv_iload hx hb dX7_feed_64 (lv_at hl 6 rfl) ?_
  refine lv_goto (tgt := 71) hx hb dX7_feed_66 (by decide) ?_
  refine lv_istore (lv' := [(7, .int x4), (6, .int 15), (0, .ref h1), (1, .int x1), (2, .int x2), (3, .int x3), (4, .int x4), (5, .int x5)]) hx hb dX7_feed_71 hl (by decide) rfl (fun ls hl => ?_)
  refine lv_aload_n hx hb dX7_feed_73 rfl (lv_at hl 2 rfl) ?_
  refine va_get (D := (dC, dI)) (ci := 7) (v := .ref (md 0)) (C := RX7) (T := TX7) (N := 59) hx hb hts hi7 hown hK hP 0 rfl rfl 0 (by decide) (hts _ (ow_m (k := 1) rfl)) (fun _ h9 => h9) rfl dX7_feed_74 ?_
  refine lv_aload_n hx hb dX7_feed_77 rfl (lv_at hl 2 rfl) ?_
  refine va_get (D := (dC, dI)) (ci := 7) (v := .int 0) (C := RX7) (T := TX7) (N := 59) hx hb hts hi7 hown hK hP 0 rfl rfl 2 (by decide) (hts _ (ow_m (k := 0) rfl)) (fun _ h9 => h9) rfl dX7_feed_78 ?_
  refine lv_iload hx hb dX7_feed_81 (lv_at hl 1 rfl) ?_
  refine lv_iadd hx hb dX7_feed_83 ?_
  refine tp_c (w := 15) (by decide) ?_
  refine lv_iload hx hb dX7_feed_84 (lv_at hl 0 rfl) ?_
  refine lv_bipush (v := 24) hx hb dX7_feed_86 (by decide) ?_
  refine lv_bipush (v := 8) hx hb dX7_feed_88 (by decide) ?_
  refine lv_iload hx hb dX7_feed_90 (lv_at hl 1 rfl) ?_
  refine lv_iconst (v := 3) hx hb dX7_feed_92 (by decide) ?_
  refine lv_iand hx hb dX7_feed_93 ?_
  refine tp_c (w := 3) (by decide) ?_
  refine lv_imul hx hb dX7_feed_94 ?_
  refine tp_c (w := 24) (by decide) ?_
  refine lv_isub hx hb dX7_feed_95 ?_
  refine tp_c (w := 0) (by decide) ?_
  refine lv_ishr hx hb dX7_feed_96 ?_
  refine lv_topi (fun z1780 ez1780 => ?_)
  refine lv_i2b hx hb dX7_feed_97 rfl ?_
  refine lv_topi (fun z1781 ez1781 => ?_)
  refine va_bast hx hb hK hP hD hS 1 0 rfl rfl (vp_i (a := 15) (by decide) (by decide) (by decide)) dX7_feed_98 (fun H locs hP hD hS => ?_)
  have hP : va_P (dC, dI) vwCl [(h1, .inr (7, [.ref (md 0), .ref (md 1), .int 0, .int 0, .int 0, .int (-1), .int 0, .int 0, .int 0, .int 0, .long 0, .ref (md 11), .ref (md 12), .ref (md 13), .ref (md 14), .ref (md 15), .ref (md 16), .ref (md 17), .ref (md 18), .ref (md 19), .ref (md 20), .ref (md 21), .ref (md 22), .ref (md 23), .ref (md 24), .ref (md 25), .ref (md 26), .ref (md 27), .ref (md 28), .int 0, .int 0, .int 0, .int 0, .int 0, .int 0, .int 0, .int 0, .int 0, .int 0, .int 0, .ref (md 40), .ref (md 41), .int 0, .int 0, .ref (md 44), .int 0, .int 0, .ref (md 47), .ref (md 48), .int 0, .ref (md 50), .ref (md 51), .ref (md 52), .ref (md 53), .ref (md 54), .int 0, .int 0, .ref (md 57), .ref (md 58)])), (md 0, .inl (cyB, 1620, .inl (upd f1774 15 (vp_nar .byte z1781))))] H := hP
  have hD : va_D A [(h1, .inr (7, [.ref (md 0), .ref (md 1), .int 0, .int 0, .int 0, .int (-1), .int 0, .int 0, .int 0, .int 0, .long 0, .ref (md 11), .ref (md 12), .ref (md 13), .ref (md 14), .ref (md 15), .ref (md 16), .ref (md 17), .ref (md 18), .ref (md 19), .ref (md 20), .ref (md 21), .ref (md 22), .ref (md 23), .ref (md 24), .ref (md 25), .ref (md 26), .ref (md 27), .ref (md 28), .int 0, .int 0, .int 0, .int 0, .int 0, .int 0, .int 0, .int 0, .int 0, .int 0, .int 0, .ref (md 40), .ref (md 41), .int 0, .int 0, .ref (md 44), .int 0, .int 0, .ref (md 47), .ref (md 48), .int 0, .ref (md 50), .ref (md 51), .ref (md 52), .ref (md 53), .ref (md 54), .int 0, .int 0, .ref (md 57), .ref (md 58)])), (md 0, .inl (cyB, 1620, .inl (upd f1774 15 (vp_nar .byte z1781))))] := hD
  generalize upd f1774 15 (vp_nar .byte z1781) = f1782 at hP hD
  refine lv_iinc (v := 16) (lv' := [(6, .int 16), (7, .int x4), (0, .ref h1), (1, .int x1), (2, .int x2), (3, .int x3), (4, .int x4), (5, .int x5)]) hx hb dX7_feed_99 hl (k := 1) rfl (by decide) (by decide) rfl (fun ls hl => ?_)
  refine lv_goto (tgt := 18) hx hb dX7_feed_102 (by decide) ?_
  refine lv_iload hx hb dX7_feed_18 (lv_at hl 0 rfl) ?_
  refine lv_bipush (v := 20) hx hb dX7_feed_20 (by decide) ?_
  refine lv_icmp_ge (tgt := 105) hx hb dX7_feed_22 (by decide) (fun c1783 => absurd c1783 (by decide)) (fun _ => ?_)
  refine lv_iload hx hb dX7_feed_25 (lv_at hl 0 rfl) ?_
  refine lv_iconst (v := 4) hx hb dX7_feed_27 (by decide) ?_
  refine lv_icmp_ge (tgt := 35) hx hb dX7_feed_28 (by decide) (fun _ => ?_) (fun c1784 => absurd (by decide) c1784)
  refine lv_iload hx hb dX7_feed_35 (lv_at hl 0 rfl) ?_
  refine lv_bipush (v := 8) hx hb dX7_feed_37 (by decide) ?_
  refine lv_icmp_ge (tgt := 46) hx hb dX7_feed_39 (by decide) (fun _ => ?_) (fun c1785 => absurd (by decide) c1785)
  refine lv_iload hx hb dX7_feed_46 (lv_at hl 0 rfl) ?_
  refine lv_bipush (v := 12) hx hb dX7_feed_48 (by decide) ?_
  refine lv_icmp_ge (tgt := 57) hx hb dX7_feed_50 (by decide) (fun _ => ?_) (fun c1786 => absurd (by decide) c1786)
  refine lv_iload hx hb dX7_feed_57 (lv_at hl 0 rfl) ?_
  refine lv_bipush (v := 16) hx hb dX7_feed_59 (by decide) ?_
  refine lv_icmp_ge (tgt := 69) hx hb dX7_feed_61 (by decide) (fun _ => ?_) (fun c1787 => absurd (by decide) c1787)
  refine lv_iload hx hb dX7_feed_69 (lv_at hl 7 rfl) ?_
  refine lv_istore (lv' := [(7, .int x5), (6, .int 16), (0, .ref h1), (1, .int x1), (2, .int x2), (3, .int x3), (4, .int x4), (5, .int x5)]) hx hb dX7_feed_71 hl (by decide) rfl (fun ls hl => ?_)
  refine lv_aload_n hx hb dX7_feed_73 rfl (lv_at hl 2 rfl) ?_
  refine va_get (D := (dC, dI)) (ci := 7) (v := .ref (md 0)) (C := RX7) (T := TX7) (N := 59) hx hb hts hi7 hown hK hP 0 rfl rfl 0 (by decide) (hts _ (ow_m (k := 1) rfl)) (fun _ h9 => h9) rfl dX7_feed_74 ?_
  refine lv_aload_n hx hb dX7_feed_77 rfl (lv_at hl 2 rfl) ?_
  refine va_get (D := (dC, dI)) (ci := 7) (v := .int 0) (C := RX7) (T := TX7) (N := 59) hx hb hts hi7 hown hK hP 0 rfl rfl 2 (by decide) (hts _ (ow_m (k := 0) rfl)) (fun _ h9 => h9) rfl dX7_feed_78 ?_
  refine lv_iload hx hb dX7_feed_81 (lv_at hl 1 rfl) ?_
  refine lv_iadd hx hb dX7_feed_83 ?_
  refine tp_c (w := 16) (by decide) ?_
  refine lv_iload hx hb dX7_feed_84 (lv_at hl 0 rfl) ?_
  refine lv_bipush (v := 24) hx hb dX7_feed_86 (by decide) ?_
  refine lv_bipush (v := 8) hx hb dX7_feed_88 (by decide) ?_
  refine lv_iload hx hb dX7_feed_90 (lv_at hl 1 rfl) ?_
  refine lv_iconst (v := 3) hx hb dX7_feed_92 (by decide) ?_
  refine lv_iand hx hb dX7_feed_93 ?_
  refine tp_c (w := 0) (by decide) ?_
  refine lv_imul hx hb dX7_feed_94 ?_
  refine tp_c (w := 0) (by decide) ?_
  refine lv_isub hx hb dX7_feed_95 ?_
  refine tp_c (w := 24) (by decide) ?_
  refine lv_ishr hx hb dX7_feed_96 ?_
  refine lv_topi (fun z1788 ez1788 => ?_)
  refine lv_i2b hx hb dX7_feed_97 rfl ?_
  refine lv_topi (fun z1789 ez1789 => ?_)
  refine va_bast hx hb hK hP hD hS 1 0 rfl rfl (vp_i (a := 16) (by decide) (by decide) (by decide)) dX7_feed_98 (fun H locs hP hD hS => ?_)
  have hP : va_P (dC, dI) vwCl [(h1, .inr (7, [.ref (md 0), .ref (md 1), .int 0, .int 0, .int 0, .int (-1), .int 0, .int 0, .int 0, .int 0, .long 0, .ref (md 11), .ref (md 12), .ref (md 13), .ref (md 14), .ref (md 15), .ref (md 16), .ref (md 17), .ref (md 18), .ref (md 19), .ref (md 20), .ref (md 21), .ref (md 22), .ref (md 23), .ref (md 24), .ref (md 25), .ref (md 26), .ref (md 27), .ref (md 28), .int 0, .int 0, .int 0, .int 0, .int 0, .int 0, .int 0, .int 0, .int 0, .int 0, .int 0, .ref (md 40), .ref (md 41), .int 0, .int 0, .ref (md 44), .int 0, .int 0, .ref (md 47), .ref (md 48), .int 0, .ref (md 50), .ref (md 51), .ref (md 52), .ref (md 53), .ref (md 54), .int 0, .int 0, .ref (md 57), .ref (md 58)])), (md 0, .inl (cyB, 1620, .inl (upd f1782 16 (vp_nar .byte z1789))))] H := hP
  have hD : va_D A [(h1, .inr (7, [.ref (md 0), .ref (md 1), .int 0, .int 0, .int 0, .int (-1), .int 0, .int 0, .int 0, .int 0, .long 0, .ref (md 11), .ref (md 12), .ref (md 13), .ref (md 14), .ref (md 15), .ref (md 16), .ref (md 17), .ref (md 18), .ref (md 19), .ref (md 20), .ref (md 21), .ref (md 22), .ref (md 23), .ref (md 24), .ref (md 25), .ref (md 26), .ref (md 27), .ref (md 28), .int 0, .int 0, .int 0, .int 0, .int 0, .int 0, .int 0, .int 0, .int 0, .int 0, .int 0, .ref (md 40), .ref (md 41), .int 0, .int 0, .ref (md 44), .int 0, .int 0, .ref (md 47), .ref (md 48), .int 0, .ref (md 50), .ref (md 51), .ref (md 52), .ref (md 53), .ref (md 54), .int 0, .int 0, .ref (md 57), .ref (md 58)])), (md 0, .inl (cyB, 1620, .inl (upd f1782 16 (vp_nar .byte z1789))))] := hD
  generalize upd f1782 16 (vp_nar .byte z1789) = f1790 at hP hD
  refine lv_iinc (v := 17) (lv' := [(6, .int 17), (7, .int x5), (0, .ref h1), (1, .int x1), (2, .int x2), (3, .int x3), (4, .int x4), (5, .int x5)]) hx hb dX7_feed_99 hl (k := 1) rfl (by decide) (by decide) rfl (fun ls hl => ?_)
  refine lv_goto (tgt := 18) hx hb dX7_feed_102 (by decide) ?_
  refine lv_iload hx hb dX7_feed_18 (lv_at hl 0 rfl) ?_
  refine lv_bipush (v := 20) hx hb dX7_feed_20 (by decide) ?_
  refine lv_icmp_ge (tgt := 105) hx hb dX7_feed_22 (by decide) (fun c1791 => absurd c1791 (by decide)) (fun _ => ?_)
  refine lv_iload hx hb dX7_feed_25 (lv_at hl 0 rfl) ?_
  refine lv_iconst (v := 4) hx hb dX7_feed_27 (by decide) ?_
  refine lv_icmp_ge (tgt := 35) hx hb dX7_feed_28 (by decide) (fun _ => ?_) (fun c1792 => absurd (by decide) c1792)
  refine lv_iload hx hb dX7_feed_35 (lv_at hl 0 rfl) ?_
  refine lv_bipush (v := 8) hx hb dX7_feed_37 (by decide) ?_
  refine lv_icmp_ge (tgt := 46) hx hb dX7_feed_39 (by decide) (fun _ => ?_) (fun c1793 => absurd (by decide) c1793)
  refine lv_iload hx hb dX7_feed_46 (lv_at hl 0 rfl) ?_
  refine lv_bipush (v := 12) hx hb dX7_feed_48 (by decide) ?_
  refine lv_icmp_ge (tgt := 57) hx hb dX7_feed_50 (by decide) (fun _ => ?_) (fun c1794 => absurd (by decide) c1794)
  refine lv_iload hx hb dX7_feed_57 (lv_at hl 0 rfl) ?_
  refine lv_bipush (v := 16) hx hb dX7_feed_59 (by decide) ?_
  refine lv_icmp_ge (tgt := 69) hx hb dX7_feed_61 (by decide) (fun _ => ?_) (fun c1795 => absurd (by decide) c1795)
  refine lv_iload hx hb dX7_feed_69 (lv_at hl 7 rfl) ?_
  refine lv_istore (lv' := [(7, .int x5), (6, .int 17), (0, .ref h1), (1, .int x1), (2, .int x2), (3, .int x3), (4, .int x4), (5, .int x5)]) hx hb dX7_feed_71 hl (by decide) rfl (fun ls hl => ?_)
  refine lv_aload_n hx hb dX7_feed_73 rfl (lv_at hl 2 rfl) ?_
  refine va_get (D := (dC, dI)) (ci := 7) (v := .ref (md 0)) (C := RX7) (T := TX7) (N := 59) hx hb hts hi7 hown hK hP 0 rfl rfl 0 (by decide) (hts _ (ow_m (k := 1) rfl)) (fun _ h9 => h9) rfl dX7_feed_74 ?_
  refine lv_aload_n hx hb dX7_feed_77 rfl (lv_at hl 2 rfl) ?_
  refine va_get (D := (dC, dI)) (ci := 7) (v := .int 0) (C := RX7) (T := TX7) (N := 59) hx hb hts hi7 hown hK hP 0 rfl rfl 2 (by decide) (hts _ (ow_m (k := 0) rfl)) (fun _ h9 => h9) rfl dX7_feed_78 ?_
  refine lv_iload hx hb dX7_feed_81 (lv_at hl 1 rfl) ?_
  refine lv_iadd hx hb dX7_feed_83 ?_
  refine tp_c (w := 17) (by decide) ?_
  refine lv_iload hx hb dX7_feed_84 (lv_at hl 0 rfl) ?_
  refine lv_bipush (v := 24) hx hb dX7_feed_86 (by decide) ?_
  refine lv_bipush (v := 8) hx hb dX7_feed_88 (by decide) ?_
  refine lv_iload hx hb dX7_feed_90 (lv_at hl 1 rfl) ?_
  refine lv_iconst (v := 3) hx hb dX7_feed_92 (by decide) ?_
  refine lv_iand hx hb dX7_feed_93 ?_
  refine tp_c (w := 1) (by decide) ?_
  refine lv_imul hx hb dX7_feed_94 ?_
  refine tp_c (w := 8) (by decide) ?_
  refine lv_isub hx hb dX7_feed_95 ?_
  refine tp_c (w := 16) (by decide) ?_
  refine lv_ishr hx hb dX7_feed_96 ?_
  refine lv_topi (fun z1796 ez1796 => ?_)
  refine lv_i2b hx hb dX7_feed_97 rfl ?_
  refine lv_topi (fun z1797 ez1797 => ?_)
  refine va_bast hx hb hK hP hD hS 1 0 rfl rfl (vp_i (a := 17) (by decide) (by decide) (by decide)) dX7_feed_98 (fun H locs hP hD hS => ?_)
  have hP : va_P (dC, dI) vwCl [(h1, .inr (7, [.ref (md 0), .ref (md 1), .int 0, .int 0, .int 0, .int (-1), .int 0, .int 0, .int 0, .int 0, .long 0, .ref (md 11), .ref (md 12), .ref (md 13), .ref (md 14), .ref (md 15), .ref (md 16), .ref (md 17), .ref (md 18), .ref (md 19), .ref (md 20), .ref (md 21), .ref (md 22), .ref (md 23), .ref (md 24), .ref (md 25), .ref (md 26), .ref (md 27), .ref (md 28), .int 0, .int 0, .int 0, .int 0, .int 0, .int 0, .int 0, .int 0, .int 0, .int 0, .int 0, .ref (md 40), .ref (md 41), .int 0, .int 0, .ref (md 44), .int 0, .int 0, .ref (md 47), .ref (md 48), .int 0, .ref (md 50), .ref (md 51), .ref (md 52), .ref (md 53), .ref (md 54), .int 0, .int 0, .ref (md 57), .ref (md 58)])), (md 0, .inl (cyB, 1620, .inl (upd f1790 17 (vp_nar .byte z1797))))] H := hP
  have hD : va_D A [(h1, .inr (7, [.ref (md 0), .ref (md 1), .int 0, .int 0, .int 0, .int (-1), .int 0, .int 0, .int 0, .int 0, .long 0, .ref (md 11), .ref (md 12), .ref (md 13), .ref (md 14), .ref (md 15), .ref (md 16), .ref (md 17), .ref (md 18), .ref (md 19), .ref (md 20), .ref (md 21), .ref (md 22), .ref (md 23), .ref (md 24), .ref (md 25), .ref (md 26), .ref (md 27), .ref (md 28), .int 0, .int 0, .int 0, .int 0, .int 0, .int 0, .int 0, .int 0, .int 0, .int 0, .int 0, .ref (md 40), .ref (md 41), .int 0, .int 0, .ref (md 44), .int 0, .int 0, .ref (md 47), .ref (md 48), .int 0, .ref (md 50), .ref (md 51), .ref (md 52), .ref (md 53), .ref (md 54), .int 0, .int 0, .ref (md 57), .ref (md 58)])), (md 0, .inl (cyB, 1620, .inl (upd f1790 17 (vp_nar .byte z1797))))] := hD
  generalize upd f1790 17 (vp_nar .byte z1797) = f1798 at hP hD
  refine lv_iinc (v := 18) (lv' := [(6, .int 18), (7, .int x5), (0, .ref h1), (1, .int x1), (2, .int x2), (3, .int x3), (4, .int x4), (5, .int x5)]) hx hb dX7_feed_99 hl (k := 1) rfl (by decide) (by decide) rfl (fun ls hl => ?_)
  refine lv_goto (tgt := 18) hx hb dX7_feed_102 (by decide) ?_
  refine lv_iload hx hb dX7_feed_18 (lv_at hl 0 rfl) ?_
  refine lv_bipush (v := 20) hx hb dX7_feed_20 (by decide) ?_
  refine lv_icmp_ge (tgt := 105) hx hb dX7_feed_22 (by decide) (fun c1799 => absurd c1799 (by decide)) (fun _ => ?_)
  refine lv_iload hx hb dX7_feed_25 (lv_at hl 0 rfl) ?_
  refine lv_iconst (v := 4) hx hb dX7_feed_27 (by decide) ?_
  refine lv_icmp_ge (tgt := 35) hx hb dX7_feed_28 (by decide) (fun _ => ?_) (fun c1800 => absurd (by decide) c1800)
  refine lv_iload hx hb dX7_feed_35 (lv_at hl 0 rfl) ?_
  refine lv_bipush (v := 8) hx hb dX7_feed_37 (by decide) ?_
  refine lv_icmp_ge (tgt := 46) hx hb dX7_feed_39 (by decide) (fun _ => ?_) (fun c1801 => absurd (by decide) c1801)
  refine lv_iload hx hb dX7_feed_46 (lv_at hl 0 rfl) ?_
  refine lv_bipush (v := 12) hx hb dX7_feed_48 (by decide) ?_
  refine lv_icmp_ge (tgt := 57) hx hb dX7_feed_50 (by decide) (fun _ => ?_) (fun c1802 => absurd (by decide) c1802)
  refine lv_iload hx hb dX7_feed_57 (lv_at hl 0 rfl) ?_
  refine lv_bipush (v := 16) hx hb dX7_feed_59 (by decide) ?_
  refine lv_icmp_ge (tgt := 69) hx hb dX7_feed_61 (by decide) (fun _ => ?_) (fun c1803 => absurd (by decide) c1803)
  refine lv_iload hx hb dX7_feed_69 (lv_at hl 7 rfl) ?_
  refine lv_istore (lv' := [(7, .int x5), (6, .int 18), (0, .ref h1), (1, .int x1), (2, .int x2), (3, .int x3), (4, .int x4), (5, .int x5)]) hx hb dX7_feed_71 hl (by decide) rfl (fun ls hl => ?_)
  refine lv_aload_n hx hb dX7_feed_73 rfl (lv_at hl 2 rfl) ?_
  refine va_get (D := (dC, dI)) (ci := 7) (v := .ref (md 0)) (C := RX7) (T := TX7) (N := 59) hx hb hts hi7 hown hK hP 0 rfl rfl 0 (by decide) (hts _ (ow_m (k := 1) rfl)) (fun _ h9 => h9) rfl dX7_feed_74 ?_
  refine lv_aload_n hx hb dX7_feed_77 rfl (lv_at hl 2 rfl) ?_
  refine va_get (D := (dC, dI)) (ci := 7) (v := .int 0) (C := RX7) (T := TX7) (N := 59) hx hb hts hi7 hown hK hP 0 rfl rfl 2 (by decide) (hts _ (ow_m (k := 0) rfl)) (fun _ h9 => h9) rfl dX7_feed_78 ?_
  refine lv_iload hx hb dX7_feed_81 (lv_at hl 1 rfl) ?_
  refine lv_iadd hx hb dX7_feed_83 ?_
  refine tp_c (w := 18) (by decide) ?_
  refine lv_iload hx hb dX7_feed_84 (lv_at hl 0 rfl) ?_
  refine lv_bipush (v := 24) hx hb dX7_feed_86 (by decide) ?_
  refine lv_bipush (v := 8) hx hb dX7_feed_88 (by decide) ?_
  refine lv_iload hx hb dX7_feed_90 (lv_at hl 1 rfl) ?_
  refine lv_iconst (v := 3) hx hb dX7_feed_92 (by decide) ?_
  refine lv_iand hx hb dX7_feed_93 ?_
  refine tp_c (w := 2) (by decide) ?_
  refine lv_imul hx hb dX7_feed_94 ?_
  refine tp_c (w := 16) (by decide) ?_
  refine lv_isub hx hb dX7_feed_95 ?_
  refine tp_c (w := 8) (by decide) ?_
  refine lv_ishr hx hb dX7_feed_96 ?_
  refine lv_topi (fun z1804 ez1804 => ?_)
  refine lv_i2b hx hb dX7_feed_97 rfl ?_
  refine lv_topi (fun z1805 ez1805 => ?_)
  refine va_bast hx hb hK hP hD hS 1 0 rfl rfl (vp_i (a := 18) (by decide) (by decide) (by decide)) dX7_feed_98 (fun H locs hP hD hS => ?_)
  have hP : va_P (dC, dI) vwCl [(h1, .inr (7, [.ref (md 0), .ref (md 1), .int 0, .int 0, .int 0, .int (-1), .int 0, .int 0, .int 0, .int 0, .long 0, .ref (md 11), .ref (md 12), .ref (md 13), .ref (md 14), .ref (md 15), .ref (md 16), .ref (md 17), .ref (md 18), .ref (md 19), .ref (md 20), .ref (md 21), .ref (md 22), .ref (md 23), .ref (md 24), .ref (md 25), .ref (md 26), .ref (md 27), .ref (md 28), .int 0, .int 0, .int 0, .int 0, .int 0, .int 0, .int 0, .int 0, .int 0, .int 0, .int 0, .ref (md 40), .ref (md 41), .int 0, .int 0, .ref (md 44), .int 0, .int 0, .ref (md 47), .ref (md 48), .int 0, .ref (md 50), .ref (md 51), .ref (md 52), .ref (md 53), .ref (md 54), .int 0, .int 0, .ref (md 57), .ref (md 58)])), (md 0, .inl (cyB, 1620, .inl (upd f1798 18 (vp_nar .byte z1805))))] H := hP
  have hD : va_D A [(h1, .inr (7, [.ref (md 0), .ref (md 1), .int 0, .int 0, .int 0, .int (-1), .int 0, .int 0, .int 0, .int 0, .long 0, .ref (md 11), .ref (md 12), .ref (md 13), .ref (md 14), .ref (md 15), .ref (md 16), .ref (md 17), .ref (md 18), .ref (md 19), .ref (md 20), .ref (md 21), .ref (md 22), .ref (md 23), .ref (md 24), .ref (md 25), .ref (md 26), .ref (md 27), .ref (md 28), .int 0, .int 0, .int 0, .int 0, .int 0, .int 0, .int 0, .int 0, .int 0, .int 0, .int 0, .ref (md 40), .ref (md 41), .int 0, .int 0, .ref (md 44), .int 0, .int 0, .ref (md 47), .ref (md 48), .int 0, .ref (md 50), .ref (md 51), .ref (md 52), .ref (md 53), .ref (md 54), .int 0, .int 0, .ref (md 57), .ref (md 58)])), (md 0, .inl (cyB, 1620, .inl (upd f1798 18 (vp_nar .byte z1805))))] := hD
  generalize upd f1798 18 (vp_nar .byte z1805) = f1806 at hP hD
  refine lv_iinc (v := 19) (lv' := [(6, .int 19), (7, .int x5), (0, .ref h1), (1, .int x1), (2, .int x2), (3, .int x3), (4, .int x4), (5, .int x5)]) hx hb dX7_feed_99 hl (k := 1) rfl (by decide) (by decide) rfl (fun ls hl => ?_)
  refine lv_goto (tgt := 18) hx hb dX7_feed_102 (by decide) ?_
  refine lv_iload hx hb dX7_feed_18 (lv_at hl 0 rfl) ?_
  refine lv_bipush (v := 20) hx hb dX7_feed_20 (by decide) ?_
  refine lv_icmp_ge (tgt := 105) hx hb dX7_feed_22 (by decide) (fun c1807 => absurd c1807 (by decide)) (fun _ => ?_)
  refine lv_iload hx hb dX7_feed_25 (lv_at hl 0 rfl) ?_
  refine lv_iconst (v := 4) hx hb dX7_feed_27 (by decide) ?_
  refine lv_icmp_ge (tgt := 35) hx hb dX7_feed_28 (by decide) (fun _ => ?_) (fun c1808 => absurd (by decide) c1808)
  refine lv_iload hx hb dX7_feed_35 (lv_at hl 0 rfl) ?_
  refine lv_bipush (v := 8) hx hb dX7_feed_37 (by decide) ?_
  refine lv_icmp_ge (tgt := 46) hx hb dX7_feed_39 (by decide) (fun _ => ?_) (fun c1809 => absurd (by decide) c1809)
  refine lv_iload hx hb dX7_feed_46 (lv_at hl 0 rfl) ?_
  refine lv_bipush (v := 12) hx hb dX7_feed_48 (by decide) ?_
  refine lv_icmp_ge (tgt := 57) hx hb dX7_feed_50 (by decide) (fun _ => ?_) (fun c1810 => absurd (by decide) c1810)
  refine lv_iload hx hb dX7_feed_57 (lv_at hl 0 rfl) ?_
  refine lv_bipush (v := 16) hx hb dX7_feed_59 (by decide) ?_
  refine lv_icmp_ge (tgt := 69) hx hb dX7_feed_61 (by decide) (fun _ => ?_) (fun c1811 => absurd (by decide) c1811)
  refine lv_iload hx hb dX7_feed_69 (lv_at hl 7 rfl) ?_
  refine lv_istore (lv' := [(7, .int x5), (6, .int 19), (0, .ref h1), (1, .int x1), (2, .int x2), (3, .int x3), (4, .int x4), (5, .int x5)]) hx hb dX7_feed_71 hl (by decide) rfl (fun ls hl => ?_)
  refine lv_aload_n hx hb dX7_feed_73 rfl (lv_at hl 2 rfl) ?_
  refine va_get (D := (dC, dI)) (ci := 7) (v := .ref (md 0)) (C := RX7) (T := TX7) (N := 59) hx hb hts hi7 hown hK hP 0 rfl rfl 0 (by decide) (hts _ (ow_m (k := 1) rfl)) (fun _ h9 => h9) rfl dX7_feed_74 ?_
  refine lv_aload_n hx hb dX7_feed_77 rfl (lv_at hl 2 rfl) ?_
  refine va_get (D := (dC, dI)) (ci := 7) (v := .int 0) (C := RX7) (T := TX7) (N := 59) hx hb hts hi7 hown hK hP 0 rfl rfl 2 (by decide) (hts _ (ow_m (k := 0) rfl)) (fun _ h9 => h9) rfl dX7_feed_78 ?_
  refine lv_iload hx hb dX7_feed_81 (lv_at hl 1 rfl) ?_
  refine lv_iadd hx hb dX7_feed_83 ?_
  refine tp_c (w := 19) (by decide) ?_
  refine lv_iload hx hb dX7_feed_84 (lv_at hl 0 rfl) ?_
  refine lv_bipush (v := 24) hx hb dX7_feed_86 (by decide) ?_
  refine lv_bipush (v := 8) hx hb dX7_feed_88 (by decide) ?_
  refine lv_iload hx hb dX7_feed_90 (lv_at hl 1 rfl) ?_
  refine lv_iconst (v := 3) hx hb dX7_feed_92 (by decide) ?_
  refine lv_iand hx hb dX7_feed_93 ?_
  refine tp_c (w := 3) (by decide) ?_
  refine lv_imul hx hb dX7_feed_94 ?_
  refine tp_c (w := 24) (by decide) ?_
  refine lv_isub hx hb dX7_feed_95 ?_
  refine tp_c (w := 0) (by decide) ?_
  refine lv_ishr hx hb dX7_feed_96 ?_
  refine lv_topi (fun z1812 ez1812 => ?_)
  refine lv_i2b hx hb dX7_feed_97 rfl ?_
  refine lv_topi (fun z1813 ez1813 => ?_)
  refine va_bast hx hb hK hP hD hS 1 0 rfl rfl (vp_i (a := 19) (by decide) (by decide) (by decide)) dX7_feed_98 (fun H locs hP hD hS => ?_)
  have hP : va_P (dC, dI) vwCl [(h1, .inr (7, [.ref (md 0), .ref (md 1), .int 0, .int 0, .int 0, .int (-1), .int 0, .int 0, .int 0, .int 0, .long 0, .ref (md 11), .ref (md 12), .ref (md 13), .ref (md 14), .ref (md 15), .ref (md 16), .ref (md 17), .ref (md 18), .ref (md 19), .ref (md 20), .ref (md 21), .ref (md 22), .ref (md 23), .ref (md 24), .ref (md 25), .ref (md 26), .ref (md 27), .ref (md 28), .int 0, .int 0, .int 0, .int 0, .int 0, .int 0, .int 0, .int 0, .int 0, .int 0, .int 0, .ref (md 40), .ref (md 41), .int 0, .int 0, .ref (md 44), .int 0, .int 0, .ref (md 47), .ref (md 48), .int 0, .ref (md 50), .ref (md 51), .ref (md 52), .ref (md 53), .ref (md 54), .int 0, .int 0, .ref (md 57), .ref (md 58)])), (md 0, .inl (cyB, 1620, .inl (upd f1806 19 (vp_nar .byte z1813))))] H := hP
  have hD : va_D A [(h1, .inr (7, [.ref (md 0), .ref (md 1), .int 0, .int 0, .int 0, .int (-1), .int 0, .int 0, .int 0, .int 0, .long 0, .ref (md 11), .ref (md 12), .ref (md 13), .ref (md 14), .ref (md 15), .ref (md 16), .ref (md 17), .ref (md 18), .ref (md 19), .ref (md 20), .ref (md 21), .ref (md 22), .ref (md 23), .ref (md 24), .ref (md 25), .ref (md 26), .ref (md 27), .ref (md 28), .int 0, .int 0, .int 0, .int 0, .int 0, .int 0, .int 0, .int 0, .int 0, .int 0, .int 0, .ref (md 40), .ref (md 41), .int 0, .int 0, .ref (md 44), .int 0, .int 0, .ref (md 47), .ref (md 48), .int 0, .ref (md 50), .ref (md 51), .ref (md 52), .ref (md 53), .ref (md 54), .int 0, .int 0, .ref (md 57), .ref (md 58)])), (md 0, .inl (cyB, 1620, .inl (upd f1806 19 (vp_nar .byte z1813))))] := hD
  generalize upd f1806 19 (vp_nar .byte z1813) = f1814 at hP hD
  refine lv_iinc (v := 20) (lv' := [(6, .int 20), (7, .int x5), (0, .ref h1), (1, .int x1), (2, .int x2), (3, .int x3), (4, .int x4), (5, .int x5)]) hx hb dX7_feed_99 hl (k := 1) rfl (by decide) (by decide) rfl (fun ls hl => ?_)
  refine lv_goto (tgt := 18) hx hb dX7_feed_102 (by decide) ?_
  refine lv_iload hx hb dX7_feed_18 (lv_at hl 0 rfl) ?_
  refine lv_bipush (v := 20) hx hb dX7_feed_20 (by decide) ?_
  refine lv_icmp_ge (tgt := 105) hx hb dX7_feed_22 (by decide) (fun _ => ?_) (fun c1815 => absurd (by decide) c1815)
  refine lv_aload_n hx hb dX7_feed_105 rfl (lv_at hl 2 rfl) ?_
  refine lv_dup hx hb dX7_feed_106 rfl ?_
  refine va_get (D := (dC, dI)) (ci := 7) (v := .int 0) (C := RX7) (T := TX7) (N := 59) hx hb hts hi7 hown hK hP 0 rfl rfl 2 (by decide) (hts _ (ow_m (k := 0) rfl)) (fun _ h9 => h9) rfl dX7_feed_107 ?_
  refine lv_bipush (v := 20) hx hb dX7_feed_110 (by decide) ?_
  refine lv_iadd hx hb dX7_feed_112 ?_
  refine tp_c (w := 20) (by decide) ?_
  refine va_put (D := (dC, dI)) (ci := 7) (v := .int 20) (ty := .int) (C := RX7) (T := TX7) (N := 59) hx hb hts hi7 tyX7 tyX7_ok nmX7 hown hK hP hD hS 0 rfl rfl 2 (by decide) (hts _ (ow_m (k := 0) rfl)) (fun _ h9 => h9) rfl (by decide +kernel) rfl rfl (Nat.le_of_ble_eq_true rfl) dX7_feed_113 (fun H locs hP hD hS => ?_)
  have hP : va_P (dC, dI) vwCl [(h1, .inr (7, [.ref (md 0), .ref (md 1), .int 20, .int 0, .int 0, .int (-1), .int 0, .int 0, .int 0, .int 0, .long 0, .ref (md 11), .ref (md 12), .ref (md 13), .ref (md 14), .ref (md 15), .ref (md 16), .ref (md 17), .ref (md 18), .ref (md 19), .ref (md 20), .ref (md 21), .ref (md 22), .ref (md 23), .ref (md 24), .ref (md 25), .ref (md 26), .ref (md 27), .ref (md 28), .int 0, .int 0, .int 0, .int 0, .int 0, .int 0, .int 0, .int 0, .int 0, .int 0, .int 0, .ref (md 40), .ref (md 41), .int 0, .int 0, .ref (md 44), .int 0, .int 0, .ref (md 47), .ref (md 48), .int 0, .ref (md 50), .ref (md 51), .ref (md 52), .ref (md 53), .ref (md 54), .int 0, .int 0, .ref (md 57), .ref (md 58)])), (md 0, .inl (cyB, 1620, .inl f1814))] H := hP
  have hD : va_D A [(h1, .inr (7, [.ref (md 0), .ref (md 1), .int 20, .int 0, .int 0, .int (-1), .int 0, .int 0, .int 0, .int 0, .long 0, .ref (md 11), .ref (md 12), .ref (md 13), .ref (md 14), .ref (md 15), .ref (md 16), .ref (md 17), .ref (md 18), .ref (md 19), .ref (md 20), .ref (md 21), .ref (md 22), .ref (md 23), .ref (md 24), .ref (md 25), .ref (md 26), .ref (md 27), .ref (md 28), .int 0, .int 0, .int 0, .int 0, .int 0, .int 0, .int 0, .int 0, .int 0, .int 0, .int 0, .ref (md 40), .ref (md 41), .int 0, .int 0, .ref (md 44), .int 0, .int 0, .ref (md 47), .ref (md 48), .int 0, .ref (md 50), .ref (md 51), .ref (md 52), .ref (md 53), .ref (md 54), .int 0, .int 0, .ref (md 57), .ref (md 58)])), (md 0, .inl (cyB, 1620, .inl f1814))] := hD
  refine lv_aload_n hx hb dX7_feed_116 rfl (lv_at hl 2 rfl) ?_
  refine va_get (D := (dC, dI)) (ci := 7) (v := .int 20) (C := RX7) (T := TX7) (N := 59) hx hb hts hi7 hown hK hP 0 rfl rfl 2 (by decide) (hts _ (ow_m (k := 0) rfl)) (fun _ h9 => h9) rfl dX7_feed_117 ?_
  exact W.iret (v := 20) hx hb hr (fun t ht hW => ⟨⟨20, (), rfl, rfl, cE.nil⟩, hS.F ht⟩) hS.2.2 dX7_feed_120
def wo_c_M_end : List Cond := [.fieldLink RX7 211 "ReplicaChainModel" "taped" "I"]
def wq_c_M_end : List Cond := .code yX7_end cX7_end 2 (some .int) :: (wo_c_M_end ++ (wsX70 ++ []))
theorem gd_c_M_end : Gd wq_c_M_end := gd_c (gd_a (gd_o (by decide +kernel)) (gd_a gd_u gd_0))
abbrev wc_c_M_end (cyB cyI cyJ cyZ cyO : ClassId) (h1 : Nat) (md : Nat → Nat) (x1 : Int32) : va_W := [(h1, .inr (7, [.ref (md 0), .ref (md 1), .int 0, .int 0, .int 0, .int (-1), .int 0, .int 0, .int 0, .int 0, .long 0, .ref (md 11), .ref (md 12), .ref (md 13), .ref (md 14), .ref (md 15), .ref (md 16), .ref (md 17), .ref (md 18), .ref (md 19), .ref (md 20), .ref (md 21), .ref (md 22), .ref (md 23), .ref (md 24), .ref (md 25), .ref (md 26), .ref (md 27), .ref (md 28), .int 0, .int 0, .int 0, .int 0, .int 0, .int 0, .int 0, .int 0, .int 0, .int 0, .int 0, .ref (md 40), .ref (md 41), .int 0, .int 0, .ref (md 44), .int 0, .int 0, .ref (md 47), .ref (md 48), .int 0, .ref (md 50), .ref (md 51), .ref (md 52), .ref (md 53), .ref (md 54), .int 0, .int 0, .ref (md 57), .ref (md 58)]))]
set_option maxHeartbeats 4000000 in
set_option maxRecDepth 100000 in
theorem c_M_end (l : Launch) (dC : Nat → ClassId) (dI : Nat → Nat → Nat) (cyB cyI cyJ cyZ cyO : ClassId) (h1 : Nat) (md : Nat → Nat) (x1 : Int32) (sz : Nat) : Met l yX7_end wq_c_M_end ({ frames := 0, cells := 0, slots := 0, locals := 0 }) (va_Pc [.ref h1, .int x1] (cB (dC, dI) (kT cyB cyI cyJ cyZ cyO) (wc_c_M_end cyB cyI cyJ cyZ cyO h1 md x1) sz)) (va_Qi (fun (r : Int32) (_ : Unit) => r = sp_end x1) (fun (u : Unit) t => cE (dC, dI) (va_A (wc_c_M_end cyB cyI cyJ cyZ cyO h1 md x1) sz) ([]) t.heap) (va_A (wc_c_M_end cyB cyI cyJ cyZ cyO h1 md x1) sz)) 0 0 (va_A (wc_c_M_end cyB cyI cyJ cyZ cyO h1 md x1) sz) := by
  refine Met.ofW (cc := cX7_end) (maxL := 2) (ret := (some .int)) (by decide) rfl ?_
  intro p e s m args below meth c s₁ B hml hv
  obtain ⟨rfl, hsz, hP, hKN, hD0⟩ := hv
  have hx := B.exec
  have hb := B.bytes
  have hr := B.returns
  have hts := atoms_spec (ws := wq_c_M_end) B.pre
  have hown : s.vm.findClass RX7 = some m.cls := findClass_of_methodNamed B.named
  have hlocks := B.notSynchronized
  have hK := hKN.1
  have hfix : CallFix p m c cX7_end 2 s [.ref h1, .int x1].toArray wq_c_M_end RX7 := ⟨hx, hb, hml, hown, hts⟩
  have hi7 : ∀ w ∈ wsX70, w ∈ wq_c_M_end := (sb_c sb_l)
  subst hsz
  have hD := hD0.self (sz := s.heap.size)
  generalize hAe : va_A (wc_c_M_end cyB cyI cyJ cyZ cyO h1 md x1) s.heap.size = A at hD ⊢
  have hA : ∀ q : Nat, s.heap.size ≤ q → A q := fun q h => by rw [← hAe]; exact Or.inr h
  have hS : va_S A s.heap s.heap [] := va_S.rf
  have hl := lv_entry ([.ref h1, .int x1]) (n := 2) (Nat.le_of_ble_eq_true rfl)
  rw [lg_entry_eq]
  generalize (lg_sl ([.ref h1, .int x1]) ++ List.replicate (2 - (lg_sl ([.ref h1, .int x1])).length) Slot.unset).toArray = ls at hl ⊢
  have hl : lv_has ls 2 [(0, .ref h1), (1, .int x1)] := hl
  refine lv_iload_n hx hb dX7_end_0 rfl (lv_at hl 1 rfl) ?_
  refine lv_if_lt (tgt := 12) hx hb dX7_end_1 (by decide) (fun c1818 => ?_) (fun c1818 => ?_)
  · have c1818 := i_lt (a := x1.toInt) (b := 0) c1818 rfl (by decide)
    refine lv_iconst (v := (-1)) hx hb dX7_end_12 (by decide) ?_
    exact W.iret (v := (-1)) hx hb hr (fun t ht hW => ⟨⟨(-1), (), rfl, (by first | decide | (unfold sp_end; (repeat' split) <;> first | rfl | omega)), cE.nil⟩, hS.F ht⟩) hS.2.2 dX7_end_13
  · have c1818 := i_nlt (a := x1.toInt) (b := 0) c1818 rfl (by decide)
    refine lv_iload_n hx hb dX7_end_4 rfl (lv_at hl 1 rfl) ?_
    refine lv_aload_n hx hb dX7_end_5 rfl (lv_at hl 0 rfl) ?_
    refine va_get (D := (dC, dI)) (ci := 7) (v := .int 0) (C := RX7) (T := TX7) (N := 59) hx hb hts hi7 hown hK hP 0 rfl rfl 2 (by decide) (hts _ (ow_m (k := 0) rfl)) (fun _ h9 => h9) rfl dX7_end_6 ?_
    refine lv_icmp_le (tgt := 14) hx hb dX7_end_9 (by decide) (fun c1819 => ?_) (fun c1819 => ?_)
    · have c1819 := i_le (a := x1.toInt) (b := 0) c1819 rfl (by decide)
      refine lv_aload_n hx hb dX7_end_14 rfl (lv_at hl 0 rfl) ?_
      refine lv_iload_n hx hb dX7_end_15 rfl (lv_at hl 1 rfl) ?_
      refine va_put (D := (dC, dI)) (ci := 7) (v := .int x1) (ty := .int) (C := RX7) (T := TX7) (N := 59) hx hb hts hi7 tyX7 tyX7_ok nmX7 hown hK hP hD hS 0 rfl rfl 2 (by decide) (hts _ (ow_m (k := 0) rfl)) (fun _ h9 => h9) rfl (by decide +kernel) rfl rfl (Nat.le_of_ble_eq_true rfl) dX7_end_16 (fun H locs hP hD hS => ?_)
      have hP : va_P (dC, dI) vwCl [(h1, .inr (7, [.ref (md 0), .ref (md 1), .int x1, .int 0, .int 0, .int (-1), .int 0, .int 0, .int 0, .int 0, .long 0, .ref (md 11), .ref (md 12), .ref (md 13), .ref (md 14), .ref (md 15), .ref (md 16), .ref (md 17), .ref (md 18), .ref (md 19), .ref (md 20), .ref (md 21), .ref (md 22), .ref (md 23), .ref (md 24), .ref (md 25), .ref (md 26), .ref (md 27), .ref (md 28), .int 0, .int 0, .int 0, .int 0, .int 0, .int 0, .int 0, .int 0, .int 0, .int 0, .int 0, .ref (md 40), .ref (md 41), .int 0, .int 0, .ref (md 44), .int 0, .int 0, .ref (md 47), .ref (md 48), .int 0, .ref (md 50), .ref (md 51), .ref (md 52), .ref (md 53), .ref (md 54), .int 0, .int 0, .ref (md 57), .ref (md 58)]))] H := hP
      have hD : va_D A [(h1, .inr (7, [.ref (md 0), .ref (md 1), .int x1, .int 0, .int 0, .int (-1), .int 0, .int 0, .int 0, .int 0, .long 0, .ref (md 11), .ref (md 12), .ref (md 13), .ref (md 14), .ref (md 15), .ref (md 16), .ref (md 17), .ref (md 18), .ref (md 19), .ref (md 20), .ref (md 21), .ref (md 22), .ref (md 23), .ref (md 24), .ref (md 25), .ref (md 26), .ref (md 27), .ref (md 28), .int 0, .int 0, .int 0, .int 0, .int 0, .int 0, .int 0, .int 0, .int 0, .int 0, .int 0, .ref (md 40), .ref (md 41), .int 0, .int 0, .ref (md 44), .int 0, .int 0, .ref (md 47), .ref (md 48), .int 0, .ref (md 50), .ref (md 51), .ref (md 52), .ref (md 53), .ref (md 54), .int 0, .int 0, .ref (md 57), .ref (md 58)]))] := hD
      refine lv_iload_n hx hb dX7_end_19 rfl (lv_at hl 1 rfl) ?_
      exact W.iret (v := x1) hx hb hr (fun t ht hW => ⟨⟨x1, (), rfl, (by first | decide | (unfold sp_end; (repeat' split) <;> first | rfl | omega)), cE.nil⟩, hS.F ht⟩) hS.2.2 dX7_end_20
    · have c1819 := i_nle (a := x1.toInt) (b := 0) c1819 rfl (by decide)
      refine lv_iconst (v := (-1)) hx hb dX7_end_12 (by decide) ?_
      exact W.iret (v := (-1)) hx hb hr (fun t ht hW => ⟨⟨(-1), (), rfl, (by first | decide | (unfold sp_end; (repeat' split) <;> first | rfl | omega)), cE.nil⟩, hS.F ht⟩) hS.2.2 dX7_end_13
def wo_k_X7_clearBank : List Cond := [.fieldLink RX7 20 "ReplicaChainModel" "nodes" "[I", .fieldLink RX7 205 "ReplicaChainModel" "rb" "I", .fieldLink RX7 24 "ReplicaChainModel" "members" "[I", .fieldLink RX7 27 "ReplicaChainModel" "keys" "[I", .fieldLink RX7 30 "ReplicaChainModel" "units" "[I", .fieldLink RX7 33 "ReplicaChainModel" "copy" "[I", .fieldLink RX7 36 "ReplicaChainModel" "loss" "[I", .fieldLink RX7 39 "ReplicaChainModel" "draw" "[I", .fieldLink RX7 42 "ReplicaChainModel" "told" "[I", .fieldLink RX7 208 "ReplicaChainModel" "codes" "I"]
def wq_k_X7_clearBank : List Cond := .code yX7_clearBank cX7_clearBank 1 none :: (wo_k_X7_clearBank ++ (wsX70 ++ []))
theorem gd_k_X7_clearBank : Gd wq_k_X7_clearBank := gd_c (gd_a (gd_o (by decide +kernel)) (gd_a gd_u gd_0))
abbrev wc_k_X7_clearBank (cyB cyI cyJ cyZ cyO : ClassId) (h1 : Nat) (md : Nat → Nat) : va_W := [(h1, .inr (7, [.ref (md 0), .ref (md 1), .int 0, .int 0, .int 0, .int (-1), .int 0, .int 0, .int 0, .int 0, .long 0, .ref (md 11), .ref (md 12), .ref (md 13), .ref (md 14), .ref (md 15), .ref (md 16), .ref (md 17), .ref (md 18), .ref (md 19), .ref (md 20), .ref (md 21), .ref (md 22), .ref (md 23), .ref (md 24), .ref (md 25), .ref (md 26), .ref (md 27), .ref (md 28), .int 0, .int 1, .int 0, .int 0, .int 0, .int 0, .int 0, .int 0, .int 0, .int 0, .int 0, .ref (md 40), .ref (md 41), .int 0, .int 0, .ref (md 44), .int 0, .int 0, .ref (md 47), .ref (md 48), .int 0, .ref (md 50), .ref (md 51), .ref (md 52), .ref (md 53), .ref (md 54), .int 0, .int 0, .ref (md 57), .ref (md 58)])), (md 11, .inl (cyI, 2, .inl (fun _ => 0))), (md 12, .inl (cyI, 2, .inl (fun _ => 0))), (md 13, .inl (cyI, 2, .inl (fun _ => 0))), (md 14, .inl (cyI, 2, .inl (fun _ => 0))), (md 15, .inl (cyI, 2, .inl (upd (fun _ => 0) 0 2))), (md 16, .inl (cyI, 2, .inl (fun _ => 0))), (md 17, .inl (cyI, 2, .inl (fun _ => 0))), (md 18, .inl (cyI, 2, .inl (fun _ => 0)))]
set_option maxHeartbeats 4000000 in
set_option maxRecDepth 100000 in
theorem k_X7_clearBank (l : Launch) (dC : Nat → ClassId) (dI : Nat → Nat → Nat) (cyB cyI cyJ cyZ cyO : ClassId) (h1 : Nat) (md : Nat → Nat) (sz : Nat) : Met l yX7_clearBank wq_k_X7_clearBank ({ frames := 0, cells := 0, slots := 0, locals := 0 }) (va_Pc [.ref h1] (cB (dC, dI) (kT cyB cyI cyJ cyZ cyO) (wc_k_X7_clearBank cyB cyI cyJ cyZ cyO h1 md) sz)) (va_Qv (fun _ => True) (fun (u : Unit) t => cE (dC, dI) (va_A (wc_k_X7_clearBank cyB cyI cyJ cyZ cyO h1 md) sz) ([(h1, .inr (7, [.ref (md 0), .ref (md 1), .int 0, .int 0, .int 0, .int (-1), .int 0, .int 0, .int 0, .int 0, .long 0, .ref (md 11), .ref (md 12), .ref (md 13), .ref (md 14), .ref (md 15), .ref (md 16), .ref (md 17), .ref (md 18), .ref (md 19), .ref (md 20), .ref (md 21), .ref (md 22), .ref (md 23), .ref (md 24), .ref (md 25), .ref (md 26), .ref (md 27), .ref (md 28), .int 0, .int 1, .int 560, .int 0, .int 0, .int 0, .int 0, .int 0, .int 0, .int 0, .int 0, .ref (md 40), .ref (md 41), .int 0, .int 0, .ref (md 44), .int 0, .int 0, .ref (md 47), .ref (md 48), .int 0, .ref (md 50), .ref (md 51), .ref (md 52), .ref (md 53), .ref (md 54), .int 0, .int 0, .ref (md 57), .ref (md 58)])), (md 11, .inl (cyI, 2, .inl (fun _ => 0))), (md 12, .inl (cyI, 2, .inl (fun _ => 0))), (md 13, .inl (cyI, 2, .inl (fun _ => 0))), (md 14, .inl (cyI, 2, .inl (fun _ => 0))), (md 15, .inl (cyI, 2, .inl (upd (upd (fun _ => 0) 0 2) 1 2))), (md 16, .inl (cyI, 2, .inl (fun _ => 0))), (md 17, .inl (cyI, 2, .inl (fun _ => 0))), (md 18, .inl (cyI, 2, .inl (fun _ => 0)))]) t.heap) (va_A (wc_k_X7_clearBank cyB cyI cyJ cyZ cyO h1 md) sz)) 0 0 (va_A (wc_k_X7_clearBank cyB cyI cyJ cyZ cyO h1 md) sz) := by
  refine Met.ofW (cc := cX7_clearBank) (maxL := 1) (ret := none) (by decide) rfl ?_
  intro p e s m args below meth c s₁ B hml hv
  obtain ⟨rfl, hsz, hP, hKN, hD0⟩ := hv
  have hx := B.exec
  have hb := B.bytes
  have hr := B.returns
  have hts := atoms_spec (ws := wq_k_X7_clearBank) B.pre
  have hown : s.vm.findClass RX7 = some m.cls := findClass_of_methodNamed B.named
  have hlocks := B.notSynchronized
  have hK := hKN.1
  have hfix : CallFix p m c cX7_clearBank 1 s [.ref h1].toArray wq_k_X7_clearBank RX7 := ⟨hx, hb, hml, hown, hts⟩
  have hi7 : ∀ w ∈ wsX70, w ∈ wq_k_X7_clearBank := (sb_c sb_l)
  subst hsz
  have hD := hD0.self (sz := s.heap.size)
  generalize hAe : va_A (wc_k_X7_clearBank cyB cyI cyJ cyZ cyO h1 md) s.heap.size = A at hD ⊢
  have hA : ∀ q : Nat, s.heap.size ≤ q → A q := fun q h => by rw [← hAe]; exact Or.inr h
  have hS : va_S A s.heap s.heap [] := va_S.rf
  have hl := lv_entry ([.ref h1]) (n := 1) (Nat.le_of_ble_eq_true rfl)
  rw [lg_entry_eq]
  generalize (lg_sl ([.ref h1]) ++ List.replicate (1 - (lg_sl ([.ref h1])).length) Slot.unset).toArray = ls at hl ⊢
  have hl : lv_has ls 1 [(0, .ref h1)] := hl
  refine lv_aload_n hx hb dX7_clearBank_0 rfl (lv_at hl 0 rfl) ?_
  refine va_get (D := (dC, dI)) (ci := 7) (v := .ref (md 11)) (C := RX7) (T := TX7) (N := 59) hx hb hts hi7 hown hK hP 0 rfl rfl 11 (by decide) (hts _ (ow_m (k := 0) rfl)) (fun _ h9 => h9) rfl dX7_clearBank_1 ?_
  refine lv_aload_n hx hb dX7_clearBank_4 rfl (lv_at hl 0 rfl) ?_
  refine va_get (D := (dC, dI)) (ci := 7) (v := .int 1) (C := RX7) (T := TX7) (N := 59) hx hb hts hi7 hown hK hP 0 rfl rfl 30 (by decide) (hts _ (ow_m (k := 1) rfl)) (fun _ h9 => h9) rfl dX7_clearBank_5 ?_
  refine lv_iconst (v := 0) hx hb dX7_clearBank_8 (by decide) ?_
  refine va_iast hx hb hK hP hD hS 1 1 rfl rfl (vp_i (a := 1) (by decide) (by decide) (by decide)) dX7_clearBank_9 (fun H locs hP hD hS => ?_)
  have hP : va_P (dC, dI) vwCl [(h1, .inr (7, [.ref (md 0), .ref (md 1), .int 0, .int 0, .int 0, .int (-1), .int 0, .int 0, .int 0, .int 0, .long 0, .ref (md 11), .ref (md 12), .ref (md 13), .ref (md 14), .ref (md 15), .ref (md 16), .ref (md 17), .ref (md 18), .ref (md 19), .ref (md 20), .ref (md 21), .ref (md 22), .ref (md 23), .ref (md 24), .ref (md 25), .ref (md 26), .ref (md 27), .ref (md 28), .int 0, .int 1, .int 0, .int 0, .int 0, .int 0, .int 0, .int 0, .int 0, .int 0, .int 0, .ref (md 40), .ref (md 41), .int 0, .int 0, .ref (md 44), .int 0, .int 0, .ref (md 47), .ref (md 48), .int 0, .ref (md 50), .ref (md 51), .ref (md 52), .ref (md 53), .ref (md 54), .int 0, .int 0, .ref (md 57), .ref (md 58)])), (md 11, .inl (cyI, 2, .inl (upd (fun _ => 0) 1 0))), (md 12, .inl (cyI, 2, .inl (fun _ => 0))), (md 13, .inl (cyI, 2, .inl (fun _ => 0))), (md 14, .inl (cyI, 2, .inl (fun _ => 0))), (md 15, .inl (cyI, 2, .inl (upd (fun _ => 0) 0 2))), (md 16, .inl (cyI, 2, .inl (fun _ => 0))), (md 17, .inl (cyI, 2, .inl (fun _ => 0))), (md 18, .inl (cyI, 2, .inl (fun _ => 0)))] H := hP
  have hD : va_D A [(h1, .inr (7, [.ref (md 0), .ref (md 1), .int 0, .int 0, .int 0, .int (-1), .int 0, .int 0, .int 0, .int 0, .long 0, .ref (md 11), .ref (md 12), .ref (md 13), .ref (md 14), .ref (md 15), .ref (md 16), .ref (md 17), .ref (md 18), .ref (md 19), .ref (md 20), .ref (md 21), .ref (md 22), .ref (md 23), .ref (md 24), .ref (md 25), .ref (md 26), .ref (md 27), .ref (md 28), .int 0, .int 1, .int 0, .int 0, .int 0, .int 0, .int 0, .int 0, .int 0, .int 0, .int 0, .ref (md 40), .ref (md 41), .int 0, .int 0, .ref (md 44), .int 0, .int 0, .ref (md 47), .ref (md 48), .int 0, .ref (md 50), .ref (md 51), .ref (md 52), .ref (md 53), .ref (md 54), .int 0, .int 0, .ref (md 57), .ref (md 58)])), (md 11, .inl (cyI, 2, .inl (upd (fun _ => 0) 1 0))), (md 12, .inl (cyI, 2, .inl (fun _ => 0))), (md 13, .inl (cyI, 2, .inl (fun _ => 0))), (md 14, .inl (cyI, 2, .inl (fun _ => 0))), (md 15, .inl (cyI, 2, .inl (upd (fun _ => 0) 0 2))), (md 16, .inl (cyI, 2, .inl (fun _ => 0))), (md 17, .inl (cyI, 2, .inl (fun _ => 0))), (md 18, .inl (cyI, 2, .inl (fun _ => 0)))] := hD
  rw [upd_z] at hP hD
  refine lv_aload_n hx hb dX7_clearBank_10 rfl (lv_at hl 0 rfl) ?_
  refine va_get (D := (dC, dI)) (ci := 7) (v := .ref (md 12)) (C := RX7) (T := TX7) (N := 59) hx hb hts hi7 hown hK hP 0 rfl rfl 12 (by decide) (hts _ (ow_m (k := 2) rfl)) (fun _ h9 => h9) rfl dX7_clearBank_11 ?_
  refine lv_aload_n hx hb dX7_clearBank_14 rfl (lv_at hl 0 rfl) ?_
  refine va_get (D := (dC, dI)) (ci := 7) (v := .int 1) (C := RX7) (T := TX7) (N := 59) hx hb hts hi7 hown hK hP 0 rfl rfl 30 (by decide) (hts _ (ow_m (k := 1) rfl)) (fun _ h9 => h9) rfl dX7_clearBank_15 ?_
  refine lv_iconst (v := 0) hx hb dX7_clearBank_18 (by decide) ?_
  refine va_iast hx hb hK hP hD hS 2 1 rfl rfl (vp_i (a := 1) (by decide) (by decide) (by decide)) dX7_clearBank_19 (fun H locs hP hD hS => ?_)
  have hP : va_P (dC, dI) vwCl [(h1, .inr (7, [.ref (md 0), .ref (md 1), .int 0, .int 0, .int 0, .int (-1), .int 0, .int 0, .int 0, .int 0, .long 0, .ref (md 11), .ref (md 12), .ref (md 13), .ref (md 14), .ref (md 15), .ref (md 16), .ref (md 17), .ref (md 18), .ref (md 19), .ref (md 20), .ref (md 21), .ref (md 22), .ref (md 23), .ref (md 24), .ref (md 25), .ref (md 26), .ref (md 27), .ref (md 28), .int 0, .int 1, .int 0, .int 0, .int 0, .int 0, .int 0, .int 0, .int 0, .int 0, .int 0, .ref (md 40), .ref (md 41), .int 0, .int 0, .ref (md 44), .int 0, .int 0, .ref (md 47), .ref (md 48), .int 0, .ref (md 50), .ref (md 51), .ref (md 52), .ref (md 53), .ref (md 54), .int 0, .int 0, .ref (md 57), .ref (md 58)])), (md 11, .inl (cyI, 2, .inl (fun _ => 0))), (md 12, .inl (cyI, 2, .inl (upd (fun _ => 0) 1 0))), (md 13, .inl (cyI, 2, .inl (fun _ => 0))), (md 14, .inl (cyI, 2, .inl (fun _ => 0))), (md 15, .inl (cyI, 2, .inl (upd (fun _ => 0) 0 2))), (md 16, .inl (cyI, 2, .inl (fun _ => 0))), (md 17, .inl (cyI, 2, .inl (fun _ => 0))), (md 18, .inl (cyI, 2, .inl (fun _ => 0)))] H := hP
  have hD : va_D A [(h1, .inr (7, [.ref (md 0), .ref (md 1), .int 0, .int 0, .int 0, .int (-1), .int 0, .int 0, .int 0, .int 0, .long 0, .ref (md 11), .ref (md 12), .ref (md 13), .ref (md 14), .ref (md 15), .ref (md 16), .ref (md 17), .ref (md 18), .ref (md 19), .ref (md 20), .ref (md 21), .ref (md 22), .ref (md 23), .ref (md 24), .ref (md 25), .ref (md 26), .ref (md 27), .ref (md 28), .int 0, .int 1, .int 0, .int 0, .int 0, .int 0, .int 0, .int 0, .int 0, .int 0, .int 0, .ref (md 40), .ref (md 41), .int 0, .int 0, .ref (md 44), .int 0, .int 0, .ref (md 47), .ref (md 48), .int 0, .ref (md 50), .ref (md 51), .ref (md 52), .ref (md 53), .ref (md 54), .int 0, .int 0, .ref (md 57), .ref (md 58)])), (md 11, .inl (cyI, 2, .inl (fun _ => 0))), (md 12, .inl (cyI, 2, .inl (upd (fun _ => 0) 1 0))), (md 13, .inl (cyI, 2, .inl (fun _ => 0))), (md 14, .inl (cyI, 2, .inl (fun _ => 0))), (md 15, .inl (cyI, 2, .inl (upd (fun _ => 0) 0 2))), (md 16, .inl (cyI, 2, .inl (fun _ => 0))), (md 17, .inl (cyI, 2, .inl (fun _ => 0))), (md 18, .inl (cyI, 2, .inl (fun _ => 0)))] := hD
  rw [upd_z] at hP hD
  refine lv_aload_n hx hb dX7_clearBank_20 rfl (lv_at hl 0 rfl) ?_
  refine va_get (D := (dC, dI)) (ci := 7) (v := .ref (md 13)) (C := RX7) (T := TX7) (N := 59) hx hb hts hi7 hown hK hP 0 rfl rfl 13 (by decide) (hts _ (ow_m (k := 3) rfl)) (fun _ h9 => h9) rfl dX7_clearBank_21 ?_
  refine lv_aload_n hx hb dX7_clearBank_24 rfl (lv_at hl 0 rfl) ?_
  refine va_get (D := (dC, dI)) (ci := 7) (v := .int 1) (C := RX7) (T := TX7) (N := 59) hx hb hts hi7 hown hK hP 0 rfl rfl 30 (by decide) (hts _ (ow_m (k := 1) rfl)) (fun _ h9 => h9) rfl dX7_clearBank_25 ?_
  refine lv_iconst (v := 0) hx hb dX7_clearBank_28 (by decide) ?_
  refine va_iast hx hb hK hP hD hS 3 1 rfl rfl (vp_i (a := 1) (by decide) (by decide) (by decide)) dX7_clearBank_29 (fun H locs hP hD hS => ?_)
  have hP : va_P (dC, dI) vwCl [(h1, .inr (7, [.ref (md 0), .ref (md 1), .int 0, .int 0, .int 0, .int (-1), .int 0, .int 0, .int 0, .int 0, .long 0, .ref (md 11), .ref (md 12), .ref (md 13), .ref (md 14), .ref (md 15), .ref (md 16), .ref (md 17), .ref (md 18), .ref (md 19), .ref (md 20), .ref (md 21), .ref (md 22), .ref (md 23), .ref (md 24), .ref (md 25), .ref (md 26), .ref (md 27), .ref (md 28), .int 0, .int 1, .int 0, .int 0, .int 0, .int 0, .int 0, .int 0, .int 0, .int 0, .int 0, .ref (md 40), .ref (md 41), .int 0, .int 0, .ref (md 44), .int 0, .int 0, .ref (md 47), .ref (md 48), .int 0, .ref (md 50), .ref (md 51), .ref (md 52), .ref (md 53), .ref (md 54), .int 0, .int 0, .ref (md 57), .ref (md 58)])), (md 11, .inl (cyI, 2, .inl (fun _ => 0))), (md 12, .inl (cyI, 2, .inl (fun _ => 0))), (md 13, .inl (cyI, 2, .inl (upd (fun _ => 0) 1 0))), (md 14, .inl (cyI, 2, .inl (fun _ => 0))), (md 15, .inl (cyI, 2, .inl (upd (fun _ => 0) 0 2))), (md 16, .inl (cyI, 2, .inl (fun _ => 0))), (md 17, .inl (cyI, 2, .inl (fun _ => 0))), (md 18, .inl (cyI, 2, .inl (fun _ => 0)))] H := hP
  have hD : va_D A [(h1, .inr (7, [.ref (md 0), .ref (md 1), .int 0, .int 0, .int 0, .int (-1), .int 0, .int 0, .int 0, .int 0, .long 0, .ref (md 11), .ref (md 12), .ref (md 13), .ref (md 14), .ref (md 15), .ref (md 16), .ref (md 17), .ref (md 18), .ref (md 19), .ref (md 20), .ref (md 21), .ref (md 22), .ref (md 23), .ref (md 24), .ref (md 25), .ref (md 26), .ref (md 27), .ref (md 28), .int 0, .int 1, .int 0, .int 0, .int 0, .int 0, .int 0, .int 0, .int 0, .int 0, .int 0, .ref (md 40), .ref (md 41), .int 0, .int 0, .ref (md 44), .int 0, .int 0, .ref (md 47), .ref (md 48), .int 0, .ref (md 50), .ref (md 51), .ref (md 52), .ref (md 53), .ref (md 54), .int 0, .int 0, .ref (md 57), .ref (md 58)])), (md 11, .inl (cyI, 2, .inl (fun _ => 0))), (md 12, .inl (cyI, 2, .inl (fun _ => 0))), (md 13, .inl (cyI, 2, .inl (upd (fun _ => 0) 1 0))), (md 14, .inl (cyI, 2, .inl (fun _ => 0))), (md 15, .inl (cyI, 2, .inl (upd (fun _ => 0) 0 2))), (md 16, .inl (cyI, 2, .inl (fun _ => 0))), (md 17, .inl (cyI, 2, .inl (fun _ => 0))), (md 18, .inl (cyI, 2, .inl (fun _ => 0)))] := hD
  rw [upd_z] at hP hD
  refine lv_aload_n hx hb dX7_clearBank_30 rfl (lv_at hl 0 rfl) ?_
  refine va_get (D := (dC, dI)) (ci := 7) (v := .ref (md 14)) (C := RX7) (T := TX7) (N := 59) hx hb hts hi7 hown hK hP 0 rfl rfl 14 (by decide) (hts _ (ow_m (k := 4) rfl)) (fun _ h9 => h9) rfl dX7_clearBank_31 ?_
  refine lv_aload_n hx hb dX7_clearBank_34 rfl (lv_at hl 0 rfl) ?_
  refine va_get (D := (dC, dI)) (ci := 7) (v := .int 1) (C := RX7) (T := TX7) (N := 59) hx hb hts hi7 hown hK hP 0 rfl rfl 30 (by decide) (hts _ (ow_m (k := 1) rfl)) (fun _ h9 => h9) rfl dX7_clearBank_35 ?_
  refine lv_iconst (v := 0) hx hb dX7_clearBank_38 (by decide) ?_
  refine va_iast hx hb hK hP hD hS 4 1 rfl rfl (vp_i (a := 1) (by decide) (by decide) (by decide)) dX7_clearBank_39 (fun H locs hP hD hS => ?_)
  have hP : va_P (dC, dI) vwCl [(h1, .inr (7, [.ref (md 0), .ref (md 1), .int 0, .int 0, .int 0, .int (-1), .int 0, .int 0, .int 0, .int 0, .long 0, .ref (md 11), .ref (md 12), .ref (md 13), .ref (md 14), .ref (md 15), .ref (md 16), .ref (md 17), .ref (md 18), .ref (md 19), .ref (md 20), .ref (md 21), .ref (md 22), .ref (md 23), .ref (md 24), .ref (md 25), .ref (md 26), .ref (md 27), .ref (md 28), .int 0, .int 1, .int 0, .int 0, .int 0, .int 0, .int 0, .int 0, .int 0, .int 0, .int 0, .ref (md 40), .ref (md 41), .int 0, .int 0, .ref (md 44), .int 0, .int 0, .ref (md 47), .ref (md 48), .int 0, .ref (md 50), .ref (md 51), .ref (md 52), .ref (md 53), .ref (md 54), .int 0, .int 0, .ref (md 57), .ref (md 58)])), (md 11, .inl (cyI, 2, .inl (fun _ => 0))), (md 12, .inl (cyI, 2, .inl (fun _ => 0))), (md 13, .inl (cyI, 2, .inl (fun _ => 0))), (md 14, .inl (cyI, 2, .inl (upd (fun _ => 0) 1 0))), (md 15, .inl (cyI, 2, .inl (upd (fun _ => 0) 0 2))), (md 16, .inl (cyI, 2, .inl (fun _ => 0))), (md 17, .inl (cyI, 2, .inl (fun _ => 0))), (md 18, .inl (cyI, 2, .inl (fun _ => 0)))] H := hP
  have hD : va_D A [(h1, .inr (7, [.ref (md 0), .ref (md 1), .int 0, .int 0, .int 0, .int (-1), .int 0, .int 0, .int 0, .int 0, .long 0, .ref (md 11), .ref (md 12), .ref (md 13), .ref (md 14), .ref (md 15), .ref (md 16), .ref (md 17), .ref (md 18), .ref (md 19), .ref (md 20), .ref (md 21), .ref (md 22), .ref (md 23), .ref (md 24), .ref (md 25), .ref (md 26), .ref (md 27), .ref (md 28), .int 0, .int 1, .int 0, .int 0, .int 0, .int 0, .int 0, .int 0, .int 0, .int 0, .int 0, .ref (md 40), .ref (md 41), .int 0, .int 0, .ref (md 44), .int 0, .int 0, .ref (md 47), .ref (md 48), .int 0, .ref (md 50), .ref (md 51), .ref (md 52), .ref (md 53), .ref (md 54), .int 0, .int 0, .ref (md 57), .ref (md 58)])), (md 11, .inl (cyI, 2, .inl (fun _ => 0))), (md 12, .inl (cyI, 2, .inl (fun _ => 0))), (md 13, .inl (cyI, 2, .inl (fun _ => 0))), (md 14, .inl (cyI, 2, .inl (upd (fun _ => 0) 1 0))), (md 15, .inl (cyI, 2, .inl (upd (fun _ => 0) 0 2))), (md 16, .inl (cyI, 2, .inl (fun _ => 0))), (md 17, .inl (cyI, 2, .inl (fun _ => 0))), (md 18, .inl (cyI, 2, .inl (fun _ => 0)))] := hD
  rw [upd_z] at hP hD
  refine lv_aload_n hx hb dX7_clearBank_40 rfl (lv_at hl 0 rfl) ?_
  refine va_get (D := (dC, dI)) (ci := 7) (v := .ref (md 15)) (C := RX7) (T := TX7) (N := 59) hx hb hts hi7 hown hK hP 0 rfl rfl 15 (by decide) (hts _ (ow_m (k := 5) rfl)) (fun _ h9 => h9) rfl dX7_clearBank_41 ?_
  refine lv_aload_n hx hb dX7_clearBank_44 rfl (lv_at hl 0 rfl) ?_
  refine va_get (D := (dC, dI)) (ci := 7) (v := .int 1) (C := RX7) (T := TX7) (N := 59) hx hb hts hi7 hown hK hP 0 rfl rfl 30 (by decide) (hts _ (ow_m (k := 1) rfl)) (fun _ h9 => h9) rfl dX7_clearBank_45 ?_
  refine lv_iconst (v := 2) hx hb dX7_clearBank_48 (by decide) ?_
  refine va_iast hx hb hK hP hD hS 5 1 rfl rfl (vp_i (a := 1) (by decide) (by decide) (by decide)) dX7_clearBank_49 (fun H locs hP hD hS => ?_)
  have hP : va_P (dC, dI) vwCl [(h1, .inr (7, [.ref (md 0), .ref (md 1), .int 0, .int 0, .int 0, .int (-1), .int 0, .int 0, .int 0, .int 0, .long 0, .ref (md 11), .ref (md 12), .ref (md 13), .ref (md 14), .ref (md 15), .ref (md 16), .ref (md 17), .ref (md 18), .ref (md 19), .ref (md 20), .ref (md 21), .ref (md 22), .ref (md 23), .ref (md 24), .ref (md 25), .ref (md 26), .ref (md 27), .ref (md 28), .int 0, .int 1, .int 0, .int 0, .int 0, .int 0, .int 0, .int 0, .int 0, .int 0, .int 0, .ref (md 40), .ref (md 41), .int 0, .int 0, .ref (md 44), .int 0, .int 0, .ref (md 47), .ref (md 48), .int 0, .ref (md 50), .ref (md 51), .ref (md 52), .ref (md 53), .ref (md 54), .int 0, .int 0, .ref (md 57), .ref (md 58)])), (md 11, .inl (cyI, 2, .inl (fun _ => 0))), (md 12, .inl (cyI, 2, .inl (fun _ => 0))), (md 13, .inl (cyI, 2, .inl (fun _ => 0))), (md 14, .inl (cyI, 2, .inl (fun _ => 0))), (md 15, .inl (cyI, 2, .inl (upd (upd (fun _ => 0) 0 2) 1 2))), (md 16, .inl (cyI, 2, .inl (fun _ => 0))), (md 17, .inl (cyI, 2, .inl (fun _ => 0))), (md 18, .inl (cyI, 2, .inl (fun _ => 0)))] H := hP
  have hD : va_D A [(h1, .inr (7, [.ref (md 0), .ref (md 1), .int 0, .int 0, .int 0, .int (-1), .int 0, .int 0, .int 0, .int 0, .long 0, .ref (md 11), .ref (md 12), .ref (md 13), .ref (md 14), .ref (md 15), .ref (md 16), .ref (md 17), .ref (md 18), .ref (md 19), .ref (md 20), .ref (md 21), .ref (md 22), .ref (md 23), .ref (md 24), .ref (md 25), .ref (md 26), .ref (md 27), .ref (md 28), .int 0, .int 1, .int 0, .int 0, .int 0, .int 0, .int 0, .int 0, .int 0, .int 0, .int 0, .ref (md 40), .ref (md 41), .int 0, .int 0, .ref (md 44), .int 0, .int 0, .ref (md 47), .ref (md 48), .int 0, .ref (md 50), .ref (md 51), .ref (md 52), .ref (md 53), .ref (md 54), .int 0, .int 0, .ref (md 57), .ref (md 58)])), (md 11, .inl (cyI, 2, .inl (fun _ => 0))), (md 12, .inl (cyI, 2, .inl (fun _ => 0))), (md 13, .inl (cyI, 2, .inl (fun _ => 0))), (md 14, .inl (cyI, 2, .inl (fun _ => 0))), (md 15, .inl (cyI, 2, .inl (upd (upd (fun _ => 0) 0 2) 1 2))), (md 16, .inl (cyI, 2, .inl (fun _ => 0))), (md 17, .inl (cyI, 2, .inl (fun _ => 0))), (md 18, .inl (cyI, 2, .inl (fun _ => 0)))] := hD
  refine lv_aload_n hx hb dX7_clearBank_50 rfl (lv_at hl 0 rfl) ?_
  refine va_get (D := (dC, dI)) (ci := 7) (v := .ref (md 16)) (C := RX7) (T := TX7) (N := 59) hx hb hts hi7 hown hK hP 0 rfl rfl 16 (by decide) (hts _ (ow_m (k := 6) rfl)) (fun _ h9 => h9) rfl dX7_clearBank_51 ?_
  refine lv_aload_n hx hb dX7_clearBank_54 rfl (lv_at hl 0 rfl) ?_
  refine va_get (D := (dC, dI)) (ci := 7) (v := .int 1) (C := RX7) (T := TX7) (N := 59) hx hb hts hi7 hown hK hP 0 rfl rfl 30 (by decide) (hts _ (ow_m (k := 1) rfl)) (fun _ h9 => h9) rfl dX7_clearBank_55 ?_
  refine lv_iconst (v := 0) hx hb dX7_clearBank_58 (by decide) ?_
  refine va_iast hx hb hK hP hD hS 6 1 rfl rfl (vp_i (a := 1) (by decide) (by decide) (by decide)) dX7_clearBank_59 (fun H locs hP hD hS => ?_)
  have hP : va_P (dC, dI) vwCl [(h1, .inr (7, [.ref (md 0), .ref (md 1), .int 0, .int 0, .int 0, .int (-1), .int 0, .int 0, .int 0, .int 0, .long 0, .ref (md 11), .ref (md 12), .ref (md 13), .ref (md 14), .ref (md 15), .ref (md 16), .ref (md 17), .ref (md 18), .ref (md 19), .ref (md 20), .ref (md 21), .ref (md 22), .ref (md 23), .ref (md 24), .ref (md 25), .ref (md 26), .ref (md 27), .ref (md 28), .int 0, .int 1, .int 0, .int 0, .int 0, .int 0, .int 0, .int 0, .int 0, .int 0, .int 0, .ref (md 40), .ref (md 41), .int 0, .int 0, .ref (md 44), .int 0, .int 0, .ref (md 47), .ref (md 48), .int 0, .ref (md 50), .ref (md 51), .ref (md 52), .ref (md 53), .ref (md 54), .int 0, .int 0, .ref (md 57), .ref (md 58)])), (md 11, .inl (cyI, 2, .inl (fun _ => 0))), (md 12, .inl (cyI, 2, .inl (fun _ => 0))), (md 13, .inl (cyI, 2, .inl (fun _ => 0))), (md 14, .inl (cyI, 2, .inl (fun _ => 0))), (md 15, .inl (cyI, 2, .inl (upd (upd (fun _ => 0) 0 2) 1 2))), (md 16, .inl (cyI, 2, .inl (upd (fun _ => 0) 1 0))), (md 17, .inl (cyI, 2, .inl (fun _ => 0))), (md 18, .inl (cyI, 2, .inl (fun _ => 0)))] H := hP
  have hD : va_D A [(h1, .inr (7, [.ref (md 0), .ref (md 1), .int 0, .int 0, .int 0, .int (-1), .int 0, .int 0, .int 0, .int 0, .long 0, .ref (md 11), .ref (md 12), .ref (md 13), .ref (md 14), .ref (md 15), .ref (md 16), .ref (md 17), .ref (md 18), .ref (md 19), .ref (md 20), .ref (md 21), .ref (md 22), .ref (md 23), .ref (md 24), .ref (md 25), .ref (md 26), .ref (md 27), .ref (md 28), .int 0, .int 1, .int 0, .int 0, .int 0, .int 0, .int 0, .int 0, .int 0, .int 0, .int 0, .ref (md 40), .ref (md 41), .int 0, .int 0, .ref (md 44), .int 0, .int 0, .ref (md 47), .ref (md 48), .int 0, .ref (md 50), .ref (md 51), .ref (md 52), .ref (md 53), .ref (md 54), .int 0, .int 0, .ref (md 57), .ref (md 58)])), (md 11, .inl (cyI, 2, .inl (fun _ => 0))), (md 12, .inl (cyI, 2, .inl (fun _ => 0))), (md 13, .inl (cyI, 2, .inl (fun _ => 0))), (md 14, .inl (cyI, 2, .inl (fun _ => 0))), (md 15, .inl (cyI, 2, .inl (upd (upd (fun _ => 0) 0 2) 1 2))), (md 16, .inl (cyI, 2, .inl (upd (fun _ => 0) 1 0))), (md 17, .inl (cyI, 2, .inl (fun _ => 0))), (md 18, .inl (cyI, 2, .inl (fun _ => 0)))] := hD
  rw [upd_z] at hP hD
  refine lv_aload_n hx hb dX7_clearBank_60 rfl (lv_at hl 0 rfl) ?_
  refine va_get (D := (dC, dI)) (ci := 7) (v := .ref (md 17)) (C := RX7) (T := TX7) (N := 59) hx hb hts hi7 hown hK hP 0 rfl rfl 17 (by decide) (hts _ (ow_m (k := 7) rfl)) (fun _ h9 => h9) rfl dX7_clearBank_61 ?_
  refine lv_aload_n hx hb dX7_clearBank_64 rfl (lv_at hl 0 rfl) ?_
  refine va_get (D := (dC, dI)) (ci := 7) (v := .int 1) (C := RX7) (T := TX7) (N := 59) hx hb hts hi7 hown hK hP 0 rfl rfl 30 (by decide) (hts _ (ow_m (k := 1) rfl)) (fun _ h9 => h9) rfl dX7_clearBank_65 ?_
  refine lv_iconst (v := 0) hx hb dX7_clearBank_68 (by decide) ?_
  refine va_iast hx hb hK hP hD hS 7 1 rfl rfl (vp_i (a := 1) (by decide) (by decide) (by decide)) dX7_clearBank_69 (fun H locs hP hD hS => ?_)
  have hP : va_P (dC, dI) vwCl [(h1, .inr (7, [.ref (md 0), .ref (md 1), .int 0, .int 0, .int 0, .int (-1), .int 0, .int 0, .int 0, .int 0, .long 0, .ref (md 11), .ref (md 12), .ref (md 13), .ref (md 14), .ref (md 15), .ref (md 16), .ref (md 17), .ref (md 18), .ref (md 19), .ref (md 20), .ref (md 21), .ref (md 22), .ref (md 23), .ref (md 24), .ref (md 25), .ref (md 26), .ref (md 27), .ref (md 28), .int 0, .int 1, .int 0, .int 0, .int 0, .int 0, .int 0, .int 0, .int 0, .int 0, .int 0, .ref (md 40), .ref (md 41), .int 0, .int 0, .ref (md 44), .int 0, .int 0, .ref (md 47), .ref (md 48), .int 0, .ref (md 50), .ref (md 51), .ref (md 52), .ref (md 53), .ref (md 54), .int 0, .int 0, .ref (md 57), .ref (md 58)])), (md 11, .inl (cyI, 2, .inl (fun _ => 0))), (md 12, .inl (cyI, 2, .inl (fun _ => 0))), (md 13, .inl (cyI, 2, .inl (fun _ => 0))), (md 14, .inl (cyI, 2, .inl (fun _ => 0))), (md 15, .inl (cyI, 2, .inl (upd (upd (fun _ => 0) 0 2) 1 2))), (md 16, .inl (cyI, 2, .inl (fun _ => 0))), (md 17, .inl (cyI, 2, .inl (upd (fun _ => 0) 1 0))), (md 18, .inl (cyI, 2, .inl (fun _ => 0)))] H := hP
  have hD : va_D A [(h1, .inr (7, [.ref (md 0), .ref (md 1), .int 0, .int 0, .int 0, .int (-1), .int 0, .int 0, .int 0, .int 0, .long 0, .ref (md 11), .ref (md 12), .ref (md 13), .ref (md 14), .ref (md 15), .ref (md 16), .ref (md 17), .ref (md 18), .ref (md 19), .ref (md 20), .ref (md 21), .ref (md 22), .ref (md 23), .ref (md 24), .ref (md 25), .ref (md 26), .ref (md 27), .ref (md 28), .int 0, .int 1, .int 0, .int 0, .int 0, .int 0, .int 0, .int 0, .int 0, .int 0, .int 0, .ref (md 40), .ref (md 41), .int 0, .int 0, .ref (md 44), .int 0, .int 0, .ref (md 47), .ref (md 48), .int 0, .ref (md 50), .ref (md 51), .ref (md 52), .ref (md 53), .ref (md 54), .int 0, .int 0, .ref (md 57), .ref (md 58)])), (md 11, .inl (cyI, 2, .inl (fun _ => 0))), (md 12, .inl (cyI, 2, .inl (fun _ => 0))), (md 13, .inl (cyI, 2, .inl (fun _ => 0))), (md 14, .inl (cyI, 2, .inl (fun _ => 0))), (md 15, .inl (cyI, 2, .inl (upd (upd (fun _ => 0) 0 2) 1 2))), (md 16, .inl (cyI, 2, .inl (fun _ => 0))), (md 17, .inl (cyI, 2, .inl (upd (fun _ => 0) 1 0))), (md 18, .inl (cyI, 2, .inl (fun _ => 0)))] := hD
  rw [upd_z] at hP hD
  refine lv_aload_n hx hb dX7_clearBank_70 rfl (lv_at hl 0 rfl) ?_
  refine va_get (D := (dC, dI)) (ci := 7) (v := .ref (md 18)) (C := RX7) (T := TX7) (N := 59) hx hb hts hi7 hown hK hP 0 rfl rfl 18 (by decide) (hts _ (ow_m (k := 8) rfl)) (fun _ h9 => h9) rfl dX7_clearBank_71 ?_
  refine lv_aload_n hx hb dX7_clearBank_74 rfl (lv_at hl 0 rfl) ?_
  refine va_get (D := (dC, dI)) (ci := 7) (v := .int 1) (C := RX7) (T := TX7) (N := 59) hx hb hts hi7 hown hK hP 0 rfl rfl 30 (by decide) (hts _ (ow_m (k := 1) rfl)) (fun _ h9 => h9) rfl dX7_clearBank_75 ?_
  refine lv_iconst (v := 0) hx hb dX7_clearBank_78 (by decide) ?_
  refine va_iast hx hb hK hP hD hS 8 1 rfl rfl (vp_i (a := 1) (by decide) (by decide) (by decide)) dX7_clearBank_79 (fun H locs hP hD hS => ?_)
  have hP : va_P (dC, dI) vwCl [(h1, .inr (7, [.ref (md 0), .ref (md 1), .int 0, .int 0, .int 0, .int (-1), .int 0, .int 0, .int 0, .int 0, .long 0, .ref (md 11), .ref (md 12), .ref (md 13), .ref (md 14), .ref (md 15), .ref (md 16), .ref (md 17), .ref (md 18), .ref (md 19), .ref (md 20), .ref (md 21), .ref (md 22), .ref (md 23), .ref (md 24), .ref (md 25), .ref (md 26), .ref (md 27), .ref (md 28), .int 0, .int 1, .int 0, .int 0, .int 0, .int 0, .int 0, .int 0, .int 0, .int 0, .int 0, .ref (md 40), .ref (md 41), .int 0, .int 0, .ref (md 44), .int 0, .int 0, .ref (md 47), .ref (md 48), .int 0, .ref (md 50), .ref (md 51), .ref (md 52), .ref (md 53), .ref (md 54), .int 0, .int 0, .ref (md 57), .ref (md 58)])), (md 11, .inl (cyI, 2, .inl (fun _ => 0))), (md 12, .inl (cyI, 2, .inl (fun _ => 0))), (md 13, .inl (cyI, 2, .inl (fun _ => 0))), (md 14, .inl (cyI, 2, .inl (fun _ => 0))), (md 15, .inl (cyI, 2, .inl (upd (upd (fun _ => 0) 0 2) 1 2))), (md 16, .inl (cyI, 2, .inl (fun _ => 0))), (md 17, .inl (cyI, 2, .inl (fun _ => 0))), (md 18, .inl (cyI, 2, .inl (upd (fun _ => 0) 1 0)))] H := hP
  have hD : va_D A [(h1, .inr (7, [.ref (md 0), .ref (md 1), .int 0, .int 0, .int 0, .int (-1), .int 0, .int 0, .int 0, .int 0, .long 0, .ref (md 11), .ref (md 12), .ref (md 13), .ref (md 14), .ref (md 15), .ref (md 16), .ref (md 17), .ref (md 18), .ref (md 19), .ref (md 20), .ref (md 21), .ref (md 22), .ref (md 23), .ref (md 24), .ref (md 25), .ref (md 26), .ref (md 27), .ref (md 28), .int 0, .int 1, .int 0, .int 0, .int 0, .int 0, .int 0, .int 0, .int 0, .int 0, .int 0, .ref (md 40), .ref (md 41), .int 0, .int 0, .ref (md 44), .int 0, .int 0, .ref (md 47), .ref (md 48), .int 0, .ref (md 50), .ref (md 51), .ref (md 52), .ref (md 53), .ref (md 54), .int 0, .int 0, .ref (md 57), .ref (md 58)])), (md 11, .inl (cyI, 2, .inl (fun _ => 0))), (md 12, .inl (cyI, 2, .inl (fun _ => 0))), (md 13, .inl (cyI, 2, .inl (fun _ => 0))), (md 14, .inl (cyI, 2, .inl (fun _ => 0))), (md 15, .inl (cyI, 2, .inl (upd (upd (fun _ => 0) 0 2) 1 2))), (md 16, .inl (cyI, 2, .inl (fun _ => 0))), (md 17, .inl (cyI, 2, .inl (fun _ => 0))), (md 18, .inl (cyI, 2, .inl (upd (fun _ => 0) 1 0)))] := hD
  rw [upd_z] at hP hD
  refine lv_aload_n hx hb dX7_clearBank_80 rfl (lv_at hl 0 rfl) ?_
  refine lv_sipush (v := 560) hx hb dX7_clearBank_81 (by decide) ?_
  refine lv_aload_n hx hb dX7_clearBank_84 rfl (lv_at hl 0 rfl) ?_
  refine va_get (D := (dC, dI)) (ci := 7) (v := .int 1) (C := RX7) (T := TX7) (N := 59) hx hb hts hi7 hown hK hP 0 rfl rfl 30 (by decide) (hts _ (ow_m (k := 1) rfl)) (fun _ h9 => h9) rfl dX7_clearBank_85 ?_
  refine lv_imul hx hb dX7_clearBank_88 ?_
  refine tp_c (w := 560) (by decide) ?_
  refine va_put (D := (dC, dI)) (ci := 7) (v := .int 560) (ty := .int) (C := RX7) (T := TX7) (N := 59) hx hb hts hi7 tyX7 tyX7_ok nmX7 hown hK hP hD hS 0 rfl rfl 31 (by decide) (hts _ (ow_m (k := 9) rfl)) (fun _ h9 => h9) rfl (by decide +kernel) rfl rfl (Nat.le_of_ble_eq_true rfl) dX7_clearBank_89 (fun H locs hP hD hS => ?_)
  have hP : va_P (dC, dI) vwCl [(h1, .inr (7, [.ref (md 0), .ref (md 1), .int 0, .int 0, .int 0, .int (-1), .int 0, .int 0, .int 0, .int 0, .long 0, .ref (md 11), .ref (md 12), .ref (md 13), .ref (md 14), .ref (md 15), .ref (md 16), .ref (md 17), .ref (md 18), .ref (md 19), .ref (md 20), .ref (md 21), .ref (md 22), .ref (md 23), .ref (md 24), .ref (md 25), .ref (md 26), .ref (md 27), .ref (md 28), .int 0, .int 1, .int 560, .int 0, .int 0, .int 0, .int 0, .int 0, .int 0, .int 0, .int 0, .ref (md 40), .ref (md 41), .int 0, .int 0, .ref (md 44), .int 0, .int 0, .ref (md 47), .ref (md 48), .int 0, .ref (md 50), .ref (md 51), .ref (md 52), .ref (md 53), .ref (md 54), .int 0, .int 0, .ref (md 57), .ref (md 58)])), (md 11, .inl (cyI, 2, .inl (fun _ => 0))), (md 12, .inl (cyI, 2, .inl (fun _ => 0))), (md 13, .inl (cyI, 2, .inl (fun _ => 0))), (md 14, .inl (cyI, 2, .inl (fun _ => 0))), (md 15, .inl (cyI, 2, .inl (upd (upd (fun _ => 0) 0 2) 1 2))), (md 16, .inl (cyI, 2, .inl (fun _ => 0))), (md 17, .inl (cyI, 2, .inl (fun _ => 0))), (md 18, .inl (cyI, 2, .inl (fun _ => 0)))] H := hP
  have hD : va_D A [(h1, .inr (7, [.ref (md 0), .ref (md 1), .int 0, .int 0, .int 0, .int (-1), .int 0, .int 0, .int 0, .int 0, .long 0, .ref (md 11), .ref (md 12), .ref (md 13), .ref (md 14), .ref (md 15), .ref (md 16), .ref (md 17), .ref (md 18), .ref (md 19), .ref (md 20), .ref (md 21), .ref (md 22), .ref (md 23), .ref (md 24), .ref (md 25), .ref (md 26), .ref (md 27), .ref (md 28), .int 0, .int 1, .int 560, .int 0, .int 0, .int 0, .int 0, .int 0, .int 0, .int 0, .int 0, .ref (md 40), .ref (md 41), .int 0, .int 0, .ref (md 44), .int 0, .int 0, .ref (md 47), .ref (md 48), .int 0, .ref (md 50), .ref (md 51), .ref (md 52), .ref (md 53), .ref (md 54), .int 0, .int 0, .ref (md 57), .ref (md 58)])), (md 11, .inl (cyI, 2, .inl (fun _ => 0))), (md 12, .inl (cyI, 2, .inl (fun _ => 0))), (md 13, .inl (cyI, 2, .inl (fun _ => 0))), (md 14, .inl (cyI, 2, .inl (fun _ => 0))), (md 15, .inl (cyI, 2, .inl (upd (upd (fun _ => 0) 0 2) 1 2))), (md 16, .inl (cyI, 2, .inl (fun _ => 0))), (md 17, .inl (cyI, 2, .inl (fun _ => 0))), (md 18, .inl (cyI, 2, .inl (fun _ => 0)))] := hD
  exact W.vret hx hb hr (fun t ht hW => ⟨⟨(), rfl, trivial, cE.of ht hP hD [0, 1, 2, 3, 4, 5, 6, 7, 8] (by decide) rfl⟩, hS.F ht⟩) hS.2.2 dX7_clearBank_92
def wo_k_X7_sign : List Cond := [.fieldLink RX7 119 "ReplicaChainModel" "size" "I"]
def wq_k_X7_sign : List Cond := .code yX7_sign cX7_sign 2 (some .int) :: (wo_k_X7_sign ++ (wsX70 ++ []))
theorem gd_k_X7_sign : Gd wq_k_X7_sign := gd_c (gd_a (gd_o (by decide +kernel)) (gd_a gd_u gd_0))
abbrev wc_k_X7_sign (cyB cyI cyJ cyZ cyO : ClassId) (h1 : Nat) (md : Nat → Nat) : va_W := [(h1, .inr (7, [.ref (md 0), .ref (md 1), .int 0, .int 0, .int 0, .int (-1), .int 0, .int 0, .int 0, .int 0, .long 0, .ref (md 11), .ref (md 12), .ref (md 13), .ref (md 14), .ref (md 15), .ref (md 16), .ref (md 17), .ref (md 18), .ref (md 19), .ref (md 20), .ref (md 21), .ref (md 22), .ref (md 23), .ref (md 24), .ref (md 25), .ref (md 26), .ref (md 27), .ref (md 28), .int 0, .int 1, .int 560, .int 0, .int 0, .int 0, .int 0, .int 0, .int 0, .int 0, .int 0, .ref (md 40), .ref (md 41), .int 0, .int 0, .ref (md 44), .int 0, .int 0, .ref (md 47), .ref (md 48), .int 0, .ref (md 50), .ref (md 51), .ref (md 52), .ref (md 53), .ref (md 54), .int 0, .int 0, .ref (md 57), .ref (md 58)]))]
set_option maxHeartbeats 4000000 in
set_option maxRecDepth 100000 in
theorem k_X7_sign (l : Launch) (dC : Nat → ClassId) (dI : Nat → Nat → Nat) (cyB cyI cyJ cyZ cyO : ClassId) (h1 : Nat) (md : Nat → Nat) (sz : Nat) : Met l yX7_sign wq_k_X7_sign ({ frames := 0, cells := 0, slots := 0, locals := 0 }) (va_Pc [.ref h1, .int 0] (cB (dC, dI) (kT cyB cyI cyJ cyZ cyO) (wc_k_X7_sign cyB cyI cyJ cyZ cyO h1 md) sz)) (va_Qi (fun (r : Int32) _ => r = 0) (fun (u : Unit) t => cE (dC, dI) (va_A (wc_k_X7_sign cyB cyI cyJ cyZ cyO h1 md) sz) ([(h1, .inr (7, [.ref (md 0), .ref (md 1), .int 0, .int 0, .int 0, .int (-1), .int 0, .int 0, .int 0, .int 0, .long 0, .ref (md 11), .ref (md 12), .ref (md 13), .ref (md 14), .ref (md 15), .ref (md 16), .ref (md 17), .ref (md 18), .ref (md 19), .ref (md 20), .ref (md 21), .ref (md 22), .ref (md 23), .ref (md 24), .ref (md 25), .ref (md 26), .ref (md 27), .ref (md 28), .int 0, .int 1, .int 560, .int 0, .int 0, .int 0, .int 0, .int 0, .int 0, .int 0, .int 0, .ref (md 40), .ref (md 41), .int 0, .int 0, .ref (md 44), .int 0, .int 0, .ref (md 47), .ref (md 48), .int 0, .ref (md 50), .ref (md 51), .ref (md 52), .ref (md 53), .ref (md 54), .int 0, .int 0, .ref (md 57), .ref (md 58)]))]) t.heap) (va_A (wc_k_X7_sign cyB cyI cyJ cyZ cyO h1 md) sz)) 0 0 (va_A (wc_k_X7_sign cyB cyI cyJ cyZ cyO h1 md) sz) := by
  refine Met.ofW (cc := cX7_sign) (maxL := 2) (ret := (some .int)) (by decide) rfl ?_
  intro p e s m args below meth c s₁ B hml hv
  obtain ⟨rfl, hsz, hP, hKN, hD0⟩ := hv
  have hx := B.exec
  have hb := B.bytes
  have hr := B.returns
  have hts := atoms_spec (ws := wq_k_X7_sign) B.pre
  have hown : s.vm.findClass RX7 = some m.cls := findClass_of_methodNamed B.named
  have hlocks := B.notSynchronized
  have hK := hKN.1
  have hfix : CallFix p m c cX7_sign 2 s [.ref h1, .int 0].toArray wq_k_X7_sign RX7 := ⟨hx, hb, hml, hown, hts⟩
  have hi7 : ∀ w ∈ wsX70, w ∈ wq_k_X7_sign := (sb_c sb_l)
  subst hsz
  have hD := hD0.self (sz := s.heap.size)
  generalize hAe : va_A (wc_k_X7_sign cyB cyI cyJ cyZ cyO h1 md) s.heap.size = A at hD ⊢
  have hA : ∀ q : Nat, s.heap.size ≤ q → A q := fun q h => by rw [← hAe]; exact Or.inr h
  have hS : va_S A s.heap s.heap [] := va_S.rf
  have hl := lv_entry ([.ref h1, .int 0]) (n := 2) (Nat.le_of_ble_eq_true rfl)
  rw [lg_entry_eq]
  generalize (lg_sl ([.ref h1, .int 0]) ++ List.replicate (2 - (lg_sl ([.ref h1, .int 0])).length) Slot.unset).toArray = ls at hl ⊢
  have hl : lv_has ls 2 [(0, .ref h1), (1, .int 0)] := hl
  refine lv_iload_n hx hb dX7_sign_0 rfl (lv_at hl 1 rfl) ?_
  refine lv_aload_n hx hb dX7_sign_1 rfl (lv_at hl 0 rfl) ?_
  refine va_get (D := (dC, dI)) (ci := 7) (v := .int 0) (C := RX7) (T := TX7) (N := 59) hx hb hts hi7 hown hK hP 0 rfl rfl 3 (by decide) (hts _ (ow_m (k := 0) rfl)) (fun _ h9 => h9) rfl dX7_sign_2 ?_
  refine lv_icmp_ge (tgt := 21) hx hb dX7_sign_5 (by decide) (fun _ => ?_) (fun c1825 => absurd (by decide) c1825)
  refine lv_iconst (v := 0) hx hb dX7_sign_21 (by decide) ?_
  exact W.iret (v := 0) hx hb hr (fun t ht hW => ⟨⟨0, (), rfl, rfl, cE.of ht hP hD [0] (by decide) rfl⟩, hS.F ht⟩) hS.2.2 dX7_sign_22
def wo_k_X7_goOn : List Cond := [.fieldLink RX7 157 "ReplicaChainModel" "end" "I", .fieldLink RX7 160 "ReplicaChainModel" "at" "I", .fieldLink RX7 119 "ReplicaChainModel" "size" "I", .methodLink RX7 163 yX7_sign, .instanceMethod yX7_sign, .selects RX7 yX7_sign yX7_sign, .initialized RX7, .fieldLink RX7 167 "ReplicaChainModel" "token" "I"]
def wq_k_X7_goOn : List Cond := .code yX7_goOn cX7_goOn 3 none :: (wo_k_X7_goOn ++ (wq_k_X7_sign ++ (wsX70 ++ [])))
theorem gd_k_X7_goOn : Gd wq_k_X7_goOn := gd_c (gd_a (gd_o (by decide +kernel)) (gd_a gd_k_X7_sign (gd_a gd_u gd_0)))
abbrev wc_k_X7_goOn (cyB cyI cyJ cyZ cyO : ClassId) (h1 : Nat) (md : Nat → Nat) : va_W := [(h1, .inr (7, [.ref (md 0), .ref (md 1), .int 0, .int 0, .int 0, .int (-1), .int 0, .int 0, .int 0, .int 0, .long 0, .ref (md 11), .ref (md 12), .ref (md 13), .ref (md 14), .ref (md 15), .ref (md 16), .ref (md 17), .ref (md 18), .ref (md 19), .ref (md 20), .ref (md 21), .ref (md 22), .ref (md 23), .ref (md 24), .ref (md 25), .ref (md 26), .ref (md 27), .ref (md 28), .int 0, .int 1, .int 560, .int 0, .int 0, .int 0, .int 0, .int 0, .int 0, .int 0, .int 0, .ref (md 40), .ref (md 41), .int 0, .int 0, .ref (md 44), .int 0, .int 0, .ref (md 47), .ref (md 48), .int 0, .ref (md 50), .ref (md 51), .ref (md 52), .ref (md 53), .ref (md 54), .int 0, .int 0, .ref (md 57), .ref (md 58)]))]
set_option maxHeartbeats 4000000 in
set_option maxRecDepth 100000 in
theorem k_X7_goOn (l : Launch) (dC : Nat → ClassId) (dI : Nat → Nat → Nat) (cyB cyI cyJ cyZ cyO : ClassId) (h1 : Nat) (md : Nat → Nat) (sz : Nat) : Met l yX7_goOn wq_k_X7_goOn ({ frames := 1, cells := 0, slots := 0, locals := 21 }) (va_Pc [.ref h1] (cB (dC, dI) (kT cyB cyI cyJ cyZ cyO) (wc_k_X7_goOn cyB cyI cyJ cyZ cyO h1 md) sz)) (va_Qv (fun _ => True) (fun (u : Unit) t => cE (dC, dI) (va_A (wc_k_X7_goOn cyB cyI cyJ cyZ cyO h1 md) sz) ([(h1, .inr (7, [.ref (md 0), .ref (md 1), .int 0, .int 0, .int 0, .int (-1), .int 0, .int 0, .int 0, .int 0, .long 0, .ref (md 11), .ref (md 12), .ref (md 13), .ref (md 14), .ref (md 15), .ref (md 16), .ref (md 17), .ref (md 18), .ref (md 19), .ref (md 20), .ref (md 21), .ref (md 22), .ref (md 23), .ref (md 24), .ref (md 25), .ref (md 26), .ref (md 27), .ref (md 28), .int 0, .int 1, .int 560, .int 0, .int 0, .int 0, .int 0, .int 0, .int 0, .int 0, .int 0, .ref (md 40), .ref (md 41), .int 0, .int 0, .ref (md 44), .int 0, .int 0, .ref (md 47), .ref (md 48), .int 0, .ref (md 50), .ref (md 51), .ref (md 52), .ref (md 53), .ref (md 54), .int 0, .int 0, .ref (md 57), .ref (md 58)]))]) t.heap) (va_A (wc_k_X7_goOn cyB cyI cyJ cyZ cyO h1 md) sz)) 0 0 (va_A (wc_k_X7_goOn cyB cyI cyJ cyZ cyO h1 md) sz) := by
  refine Met.ofW (cc := cX7_goOn) (maxL := 3) (ret := none) (by decide) rfl ?_
  intro p e s m args below meth c s₁ B hml hv
  obtain ⟨rfl, hsz, hP, hKN, hD0⟩ := hv
  have hx := B.exec
  have hb := B.bytes
  have hr := B.returns
  have hts := atoms_spec (ws := wq_k_X7_goOn) B.pre
  have hown : s.vm.findClass RX7 = some m.cls := findClass_of_methodNamed B.named
  have hlocks := B.notSynchronized
  have hK := hKN.1
  have hfix : CallFix p m c cX7_goOn 3 s [.ref h1].toArray wq_k_X7_goOn RX7 := ⟨hx, hb, hml, hown, hts⟩
  have hi7 : ∀ w ∈ wsX70, w ∈ wq_k_X7_goOn := (sb_c (sb_r sb_l))
  subst hsz
  have hD := hD0.self (sz := s.heap.size)
  generalize hAe : va_A (wc_k_X7_goOn cyB cyI cyJ cyZ cyO h1 md) s.heap.size = A at hD ⊢
  have hA : ∀ q : Nat, s.heap.size ≤ q → A q := fun q h => by rw [← hAe]; exact Or.inr h
  have hS : va_S A s.heap s.heap [] := va_S.rf
  have hl := lv_entry ([.ref h1]) (n := 3) (Nat.le_of_ble_eq_true rfl)
  rw [lg_entry_eq]
  generalize (lg_sl ([.ref h1]) ++ List.replicate (3 - (lg_sl ([.ref h1])).length) Slot.unset).toArray = ls at hl ⊢
  have hl : lv_has ls 3 [(0, .ref h1)] := hl
  refine lv_aload_n hx hb dX7_goOn_0 rfl (lv_at hl 0 rfl) ?_
  refine lv_aload_n hx hb dX7_goOn_1 rfl (lv_at hl 0 rfl) ?_
  refine va_get (D := (dC, dI)) (ci := 7) (v := .int 0) (C := RX7) (T := TX7) (N := 59) hx hb hts hi7 hown hK hP 0 rfl rfl 7 (by decide) (hts _ (ow_m (k := 0) rfl)) (fun _ h9 => h9) rfl dX7_goOn_2 ?_
  refine va_put (D := (dC, dI)) (ci := 7) (v := .int 0) (ty := .int) (C := RX7) (T := TX7) (N := 59) hx hb hts hi7 tyX7 tyX7_ok nmX7 hown hK hP hD hS 0 rfl rfl 6 (by decide) (hts _ (ow_m (k := 1) rfl)) (fun _ h9 => h9) rfl (by decide +kernel) rfl rfl (Nat.le_of_ble_eq_true rfl) dX7_goOn_5 (fun H locs hP hD hS => ?_)
  have hP : va_P (dC, dI) vwCl [(h1, .inr (7, [.ref (md 0), .ref (md 1), .int 0, .int 0, .int 0, .int (-1), .int 0, .int 0, .int 0, .int 0, .long 0, .ref (md 11), .ref (md 12), .ref (md 13), .ref (md 14), .ref (md 15), .ref (md 16), .ref (md 17), .ref (md 18), .ref (md 19), .ref (md 20), .ref (md 21), .ref (md 22), .ref (md 23), .ref (md 24), .ref (md 25), .ref (md 26), .ref (md 27), .ref (md 28), .int 0, .int 1, .int 560, .int 0, .int 0, .int 0, .int 0, .int 0, .int 0, .int 0, .int 0, .ref (md 40), .ref (md 41), .int 0, .int 0, .ref (md 44), .int 0, .int 0, .ref (md 47), .ref (md 48), .int 0, .ref (md 50), .ref (md 51), .ref (md 52), .ref (md 53), .ref (md 54), .int 0, .int 0, .ref (md 57), .ref (md 58)]))] H := hP
  have hD : va_D A [(h1, .inr (7, [.ref (md 0), .ref (md 1), .int 0, .int 0, .int 0, .int (-1), .int 0, .int 0, .int 0, .int 0, .long 0, .ref (md 11), .ref (md 12), .ref (md 13), .ref (md 14), .ref (md 15), .ref (md 16), .ref (md 17), .ref (md 18), .ref (md 19), .ref (md 20), .ref (md 21), .ref (md 22), .ref (md 23), .ref (md 24), .ref (md 25), .ref (md 26), .ref (md 27), .ref (md 28), .int 0, .int 1, .int 560, .int 0, .int 0, .int 0, .int 0, .int 0, .int 0, .int 0, .int 0, .ref (md 40), .ref (md 41), .int 0, .int 0, .ref (md 44), .int 0, .int 0, .ref (md 47), .ref (md 48), .int 0, .ref (md 50), .ref (md 51), .ref (md 52), .ref (md 53), .ref (md 54), .int 0, .int 0, .ref (md 57), .ref (md 58)]))] := hD
  refine lv_aload_n hx hb dX7_goOn_8 rfl (lv_at hl 0 rfl) ?_
  refine va_get (D := (dC, dI)) (ci := 7) (v := .int 0) (C := RX7) (T := TX7) (N := 59) hx hb hts hi7 hown hK hP 0 rfl rfl 6 (by decide) (hts _ (ow_m (k := 1) rfl)) (fun _ h9 => h9) rfl dX7_goOn_9 ?_
  refine lv_aload_n hx hb dX7_goOn_12 rfl (lv_at hl 0 rfl) ?_
  refine va_get (D := (dC, dI)) (ci := 7) (v := .int 0) (C := RX7) (T := TX7) (N := 59) hx hb hts hi7 hown hK hP 0 rfl rfl 3 (by decide) (hts _ (ow_m (k := 2) rfl)) (fun _ h9 => h9) rfl dX7_goOn_13 ?_
  refine lv_icmp_ge (tgt := 58) hx hb dX7_goOn_16 (by decide) (fun _ => ?_) (fun c1829 => absurd (by decide) c1829)
  refine lv_aload_n hx hb dX7_goOn_58 rfl (lv_at hl 0 rfl) ?_
  refine lv_aload_n hx hb dX7_goOn_59 rfl (lv_at hl 0 rfl) ?_
  refine va_get (D := (dC, dI)) (ci := 7) (v := .int 0) (C := RX7) (T := TX7) (N := 59) hx hb hts hi7 hown hK hP 0 rfl rfl 6 (by decide) (hts _ (ow_m (k := 1) rfl)) (fun _ h9 => h9) rfl dX7_goOn_60 ?_
  refine gf_i (wr := []) (va_runV (As := [.int 0]) (rest := []) hfix (k_X7_sign l dC dI cyB cyI cyJ cyZ cyO h1 md _) (cwV 1 hts (gi_V (ow_m (k := 3) rfl) (ow_m (k := 4) rfl) (ow_m (k := 5) rfl) (ow_m (k := 6) rfl) (sb_c sb_l) gd_k_X7_sign) rfl rfl rfl (by decide +kernel) ⟨Nat.le_of_ble_eq_true rfl, Nat.le_of_ble_eq_true rfl⟩) (g_preV hKN hP hD [0] rfl (by decide) 0 7 rfl rfl) rfl rfl hl.1 rfl (lv_room (Nat.le_of_ble_eq_true rfl)) dX7_goOn_63 ⟨Nat.le_of_ble_eq_true rfl, Nat.le_of_ble_eq_true rfl⟩) hP hD hS hA [0] [] rfl rfl (by decide) (by decide) (fun r1831 u1832 H locs qu1832 hP hD hS => ?_)
  have hP : va_P (dC, dI) vwCl [(h1, .inr (7, [.ref (md 0), .ref (md 1), .int 0, .int 0, .int 0, .int (-1), .int 0, .int 0, .int 0, .int 0, .long 0, .ref (md 11), .ref (md 12), .ref (md 13), .ref (md 14), .ref (md 15), .ref (md 16), .ref (md 17), .ref (md 18), .ref (md 19), .ref (md 20), .ref (md 21), .ref (md 22), .ref (md 23), .ref (md 24), .ref (md 25), .ref (md 26), .ref (md 27), .ref (md 28), .int 0, .int 1, .int 560, .int 0, .int 0, .int 0, .int 0, .int 0, .int 0, .int 0, .int 0, .ref (md 40), .ref (md 41), .int 0, .int 0, .ref (md 44), .int 0, .int 0, .ref (md 47), .ref (md 48), .int 0, .ref (md 50), .ref (md 51), .ref (md 52), .ref (md 53), .ref (md 54), .int 0, .int 0, .ref (md 57), .ref (md 58)]))] H := hP
  have hD : va_D A [(h1, .inr (7, [.ref (md 0), .ref (md 1), .int 0, .int 0, .int 0, .int (-1), .int 0, .int 0, .int 0, .int 0, .long 0, .ref (md 11), .ref (md 12), .ref (md 13), .ref (md 14), .ref (md 15), .ref (md 16), .ref (md 17), .ref (md 18), .ref (md 19), .ref (md 20), .ref (md 21), .ref (md 22), .ref (md 23), .ref (md 24), .ref (md 25), .ref (md 26), .ref (md 27), .ref (md 28), .int 0, .int 1, .int 560, .int 0, .int 0, .int 0, .int 0, .int 0, .int 0, .int 0, .int 0, .ref (md 40), .ref (md 41), .int 0, .int 0, .ref (md 44), .int 0, .int 0, .ref (md 47), .ref (md 48), .int 0, .ref (md 50), .ref (md 51), .ref (md 52), .ref (md 53), .ref (md 54), .int 0, .int 0, .ref (md 57), .ref (md 58)]))] := hD
  refine tp_c (w := 0) qu1832 ?_
  refine lv_istore_n (lv' := [(1, .int 0), (0, .ref h1)]) hx hb dX7_goOn_66 rfl hl (by decide) rfl (fun ls hl => ?_)
  refine lv_aload_n hx hb dX7_goOn_67 rfl (lv_at hl 1 rfl) ?_
  refine lv_aload_n hx hb dX7_goOn_68 rfl (lv_at hl 1 rfl) ?_
  refine va_get (D := (dC, dI)) (ci := 7) (v := .int 0) (C := RX7) (T := TX7) (N := 59) hx hb hts hi7 hown hK hP 0 rfl rfl 6 (by decide) (hts _ (ow_m (k := 1) rfl)) (fun _ h9 => h9) rfl dX7_goOn_69 ?_
  refine lv_iconst (v := 1) hx hb dX7_goOn_72 (by decide) ?_
  refine lv_iadd hx hb dX7_goOn_73 ?_
  refine tp_c (w := 1) (by decide) ?_
  refine va_put (D := (dC, dI)) (ci := 7) (v := .int 1) (ty := .int) (C := RX7) (T := TX7) (N := 59) hx hb hts hi7 tyX7 tyX7_ok nmX7 hown hK hP hD hS 0 rfl rfl 7 (by decide) (hts _ (ow_m (k := 0) rfl)) (fun _ h9 => h9) rfl (by decide +kernel) rfl rfl (Nat.le_of_ble_eq_true rfl) dX7_goOn_74 (fun H locs hP hD hS => ?_)
  have hP : va_P (dC, dI) vwCl [(h1, .inr (7, [.ref (md 0), .ref (md 1), .int 0, .int 0, .int 0, .int (-1), .int 0, .int 1, .int 0, .int 0, .long 0, .ref (md 11), .ref (md 12), .ref (md 13), .ref (md 14), .ref (md 15), .ref (md 16), .ref (md 17), .ref (md 18), .ref (md 19), .ref (md 20), .ref (md 21), .ref (md 22), .ref (md 23), .ref (md 24), .ref (md 25), .ref (md 26), .ref (md 27), .ref (md 28), .int 0, .int 1, .int 560, .int 0, .int 0, .int 0, .int 0, .int 0, .int 0, .int 0, .int 0, .ref (md 40), .ref (md 41), .int 0, .int 0, .ref (md 44), .int 0, .int 0, .ref (md 47), .ref (md 48), .int 0, .ref (md 50), .ref (md 51), .ref (md 52), .ref (md 53), .ref (md 54), .int 0, .int 0, .ref (md 57), .ref (md 58)]))] H := hP
  have hD : va_D A [(h1, .inr (7, [.ref (md 0), .ref (md 1), .int 0, .int 0, .int 0, .int (-1), .int 0, .int 1, .int 0, .int 0, .long 0, .ref (md 11), .ref (md 12), .ref (md 13), .ref (md 14), .ref (md 15), .ref (md 16), .ref (md 17), .ref (md 18), .ref (md 19), .ref (md 20), .ref (md 21), .ref (md 22), .ref (md 23), .ref (md 24), .ref (md 25), .ref (md 26), .ref (md 27), .ref (md 28), .int 0, .int 1, .int 560, .int 0, .int 0, .int 0, .int 0, .int 0, .int 0, .int 0, .int 0, .ref (md 40), .ref (md 41), .int 0, .int 0, .ref (md 44), .int 0, .int 0, .ref (md 47), .ref (md 48), .int 0, .ref (md 50), .ref (md 51), .ref (md 52), .ref (md 53), .ref (md 54), .int 0, .int 0, .ref (md 57), .ref (md 58)]))] := hD
  refine lv_aload_n hx hb dX7_goOn_77 rfl (lv_at hl 1 rfl) ?_
  refine va_get (D := (dC, dI)) (ci := 7) (v := .int 0) (C := RX7) (T := TX7) (N := 59) hx hb hts hi7 hown hK hP 0 rfl rfl 6 (by decide) (hts _ (ow_m (k := 1) rfl)) (fun _ h9 => h9) rfl dX7_goOn_78 ?_
  refine lv_aload_n hx hb dX7_goOn_81 rfl (lv_at hl 1 rfl) ?_
  refine va_get (D := (dC, dI)) (ci := 7) (v := .int 0) (C := RX7) (T := TX7) (N := 59) hx hb hts hi7 hown hK hP 0 rfl rfl 3 (by decide) (hts _ (ow_m (k := 2) rfl)) (fun _ h9 => h9) rfl dX7_goOn_82 ?_
  refine lv_icmp_lt (tgt := 112) hx hb dX7_goOn_85 (by decide) (fun c1833 => absurd c1833 (by decide)) (fun _ => ?_)
  refine lv_aload_n hx hb dX7_goOn_88 rfl (lv_at hl 1 rfl) ?_
  refine lv_iconst (v := 0) hx hb dX7_goOn_89 (by decide) ?_
  refine va_put (D := (dC, dI)) (ci := 7) (v := .int 0) (ty := .int) (C := RX7) (T := TX7) (N := 59) hx hb hts hi7 tyX7 tyX7_ok nmX7 hown hK hP hD hS 0 rfl rfl 8 (by decide) (hts _ (ow_m (k := 7) rfl)) (fun _ h9 => h9) rfl (by decide +kernel) rfl rfl (Nat.le_of_ble_eq_true rfl) dX7_goOn_90 (fun H locs hP hD hS => ?_)
  have hP : va_P (dC, dI) vwCl [(h1, .inr (7, [.ref (md 0), .ref (md 1), .int 0, .int 0, .int 0, .int (-1), .int 0, .int 1, .int 0, .int 0, .long 0, .ref (md 11), .ref (md 12), .ref (md 13), .ref (md 14), .ref (md 15), .ref (md 16), .ref (md 17), .ref (md 18), .ref (md 19), .ref (md 20), .ref (md 21), .ref (md 22), .ref (md 23), .ref (md 24), .ref (md 25), .ref (md 26), .ref (md 27), .ref (md 28), .int 0, .int 1, .int 560, .int 0, .int 0, .int 0, .int 0, .int 0, .int 0, .int 0, .int 0, .ref (md 40), .ref (md 41), .int 0, .int 0, .ref (md 44), .int 0, .int 0, .ref (md 47), .ref (md 48), .int 0, .ref (md 50), .ref (md 51), .ref (md 52), .ref (md 53), .ref (md 54), .int 0, .int 0, .ref (md 57), .ref (md 58)]))] H := hP
  have hD : va_D A [(h1, .inr (7, [.ref (md 0), .ref (md 1), .int 0, .int 0, .int 0, .int (-1), .int 0, .int 1, .int 0, .int 0, .long 0, .ref (md 11), .ref (md 12), .ref (md 13), .ref (md 14), .ref (md 15), .ref (md 16), .ref (md 17), .ref (md 18), .ref (md 19), .ref (md 20), .ref (md 21), .ref (md 22), .ref (md 23), .ref (md 24), .ref (md 25), .ref (md 26), .ref (md 27), .ref (md 28), .int 0, .int 1, .int 560, .int 0, .int 0, .int 0, .int 0, .int 0, .int 0, .int 0, .int 0, .ref (md 40), .ref (md 41), .int 0, .int 0, .ref (md 44), .int 0, .int 0, .ref (md 47), .ref (md 48), .int 0, .ref (md 50), .ref (md 51), .ref (md 52), .ref (md 53), .ref (md 54), .int 0, .int 0, .ref (md 57), .ref (md 58)]))] := hD
  refine lv_aload_n hx hb dX7_goOn_93 rfl (lv_at hl 1 rfl) ?_
  refine lv_aload_n hx hb dX7_goOn_94 rfl (lv_at hl 1 rfl) ?_
  refine va_get (D := (dC, dI)) (ci := 7) (v := .int 0) (C := RX7) (T := TX7) (N := 59) hx hb hts hi7 hown hK hP 0 rfl rfl 3 (by decide) (hts _ (ow_m (k := 2) rfl)) (fun _ h9 => h9) rfl dX7_goOn_95 ?_
  refine va_put (D := (dC, dI)) (ci := 7) (v := .int 0) (ty := .int) (C := RX7) (T := TX7) (N := 59) hx hb hts hi7 tyX7 tyX7_ok nmX7 hown hK hP hD hS 0 rfl rfl 6 (by decide) (hts _ (ow_m (k := 1) rfl)) (fun _ h9 => h9) rfl (by decide +kernel) rfl rfl (Nat.le_of_ble_eq_true rfl) dX7_goOn_98 (fun H locs hP hD hS => ?_)
  have hP : va_P (dC, dI) vwCl [(h1, .inr (7, [.ref (md 0), .ref (md 1), .int 0, .int 0, .int 0, .int (-1), .int 0, .int 1, .int 0, .int 0, .long 0, .ref (md 11), .ref (md 12), .ref (md 13), .ref (md 14), .ref (md 15), .ref (md 16), .ref (md 17), .ref (md 18), .ref (md 19), .ref (md 20), .ref (md 21), .ref (md 22), .ref (md 23), .ref (md 24), .ref (md 25), .ref (md 26), .ref (md 27), .ref (md 28), .int 0, .int 1, .int 560, .int 0, .int 0, .int 0, .int 0, .int 0, .int 0, .int 0, .int 0, .ref (md 40), .ref (md 41), .int 0, .int 0, .ref (md 44), .int 0, .int 0, .ref (md 47), .ref (md 48), .int 0, .ref (md 50), .ref (md 51), .ref (md 52), .ref (md 53), .ref (md 54), .int 0, .int 0, .ref (md 57), .ref (md 58)]))] H := hP
  have hD : va_D A [(h1, .inr (7, [.ref (md 0), .ref (md 1), .int 0, .int 0, .int 0, .int (-1), .int 0, .int 1, .int 0, .int 0, .long 0, .ref (md 11), .ref (md 12), .ref (md 13), .ref (md 14), .ref (md 15), .ref (md 16), .ref (md 17), .ref (md 18), .ref (md 19), .ref (md 20), .ref (md 21), .ref (md 22), .ref (md 23), .ref (md 24), .ref (md 25), .ref (md 26), .ref (md 27), .ref (md 28), .int 0, .int 1, .int 560, .int 0, .int 0, .int 0, .int 0, .int 0, .int 0, .int 0, .int 0, .ref (md 40), .ref (md 41), .int 0, .int 0, .ref (md 44), .int 0, .int 0, .ref (md 47), .ref (md 48), .int 0, .ref (md 50), .ref (md 51), .ref (md 52), .ref (md 53), .ref (md 54), .int 0, .int 0, .ref (md 57), .ref (md 58)]))] := hD
  refine lv_aload_n hx hb dX7_goOn_101 rfl (lv_at hl 1 rfl) ?_
  refine lv_aload_n hx hb dX7_goOn_102 rfl (lv_at hl 1 rfl) ?_
  refine va_get (D := (dC, dI)) (ci := 7) (v := .int 0) (C := RX7) (T := TX7) (N := 59) hx hb hts hi7 hown hK hP 0 rfl rfl 3 (by decide) (hts _ (ow_m (k := 2) rfl)) (fun _ h9 => h9) rfl dX7_goOn_103 ?_
  refine va_put (D := (dC, dI)) (ci := 7) (v := .int 0) (ty := .int) (C := RX7) (T := TX7) (N := 59) hx hb hts hi7 tyX7 tyX7_ok nmX7 hown hK hP hD hS 0 rfl rfl 7 (by decide) (hts _ (ow_m (k := 0) rfl)) (fun _ h9 => h9) rfl (by decide +kernel) rfl rfl (Nat.le_of_ble_eq_true rfl) dX7_goOn_106 (fun H locs hP hD hS => ?_)
  have hP : va_P (dC, dI) vwCl [(h1, .inr (7, [.ref (md 0), .ref (md 1), .int 0, .int 0, .int 0, .int (-1), .int 0, .int 0, .int 0, .int 0, .long 0, .ref (md 11), .ref (md 12), .ref (md 13), .ref (md 14), .ref (md 15), .ref (md 16), .ref (md 17), .ref (md 18), .ref (md 19), .ref (md 20), .ref (md 21), .ref (md 22), .ref (md 23), .ref (md 24), .ref (md 25), .ref (md 26), .ref (md 27), .ref (md 28), .int 0, .int 1, .int 560, .int 0, .int 0, .int 0, .int 0, .int 0, .int 0, .int 0, .int 0, .ref (md 40), .ref (md 41), .int 0, .int 0, .ref (md 44), .int 0, .int 0, .ref (md 47), .ref (md 48), .int 0, .ref (md 50), .ref (md 51), .ref (md 52), .ref (md 53), .ref (md 54), .int 0, .int 0, .ref (md 57), .ref (md 58)]))] H := hP
  have hD : va_D A [(h1, .inr (7, [.ref (md 0), .ref (md 1), .int 0, .int 0, .int 0, .int (-1), .int 0, .int 0, .int 0, .int 0, .long 0, .ref (md 11), .ref (md 12), .ref (md 13), .ref (md 14), .ref (md 15), .ref (md 16), .ref (md 17), .ref (md 18), .ref (md 19), .ref (md 20), .ref (md 21), .ref (md 22), .ref (md 23), .ref (md 24), .ref (md 25), .ref (md 26), .ref (md 27), .ref (md 28), .int 0, .int 1, .int 560, .int 0, .int 0, .int 0, .int 0, .int 0, .int 0, .int 0, .int 0, .ref (md 40), .ref (md 41), .int 0, .int 0, .ref (md 44), .int 0, .int 0, .ref (md 47), .ref (md 48), .int 0, .ref (md 50), .ref (md 51), .ref (md 52), .ref (md 53), .ref (md 54), .int 0, .int 0, .ref (md 57), .ref (md 58)]))] := hD
  refine lv_goto (tgt := 377) hx hb dX7_goOn_109 (by decide) ?_
  exact W.vret hx hb hr (fun t ht hW => ⟨⟨(), rfl, trivial, cE.of ht hP hD [0] (by decide) rfl⟩, hS.F ht⟩) hS.2.2 dX7_goOn_377
def wo_k_X7_isGood : List Cond := [.fieldLink RX7 122 "ReplicaChainModel" "faultKind" "I"]
def wq_k_X7_isGood : List Cond := .code yX7_isGood cX7_isGood 1 (some .boolean) :: (wo_k_X7_isGood ++ (wsX70 ++ []))
theorem gd_k_X7_isGood : Gd wq_k_X7_isGood := gd_c (gd_a (gd_o (by decide +kernel)) (gd_a gd_u gd_0))
abbrev wc_k_X7_isGood (cyB cyI cyJ cyZ cyO : ClassId) (h1 : Nat) (md : Nat → Nat) : va_W := [(h1, .inr (7, [.ref (md 0), .ref (md 1), .int 0, .int 0, .int 0, .int (-1), .int 0, .int 0, .int 0, .int 0, .long 0, .ref (md 11), .ref (md 12), .ref (md 13), .ref (md 14), .ref (md 15), .ref (md 16), .ref (md 17), .ref (md 18), .ref (md 19), .ref (md 20), .ref (md 21), .ref (md 22), .ref (md 23), .ref (md 24), .ref (md 25), .ref (md 26), .ref (md 27), .ref (md 28), .int 0, .int 1, .int 560, .int 0, .int 0, .int 0, .int 0, .int 0, .int 0, .int 0, .int 0, .ref (md 40), .ref (md 41), .int 0, .int 0, .ref (md 44), .int 0, .int 0, .ref (md 47), .ref (md 48), .int 0, .ref (md 50), .ref (md 51), .ref (md 52), .ref (md 53), .ref (md 54), .int 0, .int 0, .ref (md 57), .ref (md 58)]))]
set_option maxHeartbeats 4000000 in
set_option maxRecDepth 100000 in
theorem k_X7_isGood (l : Launch) (dC : Nat → ClassId) (dI : Nat → Nat → Nat) (cyB cyI cyJ cyZ cyO : ClassId) (h1 : Nat) (md : Nat → Nat) (sz : Nat) : Met l yX7_isGood wq_k_X7_isGood ({ frames := 0, cells := 0, slots := 0, locals := 0 }) (va_Pc [.ref h1] (cB (dC, dI) (kT cyB cyI cyJ cyZ cyO) (wc_k_X7_isGood cyB cyI cyJ cyZ cyO h1 md) sz)) (va_Qi (fun (r : Int32) _ => r = 1) (fun (u : Unit) t => cE (dC, dI) (va_A (wc_k_X7_isGood cyB cyI cyJ cyZ cyO h1 md) sz) ([(h1, .inr (7, [.ref (md 0), .ref (md 1), .int 0, .int 0, .int 0, .int (-1), .int 0, .int 0, .int 0, .int 0, .long 0, .ref (md 11), .ref (md 12), .ref (md 13), .ref (md 14), .ref (md 15), .ref (md 16), .ref (md 17), .ref (md 18), .ref (md 19), .ref (md 20), .ref (md 21), .ref (md 22), .ref (md 23), .ref (md 24), .ref (md 25), .ref (md 26), .ref (md 27), .ref (md 28), .int 0, .int 1, .int 560, .int 0, .int 0, .int 0, .int 0, .int 0, .int 0, .int 0, .int 0, .ref (md 40), .ref (md 41), .int 0, .int 0, .ref (md 44), .int 0, .int 0, .ref (md 47), .ref (md 48), .int 0, .ref (md 50), .ref (md 51), .ref (md 52), .ref (md 53), .ref (md 54), .int 0, .int 0, .ref (md 57), .ref (md 58)]))]) t.heap) (va_A (wc_k_X7_isGood cyB cyI cyJ cyZ cyO h1 md) sz)) 0 0 (va_A (wc_k_X7_isGood cyB cyI cyJ cyZ cyO h1 md) sz) := by
  refine Met.ofW (cc := cX7_isGood) (maxL := 1) (ret := (some .boolean)) (by decide) rfl ?_
  intro p e s m args below meth c s₁ B hml hv
  obtain ⟨rfl, hsz, hP, hKN, hD0⟩ := hv
  have hx := B.exec
  have hb := B.bytes
  have hr := B.returns
  have hts := atoms_spec (ws := wq_k_X7_isGood) B.pre
  have hown : s.vm.findClass RX7 = some m.cls := findClass_of_methodNamed B.named
  have hlocks := B.notSynchronized
  have hK := hKN.1
  have hfix : CallFix p m c cX7_isGood 1 s [.ref h1].toArray wq_k_X7_isGood RX7 := ⟨hx, hb, hml, hown, hts⟩
  have hi7 : ∀ w ∈ wsX70, w ∈ wq_k_X7_isGood := (sb_c sb_l)
  subst hsz
  have hD := hD0.self (sz := s.heap.size)
  generalize hAe : va_A (wc_k_X7_isGood cyB cyI cyJ cyZ cyO h1 md) s.heap.size = A at hD ⊢
  have hA : ∀ q : Nat, s.heap.size ≤ q → A q := fun q h => by rw [← hAe]; exact Or.inr h
  have hS : va_S A s.heap s.heap [] := va_S.rf
  have hl := lv_entry ([.ref h1]) (n := 1) (Nat.le_of_ble_eq_true rfl)
  rw [lg_entry_eq]
  generalize (lg_sl ([.ref h1]) ++ List.replicate (1 - (lg_sl ([.ref h1])).length) Slot.unset).toArray = ls at hl ⊢
  have hl : lv_has ls 1 [(0, .ref h1)] := hl
  refine lv_aload_n hx hb dX7_isGood_0 rfl (lv_at hl 0 rfl) ?_
  refine va_get (D := (dC, dI)) (ci := 7) (v := .int 0) (C := RX7) (T := TX7) (N := 59) hx hb hts hi7 hown hK hP 0 rfl rfl 4 (by decide) (hts _ (ow_m (k := 0) rfl)) (fun _ h9 => h9) rfl dX7_isGood_1 ?_
  refine lv_if_ne (tgt := 11) hx hb dX7_isGood_4 (by decide) (fun c1837 => absurd (by decide) c1837) (fun _ => ?_)
  refine lv_iconst (v := 1) hx hb dX7_isGood_7 (by decide) ?_
  refine lv_goto (tgt := 12) hx hb dX7_isGood_8 (by decide) ?_
  exact W.zret (v := 1) hx hb hr (by decide) (fun t ht hW => ⟨⟨1, (), rfl, rfl, cE.of ht hP hD [0] (by decide) rfl⟩, hS.F ht⟩) hS.2.2 dX7_isGood_12
def wo_k_X7_lots : List Cond := [.fieldLink RX7 76 "ReplicaChainModel" "all" "[I"]
def wq_k_X7_lots : List Cond := .code yX7_lots cX7_lots 1 (some .int) :: (wo_k_X7_lots ++ (wsX70 ++ []))
theorem gd_k_X7_lots : Gd wq_k_X7_lots := gd_c (gd_a (gd_o (by decide +kernel)) (gd_a gd_u gd_0))
abbrev wc_k_X7_lots (cyB cyI cyJ cyZ cyO : ClassId) (md : Nat → Nat) (f1846 : Nat → Int32) (h1 : Nat) : va_W := [(md 40, .inl (cyI, 520, .inl (upd f1846 0 0))), (h1, .inr (7, [.ref (md 0), .ref (md 1), .int 0, .int 0, .int 0, .int (-1), .int 0, .int 0, .int 0, .int 0, .long 0, .ref (md 11), .ref (md 12), .ref (md 13), .ref (md 14), .ref (md 15), .ref (md 16), .ref (md 17), .ref (md 18), .ref (md 19), .ref (md 20), .ref (md 21), .ref (md 22), .ref (md 23), .ref (md 24), .ref (md 25), .ref (md 26), .ref (md 27), .ref (md 28), .int 1, .int 1, .int 560, .int 0, .int 0, .int 0, .int 0, .int 0, .int 0, .int 0, .int 0, .ref (md 40), .ref (md 41), .int 0, .int 0, .ref (md 44), .int 0, .int 0, .ref (md 47), .ref (md 48), .int 0, .ref (md 50), .ref (md 51), .ref (md 52), .ref (md 53), .ref (md 54), .int 0, .int 0, .ref (md 57), .ref (md 58)]))]
set_option maxHeartbeats 4000000 in
set_option maxRecDepth 100000 in
theorem k_X7_lots (l : Launch) (dC : Nat → ClassId) (dI : Nat → Nat → Nat) (cyB cyI cyJ cyZ cyO : ClassId) (md : Nat → Nat) (f1846 : Nat → Int32) (h1 : Nat) (sz : Nat) : Met l yX7_lots wq_k_X7_lots ({ frames := 0, cells := 0, slots := 0, locals := 0 }) (va_Pc [.ref h1] (cB (dC, dI) (kT cyB cyI cyJ cyZ cyO) (wc_k_X7_lots cyB cyI cyJ cyZ cyO md f1846 h1) sz)) (va_Qi (fun (r : Int32) _ => r = 0) (fun (u : Unit) t => cE (dC, dI) (va_A (wc_k_X7_lots cyB cyI cyJ cyZ cyO md f1846 h1) sz) ([(md 40, .inl (cyI, 520, .inl (upd f1846 0 0))), (h1, .inr (7, [.ref (md 0), .ref (md 1), .int 0, .int 0, .int 0, .int (-1), .int 0, .int 0, .int 0, .int 0, .long 0, .ref (md 11), .ref (md 12), .ref (md 13), .ref (md 14), .ref (md 15), .ref (md 16), .ref (md 17), .ref (md 18), .ref (md 19), .ref (md 20), .ref (md 21), .ref (md 22), .ref (md 23), .ref (md 24), .ref (md 25), .ref (md 26), .ref (md 27), .ref (md 28), .int 1, .int 1, .int 560, .int 0, .int 0, .int 0, .int 0, .int 0, .int 0, .int 0, .int 0, .ref (md 40), .ref (md 41), .int 0, .int 0, .ref (md 44), .int 0, .int 0, .ref (md 47), .ref (md 48), .int 0, .ref (md 50), .ref (md 51), .ref (md 52), .ref (md 53), .ref (md 54), .int 0, .int 0, .ref (md 57), .ref (md 58)]))]) t.heap) (va_A (wc_k_X7_lots cyB cyI cyJ cyZ cyO md f1846 h1) sz)) 0 0 (va_A (wc_k_X7_lots cyB cyI cyJ cyZ cyO md f1846 h1) sz) := by
  refine Met.ofW (cc := cX7_lots) (maxL := 1) (ret := (some .int)) (by decide) rfl ?_
  intro p e s m args below meth c s₁ B hml hv
  obtain ⟨rfl, hsz, hP, hKN, hD0⟩ := hv
  have hx := B.exec
  have hb := B.bytes
  have hr := B.returns
  have hts := atoms_spec (ws := wq_k_X7_lots) B.pre
  have hown : s.vm.findClass RX7 = some m.cls := findClass_of_methodNamed B.named
  have hlocks := B.notSynchronized
  have hK := hKN.1
  have hfix : CallFix p m c cX7_lots 1 s [.ref h1].toArray wq_k_X7_lots RX7 := ⟨hx, hb, hml, hown, hts⟩
  have hi7 : ∀ w ∈ wsX70, w ∈ wq_k_X7_lots := (sb_c sb_l)
  subst hsz
  have hD := hD0.self (sz := s.heap.size)
  generalize hAe : va_A (wc_k_X7_lots cyB cyI cyJ cyZ cyO md f1846 h1) s.heap.size = A at hD ⊢
  have hA : ∀ q : Nat, s.heap.size ≤ q → A q := fun q h => by rw [← hAe]; exact Or.inr h
  have hS : va_S A s.heap s.heap [] := va_S.rf
  have hl := lv_entry ([.ref h1]) (n := 1) (Nat.le_of_ble_eq_true rfl)
  rw [lg_entry_eq]
  generalize (lg_sl ([.ref h1]) ++ List.replicate (1 - (lg_sl ([.ref h1])).length) Slot.unset).toArray = ls at hl ⊢
  have hl : lv_has ls 1 [(0, .ref h1)] := hl
  refine lv_aload_n hx hb dX7_lots_0 rfl (lv_at hl 0 rfl) ?_
  refine va_get (D := (dC, dI)) (ci := 7) (v := .ref (md 40)) (C := RX7) (T := TX7) (N := 59) hx hb hts hi7 hown hK hP 1 rfl rfl 40 (by decide) (hts _ (ow_m (k := 0) rfl)) (fun _ h9 => h9) rfl dX7_lots_1 ?_
  refine lv_iconst (v := 0) hx hb dX7_lots_4 (by decide) ?_
  refine va_iald hx hb hK hP 0 1 rfl rfl (vp_i (a := 0) (by decide) (by decide) (by decide)) dX7_lots_5 ?_
  refine tp_c (w := 0) (by rfl) ?_
  exact W.iret (v := 0) hx hb hr (fun t ht hW => ⟨⟨0, (), rfl, rfl, cE.of ht hP hD [0, 1] (by decide) rfl⟩, hS.F ht⟩) hS.2.2 dX7_lots_6
def wo_k_X7_lots_v2 : List Cond := [.fieldLink RX7 76 "ReplicaChainModel" "all" "[I"]
def wq_k_X7_lots_v2 : List Cond := .code yX7_lots cX7_lots 1 (some .int) :: (wo_k_X7_lots_v2 ++ (wsX70 ++ []))
theorem gd_k_X7_lots_v2 : Gd wq_k_X7_lots_v2 := gd_c (gd_a (gd_o (by decide +kernel)) (gd_a gd_u gd_0))
abbrev wc_k_X7_lots_v2 (cyB cyI cyJ cyZ cyO : ClassId) (md : Nat → Nat) (f1852 : Nat → Int32) (h1 : Nat) : va_W := [(md 40, .inl (cyI, 520, .inl (upd f1852 0 0))), (h1, .inr (7, [.ref (md 0), .ref (md 1), .int 0, .int 0, .int 0, .int (-1), .int 0, .int 0, .int 0, .int 0, .long 0, .ref (md 11), .ref (md 12), .ref (md 13), .ref (md 14), .ref (md 15), .ref (md 16), .ref (md 17), .ref (md 18), .ref (md 19), .ref (md 20), .ref (md 21), .ref (md 22), .ref (md 23), .ref (md 24), .ref (md 25), .ref (md 26), .ref (md 27), .ref (md 28), .int 1, .int 1, .int 560, .int 0, .int 0, .int 0, .int 0, .int 0, .int 0, .int 0, .int 0, .ref (md 40), .ref (md 41), .int 0, .int 0, .ref (md 44), .int 0, .int 0, .ref (md 47), .ref (md 48), .int 0, .ref (md 50), .ref (md 51), .ref (md 52), .ref (md 53), .ref (md 54), .int 0, .int 0, .ref (md 57), .ref (md 58)]))]
set_option maxHeartbeats 4000000 in
set_option maxRecDepth 100000 in
theorem k_X7_lots_v2 (l : Launch) (dC : Nat → ClassId) (dI : Nat → Nat → Nat) (cyB cyI cyJ cyZ cyO : ClassId) (md : Nat → Nat) (f1852 : Nat → Int32) (h1 : Nat) (sz : Nat) : Met l yX7_lots wq_k_X7_lots_v2 ({ frames := 0, cells := 0, slots := 0, locals := 0 }) (va_Pc [.ref h1] (cB (dC, dI) (kT cyB cyI cyJ cyZ cyO) (wc_k_X7_lots_v2 cyB cyI cyJ cyZ cyO md f1852 h1) sz)) (va_Qi (fun (r : Int32) _ => r = 0) (fun (u : Unit) t => cE (dC, dI) (va_A (wc_k_X7_lots_v2 cyB cyI cyJ cyZ cyO md f1852 h1) sz) ([(md 40, .inl (cyI, 520, .inl (upd f1852 0 0))), (h1, .inr (7, [.ref (md 0), .ref (md 1), .int 0, .int 0, .int 0, .int (-1), .int 0, .int 0, .int 0, .int 0, .long 0, .ref (md 11), .ref (md 12), .ref (md 13), .ref (md 14), .ref (md 15), .ref (md 16), .ref (md 17), .ref (md 18), .ref (md 19), .ref (md 20), .ref (md 21), .ref (md 22), .ref (md 23), .ref (md 24), .ref (md 25), .ref (md 26), .ref (md 27), .ref (md 28), .int 1, .int 1, .int 560, .int 0, .int 0, .int 0, .int 0, .int 0, .int 0, .int 0, .int 0, .ref (md 40), .ref (md 41), .int 0, .int 0, .ref (md 44), .int 0, .int 0, .ref (md 47), .ref (md 48), .int 0, .ref (md 50), .ref (md 51), .ref (md 52), .ref (md 53), .ref (md 54), .int 0, .int 0, .ref (md 57), .ref (md 58)]))]) t.heap) (va_A (wc_k_X7_lots_v2 cyB cyI cyJ cyZ cyO md f1852 h1) sz)) 0 0 (va_A (wc_k_X7_lots_v2 cyB cyI cyJ cyZ cyO md f1852 h1) sz) := by
  refine Met.ofW (cc := cX7_lots) (maxL := 1) (ret := (some .int)) (by decide) rfl ?_
  intro p e s m args below meth c s₁ B hml hv
  obtain ⟨rfl, hsz, hP, hKN, hD0⟩ := hv
  have hx := B.exec
  have hb := B.bytes
  have hr := B.returns
  have hts := atoms_spec (ws := wq_k_X7_lots_v2) B.pre
  have hown : s.vm.findClass RX7 = some m.cls := findClass_of_methodNamed B.named
  have hlocks := B.notSynchronized
  have hK := hKN.1
  have hfix : CallFix p m c cX7_lots 1 s [.ref h1].toArray wq_k_X7_lots_v2 RX7 := ⟨hx, hb, hml, hown, hts⟩
  have hi7 : ∀ w ∈ wsX70, w ∈ wq_k_X7_lots_v2 := (sb_c sb_l)
  subst hsz
  have hD := hD0.self (sz := s.heap.size)
  generalize hAe : va_A (wc_k_X7_lots_v2 cyB cyI cyJ cyZ cyO md f1852 h1) s.heap.size = A at hD ⊢
  have hA : ∀ q : Nat, s.heap.size ≤ q → A q := fun q h => by rw [← hAe]; exact Or.inr h
  have hS : va_S A s.heap s.heap [] := va_S.rf
  have hl := lv_entry ([.ref h1]) (n := 1) (Nat.le_of_ble_eq_true rfl)
  rw [lg_entry_eq]
  generalize (lg_sl ([.ref h1]) ++ List.replicate (1 - (lg_sl ([.ref h1])).length) Slot.unset).toArray = ls at hl ⊢
  have hl : lv_has ls 1 [(0, .ref h1)] := hl
  refine lv_aload_n hx hb dX7_lots_0 rfl (lv_at hl 0 rfl) ?_
  refine va_get (D := (dC, dI)) (ci := 7) (v := .ref (md 40)) (C := RX7) (T := TX7) (N := 59) hx hb hts hi7 hown hK hP 1 rfl rfl 40 (by decide) (hts _ (ow_m (k := 0) rfl)) (fun _ h9 => h9) rfl dX7_lots_1 ?_
  refine lv_iconst (v := 0) hx hb dX7_lots_4 (by decide) ?_
  refine va_iald hx hb hK hP 0 1 rfl rfl (vp_i (a := 0) (by decide) (by decide) (by decide)) dX7_lots_5 ?_
  refine tp_c (w := 0) (by rfl) ?_
  exact W.iret (v := 0) hx hb hr (fun t ht hW => ⟨⟨0, (), rfl, rfl, cE.of ht hP hD [0, 1] (by decide) rfl⟩, hS.F ht⟩) hS.2.2 dX7_lots_6
def wo_k_X7_layTold : List Cond := [.fieldLink RX7 76 "ReplicaChainModel" "all" "[I", .fieldLink RX7 24 "ReplicaChainModel" "members" "[I", .fieldLink RX7 214 "ReplicaChainModel" "bank" "I", .methodLink RX7 313 yX7_lots, .instanceMethod yX7_lots, .selects RX7 yX7_lots yX7_lots, .initialized RX7, .fieldLink RX7 39 "ReplicaChainModel" "draw" "[I"]
def wq_k_X7_layTold : List Cond := .code yX7_layTold cX7_layTold 2 none :: (wo_k_X7_layTold ++ (wq_k_X7_lots_v2 ++ (wsX70 ++ [])))
theorem gd_k_X7_layTold : Gd wq_k_X7_layTold := gd_c (gd_a (gd_o (by decide +kernel)) (gd_a gd_k_X7_lots_v2 (gd_a gd_u gd_0)))
abbrev wc_k_X7_layTold (cyB cyI cyJ cyZ cyO : ClassId) (md : Nat → Nat) (g : Nat → Int32) (h1 : Nat) : va_W := [(md 40, .inl (cyI, 520, .inl g)), (md 12, .inl (cyI, 2, .inl (fun _ => 0))), (md 17, .inl (cyI, 2, .inl (fun _ => 0))), (h1, .inr (7, [.ref (md 0), .ref (md 1), .int 0, .int 0, .int 0, .int (-1), .int 0, .int 0, .int 0, .int 0, .long 0, .ref (md 11), .ref (md 12), .ref (md 13), .ref (md 14), .ref (md 15), .ref (md 16), .ref (md 17), .ref (md 18), .ref (md 19), .ref (md 20), .ref (md 21), .ref (md 22), .ref (md 23), .ref (md 24), .ref (md 25), .ref (md 26), .ref (md 27), .ref (md 28), .int 1, .int 1, .int 560, .int 0, .int 0, .int 0, .int 0, .int 0, .int 0, .int 0, .int 0, .ref (md 40), .ref (md 41), .int 0, .int 0, .ref (md 44), .int 0, .int 0, .ref (md 47), .ref (md 48), .int 0, .ref (md 50), .ref (md 51), .ref (md 52), .ref (md 53), .ref (md 54), .int 0, .int 0, .ref (md 57), .ref (md 58)]))]
set_option maxHeartbeats 4000000 in
set_option maxRecDepth 100000 in
theorem k_X7_layTold (l : Launch) (dC : Nat → ClassId) (dI : Nat → Nat → Nat) (cyB cyI cyJ cyZ cyO : ClassId) (md : Nat → Nat) (g : Nat → Int32) (h1 : Nat) (sz : Nat) (hg : AllZ g) : Met l yX7_layTold wq_k_X7_layTold ({ frames := 1, cells := 0, slots := 0, locals := 20 }) (va_Pc [.ref h1] (cB (dC, dI) (kT cyB cyI cyJ cyZ cyO) (wc_k_X7_layTold cyB cyI cyJ cyZ cyO md g h1) sz)) (va_Qv (fun u => AllZ (u 0)) (fun (u : Nat → Nat → Int32) t => cE (dC, dI) (va_A (wc_k_X7_layTold cyB cyI cyJ cyZ cyO md g h1) sz) ([(md 40, .inl (cyI, 520, .inl (u 0))), (md 12, .inl (cyI, 2, .inl (fun _ => 0))), (md 17, .inl (cyI, 2, .inl (fun _ => 0))), (h1, .inr (7, [.ref (md 0), .ref (md 1), .int 0, .int 0, .int 0, .int (-1), .int 0, .int 0, .int 0, .int 0, .long 0, .ref (md 11), .ref (md 12), .ref (md 13), .ref (md 14), .ref (md 15), .ref (md 16), .ref (md 17), .ref (md 18), .ref (md 19), .ref (md 20), .ref (md 21), .ref (md 22), .ref (md 23), .ref (md 24), .ref (md 25), .ref (md 26), .ref (md 27), .ref (md 28), .int 1, .int 1, .int 560, .int 0, .int 0, .int 0, .int 0, .int 0, .int 0, .int 0, .int 0, .ref (md 40), .ref (md 41), .int 0, .int 0, .ref (md 44), .int 0, .int 0, .ref (md 47), .ref (md 48), .int 0, .ref (md 50), .ref (md 51), .ref (md 52), .ref (md 53), .ref (md 54), .int 0, .int 0, .ref (md 57), .ref (md 58)]))]) t.heap) (va_A (wc_k_X7_layTold cyB cyI cyJ cyZ cyO md g h1) sz)) 0 0 (va_A (wc_k_X7_layTold cyB cyI cyJ cyZ cyO md g h1) sz) := by
  refine Met.ofW (cc := cX7_layTold) (maxL := 2) (ret := none) (by decide) rfl ?_
  intro p e s m args below meth c s₁ B hml hv
  obtain ⟨rfl, hsz, hP, hKN, hD0⟩ := hv
  have hx := B.exec
  have hb := B.bytes
  have hr := B.returns
  have hts := atoms_spec (ws := wq_k_X7_layTold) B.pre
  have hown : s.vm.findClass RX7 = some m.cls := findClass_of_methodNamed B.named
  have hlocks := B.notSynchronized
  have hK := hKN.1
  have hfix : CallFix p m c cX7_layTold 2 s [.ref h1].toArray wq_k_X7_layTold RX7 := ⟨hx, hb, hml, hown, hts⟩
  have hi7 : ∀ w ∈ wsX70, w ∈ wq_k_X7_layTold := (sb_c (sb_r sb_l))
  subst hsz
  have hD := hD0.self (sz := s.heap.size)
  generalize hAe : va_A (wc_k_X7_layTold cyB cyI cyJ cyZ cyO md g h1) s.heap.size = A at hD ⊢
  have hA : ∀ q : Nat, s.heap.size ≤ q → A q := fun q h => by rw [← hAe]; exact Or.inr h
  have hS : va_S A s.heap s.heap [] := va_S.rf
  have hl := lv_entry ([.ref h1]) (n := 2) (Nat.le_of_ble_eq_true rfl)
  rw [lg_entry_eq]
  generalize (lg_sl ([.ref h1]) ++ List.replicate (2 - (lg_sl ([.ref h1])).length) Slot.unset).toArray = ls at hl ⊢
  have hl : lv_has ls 2 [(0, .ref h1)] := hl
  refine lv_iconst (v := 0) hx hb dX7_layTold_0 (by decide) ?_
  refine lv_istore_n (lv' := [(1, .int 0), (0, .ref h1)]) hx hb dX7_layTold_1 rfl hl (by decide) rfl (fun ls hl => ?_)
  refine w_gen (fun H locs ls hP hS hl => ?_) hP hS hl
  obtain ⟨k, hk, hl2⟩ : ∃ k : Nat, k + 520 = 520 ∧ lv_has ls 2 [(1, .int (nI k)), (0, .ref h1)] := ⟨0, Nat.zero_add _, hl⟩
  obtain ⟨n, hkn⟩ : ∃ n : Nat, k + n = 520 := ⟨520, hk⟩
  obtain ⟨f1852, hP2, hD2, hinv⟩ : ∃ (f1852 : Nat → Int32), va_P (dC, dI) vwCl [(md 40, .inl (cyI, 520, .inl f1852)), (md 12, .inl (cyI, 2, .inl (fun _ => 0))), (md 17, .inl (cyI, 2, .inl (fun _ => 0))), (h1, .inr (7, [.ref (md 0), .ref (md 1), .int 0, .int 0, .int 0, .int (-1), .int 0, .int 0, .int 0, .int 0, .long 0, .ref (md 11), .ref (md 12), .ref (md 13), .ref (md 14), .ref (md 15), .ref (md 16), .ref (md 17), .ref (md 18), .ref (md 19), .ref (md 20), .ref (md 21), .ref (md 22), .ref (md 23), .ref (md 24), .ref (md 25), .ref (md 26), .ref (md 27), .ref (md 28), .int 1, .int 1, .int 560, .int 0, .int 0, .int 0, .int 0, .int 0, .int 0, .int 0, .int 0, .ref (md 40), .ref (md 41), .int 0, .int 0, .ref (md 44), .int 0, .int 0, .ref (md 47), .ref (md 48), .int 0, .ref (md 50), .ref (md 51), .ref (md 52), .ref (md 53), .ref (md 54), .int 0, .int 0, .ref (md 57), .ref (md 58)]))] H ∧ va_D A [(md 40, .inl (cyI, 520, .inl f1852)), (md 12, .inl (cyI, 2, .inl (fun _ => 0))), (md 17, .inl (cyI, 2, .inl (fun _ => 0))), (h1, .inr (7, [.ref (md 0), .ref (md 1), .int 0, .int 0, .int 0, .int (-1), .int 0, .int 0, .int 0, .int 0, .long 0, .ref (md 11), .ref (md 12), .ref (md 13), .ref (md 14), .ref (md 15), .ref (md 16), .ref (md 17), .ref (md 18), .ref (md 19), .ref (md 20), .ref (md 21), .ref (md 22), .ref (md 23), .ref (md 24), .ref (md 25), .ref (md 26), .ref (md 27), .ref (md 28), .int 1, .int 1, .int 560, .int 0, .int 0, .int 0, .int 0, .int 0, .int 0, .int 0, .int 0, .ref (md 40), .ref (md 41), .int 0, .int 0, .ref (md 44), .int 0, .int 0, .ref (md 47), .ref (md 48), .int 0, .ref (md 50), .ref (md 51), .ref (md 52), .ref (md 53), .ref (md 54), .int 0, .int 0, .ref (md 57), .ref (md 58)]))] ∧ ∀ j : Nat, j < k → f1852 j = 0 := ⟨_, hP, hD, (fun j h => absurd h (by omega))⟩
  clear hk hP hl
  have hP := hP2
  have hD := hD2
  have hl := hl2
  clear hP2 hD2 hl2
  induction n generalizing k f1852 H locs ls with
  | zero =>
    obtain rfl : k = 520 := by omega
    refine lv_iload_n hx hb dX7_layTold_2 rfl (lv_at hl 0 rfl) ?_
    refine lv_sipush (v := 520) hx hb dX7_layTold_3 (by decide) ?_
    refine lv_icmp_ge (tgt := 22) hx hb dX7_layTold_6 (by decide) (fun _ => ?_) (fun c1853 => absurd (by decide) c1853)
    refine lv_aload_n hx hb dX7_layTold_22 rfl (lv_at hl 1 rfl) ?_
    refine va_get (D := (dC, dI)) (ci := 7) (v := .ref (md 40)) (C := RX7) (T := TX7) (N := 59) hx hb hts hi7 hown hK hP 3 rfl rfl 40 (by decide) (hts _ (ow_m (k := 0) rfl)) (fun _ h9 => h9) rfl dX7_layTold_23 ?_
    refine lv_iconst (v := 0) hx hb dX7_layTold_26 (by decide) ?_
    refine lv_aload_n hx hb dX7_layTold_27 rfl (lv_at hl 1 rfl) ?_
    refine va_get (D := (dC, dI)) (ci := 7) (v := .ref (md 12)) (C := RX7) (T := TX7) (N := 59) hx hb hts hi7 hown hK hP 3 rfl rfl 12 (by decide) (hts _ (ow_m (k := 1) rfl)) (fun _ h9 => h9) rfl dX7_layTold_28 ?_
    refine lv_aload_n hx hb dX7_layTold_31 rfl (lv_at hl 1 rfl) ?_
    refine va_get (D := (dC, dI)) (ci := 7) (v := .int 1) (C := RX7) (T := TX7) (N := 59) hx hb hts hi7 hown hK hP 3 rfl rfl 29 (by decide) (hts _ (ow_m (k := 2) rfl)) (fun _ h9 => h9) rfl dX7_layTold_32 ?_
    refine va_iald hx hb hK hP 1 1 rfl rfl (vp_i (a := 1) (by decide) (by decide) (by decide)) dX7_layTold_35 ?_
    refine tp_c (w := 0) (by rfl) ?_
    refine va_iast hx hb hK hP hD hS 0 1 rfl rfl (vp_i (a := 0) (by decide) (by decide) (by decide)) dX7_layTold_36 (fun H locs hP hD hS => ?_)
    have hP : va_P (dC, dI) vwCl [(md 40, .inl (cyI, 520, .inl (upd f1852 0 0))), (md 12, .inl (cyI, 2, .inl (fun _ => 0))), (md 17, .inl (cyI, 2, .inl (fun _ => 0))), (h1, .inr (7, [.ref (md 0), .ref (md 1), .int 0, .int 0, .int 0, .int (-1), .int 0, .int 0, .int 0, .int 0, .long 0, .ref (md 11), .ref (md 12), .ref (md 13), .ref (md 14), .ref (md 15), .ref (md 16), .ref (md 17), .ref (md 18), .ref (md 19), .ref (md 20), .ref (md 21), .ref (md 22), .ref (md 23), .ref (md 24), .ref (md 25), .ref (md 26), .ref (md 27), .ref (md 28), .int 1, .int 1, .int 560, .int 0, .int 0, .int 0, .int 0, .int 0, .int 0, .int 0, .int 0, .ref (md 40), .ref (md 41), .int 0, .int 0, .ref (md 44), .int 0, .int 0, .ref (md 47), .ref (md 48), .int 0, .ref (md 50), .ref (md 51), .ref (md 52), .ref (md 53), .ref (md 54), .int 0, .int 0, .ref (md 57), .ref (md 58)]))] H := hP
    have hD : va_D A [(md 40, .inl (cyI, 520, .inl (upd f1852 0 0))), (md 12, .inl (cyI, 2, .inl (fun _ => 0))), (md 17, .inl (cyI, 2, .inl (fun _ => 0))), (h1, .inr (7, [.ref (md 0), .ref (md 1), .int 0, .int 0, .int 0, .int (-1), .int 0, .int 0, .int 0, .int 0, .long 0, .ref (md 11), .ref (md 12), .ref (md 13), .ref (md 14), .ref (md 15), .ref (md 16), .ref (md 17), .ref (md 18), .ref (md 19), .ref (md 20), .ref (md 21), .ref (md 22), .ref (md 23), .ref (md 24), .ref (md 25), .ref (md 26), .ref (md 27), .ref (md 28), .int 1, .int 1, .int 560, .int 0, .int 0, .int 0, .int 0, .int 0, .int 0, .int 0, .int 0, .ref (md 40), .ref (md 41), .int 0, .int 0, .ref (md 44), .int 0, .int 0, .ref (md 47), .ref (md 48), .int 0, .ref (md 50), .ref (md 51), .ref (md 52), .ref (md 53), .ref (md 54), .int 0, .int 0, .ref (md 57), .ref (md 58)]))] := hD
    refine lv_iconst (v := 0) hx hb dX7_layTold_37 (by decide) ?_
    refine lv_istore_n (lv' := [(1, .int 0), (0, .ref h1)]) hx hb dX7_layTold_38 rfl hl (by decide) rfl (fun ls hl => ?_)
    refine lv_iload_n hx hb dX7_layTold_39 rfl (lv_at hl 0 rfl) ?_
    refine lv_aload_n hx hb dX7_layTold_40 rfl (lv_at hl 1 rfl) ?_
    refine gf_i (wr := [(md 12, .inl (cyI, 2, .inl (fun _ => 0))), (md 17, .inl (cyI, 2, .inl (fun _ => 0)))]) (va_runV (As := []) (rest := [.int 0]) hfix (k_X7_lots_v2 l dC dI cyB cyI cyJ cyZ cyO md f1852 h1 _) (cwV 0 hts (gi_V (ow_m (k := 3) rfl) (ow_m (k := 4) rfl) (ow_m (k := 5) rfl) (ow_m (k := 6) rfl) (sb_c sb_l) gd_k_X7_lots_v2) rfl rfl rfl (by decide +kernel) ⟨Nat.le_of_ble_eq_true rfl, Nat.le_of_ble_eq_true rfl⟩) (g_preV hKN hP hD [0, 3] rfl (by decide) 1 7 rfl rfl) rfl rfl hl.1 rfl (lv_room (Nat.le_of_ble_eq_true rfl)) dX7_layTold_41 ⟨Nat.le_of_ble_eq_true rfl, Nat.le_of_ble_eq_true rfl⟩) hP hD hS hA [0, 3] [1, 2] rfl rfl (by decide) (by decide) (fun r1854 u1855 H locs qu1855 hP hD hS => ?_)
    have hP : va_P (dC, dI) vwCl [(md 12, .inl (cyI, 2, .inl (fun _ => 0))), (md 17, .inl (cyI, 2, .inl (fun _ => 0))), (md 40, .inl (cyI, 520, .inl (upd f1852 0 0))), (h1, .inr (7, [.ref (md 0), .ref (md 1), .int 0, .int 0, .int 0, .int (-1), .int 0, .int 0, .int 0, .int 0, .long 0, .ref (md 11), .ref (md 12), .ref (md 13), .ref (md 14), .ref (md 15), .ref (md 16), .ref (md 17), .ref (md 18), .ref (md 19), .ref (md 20), .ref (md 21), .ref (md 22), .ref (md 23), .ref (md 24), .ref (md 25), .ref (md 26), .ref (md 27), .ref (md 28), .int 1, .int 1, .int 560, .int 0, .int 0, .int 0, .int 0, .int 0, .int 0, .int 0, .int 0, .ref (md 40), .ref (md 41), .int 0, .int 0, .ref (md 44), .int 0, .int 0, .ref (md 47), .ref (md 48), .int 0, .ref (md 50), .ref (md 51), .ref (md 52), .ref (md 53), .ref (md 54), .int 0, .int 0, .ref (md 57), .ref (md 58)]))] H := hP
    have hD : va_D A [(md 12, .inl (cyI, 2, .inl (fun _ => 0))), (md 17, .inl (cyI, 2, .inl (fun _ => 0))), (md 40, .inl (cyI, 520, .inl (upd f1852 0 0))), (h1, .inr (7, [.ref (md 0), .ref (md 1), .int 0, .int 0, .int 0, .int (-1), .int 0, .int 0, .int 0, .int 0, .long 0, .ref (md 11), .ref (md 12), .ref (md 13), .ref (md 14), .ref (md 15), .ref (md 16), .ref (md 17), .ref (md 18), .ref (md 19), .ref (md 20), .ref (md 21), .ref (md 22), .ref (md 23), .ref (md 24), .ref (md 25), .ref (md 26), .ref (md 27), .ref (md 28), .int 1, .int 1, .int 560, .int 0, .int 0, .int 0, .int 0, .int 0, .int 0, .int 0, .int 0, .ref (md 40), .ref (md 41), .int 0, .int 0, .ref (md 44), .int 0, .int 0, .ref (md 47), .ref (md 48), .int 0, .ref (md 50), .ref (md 51), .ref (md 52), .ref (md 53), .ref (md 54), .int 0, .int 0, .ref (md 57), .ref (md 58)]))] := hD
    refine tp_c (w := 0) qu1855 ?_
    refine lv_icmp_ge (tgt := 75) hx hb dX7_layTold_44 (by decide) (fun _ => ?_) (fun c1856 => absurd (by decide) c1856)
    refine lv_aload_n hx hb dX7_layTold_75 rfl (lv_at hl 1 rfl) ?_
    refine va_get (D := (dC, dI)) (ci := 7) (v := .ref (md 40)) (C := RX7) (T := TX7) (N := 59) hx hb hts hi7 hown hK hP 3 rfl rfl 40 (by decide) (hts _ (ow_m (k := 0) rfl)) (fun _ h9 => h9) rfl dX7_layTold_76 ?_
    refine lv_bipush (v := 105) hx hb dX7_layTold_79 (by decide) ?_
    refine lv_iconst (v := (-1)) hx hb dX7_layTold_81 (by decide) ?_
    refine va_iast hx hb hK hP hD hS 2 1 rfl rfl (vp_i (a := 105) (by decide) (by decide) (by decide)) dX7_layTold_82 (fun H locs hP hD hS => ?_)
    have hP : va_P (dC, dI) vwCl [(md 12, .inl (cyI, 2, .inl (fun _ => 0))), (md 17, .inl (cyI, 2, .inl (fun _ => 0))), (md 40, .inl (cyI, 520, .inl (upd (upd f1852 0 0) 105 (-1)))), (h1, .inr (7, [.ref (md 0), .ref (md 1), .int 0, .int 0, .int 0, .int (-1), .int 0, .int 0, .int 0, .int 0, .long 0, .ref (md 11), .ref (md 12), .ref (md 13), .ref (md 14), .ref (md 15), .ref (md 16), .ref (md 17), .ref (md 18), .ref (md 19), .ref (md 20), .ref (md 21), .ref (md 22), .ref (md 23), .ref (md 24), .ref (md 25), .ref (md 26), .ref (md 27), .ref (md 28), .int 1, .int 1, .int 560, .int 0, .int 0, .int 0, .int 0, .int 0, .int 0, .int 0, .int 0, .ref (md 40), .ref (md 41), .int 0, .int 0, .ref (md 44), .int 0, .int 0, .ref (md 47), .ref (md 48), .int 0, .ref (md 50), .ref (md 51), .ref (md 52), .ref (md 53), .ref (md 54), .int 0, .int 0, .ref (md 57), .ref (md 58)]))] H := hP
    have hD : va_D A [(md 12, .inl (cyI, 2, .inl (fun _ => 0))), (md 17, .inl (cyI, 2, .inl (fun _ => 0))), (md 40, .inl (cyI, 520, .inl (upd (upd f1852 0 0) 105 (-1)))), (h1, .inr (7, [.ref (md 0), .ref (md 1), .int 0, .int 0, .int 0, .int (-1), .int 0, .int 0, .int 0, .int 0, .long 0, .ref (md 11), .ref (md 12), .ref (md 13), .ref (md 14), .ref (md 15), .ref (md 16), .ref (md 17), .ref (md 18), .ref (md 19), .ref (md 20), .ref (md 21), .ref (md 22), .ref (md 23), .ref (md 24), .ref (md 25), .ref (md 26), .ref (md 27), .ref (md 28), .int 1, .int 1, .int 560, .int 0, .int 0, .int 0, .int 0, .int 0, .int 0, .int 0, .int 0, .ref (md 40), .ref (md 41), .int 0, .int 0, .ref (md 44), .int 0, .int 0, .ref (md 47), .ref (md 48), .int 0, .ref (md 50), .ref (md 51), .ref (md 52), .ref (md 53), .ref (md 54), .int 0, .int 0, .ref (md 57), .ref (md 58)]))] := hD
    refine lv_aload_n hx hb dX7_layTold_83 rfl (lv_at hl 1 rfl) ?_
    refine va_get (D := (dC, dI)) (ci := 7) (v := .ref (md 40)) (C := RX7) (T := TX7) (N := 59) hx hb hts hi7 hown hK hP 3 rfl rfl 40 (by decide) (hts _ (ow_m (k := 0) rfl)) (fun _ h9 => h9) rfl dX7_layTold_84 ?_
    refine lv_bipush (v := 109) hx hb dX7_layTold_87 (by decide) ?_
    refine lv_aload_n hx hb dX7_layTold_89 rfl (lv_at hl 1 rfl) ?_
    refine va_get (D := (dC, dI)) (ci := 7) (v := .ref (md 17)) (C := RX7) (T := TX7) (N := 59) hx hb hts hi7 hown hK hP 3 rfl rfl 17 (by decide) (hts _ (ow_m (k := 7) rfl)) (fun _ h9 => h9) rfl dX7_layTold_90 ?_
    refine lv_aload_n hx hb dX7_layTold_93 rfl (lv_at hl 1 rfl) ?_
    refine va_get (D := (dC, dI)) (ci := 7) (v := .int 1) (C := RX7) (T := TX7) (N := 59) hx hb hts hi7 hown hK hP 3 rfl rfl 29 (by decide) (hts _ (ow_m (k := 2) rfl)) (fun _ h9 => h9) rfl dX7_layTold_94 ?_
    refine va_iald hx hb hK hP 1 1 rfl rfl (vp_i (a := 1) (by decide) (by decide) (by decide)) dX7_layTold_97 ?_
    refine tp_c (w := 0) (by rfl) ?_
    refine va_iast hx hb hK hP hD hS 2 1 rfl rfl (vp_i (a := 109) (by decide) (by decide) (by decide)) dX7_layTold_98 (fun H locs hP hD hS => ?_)
    have hP : va_P (dC, dI) vwCl [(md 12, .inl (cyI, 2, .inl (fun _ => 0))), (md 17, .inl (cyI, 2, .inl (fun _ => 0))), (md 40, .inl (cyI, 520, .inl (upd (upd (upd f1852 0 0) 105 (-1)) 109 0))), (h1, .inr (7, [.ref (md 0), .ref (md 1), .int 0, .int 0, .int 0, .int (-1), .int 0, .int 0, .int 0, .int 0, .long 0, .ref (md 11), .ref (md 12), .ref (md 13), .ref (md 14), .ref (md 15), .ref (md 16), .ref (md 17), .ref (md 18), .ref (md 19), .ref (md 20), .ref (md 21), .ref (md 22), .ref (md 23), .ref (md 24), .ref (md 25), .ref (md 26), .ref (md 27), .ref (md 28), .int 1, .int 1, .int 560, .int 0, .int 0, .int 0, .int 0, .int 0, .int 0, .int 0, .int 0, .ref (md 40), .ref (md 41), .int 0, .int 0, .ref (md 44), .int 0, .int 0, .ref (md 47), .ref (md 48), .int 0, .ref (md 50), .ref (md 51), .ref (md 52), .ref (md 53), .ref (md 54), .int 0, .int 0, .ref (md 57), .ref (md 58)]))] H := hP
    have hD : va_D A [(md 12, .inl (cyI, 2, .inl (fun _ => 0))), (md 17, .inl (cyI, 2, .inl (fun _ => 0))), (md 40, .inl (cyI, 520, .inl (upd (upd (upd f1852 0 0) 105 (-1)) 109 0))), (h1, .inr (7, [.ref (md 0), .ref (md 1), .int 0, .int 0, .int 0, .int (-1), .int 0, .int 0, .int 0, .int 0, .long 0, .ref (md 11), .ref (md 12), .ref (md 13), .ref (md 14), .ref (md 15), .ref (md 16), .ref (md 17), .ref (md 18), .ref (md 19), .ref (md 20), .ref (md 21), .ref (md 22), .ref (md 23), .ref (md 24), .ref (md 25), .ref (md 26), .ref (md 27), .ref (md 28), .int 1, .int 1, .int 560, .int 0, .int 0, .int 0, .int 0, .int 0, .int 0, .int 0, .int 0, .ref (md 40), .ref (md 41), .int 0, .int 0, .ref (md 44), .int 0, .int 0, .ref (md 47), .ref (md 48), .int 0, .ref (md 50), .ref (md 51), .ref (md 52), .ref (md 53), .ref (md 54), .int 0, .int 0, .ref (md 57), .ref (md 58)]))] := hD
    exact W.vret hx hb hr (fun t ht hW => ⟨⟨(fun _ => upd (upd (upd f1852 0 0) 105 (-1)) 109 0), rfl, (allz_of hinv), cE.of ht hP hD [2, 0, 1, 3] (by decide) rfl⟩, hS.F ht⟩) hS.2.2 dX7_layTold_99
  | succ n ih =>
    refine lv_iload_n hx hb dX7_layTold_2 rfl (lv_at hl 0 rfl) ?_
    refine lv_sipush (v := 520) hx hb dX7_layTold_3 (by decide) ?_
    refine lv_icmp_ge (tgt := 22) hx hb dX7_layTold_6 (by decide) (fun c1857 => ?_) (fun c1857 => ?_)
    · have c1857 := i_le (a := 520) (b := (k : Int)) c1857 (by decide) (nI_toInt (by omega))
      exfalso; omega
    · have c1857 := i_nle (a := 520) (b := (k : Int)) c1857 (by decide) (nI_toInt (by omega))
      refine lv_aload_n hx hb dX7_layTold_9 rfl (lv_at hl 1 rfl) ?_
      refine va_get (D := (dC, dI)) (ci := 7) (v := .ref (md 40)) (C := RX7) (T := TX7) (N := 59) hx hb hts hi7 hown hK hP 3 rfl rfl 40 (by decide) (hts _ (ow_m (k := 0) rfl)) (fun _ h9 => h9) rfl dX7_layTold_10 ?_
      refine lv_iload_n hx hb dX7_layTold_13 rfl (lv_at hl 0 rfl) ?_
      refine lv_iconst (v := 0) hx hb dX7_layTold_14 (by decide) ?_
      refine va_iast hx hb hK hP hD hS 0 1 rfl rfl (vp_i (nI_toInt (by omega)) (by omega) (by omega)) dX7_layTold_15 (fun H locs hP hD hS => ?_)
      have hP : va_P (dC, dI) vwCl [(md 40, .inl (cyI, 520, .inl (upd f1852 (nI k).toNatClampNeg 0))), (md 12, .inl (cyI, 2, .inl (fun _ => 0))), (md 17, .inl (cyI, 2, .inl (fun _ => 0))), (h1, .inr (7, [.ref (md 0), .ref (md 1), .int 0, .int 0, .int 0, .int (-1), .int 0, .int 0, .int 0, .int 0, .long 0, .ref (md 11), .ref (md 12), .ref (md 13), .ref (md 14), .ref (md 15), .ref (md 16), .ref (md 17), .ref (md 18), .ref (md 19), .ref (md 20), .ref (md 21), .ref (md 22), .ref (md 23), .ref (md 24), .ref (md 25), .ref (md 26), .ref (md 27), .ref (md 28), .int 1, .int 1, .int 560, .int 0, .int 0, .int 0, .int 0, .int 0, .int 0, .int 0, .int 0, .ref (md 40), .ref (md 41), .int 0, .int 0, .ref (md 44), .int 0, .int 0, .ref (md 47), .ref (md 48), .int 0, .ref (md 50), .ref (md 51), .ref (md 52), .ref (md 53), .ref (md 54), .int 0, .int 0, .ref (md 57), .ref (md 58)]))] H := hP
      have hD : va_D A [(md 40, .inl (cyI, 520, .inl (upd f1852 (nI k).toNatClampNeg 0))), (md 12, .inl (cyI, 2, .inl (fun _ => 0))), (md 17, .inl (cyI, 2, .inl (fun _ => 0))), (h1, .inr (7, [.ref (md 0), .ref (md 1), .int 0, .int 0, .int 0, .int (-1), .int 0, .int 0, .int 0, .int 0, .long 0, .ref (md 11), .ref (md 12), .ref (md 13), .ref (md 14), .ref (md 15), .ref (md 16), .ref (md 17), .ref (md 18), .ref (md 19), .ref (md 20), .ref (md 21), .ref (md 22), .ref (md 23), .ref (md 24), .ref (md 25), .ref (md 26), .ref (md 27), .ref (md 28), .int 1, .int 1, .int 560, .int 0, .int 0, .int 0, .int 0, .int 0, .int 0, .int 0, .int 0, .ref (md 40), .ref (md 41), .int 0, .int 0, .ref (md 44), .int 0, .int 0, .ref (md 47), .ref (md 48), .int 0, .ref (md 50), .ref (md 51), .ref (md 52), .ref (md 53), .ref (md 54), .int 0, .int 0, .ref (md 57), .ref (md 58)]))] := hD
      refine lv_iinc (v := nI (k + 1)) (lv' := [(1, .int (nI (k + 1))), (0, .ref h1)]) hx hb dX7_layTold_16 hl (k := 0) rfl (nI_1 k) (by decide) rfl (fun ls hl => ?_)
      refine lv_goto (tgt := 2) hx hb dX7_layTold_19 (by decide) ?_
      have hl := lv_sub (l' := [(1, .int (nI (k + 1))), (0, .ref h1)]) hl [0, 1] rfl
      have hinv := inv_z hinv (by omega)
      apply ih (k := k + 1) (f1852 := upd f1852 (nI k).toNatClampNeg 0) <;> first | assumption | omega
def wo_k_X7_lots_v3 : List Cond := [.fieldLink RX7 76 "ReplicaChainModel" "all" "[I"]
def wq_k_X7_lots_v3 : List Cond := .code yX7_lots cX7_lots 1 (some .int) :: (wo_k_X7_lots_v3 ++ (wsX70 ++ []))
theorem gd_k_X7_lots_v3 : Gd wq_k_X7_lots_v3 := gd_c (gd_a (gd_o (by decide +kernel)) (gd_a gd_u gd_0))
abbrev wc_k_X7_lots_v3 (cyB cyI cyJ cyZ cyO : ClassId) (md : Nat → Nat) (f1864 : Nat → Int32) (h1 : Nat) : va_W := [(md 40, .inl (cyI, 520, .inl (upd f1864 0 0))), (h1, .inr (7, [.ref (md 0), .ref (md 1), .int 0, .int 0, .int 0, .int (-1), .int 0, .int 0, .int 0, .int 0, .long 0, .ref (md 11), .ref (md 12), .ref (md 13), .ref (md 14), .ref (md 15), .ref (md 16), .ref (md 17), .ref (md 18), .ref (md 19), .ref (md 20), .ref (md 21), .ref (md 22), .ref (md 23), .ref (md 24), .ref (md 25), .ref (md 26), .ref (md 27), .ref (md 28), .int 1, .int 1, .int 560, .int 0, .int 0, .int 0, .int 0, .int 0, .int 0, .int 0, .int 0, .ref (md 40), .ref (md 41), .int 0, .int 0, .ref (md 44), .int 0, .int 0, .ref (md 47), .ref (md 48), .int 0, .ref (md 50), .ref (md 51), .ref (md 52), .ref (md 53), .ref (md 54), .int 0, .int 0, .ref (md 57), .ref (md 58)]))]
set_option maxHeartbeats 4000000 in
set_option maxRecDepth 100000 in
theorem k_X7_lots_v3 (l : Launch) (dC : Nat → ClassId) (dI : Nat → Nat → Nat) (cyB cyI cyJ cyZ cyO : ClassId) (md : Nat → Nat) (f1864 : Nat → Int32) (h1 : Nat) (sz : Nat) : Met l yX7_lots wq_k_X7_lots_v3 ({ frames := 0, cells := 0, slots := 0, locals := 0 }) (va_Pc [.ref h1] (cB (dC, dI) (kT cyB cyI cyJ cyZ cyO) (wc_k_X7_lots_v3 cyB cyI cyJ cyZ cyO md f1864 h1) sz)) (va_Qi (fun (r : Int32) _ => r = 0) (fun (u : Unit) t => cE (dC, dI) (va_A (wc_k_X7_lots_v3 cyB cyI cyJ cyZ cyO md f1864 h1) sz) ([(md 40, .inl (cyI, 520, .inl (upd f1864 0 0))), (h1, .inr (7, [.ref (md 0), .ref (md 1), .int 0, .int 0, .int 0, .int (-1), .int 0, .int 0, .int 0, .int 0, .long 0, .ref (md 11), .ref (md 12), .ref (md 13), .ref (md 14), .ref (md 15), .ref (md 16), .ref (md 17), .ref (md 18), .ref (md 19), .ref (md 20), .ref (md 21), .ref (md 22), .ref (md 23), .ref (md 24), .ref (md 25), .ref (md 26), .ref (md 27), .ref (md 28), .int 1, .int 1, .int 560, .int 0, .int 0, .int 0, .int 0, .int 0, .int 0, .int 0, .int 0, .ref (md 40), .ref (md 41), .int 0, .int 0, .ref (md 44), .int 0, .int 0, .ref (md 47), .ref (md 48), .int 0, .ref (md 50), .ref (md 51), .ref (md 52), .ref (md 53), .ref (md 54), .int 0, .int 0, .ref (md 57), .ref (md 58)]))]) t.heap) (va_A (wc_k_X7_lots_v3 cyB cyI cyJ cyZ cyO md f1864 h1) sz)) 0 0 (va_A (wc_k_X7_lots_v3 cyB cyI cyJ cyZ cyO md f1864 h1) sz) := by
  refine Met.ofW (cc := cX7_lots) (maxL := 1) (ret := (some .int)) (by decide) rfl ?_
  intro p e s m args below meth c s₁ B hml hv
  obtain ⟨rfl, hsz, hP, hKN, hD0⟩ := hv
  have hx := B.exec
  have hb := B.bytes
  have hr := B.returns
  have hts := atoms_spec (ws := wq_k_X7_lots_v3) B.pre
  have hown : s.vm.findClass RX7 = some m.cls := findClass_of_methodNamed B.named
  have hlocks := B.notSynchronized
  have hK := hKN.1
  have hfix : CallFix p m c cX7_lots 1 s [.ref h1].toArray wq_k_X7_lots_v3 RX7 := ⟨hx, hb, hml, hown, hts⟩
  have hi7 : ∀ w ∈ wsX70, w ∈ wq_k_X7_lots_v3 := (sb_c sb_l)
  subst hsz
  have hD := hD0.self (sz := s.heap.size)
  generalize hAe : va_A (wc_k_X7_lots_v3 cyB cyI cyJ cyZ cyO md f1864 h1) s.heap.size = A at hD ⊢
  have hA : ∀ q : Nat, s.heap.size ≤ q → A q := fun q h => by rw [← hAe]; exact Or.inr h
  have hS : va_S A s.heap s.heap [] := va_S.rf
  have hl := lv_entry ([.ref h1]) (n := 1) (Nat.le_of_ble_eq_true rfl)
  rw [lg_entry_eq]
  generalize (lg_sl ([.ref h1]) ++ List.replicate (1 - (lg_sl ([.ref h1])).length) Slot.unset).toArray = ls at hl ⊢
  have hl : lv_has ls 1 [(0, .ref h1)] := hl
  refine lv_aload_n hx hb dX7_lots_0 rfl (lv_at hl 0 rfl) ?_
  refine va_get (D := (dC, dI)) (ci := 7) (v := .ref (md 40)) (C := RX7) (T := TX7) (N := 59) hx hb hts hi7 hown hK hP 1 rfl rfl 40 (by decide) (hts _ (ow_m (k := 0) rfl)) (fun _ h9 => h9) rfl dX7_lots_1 ?_
  refine lv_iconst (v := 0) hx hb dX7_lots_4 (by decide) ?_
  refine va_iald hx hb hK hP 0 1 rfl rfl (vp_i (a := 0) (by decide) (by decide) (by decide)) dX7_lots_5 ?_
  refine tp_c (w := 0) (by rfl) ?_
  exact W.iret (v := 0) hx hb hr (fun t ht hW => ⟨⟨0, (), rfl, rfl, cE.of ht hP hD [0, 1] (by decide) rfl⟩, hS.F ht⟩) hS.2.2 dX7_lots_6
def wo_k_X7_startAnew : List Cond := [.methodLink RX7 326 yX7_layTold, .instanceMethod yX7_layTold, .selects RX7 yX7_layTold yX7_layTold, .initialized RX7, .fieldLink RX7 329 "ReplicaChainModel" "acts" "I", .fieldLink RX7 332 "ReplicaChainModel" "undone" "I", .fieldLink RX7 335 "ReplicaChainModel" "seens" "I", .fieldLink RX7 338 "ReplicaChainModel" "laid" "I", .fieldLink RX7 109 "ReplicaChainModel" "isBoxed" "[Z"]
def wq_k_X7_startAnew : List Cond := .code yX7_startAnew cX7_startAnew 2 none :: (wo_k_X7_startAnew ++ (wq_k_X7_layTold ++ (wsX70 ++ [])))
theorem gd_k_X7_startAnew : Gd wq_k_X7_startAnew := gd_c (gd_a (gd_o (by decide +kernel)) (gd_a gd_k_X7_layTold (gd_a gd_u gd_0)))
abbrev wc_k_X7_startAnew (cyB cyI cyJ cyZ cyO : ClassId) (md : Nat → Nat) (g : Nat → Int32) (h1 : Nat) : va_W := [(md 40, .inl (cyI, 520, .inl g)), (md 58, .inl (cyZ, 3, .inl (fun _ => 0))), (md 12, .inl (cyI, 2, .inl (fun _ => 0))), (md 17, .inl (cyI, 2, .inl (fun _ => 0))), (h1, .inr (7, [.ref (md 0), .ref (md 1), .int 0, .int 0, .int 0, .int (-1), .int 0, .int 0, .int 0, .int 0, .long 0, .ref (md 11), .ref (md 12), .ref (md 13), .ref (md 14), .ref (md 15), .ref (md 16), .ref (md 17), .ref (md 18), .ref (md 19), .ref (md 20), .ref (md 21), .ref (md 22), .ref (md 23), .ref (md 24), .ref (md 25), .ref (md 26), .ref (md 27), .ref (md 28), .int 1, .int 1, .int 560, .int 0, .int 0, .int 0, .int 0, .int 0, .int 0, .int 0, .int 0, .ref (md 40), .ref (md 41), .int 0, .int 0, .ref (md 44), .int 0, .int 0, .ref (md 47), .ref (md 48), .int 0, .ref (md 50), .ref (md 51), .ref (md 52), .ref (md 53), .ref (md 54), .int 0, .int 0, .ref (md 57), .ref (md 58)]))]
set_option maxHeartbeats 4000000 in
set_option maxRecDepth 100000 in
theorem k_X7_startAnew (l : Launch) (dC : Nat → ClassId) (dI : Nat → Nat → Nat) (cyB cyI cyJ cyZ cyO : ClassId) (md : Nat → Nat) (g : Nat → Int32) (h1 : Nat) (sz : Nat) (hg : AllZ g) : Met l yX7_startAnew wq_k_X7_startAnew ({ frames := 2, cells := 0, slots := 0, locals := 41 }) (va_Pc [.ref h1] (cB (dC, dI) (kT cyB cyI cyJ cyZ cyO) (wc_k_X7_startAnew cyB cyI cyJ cyZ cyO md g h1) sz)) (va_Qv (fun u => AllZ (u 0)) (fun (u : Nat → Nat → Int32) t => cE (dC, dI) (va_A (wc_k_X7_startAnew cyB cyI cyJ cyZ cyO md g h1) sz) ([(md 40, .inl (cyI, 520, .inl (u 0))), (md 58, .inl (cyZ, 3, .inl (fun _ => 0))), (md 12, .inl (cyI, 2, .inl (fun _ => 0))), (md 17, .inl (cyI, 2, .inl (fun _ => 0))), (h1, .inr (7, [.ref (md 0), .ref (md 1), .int 0, .int 0, .int 0, .int (-1), .int 0, .int 0, .int 0, .int 0, .long 0, .ref (md 11), .ref (md 12), .ref (md 13), .ref (md 14), .ref (md 15), .ref (md 16), .ref (md 17), .ref (md 18), .ref (md 19), .ref (md 20), .ref (md 21), .ref (md 22), .ref (md 23), .ref (md 24), .ref (md 25), .ref (md 26), .ref (md 27), .ref (md 28), .int 1, .int 1, .int 560, .int 0, .int 0, .int 0, .int 0, .int 0, .int 0, .int 0, .int 0, .ref (md 40), .ref (md 41), .int 0, .int 0, .ref (md 44), .int 0, .int 0, .ref (md 47), .ref (md 48), .int 0, .ref (md 50), .ref (md 51), .ref (md 52), .ref (md 53), .ref (md 54), .int 0, .int 0, .ref (md 57), .ref (md 58)]))]) t.heap) (va_A (wc_k_X7_startAnew cyB cyI cyJ cyZ cyO md g h1) sz)) 0 0 (va_A (wc_k_X7_startAnew cyB cyI cyJ cyZ cyO md g h1) sz) := by
  refine Met.ofW (cc := cX7_startAnew) (maxL := 2) (ret := none) (by decide) rfl ?_
  intro p e s m args below meth c s₁ B hml hv
  obtain ⟨rfl, hsz, hP, hKN, hD0⟩ := hv
  have hx := B.exec
  have hb := B.bytes
  have hr := B.returns
  have hts := atoms_spec (ws := wq_k_X7_startAnew) B.pre
  have hown : s.vm.findClass RX7 = some m.cls := findClass_of_methodNamed B.named
  have hlocks := B.notSynchronized
  have hK := hKN.1
  have hfix : CallFix p m c cX7_startAnew 2 s [.ref h1].toArray wq_k_X7_startAnew RX7 := ⟨hx, hb, hml, hown, hts⟩
  have hi7 : ∀ w ∈ wsX70, w ∈ wq_k_X7_startAnew := (sb_c (sb_r sb_l))
  subst hsz
  have hD := hD0.self (sz := s.heap.size)
  generalize hAe : va_A (wc_k_X7_startAnew cyB cyI cyJ cyZ cyO md g h1) s.heap.size = A at hD ⊢
  have hA : ∀ q : Nat, s.heap.size ≤ q → A q := fun q h => by rw [← hAe]; exact Or.inr h
  have hS : va_S A s.heap s.heap [] := va_S.rf
  have hl := lv_entry ([.ref h1]) (n := 2) (Nat.le_of_ble_eq_true rfl)
  rw [lg_entry_eq]
  generalize (lg_sl ([.ref h1]) ++ List.replicate (2 - (lg_sl ([.ref h1])).length) Slot.unset).toArray = ls at hl ⊢
  have hl : lv_has ls 2 [(0, .ref h1)] := hl
  refine lv_aload_n hx hb dX7_startAnew_0 rfl (lv_at hl 0 rfl) ?_
  refine gf_v (wr := [(md 58, .inl (cyZ, 3, .inl (fun _ => 0)))]) (va_runV (As := []) (rest := []) hfix (k_X7_layTold l dC dI cyB cyI cyJ cyZ cyO md g h1 _ hg) (cwV 0 hts (gi_V (ow_m (k := 0) rfl) (ow_m (k := 1) rfl) (ow_m (k := 2) rfl) (ow_m (k := 3) rfl) (sb_c sb_l) gd_k_X7_layTold) rfl rfl rfl (by decide +kernel) ⟨Nat.le_of_ble_eq_true rfl, Nat.le_of_ble_eq_true rfl⟩) (g_preV hKN hP hD [0, 2, 3, 4] rfl (by decide) 3 7 rfl rfl) rfl rfl hl.1 rfl (lv_room (Nat.le_of_ble_eq_true rfl)) dX7_startAnew_1 ⟨Nat.le_of_ble_eq_true rfl, Nat.le_of_ble_eq_true rfl⟩) hP hD hS hA [0, 2, 3, 4] [1] rfl rfl (by decide) (by decide) (fun u1871 H locs qu1871 hP hD hS => ?_)
  have hP : va_P (dC, dI) vwCl [(md 58, .inl (cyZ, 3, .inl (fun _ => 0))), (md 40, .inl (cyI, 520, .inl (u1871 0))), (md 12, .inl (cyI, 2, .inl (fun _ => 0))), (md 17, .inl (cyI, 2, .inl (fun _ => 0))), (h1, .inr (7, [.ref (md 0), .ref (md 1), .int 0, .int 0, .int 0, .int (-1), .int 0, .int 0, .int 0, .int 0, .long 0, .ref (md 11), .ref (md 12), .ref (md 13), .ref (md 14), .ref (md 15), .ref (md 16), .ref (md 17), .ref (md 18), .ref (md 19), .ref (md 20), .ref (md 21), .ref (md 22), .ref (md 23), .ref (md 24), .ref (md 25), .ref (md 26), .ref (md 27), .ref (md 28), .int 1, .int 1, .int 560, .int 0, .int 0, .int 0, .int 0, .int 0, .int 0, .int 0, .int 0, .ref (md 40), .ref (md 41), .int 0, .int 0, .ref (md 44), .int 0, .int 0, .ref (md 47), .ref (md 48), .int 0, .ref (md 50), .ref (md 51), .ref (md 52), .ref (md 53), .ref (md 54), .int 0, .int 0, .ref (md 57), .ref (md 58)]))] H := hP
  have hD : va_D A [(md 58, .inl (cyZ, 3, .inl (fun _ => 0))), (md 40, .inl (cyI, 520, .inl (u1871 0))), (md 12, .inl (cyI, 2, .inl (fun _ => 0))), (md 17, .inl (cyI, 2, .inl (fun _ => 0))), (h1, .inr (7, [.ref (md 0), .ref (md 1), .int 0, .int 0, .int 0, .int (-1), .int 0, .int 0, .int 0, .int 0, .long 0, .ref (md 11), .ref (md 12), .ref (md 13), .ref (md 14), .ref (md 15), .ref (md 16), .ref (md 17), .ref (md 18), .ref (md 19), .ref (md 20), .ref (md 21), .ref (md 22), .ref (md 23), .ref (md 24), .ref (md 25), .ref (md 26), .ref (md 27), .ref (md 28), .int 1, .int 1, .int 560, .int 0, .int 0, .int 0, .int 0, .int 0, .int 0, .int 0, .int 0, .ref (md 40), .ref (md 41), .int 0, .int 0, .ref (md 44), .int 0, .int 0, .ref (md 47), .ref (md 48), .int 0, .ref (md 50), .ref (md 51), .ref (md 52), .ref (md 53), .ref (md 54), .int 0, .int 0, .ref (md 57), .ref (md 58)]))] := hD
  refine lv_aload_n hx hb dX7_startAnew_4 rfl (lv_at hl 0 rfl) ?_
  refine lv_iconst (v := 0) hx hb dX7_startAnew_5 (by decide) ?_
  refine va_put (D := (dC, dI)) (ci := 7) (v := .int 0) (ty := .int) (C := RX7) (T := TX7) (N := 59) hx hb hts hi7 tyX7 tyX7_ok nmX7 hown hK hP hD hS 4 rfl rfl 45 (by decide) (hts _ (ow_m (k := 4) rfl)) (fun _ h9 => h9) rfl (by decide +kernel) rfl rfl (Nat.le_of_ble_eq_true rfl) dX7_startAnew_6 (fun H locs hP hD hS => ?_)
  have hP : va_P (dC, dI) vwCl [(md 58, .inl (cyZ, 3, .inl (fun _ => 0))), (md 40, .inl (cyI, 520, .inl (u1871 0))), (md 12, .inl (cyI, 2, .inl (fun _ => 0))), (md 17, .inl (cyI, 2, .inl (fun _ => 0))), (h1, .inr (7, [.ref (md 0), .ref (md 1), .int 0, .int 0, .int 0, .int (-1), .int 0, .int 0, .int 0, .int 0, .long 0, .ref (md 11), .ref (md 12), .ref (md 13), .ref (md 14), .ref (md 15), .ref (md 16), .ref (md 17), .ref (md 18), .ref (md 19), .ref (md 20), .ref (md 21), .ref (md 22), .ref (md 23), .ref (md 24), .ref (md 25), .ref (md 26), .ref (md 27), .ref (md 28), .int 1, .int 1, .int 560, .int 0, .int 0, .int 0, .int 0, .int 0, .int 0, .int 0, .int 0, .ref (md 40), .ref (md 41), .int 0, .int 0, .ref (md 44), .int 0, .int 0, .ref (md 47), .ref (md 48), .int 0, .ref (md 50), .ref (md 51), .ref (md 52), .ref (md 53), .ref (md 54), .int 0, .int 0, .ref (md 57), .ref (md 58)]))] H := hP
  have hD : va_D A [(md 58, .inl (cyZ, 3, .inl (fun _ => 0))), (md 40, .inl (cyI, 520, .inl (u1871 0))), (md 12, .inl (cyI, 2, .inl (fun _ => 0))), (md 17, .inl (cyI, 2, .inl (fun _ => 0))), (h1, .inr (7, [.ref (md 0), .ref (md 1), .int 0, .int 0, .int 0, .int (-1), .int 0, .int 0, .int 0, .int 0, .long 0, .ref (md 11), .ref (md 12), .ref (md 13), .ref (md 14), .ref (md 15), .ref (md 16), .ref (md 17), .ref (md 18), .ref (md 19), .ref (md 20), .ref (md 21), .ref (md 22), .ref (md 23), .ref (md 24), .ref (md 25), .ref (md 26), .ref (md 27), .ref (md 28), .int 1, .int 1, .int 560, .int 0, .int 0, .int 0, .int 0, .int 0, .int 0, .int 0, .int 0, .ref (md 40), .ref (md 41), .int 0, .int 0, .ref (md 44), .int 0, .int 0, .ref (md 47), .ref (md 48), .int 0, .ref (md 50), .ref (md 51), .ref (md 52), .ref (md 53), .ref (md 54), .int 0, .int 0, .ref (md 57), .ref (md 58)]))] := hD
  refine lv_aload_n hx hb dX7_startAnew_9 rfl (lv_at hl 0 rfl) ?_
  refine lv_iconst (v := 0) hx hb dX7_startAnew_10 (by decide) ?_
  refine va_put (D := (dC, dI)) (ci := 7) (v := .int 0) (ty := .int) (C := RX7) (T := TX7) (N := 59) hx hb hts hi7 tyX7 tyX7_ok nmX7 hown hK hP hD hS 4 rfl rfl 46 (by decide) (hts _ (ow_m (k := 5) rfl)) (fun _ h9 => h9) rfl (by decide +kernel) rfl rfl (Nat.le_of_ble_eq_true rfl) dX7_startAnew_11 (fun H locs hP hD hS => ?_)
  have hP : va_P (dC, dI) vwCl [(md 58, .inl (cyZ, 3, .inl (fun _ => 0))), (md 40, .inl (cyI, 520, .inl (u1871 0))), (md 12, .inl (cyI, 2, .inl (fun _ => 0))), (md 17, .inl (cyI, 2, .inl (fun _ => 0))), (h1, .inr (7, [.ref (md 0), .ref (md 1), .int 0, .int 0, .int 0, .int (-1), .int 0, .int 0, .int 0, .int 0, .long 0, .ref (md 11), .ref (md 12), .ref (md 13), .ref (md 14), .ref (md 15), .ref (md 16), .ref (md 17), .ref (md 18), .ref (md 19), .ref (md 20), .ref (md 21), .ref (md 22), .ref (md 23), .ref (md 24), .ref (md 25), .ref (md 26), .ref (md 27), .ref (md 28), .int 1, .int 1, .int 560, .int 0, .int 0, .int 0, .int 0, .int 0, .int 0, .int 0, .int 0, .ref (md 40), .ref (md 41), .int 0, .int 0, .ref (md 44), .int 0, .int 0, .ref (md 47), .ref (md 48), .int 0, .ref (md 50), .ref (md 51), .ref (md 52), .ref (md 53), .ref (md 54), .int 0, .int 0, .ref (md 57), .ref (md 58)]))] H := hP
  have hD : va_D A [(md 58, .inl (cyZ, 3, .inl (fun _ => 0))), (md 40, .inl (cyI, 520, .inl (u1871 0))), (md 12, .inl (cyI, 2, .inl (fun _ => 0))), (md 17, .inl (cyI, 2, .inl (fun _ => 0))), (h1, .inr (7, [.ref (md 0), .ref (md 1), .int 0, .int 0, .int 0, .int (-1), .int 0, .int 0, .int 0, .int 0, .long 0, .ref (md 11), .ref (md 12), .ref (md 13), .ref (md 14), .ref (md 15), .ref (md 16), .ref (md 17), .ref (md 18), .ref (md 19), .ref (md 20), .ref (md 21), .ref (md 22), .ref (md 23), .ref (md 24), .ref (md 25), .ref (md 26), .ref (md 27), .ref (md 28), .int 1, .int 1, .int 560, .int 0, .int 0, .int 0, .int 0, .int 0, .int 0, .int 0, .int 0, .ref (md 40), .ref (md 41), .int 0, .int 0, .ref (md 44), .int 0, .int 0, .ref (md 47), .ref (md 48), .int 0, .ref (md 50), .ref (md 51), .ref (md 52), .ref (md 53), .ref (md 54), .int 0, .int 0, .ref (md 57), .ref (md 58)]))] := hD
  refine lv_aload_n hx hb dX7_startAnew_14 rfl (lv_at hl 0 rfl) ?_
  refine lv_iconst (v := 0) hx hb dX7_startAnew_15 (by decide) ?_
  refine va_put (D := (dC, dI)) (ci := 7) (v := .int 0) (ty := .int) (C := RX7) (T := TX7) (N := 59) hx hb hts hi7 tyX7 tyX7_ok nmX7 hown hK hP hD hS 4 rfl rfl 55 (by decide) (hts _ (ow_m (k := 6) rfl)) (fun _ h9 => h9) rfl (by decide +kernel) rfl rfl (Nat.le_of_ble_eq_true rfl) dX7_startAnew_16 (fun H locs hP hD hS => ?_)
  have hP : va_P (dC, dI) vwCl [(md 58, .inl (cyZ, 3, .inl (fun _ => 0))), (md 40, .inl (cyI, 520, .inl (u1871 0))), (md 12, .inl (cyI, 2, .inl (fun _ => 0))), (md 17, .inl (cyI, 2, .inl (fun _ => 0))), (h1, .inr (7, [.ref (md 0), .ref (md 1), .int 0, .int 0, .int 0, .int (-1), .int 0, .int 0, .int 0, .int 0, .long 0, .ref (md 11), .ref (md 12), .ref (md 13), .ref (md 14), .ref (md 15), .ref (md 16), .ref (md 17), .ref (md 18), .ref (md 19), .ref (md 20), .ref (md 21), .ref (md 22), .ref (md 23), .ref (md 24), .ref (md 25), .ref (md 26), .ref (md 27), .ref (md 28), .int 1, .int 1, .int 560, .int 0, .int 0, .int 0, .int 0, .int 0, .int 0, .int 0, .int 0, .ref (md 40), .ref (md 41), .int 0, .int 0, .ref (md 44), .int 0, .int 0, .ref (md 47), .ref (md 48), .int 0, .ref (md 50), .ref (md 51), .ref (md 52), .ref (md 53), .ref (md 54), .int 0, .int 0, .ref (md 57), .ref (md 58)]))] H := hP
  have hD : va_D A [(md 58, .inl (cyZ, 3, .inl (fun _ => 0))), (md 40, .inl (cyI, 520, .inl (u1871 0))), (md 12, .inl (cyI, 2, .inl (fun _ => 0))), (md 17, .inl (cyI, 2, .inl (fun _ => 0))), (h1, .inr (7, [.ref (md 0), .ref (md 1), .int 0, .int 0, .int 0, .int (-1), .int 0, .int 0, .int 0, .int 0, .long 0, .ref (md 11), .ref (md 12), .ref (md 13), .ref (md 14), .ref (md 15), .ref (md 16), .ref (md 17), .ref (md 18), .ref (md 19), .ref (md 20), .ref (md 21), .ref (md 22), .ref (md 23), .ref (md 24), .ref (md 25), .ref (md 26), .ref (md 27), .ref (md 28), .int 1, .int 1, .int 560, .int 0, .int 0, .int 0, .int 0, .int 0, .int 0, .int 0, .int 0, .ref (md 40), .ref (md 41), .int 0, .int 0, .ref (md 44), .int 0, .int 0, .ref (md 47), .ref (md 48), .int 0, .ref (md 50), .ref (md 51), .ref (md 52), .ref (md 53), .ref (md 54), .int 0, .int 0, .ref (md 57), .ref (md 58)]))] := hD
  refine lv_aload_n hx hb dX7_startAnew_19 rfl (lv_at hl 0 rfl) ?_
  refine lv_iconst (v := 0) hx hb dX7_startAnew_20 (by decide) ?_
  refine va_put (D := (dC, dI)) (ci := 7) (v := .int 0) (ty := .int) (C := RX7) (T := TX7) (N := 59) hx hb hts hi7 tyX7 tyX7_ok nmX7 hown hK hP hD hS 4 rfl rfl 49 (by decide) (hts _ (ow_m (k := 7) rfl)) (fun _ h9 => h9) rfl (by decide +kernel) rfl rfl (Nat.le_of_ble_eq_true rfl) dX7_startAnew_21 (fun H locs hP hD hS => ?_)
  have hP : va_P (dC, dI) vwCl [(md 58, .inl (cyZ, 3, .inl (fun _ => 0))), (md 40, .inl (cyI, 520, .inl (u1871 0))), (md 12, .inl (cyI, 2, .inl (fun _ => 0))), (md 17, .inl (cyI, 2, .inl (fun _ => 0))), (h1, .inr (7, [.ref (md 0), .ref (md 1), .int 0, .int 0, .int 0, .int (-1), .int 0, .int 0, .int 0, .int 0, .long 0, .ref (md 11), .ref (md 12), .ref (md 13), .ref (md 14), .ref (md 15), .ref (md 16), .ref (md 17), .ref (md 18), .ref (md 19), .ref (md 20), .ref (md 21), .ref (md 22), .ref (md 23), .ref (md 24), .ref (md 25), .ref (md 26), .ref (md 27), .ref (md 28), .int 1, .int 1, .int 560, .int 0, .int 0, .int 0, .int 0, .int 0, .int 0, .int 0, .int 0, .ref (md 40), .ref (md 41), .int 0, .int 0, .ref (md 44), .int 0, .int 0, .ref (md 47), .ref (md 48), .int 0, .ref (md 50), .ref (md 51), .ref (md 52), .ref (md 53), .ref (md 54), .int 0, .int 0, .ref (md 57), .ref (md 58)]))] H := hP
  have hD : va_D A [(md 58, .inl (cyZ, 3, .inl (fun _ => 0))), (md 40, .inl (cyI, 520, .inl (u1871 0))), (md 12, .inl (cyI, 2, .inl (fun _ => 0))), (md 17, .inl (cyI, 2, .inl (fun _ => 0))), (h1, .inr (7, [.ref (md 0), .ref (md 1), .int 0, .int 0, .int 0, .int (-1), .int 0, .int 0, .int 0, .int 0, .long 0, .ref (md 11), .ref (md 12), .ref (md 13), .ref (md 14), .ref (md 15), .ref (md 16), .ref (md 17), .ref (md 18), .ref (md 19), .ref (md 20), .ref (md 21), .ref (md 22), .ref (md 23), .ref (md 24), .ref (md 25), .ref (md 26), .ref (md 27), .ref (md 28), .int 1, .int 1, .int 560, .int 0, .int 0, .int 0, .int 0, .int 0, .int 0, .int 0, .int 0, .ref (md 40), .ref (md 41), .int 0, .int 0, .ref (md 44), .int 0, .int 0, .ref (md 47), .ref (md 48), .int 0, .ref (md 50), .ref (md 51), .ref (md 52), .ref (md 53), .ref (md 54), .int 0, .int 0, .ref (md 57), .ref (md 58)]))] := hD
  refine lv_iconst (v := 0) hx hb dX7_startAnew_24 (by decide) ?_
  refine lv_istore_n (lv' := [(1, .int 0), (0, .ref h1)]) hx hb dX7_startAnew_25 rfl hl (by decide) rfl (fun ls hl => ?_)
  refine lv_iload_n hx hb dX7_startAnew_26 rfl (lv_at hl 0 rfl) ?_
  refine lv_iconst (v := 3) hx hb dX7_startAnew_27 (by decide) ?_
  refine lv_icmp_ge (tgt := 44) hx hb dX7_startAnew_28 (by decide) (fun c1872 => absurd c1872 (by decide)) (fun _ => ?_)
  refine lv_aload_n hx hb dX7_startAnew_31 rfl (lv_at hl 1 rfl) ?_
  refine va_get (D := (dC, dI)) (ci := 7) (v := .ref (md 58)) (C := RX7) (T := TX7) (N := 59) hx hb hts hi7 hown hK hP 4 rfl rfl 58 (by decide) (hts _ (ow_m (k := 8) rfl)) (fun _ h9 => h9) rfl dX7_startAnew_32 ?_
  refine lv_iload_n hx hb dX7_startAnew_35 rfl (lv_at hl 0 rfl) ?_
  refine lv_iconst (v := 0) hx hb dX7_startAnew_36 (by decide) ?_
  refine va_zast hx hb hK hP hD hS 0 3 rfl rfl (vp_i (a := 0) (by decide) (by decide) (by decide)) dX7_startAnew_37 (fun H locs hP hD hS => ?_)
  have hP : va_P (dC, dI) vwCl [(md 58, .inl (cyZ, 3, .inl (upd (fun _ => 0) 0 0))), (md 40, .inl (cyI, 520, .inl (u1871 0))), (md 12, .inl (cyI, 2, .inl (fun _ => 0))), (md 17, .inl (cyI, 2, .inl (fun _ => 0))), (h1, .inr (7, [.ref (md 0), .ref (md 1), .int 0, .int 0, .int 0, .int (-1), .int 0, .int 0, .int 0, .int 0, .long 0, .ref (md 11), .ref (md 12), .ref (md 13), .ref (md 14), .ref (md 15), .ref (md 16), .ref (md 17), .ref (md 18), .ref (md 19), .ref (md 20), .ref (md 21), .ref (md 22), .ref (md 23), .ref (md 24), .ref (md 25), .ref (md 26), .ref (md 27), .ref (md 28), .int 1, .int 1, .int 560, .int 0, .int 0, .int 0, .int 0, .int 0, .int 0, .int 0, .int 0, .ref (md 40), .ref (md 41), .int 0, .int 0, .ref (md 44), .int 0, .int 0, .ref (md 47), .ref (md 48), .int 0, .ref (md 50), .ref (md 51), .ref (md 52), .ref (md 53), .ref (md 54), .int 0, .int 0, .ref (md 57), .ref (md 58)]))] H := hP
  have hD : va_D A [(md 58, .inl (cyZ, 3, .inl (upd (fun _ => 0) 0 0))), (md 40, .inl (cyI, 520, .inl (u1871 0))), (md 12, .inl (cyI, 2, .inl (fun _ => 0))), (md 17, .inl (cyI, 2, .inl (fun _ => 0))), (h1, .inr (7, [.ref (md 0), .ref (md 1), .int 0, .int 0, .int 0, .int (-1), .int 0, .int 0, .int 0, .int 0, .long 0, .ref (md 11), .ref (md 12), .ref (md 13), .ref (md 14), .ref (md 15), .ref (md 16), .ref (md 17), .ref (md 18), .ref (md 19), .ref (md 20), .ref (md 21), .ref (md 22), .ref (md 23), .ref (md 24), .ref (md 25), .ref (md 26), .ref (md 27), .ref (md 28), .int 1, .int 1, .int 560, .int 0, .int 0, .int 0, .int 0, .int 0, .int 0, .int 0, .int 0, .ref (md 40), .ref (md 41), .int 0, .int 0, .ref (md 44), .int 0, .int 0, .ref (md 47), .ref (md 48), .int 0, .ref (md 50), .ref (md 51), .ref (md 52), .ref (md 53), .ref (md 54), .int 0, .int 0, .ref (md 57), .ref (md 58)]))] := hD
  rw [upd_z] at hP hD
  refine lv_iinc (v := 1) (lv' := [(1, .int 1), (0, .ref h1)]) hx hb dX7_startAnew_38 hl (k := 0) rfl (by decide) (by decide) rfl (fun ls hl => ?_)
  refine lv_goto (tgt := 26) hx hb dX7_startAnew_41 (by decide) ?_
  refine lv_iload_n hx hb dX7_startAnew_26 rfl (lv_at hl 0 rfl) ?_
  refine lv_iconst (v := 3) hx hb dX7_startAnew_27 (by decide) ?_
  refine lv_icmp_ge (tgt := 44) hx hb dX7_startAnew_28 (by decide) (fun c1873 => absurd c1873 (by decide)) (fun _ => ?_)
  refine lv_aload_n hx hb dX7_startAnew_31 rfl (lv_at hl 1 rfl) ?_
  refine va_get (D := (dC, dI)) (ci := 7) (v := .ref (md 58)) (C := RX7) (T := TX7) (N := 59) hx hb hts hi7 hown hK hP 4 rfl rfl 58 (by decide) (hts _ (ow_m (k := 8) rfl)) (fun _ h9 => h9) rfl dX7_startAnew_32 ?_
  refine lv_iload_n hx hb dX7_startAnew_35 rfl (lv_at hl 0 rfl) ?_
  refine lv_iconst (v := 0) hx hb dX7_startAnew_36 (by decide) ?_
  refine va_zast hx hb hK hP hD hS 0 3 rfl rfl (vp_i (a := 1) (by decide) (by decide) (by decide)) dX7_startAnew_37 (fun H locs hP hD hS => ?_)
  have hP : va_P (dC, dI) vwCl [(md 58, .inl (cyZ, 3, .inl (upd (fun _ => 0) 1 0))), (md 40, .inl (cyI, 520, .inl (u1871 0))), (md 12, .inl (cyI, 2, .inl (fun _ => 0))), (md 17, .inl (cyI, 2, .inl (fun _ => 0))), (h1, .inr (7, [.ref (md 0), .ref (md 1), .int 0, .int 0, .int 0, .int (-1), .int 0, .int 0, .int 0, .int 0, .long 0, .ref (md 11), .ref (md 12), .ref (md 13), .ref (md 14), .ref (md 15), .ref (md 16), .ref (md 17), .ref (md 18), .ref (md 19), .ref (md 20), .ref (md 21), .ref (md 22), .ref (md 23), .ref (md 24), .ref (md 25), .ref (md 26), .ref (md 27), .ref (md 28), .int 1, .int 1, .int 560, .int 0, .int 0, .int 0, .int 0, .int 0, .int 0, .int 0, .int 0, .ref (md 40), .ref (md 41), .int 0, .int 0, .ref (md 44), .int 0, .int 0, .ref (md 47), .ref (md 48), .int 0, .ref (md 50), .ref (md 51), .ref (md 52), .ref (md 53), .ref (md 54), .int 0, .int 0, .ref (md 57), .ref (md 58)]))] H := hP
  have hD : va_D A [(md 58, .inl (cyZ, 3, .inl (upd (fun _ => 0) 1 0))), (md 40, .inl (cyI, 520, .inl (u1871 0))), (md 12, .inl (cyI, 2, .inl (fun _ => 0))), (md 17, .inl (cyI, 2, .inl (fun _ => 0))), (h1, .inr (7, [.ref (md 0), .ref (md 1), .int 0, .int 0, .int 0, .int (-1), .int 0, .int 0, .int 0, .int 0, .long 0, .ref (md 11), .ref (md 12), .ref (md 13), .ref (md 14), .ref (md 15), .ref (md 16), .ref (md 17), .ref (md 18), .ref (md 19), .ref (md 20), .ref (md 21), .ref (md 22), .ref (md 23), .ref (md 24), .ref (md 25), .ref (md 26), .ref (md 27), .ref (md 28), .int 1, .int 1, .int 560, .int 0, .int 0, .int 0, .int 0, .int 0, .int 0, .int 0, .int 0, .ref (md 40), .ref (md 41), .int 0, .int 0, .ref (md 44), .int 0, .int 0, .ref (md 47), .ref (md 48), .int 0, .ref (md 50), .ref (md 51), .ref (md 52), .ref (md 53), .ref (md 54), .int 0, .int 0, .ref (md 57), .ref (md 58)]))] := hD
  rw [upd_z] at hP hD
  refine lv_iinc (v := 2) (lv' := [(1, .int 2), (0, .ref h1)]) hx hb dX7_startAnew_38 hl (k := 0) rfl (by decide) (by decide) rfl (fun ls hl => ?_)
  refine lv_goto (tgt := 26) hx hb dX7_startAnew_41 (by decide) ?_
  refine lv_iload_n hx hb dX7_startAnew_26 rfl (lv_at hl 0 rfl) ?_
  refine lv_iconst (v := 3) hx hb dX7_startAnew_27 (by decide) ?_
  refine lv_icmp_ge (tgt := 44) hx hb dX7_startAnew_28 (by decide) (fun c1874 => absurd c1874 (by decide)) (fun _ => ?_)
  refine lv_aload_n hx hb dX7_startAnew_31 rfl (lv_at hl 1 rfl) ?_
  refine va_get (D := (dC, dI)) (ci := 7) (v := .ref (md 58)) (C := RX7) (T := TX7) (N := 59) hx hb hts hi7 hown hK hP 4 rfl rfl 58 (by decide) (hts _ (ow_m (k := 8) rfl)) (fun _ h9 => h9) rfl dX7_startAnew_32 ?_
  refine lv_iload_n hx hb dX7_startAnew_35 rfl (lv_at hl 0 rfl) ?_
  refine lv_iconst (v := 0) hx hb dX7_startAnew_36 (by decide) ?_
  refine va_zast hx hb hK hP hD hS 0 3 rfl rfl (vp_i (a := 2) (by decide) (by decide) (by decide)) dX7_startAnew_37 (fun H locs hP hD hS => ?_)
  have hP : va_P (dC, dI) vwCl [(md 58, .inl (cyZ, 3, .inl (upd (fun _ => 0) 2 0))), (md 40, .inl (cyI, 520, .inl (u1871 0))), (md 12, .inl (cyI, 2, .inl (fun _ => 0))), (md 17, .inl (cyI, 2, .inl (fun _ => 0))), (h1, .inr (7, [.ref (md 0), .ref (md 1), .int 0, .int 0, .int 0, .int (-1), .int 0, .int 0, .int 0, .int 0, .long 0, .ref (md 11), .ref (md 12), .ref (md 13), .ref (md 14), .ref (md 15), .ref (md 16), .ref (md 17), .ref (md 18), .ref (md 19), .ref (md 20), .ref (md 21), .ref (md 22), .ref (md 23), .ref (md 24), .ref (md 25), .ref (md 26), .ref (md 27), .ref (md 28), .int 1, .int 1, .int 560, .int 0, .int 0, .int 0, .int 0, .int 0, .int 0, .int 0, .int 0, .ref (md 40), .ref (md 41), .int 0, .int 0, .ref (md 44), .int 0, .int 0, .ref (md 47), .ref (md 48), .int 0, .ref (md 50), .ref (md 51), .ref (md 52), .ref (md 53), .ref (md 54), .int 0, .int 0, .ref (md 57), .ref (md 58)]))] H := hP
  have hD : va_D A [(md 58, .inl (cyZ, 3, .inl (upd (fun _ => 0) 2 0))), (md 40, .inl (cyI, 520, .inl (u1871 0))), (md 12, .inl (cyI, 2, .inl (fun _ => 0))), (md 17, .inl (cyI, 2, .inl (fun _ => 0))), (h1, .inr (7, [.ref (md 0), .ref (md 1), .int 0, .int 0, .int 0, .int (-1), .int 0, .int 0, .int 0, .int 0, .long 0, .ref (md 11), .ref (md 12), .ref (md 13), .ref (md 14), .ref (md 15), .ref (md 16), .ref (md 17), .ref (md 18), .ref (md 19), .ref (md 20), .ref (md 21), .ref (md 22), .ref (md 23), .ref (md 24), .ref (md 25), .ref (md 26), .ref (md 27), .ref (md 28), .int 1, .int 1, .int 560, .int 0, .int 0, .int 0, .int 0, .int 0, .int 0, .int 0, .int 0, .ref (md 40), .ref (md 41), .int 0, .int 0, .ref (md 44), .int 0, .int 0, .ref (md 47), .ref (md 48), .int 0, .ref (md 50), .ref (md 51), .ref (md 52), .ref (md 53), .ref (md 54), .int 0, .int 0, .ref (md 57), .ref (md 58)]))] := hD
  rw [upd_z] at hP hD
  refine lv_iinc (v := 3) (lv' := [(1, .int 3), (0, .ref h1)]) hx hb dX7_startAnew_38 hl (k := 0) rfl (by decide) (by decide) rfl (fun ls hl => ?_)
  refine lv_goto (tgt := 26) hx hb dX7_startAnew_41 (by decide) ?_
  refine lv_iload_n hx hb dX7_startAnew_26 rfl (lv_at hl 0 rfl) ?_
  refine lv_iconst (v := 3) hx hb dX7_startAnew_27 (by decide) ?_
  refine lv_icmp_ge (tgt := 44) hx hb dX7_startAnew_28 (by decide) (fun _ => ?_) (fun c1875 => absurd (by decide) c1875)
  exact W.vret hx hb hr (fun t ht hW => ⟨⟨(fun _ => u1871 0), rfl, qu1871, cE.of ht hP hD [1, 0, 2, 3, 4] (by decide) rfl⟩, hS.F ht⟩) hS.2.2 dX7_startAnew_44
def wo_k_X7_lots_v4 : List Cond := [.fieldLink RX7 76 "ReplicaChainModel" "all" "[I"]
def wq_k_X7_lots_v4 : List Cond := .code yX7_lots cX7_lots 1 (some .int) :: (wo_k_X7_lots_v4 ++ (wsX70 ++ []))
theorem gd_k_X7_lots_v4 : Gd wq_k_X7_lots_v4 := gd_c (gd_a (gd_o (by decide +kernel)) (gd_a gd_u gd_0))
abbrev wc_k_X7_lots_v4 (cyB cyI cyJ cyZ cyO : ClassId) (md : Nat → Nat) (f1897 : Nat → Int32) (h1 : Nat) : va_W := [(md 40, .inl (cyI, 520, .inl (upd f1897 0 0))), (h1, .inr (7, [.ref (md 0), .ref (md 1), .int 0, .int 0, .int 0, .int (-1), .int 0, .int 0, .int 0, .int 0, .long 0, .ref (md 11), .ref (md 12), .ref (md 13), .ref (md 14), .ref (md 15), .ref (md 16), .ref (md 17), .ref (md 18), .ref (md 19), .ref (md 20), .ref (md 21), .ref (md 22), .ref (md 23), .ref (md 24), .ref (md 25), .ref (md 26), .ref (md 27), .ref (md 28), .int 1, .int 1, .int 560, .int 0, .int 0, .int 0, .int 0, .int 0, .int 0, .int 0, .int 0, .ref (md 40), .ref (md 41), .int 0, .int 0, .ref (md 44), .int 0, .int 0, .ref (md 47), .ref (md 48), .int 0, .ref (md 50), .ref (md 51), .ref (md 52), .ref (md 53), .ref (md 54), .int 0, .int 0, .ref (md 57), .ref (md 58)]))]
set_option maxHeartbeats 4000000 in
set_option maxRecDepth 100000 in
theorem k_X7_lots_v4 (l : Launch) (dC : Nat → ClassId) (dI : Nat → Nat → Nat) (cyB cyI cyJ cyZ cyO : ClassId) (md : Nat → Nat) (f1897 : Nat → Int32) (h1 : Nat) (sz : Nat) : Met l yX7_lots wq_k_X7_lots_v4 ({ frames := 0, cells := 0, slots := 0, locals := 0 }) (va_Pc [.ref h1] (cB (dC, dI) (kT cyB cyI cyJ cyZ cyO) (wc_k_X7_lots_v4 cyB cyI cyJ cyZ cyO md f1897 h1) sz)) (va_Qi (fun (r : Int32) _ => r = 0) (fun (u : Unit) t => cE (dC, dI) (va_A (wc_k_X7_lots_v4 cyB cyI cyJ cyZ cyO md f1897 h1) sz) ([(md 40, .inl (cyI, 520, .inl (upd f1897 0 0))), (h1, .inr (7, [.ref (md 0), .ref (md 1), .int 0, .int 0, .int 0, .int (-1), .int 0, .int 0, .int 0, .int 0, .long 0, .ref (md 11), .ref (md 12), .ref (md 13), .ref (md 14), .ref (md 15), .ref (md 16), .ref (md 17), .ref (md 18), .ref (md 19), .ref (md 20), .ref (md 21), .ref (md 22), .ref (md 23), .ref (md 24), .ref (md 25), .ref (md 26), .ref (md 27), .ref (md 28), .int 1, .int 1, .int 560, .int 0, .int 0, .int 0, .int 0, .int 0, .int 0, .int 0, .int 0, .ref (md 40), .ref (md 41), .int 0, .int 0, .ref (md 44), .int 0, .int 0, .ref (md 47), .ref (md 48), .int 0, .ref (md 50), .ref (md 51), .ref (md 52), .ref (md 53), .ref (md 54), .int 0, .int 0, .ref (md 57), .ref (md 58)]))]) t.heap) (va_A (wc_k_X7_lots_v4 cyB cyI cyJ cyZ cyO md f1897 h1) sz)) 0 0 (va_A (wc_k_X7_lots_v4 cyB cyI cyJ cyZ cyO md f1897 h1) sz) := by
  refine Met.ofW (cc := cX7_lots) (maxL := 1) (ret := (some .int)) (by decide) rfl ?_
  intro p e s m args below meth c s₁ B hml hv
  obtain ⟨rfl, hsz, hP, hKN, hD0⟩ := hv
  have hx := B.exec
  have hb := B.bytes
  have hr := B.returns
  have hts := atoms_spec (ws := wq_k_X7_lots_v4) B.pre
  have hown : s.vm.findClass RX7 = some m.cls := findClass_of_methodNamed B.named
  have hlocks := B.notSynchronized
  have hK := hKN.1
  have hfix : CallFix p m c cX7_lots 1 s [.ref h1].toArray wq_k_X7_lots_v4 RX7 := ⟨hx, hb, hml, hown, hts⟩
  have hi7 : ∀ w ∈ wsX70, w ∈ wq_k_X7_lots_v4 := (sb_c sb_l)
  subst hsz
  have hD := hD0.self (sz := s.heap.size)
  generalize hAe : va_A (wc_k_X7_lots_v4 cyB cyI cyJ cyZ cyO md f1897 h1) s.heap.size = A at hD ⊢
  have hA : ∀ q : Nat, s.heap.size ≤ q → A q := fun q h => by rw [← hAe]; exact Or.inr h
  have hS : va_S A s.heap s.heap [] := va_S.rf
  have hl := lv_entry ([.ref h1]) (n := 1) (Nat.le_of_ble_eq_true rfl)
  rw [lg_entry_eq]
  generalize (lg_sl ([.ref h1]) ++ List.replicate (1 - (lg_sl ([.ref h1])).length) Slot.unset).toArray = ls at hl ⊢
  have hl : lv_has ls 1 [(0, .ref h1)] := hl
  refine lv_aload_n hx hb dX7_lots_0 rfl (lv_at hl 0 rfl) ?_
  refine va_get (D := (dC, dI)) (ci := 7) (v := .ref (md 40)) (C := RX7) (T := TX7) (N := 59) hx hb hts hi7 hown hK hP 1 rfl rfl 40 (by decide) (hts _ (ow_m (k := 0) rfl)) (fun _ h9 => h9) rfl dX7_lots_1 ?_
  refine lv_iconst (v := 0) hx hb dX7_lots_4 (by decide) ?_
  refine va_iald hx hb hK hP 0 1 rfl rfl (vp_i (a := 0) (by decide) (by decide) (by decide)) dX7_lots_5 ?_
  refine tp_c (w := 0) (by rfl) ?_
  exact W.iret (v := 0) hx hb hr (fun t ht hW => ⟨⟨0, (), rfl, rfl, cE.of ht hP hD [0, 1] (by decide) rfl⟩, hS.F ht⟩) hS.2.2 dX7_lots_6
def wo_c_M_chain : List Cond := [.fieldLink RX7 122 "ReplicaChainModel" "faultKind" "I", .fieldLink RX7 16 "ReplicaChainModel" "faultPlace" "I", .fieldLink RX7 211 "ReplicaChainModel" "taped" "I", .fieldLink RX7 119 "ReplicaChainModel" "size" "I", .fieldLink RX7 157 "ReplicaChainModel" "end" "I", .fieldLink RX7 214 "ReplicaChainModel" "bank" "I", .fieldLink RX7 205 "ReplicaChainModel" "rb" "I", .methodLink RX7 113 yX7_clearBank, .instanceMethod yX7_clearBank, .selects RX7 yX7_clearBank yX7_clearBank, .initialized RX7, .methodLink RX7 199 yX7_goOn, .instanceMethod yX7_goOn, .selects RX7 yX7_goOn yX7_goOn, .methodLink RX7 195 yX7_isGood, .instanceMethod yX7_isGood, .selects RX7 yX7_isGood yX7_isGood, .fieldLink RX7 167 "ReplicaChainModel" "token" "I", .methodLink RX7 116 yX7_startAnew, .instanceMethod yX7_startAnew, .selects RX7 yX7_startAnew yX7_startAnew, .fieldLink RX7 24 "ReplicaChainModel" "members" "[I"]
def wq_c_M_chain : List Cond := .code yX7_chain cX7_chain 2 (some .int) :: (wo_c_M_chain ++ (wq_k_X7_clearBank ++ (wq_k_X7_goOn ++ (wq_k_X7_isGood ++ (wq_k_X7_startAnew ++ (wsX70 ++ []))))))
theorem gd_c_M_chain : Gd wq_c_M_chain := gd_c (gd_a (gd_o (by decide +kernel)) (gd_a gd_k_X7_clearBank (gd_a gd_k_X7_goOn (gd_a gd_k_X7_isGood (gd_a gd_k_X7_startAnew (gd_a gd_u gd_0))))))
abbrev wc_c_M_chain (cyB cyI cyJ cyZ cyO : ClassId) (h1 : Nat) (md : Nat → Nat) (g : Nat → Int32) : va_W := [(h1, .inr (7, [.ref (md 0), .ref (md 1), .int 0, .int 0, .int 0, .int (-1), .int 0, .int 0, .int 0, .int 0, .long 0, .ref (md 11), .ref (md 12), .ref (md 13), .ref (md 14), .ref (md 15), .ref (md 16), .ref (md 17), .ref (md 18), .ref (md 19), .ref (md 20), .ref (md 21), .ref (md 22), .ref (md 23), .ref (md 24), .ref (md 25), .ref (md 26), .ref (md 27), .ref (md 28), .int 0, .int 0, .int 0, .int 0, .int 0, .int 0, .int 0, .int 0, .int 0, .int 0, .int 0, .ref (md 40), .ref (md 41), .int 0, .int 0, .ref (md 44), .int 0, .int 0, .ref (md 47), .ref (md 48), .int 0, .ref (md 50), .ref (md 51), .ref (md 52), .ref (md 53), .ref (md 54), .int 0, .int 0, .ref (md 57), .ref (md 58)])), (md 11, .inl (cyI, 2, .inl (fun _ => 0))), (md 12, .inl (cyI, 2, .inl (fun _ => 0))), (md 13, .inl (cyI, 2, .inl (fun _ => 0))), (md 14, .inl (cyI, 2, .inl (fun _ => 0))), (md 15, .inl (cyI, 2, .inl (upd (fun _ => 0) 0 2))), (md 16, .inl (cyI, 2, .inl (fun _ => 0))), (md 17, .inl (cyI, 2, .inl (fun _ => 0))), (md 18, .inl (cyI, 2, .inl (fun _ => 0))), (md 40, .inl (cyI, 520, .inl g)), (md 58, .inl (cyZ, 3, .inl (fun _ => 0)))]
set_option maxHeartbeats 4000000 in
set_option maxRecDepth 100000 in
theorem c_M_chain (l : Launch) (dC : Nat → ClassId) (dI : Nat → Nat → Nat) (cyB cyI cyJ cyZ cyO : ClassId) (h1 : Nat) (md : Nat → Nat) (g : Nat → Int32) (sz : Nat) (hg : AllZ g) : Met l yX7_chain wq_c_M_chain ({ frames := 3, cells := 0, slots := 0, locals := 62 }) (va_Pc [.ref h1] (cB (dC, dI) (kT cyB cyI cyJ cyZ cyO) (wc_c_M_chain cyB cyI cyJ cyZ cyO h1 md g) sz)) (va_Qi (fun (r : Int32) (_ : Unit) => r = 0) (fun (u : Unit) t => cE (dC, dI) (va_A (wc_c_M_chain cyB cyI cyJ cyZ cyO h1 md g) sz) ([]) t.heap) (va_A (wc_c_M_chain cyB cyI cyJ cyZ cyO h1 md g) sz)) 0 0 (va_A (wc_c_M_chain cyB cyI cyJ cyZ cyO h1 md g) sz) := by
  refine Met.ofW (cc := cX7_chain) (maxL := 2) (ret := (some .int)) (by decide) rfl ?_
  intro p e s m args below meth c s₁ B hml hv
  obtain ⟨rfl, hsz, hP, hKN, hD0⟩ := hv
  have hx := B.exec
  have hb := B.bytes
  have hr := B.returns
  have hts := atoms_spec (ws := wq_c_M_chain) B.pre
  have hown : s.vm.findClass RX7 = some m.cls := findClass_of_methodNamed B.named
  have hlocks := B.notSynchronized
  have hK := hKN.1
  have hfix : CallFix p m c cX7_chain 2 s [.ref h1].toArray wq_c_M_chain RX7 := ⟨hx, hb, hml, hown, hts⟩
  have hi7 : ∀ w ∈ wsX70, w ∈ wq_c_M_chain := (sb_c (sb_r (sb_r (sb_r (sb_r sb_l)))))
  subst hsz
  have hD := hD0.self (sz := s.heap.size)
  generalize hAe : va_A (wc_c_M_chain cyB cyI cyJ cyZ cyO h1 md g) s.heap.size = A at hD ⊢
  have hA : ∀ q : Nat, s.heap.size ≤ q → A q := fun q h => by rw [← hAe]; exact Or.inr h
  have hS : va_S A s.heap s.heap [] := va_S.rf
  have hl := lv_entry ([.ref h1]) (n := 2) (Nat.le_of_ble_eq_true rfl)
  rw [lg_entry_eq]
  generalize (lg_sl ([.ref h1]) ++ List.replicate (2 - (lg_sl ([.ref h1])).length) Slot.unset).toArray = ls at hl ⊢
  have hl : lv_has ls 2 [(0, .ref h1)] := hl
  refine lv_aload_n hx hb dX7_chain_0 rfl (lv_at hl 0 rfl) ?_
  refine lv_iconst (v := 0) hx hb dX7_chain_1 (by decide) ?_
  refine va_put (D := (dC, dI)) (ci := 7) (v := .int 0) (ty := .int) (C := RX7) (T := TX7) (N := 59) hx hb hts hi7 tyX7 tyX7_ok nmX7 hown hK hP hD hS 0 rfl rfl 4 (by decide) (hts _ (ow_m (k := 0) rfl)) (fun _ h9 => h9) rfl (by decide +kernel) rfl rfl (Nat.le_of_ble_eq_true rfl) dX7_chain_2 (fun H locs hP hD hS => ?_)
  have hP : va_P (dC, dI) vwCl [(h1, .inr (7, [.ref (md 0), .ref (md 1), .int 0, .int 0, .int 0, .int (-1), .int 0, .int 0, .int 0, .int 0, .long 0, .ref (md 11), .ref (md 12), .ref (md 13), .ref (md 14), .ref (md 15), .ref (md 16), .ref (md 17), .ref (md 18), .ref (md 19), .ref (md 20), .ref (md 21), .ref (md 22), .ref (md 23), .ref (md 24), .ref (md 25), .ref (md 26), .ref (md 27), .ref (md 28), .int 0, .int 0, .int 0, .int 0, .int 0, .int 0, .int 0, .int 0, .int 0, .int 0, .int 0, .ref (md 40), .ref (md 41), .int 0, .int 0, .ref (md 44), .int 0, .int 0, .ref (md 47), .ref (md 48), .int 0, .ref (md 50), .ref (md 51), .ref (md 52), .ref (md 53), .ref (md 54), .int 0, .int 0, .ref (md 57), .ref (md 58)])), (md 11, .inl (cyI, 2, .inl (fun _ => 0))), (md 12, .inl (cyI, 2, .inl (fun _ => 0))), (md 13, .inl (cyI, 2, .inl (fun _ => 0))), (md 14, .inl (cyI, 2, .inl (fun _ => 0))), (md 15, .inl (cyI, 2, .inl (upd (fun _ => 0) 0 2))), (md 16, .inl (cyI, 2, .inl (fun _ => 0))), (md 17, .inl (cyI, 2, .inl (fun _ => 0))), (md 18, .inl (cyI, 2, .inl (fun _ => 0))), (md 40, .inl (cyI, 520, .inl g)), (md 58, .inl (cyZ, 3, .inl (fun _ => 0)))] H := hP
  have hD : va_D A [(h1, .inr (7, [.ref (md 0), .ref (md 1), .int 0, .int 0, .int 0, .int (-1), .int 0, .int 0, .int 0, .int 0, .long 0, .ref (md 11), .ref (md 12), .ref (md 13), .ref (md 14), .ref (md 15), .ref (md 16), .ref (md 17), .ref (md 18), .ref (md 19), .ref (md 20), .ref (md 21), .ref (md 22), .ref (md 23), .ref (md 24), .ref (md 25), .ref (md 26), .ref (md 27), .ref (md 28), .int 0, .int 0, .int 0, .int 0, .int 0, .int 0, .int 0, .int 0, .int 0, .int 0, .int 0, .ref (md 40), .ref (md 41), .int 0, .int 0, .ref (md 44), .int 0, .int 0, .ref (md 47), .ref (md 48), .int 0, .ref (md 50), .ref (md 51), .ref (md 52), .ref (md 53), .ref (md 54), .int 0, .int 0, .ref (md 57), .ref (md 58)])), (md 11, .inl (cyI, 2, .inl (fun _ => 0))), (md 12, .inl (cyI, 2, .inl (fun _ => 0))), (md 13, .inl (cyI, 2, .inl (fun _ => 0))), (md 14, .inl (cyI, 2, .inl (fun _ => 0))), (md 15, .inl (cyI, 2, .inl (upd (fun _ => 0) 0 2))), (md 16, .inl (cyI, 2, .inl (fun _ => 0))), (md 17, .inl (cyI, 2, .inl (fun _ => 0))), (md 18, .inl (cyI, 2, .inl (fun _ => 0))), (md 40, .inl (cyI, 520, .inl g)), (md 58, .inl (cyZ, 3, .inl (fun _ => 0)))] := hD
  refine lv_aload_n hx hb dX7_chain_5 rfl (lv_at hl 0 rfl) ?_
  refine lv_iconst (v := (-1)) hx hb dX7_chain_6 (by decide) ?_
  refine va_put (D := (dC, dI)) (ci := 7) (v := .int (-1)) (ty := .int) (C := RX7) (T := TX7) (N := 59) hx hb hts hi7 tyX7 tyX7_ok nmX7 hown hK hP hD hS 0 rfl rfl 5 (by decide) (hts _ (ow_m (k := 1) rfl)) (fun _ h9 => h9) rfl (by decide +kernel) rfl rfl (Nat.le_of_ble_eq_true rfl) dX7_chain_7 (fun H locs hP hD hS => ?_)
  have hP : va_P (dC, dI) vwCl [(h1, .inr (7, [.ref (md 0), .ref (md 1), .int 0, .int 0, .int 0, .int (-1), .int 0, .int 0, .int 0, .int 0, .long 0, .ref (md 11), .ref (md 12), .ref (md 13), .ref (md 14), .ref (md 15), .ref (md 16), .ref (md 17), .ref (md 18), .ref (md 19), .ref (md 20), .ref (md 21), .ref (md 22), .ref (md 23), .ref (md 24), .ref (md 25), .ref (md 26), .ref (md 27), .ref (md 28), .int 0, .int 0, .int 0, .int 0, .int 0, .int 0, .int 0, .int 0, .int 0, .int 0, .int 0, .ref (md 40), .ref (md 41), .int 0, .int 0, .ref (md 44), .int 0, .int 0, .ref (md 47), .ref (md 48), .int 0, .ref (md 50), .ref (md 51), .ref (md 52), .ref (md 53), .ref (md 54), .int 0, .int 0, .ref (md 57), .ref (md 58)])), (md 11, .inl (cyI, 2, .inl (fun _ => 0))), (md 12, .inl (cyI, 2, .inl (fun _ => 0))), (md 13, .inl (cyI, 2, .inl (fun _ => 0))), (md 14, .inl (cyI, 2, .inl (fun _ => 0))), (md 15, .inl (cyI, 2, .inl (upd (fun _ => 0) 0 2))), (md 16, .inl (cyI, 2, .inl (fun _ => 0))), (md 17, .inl (cyI, 2, .inl (fun _ => 0))), (md 18, .inl (cyI, 2, .inl (fun _ => 0))), (md 40, .inl (cyI, 520, .inl g)), (md 58, .inl (cyZ, 3, .inl (fun _ => 0)))] H := hP
  have hD : va_D A [(h1, .inr (7, [.ref (md 0), .ref (md 1), .int 0, .int 0, .int 0, .int (-1), .int 0, .int 0, .int 0, .int 0, .long 0, .ref (md 11), .ref (md 12), .ref (md 13), .ref (md 14), .ref (md 15), .ref (md 16), .ref (md 17), .ref (md 18), .ref (md 19), .ref (md 20), .ref (md 21), .ref (md 22), .ref (md 23), .ref (md 24), .ref (md 25), .ref (md 26), .ref (md 27), .ref (md 28), .int 0, .int 0, .int 0, .int 0, .int 0, .int 0, .int 0, .int 0, .int 0, .int 0, .int 0, .ref (md 40), .ref (md 41), .int 0, .int 0, .ref (md 44), .int 0, .int 0, .ref (md 47), .ref (md 48), .int 0, .ref (md 50), .ref (md 51), .ref (md 52), .ref (md 53), .ref (md 54), .int 0, .int 0, .ref (md 57), .ref (md 58)])), (md 11, .inl (cyI, 2, .inl (fun _ => 0))), (md 12, .inl (cyI, 2, .inl (fun _ => 0))), (md 13, .inl (cyI, 2, .inl (fun _ => 0))), (md 14, .inl (cyI, 2, .inl (fun _ => 0))), (md 15, .inl (cyI, 2, .inl (upd (fun _ => 0) 0 2))), (md 16, .inl (cyI, 2, .inl (fun _ => 0))), (md 17, .inl (cyI, 2, .inl (fun _ => 0))), (md 18, .inl (cyI, 2, .inl (fun _ => 0))), (md 40, .inl (cyI, 520, .inl g)), (md 58, .inl (cyZ, 3, .inl (fun _ => 0)))] := hD
  refine lv_aload_n hx hb dX7_chain_10 rfl (lv_at hl 0 rfl) ?_
  refine lv_aload_n hx hb dX7_chain_11 rfl (lv_at hl 0 rfl) ?_
  refine va_get (D := (dC, dI)) (ci := 7) (v := .int 0) (C := RX7) (T := TX7) (N := 59) hx hb hts hi7 hown hK hP 0 rfl rfl 2 (by decide) (hts _ (ow_m (k := 2) rfl)) (fun _ h9 => h9) rfl dX7_chain_12 ?_
  refine va_put (D := (dC, dI)) (ci := 7) (v := .int 0) (ty := .int) (C := RX7) (T := TX7) (N := 59) hx hb hts hi7 tyX7 tyX7_ok nmX7 hown hK hP hD hS 0 rfl rfl 3 (by decide) (hts _ (ow_m (k := 3) rfl)) (fun _ h9 => h9) rfl (by decide +kernel) rfl rfl (Nat.le_of_ble_eq_true rfl) dX7_chain_15 (fun H locs hP hD hS => ?_)
  have hP : va_P (dC, dI) vwCl [(h1, .inr (7, [.ref (md 0), .ref (md 1), .int 0, .int 0, .int 0, .int (-1), .int 0, .int 0, .int 0, .int 0, .long 0, .ref (md 11), .ref (md 12), .ref (md 13), .ref (md 14), .ref (md 15), .ref (md 16), .ref (md 17), .ref (md 18), .ref (md 19), .ref (md 20), .ref (md 21), .ref (md 22), .ref (md 23), .ref (md 24), .ref (md 25), .ref (md 26), .ref (md 27), .ref (md 28), .int 0, .int 0, .int 0, .int 0, .int 0, .int 0, .int 0, .int 0, .int 0, .int 0, .int 0, .ref (md 40), .ref (md 41), .int 0, .int 0, .ref (md 44), .int 0, .int 0, .ref (md 47), .ref (md 48), .int 0, .ref (md 50), .ref (md 51), .ref (md 52), .ref (md 53), .ref (md 54), .int 0, .int 0, .ref (md 57), .ref (md 58)])), (md 11, .inl (cyI, 2, .inl (fun _ => 0))), (md 12, .inl (cyI, 2, .inl (fun _ => 0))), (md 13, .inl (cyI, 2, .inl (fun _ => 0))), (md 14, .inl (cyI, 2, .inl (fun _ => 0))), (md 15, .inl (cyI, 2, .inl (upd (fun _ => 0) 0 2))), (md 16, .inl (cyI, 2, .inl (fun _ => 0))), (md 17, .inl (cyI, 2, .inl (fun _ => 0))), (md 18, .inl (cyI, 2, .inl (fun _ => 0))), (md 40, .inl (cyI, 520, .inl g)), (md 58, .inl (cyZ, 3, .inl (fun _ => 0)))] H := hP
  have hD : va_D A [(h1, .inr (7, [.ref (md 0), .ref (md 1), .int 0, .int 0, .int 0, .int (-1), .int 0, .int 0, .int 0, .int 0, .long 0, .ref (md 11), .ref (md 12), .ref (md 13), .ref (md 14), .ref (md 15), .ref (md 16), .ref (md 17), .ref (md 18), .ref (md 19), .ref (md 20), .ref (md 21), .ref (md 22), .ref (md 23), .ref (md 24), .ref (md 25), .ref (md 26), .ref (md 27), .ref (md 28), .int 0, .int 0, .int 0, .int 0, .int 0, .int 0, .int 0, .int 0, .int 0, .int 0, .int 0, .ref (md 40), .ref (md 41), .int 0, .int 0, .ref (md 44), .int 0, .int 0, .ref (md 47), .ref (md 48), .int 0, .ref (md 50), .ref (md 51), .ref (md 52), .ref (md 53), .ref (md 54), .int 0, .int 0, .ref (md 57), .ref (md 58)])), (md 11, .inl (cyI, 2, .inl (fun _ => 0))), (md 12, .inl (cyI, 2, .inl (fun _ => 0))), (md 13, .inl (cyI, 2, .inl (fun _ => 0))), (md 14, .inl (cyI, 2, .inl (fun _ => 0))), (md 15, .inl (cyI, 2, .inl (upd (fun _ => 0) 0 2))), (md 16, .inl (cyI, 2, .inl (fun _ => 0))), (md 17, .inl (cyI, 2, .inl (fun _ => 0))), (md 18, .inl (cyI, 2, .inl (fun _ => 0))), (md 40, .inl (cyI, 520, .inl g)), (md 58, .inl (cyZ, 3, .inl (fun _ => 0)))] := hD
  refine lv_iconst (v := 0) hx hb dX7_chain_18 (by decide) ?_
  refine lv_istore_n (lv' := [(1, .int 0), (0, .ref h1)]) hx hb dX7_chain_19 rfl hl (by decide) rfl (fun ls hl => ?_)
  refine lv_iload_n hx hb dX7_chain_20 rfl (lv_at hl 0 rfl) ?_
  refine lv_aload_n hx hb dX7_chain_21 rfl (lv_at hl 1 rfl) ?_
  refine va_get (D := (dC, dI)) (ci := 7) (v := .int 0) (C := RX7) (T := TX7) (N := 59) hx hb hts hi7 hown hK hP 0 rfl rfl 3 (by decide) (hts _ (ow_m (k := 3) rfl)) (fun _ h9 => h9) rfl dX7_chain_22 ?_
  refine lv_icmp_ge (tgt := 46) hx hb dX7_chain_25 (by decide) (fun _ => ?_) (fun c1878 => absurd (by decide) c1878)
  refine lv_aload_n hx hb dX7_chain_46 rfl (lv_at hl 1 rfl) ?_
  refine lv_iconst (v := 0) hx hb dX7_chain_47 (by decide) ?_
  refine va_put (D := (dC, dI)) (ci := 7) (v := .int 0) (ty := .int) (C := RX7) (T := TX7) (N := 59) hx hb hts hi7 tyX7 tyX7_ok nmX7 hown hK hP hD hS 0 rfl rfl 2 (by decide) (hts _ (ow_m (k := 2) rfl)) (fun _ h9 => h9) rfl (by decide +kernel) rfl rfl (Nat.le_of_ble_eq_true rfl) dX7_chain_48 (fun H locs hP hD hS => ?_)
  have hP : va_P (dC, dI) vwCl [(h1, .inr (7, [.ref (md 0), .ref (md 1), .int 0, .int 0, .int 0, .int (-1), .int 0, .int 0, .int 0, .int 0, .long 0, .ref (md 11), .ref (md 12), .ref (md 13), .ref (md 14), .ref (md 15), .ref (md 16), .ref (md 17), .ref (md 18), .ref (md 19), .ref (md 20), .ref (md 21), .ref (md 22), .ref (md 23), .ref (md 24), .ref (md 25), .ref (md 26), .ref (md 27), .ref (md 28), .int 0, .int 0, .int 0, .int 0, .int 0, .int 0, .int 0, .int 0, .int 0, .int 0, .int 0, .ref (md 40), .ref (md 41), .int 0, .int 0, .ref (md 44), .int 0, .int 0, .ref (md 47), .ref (md 48), .int 0, .ref (md 50), .ref (md 51), .ref (md 52), .ref (md 53), .ref (md 54), .int 0, .int 0, .ref (md 57), .ref (md 58)])), (md 11, .inl (cyI, 2, .inl (fun _ => 0))), (md 12, .inl (cyI, 2, .inl (fun _ => 0))), (md 13, .inl (cyI, 2, .inl (fun _ => 0))), (md 14, .inl (cyI, 2, .inl (fun _ => 0))), (md 15, .inl (cyI, 2, .inl (upd (fun _ => 0) 0 2))), (md 16, .inl (cyI, 2, .inl (fun _ => 0))), (md 17, .inl (cyI, 2, .inl (fun _ => 0))), (md 18, .inl (cyI, 2, .inl (fun _ => 0))), (md 40, .inl (cyI, 520, .inl g)), (md 58, .inl (cyZ, 3, .inl (fun _ => 0)))] H := hP
  have hD : va_D A [(h1, .inr (7, [.ref (md 0), .ref (md 1), .int 0, .int 0, .int 0, .int (-1), .int 0, .int 0, .int 0, .int 0, .long 0, .ref (md 11), .ref (md 12), .ref (md 13), .ref (md 14), .ref (md 15), .ref (md 16), .ref (md 17), .ref (md 18), .ref (md 19), .ref (md 20), .ref (md 21), .ref (md 22), .ref (md 23), .ref (md 24), .ref (md 25), .ref (md 26), .ref (md 27), .ref (md 28), .int 0, .int 0, .int 0, .int 0, .int 0, .int 0, .int 0, .int 0, .int 0, .int 0, .int 0, .ref (md 40), .ref (md 41), .int 0, .int 0, .ref (md 44), .int 0, .int 0, .ref (md 47), .ref (md 48), .int 0, .ref (md 50), .ref (md 51), .ref (md 52), .ref (md 53), .ref (md 54), .int 0, .int 0, .ref (md 57), .ref (md 58)])), (md 11, .inl (cyI, 2, .inl (fun _ => 0))), (md 12, .inl (cyI, 2, .inl (fun _ => 0))), (md 13, .inl (cyI, 2, .inl (fun _ => 0))), (md 14, .inl (cyI, 2, .inl (fun _ => 0))), (md 15, .inl (cyI, 2, .inl (upd (fun _ => 0) 0 2))), (md 16, .inl (cyI, 2, .inl (fun _ => 0))), (md 17, .inl (cyI, 2, .inl (fun _ => 0))), (md 18, .inl (cyI, 2, .inl (fun _ => 0))), (md 40, .inl (cyI, 520, .inl g)), (md 58, .inl (cyZ, 3, .inl (fun _ => 0)))] := hD
  refine lv_aload_n hx hb dX7_chain_51 rfl (lv_at hl 1 rfl) ?_
  refine lv_iconst (v := 0) hx hb dX7_chain_52 (by decide) ?_
  refine va_put (D := (dC, dI)) (ci := 7) (v := .int 0) (ty := .int) (C := RX7) (T := TX7) (N := 59) hx hb hts hi7 tyX7 tyX7_ok nmX7 hown hK hP hD hS 0 rfl rfl 7 (by decide) (hts _ (ow_m (k := 4) rfl)) (fun _ h9 => h9) rfl (by decide +kernel) rfl rfl (Nat.le_of_ble_eq_true rfl) dX7_chain_53 (fun H locs hP hD hS => ?_)
  have hP : va_P (dC, dI) vwCl [(h1, .inr (7, [.ref (md 0), .ref (md 1), .int 0, .int 0, .int 0, .int (-1), .int 0, .int 0, .int 0, .int 0, .long 0, .ref (md 11), .ref (md 12), .ref (md 13), .ref (md 14), .ref (md 15), .ref (md 16), .ref (md 17), .ref (md 18), .ref (md 19), .ref (md 20), .ref (md 21), .ref (md 22), .ref (md 23), .ref (md 24), .ref (md 25), .ref (md 26), .ref (md 27), .ref (md 28), .int 0, .int 0, .int 0, .int 0, .int 0, .int 0, .int 0, .int 0, .int 0, .int 0, .int 0, .ref (md 40), .ref (md 41), .int 0, .int 0, .ref (md 44), .int 0, .int 0, .ref (md 47), .ref (md 48), .int 0, .ref (md 50), .ref (md 51), .ref (md 52), .ref (md 53), .ref (md 54), .int 0, .int 0, .ref (md 57), .ref (md 58)])), (md 11, .inl (cyI, 2, .inl (fun _ => 0))), (md 12, .inl (cyI, 2, .inl (fun _ => 0))), (md 13, .inl (cyI, 2, .inl (fun _ => 0))), (md 14, .inl (cyI, 2, .inl (fun _ => 0))), (md 15, .inl (cyI, 2, .inl (upd (fun _ => 0) 0 2))), (md 16, .inl (cyI, 2, .inl (fun _ => 0))), (md 17, .inl (cyI, 2, .inl (fun _ => 0))), (md 18, .inl (cyI, 2, .inl (fun _ => 0))), (md 40, .inl (cyI, 520, .inl g)), (md 58, .inl (cyZ, 3, .inl (fun _ => 0)))] H := hP
  have hD : va_D A [(h1, .inr (7, [.ref (md 0), .ref (md 1), .int 0, .int 0, .int 0, .int (-1), .int 0, .int 0, .int 0, .int 0, .long 0, .ref (md 11), .ref (md 12), .ref (md 13), .ref (md 14), .ref (md 15), .ref (md 16), .ref (md 17), .ref (md 18), .ref (md 19), .ref (md 20), .ref (md 21), .ref (md 22), .ref (md 23), .ref (md 24), .ref (md 25), .ref (md 26), .ref (md 27), .ref (md 28), .int 0, .int 0, .int 0, .int 0, .int 0, .int 0, .int 0, .int 0, .int 0, .int 0, .int 0, .ref (md 40), .ref (md 41), .int 0, .int 0, .ref (md 44), .int 0, .int 0, .ref (md 47), .ref (md 48), .int 0, .ref (md 50), .ref (md 51), .ref (md 52), .ref (md 53), .ref (md 54), .int 0, .int 0, .ref (md 57), .ref (md 58)])), (md 11, .inl (cyI, 2, .inl (fun _ => 0))), (md 12, .inl (cyI, 2, .inl (fun _ => 0))), (md 13, .inl (cyI, 2, .inl (fun _ => 0))), (md 14, .inl (cyI, 2, .inl (fun _ => 0))), (md 15, .inl (cyI, 2, .inl (upd (fun _ => 0) 0 2))), (md 16, .inl (cyI, 2, .inl (fun _ => 0))), (md 17, .inl (cyI, 2, .inl (fun _ => 0))), (md 18, .inl (cyI, 2, .inl (fun _ => 0))), (md 40, .inl (cyI, 520, .inl g)), (md 58, .inl (cyZ, 3, .inl (fun _ => 0)))] := hD
  refine lv_aload_n hx hb dX7_chain_56 rfl (lv_at hl 1 rfl) ?_
  refine lv_iconst (v := 1) hx hb dX7_chain_57 (by decide) ?_
  refine lv_aload_n hx hb dX7_chain_58 rfl (lv_at hl 1 rfl) ?_
  refine va_get (D := (dC, dI)) (ci := 7) (v := .int 0) (C := RX7) (T := TX7) (N := 59) hx hb hts hi7 hown hK hP 0 rfl rfl 29 (by decide) (hts _ (ow_m (k := 5) rfl)) (fun _ h9 => h9) rfl dX7_chain_59 ?_
  refine lv_isub hx hb dX7_chain_62 ?_
  refine tp_c (w := 1) (by decide) ?_
  refine va_put (D := (dC, dI)) (ci := 7) (v := .int 1) (ty := .int) (C := RX7) (T := TX7) (N := 59) hx hb hts hi7 tyX7 tyX7_ok nmX7 hown hK hP hD hS 0 rfl rfl 30 (by decide) (hts _ (ow_m (k := 6) rfl)) (fun _ h9 => h9) rfl (by decide +kernel) rfl rfl (Nat.le_of_ble_eq_true rfl) dX7_chain_63 (fun H locs hP hD hS => ?_)
  have hP : va_P (dC, dI) vwCl [(h1, .inr (7, [.ref (md 0), .ref (md 1), .int 0, .int 0, .int 0, .int (-1), .int 0, .int 0, .int 0, .int 0, .long 0, .ref (md 11), .ref (md 12), .ref (md 13), .ref (md 14), .ref (md 15), .ref (md 16), .ref (md 17), .ref (md 18), .ref (md 19), .ref (md 20), .ref (md 21), .ref (md 22), .ref (md 23), .ref (md 24), .ref (md 25), .ref (md 26), .ref (md 27), .ref (md 28), .int 0, .int 1, .int 0, .int 0, .int 0, .int 0, .int 0, .int 0, .int 0, .int 0, .int 0, .ref (md 40), .ref (md 41), .int 0, .int 0, .ref (md 44), .int 0, .int 0, .ref (md 47), .ref (md 48), .int 0, .ref (md 50), .ref (md 51), .ref (md 52), .ref (md 53), .ref (md 54), .int 0, .int 0, .ref (md 57), .ref (md 58)])), (md 11, .inl (cyI, 2, .inl (fun _ => 0))), (md 12, .inl (cyI, 2, .inl (fun _ => 0))), (md 13, .inl (cyI, 2, .inl (fun _ => 0))), (md 14, .inl (cyI, 2, .inl (fun _ => 0))), (md 15, .inl (cyI, 2, .inl (upd (fun _ => 0) 0 2))), (md 16, .inl (cyI, 2, .inl (fun _ => 0))), (md 17, .inl (cyI, 2, .inl (fun _ => 0))), (md 18, .inl (cyI, 2, .inl (fun _ => 0))), (md 40, .inl (cyI, 520, .inl g)), (md 58, .inl (cyZ, 3, .inl (fun _ => 0)))] H := hP
  have hD : va_D A [(h1, .inr (7, [.ref (md 0), .ref (md 1), .int 0, .int 0, .int 0, .int (-1), .int 0, .int 0, .int 0, .int 0, .long 0, .ref (md 11), .ref (md 12), .ref (md 13), .ref (md 14), .ref (md 15), .ref (md 16), .ref (md 17), .ref (md 18), .ref (md 19), .ref (md 20), .ref (md 21), .ref (md 22), .ref (md 23), .ref (md 24), .ref (md 25), .ref (md 26), .ref (md 27), .ref (md 28), .int 0, .int 1, .int 0, .int 0, .int 0, .int 0, .int 0, .int 0, .int 0, .int 0, .int 0, .ref (md 40), .ref (md 41), .int 0, .int 0, .ref (md 44), .int 0, .int 0, .ref (md 47), .ref (md 48), .int 0, .ref (md 50), .ref (md 51), .ref (md 52), .ref (md 53), .ref (md 54), .int 0, .int 0, .ref (md 57), .ref (md 58)])), (md 11, .inl (cyI, 2, .inl (fun _ => 0))), (md 12, .inl (cyI, 2, .inl (fun _ => 0))), (md 13, .inl (cyI, 2, .inl (fun _ => 0))), (md 14, .inl (cyI, 2, .inl (fun _ => 0))), (md 15, .inl (cyI, 2, .inl (upd (fun _ => 0) 0 2))), (md 16, .inl (cyI, 2, .inl (fun _ => 0))), (md 17, .inl (cyI, 2, .inl (fun _ => 0))), (md 18, .inl (cyI, 2, .inl (fun _ => 0))), (md 40, .inl (cyI, 520, .inl g)), (md 58, .inl (cyZ, 3, .inl (fun _ => 0)))] := hD
  refine lv_aload_n hx hb dX7_chain_66 rfl (lv_at hl 1 rfl) ?_
  refine gf_v (wr := [(md 40, .inl (cyI, 520, .inl g)), (md 58, .inl (cyZ, 3, .inl (fun _ => 0)))]) (va_runV (As := []) (rest := []) hfix (k_X7_clearBank l dC dI cyB cyI cyJ cyZ cyO h1 md _) (cwV 0 hts (gi_V (ow_m (k := 7) rfl) (ow_m (k := 8) rfl) (ow_m (k := 9) rfl) (ow_m (k := 10) rfl) (sb_c sb_l) gd_k_X7_clearBank) rfl rfl rfl (by decide +kernel) ⟨Nat.le_of_ble_eq_true rfl, Nat.le_of_ble_eq_true rfl⟩) (g_preV hKN hP hD [0, 1, 2, 3, 4, 5, 6, 7, 8] rfl (by decide) 0 7 rfl rfl) rfl rfl hl.1 rfl (lv_room (Nat.le_of_ble_eq_true rfl)) dX7_chain_67 ⟨Nat.le_of_ble_eq_true rfl, Nat.le_of_ble_eq_true rfl⟩) hP hD hS hA [0, 1, 2, 3, 4, 5, 6, 7, 8] [9, 10] rfl rfl (by decide) (by decide) (fun u1880 H locs qu1880 hP hD hS => ?_)
  have hP : va_P (dC, dI) vwCl [(md 40, .inl (cyI, 520, .inl g)), (md 58, .inl (cyZ, 3, .inl (fun _ => 0))), (h1, .inr (7, [.ref (md 0), .ref (md 1), .int 0, .int 0, .int 0, .int (-1), .int 0, .int 0, .int 0, .int 0, .long 0, .ref (md 11), .ref (md 12), .ref (md 13), .ref (md 14), .ref (md 15), .ref (md 16), .ref (md 17), .ref (md 18), .ref (md 19), .ref (md 20), .ref (md 21), .ref (md 22), .ref (md 23), .ref (md 24), .ref (md 25), .ref (md 26), .ref (md 27), .ref (md 28), .int 0, .int 1, .int 560, .int 0, .int 0, .int 0, .int 0, .int 0, .int 0, .int 0, .int 0, .ref (md 40), .ref (md 41), .int 0, .int 0, .ref (md 44), .int 0, .int 0, .ref (md 47), .ref (md 48), .int 0, .ref (md 50), .ref (md 51), .ref (md 52), .ref (md 53), .ref (md 54), .int 0, .int 0, .ref (md 57), .ref (md 58)])), (md 11, .inl (cyI, 2, .inl (fun _ => 0))), (md 12, .inl (cyI, 2, .inl (fun _ => 0))), (md 13, .inl (cyI, 2, .inl (fun _ => 0))), (md 14, .inl (cyI, 2, .inl (fun _ => 0))), (md 15, .inl (cyI, 2, .inl (upd (upd (fun _ => 0) 0 2) 1 2))), (md 16, .inl (cyI, 2, .inl (fun _ => 0))), (md 17, .inl (cyI, 2, .inl (fun _ => 0))), (md 18, .inl (cyI, 2, .inl (fun _ => 0)))] H := hP
  have hD : va_D A [(md 40, .inl (cyI, 520, .inl g)), (md 58, .inl (cyZ, 3, .inl (fun _ => 0))), (h1, .inr (7, [.ref (md 0), .ref (md 1), .int 0, .int 0, .int 0, .int (-1), .int 0, .int 0, .int 0, .int 0, .long 0, .ref (md 11), .ref (md 12), .ref (md 13), .ref (md 14), .ref (md 15), .ref (md 16), .ref (md 17), .ref (md 18), .ref (md 19), .ref (md 20), .ref (md 21), .ref (md 22), .ref (md 23), .ref (md 24), .ref (md 25), .ref (md 26), .ref (md 27), .ref (md 28), .int 0, .int 1, .int 560, .int 0, .int 0, .int 0, .int 0, .int 0, .int 0, .int 0, .int 0, .ref (md 40), .ref (md 41), .int 0, .int 0, .ref (md 44), .int 0, .int 0, .ref (md 47), .ref (md 48), .int 0, .ref (md 50), .ref (md 51), .ref (md 52), .ref (md 53), .ref (md 54), .int 0, .int 0, .ref (md 57), .ref (md 58)])), (md 11, .inl (cyI, 2, .inl (fun _ => 0))), (md 12, .inl (cyI, 2, .inl (fun _ => 0))), (md 13, .inl (cyI, 2, .inl (fun _ => 0))), (md 14, .inl (cyI, 2, .inl (fun _ => 0))), (md 15, .inl (cyI, 2, .inl (upd (upd (fun _ => 0) 0 2) 1 2))), (md 16, .inl (cyI, 2, .inl (fun _ => 0))), (md 17, .inl (cyI, 2, .inl (fun _ => 0))), (md 18, .inl (cyI, 2, .inl (fun _ => 0)))] := hD
  refine lv_aload_n hx hb dX7_chain_70 rfl (lv_at hl 1 rfl) ?_
  refine gf_v (wr := [(md 40, .inl (cyI, 520, .inl g)), (md 58, .inl (cyZ, 3, .inl (fun _ => 0))), (md 11, .inl (cyI, 2, .inl (fun _ => 0))), (md 12, .inl (cyI, 2, .inl (fun _ => 0))), (md 13, .inl (cyI, 2, .inl (fun _ => 0))), (md 14, .inl (cyI, 2, .inl (fun _ => 0))), (md 15, .inl (cyI, 2, .inl (upd (upd (fun _ => 0) 0 2) 1 2))), (md 16, .inl (cyI, 2, .inl (fun _ => 0))), (md 17, .inl (cyI, 2, .inl (fun _ => 0))), (md 18, .inl (cyI, 2, .inl (fun _ => 0)))]) (va_runV (As := []) (rest := []) hfix (k_X7_goOn l dC dI cyB cyI cyJ cyZ cyO h1 md _) (cwV 0 hts (gi_V (ow_m (k := 11) rfl) (ow_m (k := 12) rfl) (ow_m (k := 13) rfl) (ow_m (k := 10) rfl) (sb_c (sb_r sb_l)) gd_k_X7_goOn) rfl rfl rfl (by decide +kernel) ⟨Nat.le_of_ble_eq_true rfl, Nat.le_of_ble_eq_true rfl⟩) (g_preV hKN hP hD [2] rfl (by decide) 0 7 rfl rfl) rfl rfl hl.1 rfl (lv_room (Nat.le_of_ble_eq_true rfl)) dX7_chain_71 ⟨Nat.le_of_ble_eq_true rfl, Nat.le_of_ble_eq_true rfl⟩) hP hD hS hA [2] [0, 1, 3, 4, 5, 6, 7, 8, 9, 10] rfl rfl (by decide) (by decide) (fun u1887 H locs qu1887 hP hD hS => ?_)
  have hP : va_P (dC, dI) vwCl [(md 40, .inl (cyI, 520, .inl g)), (md 58, .inl (cyZ, 3, .inl (fun _ => 0))), (md 11, .inl (cyI, 2, .inl (fun _ => 0))), (md 12, .inl (cyI, 2, .inl (fun _ => 0))), (md 13, .inl (cyI, 2, .inl (fun _ => 0))), (md 14, .inl (cyI, 2, .inl (fun _ => 0))), (md 15, .inl (cyI, 2, .inl (upd (upd (fun _ => 0) 0 2) 1 2))), (md 16, .inl (cyI, 2, .inl (fun _ => 0))), (md 17, .inl (cyI, 2, .inl (fun _ => 0))), (md 18, .inl (cyI, 2, .inl (fun _ => 0))), (h1, .inr (7, [.ref (md 0), .ref (md 1), .int 0, .int 0, .int 0, .int (-1), .int 0, .int 0, .int 0, .int 0, .long 0, .ref (md 11), .ref (md 12), .ref (md 13), .ref (md 14), .ref (md 15), .ref (md 16), .ref (md 17), .ref (md 18), .ref (md 19), .ref (md 20), .ref (md 21), .ref (md 22), .ref (md 23), .ref (md 24), .ref (md 25), .ref (md 26), .ref (md 27), .ref (md 28), .int 0, .int 1, .int 560, .int 0, .int 0, .int 0, .int 0, .int 0, .int 0, .int 0, .int 0, .ref (md 40), .ref (md 41), .int 0, .int 0, .ref (md 44), .int 0, .int 0, .ref (md 47), .ref (md 48), .int 0, .ref (md 50), .ref (md 51), .ref (md 52), .ref (md 53), .ref (md 54), .int 0, .int 0, .ref (md 57), .ref (md 58)]))] H := hP
  have hD : va_D A [(md 40, .inl (cyI, 520, .inl g)), (md 58, .inl (cyZ, 3, .inl (fun _ => 0))), (md 11, .inl (cyI, 2, .inl (fun _ => 0))), (md 12, .inl (cyI, 2, .inl (fun _ => 0))), (md 13, .inl (cyI, 2, .inl (fun _ => 0))), (md 14, .inl (cyI, 2, .inl (fun _ => 0))), (md 15, .inl (cyI, 2, .inl (upd (upd (fun _ => 0) 0 2) 1 2))), (md 16, .inl (cyI, 2, .inl (fun _ => 0))), (md 17, .inl (cyI, 2, .inl (fun _ => 0))), (md 18, .inl (cyI, 2, .inl (fun _ => 0))), (h1, .inr (7, [.ref (md 0), .ref (md 1), .int 0, .int 0, .int 0, .int (-1), .int 0, .int 0, .int 0, .int 0, .long 0, .ref (md 11), .ref (md 12), .ref (md 13), .ref (md 14), .ref (md 15), .ref (md 16), .ref (md 17), .ref (md 18), .ref (md 19), .ref (md 20), .ref (md 21), .ref (md 22), .ref (md 23), .ref (md 24), .ref (md 25), .ref (md 26), .ref (md 27), .ref (md 28), .int 0, .int 1, .int 560, .int 0, .int 0, .int 0, .int 0, .int 0, .int 0, .int 0, .int 0, .ref (md 40), .ref (md 41), .int 0, .int 0, .ref (md 44), .int 0, .int 0, .ref (md 47), .ref (md 48), .int 0, .ref (md 50), .ref (md 51), .ref (md 52), .ref (md 53), .ref (md 54), .int 0, .int 0, .ref (md 57), .ref (md 58)]))] := hD
  refine lv_aload_n hx hb dX7_chain_74 rfl (lv_at hl 1 rfl) ?_
  refine gf_i (wr := [(md 40, .inl (cyI, 520, .inl g)), (md 58, .inl (cyZ, 3, .inl (fun _ => 0))), (md 11, .inl (cyI, 2, .inl (fun _ => 0))), (md 12, .inl (cyI, 2, .inl (fun _ => 0))), (md 13, .inl (cyI, 2, .inl (fun _ => 0))), (md 14, .inl (cyI, 2, .inl (fun _ => 0))), (md 15, .inl (cyI, 2, .inl (upd (upd (fun _ => 0) 0 2) 1 2))), (md 16, .inl (cyI, 2, .inl (fun _ => 0))), (md 17, .inl (cyI, 2, .inl (fun _ => 0))), (md 18, .inl (cyI, 2, .inl (fun _ => 0)))]) (va_runV (As := []) (rest := []) hfix (k_X7_isGood l dC dI cyB cyI cyJ cyZ cyO h1 md _) (cwV 0 hts (gi_V (ow_m (k := 14) rfl) (ow_m (k := 15) rfl) (ow_m (k := 16) rfl) (ow_m (k := 10) rfl) (sb_c (sb_r (sb_r sb_l))) gd_k_X7_isGood) rfl rfl rfl (by decide +kernel) ⟨Nat.le_of_ble_eq_true rfl, Nat.le_of_ble_eq_true rfl⟩) (g_preV hKN hP hD [10] rfl (by decide) 0 7 rfl rfl) rfl rfl hl.1 rfl (lv_room (Nat.le_of_ble_eq_true rfl)) dX7_chain_75 ⟨Nat.le_of_ble_eq_true rfl, Nat.le_of_ble_eq_true rfl⟩) hP hD hS hA [10] [0, 1, 2, 3, 4, 5, 6, 7, 8, 9] rfl rfl (by decide) (by decide) (fun r1889 u1890 H locs qu1890 hP hD hS => ?_)
  have hP : va_P (dC, dI) vwCl [(md 40, .inl (cyI, 520, .inl g)), (md 58, .inl (cyZ, 3, .inl (fun _ => 0))), (md 11, .inl (cyI, 2, .inl (fun _ => 0))), (md 12, .inl (cyI, 2, .inl (fun _ => 0))), (md 13, .inl (cyI, 2, .inl (fun _ => 0))), (md 14, .inl (cyI, 2, .inl (fun _ => 0))), (md 15, .inl (cyI, 2, .inl (upd (upd (fun _ => 0) 0 2) 1 2))), (md 16, .inl (cyI, 2, .inl (fun _ => 0))), (md 17, .inl (cyI, 2, .inl (fun _ => 0))), (md 18, .inl (cyI, 2, .inl (fun _ => 0))), (h1, .inr (7, [.ref (md 0), .ref (md 1), .int 0, .int 0, .int 0, .int (-1), .int 0, .int 0, .int 0, .int 0, .long 0, .ref (md 11), .ref (md 12), .ref (md 13), .ref (md 14), .ref (md 15), .ref (md 16), .ref (md 17), .ref (md 18), .ref (md 19), .ref (md 20), .ref (md 21), .ref (md 22), .ref (md 23), .ref (md 24), .ref (md 25), .ref (md 26), .ref (md 27), .ref (md 28), .int 0, .int 1, .int 560, .int 0, .int 0, .int 0, .int 0, .int 0, .int 0, .int 0, .int 0, .ref (md 40), .ref (md 41), .int 0, .int 0, .ref (md 44), .int 0, .int 0, .ref (md 47), .ref (md 48), .int 0, .ref (md 50), .ref (md 51), .ref (md 52), .ref (md 53), .ref (md 54), .int 0, .int 0, .ref (md 57), .ref (md 58)]))] H := hP
  have hD : va_D A [(md 40, .inl (cyI, 520, .inl g)), (md 58, .inl (cyZ, 3, .inl (fun _ => 0))), (md 11, .inl (cyI, 2, .inl (fun _ => 0))), (md 12, .inl (cyI, 2, .inl (fun _ => 0))), (md 13, .inl (cyI, 2, .inl (fun _ => 0))), (md 14, .inl (cyI, 2, .inl (fun _ => 0))), (md 15, .inl (cyI, 2, .inl (upd (upd (fun _ => 0) 0 2) 1 2))), (md 16, .inl (cyI, 2, .inl (fun _ => 0))), (md 17, .inl (cyI, 2, .inl (fun _ => 0))), (md 18, .inl (cyI, 2, .inl (fun _ => 0))), (h1, .inr (7, [.ref (md 0), .ref (md 1), .int 0, .int 0, .int 0, .int (-1), .int 0, .int 0, .int 0, .int 0, .long 0, .ref (md 11), .ref (md 12), .ref (md 13), .ref (md 14), .ref (md 15), .ref (md 16), .ref (md 17), .ref (md 18), .ref (md 19), .ref (md 20), .ref (md 21), .ref (md 22), .ref (md 23), .ref (md 24), .ref (md 25), .ref (md 26), .ref (md 27), .ref (md 28), .int 0, .int 1, .int 560, .int 0, .int 0, .int 0, .int 0, .int 0, .int 0, .int 0, .int 0, .ref (md 40), .ref (md 41), .int 0, .int 0, .ref (md 44), .int 0, .int 0, .ref (md 47), .ref (md 48), .int 0, .ref (md 50), .ref (md 51), .ref (md 52), .ref (md 53), .ref (md 54), .int 0, .int 0, .ref (md 57), .ref (md 58)]))] := hD
  refine tp_c (w := 1) qu1890 ?_
  refine lv_if_eq (tgt := 95) hx hb dX7_chain_78 (by decide) (fun c1891 => absurd c1891 (by decide)) (fun _ => ?_)
  refine lv_aload_n hx hb dX7_chain_81 rfl (lv_at hl 1 rfl) ?_
  refine va_get (D := (dC, dI)) (ci := 7) (v := .int 0) (C := RX7) (T := TX7) (N := 59) hx hb hts hi7 hown hK hP 10 rfl rfl 8 (by decide) (hts _ (ow_m (k := 17) rfl)) (fun _ h9 => h9) rfl dX7_chain_82 ?_
  refine lv_if_eq (tgt := 95) hx hb dX7_chain_85 (by decide) (fun _ => ?_) (fun c1892 => absurd (by decide) c1892)
  refine lv_aload_n hx hb dX7_chain_95 rfl (lv_at hl 1 rfl) ?_
  refine gf_i (wr := [(md 40, .inl (cyI, 520, .inl g)), (md 58, .inl (cyZ, 3, .inl (fun _ => 0))), (md 11, .inl (cyI, 2, .inl (fun _ => 0))), (md 12, .inl (cyI, 2, .inl (fun _ => 0))), (md 13, .inl (cyI, 2, .inl (fun _ => 0))), (md 14, .inl (cyI, 2, .inl (fun _ => 0))), (md 15, .inl (cyI, 2, .inl (upd (upd (fun _ => 0) 0 2) 1 2))), (md 16, .inl (cyI, 2, .inl (fun _ => 0))), (md 17, .inl (cyI, 2, .inl (fun _ => 0))), (md 18, .inl (cyI, 2, .inl (fun _ => 0)))]) (va_runV (As := []) (rest := []) hfix (k_X7_isGood l dC dI cyB cyI cyJ cyZ cyO h1 md _) (cwV 0 hts (gi_V (ow_m (k := 14) rfl) (ow_m (k := 15) rfl) (ow_m (k := 16) rfl) (ow_m (k := 10) rfl) (sb_c (sb_r (sb_r sb_l))) gd_k_X7_isGood) rfl rfl rfl (by decide +kernel) ⟨Nat.le_of_ble_eq_true rfl, Nat.le_of_ble_eq_true rfl⟩) (g_preV hKN hP hD [10] rfl (by decide) 0 7 rfl rfl) rfl rfl hl.1 rfl (lv_room (Nat.le_of_ble_eq_true rfl)) dX7_chain_96 ⟨Nat.le_of_ble_eq_true rfl, Nat.le_of_ble_eq_true rfl⟩) hP hD hS hA [10] [0, 1, 2, 3, 4, 5, 6, 7, 8, 9] rfl rfl (by decide) (by decide) (fun r1894 u1895 H locs qu1895 hP hD hS => ?_)
  have hP : va_P (dC, dI) vwCl [(md 40, .inl (cyI, 520, .inl g)), (md 58, .inl (cyZ, 3, .inl (fun _ => 0))), (md 11, .inl (cyI, 2, .inl (fun _ => 0))), (md 12, .inl (cyI, 2, .inl (fun _ => 0))), (md 13, .inl (cyI, 2, .inl (fun _ => 0))), (md 14, .inl (cyI, 2, .inl (fun _ => 0))), (md 15, .inl (cyI, 2, .inl (upd (upd (fun _ => 0) 0 2) 1 2))), (md 16, .inl (cyI, 2, .inl (fun _ => 0))), (md 17, .inl (cyI, 2, .inl (fun _ => 0))), (md 18, .inl (cyI, 2, .inl (fun _ => 0))), (h1, .inr (7, [.ref (md 0), .ref (md 1), .int 0, .int 0, .int 0, .int (-1), .int 0, .int 0, .int 0, .int 0, .long 0, .ref (md 11), .ref (md 12), .ref (md 13), .ref (md 14), .ref (md 15), .ref (md 16), .ref (md 17), .ref (md 18), .ref (md 19), .ref (md 20), .ref (md 21), .ref (md 22), .ref (md 23), .ref (md 24), .ref (md 25), .ref (md 26), .ref (md 27), .ref (md 28), .int 0, .int 1, .int 560, .int 0, .int 0, .int 0, .int 0, .int 0, .int 0, .int 0, .int 0, .ref (md 40), .ref (md 41), .int 0, .int 0, .ref (md 44), .int 0, .int 0, .ref (md 47), .ref (md 48), .int 0, .ref (md 50), .ref (md 51), .ref (md 52), .ref (md 53), .ref (md 54), .int 0, .int 0, .ref (md 57), .ref (md 58)]))] H := hP
  have hD : va_D A [(md 40, .inl (cyI, 520, .inl g)), (md 58, .inl (cyZ, 3, .inl (fun _ => 0))), (md 11, .inl (cyI, 2, .inl (fun _ => 0))), (md 12, .inl (cyI, 2, .inl (fun _ => 0))), (md 13, .inl (cyI, 2, .inl (fun _ => 0))), (md 14, .inl (cyI, 2, .inl (fun _ => 0))), (md 15, .inl (cyI, 2, .inl (upd (upd (fun _ => 0) 0 2) 1 2))), (md 16, .inl (cyI, 2, .inl (fun _ => 0))), (md 17, .inl (cyI, 2, .inl (fun _ => 0))), (md 18, .inl (cyI, 2, .inl (fun _ => 0))), (h1, .inr (7, [.ref (md 0), .ref (md 1), .int 0, .int 0, .int 0, .int (-1), .int 0, .int 0, .int 0, .int 0, .long 0, .ref (md 11), .ref (md 12), .ref (md 13), .ref (md 14), .ref (md 15), .ref (md 16), .ref (md 17), .ref (md 18), .ref (md 19), .ref (md 20), .ref (md 21), .ref (md 22), .ref (md 23), .ref (md 24), .ref (md 25), .ref (md 26), .ref (md 27), .ref (md 28), .int 0, .int 1, .int 560, .int 0, .int 0, .int 0, .int 0, .int 0, .int 0, .int 0, .int 0, .ref (md 40), .ref (md 41), .int 0, .int 0, .ref (md 44), .int 0, .int 0, .ref (md 47), .ref (md 48), .int 0, .ref (md 50), .ref (md 51), .ref (md 52), .ref (md 53), .ref (md 54), .int 0, .int 0, .ref (md 57), .ref (md 58)]))] := hD
  refine tp_c (w := 1) qu1895 ?_
  refine lv_if_ne (tgt := 104) hx hb dX7_chain_99 (by decide) (fun _ => ?_) (fun c1896 => absurd c1896 (by decide))
  refine lv_aload_n hx hb dX7_chain_104 rfl (lv_at hl 1 rfl) ?_
  refine lv_aload_n hx hb dX7_chain_105 rfl (lv_at hl 1 rfl) ?_
  refine va_get (D := (dC, dI)) (ci := 7) (v := .int 1) (C := RX7) (T := TX7) (N := 59) hx hb hts hi7 hown hK hP 10 rfl rfl 30 (by decide) (hts _ (ow_m (k := 6) rfl)) (fun _ h9 => h9) rfl dX7_chain_106 ?_
  refine va_put (D := (dC, dI)) (ci := 7) (v := .int 1) (ty := .int) (C := RX7) (T := TX7) (N := 59) hx hb hts hi7 tyX7 tyX7_ok nmX7 hown hK hP hD hS 10 rfl rfl 29 (by decide) (hts _ (ow_m (k := 5) rfl)) (fun _ h9 => h9) rfl (by decide +kernel) rfl rfl (Nat.le_of_ble_eq_true rfl) dX7_chain_109 (fun H locs hP hD hS => ?_)
  have hP : va_P (dC, dI) vwCl [(md 40, .inl (cyI, 520, .inl g)), (md 58, .inl (cyZ, 3, .inl (fun _ => 0))), (md 11, .inl (cyI, 2, .inl (fun _ => 0))), (md 12, .inl (cyI, 2, .inl (fun _ => 0))), (md 13, .inl (cyI, 2, .inl (fun _ => 0))), (md 14, .inl (cyI, 2, .inl (fun _ => 0))), (md 15, .inl (cyI, 2, .inl (upd (upd (fun _ => 0) 0 2) 1 2))), (md 16, .inl (cyI, 2, .inl (fun _ => 0))), (md 17, .inl (cyI, 2, .inl (fun _ => 0))), (md 18, .inl (cyI, 2, .inl (fun _ => 0))), (h1, .inr (7, [.ref (md 0), .ref (md 1), .int 0, .int 0, .int 0, .int (-1), .int 0, .int 0, .int 0, .int 0, .long 0, .ref (md 11), .ref (md 12), .ref (md 13), .ref (md 14), .ref (md 15), .ref (md 16), .ref (md 17), .ref (md 18), .ref (md 19), .ref (md 20), .ref (md 21), .ref (md 22), .ref (md 23), .ref (md 24), .ref (md 25), .ref (md 26), .ref (md 27), .ref (md 28), .int 1, .int 1, .int 560, .int 0, .int 0, .int 0, .int 0, .int 0, .int 0, .int 0, .int 0, .ref (md 40), .ref (md 41), .int 0, .int 0, .ref (md 44), .int 0, .int 0, .ref (md 47), .ref (md 48), .int 0, .ref (md 50), .ref (md 51), .ref (md 52), .ref (md 53), .ref (md 54), .int 0, .int 0, .ref (md 57), .ref (md 58)]))] H := hP
  have hD : va_D A [(md 40, .inl (cyI, 520, .inl g)), (md 58, .inl (cyZ, 3, .inl (fun _ => 0))), (md 11, .inl (cyI, 2, .inl (fun _ => 0))), (md 12, .inl (cyI, 2, .inl (fun _ => 0))), (md 13, .inl (cyI, 2, .inl (fun _ => 0))), (md 14, .inl (cyI, 2, .inl (fun _ => 0))), (md 15, .inl (cyI, 2, .inl (upd (upd (fun _ => 0) 0 2) 1 2))), (md 16, .inl (cyI, 2, .inl (fun _ => 0))), (md 17, .inl (cyI, 2, .inl (fun _ => 0))), (md 18, .inl (cyI, 2, .inl (fun _ => 0))), (h1, .inr (7, [.ref (md 0), .ref (md 1), .int 0, .int 0, .int 0, .int (-1), .int 0, .int 0, .int 0, .int 0, .long 0, .ref (md 11), .ref (md 12), .ref (md 13), .ref (md 14), .ref (md 15), .ref (md 16), .ref (md 17), .ref (md 18), .ref (md 19), .ref (md 20), .ref (md 21), .ref (md 22), .ref (md 23), .ref (md 24), .ref (md 25), .ref (md 26), .ref (md 27), .ref (md 28), .int 1, .int 1, .int 560, .int 0, .int 0, .int 0, .int 0, .int 0, .int 0, .int 0, .int 0, .ref (md 40), .ref (md 41), .int 0, .int 0, .ref (md 44), .int 0, .int 0, .ref (md 47), .ref (md 48), .int 0, .ref (md 50), .ref (md 51), .ref (md 52), .ref (md 53), .ref (md 54), .int 0, .int 0, .ref (md 57), .ref (md 58)]))] := hD
  refine lv_aload_n hx hb dX7_chain_112 rfl (lv_at hl 1 rfl) ?_
  refine gf_v (wr := [(md 11, .inl (cyI, 2, .inl (fun _ => 0))), (md 13, .inl (cyI, 2, .inl (fun _ => 0))), (md 14, .inl (cyI, 2, .inl (fun _ => 0))), (md 15, .inl (cyI, 2, .inl (upd (upd (fun _ => 0) 0 2) 1 2))), (md 16, .inl (cyI, 2, .inl (fun _ => 0))), (md 18, .inl (cyI, 2, .inl (fun _ => 0)))]) (va_runV (As := []) (rest := []) hfix (k_X7_startAnew l dC dI cyB cyI cyJ cyZ cyO md g h1 _ hg) (cwV 0 hts (gi_V (ow_m (k := 18) rfl) (ow_m (k := 19) rfl) (ow_m (k := 20) rfl) (ow_m (k := 10) rfl) (sb_c (sb_r (sb_r (sb_r sb_l)))) gd_k_X7_startAnew) rfl rfl rfl (by decide +kernel) ⟨Nat.le_of_ble_eq_true rfl, Nat.le_of_ble_eq_true rfl⟩) (g_preV hKN hP hD [0, 1, 3, 8, 10] rfl (by decide) 4 7 rfl rfl) rfl rfl hl.1 rfl (lv_room (Nat.le_of_ble_eq_true rfl)) dX7_chain_113 ⟨Nat.le_of_ble_eq_true rfl, Nat.le_of_ble_eq_true rfl⟩) hP hD hS hA [0, 1, 3, 8, 10] [2, 4, 5, 6, 7, 9] rfl rfl (by decide) (by decide) (fun u1910 H locs qu1910 hP hD hS => ?_)
  have hP : va_P (dC, dI) vwCl [(md 11, .inl (cyI, 2, .inl (fun _ => 0))), (md 13, .inl (cyI, 2, .inl (fun _ => 0))), (md 14, .inl (cyI, 2, .inl (fun _ => 0))), (md 15, .inl (cyI, 2, .inl (upd (upd (fun _ => 0) 0 2) 1 2))), (md 16, .inl (cyI, 2, .inl (fun _ => 0))), (md 18, .inl (cyI, 2, .inl (fun _ => 0))), (md 40, .inl (cyI, 520, .inl (u1910 0))), (md 58, .inl (cyZ, 3, .inl (fun _ => 0))), (md 12, .inl (cyI, 2, .inl (fun _ => 0))), (md 17, .inl (cyI, 2, .inl (fun _ => 0))), (h1, .inr (7, [.ref (md 0), .ref (md 1), .int 0, .int 0, .int 0, .int (-1), .int 0, .int 0, .int 0, .int 0, .long 0, .ref (md 11), .ref (md 12), .ref (md 13), .ref (md 14), .ref (md 15), .ref (md 16), .ref (md 17), .ref (md 18), .ref (md 19), .ref (md 20), .ref (md 21), .ref (md 22), .ref (md 23), .ref (md 24), .ref (md 25), .ref (md 26), .ref (md 27), .ref (md 28), .int 1, .int 1, .int 560, .int 0, .int 0, .int 0, .int 0, .int 0, .int 0, .int 0, .int 0, .ref (md 40), .ref (md 41), .int 0, .int 0, .ref (md 44), .int 0, .int 0, .ref (md 47), .ref (md 48), .int 0, .ref (md 50), .ref (md 51), .ref (md 52), .ref (md 53), .ref (md 54), .int 0, .int 0, .ref (md 57), .ref (md 58)]))] H := hP
  have hD : va_D A [(md 11, .inl (cyI, 2, .inl (fun _ => 0))), (md 13, .inl (cyI, 2, .inl (fun _ => 0))), (md 14, .inl (cyI, 2, .inl (fun _ => 0))), (md 15, .inl (cyI, 2, .inl (upd (upd (fun _ => 0) 0 2) 1 2))), (md 16, .inl (cyI, 2, .inl (fun _ => 0))), (md 18, .inl (cyI, 2, .inl (fun _ => 0))), (md 40, .inl (cyI, 520, .inl (u1910 0))), (md 58, .inl (cyZ, 3, .inl (fun _ => 0))), (md 12, .inl (cyI, 2, .inl (fun _ => 0))), (md 17, .inl (cyI, 2, .inl (fun _ => 0))), (h1, .inr (7, [.ref (md 0), .ref (md 1), .int 0, .int 0, .int 0, .int (-1), .int 0, .int 0, .int 0, .int 0, .long 0, .ref (md 11), .ref (md 12), .ref (md 13), .ref (md 14), .ref (md 15), .ref (md 16), .ref (md 17), .ref (md 18), .ref (md 19), .ref (md 20), .ref (md 21), .ref (md 22), .ref (md 23), .ref (md 24), .ref (md 25), .ref (md 26), .ref (md 27), .ref (md 28), .int 1, .int 1, .int 560, .int 0, .int 0, .int 0, .int 0, .int 0, .int 0, .int 0, .int 0, .ref (md 40), .ref (md 41), .int 0, .int 0, .ref (md 44), .int 0, .int 0, .ref (md 47), .ref (md 48), .int 0, .ref (md 50), .ref (md 51), .ref (md 52), .ref (md 53), .ref (md 54), .int 0, .int 0, .ref (md 57), .ref (md 58)]))] := hD
  refine lv_aload_n hx hb dX7_chain_116 rfl (lv_at hl 1 rfl) ?_
  refine va_get (D := (dC, dI)) (ci := 7) (v := .ref (md 12)) (C := RX7) (T := TX7) (N := 59) hx hb hts hi7 hown hK hP 10 rfl rfl 12 (by decide) (hts _ (ow_m (k := 21) rfl)) (fun _ h9 => h9) rfl dX7_chain_117 ?_
  refine lv_aload_n hx hb dX7_chain_120 rfl (lv_at hl 1 rfl) ?_
  refine va_get (D := (dC, dI)) (ci := 7) (v := .int 1) (C := RX7) (T := TX7) (N := 59) hx hb hts hi7 hown hK hP 10 rfl rfl 29 (by decide) (hts _ (ow_m (k := 5) rfl)) (fun _ h9 => h9) rfl dX7_chain_121 ?_
  refine va_iald hx hb hK hP 8 1 rfl rfl (vp_i (a := 1) (by decide) (by decide) (by decide)) dX7_chain_124 ?_
  refine tp_c (w := 0) (by rfl) ?_
  exact W.iret (v := 0) hx hb hr (fun t ht hW => ⟨⟨0, (), rfl, rfl, cE.nil⟩, hS.F ht⟩) hS.2.2 dX7_chain_125
def wo_c_M_fault : List Cond := [.fieldLink RX7 16 "ReplicaChainModel" "faultPlace" "I", .fieldLink RX7 122 "ReplicaChainModel" "faultKind" "I"]
def wq_c_M_fault : List Cond := .code yX7_fault cX7_fault 2 (some .int) :: (wo_c_M_fault ++ (wsX70 ++ []))
theorem gd_c_M_fault : Gd wq_c_M_fault := gd_c (gd_a (gd_o (by decide +kernel)) (gd_a gd_u gd_0))
abbrev wc_c_M_fault (cyB cyI cyJ cyZ cyO : ClassId) (h1 : Nat) (md : Nat → Nat) (x1 : Int32) : va_W := [(h1, .inr (7, [.ref (md 0), .ref (md 1), .int 0, .int 0, .int 0, .int (-1), .int 0, .int 0, .int 0, .int 0, .long 0, .ref (md 11), .ref (md 12), .ref (md 13), .ref (md 14), .ref (md 15), .ref (md 16), .ref (md 17), .ref (md 18), .ref (md 19), .ref (md 20), .ref (md 21), .ref (md 22), .ref (md 23), .ref (md 24), .ref (md 25), .ref (md 26), .ref (md 27), .ref (md 28), .int 0, .int 0, .int 0, .int 0, .int 0, .int 0, .int 0, .int 0, .int 0, .int 0, .int 0, .ref (md 40), .ref (md 41), .int 0, .int 0, .ref (md 44), .int 0, .int 0, .ref (md 47), .ref (md 48), .int 0, .ref (md 50), .ref (md 51), .ref (md 52), .ref (md 53), .ref (md 54), .int 0, .int 0, .ref (md 57), .ref (md 58)]))]
set_option maxHeartbeats 4000000 in
set_option maxRecDepth 100000 in
theorem c_M_fault (l : Launch) (dC : Nat → ClassId) (dI : Nat → Nat → Nat) (cyB cyI cyJ cyZ cyO : ClassId) (h1 : Nat) (md : Nat → Nat) (x1 : Int32) (sz : Nat) : Met l yX7_fault wq_c_M_fault ({ frames := 0, cells := 0, slots := 0, locals := 0 }) (va_Pc [.ref h1, .int x1] (cB (dC, dI) (kT cyB cyI cyJ cyZ cyO) (wc_c_M_fault cyB cyI cyJ cyZ cyO h1 md x1) sz)) (va_Qi (fun (r : Int32) (_ : Unit) => r = sp_fault x1) (fun (u : Unit) t => cE (dC, dI) (va_A (wc_c_M_fault cyB cyI cyJ cyZ cyO h1 md x1) sz) ([]) t.heap) (va_A (wc_c_M_fault cyB cyI cyJ cyZ cyO h1 md x1) sz)) 0 0 (va_A (wc_c_M_fault cyB cyI cyJ cyZ cyO h1 md x1) sz) := by
  refine Met.ofW (cc := cX7_fault) (maxL := 2) (ret := (some .int)) (by decide) rfl ?_
  intro p e s m args below meth c s₁ B hml hv
  obtain ⟨rfl, hsz, hP, hKN, hD0⟩ := hv
  have hx := B.exec
  have hb := B.bytes
  have hr := B.returns
  have hts := atoms_spec (ws := wq_c_M_fault) B.pre
  have hown : s.vm.findClass RX7 = some m.cls := findClass_of_methodNamed B.named
  have hlocks := B.notSynchronized
  have hK := hKN.1
  have hfix : CallFix p m c cX7_fault 2 s [.ref h1, .int x1].toArray wq_c_M_fault RX7 := ⟨hx, hb, hml, hown, hts⟩
  have hi7 : ∀ w ∈ wsX70, w ∈ wq_c_M_fault := (sb_c sb_l)
  subst hsz
  have hD := hD0.self (sz := s.heap.size)
  generalize hAe : va_A (wc_c_M_fault cyB cyI cyJ cyZ cyO h1 md x1) s.heap.size = A at hD ⊢
  have hA : ∀ q : Nat, s.heap.size ≤ q → A q := fun q h => by rw [← hAe]; exact Or.inr h
  have hS : va_S A s.heap s.heap [] := va_S.rf
  have hl := lv_entry ([.ref h1, .int x1]) (n := 2) (Nat.le_of_ble_eq_true rfl)
  rw [lg_entry_eq]
  generalize (lg_sl ([.ref h1, .int x1]) ++ List.replicate (2 - (lg_sl ([.ref h1, .int x1])).length) Slot.unset).toArray = ls at hl ⊢
  have hl : lv_has ls 2 [(0, .ref h1), (1, .int x1)] := hl
  refine lv_iload_n hx hb dX7_fault_0 rfl (lv_at hl 1 rfl) ?_
  refine lv_if_ne (tgt := 11) hx hb dX7_fault_1 (by decide) (fun c1913 => ?_) (fun c1913 => ?_)
  · have c1913 := i_ne (a := x1.toInt) (b := 0) c1913 rfl (by decide)
    refine lv_iload_n hx hb dX7_fault_11 rfl (lv_at hl 1 rfl) ?_
    refine lv_iconst (v := 1) hx hb dX7_fault_12 (by decide) ?_
    refine lv_icmp_ne (tgt := 23) hx hb dX7_fault_13 (by decide) (fun c1914 => ?_) (fun c1914 => ?_)
    · have c1914 := i_ne (a := x1.toInt) (b := 1) c1914 rfl (by decide)
      refine lv_iconst (v := (-1)) hx hb dX7_fault_23 (by decide) ?_
      exact W.iret (v := (-1)) hx hb hr (fun t ht hW => ⟨⟨(-1), (), rfl, (by first | decide | (unfold sp_fault; (repeat' split) <;> first | rfl | omega)), cE.nil⟩, hS.F ht⟩) hS.2.2 dX7_fault_24
    · have c1914 := i_eq (a := x1.toInt) (b := 1) c1914 rfl (by decide)
      refine lv_aload_n hx hb dX7_fault_16 rfl (lv_at hl 0 rfl) ?_
      refine va_get (D := (dC, dI)) (ci := 7) (v := .int (-1)) (C := RX7) (T := TX7) (N := 59) hx hb hts hi7 hown hK hP 0 rfl rfl 5 (by decide) (hts _ (ow_m (k := 0) rfl)) (fun _ h9 => h9) rfl dX7_fault_17 ?_
      refine lv_goto (tgt := 24) hx hb dX7_fault_20 (by decide) ?_
      exact W.iret (v := (-1)) hx hb hr (fun t ht hW => ⟨⟨(-1), (), rfl, (by first | decide | (unfold sp_fault; (repeat' split) <;> first | rfl | omega)), cE.nil⟩, hS.F ht⟩) hS.2.2 dX7_fault_24
  · have c1913 := i_eq (a := x1.toInt) (b := 0) c1913 rfl (by decide)
    refine lv_aload_n hx hb dX7_fault_4 rfl (lv_at hl 0 rfl) ?_
    refine va_get (D := (dC, dI)) (ci := 7) (v := .int 0) (C := RX7) (T := TX7) (N := 59) hx hb hts hi7 hown hK hP 0 rfl rfl 4 (by decide) (hts _ (ow_m (k := 1) rfl)) (fun _ h9 => h9) rfl dX7_fault_5 ?_
    refine lv_goto (tgt := 24) hx hb dX7_fault_8 (by decide) ?_
    exact W.iret (v := 0) hx hb hr (fun t ht hW => ⟨⟨0, (), rfl, (by first | decide | (unfold sp_fault; (repeat' split) <;> first | rfl | omega)), cE.nil⟩, hS.F ht⟩) hS.2.2 dX7_fault_24
def wo_k_X7_lots_v5 : List Cond := [.fieldLink RX7 76 "ReplicaChainModel" "all" "[I"]
def wq_k_X7_lots_v5 : List Cond := .code yX7_lots cX7_lots 1 (some .int) :: (wo_k_X7_lots_v5 ++ (wsX70 ++ []))
theorem gd_k_X7_lots_v5 : Gd wq_k_X7_lots_v5 := gd_c (gd_a (gd_o (by decide +kernel)) (gd_a gd_u gd_0))
abbrev wc_k_X7_lots_v5 (cyB cyI cyJ cyZ cyO : ClassId) (h1 : Nat) (md : Nat → Nat) (g : Nat → Int32) : va_W := [(h1, .inr (7, [.ref (md 0), .ref (md 1), .int 0, .int 0, .int 0, .int (-1), .int 0, .int 0, .int 0, .int 0, .long 0, .ref (md 11), .ref (md 12), .ref (md 13), .ref (md 14), .ref (md 15), .ref (md 16), .ref (md 17), .ref (md 18), .ref (md 19), .ref (md 20), .ref (md 21), .ref (md 22), .ref (md 23), .ref (md 24), .ref (md 25), .ref (md 26), .ref (md 27), .ref (md 28), .int 0, .int 0, .int 0, .int 0, .int 0, .int 0, .int 0, .int 0, .int 0, .int 0, .int 0, .ref (md 40), .ref (md 41), .int 0, .int 0, .ref (md 44), .int 0, .int 0, .ref (md 47), .ref (md 48), .int 0, .ref (md 50), .ref (md 51), .ref (md 52), .ref (md 53), .ref (md 54), .int 0, .int 0, .ref (md 57), .ref (md 58)])), (md 40, .inl (cyI, 520, .inl g))]
set_option maxHeartbeats 4000000 in
set_option maxRecDepth 100000 in
theorem k_X7_lots_v5 (l : Launch) (dC : Nat → ClassId) (dI : Nat → Nat → Nat) (cyB cyI cyJ cyZ cyO : ClassId) (h1 : Nat) (md : Nat → Nat) (g : Nat → Int32) (sz : Nat) (hg : AllZ g) : Met l yX7_lots wq_k_X7_lots_v5 ({ frames := 0, cells := 0, slots := 0, locals := 0 }) (va_Pc [.ref h1] (cB (dC, dI) (kT cyB cyI cyJ cyZ cyO) (wc_k_X7_lots_v5 cyB cyI cyJ cyZ cyO h1 md g) sz)) (va_Qi (fun (r : Int32) _ => r = 0) (fun (u : Unit) t => cE (dC, dI) (va_A (wc_k_X7_lots_v5 cyB cyI cyJ cyZ cyO h1 md g) sz) ([(h1, .inr (7, [.ref (md 0), .ref (md 1), .int 0, .int 0, .int 0, .int (-1), .int 0, .int 0, .int 0, .int 0, .long 0, .ref (md 11), .ref (md 12), .ref (md 13), .ref (md 14), .ref (md 15), .ref (md 16), .ref (md 17), .ref (md 18), .ref (md 19), .ref (md 20), .ref (md 21), .ref (md 22), .ref (md 23), .ref (md 24), .ref (md 25), .ref (md 26), .ref (md 27), .ref (md 28), .int 0, .int 0, .int 0, .int 0, .int 0, .int 0, .int 0, .int 0, .int 0, .int 0, .int 0, .ref (md 40), .ref (md 41), .int 0, .int 0, .ref (md 44), .int 0, .int 0, .ref (md 47), .ref (md 48), .int 0, .ref (md 50), .ref (md 51), .ref (md 52), .ref (md 53), .ref (md 54), .int 0, .int 0, .ref (md 57), .ref (md 58)])), (md 40, .inl (cyI, 520, .inl g))]) t.heap) (va_A (wc_k_X7_lots_v5 cyB cyI cyJ cyZ cyO h1 md g) sz)) 0 0 (va_A (wc_k_X7_lots_v5 cyB cyI cyJ cyZ cyO h1 md g) sz) := by
  refine Met.ofW (cc := cX7_lots) (maxL := 1) (ret := (some .int)) (by decide) rfl ?_
  intro p e s m args below meth c s₁ B hml hv
  obtain ⟨rfl, hsz, hP, hKN, hD0⟩ := hv
  have hx := B.exec
  have hb := B.bytes
  have hr := B.returns
  have hts := atoms_spec (ws := wq_k_X7_lots_v5) B.pre
  have hown : s.vm.findClass RX7 = some m.cls := findClass_of_methodNamed B.named
  have hlocks := B.notSynchronized
  have hK := hKN.1
  have hfix : CallFix p m c cX7_lots 1 s [.ref h1].toArray wq_k_X7_lots_v5 RX7 := ⟨hx, hb, hml, hown, hts⟩
  have hi7 : ∀ w ∈ wsX70, w ∈ wq_k_X7_lots_v5 := (sb_c sb_l)
  subst hsz
  have hD := hD0.self (sz := s.heap.size)
  generalize hAe : va_A (wc_k_X7_lots_v5 cyB cyI cyJ cyZ cyO h1 md g) s.heap.size = A at hD ⊢
  have hA : ∀ q : Nat, s.heap.size ≤ q → A q := fun q h => by rw [← hAe]; exact Or.inr h
  have hS : va_S A s.heap s.heap [] := va_S.rf
  have hl := lv_entry ([.ref h1]) (n := 1) (Nat.le_of_ble_eq_true rfl)
  rw [lg_entry_eq]
  generalize (lg_sl ([.ref h1]) ++ List.replicate (1 - (lg_sl ([.ref h1])).length) Slot.unset).toArray = ls at hl ⊢
  have hl : lv_has ls 1 [(0, .ref h1)] := hl
  refine lv_aload_n hx hb dX7_lots_0 rfl (lv_at hl 0 rfl) ?_
  refine va_get (D := (dC, dI)) (ci := 7) (v := .ref (md 40)) (C := RX7) (T := TX7) (N := 59) hx hb hts hi7 hown hK hP 0 rfl rfl 40 (by decide) (hts _ (ow_m (k := 0) rfl)) (fun _ h9 => h9) rfl dX7_lots_1 ?_
  refine lv_iconst (v := 0) hx hb dX7_lots_4 (by decide) ?_
  refine va_iald hx hb hK hP 1 1 rfl rfl (vp_i (a := 0) (by decide) (by decide) (by decide)) dX7_lots_5 ?_
  refine tp_c (w := 0) (hg 0 (by decide)) ?_
  exact W.iret (v := 0) hx hb hr (fun t ht hW => ⟨⟨0, (), rfl, rfl, cE.of ht hP hD [0, 1] (by decide) rfl⟩, hS.F ht⟩) hS.2.2 dX7_lots_6
def wo_k_X7_isIn : List Cond := []
def wq_k_X7_isIn : List Cond := .code yX7_isIn cX7_isIn 3 (some .boolean) :: (wo_k_X7_isIn ++ [])
theorem gd_k_X7_isIn : Gd wq_k_X7_isIn := gd_c (gd_a (gd_o (by decide +kernel)) gd_0)
abbrev wc_k_X7_isIn (cyB cyI cyJ cyZ cyO : ClassId) (a0 : Int32) : va_W := []
set_option maxHeartbeats 4000000 in
set_option maxRecDepth 100000 in
theorem k_X7_isIn (l : Launch) (dC : Nat → ClassId) (dI : Nat → Nat → Nat) (cyB cyI cyJ cyZ cyO : ClassId) (a0 : Int32) (sz : Nat) : Met l yX7_isIn wq_k_X7_isIn ({ frames := 0, cells := 0, slots := 0, locals := 0 }) (va_Pc [.int a0, .int 0, .int (-1)] (cB (dC, dI) (kT cyB cyI cyJ cyZ cyO) (wc_k_X7_isIn cyB cyI cyJ cyZ cyO a0) sz)) (va_Qi (fun (r : Int32) _ => (r = 0 ∧ a0.toInt < 0) ∨ (r = 0 ∧ 0 ≤ a0.toInt ∧ (-1) < a0.toInt)) (fun (u : Unit) t => cE (dC, dI) (va_A (wc_k_X7_isIn cyB cyI cyJ cyZ cyO a0) sz) ([]) t.heap) (va_A (wc_k_X7_isIn cyB cyI cyJ cyZ cyO a0) sz)) 0 0 (va_A (wc_k_X7_isIn cyB cyI cyJ cyZ cyO a0) sz) := by
  refine Met.ofW (cc := cX7_isIn) (maxL := 3) (ret := (some .boolean)) (by decide) rfl ?_
  intro p e s m args below meth c s₁ B hml hv
  obtain ⟨rfl, hsz, hP, hKN, hD0⟩ := hv
  have hx := B.exec
  have hb := B.bytes
  have hr := B.returns
  have hts := atoms_spec (ws := wq_k_X7_isIn) B.pre
  have hown : s.vm.findClass RX7 = some m.cls := findClass_of_methodNamed B.named
  have hlocks := B.notSynchronized
  have hK := hKN.1
  have hfix : CallFix p m c cX7_isIn 3 s [.int a0, .int 0, .int (-1)].toArray wq_k_X7_isIn RX7 := ⟨hx, hb, hml, hown, hts⟩
  subst hsz
  have hD := hD0.self (sz := s.heap.size)
  generalize hAe : va_A (wc_k_X7_isIn cyB cyI cyJ cyZ cyO a0) s.heap.size = A at hD ⊢
  have hA : ∀ q : Nat, s.heap.size ≤ q → A q := fun q h => by rw [← hAe]; exact Or.inr h
  have hS : va_S A s.heap s.heap [] := va_S.rf
  have hl := lv_entry ([.int a0, .int 0, .int (-1)]) (n := 3) (Nat.le_of_ble_eq_true rfl)
  rw [lg_entry_eq]
  generalize (lg_sl ([.int a0, .int 0, .int (-1)]) ++ List.replicate (3 - (lg_sl ([.int a0, .int 0, .int (-1)])).length) Slot.unset).toArray = ls at hl ⊢
  have hl : lv_has ls 3 [(0, .int a0), (1, .int 0), (2, .int (-1))] := hl
  refine lv_iload_n hx hb dX7_isIn_0 rfl (lv_at hl 0 rfl) ?_
  refine lv_iload_n hx hb dX7_isIn_1 rfl (lv_at hl 1 rfl) ?_
  refine lv_icmp_lt (tgt := 14) hx hb dX7_isIn_2 (by decide) (fun c1919 => ?_) (fun c1919 => ?_)
  · have c1919 := i_lt (a := a0.toInt) (b := 0) c1919 rfl (by decide)
    refine lv_iconst (v := 0) hx hb dX7_isIn_14 (by decide) ?_
    exact W.zret (v := 0) hx hb hr (by decide) (fun t ht hW => ⟨⟨0, (), rfl, (Or.inl ⟨rfl, c1919⟩), cE.of ht hP hD [] (by decide) rfl⟩, hS.F ht⟩) hS.2.2 dX7_isIn_15
  · have c1919 := i_nlt (a := a0.toInt) (b := 0) c1919 rfl (by decide)
    refine lv_iload_n hx hb dX7_isIn_5 rfl (lv_at hl 0 rfl) ?_
    refine lv_iload_n hx hb dX7_isIn_6 rfl (lv_at hl 2 rfl) ?_
    refine lv_icmp_gt (tgt := 14) hx hb dX7_isIn_7 (by decide) (fun c1920 => ?_) (fun c1920 => ?_)
    · have c1920 := i_lt (a := (-1)) (b := a0.toInt) c1920 (by decide) rfl
      refine lv_iconst (v := 0) hx hb dX7_isIn_14 (by decide) ?_
      exact W.zret (v := 0) hx hb hr (by decide) (fun t ht hW => ⟨⟨0, (), rfl, (Or.inr ⟨rfl, c1919, c1920⟩), cE.of ht hP hD [] (by decide) rfl⟩, hS.F ht⟩) hS.2.2 dX7_isIn_15
    · have c1920 := i_nlt (a := (-1)) (b := a0.toInt) c1920 (by decide) rfl
      exfalso; omega
def wo_c_M_row : List Cond := [.methodLink RX7 313 yX7_lots, .instanceMethod yX7_lots, .selects RX7 yX7_lots yX7_lots, .initialized RX7, .methodLink RX7 316 yX7_isIn, .static yX7_isIn]
def wq_c_M_row : List Cond := .code yX7_row cX7_row 2 (some .int) :: (wo_c_M_row ++ (wq_k_X7_lots_v5 ++ (wq_k_X7_isIn ++ [])))
theorem gd_c_M_row : Gd wq_c_M_row := gd_c (gd_a (gd_o (by decide +kernel)) (gd_a gd_k_X7_lots_v5 (gd_a gd_k_X7_isIn gd_0)))
abbrev wc_c_M_row (cyB cyI cyJ cyZ cyO : ClassId) (h1 : Nat) (md : Nat → Nat) (g : Nat → Int32) (x1 : Int32) : va_W := [(h1, .inr (7, [.ref (md 0), .ref (md 1), .int 0, .int 0, .int 0, .int (-1), .int 0, .int 0, .int 0, .int 0, .long 0, .ref (md 11), .ref (md 12), .ref (md 13), .ref (md 14), .ref (md 15), .ref (md 16), .ref (md 17), .ref (md 18), .ref (md 19), .ref (md 20), .ref (md 21), .ref (md 22), .ref (md 23), .ref (md 24), .ref (md 25), .ref (md 26), .ref (md 27), .ref (md 28), .int 0, .int 0, .int 0, .int 0, .int 0, .int 0, .int 0, .int 0, .int 0, .int 0, .int 0, .ref (md 40), .ref (md 41), .int 0, .int 0, .ref (md 44), .int 0, .int 0, .ref (md 47), .ref (md 48), .int 0, .ref (md 50), .ref (md 51), .ref (md 52), .ref (md 53), .ref (md 54), .int 0, .int 0, .ref (md 57), .ref (md 58)])), (md 40, .inl (cyI, 520, .inl g))]
set_option maxHeartbeats 4000000 in
set_option maxRecDepth 100000 in
theorem c_M_row (l : Launch) (dC : Nat → ClassId) (dI : Nat → Nat → Nat) (cyB cyI cyJ cyZ cyO : ClassId) (h1 : Nat) (md : Nat → Nat) (g : Nat → Int32) (x1 : Int32) (sz : Nat) (hg : AllZ g) : Met l yX7_row wq_c_M_row ({ frames := 1, cells := 0, slots := 0, locals := 22 }) (va_Pc [.ref h1, .int x1] (cB (dC, dI) (kT cyB cyI cyJ cyZ cyO) (wc_c_M_row cyB cyI cyJ cyZ cyO h1 md g x1) sz)) (va_Qi (fun (r : Int32) (_ : Unit) => r = -1) (fun (u : Unit) t => cE (dC, dI) (va_A (wc_c_M_row cyB cyI cyJ cyZ cyO h1 md g x1) sz) ([]) t.heap) (va_A (wc_c_M_row cyB cyI cyJ cyZ cyO h1 md g x1) sz)) 0 0 (va_A (wc_c_M_row cyB cyI cyJ cyZ cyO h1 md g x1) sz) := by
  refine Met.ofW (cc := cX7_row) (maxL := 2) (ret := (some .int)) (by decide) rfl ?_
  intro p e s m args below meth c s₁ B hml hv
  obtain ⟨rfl, hsz, hP, hKN, hD0⟩ := hv
  have hx := B.exec
  have hb := B.bytes
  have hr := B.returns
  have hts := atoms_spec (ws := wq_c_M_row) B.pre
  have hown : s.vm.findClass RX7 = some m.cls := findClass_of_methodNamed B.named
  have hlocks := B.notSynchronized
  have hK := hKN.1
  have hfix : CallFix p m c cX7_row 2 s [.ref h1, .int x1].toArray wq_c_M_row RX7 := ⟨hx, hb, hml, hown, hts⟩
  subst hsz
  have hD := hD0.self (sz := s.heap.size)
  generalize hAe : va_A (wc_c_M_row cyB cyI cyJ cyZ cyO h1 md g x1) s.heap.size = A at hD ⊢
  have hA : ∀ q : Nat, s.heap.size ≤ q → A q := fun q h => by rw [← hAe]; exact Or.inr h
  have hS : va_S A s.heap s.heap [] := va_S.rf
  have hl := lv_entry ([.ref h1, .int x1]) (n := 2) (Nat.le_of_ble_eq_true rfl)
  rw [lg_entry_eq]
  generalize (lg_sl ([.ref h1, .int x1]) ++ List.replicate (2 - (lg_sl ([.ref h1, .int x1])).length) Slot.unset).toArray = ls at hl ⊢
  have hl : lv_has ls 2 [(0, .ref h1), (1, .int x1)] := hl
  refine lv_iload_n hx hb dX7_row_0 rfl (lv_at hl 1 rfl) ?_
  refine lv_iconst (v := 0) hx hb dX7_row_1 (by decide) ?_
  refine lv_aload_n hx hb dX7_row_2 rfl (lv_at hl 0 rfl) ?_
  refine gf_i (wr := []) (va_runV (As := []) (rest := [.int 0, .int x1]) hfix (k_X7_lots_v5 l dC dI cyB cyI cyJ cyZ cyO h1 md g _ hg) (cwV 0 hts (gi_V (ow_m (k := 0) rfl) (ow_m (k := 1) rfl) (ow_m (k := 2) rfl) (ow_m (k := 3) rfl) (sb_c sb_l) gd_k_X7_lots_v5) rfl rfl rfl (by decide +kernel) ⟨Nat.le_of_ble_eq_true rfl, Nat.le_of_ble_eq_true rfl⟩) (g_preV hKN hP hD [0, 1] rfl (by decide) 0 7 rfl rfl) rfl rfl hl.1 rfl (lv_room (Nat.le_of_ble_eq_true rfl)) dX7_row_3 ⟨Nat.le_of_ble_eq_true rfl, Nat.le_of_ble_eq_true rfl⟩) hP hD hS hA [0, 1] [] rfl rfl (by decide) (by decide) (fun r1928 u1929 H locs qu1929 hP hD hS => ?_)
  have hP : va_P (dC, dI) vwCl [(h1, .inr (7, [.ref (md 0), .ref (md 1), .int 0, .int 0, .int 0, .int (-1), .int 0, .int 0, .int 0, .int 0, .long 0, .ref (md 11), .ref (md 12), .ref (md 13), .ref (md 14), .ref (md 15), .ref (md 16), .ref (md 17), .ref (md 18), .ref (md 19), .ref (md 20), .ref (md 21), .ref (md 22), .ref (md 23), .ref (md 24), .ref (md 25), .ref (md 26), .ref (md 27), .ref (md 28), .int 0, .int 0, .int 0, .int 0, .int 0, .int 0, .int 0, .int 0, .int 0, .int 0, .int 0, .ref (md 40), .ref (md 41), .int 0, .int 0, .ref (md 44), .int 0, .int 0, .ref (md 47), .ref (md 48), .int 0, .ref (md 50), .ref (md 51), .ref (md 52), .ref (md 53), .ref (md 54), .int 0, .int 0, .ref (md 57), .ref (md 58)])), (md 40, .inl (cyI, 520, .inl g))] H := hP
  have hD : va_D A [(h1, .inr (7, [.ref (md 0), .ref (md 1), .int 0, .int 0, .int 0, .int (-1), .int 0, .int 0, .int 0, .int 0, .long 0, .ref (md 11), .ref (md 12), .ref (md 13), .ref (md 14), .ref (md 15), .ref (md 16), .ref (md 17), .ref (md 18), .ref (md 19), .ref (md 20), .ref (md 21), .ref (md 22), .ref (md 23), .ref (md 24), .ref (md 25), .ref (md 26), .ref (md 27), .ref (md 28), .int 0, .int 0, .int 0, .int 0, .int 0, .int 0, .int 0, .int 0, .int 0, .int 0, .int 0, .ref (md 40), .ref (md 41), .int 0, .int 0, .ref (md 44), .int 0, .int 0, .ref (md 47), .ref (md 48), .int 0, .ref (md 50), .ref (md 51), .ref (md 52), .ref (md 53), .ref (md 54), .int 0, .int 0, .ref (md 57), .ref (md 58)])), (md 40, .inl (cyI, 520, .inl g))] := hD
  refine tp_c (w := 0) qu1929 ?_
  refine lv_iconst (v := 1) hx hb dX7_row_6 (by decide) ?_
  refine lv_isub hx hb dX7_row_7 ?_
  refine tp_c (w := (-1)) (by decide) ?_
  refine gf_i (wr := [(h1, .inr (7, [.ref (md 0), .ref (md 1), .int 0, .int 0, .int 0, .int (-1), .int 0, .int 0, .int 0, .int 0, .long 0, .ref (md 11), .ref (md 12), .ref (md 13), .ref (md 14), .ref (md 15), .ref (md 16), .ref (md 17), .ref (md 18), .ref (md 19), .ref (md 20), .ref (md 21), .ref (md 22), .ref (md 23), .ref (md 24), .ref (md 25), .ref (md 26), .ref (md 27), .ref (md 28), .int 0, .int 0, .int 0, .int 0, .int 0, .int 0, .int 0, .int 0, .int 0, .int 0, .int 0, .ref (md 40), .ref (md 41), .int 0, .int 0, .ref (md 44), .int 0, .int 0, .ref (md 47), .ref (md 48), .int 0, .ref (md 50), .ref (md 51), .ref (md 52), .ref (md 53), .ref (md 54), .int 0, .int 0, .ref (md 57), .ref (md 58)])), (md 40, .inl (cyI, 520, .inl g))]) (va_runS (As := [.int x1, .int 0, .int (-1)]) (rest := []) hfix (k_X7_isIn l dC dI cyB cyI cyJ cyZ cyO x1 _) (va_cwS 3 hts (gi_S (ow_m (k := 4) rfl) (ow_m (k := 5) rfl) (ow_m (k := 3) rfl) (sb_c (sb_r sb_l)) gd_k_X7_isIn) rfl rfl rfl (by decide +kernel) ⟨Nat.le_of_ble_eq_true rfl, Nat.le_of_ble_eq_true rfl⟩) (g_preS hKN hP hD [] rfl (by decide)) rfl rfl hl.1 rfl (lv_room (Nat.le_of_ble_eq_true rfl)) dX7_row_8 ⟨Nat.le_of_ble_eq_true rfl, Nat.le_of_ble_eq_true rfl⟩) hP hD hS hA [] [0, 1] rfl rfl (by decide) (by decide) (fun r1932 u1933 H locs qu1933 hP hD hS => ?_)
  have hP : va_P (dC, dI) vwCl [(h1, .inr (7, [.ref (md 0), .ref (md 1), .int 0, .int 0, .int 0, .int (-1), .int 0, .int 0, .int 0, .int 0, .long 0, .ref (md 11), .ref (md 12), .ref (md 13), .ref (md 14), .ref (md 15), .ref (md 16), .ref (md 17), .ref (md 18), .ref (md 19), .ref (md 20), .ref (md 21), .ref (md 22), .ref (md 23), .ref (md 24), .ref (md 25), .ref (md 26), .ref (md 27), .ref (md 28), .int 0, .int 0, .int 0, .int 0, .int 0, .int 0, .int 0, .int 0, .int 0, .int 0, .int 0, .ref (md 40), .ref (md 41), .int 0, .int 0, .ref (md 44), .int 0, .int 0, .ref (md 47), .ref (md 48), .int 0, .ref (md 50), .ref (md 51), .ref (md 52), .ref (md 53), .ref (md 54), .int 0, .int 0, .ref (md 57), .ref (md 58)])), (md 40, .inl (cyI, 520, .inl g))] H := hP
  have hD : va_D A [(h1, .inr (7, [.ref (md 0), .ref (md 1), .int 0, .int 0, .int 0, .int (-1), .int 0, .int 0, .int 0, .int 0, .long 0, .ref (md 11), .ref (md 12), .ref (md 13), .ref (md 14), .ref (md 15), .ref (md 16), .ref (md 17), .ref (md 18), .ref (md 19), .ref (md 20), .ref (md 21), .ref (md 22), .ref (md 23), .ref (md 24), .ref (md 25), .ref (md 26), .ref (md 27), .ref (md 28), .int 0, .int 0, .int 0, .int 0, .int 0, .int 0, .int 0, .int 0, .int 0, .int 0, .int 0, .ref (md 40), .ref (md 41), .int 0, .int 0, .ref (md 44), .int 0, .int 0, .ref (md 47), .ref (md 48), .int 0, .ref (md 50), .ref (md 51), .ref (md 52), .ref (md 53), .ref (md 54), .int 0, .int 0, .ref (md 57), .ref (md 58)])), (md 40, .inl (cyI, 520, .inl g))] := hD
  rcases qu1933 with ⟨rfl, b1934⟩ | ⟨rfl, b1935, b1936⟩
  · skip
    refine lv_if_eq (tgt := 22) hx hb dX7_row_11 (by decide) (fun _ => ?_) (fun c1937 => absurd (by decide) c1937)
    refine lv_iconst (v := (-1)) hx hb dX7_row_22 (by decide) ?_
    exact W.iret (v := (-1)) hx hb hr (fun t ht hW => ⟨⟨(-1), (), rfl, rfl, cE.nil⟩, hS.F ht⟩) hS.2.2 dX7_row_23
  · skip
    refine lv_if_eq (tgt := 22) hx hb dX7_row_11 (by decide) (fun _ => ?_) (fun c1938 => absurd (by decide) c1938)
    refine lv_iconst (v := (-1)) hx hb dX7_row_22 (by decide) ?_
    exact W.iret (v := (-1)) hx hb hr (fun t ht hW => ⟨⟨(-1), (), rfl, rfl, cE.nil⟩, hS.F ht⟩) hS.2.2 dX7_row_23
