def wo_k_X5_copyFrom : List Cond := [.fieldLink RX5 9 "ReplicaChain$State" "row" "[I", .methodLink RX5 63 arraycopyName, .native arraycopyName, .static arraycopyName, .initialized "java/lang/System", .fieldLink RX5 15 "ReplicaChain$State" "has" "[I", .fieldLink RX5 18 "ReplicaChain$State" "clean" "[I", .fieldLink RX5 21 "ReplicaChain$State" "downDue" "[I", .fieldLink RX5 24 "ReplicaChain$State" "upDue" "[I", .fieldLink RX5 27 "ReplicaChain$State" "keys" "[I", .fieldLink RX5 30 "ReplicaChain$State" "values" "[I", .fieldLink RX5 42 "ReplicaChain$State" "size" "I", .fieldLink RX5 33 "ReplicaChain$State" "copier" "I", .fieldLink RX5 48 "ReplicaChain$State" "copyLeft" "I", .fieldLink RX5 51 "ReplicaChain$State" "tick" "I", .fieldLink RX5 57 "ReplicaChain$State" "seed" "I", .fieldLink RX5 60 "ReplicaChain$State" "dropped" "I"]
def wq_k_X5_copyFrom : List Cond := .code yX5_copyFrom cX5_copyFrom 2 none :: (wo_k_X5_copyFrom ++ (wsX50 ++ []))
theorem gd_k_X5_copyFrom : Gd wq_k_X5_copyFrom := gd_c (gd_a (gd_o (by decide +kernel)) (gd_a gd_u gd_0))
abbrev wc_k_X5_copyFrom (cyB cyI cyJ cyZ cyO : ClassId) (ad : Nat → Nat) (sd : Nat → Nat) (td : Nat → Nat) : va_W := [(ad 9, .inr (5, [.ref (sd 0), .ref (sd 1), .ref (sd 2), .ref (sd 3), .ref (sd 4), .ref (sd 5), .ref (sd 6), .int 0, .int (-1), .int 0, .int 0, .int 0, .int 0])), (sd 0, .inl (cyI, 6, .inl (fun _ => 0))), (sd 1, .inl (cyI, 8, .inl (fun _ => 0))), (sd 2, .inl (cyI, 8, .inl (fun _ => 0))), (sd 3, .inl (cyI, 328, .inl (fun _ => 0))), (sd 4, .inl (cyI, 328, .inl (fun _ => 0))), (sd 5, .inl (cyI, 41, .inl (fun _ => 0))), (sd 6, .inl (cyI, 41, .inl (fun _ => 0))), (ad 10, .inr (5, [.ref (td 0), .ref (td 1), .ref (td 2), .ref (td 3), .ref (td 4), .ref (td 5), .ref (td 6), .int 0, .int (-1), .int 0, .int 0, .int 0, .int 0])), (td 0, .inl (cyI, 6, .inl (fun _ => 0))), (td 1, .inl (cyI, 8, .inl (fun _ => 0))), (td 2, .inl (cyI, 8, .inl (fun _ => 0))), (td 3, .inl (cyI, 328, .inl (fun _ => 0))), (td 4, .inl (cyI, 328, .inl (fun _ => 0))), (td 5, .inl (cyI, 41, .inl (fun _ => 0))), (td 6, .inl (cyI, 41, .inl (fun _ => 0)))]
set_option maxHeartbeats 4000000 in
set_option maxRecDepth 100000 in
theorem k_X5_copyFrom (l : Launch) (dC : Nat → ClassId) (dI : Nat → Nat → Nat) (cyB cyI cyJ cyZ cyO : ClassId) (ad : Nat → Nat) (sd : Nat → Nat) (td : Nat → Nat) (sz : Nat) : Met l yX5_copyFrom wq_k_X5_copyFrom ({ frames := 1, cells := 0, slots := 0, locals := 80 }) (va_Pc [.ref (ad 10), .ref (ad 9)] (cB (dC, dI) (kT cyB cyI cyJ cyZ cyO) (wc_k_X5_copyFrom cyB cyI cyJ cyZ cyO ad sd td) sz)) (va_Qv (fun _ => True) (fun (u : Unit) t => cE (dC, dI) (va_A (wc_k_X5_copyFrom cyB cyI cyJ cyZ cyO ad sd td) sz) ([(ad 9, .inr (5, [.ref (sd 0), .ref (sd 1), .ref (sd 2), .ref (sd 3), .ref (sd 4), .ref (sd 5), .ref (sd 6), .int 0, .int (-1), .int 0, .int 0, .int 0, .int 0])), (sd 0, .inl (cyI, 6, .inl (fun _ => 0))), (sd 1, .inl (cyI, 8, .inl (fun _ => 0))), (sd 2, .inl (cyI, 8, .inl (fun _ => 0))), (sd 3, .inl (cyI, 328, .inl (fun _ => 0))), (sd 4, .inl (cyI, 328, .inl (fun _ => 0))), (sd 5, .inl (cyI, 41, .inl (fun _ => 0))), (sd 6, .inl (cyI, 41, .inl (fun _ => 0))), (ad 10, .inr (5, [.ref (td 0), .ref (td 1), .ref (td 2), .ref (td 3), .ref (td 4), .ref (td 5), .ref (td 6), .int 0, .int (-1), .int 0, .int 0, .int 0, .int 0])), (td 0, .inl (cyI, 6, .inl (fun _ => 0))), (td 1, .inl (cyI, 8, .inl (fun _ => 0))), (td 2, .inl (cyI, 8, .inl (fun _ => 0))), (td 3, .inl (cyI, 328, .inl (fun _ => 0))), (td 4, .inl (cyI, 328, .inl (fun _ => 0))), (td 5, .inl (cyI, 41, .inl (fun _ => 0))), (td 6, .inl (cyI, 41, .inl (fun _ => 0)))]) t.heap) (va_A (wc_k_X5_copyFrom cyB cyI cyJ cyZ cyO ad sd td) sz)) 0 0 (va_A (wc_k_X5_copyFrom cyB cyI cyJ cyZ cyO ad sd td) sz) := by
  refine Met.ofW (cc := cX5_copyFrom) (maxL := 2) (ret := none) (by decide) rfl ?_
  intro p e s m args below meth c s₁ B hml hv
  obtain ⟨rfl, hsz, hP, hKN, hD0⟩ := hv
  have hx := B.exec
  have hb := B.bytes
  have hr := B.returns
  have hts := atoms_spec (ws := wq_k_X5_copyFrom) B.pre
  have hown : s.vm.findClass RX5 = some m.cls := findClass_of_methodNamed B.named
  have hlocks := B.notSynchronized
  have hK := hKN.1
  have hfix : CallFix p m c cX5_copyFrom 2 s [.ref (ad 10), .ref (ad 9)].toArray wq_k_X5_copyFrom RX5 := ⟨hx, hb, hml, hown, hts⟩
  have hi5 : ∀ w ∈ wsX50, w ∈ wq_k_X5_copyFrom := (sb_c sb_l)
  subst hsz
  have hD := hD0.self (sz := s.heap.size)
  generalize hAe : va_A (wc_k_X5_copyFrom cyB cyI cyJ cyZ cyO ad sd td) s.heap.size = A at hD ⊢
  have hA : ∀ q : Nat, s.heap.size ≤ q → A q := fun q h => by rw [← hAe]; exact Or.inr h
  have hS : va_S A s.heap s.heap [] := va_S.rf
  have hl := lv_entry ([.ref (ad 10), .ref (ad 9)]) (n := 2) (Nat.le_of_ble_eq_true rfl)
  rw [lg_entry_eq]
  generalize (lg_sl ([.ref (ad 10), .ref (ad 9)]) ++ List.replicate (2 - (lg_sl ([.ref (ad 10), .ref (ad 9)])).length) Slot.unset).toArray = ls at hl ⊢
  have hl : lv_has ls 2 [(0, .ref (ad 10)), (1, .ref (ad 9))] := hl
  refine lv_aload_n hx hb dX5_copyFrom_0 rfl (lv_at hl 1 rfl) ?_
  refine va_get (D := (dC, dI)) (ci := 5) (v := .ref (sd 0)) (C := RX5) (T := TX5) (N := 13) hx hb hts hi5 hown hK hP 0 rfl rfl 0 (by decide) (hts _ (ow_m (k := 0) rfl)) (fun _ h9 => h9) rfl dX5_copyFrom_1 ?_
  refine lv_iconst (v := 0) hx hb dX5_copyFrom_4 (by decide) ?_
  refine lv_aload_n hx hb dX5_copyFrom_5 rfl (lv_at hl 0 rfl) ?_
  refine va_get (D := (dC, dI)) (ci := 5) (v := .ref (td 0)) (C := RX5) (T := TX5) (N := 13) hx hb hts hi5 hown hK hP 8 rfl rfl 0 (by decide) (hts _ (ow_m (k := 0) rfl)) (fun _ h9 => h9) rfl dX5_copyFrom_6 ?_
  refine lv_iconst (v := 0) hx hb dX5_copyFrom_9 (by decide) ?_
  refine lv_aload_n hx hb dX5_copyFrom_10 rfl (lv_at hl 0 rfl) ?_
  refine va_get (D := (dC, dI)) (ci := 5) (v := .ref (td 0)) (C := RX5) (T := TX5) (N := 13) hx hb hts hi5 hown hK hP 8 rfl rfl 0 (by decide) (hts _ (ow_m (k := 0) rfl)) (fun _ h9 => h9) rfl dX5_copyFrom_11 ?_
  refine va_alen (v := 6) hx hb hK hP 9 1 rfl rfl rfl dX5_copyFrom_14 ?_
  refine va_copyi hx hb (hml.trans hl.1.symm) hown (hts _ (ow_m (k := 1) rfl)) (hts _ (ow_m (k := 2) rfl)) (hts _ (ow_m (k := 3) rfl)) (hts _ (ow_m (k := 4) rfl)) hK hP hD hS 1 9 1 1 rfl rfl rfl rfl rfl (by decide) (by decide) (by decide) (by decide) (by decide) (fun _ _ => rfl) (Nat.le_of_ble_eq_true rfl) (Nat.le_of_ble_eq_true rfl) dX5_copyFrom_15 (fun H locs hP hD hS => ?_)
  have hP : va_P (dC, dI) vwCl [(ad 9, .inr (5, [.ref (sd 0), .ref (sd 1), .ref (sd 2), .ref (sd 3), .ref (sd 4), .ref (sd 5), .ref (sd 6), .int 0, .int (-1), .int 0, .int 0, .int 0, .int 0])), (sd 0, .inl (cyI, 6, .inl (fun _ => 0))), (sd 1, .inl (cyI, 8, .inl (fun _ => 0))), (sd 2, .inl (cyI, 8, .inl (fun _ => 0))), (sd 3, .inl (cyI, 328, .inl (fun _ => 0))), (sd 4, .inl (cyI, 328, .inl (fun _ => 0))), (sd 5, .inl (cyI, 41, .inl (fun _ => 0))), (sd 6, .inl (cyI, 41, .inl (fun _ => 0))), (ad 10, .inr (5, [.ref (td 0), .ref (td 1), .ref (td 2), .ref (td 3), .ref (td 4), .ref (td 5), .ref (td 6), .int 0, .int (-1), .int 0, .int 0, .int 0, .int 0])), (td 0, .inl (cyI, 6, .inl (va_cpy (fun _ => 0) (fun _ => 0) 0 0 6))), (td 1, .inl (cyI, 8, .inl (fun _ => 0))), (td 2, .inl (cyI, 8, .inl (fun _ => 0))), (td 3, .inl (cyI, 328, .inl (fun _ => 0))), (td 4, .inl (cyI, 328, .inl (fun _ => 0))), (td 5, .inl (cyI, 41, .inl (fun _ => 0))), (td 6, .inl (cyI, 41, .inl (fun _ => 0)))] H := hP
  have hD : va_D A [(ad 9, .inr (5, [.ref (sd 0), .ref (sd 1), .ref (sd 2), .ref (sd 3), .ref (sd 4), .ref (sd 5), .ref (sd 6), .int 0, .int (-1), .int 0, .int 0, .int 0, .int 0])), (sd 0, .inl (cyI, 6, .inl (fun _ => 0))), (sd 1, .inl (cyI, 8, .inl (fun _ => 0))), (sd 2, .inl (cyI, 8, .inl (fun _ => 0))), (sd 3, .inl (cyI, 328, .inl (fun _ => 0))), (sd 4, .inl (cyI, 328, .inl (fun _ => 0))), (sd 5, .inl (cyI, 41, .inl (fun _ => 0))), (sd 6, .inl (cyI, 41, .inl (fun _ => 0))), (ad 10, .inr (5, [.ref (td 0), .ref (td 1), .ref (td 2), .ref (td 3), .ref (td 4), .ref (td 5), .ref (td 6), .int 0, .int (-1), .int 0, .int 0, .int 0, .int 0])), (td 0, .inl (cyI, 6, .inl (va_cpy (fun _ => 0) (fun _ => 0) 0 0 6))), (td 1, .inl (cyI, 8, .inl (fun _ => 0))), (td 2, .inl (cyI, 8, .inl (fun _ => 0))), (td 3, .inl (cyI, 328, .inl (fun _ => 0))), (td 4, .inl (cyI, 328, .inl (fun _ => 0))), (td 5, .inl (cyI, 41, .inl (fun _ => 0))), (td 6, .inl (cyI, 41, .inl (fun _ => 0)))] := hD
  rw [cpy_z] at hP hD
  refine lv_aload_n hx hb dX5_copyFrom_18 rfl (lv_at hl 1 rfl) ?_
  refine va_get (D := (dC, dI)) (ci := 5) (v := .ref (sd 1)) (C := RX5) (T := TX5) (N := 13) hx hb hts hi5 hown hK hP 0 rfl rfl 1 (by decide) (hts _ (ow_m (k := 5) rfl)) (fun _ h9 => h9) rfl dX5_copyFrom_19 ?_
  refine lv_iconst (v := 0) hx hb dX5_copyFrom_22 (by decide) ?_
  refine lv_aload_n hx hb dX5_copyFrom_23 rfl (lv_at hl 0 rfl) ?_
  refine va_get (D := (dC, dI)) (ci := 5) (v := .ref (td 1)) (C := RX5) (T := TX5) (N := 13) hx hb hts hi5 hown hK hP 8 rfl rfl 1 (by decide) (hts _ (ow_m (k := 5) rfl)) (fun _ h9 => h9) rfl dX5_copyFrom_24 ?_
  refine lv_iconst (v := 0) hx hb dX5_copyFrom_27 (by decide) ?_
  refine lv_aload_n hx hb dX5_copyFrom_28 rfl (lv_at hl 0 rfl) ?_
  refine va_get (D := (dC, dI)) (ci := 5) (v := .ref (td 1)) (C := RX5) (T := TX5) (N := 13) hx hb hts hi5 hown hK hP 8 rfl rfl 1 (by decide) (hts _ (ow_m (k := 5) rfl)) (fun _ h9 => h9) rfl dX5_copyFrom_29 ?_
  refine va_alen (v := 8) hx hb hK hP 10 1 rfl rfl rfl dX5_copyFrom_32 ?_
  refine va_copyi hx hb (hml.trans hl.1.symm) hown (hts _ (ow_m (k := 1) rfl)) (hts _ (ow_m (k := 2) rfl)) (hts _ (ow_m (k := 3) rfl)) (hts _ (ow_m (k := 4) rfl)) hK hP hD hS 2 10 1 1 rfl rfl rfl rfl rfl (by decide) (by decide) (by decide) (by decide) (by decide) (fun _ _ => rfl) (Nat.le_of_ble_eq_true rfl) (Nat.le_of_ble_eq_true rfl) dX5_copyFrom_33 (fun H locs hP hD hS => ?_)
  have hP : va_P (dC, dI) vwCl [(ad 9, .inr (5, [.ref (sd 0), .ref (sd 1), .ref (sd 2), .ref (sd 3), .ref (sd 4), .ref (sd 5), .ref (sd 6), .int 0, .int (-1), .int 0, .int 0, .int 0, .int 0])), (sd 0, .inl (cyI, 6, .inl (fun _ => 0))), (sd 1, .inl (cyI, 8, .inl (fun _ => 0))), (sd 2, .inl (cyI, 8, .inl (fun _ => 0))), (sd 3, .inl (cyI, 328, .inl (fun _ => 0))), (sd 4, .inl (cyI, 328, .inl (fun _ => 0))), (sd 5, .inl (cyI, 41, .inl (fun _ => 0))), (sd 6, .inl (cyI, 41, .inl (fun _ => 0))), (ad 10, .inr (5, [.ref (td 0), .ref (td 1), .ref (td 2), .ref (td 3), .ref (td 4), .ref (td 5), .ref (td 6), .int 0, .int (-1), .int 0, .int 0, .int 0, .int 0])), (td 0, .inl (cyI, 6, .inl (fun _ => 0))), (td 1, .inl (cyI, 8, .inl (va_cpy (fun _ => 0) (fun _ => 0) 0 0 8))), (td 2, .inl (cyI, 8, .inl (fun _ => 0))), (td 3, .inl (cyI, 328, .inl (fun _ => 0))), (td 4, .inl (cyI, 328, .inl (fun _ => 0))), (td 5, .inl (cyI, 41, .inl (fun _ => 0))), (td 6, .inl (cyI, 41, .inl (fun _ => 0)))] H := hP
  have hD : va_D A [(ad 9, .inr (5, [.ref (sd 0), .ref (sd 1), .ref (sd 2), .ref (sd 3), .ref (sd 4), .ref (sd 5), .ref (sd 6), .int 0, .int (-1), .int 0, .int 0, .int 0, .int 0])), (sd 0, .inl (cyI, 6, .inl (fun _ => 0))), (sd 1, .inl (cyI, 8, .inl (fun _ => 0))), (sd 2, .inl (cyI, 8, .inl (fun _ => 0))), (sd 3, .inl (cyI, 328, .inl (fun _ => 0))), (sd 4, .inl (cyI, 328, .inl (fun _ => 0))), (sd 5, .inl (cyI, 41, .inl (fun _ => 0))), (sd 6, .inl (cyI, 41, .inl (fun _ => 0))), (ad 10, .inr (5, [.ref (td 0), .ref (td 1), .ref (td 2), .ref (td 3), .ref (td 4), .ref (td 5), .ref (td 6), .int 0, .int (-1), .int 0, .int 0, .int 0, .int 0])), (td 0, .inl (cyI, 6, .inl (fun _ => 0))), (td 1, .inl (cyI, 8, .inl (va_cpy (fun _ => 0) (fun _ => 0) 0 0 8))), (td 2, .inl (cyI, 8, .inl (fun _ => 0))), (td 3, .inl (cyI, 328, .inl (fun _ => 0))), (td 4, .inl (cyI, 328, .inl (fun _ => 0))), (td 5, .inl (cyI, 41, .inl (fun _ => 0))), (td 6, .inl (cyI, 41, .inl (fun _ => 0)))] := hD
  rw [cpy_z] at hP hD
  refine lv_aload_n hx hb dX5_copyFrom_36 rfl (lv_at hl 1 rfl) ?_
  refine va_get (D := (dC, dI)) (ci := 5) (v := .ref (sd 2)) (C := RX5) (T := TX5) (N := 13) hx hb hts hi5 hown hK hP 0 rfl rfl 2 (by decide) (hts _ (ow_m (k := 6) rfl)) (fun _ h9 => h9) rfl dX5_copyFrom_37 ?_
  refine lv_iconst (v := 0) hx hb dX5_copyFrom_40 (by decide) ?_
  refine lv_aload_n hx hb dX5_copyFrom_41 rfl (lv_at hl 0 rfl) ?_
  refine va_get (D := (dC, dI)) (ci := 5) (v := .ref (td 2)) (C := RX5) (T := TX5) (N := 13) hx hb hts hi5 hown hK hP 8 rfl rfl 2 (by decide) (hts _ (ow_m (k := 6) rfl)) (fun _ h9 => h9) rfl dX5_copyFrom_42 ?_
  refine lv_iconst (v := 0) hx hb dX5_copyFrom_45 (by decide) ?_
  refine lv_aload_n hx hb dX5_copyFrom_46 rfl (lv_at hl 0 rfl) ?_
  refine va_get (D := (dC, dI)) (ci := 5) (v := .ref (td 2)) (C := RX5) (T := TX5) (N := 13) hx hb hts hi5 hown hK hP 8 rfl rfl 2 (by decide) (hts _ (ow_m (k := 6) rfl)) (fun _ h9 => h9) rfl dX5_copyFrom_47 ?_
  refine va_alen (v := 8) hx hb hK hP 11 1 rfl rfl rfl dX5_copyFrom_50 ?_
  refine va_copyi hx hb (hml.trans hl.1.symm) hown (hts _ (ow_m (k := 1) rfl)) (hts _ (ow_m (k := 2) rfl)) (hts _ (ow_m (k := 3) rfl)) (hts _ (ow_m (k := 4) rfl)) hK hP hD hS 3 11 1 1 rfl rfl rfl rfl rfl (by decide) (by decide) (by decide) (by decide) (by decide) (fun _ _ => rfl) (Nat.le_of_ble_eq_true rfl) (Nat.le_of_ble_eq_true rfl) dX5_copyFrom_51 (fun H locs hP hD hS => ?_)
  have hP : va_P (dC, dI) vwCl [(ad 9, .inr (5, [.ref (sd 0), .ref (sd 1), .ref (sd 2), .ref (sd 3), .ref (sd 4), .ref (sd 5), .ref (sd 6), .int 0, .int (-1), .int 0, .int 0, .int 0, .int 0])), (sd 0, .inl (cyI, 6, .inl (fun _ => 0))), (sd 1, .inl (cyI, 8, .inl (fun _ => 0))), (sd 2, .inl (cyI, 8, .inl (fun _ => 0))), (sd 3, .inl (cyI, 328, .inl (fun _ => 0))), (sd 4, .inl (cyI, 328, .inl (fun _ => 0))), (sd 5, .inl (cyI, 41, .inl (fun _ => 0))), (sd 6, .inl (cyI, 41, .inl (fun _ => 0))), (ad 10, .inr (5, [.ref (td 0), .ref (td 1), .ref (td 2), .ref (td 3), .ref (td 4), .ref (td 5), .ref (td 6), .int 0, .int (-1), .int 0, .int 0, .int 0, .int 0])), (td 0, .inl (cyI, 6, .inl (fun _ => 0))), (td 1, .inl (cyI, 8, .inl (fun _ => 0))), (td 2, .inl (cyI, 8, .inl (va_cpy (fun _ => 0) (fun _ => 0) 0 0 8))), (td 3, .inl (cyI, 328, .inl (fun _ => 0))), (td 4, .inl (cyI, 328, .inl (fun _ => 0))), (td 5, .inl (cyI, 41, .inl (fun _ => 0))), (td 6, .inl (cyI, 41, .inl (fun _ => 0)))] H := hP
  have hD : va_D A [(ad 9, .inr (5, [.ref (sd 0), .ref (sd 1), .ref (sd 2), .ref (sd 3), .ref (sd 4), .ref (sd 5), .ref (sd 6), .int 0, .int (-1), .int 0, .int 0, .int 0, .int 0])), (sd 0, .inl (cyI, 6, .inl (fun _ => 0))), (sd 1, .inl (cyI, 8, .inl (fun _ => 0))), (sd 2, .inl (cyI, 8, .inl (fun _ => 0))), (sd 3, .inl (cyI, 328, .inl (fun _ => 0))), (sd 4, .inl (cyI, 328, .inl (fun _ => 0))), (sd 5, .inl (cyI, 41, .inl (fun _ => 0))), (sd 6, .inl (cyI, 41, .inl (fun _ => 0))), (ad 10, .inr (5, [.ref (td 0), .ref (td 1), .ref (td 2), .ref (td 3), .ref (td 4), .ref (td 5), .ref (td 6), .int 0, .int (-1), .int 0, .int 0, .int 0, .int 0])), (td 0, .inl (cyI, 6, .inl (fun _ => 0))), (td 1, .inl (cyI, 8, .inl (fun _ => 0))), (td 2, .inl (cyI, 8, .inl (va_cpy (fun _ => 0) (fun _ => 0) 0 0 8))), (td 3, .inl (cyI, 328, .inl (fun _ => 0))), (td 4, .inl (cyI, 328, .inl (fun _ => 0))), (td 5, .inl (cyI, 41, .inl (fun _ => 0))), (td 6, .inl (cyI, 41, .inl (fun _ => 0)))] := hD
  rw [cpy_z] at hP hD
  refine lv_aload_n hx hb dX5_copyFrom_54 rfl (lv_at hl 1 rfl) ?_
  refine va_get (D := (dC, dI)) (ci := 5) (v := .ref (sd 3)) (C := RX5) (T := TX5) (N := 13) hx hb hts hi5 hown hK hP 0 rfl rfl 3 (by decide) (hts _ (ow_m (k := 7) rfl)) (fun _ h9 => h9) rfl dX5_copyFrom_55 ?_
  refine lv_iconst (v := 0) hx hb dX5_copyFrom_58 (by decide) ?_
  refine lv_aload_n hx hb dX5_copyFrom_59 rfl (lv_at hl 0 rfl) ?_
  refine va_get (D := (dC, dI)) (ci := 5) (v := .ref (td 3)) (C := RX5) (T := TX5) (N := 13) hx hb hts hi5 hown hK hP 8 rfl rfl 3 (by decide) (hts _ (ow_m (k := 7) rfl)) (fun _ h9 => h9) rfl dX5_copyFrom_60 ?_
  refine lv_iconst (v := 0) hx hb dX5_copyFrom_63 (by decide) ?_
  refine lv_aload_n hx hb dX5_copyFrom_64 rfl (lv_at hl 0 rfl) ?_
  refine va_get (D := (dC, dI)) (ci := 5) (v := .ref (td 3)) (C := RX5) (T := TX5) (N := 13) hx hb hts hi5 hown hK hP 8 rfl rfl 3 (by decide) (hts _ (ow_m (k := 7) rfl)) (fun _ h9 => h9) rfl dX5_copyFrom_65 ?_
  refine va_alen (v := 328) hx hb hK hP 12 1 rfl rfl rfl dX5_copyFrom_68 ?_
  refine va_copyi hx hb (hml.trans hl.1.symm) hown (hts _ (ow_m (k := 1) rfl)) (hts _ (ow_m (k := 2) rfl)) (hts _ (ow_m (k := 3) rfl)) (hts _ (ow_m (k := 4) rfl)) hK hP hD hS 4 12 1 1 rfl rfl rfl rfl rfl (by decide) (by decide) (by decide) (by decide) (by decide) (fun _ _ => rfl) (Nat.le_of_ble_eq_true rfl) (Nat.le_of_ble_eq_true rfl) dX5_copyFrom_69 (fun H locs hP hD hS => ?_)
  have hP : va_P (dC, dI) vwCl [(ad 9, .inr (5, [.ref (sd 0), .ref (sd 1), .ref (sd 2), .ref (sd 3), .ref (sd 4), .ref (sd 5), .ref (sd 6), .int 0, .int (-1), .int 0, .int 0, .int 0, .int 0])), (sd 0, .inl (cyI, 6, .inl (fun _ => 0))), (sd 1, .inl (cyI, 8, .inl (fun _ => 0))), (sd 2, .inl (cyI, 8, .inl (fun _ => 0))), (sd 3, .inl (cyI, 328, .inl (fun _ => 0))), (sd 4, .inl (cyI, 328, .inl (fun _ => 0))), (sd 5, .inl (cyI, 41, .inl (fun _ => 0))), (sd 6, .inl (cyI, 41, .inl (fun _ => 0))), (ad 10, .inr (5, [.ref (td 0), .ref (td 1), .ref (td 2), .ref (td 3), .ref (td 4), .ref (td 5), .ref (td 6), .int 0, .int (-1), .int 0, .int 0, .int 0, .int 0])), (td 0, .inl (cyI, 6, .inl (fun _ => 0))), (td 1, .inl (cyI, 8, .inl (fun _ => 0))), (td 2, .inl (cyI, 8, .inl (fun _ => 0))), (td 3, .inl (cyI, 328, .inl (va_cpy (fun _ => 0) (fun _ => 0) 0 0 328))), (td 4, .inl (cyI, 328, .inl (fun _ => 0))), (td 5, .inl (cyI, 41, .inl (fun _ => 0))), (td 6, .inl (cyI, 41, .inl (fun _ => 0)))] H := hP
  have hD : va_D A [(ad 9, .inr (5, [.ref (sd 0), .ref (sd 1), .ref (sd 2), .ref (sd 3), .ref (sd 4), .ref (sd 5), .ref (sd 6), .int 0, .int (-1), .int 0, .int 0, .int 0, .int 0])), (sd 0, .inl (cyI, 6, .inl (fun _ => 0))), (sd 1, .inl (cyI, 8, .inl (fun _ => 0))), (sd 2, .inl (cyI, 8, .inl (fun _ => 0))), (sd 3, .inl (cyI, 328, .inl (fun _ => 0))), (sd 4, .inl (cyI, 328, .inl (fun _ => 0))), (sd 5, .inl (cyI, 41, .inl (fun _ => 0))), (sd 6, .inl (cyI, 41, .inl (fun _ => 0))), (ad 10, .inr (5, [.ref (td 0), .ref (td 1), .ref (td 2), .ref (td 3), .ref (td 4), .ref (td 5), .ref (td 6), .int 0, .int (-1), .int 0, .int 0, .int 0, .int 0])), (td 0, .inl (cyI, 6, .inl (fun _ => 0))), (td 1, .inl (cyI, 8, .inl (fun _ => 0))), (td 2, .inl (cyI, 8, .inl (fun _ => 0))), (td 3, .inl (cyI, 328, .inl (va_cpy (fun _ => 0) (fun _ => 0) 0 0 328))), (td 4, .inl (cyI, 328, .inl (fun _ => 0))), (td 5, .inl (cyI, 41, .inl (fun _ => 0))), (td 6, .inl (cyI, 41, .inl (fun _ => 0)))] := hD
  rw [cpy_z] at hP hD
  refine lv_aload_n hx hb dX5_copyFrom_72 rfl (lv_at hl 1 rfl) ?_
  refine va_get (D := (dC, dI)) (ci := 5) (v := .ref (sd 4)) (C := RX5) (T := TX5) (N := 13) hx hb hts hi5 hown hK hP 0 rfl rfl 4 (by decide) (hts _ (ow_m (k := 8) rfl)) (fun _ h9 => h9) rfl dX5_copyFrom_73 ?_
  refine lv_iconst (v := 0) hx hb dX5_copyFrom_76 (by decide) ?_
  refine lv_aload_n hx hb dX5_copyFrom_77 rfl (lv_at hl 0 rfl) ?_
  refine va_get (D := (dC, dI)) (ci := 5) (v := .ref (td 4)) (C := RX5) (T := TX5) (N := 13) hx hb hts hi5 hown hK hP 8 rfl rfl 4 (by decide) (hts _ (ow_m (k := 8) rfl)) (fun _ h9 => h9) rfl dX5_copyFrom_78 ?_
  refine lv_iconst (v := 0) hx hb dX5_copyFrom_81 (by decide) ?_
  refine lv_aload_n hx hb dX5_copyFrom_82 rfl (lv_at hl 0 rfl) ?_
  refine va_get (D := (dC, dI)) (ci := 5) (v := .ref (td 4)) (C := RX5) (T := TX5) (N := 13) hx hb hts hi5 hown hK hP 8 rfl rfl 4 (by decide) (hts _ (ow_m (k := 8) rfl)) (fun _ h9 => h9) rfl dX5_copyFrom_83 ?_
  refine va_alen (v := 328) hx hb hK hP 13 1 rfl rfl rfl dX5_copyFrom_86 ?_
  refine va_copyi hx hb (hml.trans hl.1.symm) hown (hts _ (ow_m (k := 1) rfl)) (hts _ (ow_m (k := 2) rfl)) (hts _ (ow_m (k := 3) rfl)) (hts _ (ow_m (k := 4) rfl)) hK hP hD hS 5 13 1 1 rfl rfl rfl rfl rfl (by decide) (by decide) (by decide) (by decide) (by decide) (fun _ _ => rfl) (Nat.le_of_ble_eq_true rfl) (Nat.le_of_ble_eq_true rfl) dX5_copyFrom_87 (fun H locs hP hD hS => ?_)
  have hP : va_P (dC, dI) vwCl [(ad 9, .inr (5, [.ref (sd 0), .ref (sd 1), .ref (sd 2), .ref (sd 3), .ref (sd 4), .ref (sd 5), .ref (sd 6), .int 0, .int (-1), .int 0, .int 0, .int 0, .int 0])), (sd 0, .inl (cyI, 6, .inl (fun _ => 0))), (sd 1, .inl (cyI, 8, .inl (fun _ => 0))), (sd 2, .inl (cyI, 8, .inl (fun _ => 0))), (sd 3, .inl (cyI, 328, .inl (fun _ => 0))), (sd 4, .inl (cyI, 328, .inl (fun _ => 0))), (sd 5, .inl (cyI, 41, .inl (fun _ => 0))), (sd 6, .inl (cyI, 41, .inl (fun _ => 0))), (ad 10, .inr (5, [.ref (td 0), .ref (td 1), .ref (td 2), .ref (td 3), .ref (td 4), .ref (td 5), .ref (td 6), .int 0, .int (-1), .int 0, .int 0, .int 0, .int 0])), (td 0, .inl (cyI, 6, .inl (fun _ => 0))), (td 1, .inl (cyI, 8, .inl (fun _ => 0))), (td 2, .inl (cyI, 8, .inl (fun _ => 0))), (td 3, .inl (cyI, 328, .inl (fun _ => 0))), (td 4, .inl (cyI, 328, .inl (va_cpy (fun _ => 0) (fun _ => 0) 0 0 328))), (td 5, .inl (cyI, 41, .inl (fun _ => 0))), (td 6, .inl (cyI, 41, .inl (fun _ => 0)))] H := hP
  have hD : va_D A [(ad 9, .inr (5, [.ref (sd 0), .ref (sd 1), .ref (sd 2), .ref (sd 3), .ref (sd 4), .ref (sd 5), .ref (sd 6), .int 0, .int (-1), .int 0, .int 0, .int 0, .int 0])), (sd 0, .inl (cyI, 6, .inl (fun _ => 0))), (sd 1, .inl (cyI, 8, .inl (fun _ => 0))), (sd 2, .inl (cyI, 8, .inl (fun _ => 0))), (sd 3, .inl (cyI, 328, .inl (fun _ => 0))), (sd 4, .inl (cyI, 328, .inl (fun _ => 0))), (sd 5, .inl (cyI, 41, .inl (fun _ => 0))), (sd 6, .inl (cyI, 41, .inl (fun _ => 0))), (ad 10, .inr (5, [.ref (td 0), .ref (td 1), .ref (td 2), .ref (td 3), .ref (td 4), .ref (td 5), .ref (td 6), .int 0, .int (-1), .int 0, .int 0, .int 0, .int 0])), (td 0, .inl (cyI, 6, .inl (fun _ => 0))), (td 1, .inl (cyI, 8, .inl (fun _ => 0))), (td 2, .inl (cyI, 8, .inl (fun _ => 0))), (td 3, .inl (cyI, 328, .inl (fun _ => 0))), (td 4, .inl (cyI, 328, .inl (va_cpy (fun _ => 0) (fun _ => 0) 0 0 328))), (td 5, .inl (cyI, 41, .inl (fun _ => 0))), (td 6, .inl (cyI, 41, .inl (fun _ => 0)))] := hD
  rw [cpy_z] at hP hD
  refine lv_aload_n hx hb dX5_copyFrom_90 rfl (lv_at hl 1 rfl) ?_
  refine va_get (D := (dC, dI)) (ci := 5) (v := .ref (sd 5)) (C := RX5) (T := TX5) (N := 13) hx hb hts hi5 hown hK hP 0 rfl rfl 5 (by decide) (hts _ (ow_m (k := 9) rfl)) (fun _ h9 => h9) rfl dX5_copyFrom_91 ?_
  refine lv_iconst (v := 0) hx hb dX5_copyFrom_94 (by decide) ?_
  refine lv_aload_n hx hb dX5_copyFrom_95 rfl (lv_at hl 0 rfl) ?_
  refine va_get (D := (dC, dI)) (ci := 5) (v := .ref (td 5)) (C := RX5) (T := TX5) (N := 13) hx hb hts hi5 hown hK hP 8 rfl rfl 5 (by decide) (hts _ (ow_m (k := 9) rfl)) (fun _ h9 => h9) rfl dX5_copyFrom_96 ?_
  refine lv_iconst (v := 0) hx hb dX5_copyFrom_99 (by decide) ?_
  refine lv_aload_n hx hb dX5_copyFrom_100 rfl (lv_at hl 0 rfl) ?_
  refine va_get (D := (dC, dI)) (ci := 5) (v := .ref (td 5)) (C := RX5) (T := TX5) (N := 13) hx hb hts hi5 hown hK hP 8 rfl rfl 5 (by decide) (hts _ (ow_m (k := 9) rfl)) (fun _ h9 => h9) rfl dX5_copyFrom_101 ?_
  refine va_alen (v := 41) hx hb hK hP 14 1 rfl rfl rfl dX5_copyFrom_104 ?_
  refine va_copyi hx hb (hml.trans hl.1.symm) hown (hts _ (ow_m (k := 1) rfl)) (hts _ (ow_m (k := 2) rfl)) (hts _ (ow_m (k := 3) rfl)) (hts _ (ow_m (k := 4) rfl)) hK hP hD hS 6 14 1 1 rfl rfl rfl rfl rfl (by decide) (by decide) (by decide) (by decide) (by decide) (fun _ _ => rfl) (Nat.le_of_ble_eq_true rfl) (Nat.le_of_ble_eq_true rfl) dX5_copyFrom_105 (fun H locs hP hD hS => ?_)
  have hP : va_P (dC, dI) vwCl [(ad 9, .inr (5, [.ref (sd 0), .ref (sd 1), .ref (sd 2), .ref (sd 3), .ref (sd 4), .ref (sd 5), .ref (sd 6), .int 0, .int (-1), .int 0, .int 0, .int 0, .int 0])), (sd 0, .inl (cyI, 6, .inl (fun _ => 0))), (sd 1, .inl (cyI, 8, .inl (fun _ => 0))), (sd 2, .inl (cyI, 8, .inl (fun _ => 0))), (sd 3, .inl (cyI, 328, .inl (fun _ => 0))), (sd 4, .inl (cyI, 328, .inl (fun _ => 0))), (sd 5, .inl (cyI, 41, .inl (fun _ => 0))), (sd 6, .inl (cyI, 41, .inl (fun _ => 0))), (ad 10, .inr (5, [.ref (td 0), .ref (td 1), .ref (td 2), .ref (td 3), .ref (td 4), .ref (td 5), .ref (td 6), .int 0, .int (-1), .int 0, .int 0, .int 0, .int 0])), (td 0, .inl (cyI, 6, .inl (fun _ => 0))), (td 1, .inl (cyI, 8, .inl (fun _ => 0))), (td 2, .inl (cyI, 8, .inl (fun _ => 0))), (td 3, .inl (cyI, 328, .inl (fun _ => 0))), (td 4, .inl (cyI, 328, .inl (fun _ => 0))), (td 5, .inl (cyI, 41, .inl (va_cpy (fun _ => 0) (fun _ => 0) 0 0 41))), (td 6, .inl (cyI, 41, .inl (fun _ => 0)))] H := hP
  have hD : va_D A [(ad 9, .inr (5, [.ref (sd 0), .ref (sd 1), .ref (sd 2), .ref (sd 3), .ref (sd 4), .ref (sd 5), .ref (sd 6), .int 0, .int (-1), .int 0, .int 0, .int 0, .int 0])), (sd 0, .inl (cyI, 6, .inl (fun _ => 0))), (sd 1, .inl (cyI, 8, .inl (fun _ => 0))), (sd 2, .inl (cyI, 8, .inl (fun _ => 0))), (sd 3, .inl (cyI, 328, .inl (fun _ => 0))), (sd 4, .inl (cyI, 328, .inl (fun _ => 0))), (sd 5, .inl (cyI, 41, .inl (fun _ => 0))), (sd 6, .inl (cyI, 41, .inl (fun _ => 0))), (ad 10, .inr (5, [.ref (td 0), .ref (td 1), .ref (td 2), .ref (td 3), .ref (td 4), .ref (td 5), .ref (td 6), .int 0, .int (-1), .int 0, .int 0, .int 0, .int 0])), (td 0, .inl (cyI, 6, .inl (fun _ => 0))), (td 1, .inl (cyI, 8, .inl (fun _ => 0))), (td 2, .inl (cyI, 8, .inl (fun _ => 0))), (td 3, .inl (cyI, 328, .inl (fun _ => 0))), (td 4, .inl (cyI, 328, .inl (fun _ => 0))), (td 5, .inl (cyI, 41, .inl (va_cpy (fun _ => 0) (fun _ => 0) 0 0 41))), (td 6, .inl (cyI, 41, .inl (fun _ => 0)))] := hD
  rw [cpy_z] at hP hD
  refine lv_aload_n hx hb dX5_copyFrom_108 rfl (lv_at hl 1 rfl) ?_
  refine va_get (D := (dC, dI)) (ci := 5) (v := .ref (sd 6)) (C := RX5) (T := TX5) (N := 13) hx hb hts hi5 hown hK hP 0 rfl rfl 6 (by decide) (hts _ (ow_m (k := 10) rfl)) (fun _ h9 => h9) rfl dX5_copyFrom_109 ?_
  refine lv_iconst (v := 0) hx hb dX5_copyFrom_112 (by decide) ?_
  refine lv_aload_n hx hb dX5_copyFrom_113 rfl (lv_at hl 0 rfl) ?_
  refine va_get (D := (dC, dI)) (ci := 5) (v := .ref (td 6)) (C := RX5) (T := TX5) (N := 13) hx hb hts hi5 hown hK hP 8 rfl rfl 6 (by decide) (hts _ (ow_m (k := 10) rfl)) (fun _ h9 => h9) rfl dX5_copyFrom_114 ?_
  refine lv_iconst (v := 0) hx hb dX5_copyFrom_117 (by decide) ?_
  refine lv_aload_n hx hb dX5_copyFrom_118 rfl (lv_at hl 0 rfl) ?_
  refine va_get (D := (dC, dI)) (ci := 5) (v := .ref (td 6)) (C := RX5) (T := TX5) (N := 13) hx hb hts hi5 hown hK hP 8 rfl rfl 6 (by decide) (hts _ (ow_m (k := 10) rfl)) (fun _ h9 => h9) rfl dX5_copyFrom_119 ?_
  refine va_alen (v := 41) hx hb hK hP 15 1 rfl rfl rfl dX5_copyFrom_122 ?_
  refine va_copyi hx hb (hml.trans hl.1.symm) hown (hts _ (ow_m (k := 1) rfl)) (hts _ (ow_m (k := 2) rfl)) (hts _ (ow_m (k := 3) rfl)) (hts _ (ow_m (k := 4) rfl)) hK hP hD hS 7 15 1 1 rfl rfl rfl rfl rfl (by decide) (by decide) (by decide) (by decide) (by decide) (fun _ _ => rfl) (Nat.le_of_ble_eq_true rfl) (Nat.le_of_ble_eq_true rfl) dX5_copyFrom_123 (fun H locs hP hD hS => ?_)
  have hP : va_P (dC, dI) vwCl [(ad 9, .inr (5, [.ref (sd 0), .ref (sd 1), .ref (sd 2), .ref (sd 3), .ref (sd 4), .ref (sd 5), .ref (sd 6), .int 0, .int (-1), .int 0, .int 0, .int 0, .int 0])), (sd 0, .inl (cyI, 6, .inl (fun _ => 0))), (sd 1, .inl (cyI, 8, .inl (fun _ => 0))), (sd 2, .inl (cyI, 8, .inl (fun _ => 0))), (sd 3, .inl (cyI, 328, .inl (fun _ => 0))), (sd 4, .inl (cyI, 328, .inl (fun _ => 0))), (sd 5, .inl (cyI, 41, .inl (fun _ => 0))), (sd 6, .inl (cyI, 41, .inl (fun _ => 0))), (ad 10, .inr (5, [.ref (td 0), .ref (td 1), .ref (td 2), .ref (td 3), .ref (td 4), .ref (td 5), .ref (td 6), .int 0, .int (-1), .int 0, .int 0, .int 0, .int 0])), (td 0, .inl (cyI, 6, .inl (fun _ => 0))), (td 1, .inl (cyI, 8, .inl (fun _ => 0))), (td 2, .inl (cyI, 8, .inl (fun _ => 0))), (td 3, .inl (cyI, 328, .inl (fun _ => 0))), (td 4, .inl (cyI, 328, .inl (fun _ => 0))), (td 5, .inl (cyI, 41, .inl (fun _ => 0))), (td 6, .inl (cyI, 41, .inl (va_cpy (fun _ => 0) (fun _ => 0) 0 0 41)))] H := hP
  have hD : va_D A [(ad 9, .inr (5, [.ref (sd 0), .ref (sd 1), .ref (sd 2), .ref (sd 3), .ref (sd 4), .ref (sd 5), .ref (sd 6), .int 0, .int (-1), .int 0, .int 0, .int 0, .int 0])), (sd 0, .inl (cyI, 6, .inl (fun _ => 0))), (sd 1, .inl (cyI, 8, .inl (fun _ => 0))), (sd 2, .inl (cyI, 8, .inl (fun _ => 0))), (sd 3, .inl (cyI, 328, .inl (fun _ => 0))), (sd 4, .inl (cyI, 328, .inl (fun _ => 0))), (sd 5, .inl (cyI, 41, .inl (fun _ => 0))), (sd 6, .inl (cyI, 41, .inl (fun _ => 0))), (ad 10, .inr (5, [.ref (td 0), .ref (td 1), .ref (td 2), .ref (td 3), .ref (td 4), .ref (td 5), .ref (td 6), .int 0, .int (-1), .int 0, .int 0, .int 0, .int 0])), (td 0, .inl (cyI, 6, .inl (fun _ => 0))), (td 1, .inl (cyI, 8, .inl (fun _ => 0))), (td 2, .inl (cyI, 8, .inl (fun _ => 0))), (td 3, .inl (cyI, 328, .inl (fun _ => 0))), (td 4, .inl (cyI, 328, .inl (fun _ => 0))), (td 5, .inl (cyI, 41, .inl (fun _ => 0))), (td 6, .inl (cyI, 41, .inl (va_cpy (fun _ => 0) (fun _ => 0) 0 0 41)))] := hD
  rw [cpy_z] at hP hD
  refine lv_aload_n hx hb dX5_copyFrom_126 rfl (lv_at hl 0 rfl) ?_
  refine lv_aload_n hx hb dX5_copyFrom_127 rfl (lv_at hl 1 rfl) ?_
  refine va_get (D := (dC, dI)) (ci := 5) (v := .int 0) (C := RX5) (T := TX5) (N := 13) hx hb hts hi5 hown hK hP 0 rfl rfl 7 (by decide) (hts _ (ow_m (k := 11) rfl)) (fun _ h9 => h9) rfl dX5_copyFrom_128 ?_
  refine va_put (D := (dC, dI)) (ci := 5) (v := .int 0) (ty := .int) (C := RX5) (T := TX5) (N := 13) hx hb hts hi5 tyX5 tyX5_ok nmX5 hown hK hP hD hS 8 rfl rfl 7 (by decide) (hts _ (ow_m (k := 11) rfl)) (fun _ h9 => h9) rfl (by decide +kernel) rfl rfl (Nat.le_of_ble_eq_true rfl) dX5_copyFrom_131 (fun H locs hP hD hS => ?_)
  have hP : va_P (dC, dI) vwCl [(ad 9, .inr (5, [.ref (sd 0), .ref (sd 1), .ref (sd 2), .ref (sd 3), .ref (sd 4), .ref (sd 5), .ref (sd 6), .int 0, .int (-1), .int 0, .int 0, .int 0, .int 0])), (sd 0, .inl (cyI, 6, .inl (fun _ => 0))), (sd 1, .inl (cyI, 8, .inl (fun _ => 0))), (sd 2, .inl (cyI, 8, .inl (fun _ => 0))), (sd 3, .inl (cyI, 328, .inl (fun _ => 0))), (sd 4, .inl (cyI, 328, .inl (fun _ => 0))), (sd 5, .inl (cyI, 41, .inl (fun _ => 0))), (sd 6, .inl (cyI, 41, .inl (fun _ => 0))), (ad 10, .inr (5, [.ref (td 0), .ref (td 1), .ref (td 2), .ref (td 3), .ref (td 4), .ref (td 5), .ref (td 6), .int 0, .int (-1), .int 0, .int 0, .int 0, .int 0])), (td 0, .inl (cyI, 6, .inl (fun _ => 0))), (td 1, .inl (cyI, 8, .inl (fun _ => 0))), (td 2, .inl (cyI, 8, .inl (fun _ => 0))), (td 3, .inl (cyI, 328, .inl (fun _ => 0))), (td 4, .inl (cyI, 328, .inl (fun _ => 0))), (td 5, .inl (cyI, 41, .inl (fun _ => 0))), (td 6, .inl (cyI, 41, .inl (fun _ => 0)))] H := hP
  have hD : va_D A [(ad 9, .inr (5, [.ref (sd 0), .ref (sd 1), .ref (sd 2), .ref (sd 3), .ref (sd 4), .ref (sd 5), .ref (sd 6), .int 0, .int (-1), .int 0, .int 0, .int 0, .int 0])), (sd 0, .inl (cyI, 6, .inl (fun _ => 0))), (sd 1, .inl (cyI, 8, .inl (fun _ => 0))), (sd 2, .inl (cyI, 8, .inl (fun _ => 0))), (sd 3, .inl (cyI, 328, .inl (fun _ => 0))), (sd 4, .inl (cyI, 328, .inl (fun _ => 0))), (sd 5, .inl (cyI, 41, .inl (fun _ => 0))), (sd 6, .inl (cyI, 41, .inl (fun _ => 0))), (ad 10, .inr (5, [.ref (td 0), .ref (td 1), .ref (td 2), .ref (td 3), .ref (td 4), .ref (td 5), .ref (td 6), .int 0, .int (-1), .int 0, .int 0, .int 0, .int 0])), (td 0, .inl (cyI, 6, .inl (fun _ => 0))), (td 1, .inl (cyI, 8, .inl (fun _ => 0))), (td 2, .inl (cyI, 8, .inl (fun _ => 0))), (td 3, .inl (cyI, 328, .inl (fun _ => 0))), (td 4, .inl (cyI, 328, .inl (fun _ => 0))), (td 5, .inl (cyI, 41, .inl (fun _ => 0))), (td 6, .inl (cyI, 41, .inl (fun _ => 0)))] := hD
  refine lv_aload_n hx hb dX5_copyFrom_134 rfl (lv_at hl 0 rfl) ?_
  refine lv_aload_n hx hb dX5_copyFrom_135 rfl (lv_at hl 1 rfl) ?_
  refine va_get (D := (dC, dI)) (ci := 5) (v := .int (-1)) (C := RX5) (T := TX5) (N := 13) hx hb hts hi5 hown hK hP 0 rfl rfl 8 (by decide) (hts _ (ow_m (k := 12) rfl)) (fun _ h9 => h9) rfl dX5_copyFrom_136 ?_
  refine va_put (D := (dC, dI)) (ci := 5) (v := .int (-1)) (ty := .int) (C := RX5) (T := TX5) (N := 13) hx hb hts hi5 tyX5 tyX5_ok nmX5 hown hK hP hD hS 8 rfl rfl 8 (by decide) (hts _ (ow_m (k := 12) rfl)) (fun _ h9 => h9) rfl (by decide +kernel) rfl rfl (Nat.le_of_ble_eq_true rfl) dX5_copyFrom_139 (fun H locs hP hD hS => ?_)
  have hP : va_P (dC, dI) vwCl [(ad 9, .inr (5, [.ref (sd 0), .ref (sd 1), .ref (sd 2), .ref (sd 3), .ref (sd 4), .ref (sd 5), .ref (sd 6), .int 0, .int (-1), .int 0, .int 0, .int 0, .int 0])), (sd 0, .inl (cyI, 6, .inl (fun _ => 0))), (sd 1, .inl (cyI, 8, .inl (fun _ => 0))), (sd 2, .inl (cyI, 8, .inl (fun _ => 0))), (sd 3, .inl (cyI, 328, .inl (fun _ => 0))), (sd 4, .inl (cyI, 328, .inl (fun _ => 0))), (sd 5, .inl (cyI, 41, .inl (fun _ => 0))), (sd 6, .inl (cyI, 41, .inl (fun _ => 0))), (ad 10, .inr (5, [.ref (td 0), .ref (td 1), .ref (td 2), .ref (td 3), .ref (td 4), .ref (td 5), .ref (td 6), .int 0, .int (-1), .int 0, .int 0, .int 0, .int 0])), (td 0, .inl (cyI, 6, .inl (fun _ => 0))), (td 1, .inl (cyI, 8, .inl (fun _ => 0))), (td 2, .inl (cyI, 8, .inl (fun _ => 0))), (td 3, .inl (cyI, 328, .inl (fun _ => 0))), (td 4, .inl (cyI, 328, .inl (fun _ => 0))), (td 5, .inl (cyI, 41, .inl (fun _ => 0))), (td 6, .inl (cyI, 41, .inl (fun _ => 0)))] H := hP
  have hD : va_D A [(ad 9, .inr (5, [.ref (sd 0), .ref (sd 1), .ref (sd 2), .ref (sd 3), .ref (sd 4), .ref (sd 5), .ref (sd 6), .int 0, .int (-1), .int 0, .int 0, .int 0, .int 0])), (sd 0, .inl (cyI, 6, .inl (fun _ => 0))), (sd 1, .inl (cyI, 8, .inl (fun _ => 0))), (sd 2, .inl (cyI, 8, .inl (fun _ => 0))), (sd 3, .inl (cyI, 328, .inl (fun _ => 0))), (sd 4, .inl (cyI, 328, .inl (fun _ => 0))), (sd 5, .inl (cyI, 41, .inl (fun _ => 0))), (sd 6, .inl (cyI, 41, .inl (fun _ => 0))), (ad 10, .inr (5, [.ref (td 0), .ref (td 1), .ref (td 2), .ref (td 3), .ref (td 4), .ref (td 5), .ref (td 6), .int 0, .int (-1), .int 0, .int 0, .int 0, .int 0])), (td 0, .inl (cyI, 6, .inl (fun _ => 0))), (td 1, .inl (cyI, 8, .inl (fun _ => 0))), (td 2, .inl (cyI, 8, .inl (fun _ => 0))), (td 3, .inl (cyI, 328, .inl (fun _ => 0))), (td 4, .inl (cyI, 328, .inl (fun _ => 0))), (td 5, .inl (cyI, 41, .inl (fun _ => 0))), (td 6, .inl (cyI, 41, .inl (fun _ => 0)))] := hD
  refine lv_aload_n hx hb dX5_copyFrom_142 rfl (lv_at hl 0 rfl) ?_
  refine lv_aload_n hx hb dX5_copyFrom_143 rfl (lv_at hl 1 rfl) ?_
  refine va_get (D := (dC, dI)) (ci := 5) (v := .int 0) (C := RX5) (T := TX5) (N := 13) hx hb hts hi5 hown hK hP 0 rfl rfl 9 (by decide) (hts _ (ow_m (k := 13) rfl)) (fun _ h9 => h9) rfl dX5_copyFrom_144 ?_
  refine va_put (D := (dC, dI)) (ci := 5) (v := .int 0) (ty := .int) (C := RX5) (T := TX5) (N := 13) hx hb hts hi5 tyX5 tyX5_ok nmX5 hown hK hP hD hS 8 rfl rfl 9 (by decide) (hts _ (ow_m (k := 13) rfl)) (fun _ h9 => h9) rfl (by decide +kernel) rfl rfl (Nat.le_of_ble_eq_true rfl) dX5_copyFrom_147 (fun H locs hP hD hS => ?_)
  have hP : va_P (dC, dI) vwCl [(ad 9, .inr (5, [.ref (sd 0), .ref (sd 1), .ref (sd 2), .ref (sd 3), .ref (sd 4), .ref (sd 5), .ref (sd 6), .int 0, .int (-1), .int 0, .int 0, .int 0, .int 0])), (sd 0, .inl (cyI, 6, .inl (fun _ => 0))), (sd 1, .inl (cyI, 8, .inl (fun _ => 0))), (sd 2, .inl (cyI, 8, .inl (fun _ => 0))), (sd 3, .inl (cyI, 328, .inl (fun _ => 0))), (sd 4, .inl (cyI, 328, .inl (fun _ => 0))), (sd 5, .inl (cyI, 41, .inl (fun _ => 0))), (sd 6, .inl (cyI, 41, .inl (fun _ => 0))), (ad 10, .inr (5, [.ref (td 0), .ref (td 1), .ref (td 2), .ref (td 3), .ref (td 4), .ref (td 5), .ref (td 6), .int 0, .int (-1), .int 0, .int 0, .int 0, .int 0])), (td 0, .inl (cyI, 6, .inl (fun _ => 0))), (td 1, .inl (cyI, 8, .inl (fun _ => 0))), (td 2, .inl (cyI, 8, .inl (fun _ => 0))), (td 3, .inl (cyI, 328, .inl (fun _ => 0))), (td 4, .inl (cyI, 328, .inl (fun _ => 0))), (td 5, .inl (cyI, 41, .inl (fun _ => 0))), (td 6, .inl (cyI, 41, .inl (fun _ => 0)))] H := hP
  have hD : va_D A [(ad 9, .inr (5, [.ref (sd 0), .ref (sd 1), .ref (sd 2), .ref (sd 3), .ref (sd 4), .ref (sd 5), .ref (sd 6), .int 0, .int (-1), .int 0, .int 0, .int 0, .int 0])), (sd 0, .inl (cyI, 6, .inl (fun _ => 0))), (sd 1, .inl (cyI, 8, .inl (fun _ => 0))), (sd 2, .inl (cyI, 8, .inl (fun _ => 0))), (sd 3, .inl (cyI, 328, .inl (fun _ => 0))), (sd 4, .inl (cyI, 328, .inl (fun _ => 0))), (sd 5, .inl (cyI, 41, .inl (fun _ => 0))), (sd 6, .inl (cyI, 41, .inl (fun _ => 0))), (ad 10, .inr (5, [.ref (td 0), .ref (td 1), .ref (td 2), .ref (td 3), .ref (td 4), .ref (td 5), .ref (td 6), .int 0, .int (-1), .int 0, .int 0, .int 0, .int 0])), (td 0, .inl (cyI, 6, .inl (fun _ => 0))), (td 1, .inl (cyI, 8, .inl (fun _ => 0))), (td 2, .inl (cyI, 8, .inl (fun _ => 0))), (td 3, .inl (cyI, 328, .inl (fun _ => 0))), (td 4, .inl (cyI, 328, .inl (fun _ => 0))), (td 5, .inl (cyI, 41, .inl (fun _ => 0))), (td 6, .inl (cyI, 41, .inl (fun _ => 0)))] := hD
  refine lv_aload_n hx hb dX5_copyFrom_150 rfl (lv_at hl 0 rfl) ?_
  refine lv_aload_n hx hb dX5_copyFrom_151 rfl (lv_at hl 1 rfl) ?_
  refine va_get (D := (dC, dI)) (ci := 5) (v := .int 0) (C := RX5) (T := TX5) (N := 13) hx hb hts hi5 hown hK hP 0 rfl rfl 10 (by decide) (hts _ (ow_m (k := 14) rfl)) (fun _ h9 => h9) rfl dX5_copyFrom_152 ?_
  refine va_put (D := (dC, dI)) (ci := 5) (v := .int 0) (ty := .int) (C := RX5) (T := TX5) (N := 13) hx hb hts hi5 tyX5 tyX5_ok nmX5 hown hK hP hD hS 8 rfl rfl 10 (by decide) (hts _ (ow_m (k := 14) rfl)) (fun _ h9 => h9) rfl (by decide +kernel) rfl rfl (Nat.le_of_ble_eq_true rfl) dX5_copyFrom_155 (fun H locs hP hD hS => ?_)
  have hP : va_P (dC, dI) vwCl [(ad 9, .inr (5, [.ref (sd 0), .ref (sd 1), .ref (sd 2), .ref (sd 3), .ref (sd 4), .ref (sd 5), .ref (sd 6), .int 0, .int (-1), .int 0, .int 0, .int 0, .int 0])), (sd 0, .inl (cyI, 6, .inl (fun _ => 0))), (sd 1, .inl (cyI, 8, .inl (fun _ => 0))), (sd 2, .inl (cyI, 8, .inl (fun _ => 0))), (sd 3, .inl (cyI, 328, .inl (fun _ => 0))), (sd 4, .inl (cyI, 328, .inl (fun _ => 0))), (sd 5, .inl (cyI, 41, .inl (fun _ => 0))), (sd 6, .inl (cyI, 41, .inl (fun _ => 0))), (ad 10, .inr (5, [.ref (td 0), .ref (td 1), .ref (td 2), .ref (td 3), .ref (td 4), .ref (td 5), .ref (td 6), .int 0, .int (-1), .int 0, .int 0, .int 0, .int 0])), (td 0, .inl (cyI, 6, .inl (fun _ => 0))), (td 1, .inl (cyI, 8, .inl (fun _ => 0))), (td 2, .inl (cyI, 8, .inl (fun _ => 0))), (td 3, .inl (cyI, 328, .inl (fun _ => 0))), (td 4, .inl (cyI, 328, .inl (fun _ => 0))), (td 5, .inl (cyI, 41, .inl (fun _ => 0))), (td 6, .inl (cyI, 41, .inl (fun _ => 0)))] H := hP
  have hD : va_D A [(ad 9, .inr (5, [.ref (sd 0), .ref (sd 1), .ref (sd 2), .ref (sd 3), .ref (sd 4), .ref (sd 5), .ref (sd 6), .int 0, .int (-1), .int 0, .int 0, .int 0, .int 0])), (sd 0, .inl (cyI, 6, .inl (fun _ => 0))), (sd 1, .inl (cyI, 8, .inl (fun _ => 0))), (sd 2, .inl (cyI, 8, .inl (fun _ => 0))), (sd 3, .inl (cyI, 328, .inl (fun _ => 0))), (sd 4, .inl (cyI, 328, .inl (fun _ => 0))), (sd 5, .inl (cyI, 41, .inl (fun _ => 0))), (sd 6, .inl (cyI, 41, .inl (fun _ => 0))), (ad 10, .inr (5, [.ref (td 0), .ref (td 1), .ref (td 2), .ref (td 3), .ref (td 4), .ref (td 5), .ref (td 6), .int 0, .int (-1), .int 0, .int 0, .int 0, .int 0])), (td 0, .inl (cyI, 6, .inl (fun _ => 0))), (td 1, .inl (cyI, 8, .inl (fun _ => 0))), (td 2, .inl (cyI, 8, .inl (fun _ => 0))), (td 3, .inl (cyI, 328, .inl (fun _ => 0))), (td 4, .inl (cyI, 328, .inl (fun _ => 0))), (td 5, .inl (cyI, 41, .inl (fun _ => 0))), (td 6, .inl (cyI, 41, .inl (fun _ => 0)))] := hD
  refine lv_aload_n hx hb dX5_copyFrom_158 rfl (lv_at hl 0 rfl) ?_
  refine lv_aload_n hx hb dX5_copyFrom_159 rfl (lv_at hl 1 rfl) ?_
  refine va_get (D := (dC, dI)) (ci := 5) (v := .int 0) (C := RX5) (T := TX5) (N := 13) hx hb hts hi5 hown hK hP 0 rfl rfl 11 (by decide) (hts _ (ow_m (k := 15) rfl)) (fun _ h9 => h9) rfl dX5_copyFrom_160 ?_
  refine va_put (D := (dC, dI)) (ci := 5) (v := .int 0) (ty := .int) (C := RX5) (T := TX5) (N := 13) hx hb hts hi5 tyX5 tyX5_ok nmX5 hown hK hP hD hS 8 rfl rfl 11 (by decide) (hts _ (ow_m (k := 15) rfl)) (fun _ h9 => h9) rfl (by decide +kernel) rfl rfl (Nat.le_of_ble_eq_true rfl) dX5_copyFrom_163 (fun H locs hP hD hS => ?_)
  have hP : va_P (dC, dI) vwCl [(ad 9, .inr (5, [.ref (sd 0), .ref (sd 1), .ref (sd 2), .ref (sd 3), .ref (sd 4), .ref (sd 5), .ref (sd 6), .int 0, .int (-1), .int 0, .int 0, .int 0, .int 0])), (sd 0, .inl (cyI, 6, .inl (fun _ => 0))), (sd 1, .inl (cyI, 8, .inl (fun _ => 0))), (sd 2, .inl (cyI, 8, .inl (fun _ => 0))), (sd 3, .inl (cyI, 328, .inl (fun _ => 0))), (sd 4, .inl (cyI, 328, .inl (fun _ => 0))), (sd 5, .inl (cyI, 41, .inl (fun _ => 0))), (sd 6, .inl (cyI, 41, .inl (fun _ => 0))), (ad 10, .inr (5, [.ref (td 0), .ref (td 1), .ref (td 2), .ref (td 3), .ref (td 4), .ref (td 5), .ref (td 6), .int 0, .int (-1), .int 0, .int 0, .int 0, .int 0])), (td 0, .inl (cyI, 6, .inl (fun _ => 0))), (td 1, .inl (cyI, 8, .inl (fun _ => 0))), (td 2, .inl (cyI, 8, .inl (fun _ => 0))), (td 3, .inl (cyI, 328, .inl (fun _ => 0))), (td 4, .inl (cyI, 328, .inl (fun _ => 0))), (td 5, .inl (cyI, 41, .inl (fun _ => 0))), (td 6, .inl (cyI, 41, .inl (fun _ => 0)))] H := hP
  have hD : va_D A [(ad 9, .inr (5, [.ref (sd 0), .ref (sd 1), .ref (sd 2), .ref (sd 3), .ref (sd 4), .ref (sd 5), .ref (sd 6), .int 0, .int (-1), .int 0, .int 0, .int 0, .int 0])), (sd 0, .inl (cyI, 6, .inl (fun _ => 0))), (sd 1, .inl (cyI, 8, .inl (fun _ => 0))), (sd 2, .inl (cyI, 8, .inl (fun _ => 0))), (sd 3, .inl (cyI, 328, .inl (fun _ => 0))), (sd 4, .inl (cyI, 328, .inl (fun _ => 0))), (sd 5, .inl (cyI, 41, .inl (fun _ => 0))), (sd 6, .inl (cyI, 41, .inl (fun _ => 0))), (ad 10, .inr (5, [.ref (td 0), .ref (td 1), .ref (td 2), .ref (td 3), .ref (td 4), .ref (td 5), .ref (td 6), .int 0, .int (-1), .int 0, .int 0, .int 0, .int 0])), (td 0, .inl (cyI, 6, .inl (fun _ => 0))), (td 1, .inl (cyI, 8, .inl (fun _ => 0))), (td 2, .inl (cyI, 8, .inl (fun _ => 0))), (td 3, .inl (cyI, 328, .inl (fun _ => 0))), (td 4, .inl (cyI, 328, .inl (fun _ => 0))), (td 5, .inl (cyI, 41, .inl (fun _ => 0))), (td 6, .inl (cyI, 41, .inl (fun _ => 0)))] := hD
  refine lv_aload_n hx hb dX5_copyFrom_166 rfl (lv_at hl 0 rfl) ?_
  refine lv_aload_n hx hb dX5_copyFrom_167 rfl (lv_at hl 1 rfl) ?_
  refine va_get (D := (dC, dI)) (ci := 5) (v := .int 0) (C := RX5) (T := TX5) (N := 13) hx hb hts hi5 hown hK hP 0 rfl rfl 12 (by decide) (hts _ (ow_m (k := 16) rfl)) (fun _ h9 => h9) rfl dX5_copyFrom_168 ?_
  refine va_put (D := (dC, dI)) (ci := 5) (v := .int 0) (ty := .int) (C := RX5) (T := TX5) (N := 13) hx hb hts hi5 tyX5 tyX5_ok nmX5 hown hK hP hD hS 8 rfl rfl 12 (by decide) (hts _ (ow_m (k := 16) rfl)) (fun _ h9 => h9) rfl (by decide +kernel) rfl rfl (Nat.le_of_ble_eq_true rfl) dX5_copyFrom_171 (fun H locs hP hD hS => ?_)
  have hP : va_P (dC, dI) vwCl [(ad 9, .inr (5, [.ref (sd 0), .ref (sd 1), .ref (sd 2), .ref (sd 3), .ref (sd 4), .ref (sd 5), .ref (sd 6), .int 0, .int (-1), .int 0, .int 0, .int 0, .int 0])), (sd 0, .inl (cyI, 6, .inl (fun _ => 0))), (sd 1, .inl (cyI, 8, .inl (fun _ => 0))), (sd 2, .inl (cyI, 8, .inl (fun _ => 0))), (sd 3, .inl (cyI, 328, .inl (fun _ => 0))), (sd 4, .inl (cyI, 328, .inl (fun _ => 0))), (sd 5, .inl (cyI, 41, .inl (fun _ => 0))), (sd 6, .inl (cyI, 41, .inl (fun _ => 0))), (ad 10, .inr (5, [.ref (td 0), .ref (td 1), .ref (td 2), .ref (td 3), .ref (td 4), .ref (td 5), .ref (td 6), .int 0, .int (-1), .int 0, .int 0, .int 0, .int 0])), (td 0, .inl (cyI, 6, .inl (fun _ => 0))), (td 1, .inl (cyI, 8, .inl (fun _ => 0))), (td 2, .inl (cyI, 8, .inl (fun _ => 0))), (td 3, .inl (cyI, 328, .inl (fun _ => 0))), (td 4, .inl (cyI, 328, .inl (fun _ => 0))), (td 5, .inl (cyI, 41, .inl (fun _ => 0))), (td 6, .inl (cyI, 41, .inl (fun _ => 0)))] H := hP
  have hD : va_D A [(ad 9, .inr (5, [.ref (sd 0), .ref (sd 1), .ref (sd 2), .ref (sd 3), .ref (sd 4), .ref (sd 5), .ref (sd 6), .int 0, .int (-1), .int 0, .int 0, .int 0, .int 0])), (sd 0, .inl (cyI, 6, .inl (fun _ => 0))), (sd 1, .inl (cyI, 8, .inl (fun _ => 0))), (sd 2, .inl (cyI, 8, .inl (fun _ => 0))), (sd 3, .inl (cyI, 328, .inl (fun _ => 0))), (sd 4, .inl (cyI, 328, .inl (fun _ => 0))), (sd 5, .inl (cyI, 41, .inl (fun _ => 0))), (sd 6, .inl (cyI, 41, .inl (fun _ => 0))), (ad 10, .inr (5, [.ref (td 0), .ref (td 1), .ref (td 2), .ref (td 3), .ref (td 4), .ref (td 5), .ref (td 6), .int 0, .int (-1), .int 0, .int 0, .int 0, .int 0])), (td 0, .inl (cyI, 6, .inl (fun _ => 0))), (td 1, .inl (cyI, 8, .inl (fun _ => 0))), (td 2, .inl (cyI, 8, .inl (fun _ => 0))), (td 3, .inl (cyI, 328, .inl (fun _ => 0))), (td 4, .inl (cyI, 328, .inl (fun _ => 0))), (td 5, .inl (cyI, 41, .inl (fun _ => 0))), (td 6, .inl (cyI, 41, .inl (fun _ => 0)))] := hD
  exact W.vret hx hb hr (fun t ht hW => ⟨⟨(), rfl, trivial, cE.of ht hP hD [0, 1, 2, 3, 4, 5, 6, 7, 8, 9, 10, 11, 12, 13, 14, 15] (by decide) rfl⟩, hS.F ht⟩) hS.2.2 dX5_copyFrom_174
def wo_k_X5_allUnderWay : List Cond := [.fieldLink RX5 42 "ReplicaChain$State" "size" "I"]
def wq_k_X5_allUnderWay : List Cond := .code yX5_allUnderWay cX5_allUnderWay 3 (some .int) :: (wo_k_X5_allUnderWay ++ (wsX50 ++ []))
theorem gd_k_X5_allUnderWay : Gd wq_k_X5_allUnderWay := gd_c (gd_a (gd_o (by decide +kernel)) (gd_a gd_u gd_0))
abbrev wc_k_X5_allUnderWay (cyB cyI cyJ cyZ cyO : ClassId) (ad : Nat → Nat) (td : Nat → Nat) : va_W := [(ad 10, .inr (5, [.ref (td 0), .ref (td 1), .ref (td 2), .ref (td 3), .ref (td 4), .ref (td 5), .ref (td 6), .int 0, .int (-1), .int 0, .int 0, .int 0, .int 0]))]
set_option maxHeartbeats 4000000 in
set_option maxRecDepth 100000 in
theorem k_X5_allUnderWay (l : Launch) (dC : Nat → ClassId) (dI : Nat → Nat → Nat) (cyB cyI cyJ cyZ cyO : ClassId) (ad : Nat → Nat) (td : Nat → Nat) (sz : Nat) : Met l yX5_allUnderWay wq_k_X5_allUnderWay ({ frames := 0, cells := 0, slots := 0, locals := 0 }) (va_Pc [.ref (ad 10)] (cB (dC, dI) (kT cyB cyI cyJ cyZ cyO) (wc_k_X5_allUnderWay cyB cyI cyJ cyZ cyO ad td) sz)) (va_Qi (fun (r : Int32) _ => r = 0) (fun (u : Unit) t => cE (dC, dI) (va_A (wc_k_X5_allUnderWay cyB cyI cyJ cyZ cyO ad td) sz) ([(ad 10, .inr (5, [.ref (td 0), .ref (td 1), .ref (td 2), .ref (td 3), .ref (td 4), .ref (td 5), .ref (td 6), .int 0, .int (-1), .int 0, .int 0, .int 0, .int 0]))]) t.heap) (va_A (wc_k_X5_allUnderWay cyB cyI cyJ cyZ cyO ad td) sz)) 0 0 (va_A (wc_k_X5_allUnderWay cyB cyI cyJ cyZ cyO ad td) sz) := by
  refine Met.ofW (cc := cX5_allUnderWay) (maxL := 3) (ret := (some .int)) (by decide) rfl ?_
  intro p e s m args below meth c s₁ B hml hv
  obtain ⟨rfl, hsz, hP, hKN, hD0⟩ := hv
  have hx := B.exec
  have hb := B.bytes
  have hr := B.returns
  have hts := atoms_spec (ws := wq_k_X5_allUnderWay) B.pre
  have hown : s.vm.findClass RX5 = some m.cls := findClass_of_methodNamed B.named
  have hlocks := B.notSynchronized
  have hK := hKN.1
  have hfix : CallFix p m c cX5_allUnderWay 3 s [.ref (ad 10)].toArray wq_k_X5_allUnderWay RX5 := ⟨hx, hb, hml, hown, hts⟩
  have hi5 : ∀ w ∈ wsX50, w ∈ wq_k_X5_allUnderWay := (sb_c sb_l)
  subst hsz
  have hD := hD0.self (sz := s.heap.size)
  generalize hAe : va_A (wc_k_X5_allUnderWay cyB cyI cyJ cyZ cyO ad td) s.heap.size = A at hD ⊢
  have hA : ∀ q : Nat, s.heap.size ≤ q → A q := fun q h => by rw [← hAe]; exact Or.inr h
  have hS : va_S A s.heap s.heap [] := va_S.rf
  have hl := lv_entry ([.ref (ad 10)]) (n := 3) (Nat.le_of_ble_eq_true rfl)
  rw [lg_entry_eq]
  generalize (lg_sl ([.ref (ad 10)]) ++ List.replicate (3 - (lg_sl ([.ref (ad 10)])).length) Slot.unset).toArray = ls at hl ⊢
  have hl : lv_has ls 3 [(0, .ref (ad 10))] := hl
  refine lv_iconst (v := 0) hx hb dX5_allUnderWay_0 (by decide) ?_
  refine lv_istore_n (lv' := [(1, .int 0), (0, .ref (ad 10))]) hx hb dX5_allUnderWay_1 rfl hl (by decide) rfl (fun ls hl => ?_)
  refine lv_iconst (v := 0) hx hb dX5_allUnderWay_2 (by decide) ?_
  refine lv_istore_n (lv' := [(2, .int 0), (1, .int 0), (0, .ref (ad 10))]) hx hb dX5_allUnderWay_3 rfl hl (by decide) rfl (fun ls hl => ?_)
  refine lv_iload_n hx hb dX5_allUnderWay_4 rfl (lv_at hl 0 rfl) ?_
  refine lv_aload_n hx hb dX5_allUnderWay_5 rfl (lv_at hl 2 rfl) ?_
  refine va_get (D := (dC, dI)) (ci := 5) (v := .int 0) (C := RX5) (T := TX5) (N := 13) hx hb hts hi5 hown hK hP 0 rfl rfl 7 (by decide) (hts _ (ow_m (k := 0) rfl)) (fun _ h9 => h9) rfl dX5_allUnderWay_6 ?_
  refine lv_iconst (v := 1) hx hb dX5_allUnderWay_9 (by decide) ?_
  refine lv_isub hx hb dX5_allUnderWay_10 ?_
  refine tp_c (w := (-1)) (by decide) ?_
  refine lv_icmp_ge (tgt := 36) hx hb dX5_allUnderWay_11 (by decide) (fun _ => ?_) (fun c927 => absurd (by decide) c927)
  refine lv_iload_n hx hb dX5_allUnderWay_36 rfl (lv_at hl 1 rfl) ?_
  exact W.iret (v := 0) hx hb hr (fun t ht hW => ⟨⟨0, (), rfl, rfl, cE.of ht hP hD [0] (by decide) rfl⟩, hS.F ht⟩) hS.2.2 dX5_allUnderWay_37
def wo_c_C_still : List Cond := [.fieldLink RX6 48 "ReplicaChain" "trial" "LReplicaChain$State;", .fieldLink RX6 110 "ReplicaChain" "now" "LReplicaChain$State;", .methodLink RX6 228 yX5_copyFrom, .instanceMethod yX5_copyFrom, .selects RX5 yX5_copyFrom yX5_copyFrom, .initialized RX5, .fieldLink RX6 176 "ReplicaChain$State" "copier" "I", .methodLink RX6 267 yX5_allUnderWay, .instanceMethod yX5_allUnderWay, .selects RX5 yX5_allUnderWay yX5_allUnderWay]
def wq_c_C_still : List Cond := .code yX6_still cX6_still 2 (some .int) :: (wo_c_C_still ++ (wq_k_X5_copyFrom ++ (wq_k_X5_allUnderWay ++ (wsX50 ++ (wsX60 ++ [])))))
theorem gd_c_C_still : Gd wq_c_C_still := gd_c (gd_a (gd_o (by decide +kernel)) (gd_a gd_k_X5_copyFrom (gd_a gd_k_X5_allUnderWay (gd_a gd_u (gd_a gd_u gd_0)))))
abbrev wc_c_C_still (cyB cyI cyJ cyZ cyO : ClassId) (h0 : Nat) (ad : Nat → Nat) (sd : Nat → Nat) (td : Nat → Nat) : va_W := [(h0, .inr (6, [.ref (ad 0), .int 0, .ref (ad 2), .ref (ad 3), .ref (ad 4), .ref (ad 5), .ref (ad 6), .int 0, .int 0, .ref (ad 9), .ref (ad 10), .ref (ad 11), .ref (ad 12), .ref (ad 13), .int 0, .ref (ad 15), .int 0, .ref (ad 17), .ref (ad 18), .int 0])), (ad 9, .inr (5, [.ref (sd 0), .ref (sd 1), .ref (sd 2), .ref (sd 3), .ref (sd 4), .ref (sd 5), .ref (sd 6), .int 0, .int (-1), .int 0, .int 0, .int 0, .int 0])), (sd 0, .inl (cyI, 6, .inl (fun _ => 0))), (sd 1, .inl (cyI, 8, .inl (fun _ => 0))), (sd 2, .inl (cyI, 8, .inl (fun _ => 0))), (sd 3, .inl (cyI, 328, .inl (fun _ => 0))), (sd 4, .inl (cyI, 328, .inl (fun _ => 0))), (sd 5, .inl (cyI, 41, .inl (fun _ => 0))), (sd 6, .inl (cyI, 41, .inl (fun _ => 0))), (ad 10, .inr (5, [.ref (td 0), .ref (td 1), .ref (td 2), .ref (td 3), .ref (td 4), .ref (td 5), .ref (td 6), .int 0, .int (-1), .int 0, .int 0, .int 0, .int 0])), (td 0, .inl (cyI, 6, .inl (fun _ => 0))), (td 1, .inl (cyI, 8, .inl (fun _ => 0))), (td 2, .inl (cyI, 8, .inl (fun _ => 0))), (td 3, .inl (cyI, 328, .inl (fun _ => 0))), (td 4, .inl (cyI, 328, .inl (fun _ => 0))), (td 5, .inl (cyI, 41, .inl (fun _ => 0))), (td 6, .inl (cyI, 41, .inl (fun _ => 0)))]
set_option maxHeartbeats 4000000 in
set_option maxRecDepth 100000 in
theorem c_C_still (l : Launch) (dC : Nat → ClassId) (dI : Nat → Nat → Nat) (cyB cyI cyJ cyZ cyO : ClassId) (h0 : Nat) (ad : Nat → Nat) (sd : Nat → Nat) (td : Nat → Nat) (sz : Nat) : Met l yX6_still wq_c_C_still ({ frames := 2, cells := 0, slots := 0, locals := 101 }) (va_Pc [.ref h0] (cB (dC, dI) (kT cyB cyI cyJ cyZ cyO) (wc_c_C_still cyB cyI cyJ cyZ cyO h0 ad sd td) sz)) (va_Qi (fun (r : Int32) (_ : Unit) => r = 0) (fun (u : Unit) t => cE (dC, dI) (va_A (wc_c_C_still cyB cyI cyJ cyZ cyO h0 ad sd td) sz) ([]) t.heap) (va_A (wc_c_C_still cyB cyI cyJ cyZ cyO h0 ad sd td) sz)) 0 0 (va_A (wc_c_C_still cyB cyI cyJ cyZ cyO h0 ad sd td) sz) := by
  refine Met.ofW (cc := cX6_still) (maxL := 2) (ret := (some .int)) (by decide) rfl ?_
  intro p e s m args below meth c s₁ B hml hv
  obtain ⟨rfl, hsz, hP, hKN, hD0⟩ := hv
  have hx := B.exec
  have hb := B.bytes
  have hr := B.returns
  have hts := atoms_spec (ws := wq_c_C_still) B.pre
  have hown : s.vm.findClass RX6 = some m.cls := findClass_of_methodNamed B.named
  have hlocks := B.notSynchronized
  have hK := hKN.1
  have hfix : CallFix p m c cX6_still 2 s [.ref h0].toArray wq_c_C_still RX6 := ⟨hx, hb, hml, hown, hts⟩
  have hi5 : ∀ w ∈ wsX50, w ∈ wq_c_C_still := (sb_c (sb_r (sb_r sb_l)))
  have hi6 : ∀ w ∈ wsX60, w ∈ wq_c_C_still := (sb_c (sb_r (sb_r (sb_r sb_l))))
  subst hsz
  have hD := hD0.self (sz := s.heap.size)
  generalize hAe : va_A (wc_c_C_still cyB cyI cyJ cyZ cyO h0 ad sd td) s.heap.size = A at hD ⊢
  have hA : ∀ q : Nat, s.heap.size ≤ q → A q := fun q h => by rw [← hAe]; exact Or.inr h
  have hS : va_S A s.heap s.heap [] := va_S.rf
  have hl := lv_entry ([.ref h0]) (n := 2) (Nat.le_of_ble_eq_true rfl)
  rw [lg_entry_eq]
  generalize (lg_sl ([.ref h0]) ++ List.replicate (2 - (lg_sl ([.ref h0])).length) Slot.unset).toArray = ls at hl ⊢
  have hl : lv_has ls 2 [(0, .ref h0)] := hl
  refine lv_aload_n hx hb dX6_still_0 rfl (lv_at hl 0 rfl) ?_
  refine va_get (D := (dC, dI)) (ci := 6) (v := .ref (ad 10)) (C := RX6) (T := TX6) (N := 20) hx hb hts hi6 hown hK hP 0 rfl rfl 10 (by decide) (hts _ (ow_m (k := 0) rfl)) (fun _ h9 => h9) rfl dX6_still_1 ?_
  refine lv_aload_n hx hb dX6_still_4 rfl (lv_at hl 0 rfl) ?_
  refine va_get (D := (dC, dI)) (ci := 6) (v := .ref (ad 9)) (C := RX6) (T := TX6) (N := 20) hx hb hts hi6 hown hK hP 0 rfl rfl 9 (by decide) (hts _ (ow_m (k := 1) rfl)) (fun _ h9 => h9) rfl dX6_still_5 ?_
  refine gf_v (wr := [(h0, .inr (6, [.ref (ad 0), .int 0, .ref (ad 2), .ref (ad 3), .ref (ad 4), .ref (ad 5), .ref (ad 6), .int 0, .int 0, .ref (ad 9), .ref (ad 10), .ref (ad 11), .ref (ad 12), .ref (ad 13), .int 0, .ref (ad 15), .int 0, .ref (ad 17), .ref (ad 18), .int 0]))]) (va_runV (As := [.ref (ad 9)]) (rest := []) hfix (k_X5_copyFrom l dC dI cyB cyI cyJ cyZ cyO ad sd td _) (cwV 1 hts (gi_V (ow_m (k := 2) rfl) (ow_m (k := 3) rfl) (ow_m (k := 4) rfl) (ow_m (k := 5) rfl) (sb_c sb_l) gd_k_X5_copyFrom) rfl rfl rfl (by decide +kernel) ⟨Nat.le_of_ble_eq_true rfl, Nat.le_of_ble_eq_true rfl⟩) (g_preV hKN hP hD [1, 2, 3, 4, 5, 6, 7, 8, 9, 10, 11, 12, 13, 14, 15, 16] rfl (by decide) 8 5 rfl rfl) rfl rfl hl.1 rfl (lv_room (Nat.le_of_ble_eq_true rfl)) dX6_still_8 ⟨Nat.le_of_ble_eq_true rfl, Nat.le_of_ble_eq_true rfl⟩) hP hD hS hA [1, 2, 3, 4, 5, 6, 7, 8, 9, 10, 11, 12, 13, 14, 15, 16] [0] rfl rfl (by decide) (by decide) (fun u932 H locs qu932 hP hD hS => ?_)
  have hP : va_P (dC, dI) vwCl [(h0, .inr (6, [.ref (ad 0), .int 0, .ref (ad 2), .ref (ad 3), .ref (ad 4), .ref (ad 5), .ref (ad 6), .int 0, .int 0, .ref (ad 9), .ref (ad 10), .ref (ad 11), .ref (ad 12), .ref (ad 13), .int 0, .ref (ad 15), .int 0, .ref (ad 17), .ref (ad 18), .int 0])), (ad 9, .inr (5, [.ref (sd 0), .ref (sd 1), .ref (sd 2), .ref (sd 3), .ref (sd 4), .ref (sd 5), .ref (sd 6), .int 0, .int (-1), .int 0, .int 0, .int 0, .int 0])), (sd 0, .inl (cyI, 6, .inl (fun _ => 0))), (sd 1, .inl (cyI, 8, .inl (fun _ => 0))), (sd 2, .inl (cyI, 8, .inl (fun _ => 0))), (sd 3, .inl (cyI, 328, .inl (fun _ => 0))), (sd 4, .inl (cyI, 328, .inl (fun _ => 0))), (sd 5, .inl (cyI, 41, .inl (fun _ => 0))), (sd 6, .inl (cyI, 41, .inl (fun _ => 0))), (ad 10, .inr (5, [.ref (td 0), .ref (td 1), .ref (td 2), .ref (td 3), .ref (td 4), .ref (td 5), .ref (td 6), .int 0, .int (-1), .int 0, .int 0, .int 0, .int 0])), (td 0, .inl (cyI, 6, .inl (fun _ => 0))), (td 1, .inl (cyI, 8, .inl (fun _ => 0))), (td 2, .inl (cyI, 8, .inl (fun _ => 0))), (td 3, .inl (cyI, 328, .inl (fun _ => 0))), (td 4, .inl (cyI, 328, .inl (fun _ => 0))), (td 5, .inl (cyI, 41, .inl (fun _ => 0))), (td 6, .inl (cyI, 41, .inl (fun _ => 0)))] H := hP
  have hD : va_D A [(h0, .inr (6, [.ref (ad 0), .int 0, .ref (ad 2), .ref (ad 3), .ref (ad 4), .ref (ad 5), .ref (ad 6), .int 0, .int 0, .ref (ad 9), .ref (ad 10), .ref (ad 11), .ref (ad 12), .ref (ad 13), .int 0, .ref (ad 15), .int 0, .ref (ad 17), .ref (ad 18), .int 0])), (ad 9, .inr (5, [.ref (sd 0), .ref (sd 1), .ref (sd 2), .ref (sd 3), .ref (sd 4), .ref (sd 5), .ref (sd 6), .int 0, .int (-1), .int 0, .int 0, .int 0, .int 0])), (sd 0, .inl (cyI, 6, .inl (fun _ => 0))), (sd 1, .inl (cyI, 8, .inl (fun _ => 0))), (sd 2, .inl (cyI, 8, .inl (fun _ => 0))), (sd 3, .inl (cyI, 328, .inl (fun _ => 0))), (sd 4, .inl (cyI, 328, .inl (fun _ => 0))), (sd 5, .inl (cyI, 41, .inl (fun _ => 0))), (sd 6, .inl (cyI, 41, .inl (fun _ => 0))), (ad 10, .inr (5, [.ref (td 0), .ref (td 1), .ref (td 2), .ref (td 3), .ref (td 4), .ref (td 5), .ref (td 6), .int 0, .int (-1), .int 0, .int 0, .int 0, .int 0])), (td 0, .inl (cyI, 6, .inl (fun _ => 0))), (td 1, .inl (cyI, 8, .inl (fun _ => 0))), (td 2, .inl (cyI, 8, .inl (fun _ => 0))), (td 3, .inl (cyI, 328, .inl (fun _ => 0))), (td 4, .inl (cyI, 328, .inl (fun _ => 0))), (td 5, .inl (cyI, 41, .inl (fun _ => 0))), (td 6, .inl (cyI, 41, .inl (fun _ => 0)))] := hD
  refine lv_iconst (v := 0) hx hb dX6_still_11 (by decide) ?_
  refine lv_istore_n (lv' := [(1, .int 0), (0, .ref h0)]) hx hb dX6_still_12 rfl hl (by decide) rfl (fun ls hl => ?_)
  refine lv_iload_n hx hb dX6_still_13 rfl (lv_at hl 0 rfl) ?_
  refine lv_sipush (v := 400) hx hb dX6_still_14 (by decide) ?_
  refine lv_icmp_gt (tgt := 61) hx hb dX6_still_17 (by decide) (fun c933 => absurd c933 (by decide)) (fun _ => ?_)
  refine lv_aload_n hx hb dX6_still_20 rfl (lv_at hl 1 rfl) ?_
  refine va_get (D := (dC, dI)) (ci := 6) (v := .ref (ad 10)) (C := RX6) (T := TX6) (N := 20) hx hb hts hi6 hown hK hP 0 rfl rfl 10 (by decide) (hts _ (ow_m (k := 0) rfl)) (fun _ h9 => h9) rfl dX6_still_21 ?_
  refine va_get (D := (dC, dI)) (ci := 5) (v := .int (-1)) (C := RX5) (T := TX5) (N := 13) hx hb hts hi5 hown hK hP 9 rfl rfl 8 (by decide) (hts _ (ow_m (k := 6) rfl)) (fun _ h9 => h9) rfl dX6_still_24 ?_
  refine lv_iconst (v := (-1)) hx hb dX6_still_27 (by decide) ?_
  refine lv_icmp_ne (tgt := 43) hx hb dX6_still_28 (by decide) (fun c934 => absurd (by decide) c934) (fun _ => ?_)
  refine lv_aload_n hx hb dX6_still_31 rfl (lv_at hl 1 rfl) ?_
  refine va_get (D := (dC, dI)) (ci := 6) (v := .ref (ad 10)) (C := RX6) (T := TX6) (N := 20) hx hb hts hi6 hown hK hP 0 rfl rfl 10 (by decide) (hts _ (ow_m (k := 0) rfl)) (fun _ h9 => h9) rfl dX6_still_32 ?_
  refine gf_i (wr := [(h0, .inr (6, [.ref (ad 0), .int 0, .ref (ad 2), .ref (ad 3), .ref (ad 4), .ref (ad 5), .ref (ad 6), .int 0, .int 0, .ref (ad 9), .ref (ad 10), .ref (ad 11), .ref (ad 12), .ref (ad 13), .int 0, .ref (ad 15), .int 0, .ref (ad 17), .ref (ad 18), .int 0])), (ad 9, .inr (5, [.ref (sd 0), .ref (sd 1), .ref (sd 2), .ref (sd 3), .ref (sd 4), .ref (sd 5), .ref (sd 6), .int 0, .int (-1), .int 0, .int 0, .int 0, .int 0])), (sd 0, .inl (cyI, 6, .inl (fun _ => 0))), (sd 1, .inl (cyI, 8, .inl (fun _ => 0))), (sd 2, .inl (cyI, 8, .inl (fun _ => 0))), (sd 3, .inl (cyI, 328, .inl (fun _ => 0))), (sd 4, .inl (cyI, 328, .inl (fun _ => 0))), (sd 5, .inl (cyI, 41, .inl (fun _ => 0))), (sd 6, .inl (cyI, 41, .inl (fun _ => 0))), (td 0, .inl (cyI, 6, .inl (fun _ => 0))), (td 1, .inl (cyI, 8, .inl (fun _ => 0))), (td 2, .inl (cyI, 8, .inl (fun _ => 0))), (td 3, .inl (cyI, 328, .inl (fun _ => 0))), (td 4, .inl (cyI, 328, .inl (fun _ => 0))), (td 5, .inl (cyI, 41, .inl (fun _ => 0))), (td 6, .inl (cyI, 41, .inl (fun _ => 0)))]) (va_runV (As := []) (rest := []) hfix (k_X5_allUnderWay l dC dI cyB cyI cyJ cyZ cyO ad td _) (cwV 0 hts (gi_V (ow_m (k := 7) rfl) (ow_m (k := 8) rfl) (ow_m (k := 9) rfl) (ow_m (k := 5) rfl) (sb_c (sb_r sb_l)) gd_k_X5_allUnderWay) rfl rfl rfl (by decide +kernel) ⟨Nat.le_of_ble_eq_true rfl, Nat.le_of_ble_eq_true rfl⟩) (g_preV hKN hP hD [9] rfl (by decide) 0 5 rfl rfl) rfl rfl hl.1 rfl (lv_room (Nat.le_of_ble_eq_true rfl)) dX6_still_35 ⟨Nat.le_of_ble_eq_true rfl, Nat.le_of_ble_eq_true rfl⟩) hP hD hS hA [9] [0, 1, 2, 3, 4, 5, 6, 7, 8, 10, 11, 12, 13, 14, 15, 16] rfl rfl (by decide) (by decide) (fun r936 u937 H locs qu937 hP hD hS => ?_)
  have hP : va_P (dC, dI) vwCl [(h0, .inr (6, [.ref (ad 0), .int 0, .ref (ad 2), .ref (ad 3), .ref (ad 4), .ref (ad 5), .ref (ad 6), .int 0, .int 0, .ref (ad 9), .ref (ad 10), .ref (ad 11), .ref (ad 12), .ref (ad 13), .int 0, .ref (ad 15), .int 0, .ref (ad 17), .ref (ad 18), .int 0])), (ad 9, .inr (5, [.ref (sd 0), .ref (sd 1), .ref (sd 2), .ref (sd 3), .ref (sd 4), .ref (sd 5), .ref (sd 6), .int 0, .int (-1), .int 0, .int 0, .int 0, .int 0])), (sd 0, .inl (cyI, 6, .inl (fun _ => 0))), (sd 1, .inl (cyI, 8, .inl (fun _ => 0))), (sd 2, .inl (cyI, 8, .inl (fun _ => 0))), (sd 3, .inl (cyI, 328, .inl (fun _ => 0))), (sd 4, .inl (cyI, 328, .inl (fun _ => 0))), (sd 5, .inl (cyI, 41, .inl (fun _ => 0))), (sd 6, .inl (cyI, 41, .inl (fun _ => 0))), (td 0, .inl (cyI, 6, .inl (fun _ => 0))), (td 1, .inl (cyI, 8, .inl (fun _ => 0))), (td 2, .inl (cyI, 8, .inl (fun _ => 0))), (td 3, .inl (cyI, 328, .inl (fun _ => 0))), (td 4, .inl (cyI, 328, .inl (fun _ => 0))), (td 5, .inl (cyI, 41, .inl (fun _ => 0))), (td 6, .inl (cyI, 41, .inl (fun _ => 0))), (ad 10, .inr (5, [.ref (td 0), .ref (td 1), .ref (td 2), .ref (td 3), .ref (td 4), .ref (td 5), .ref (td 6), .int 0, .int (-1), .int 0, .int 0, .int 0, .int 0]))] H := hP
  have hD : va_D A [(h0, .inr (6, [.ref (ad 0), .int 0, .ref (ad 2), .ref (ad 3), .ref (ad 4), .ref (ad 5), .ref (ad 6), .int 0, .int 0, .ref (ad 9), .ref (ad 10), .ref (ad 11), .ref (ad 12), .ref (ad 13), .int 0, .ref (ad 15), .int 0, .ref (ad 17), .ref (ad 18), .int 0])), (ad 9, .inr (5, [.ref (sd 0), .ref (sd 1), .ref (sd 2), .ref (sd 3), .ref (sd 4), .ref (sd 5), .ref (sd 6), .int 0, .int (-1), .int 0, .int 0, .int 0, .int 0])), (sd 0, .inl (cyI, 6, .inl (fun _ => 0))), (sd 1, .inl (cyI, 8, .inl (fun _ => 0))), (sd 2, .inl (cyI, 8, .inl (fun _ => 0))), (sd 3, .inl (cyI, 328, .inl (fun _ => 0))), (sd 4, .inl (cyI, 328, .inl (fun _ => 0))), (sd 5, .inl (cyI, 41, .inl (fun _ => 0))), (sd 6, .inl (cyI, 41, .inl (fun _ => 0))), (td 0, .inl (cyI, 6, .inl (fun _ => 0))), (td 1, .inl (cyI, 8, .inl (fun _ => 0))), (td 2, .inl (cyI, 8, .inl (fun _ => 0))), (td 3, .inl (cyI, 328, .inl (fun _ => 0))), (td 4, .inl (cyI, 328, .inl (fun _ => 0))), (td 5, .inl (cyI, 41, .inl (fun _ => 0))), (td 6, .inl (cyI, 41, .inl (fun _ => 0))), (ad 10, .inr (5, [.ref (td 0), .ref (td 1), .ref (td 2), .ref (td 3), .ref (td 4), .ref (td 5), .ref (td 6), .int 0, .int (-1), .int 0, .int 0, .int 0, .int 0]))] := hD
  refine tp_c (w := 0) qu937 ?_
  refine lv_if_ne (tgt := 43) hx hb dX6_still_38 (by decide) (fun c938 => absurd (by decide) c938) (fun _ => ?_)
  refine lv_iload_n hx hb dX6_still_41 rfl (lv_at hl 0 rfl) ?_
  exact W.iret (v := 0) hx hb hr (fun t ht hW => ⟨⟨0, (), rfl, rfl, cE.nil⟩, hS.F ht⟩) hS.2.2 dX6_still_42
def wo_k_X5_memberBits : List Cond := [.fieldLink RX5 42 "ReplicaChain$State" "size" "I"]
def wq_k_X5_memberBits : List Cond := .code yX5_memberBits cX5_memberBits 3 (some .int) :: (wo_k_X5_memberBits ++ (wsX50 ++ []))
theorem gd_k_X5_memberBits : Gd wq_k_X5_memberBits := gd_c (gd_a (gd_o (by decide +kernel)) (gd_a gd_u gd_0))
abbrev wc_k_X5_memberBits (cyB cyI cyJ cyZ cyO : ClassId) (ad : Nat → Nat) (sd : Nat → Nat) : va_W := [(ad 9, .inr (5, [.ref (sd 0), .ref (sd 1), .ref (sd 2), .ref (sd 3), .ref (sd 4), .ref (sd 5), .ref (sd 6), .int 0, .int (-1), .int 0, .int 0, .int 0, .int 0]))]
set_option maxHeartbeats 4000000 in
set_option maxRecDepth 100000 in
theorem k_X5_memberBits (l : Launch) (dC : Nat → ClassId) (dI : Nat → Nat → Nat) (cyB cyI cyJ cyZ cyO : ClassId) (ad : Nat → Nat) (sd : Nat → Nat) (sz : Nat) : Met l yX5_memberBits wq_k_X5_memberBits ({ frames := 0, cells := 0, slots := 0, locals := 0 }) (va_Pc [.ref (ad 9)] (cB (dC, dI) (kT cyB cyI cyJ cyZ cyO) (wc_k_X5_memberBits cyB cyI cyJ cyZ cyO ad sd) sz)) (va_Qi (fun (r : Int32) _ => r = 0) (fun (u : Unit) t => cE (dC, dI) (va_A (wc_k_X5_memberBits cyB cyI cyJ cyZ cyO ad sd) sz) ([(ad 9, .inr (5, [.ref (sd 0), .ref (sd 1), .ref (sd 2), .ref (sd 3), .ref (sd 4), .ref (sd 5), .ref (sd 6), .int 0, .int (-1), .int 0, .int 0, .int 0, .int 0]))]) t.heap) (va_A (wc_k_X5_memberBits cyB cyI cyJ cyZ cyO ad sd) sz)) 0 0 (va_A (wc_k_X5_memberBits cyB cyI cyJ cyZ cyO ad sd) sz) := by
  refine Met.ofW (cc := cX5_memberBits) (maxL := 3) (ret := (some .int)) (by decide) rfl ?_
  intro p e s m args below meth c s₁ B hml hv
  obtain ⟨rfl, hsz, hP, hKN, hD0⟩ := hv
  have hx := B.exec
  have hb := B.bytes
  have hr := B.returns
  have hts := atoms_spec (ws := wq_k_X5_memberBits) B.pre
  have hown : s.vm.findClass RX5 = some m.cls := findClass_of_methodNamed B.named
  have hlocks := B.notSynchronized
  have hK := hKN.1
  have hfix : CallFix p m c cX5_memberBits 3 s [.ref (ad 9)].toArray wq_k_X5_memberBits RX5 := ⟨hx, hb, hml, hown, hts⟩
  have hi5 : ∀ w ∈ wsX50, w ∈ wq_k_X5_memberBits := (sb_c sb_l)
  subst hsz
  have hD := hD0.self (sz := s.heap.size)
  generalize hAe : va_A (wc_k_X5_memberBits cyB cyI cyJ cyZ cyO ad sd) s.heap.size = A at hD ⊢
  have hA : ∀ q : Nat, s.heap.size ≤ q → A q := fun q h => by rw [← hAe]; exact Or.inr h
  have hS : va_S A s.heap s.heap [] := va_S.rf
  have hl := lv_entry ([.ref (ad 9)]) (n := 3) (Nat.le_of_ble_eq_true rfl)
  rw [lg_entry_eq]
  generalize (lg_sl ([.ref (ad 9)]) ++ List.replicate (3 - (lg_sl ([.ref (ad 9)])).length) Slot.unset).toArray = ls at hl ⊢
  have hl : lv_has ls 3 [(0, .ref (ad 9))] := hl
  refine lv_iconst (v := 0) hx hb dX5_memberBits_0 (by decide) ?_
  refine lv_istore_n (lv' := [(1, .int 0), (0, .ref (ad 9))]) hx hb dX5_memberBits_1 rfl hl (by decide) rfl (fun ls hl => ?_)
  refine lv_iconst (v := 0) hx hb dX5_memberBits_2 (by decide) ?_
  refine lv_istore_n (lv' := [(2, .int 0), (1, .int 0), (0, .ref (ad 9))]) hx hb dX5_memberBits_3 rfl hl (by decide) rfl (fun ls hl => ?_)
  refine lv_iload_n hx hb dX5_memberBits_4 rfl (lv_at hl 0 rfl) ?_
  refine lv_aload_n hx hb dX5_memberBits_5 rfl (lv_at hl 2 rfl) ?_
  refine va_get (D := (dC, dI)) (ci := 5) (v := .int 0) (C := RX5) (T := TX5) (N := 13) hx hb hts hi5 hown hK hP 0 rfl rfl 7 (by decide) (hts _ (ow_m (k := 0) rfl)) (fun _ h9 => h9) rfl dX5_memberBits_6 ?_
  refine lv_icmp_ge (tgt := 29) hx hb dX5_memberBits_9 (by decide) (fun _ => ?_) (fun c940 => absurd (by decide) c940)
  refine lv_iload_n hx hb dX5_memberBits_29 rfl (lv_at hl 1 rfl) ?_
  exact W.iret (v := 0) hx hb hr (fun t ht hW => ⟨⟨0, (), rfl, rfl, cE.of ht hP hD [0] (by decide) rfl⟩, hS.F ht⟩) hS.2.2 dX5_memberBits_30
def wo_c_C_drops : List Cond := [.fieldLink RX6 110 "ReplicaChain" "now" "LReplicaChain$State;", .methodLink RX6 270 yX5_memberBits, .instanceMethod yX5_memberBits, .selects RX5 yX5_memberBits yX5_memberBits, .initialized RX5]
def wq_c_C_drops : List Cond := .code yX6_drops cX6_drops 3 (some .int) :: (wo_c_C_drops ++ (wq_k_X5_memberBits ++ (wsX60 ++ [])))
theorem gd_c_C_drops : Gd wq_c_C_drops := gd_c (gd_a (gd_o (by decide +kernel)) (gd_a gd_k_X5_memberBits (gd_a gd_u gd_0)))
abbrev wc_c_C_drops (cyB cyI cyJ cyZ cyO : ClassId) (h0 : Nat) (ad : Nat → Nat) (sd : Nat → Nat) (x1 : Int32) : va_W := [(h0, .inr (6, [.ref (ad 0), .int 0, .ref (ad 2), .ref (ad 3), .ref (ad 4), .ref (ad 5), .ref (ad 6), .int 0, .int 0, .ref (ad 9), .ref (ad 10), .ref (ad 11), .ref (ad 12), .ref (ad 13), .int 0, .ref (ad 15), .int 0, .ref (ad 17), .ref (ad 18), .int 0])), (ad 9, .inr (5, [.ref (sd 0), .ref (sd 1), .ref (sd 2), .ref (sd 3), .ref (sd 4), .ref (sd 5), .ref (sd 6), .int 0, .int (-1), .int 0, .int 0, .int 0, .int 0]))]
set_option maxHeartbeats 4000000 in
set_option maxRecDepth 100000 in
theorem c_C_drops (l : Launch) (dC : Nat → ClassId) (dI : Nat → Nat → Nat) (cyB cyI cyJ cyZ cyO : ClassId) (h0 : Nat) (ad : Nat → Nat) (sd : Nat → Nat) (x1 : Int32) (sz : Nat) : Met l yX6_drops wq_c_C_drops ({ frames := 1, cells := 0, slots := 0, locals := 22 }) (va_Pc [.ref h0, .int x1] (cB (dC, dI) (kT cyB cyI cyJ cyZ cyO) (wc_c_C_drops cyB cyI cyJ cyZ cyO h0 ad sd x1) sz)) (va_Qi (fun (r : Int32) (_ : Unit) => r = -1) (fun (u : Unit) t => cE (dC, dI) (va_A (wc_c_C_drops cyB cyI cyJ cyZ cyO h0 ad sd x1) sz) ([]) t.heap) (va_A (wc_c_C_drops cyB cyI cyJ cyZ cyO h0 ad sd x1) sz)) 0 0 (va_A (wc_c_C_drops cyB cyI cyJ cyZ cyO h0 ad sd x1) sz) := by
  refine Met.ofW (cc := cX6_drops) (maxL := 3) (ret := (some .int)) (by decide) rfl ?_
  intro p e s m args below meth c s₁ B hml hv
  obtain ⟨rfl, hsz, hP, hKN, hD0⟩ := hv
  have hx := B.exec
  have hb := B.bytes
  have hr := B.returns
  have hts := atoms_spec (ws := wq_c_C_drops) B.pre
  have hown : s.vm.findClass RX6 = some m.cls := findClass_of_methodNamed B.named
  have hlocks := B.notSynchronized
  have hK := hKN.1
  have hfix : CallFix p m c cX6_drops 3 s [.ref h0, .int x1].toArray wq_c_C_drops RX6 := ⟨hx, hb, hml, hown, hts⟩
  have hi6 : ∀ w ∈ wsX60, w ∈ wq_c_C_drops := (sb_c (sb_r sb_l))
  subst hsz
  have hD := hD0.self (sz := s.heap.size)
  generalize hAe : va_A (wc_c_C_drops cyB cyI cyJ cyZ cyO h0 ad sd x1) s.heap.size = A at hD ⊢
  have hA : ∀ q : Nat, s.heap.size ≤ q → A q := fun q h => by rw [← hAe]; exact Or.inr h
  have hS : va_S A s.heap s.heap [] := va_S.rf
  have hl := lv_entry ([.ref h0, .int x1]) (n := 3) (Nat.le_of_ble_eq_true rfl)
  rw [lg_entry_eq]
  generalize (lg_sl ([.ref h0, .int x1]) ++ List.replicate (3 - (lg_sl ([.ref h0, .int x1])).length) Slot.unset).toArray = ls at hl ⊢
  have hl : lv_has ls 3 [(0, .ref h0), (1, .int x1)] := hl
  refine lv_aload_n hx hb dX6_drops_0 rfl (lv_at hl 0 rfl) ?_
  refine va_get (D := (dC, dI)) (ci := 6) (v := .ref (ad 9)) (C := RX6) (T := TX6) (N := 20) hx hb hts hi6 hown hK hP 0 rfl rfl 9 (by decide) (hts _ (ow_m (k := 0) rfl)) (fun _ h9 => h9) rfl dX6_drops_1 ?_
  refine gf_i (wr := [(h0, .inr (6, [.ref (ad 0), .int 0, .ref (ad 2), .ref (ad 3), .ref (ad 4), .ref (ad 5), .ref (ad 6), .int 0, .int 0, .ref (ad 9), .ref (ad 10), .ref (ad 11), .ref (ad 12), .ref (ad 13), .int 0, .ref (ad 15), .int 0, .ref (ad 17), .ref (ad 18), .int 0]))]) (va_runV (As := []) (rest := []) hfix (k_X5_memberBits l dC dI cyB cyI cyJ cyZ cyO ad sd _) (cwV 0 hts (gi_V (ow_m (k := 1) rfl) (ow_m (k := 2) rfl) (ow_m (k := 3) rfl) (ow_m (k := 4) rfl) (sb_c sb_l) gd_k_X5_memberBits) rfl rfl rfl (by decide +kernel) ⟨Nat.le_of_ble_eq_true rfl, Nat.le_of_ble_eq_true rfl⟩) (g_preV hKN hP hD [1] rfl (by decide) 0 5 rfl rfl) rfl rfl hl.1 rfl (lv_room (Nat.le_of_ble_eq_true rfl)) dX6_drops_4 ⟨Nat.le_of_ble_eq_true rfl, Nat.le_of_ble_eq_true rfl⟩) hP hD hS hA [1] [0] rfl rfl (by decide) (by decide) (fun r946 u947 H locs qu947 hP hD hS => ?_)
  have hP : va_P (dC, dI) vwCl [(h0, .inr (6, [.ref (ad 0), .int 0, .ref (ad 2), .ref (ad 3), .ref (ad 4), .ref (ad 5), .ref (ad 6), .int 0, .int 0, .ref (ad 9), .ref (ad 10), .ref (ad 11), .ref (ad 12), .ref (ad 13), .int 0, .ref (ad 15), .int 0, .ref (ad 17), .ref (ad 18), .int 0])), (ad 9, .inr (5, [.ref (sd 0), .ref (sd 1), .ref (sd 2), .ref (sd 3), .ref (sd 4), .ref (sd 5), .ref (sd 6), .int 0, .int (-1), .int 0, .int 0, .int 0, .int 0]))] H := hP
  have hD : va_D A [(h0, .inr (6, [.ref (ad 0), .int 0, .ref (ad 2), .ref (ad 3), .ref (ad 4), .ref (ad 5), .ref (ad 6), .int 0, .int 0, .ref (ad 9), .ref (ad 10), .ref (ad 11), .ref (ad 12), .ref (ad 13), .int 0, .ref (ad 15), .int 0, .ref (ad 17), .ref (ad 18), .int 0])), (ad 9, .inr (5, [.ref (sd 0), .ref (sd 1), .ref (sd 2), .ref (sd 3), .ref (sd 4), .ref (sd 5), .ref (sd 6), .int 0, .int (-1), .int 0, .int 0, .int 0, .int 0]))] := hD
  refine tp_c (w := 0) qu947 ?_
  refine lv_istore_n (lv' := [(2, .int 0), (0, .ref h0), (1, .int x1)]) hx hb dX6_drops_7 rfl hl (by decide) rfl (fun ls hl => ?_)
  refine lv_iload_n hx hb dX6_drops_8 rfl (lv_at hl 2 rfl) ?_
  refine lv_iload_n hx hb dX6_drops_9 rfl (lv_at hl 0 rfl) ?_
  refine lv_iconst (v := (-1)) hx hb dX6_drops_10 (by decide) ?_
  refine lv_ixor hx hb dX6_drops_11 ?_
  refine tp_c (w := (-1)) (by decide) ?_
  refine lv_iand hx hb dX6_drops_12 ?_
  refine tp_c (w := x1) (and_m1 x1) ?_
  refine lv_if_ne (tgt := 21) hx hb dX6_drops_13 (by decide) (fun c948 => ?_) (fun c948 => ?_)
  · have c948 := i_ne (a := x1.toInt) (b := 0) c948 rfl (by decide)
    refine lv_iconst (v := (-1)) hx hb dX6_drops_21 (by decide) ?_
    exact W.iret (v := (-1)) hx hb hr (fun t ht hW => ⟨⟨(-1), (), rfl, rfl, cE.nil⟩, hS.F ht⟩) hS.2.2 dX6_drops_22
  · have c948 := i_eq (a := x1.toInt) (b := 0) c948 rfl (by decide)
    refine lv_iload_n hx hb dX6_drops_16 rfl (lv_at hl 2 rfl) ?_
    refine lv_iload_n hx hb dX6_drops_17 rfl (lv_at hl 0 rfl) ?_
    refine lv_icmp_ne (tgt := 23) hx hb dX6_drops_18 (by decide) (fun c949 => ?_) (fun c949 => ?_)
    · have c949 := i_ne (a := x1.toInt) (b := 0) c949 rfl (by decide)
      exfalso; omega
    · have c949 := i_eq (a := x1.toInt) (b := 0) c949 rfl (by decide)
      refine lv_iconst (v := (-1)) hx hb dX6_drops_21 (by decide) ?_
      exact W.iret (v := (-1)) hx hb hr (fun t ht hW => ⟨⟨(-1), (), rfl, rfl, cE.nil⟩, hS.F ht⟩) hS.2.2 dX6_drops_22
def wo_c_C_worst : List Cond := [.fieldLink RX6 110 "ReplicaChain" "now" "LReplicaChain$State;", .fieldLink RX6 157 "ReplicaChain$State" "size" "I"]
def wq_c_C_worst : List Cond := .code yX6_worst cX6_worst 7 (some .int) :: (wo_c_C_worst ++ (wsX50 ++ (wsX60 ++ [])))
theorem gd_c_C_worst : Gd wq_c_C_worst := gd_c (gd_a (gd_o (by decide +kernel)) (gd_a gd_u (gd_a gd_u gd_0)))
abbrev wc_c_C_worst (cyB cyI cyJ cyZ cyO : ClassId) (h0 : Nat) (ad : Nat → Nat) (sd : Nat → Nat) (x1 : Int32) (x2 : Int32) : va_W := [(h0, .inr (6, [.ref (ad 0), .int 0, .ref (ad 2), .ref (ad 3), .ref (ad 4), .ref (ad 5), .ref (ad 6), .int 0, .int 0, .ref (ad 9), .ref (ad 10), .ref (ad 11), .ref (ad 12), .ref (ad 13), .int 0, .ref (ad 15), .int 0, .ref (ad 17), .ref (ad 18), .int 0])), (ad 9, .inr (5, [.ref (sd 0), .ref (sd 1), .ref (sd 2), .ref (sd 3), .ref (sd 4), .ref (sd 5), .ref (sd 6), .int 0, .int (-1), .int 0, .int 0, .int 0, .int 0]))]
set_option maxHeartbeats 4000000 in
set_option maxRecDepth 100000 in
theorem c_C_worst (l : Launch) (dC : Nat → ClassId) (dI : Nat → Nat → Nat) (cyB cyI cyJ cyZ cyO : ClassId) (h0 : Nat) (ad : Nat → Nat) (sd : Nat → Nat) (x1 : Int32) (x2 : Int32) (sz : Nat) : Met l yX6_worst wq_c_C_worst ({ frames := 0, cells := 0, slots := 0, locals := 0 }) (va_Pc [.ref h0, .int x1, .int x2] (cB (dC, dI) (kT cyB cyI cyJ cyZ cyO) (wc_c_C_worst cyB cyI cyJ cyZ cyO h0 ad sd x1 x2) sz)) (va_Qi (fun (r : Int32) (_ : Unit) => r = -1) (fun (u : Unit) t => cE (dC, dI) (va_A (wc_c_C_worst cyB cyI cyJ cyZ cyO h0 ad sd x1 x2) sz) ([]) t.heap) (va_A (wc_c_C_worst cyB cyI cyJ cyZ cyO h0 ad sd x1 x2) sz)) 0 0 (va_A (wc_c_C_worst cyB cyI cyJ cyZ cyO h0 ad sd x1 x2) sz) := by
  refine Met.ofW (cc := cX6_worst) (maxL := 7) (ret := (some .int)) (by decide) rfl ?_
  intro p e s m args below meth c s₁ B hml hv
  obtain ⟨rfl, hsz, hP, hKN, hD0⟩ := hv
  have hx := B.exec
  have hb := B.bytes
  have hr := B.returns
  have hts := atoms_spec (ws := wq_c_C_worst) B.pre
  have hown : s.vm.findClass RX6 = some m.cls := findClass_of_methodNamed B.named
  have hlocks := B.notSynchronized
  have hK := hKN.1
  have hfix : CallFix p m c cX6_worst 7 s [.ref h0, .int x1, .int x2].toArray wq_c_C_worst RX6 := ⟨hx, hb, hml, hown, hts⟩
  have hi5 : ∀ w ∈ wsX50, w ∈ wq_c_C_worst := (sb_c sb_l)
  have hi6 : ∀ w ∈ wsX60, w ∈ wq_c_C_worst := (sb_c (sb_r sb_l))
  subst hsz
  have hD := hD0.self (sz := s.heap.size)
  generalize hAe : va_A (wc_c_C_worst cyB cyI cyJ cyZ cyO h0 ad sd x1 x2) s.heap.size = A at hD ⊢
  have hA : ∀ q : Nat, s.heap.size ≤ q → A q := fun q h => by rw [← hAe]; exact Or.inr h
  have hS : va_S A s.heap s.heap [] := va_S.rf
  have hl := lv_entry ([.ref h0, .int x1, .int x2]) (n := 7) (Nat.le_of_ble_eq_true rfl)
  rw [lg_entry_eq]
  generalize (lg_sl ([.ref h0, .int x1, .int x2]) ++ List.replicate (7 - (lg_sl ([.ref h0, .int x1, .int x2])).length) Slot.unset).toArray = ls at hl ⊢
  have hl : lv_has ls 7 [(0, .ref h0), (1, .int x1), (2, .int x2)] := hl
  refine lv_iload_n hx hb dX6_worst_0 rfl (lv_at hl 1 rfl) ?_
  refine lv_iconst (v := 1) hx hb dX6_worst_1 (by decide) ?_
  refine lv_icmp_lt (tgt := 30) hx hb dX6_worst_2 (by decide) (fun c953 => ?_) (fun c953 => ?_)
  · have c953 := i_lt (a := x1.toInt) (b := 1) c953 rfl (by decide)
    refine lv_iconst (v := (-1)) hx hb dX6_worst_30 (by decide) ?_
    exact W.iret (v := (-1)) hx hb hr (fun t ht hW => ⟨⟨(-1), (), rfl, rfl, cE.nil⟩, hS.F ht⟩) hS.2.2 dX6_worst_31
  · have c953 := i_nlt (a := x1.toInt) (b := 1) c953 rfl (by decide)
    refine lv_iload_n hx hb dX6_worst_5 rfl (lv_at hl 1 rfl) ?_
    refine lv_iconst (v := 5) hx hb dX6_worst_6 (by decide) ?_
    refine lv_icmp_gt (tgt := 30) hx hb dX6_worst_7 (by decide) (fun c954 => ?_) (fun c954 => ?_)
    · have c954 := i_lt (a := 5) (b := x1.toInt) c954 (by decide) rfl
      refine lv_iconst (v := (-1)) hx hb dX6_worst_30 (by decide) ?_
      exact W.iret (v := (-1)) hx hb hr (fun t ht hW => ⟨⟨(-1), (), rfl, rfl, cE.nil⟩, hS.F ht⟩) hS.2.2 dX6_worst_31
    · have c954 := i_nlt (a := 5) (b := x1.toInt) c954 (by decide) rfl
      refine lv_iload_n hx hb dX6_worst_10 rfl (lv_at hl 1 rfl) ?_
      refine lv_aload_n hx hb dX6_worst_11 rfl (lv_at hl 0 rfl) ?_
      refine va_get (D := (dC, dI)) (ci := 6) (v := .ref (ad 9)) (C := RX6) (T := TX6) (N := 20) hx hb hts hi6 hown hK hP 0 rfl rfl 9 (by decide) (hts _ (ow_m (k := 0) rfl)) (fun _ h9 => h9) rfl dX6_worst_12 ?_
      refine va_get (D := (dC, dI)) (ci := 5) (v := .int 0) (C := RX5) (T := TX5) (N := 13) hx hb hts hi5 hown hK hP 1 rfl rfl 7 (by decide) (hts _ (ow_m (k := 1) rfl)) (fun _ h9 => h9) rfl dX6_worst_15 ?_
      refine lv_icmp_ge (tgt := 30) hx hb dX6_worst_18 (by decide) (fun c955 => ?_) (fun c955 => ?_)
      · have c955 := i_le (a := 0) (b := x1.toInt) c955 (by decide) rfl
        refine lv_iconst (v := (-1)) hx hb dX6_worst_30 (by decide) ?_
        exact W.iret (v := (-1)) hx hb hr (fun t ht hW => ⟨⟨(-1), (), rfl, rfl, cE.nil⟩, hS.F ht⟩) hS.2.2 dX6_worst_31
      · have c955 := i_nle (a := 0) (b := x1.toInt) c955 (by decide) rfl
        exfalso; omega
def wo_c_C_safe : List Cond := [.fieldLink RX6 110 "ReplicaChain" "now" "LReplicaChain$State;", .fieldLink RX6 157 "ReplicaChain$State" "size" "I"]
def wq_c_C_safe : List Cond := .code yX6_safe cX6_safe 3 (some .int) :: (wo_c_C_safe ++ (wsX50 ++ (wsX60 ++ [])))
theorem gd_c_C_safe : Gd wq_c_C_safe := gd_c (gd_a (gd_o (by decide +kernel)) (gd_a gd_u (gd_a gd_u gd_0)))
abbrev wc_c_C_safe (cyB cyI cyJ cyZ cyO : ClassId) (h0 : Nat) (ad : Nat → Nat) (sd : Nat → Nat) : va_W := [(h0, .inr (6, [.ref (ad 0), .int 0, .ref (ad 2), .ref (ad 3), .ref (ad 4), .ref (ad 5), .ref (ad 6), .int 0, .int 0, .ref (ad 9), .ref (ad 10), .ref (ad 11), .ref (ad 12), .ref (ad 13), .int 0, .ref (ad 15), .int 0, .ref (ad 17), .ref (ad 18), .int 0])), (ad 9, .inr (5, [.ref (sd 0), .ref (sd 1), .ref (sd 2), .ref (sd 3), .ref (sd 4), .ref (sd 5), .ref (sd 6), .int 0, .int (-1), .int 0, .int 0, .int 0, .int 0]))]
set_option maxHeartbeats 4000000 in
set_option maxRecDepth 100000 in
theorem c_C_safe (l : Launch) (dC : Nat → ClassId) (dI : Nat → Nat → Nat) (cyB cyI cyJ cyZ cyO : ClassId) (h0 : Nat) (ad : Nat → Nat) (sd : Nat → Nat) (sz : Nat) : Met l yX6_safe wq_c_C_safe ({ frames := 0, cells := 0, slots := 0, locals := 0 }) (va_Pc [.ref h0] (cB (dC, dI) (kT cyB cyI cyJ cyZ cyO) (wc_c_C_safe cyB cyI cyJ cyZ cyO h0 ad sd) sz)) (va_Qi (fun (r : Int32) (_ : Unit) => r = -1) (fun (u : Unit) t => cE (dC, dI) (va_A (wc_c_C_safe cyB cyI cyJ cyZ cyO h0 ad sd) sz) ([]) t.heap) (va_A (wc_c_C_safe cyB cyI cyJ cyZ cyO h0 ad sd) sz)) 0 0 (va_A (wc_c_C_safe cyB cyI cyJ cyZ cyO h0 ad sd) sz) := by
  refine Met.ofW (cc := cX6_safe) (maxL := 3) (ret := (some .int)) (by decide) rfl ?_
  intro p e s m args below meth c s₁ B hml hv
  obtain ⟨rfl, hsz, hP, hKN, hD0⟩ := hv
  have hx := B.exec
  have hb := B.bytes
  have hr := B.returns
  have hts := atoms_spec (ws := wq_c_C_safe) B.pre
  have hown : s.vm.findClass RX6 = some m.cls := findClass_of_methodNamed B.named
  have hlocks := B.notSynchronized
  have hK := hKN.1
  have hfix : CallFix p m c cX6_safe 3 s [.ref h0].toArray wq_c_C_safe RX6 := ⟨hx, hb, hml, hown, hts⟩
  have hi5 : ∀ w ∈ wsX50, w ∈ wq_c_C_safe := (sb_c sb_l)
  have hi6 : ∀ w ∈ wsX60, w ∈ wq_c_C_safe := (sb_c (sb_r sb_l))
  subst hsz
  have hD := hD0.self (sz := s.heap.size)
  generalize hAe : va_A (wc_c_C_safe cyB cyI cyJ cyZ cyO h0 ad sd) s.heap.size = A at hD ⊢
  have hA : ∀ q : Nat, s.heap.size ≤ q → A q := fun q h => by rw [← hAe]; exact Or.inr h
  have hS : va_S A s.heap s.heap [] := va_S.rf
  have hl := lv_entry ([.ref h0]) (n := 3) (Nat.le_of_ble_eq_true rfl)
  rw [lg_entry_eq]
  generalize (lg_sl ([.ref h0]) ++ List.replicate (3 - (lg_sl ([.ref h0])).length) Slot.unset).toArray = ls at hl ⊢
  have hl : lv_has ls 3 [(0, .ref h0)] := hl
  refine lv_iconst (v := (-1)) hx hb dX6_safe_0 (by decide) ?_
  refine lv_istore_n (lv' := [(1, .int (-1)), (0, .ref h0)]) hx hb dX6_safe_1 rfl hl (by decide) rfl (fun ls hl => ?_)
  refine lv_iconst (v := 0) hx hb dX6_safe_2 (by decide) ?_
  refine lv_istore_n (lv' := [(2, .int 0), (1, .int (-1)), (0, .ref h0)]) hx hb dX6_safe_3 rfl hl (by decide) rfl (fun ls hl => ?_)
  refine lv_iload_n hx hb dX6_safe_4 rfl (lv_at hl 0 rfl) ?_
  refine lv_aload_n hx hb dX6_safe_5 rfl (lv_at hl 2 rfl) ?_
  refine va_get (D := (dC, dI)) (ci := 6) (v := .ref (ad 9)) (C := RX6) (T := TX6) (N := 20) hx hb hts hi6 hown hK hP 0 rfl rfl 9 (by decide) (hts _ (ow_m (k := 0) rfl)) (fun _ h9 => h9) rfl dX6_safe_6 ?_
  refine va_get (D := (dC, dI)) (ci := 5) (v := .int 0) (C := RX5) (T := TX5) (N := 13) hx hb hts hi5 hown hK hP 1 rfl rfl 7 (by decide) (hts _ (ow_m (k := 1) rfl)) (fun _ h9 => h9) rfl dX6_safe_9 ?_
  refine lv_icmp_ge (tgt := 50) hx hb dX6_safe_12 (by decide) (fun _ => ?_) (fun c957 => absurd (by decide) c957)
  refine lv_iload_n hx hb dX6_safe_50 rfl (lv_at hl 1 rfl) ?_
  exact W.iret (v := (-1)) hx hb hr (fun t ht hW => ⟨⟨(-1), (), rfl, rfl, cE.nil⟩, hS.F ht⟩) hS.2.2 dX6_safe_51
def wo_c_C_answered : List Cond := [.fieldLink RX6 110 "ReplicaChain" "now" "LReplicaChain$State;", .fieldLink RX6 157 "ReplicaChain$State" "size" "I"]
def wq_c_C_answered : List Cond := .code yX6_answered cX6_answered 1 (some .int) :: (wo_c_C_answered ++ (wsX50 ++ (wsX60 ++ [])))
theorem gd_c_C_answered : Gd wq_c_C_answered := gd_c (gd_a (gd_o (by decide +kernel)) (gd_a gd_u (gd_a gd_u gd_0)))
abbrev wc_c_C_answered (cyB cyI cyJ cyZ cyO : ClassId) (h0 : Nat) (ad : Nat → Nat) (sd : Nat → Nat) : va_W := [(h0, .inr (6, [.ref (ad 0), .int 0, .ref (ad 2), .ref (ad 3), .ref (ad 4), .ref (ad 5), .ref (ad 6), .int 0, .int 0, .ref (ad 9), .ref (ad 10), .ref (ad 11), .ref (ad 12), .ref (ad 13), .int 0, .ref (ad 15), .int 0, .ref (ad 17), .ref (ad 18), .int 0])), (ad 9, .inr (5, [.ref (sd 0), .ref (sd 1), .ref (sd 2), .ref (sd 3), .ref (sd 4), .ref (sd 5), .ref (sd 6), .int 0, .int (-1), .int 0, .int 0, .int 0, .int 0]))]
set_option maxHeartbeats 4000000 in
set_option maxRecDepth 100000 in
theorem c_C_answered (l : Launch) (dC : Nat → ClassId) (dI : Nat → Nat → Nat) (cyB cyI cyJ cyZ cyO : ClassId) (h0 : Nat) (ad : Nat → Nat) (sd : Nat → Nat) (sz : Nat) : Met l yX6_answered wq_c_C_answered ({ frames := 0, cells := 0, slots := 0, locals := 0 }) (va_Pc [.ref h0] (cB (dC, dI) (kT cyB cyI cyJ cyZ cyO) (wc_c_C_answered cyB cyI cyJ cyZ cyO h0 ad sd) sz)) (va_Qi (fun (r : Int32) (_ : Unit) => r = -1) (fun (u : Unit) t => cE (dC, dI) (va_A (wc_c_C_answered cyB cyI cyJ cyZ cyO h0 ad sd) sz) ([]) t.heap) (va_A (wc_c_C_answered cyB cyI cyJ cyZ cyO h0 ad sd) sz)) 0 0 (va_A (wc_c_C_answered cyB cyI cyJ cyZ cyO h0 ad sd) sz) := by
  refine Met.ofW (cc := cX6_answered) (maxL := 1) (ret := (some .int)) (by decide) rfl ?_
  intro p e s m args below meth c s₁ B hml hv
  obtain ⟨rfl, hsz, hP, hKN, hD0⟩ := hv
  have hx := B.exec
  have hb := B.bytes
  have hr := B.returns
  have hts := atoms_spec (ws := wq_c_C_answered) B.pre
  have hown : s.vm.findClass RX6 = some m.cls := findClass_of_methodNamed B.named
  have hlocks := B.notSynchronized
  have hK := hKN.1
  have hfix : CallFix p m c cX6_answered 1 s [.ref h0].toArray wq_c_C_answered RX6 := ⟨hx, hb, hml, hown, hts⟩
  have hi5 : ∀ w ∈ wsX50, w ∈ wq_c_C_answered := (sb_c sb_l)
  have hi6 : ∀ w ∈ wsX60, w ∈ wq_c_C_answered := (sb_c (sb_r sb_l))
  subst hsz
  have hD := hD0.self (sz := s.heap.size)
  generalize hAe : va_A (wc_c_C_answered cyB cyI cyJ cyZ cyO h0 ad sd) s.heap.size = A at hD ⊢
  have hA : ∀ q : Nat, s.heap.size ≤ q → A q := fun q h => by rw [← hAe]; exact Or.inr h
  have hS : va_S A s.heap s.heap [] := va_S.rf
  have hl := lv_entry ([.ref h0]) (n := 1) (Nat.le_of_ble_eq_true rfl)
  rw [lg_entry_eq]
  generalize (lg_sl ([.ref h0]) ++ List.replicate (1 - (lg_sl ([.ref h0])).length) Slot.unset).toArray = ls at hl ⊢
  have hl : lv_has ls 1 [(0, .ref h0)] := hl
  refine lv_aload_n hx hb dX6_answered_0 rfl (lv_at hl 0 rfl) ?_
  refine va_get (D := (dC, dI)) (ci := 6) (v := .ref (ad 9)) (C := RX6) (T := TX6) (N := 20) hx hb hts hi6 hown hK hP 0 rfl rfl 9 (by decide) (hts _ (ow_m (k := 0) rfl)) (fun _ h9 => h9) rfl dX6_answered_1 ?_
  refine va_get (D := (dC, dI)) (ci := 5) (v := .int 0) (C := RX5) (T := TX5) (N := 13) hx hb hts hi5 hown hK hP 1 rfl rfl 7 (by decide) (hts _ (ow_m (k := 1) rfl)) (fun _ h9 => h9) rfl dX6_answered_4 ?_
  refine lv_if_ne (tgt := 14) hx hb dX6_answered_7 (by decide) (fun c959 => absurd (by decide) c959) (fun _ => ?_)
  refine lv_iconst (v := (-1)) hx hb dX6_answered_10 (by decide) ?_
  refine lv_goto (tgt := 21) hx hb dX6_answered_11 (by decide) ?_
  exact W.iret (v := (-1)) hx hb hr (fun t ht hW => ⟨⟨(-1), (), rfl, rfl, cE.nil⟩, hS.F ht⟩) hS.2.2 dX6_answered_21
def wo_c_C_soonest : List Cond := [.fieldLink RX6 116 "ReplicaChain" "lyingCount" "I", .fieldLink RX6 110 "ReplicaChain" "now" "LReplicaChain$State;", .fieldLink RX6 157 "ReplicaChain$State" "size" "I"]
def wq_c_C_soonest : List Cond := .code yX6_soonest cX6_soonest 1 (some .int) :: (wo_c_C_soonest ++ (wsX50 ++ (wsX60 ++ [])))
theorem gd_c_C_soonest : Gd wq_c_C_soonest := gd_c (gd_a (gd_o (by decide +kernel)) (gd_a gd_u (gd_a gd_u gd_0)))
abbrev wc_c_C_soonest (cyB cyI cyJ cyZ cyO : ClassId) (h0 : Nat) (ad : Nat → Nat) (sd : Nat → Nat) : va_W := [(h0, .inr (6, [.ref (ad 0), .int 0, .ref (ad 2), .ref (ad 3), .ref (ad 4), .ref (ad 5), .ref (ad 6), .int 0, .int 0, .ref (ad 9), .ref (ad 10), .ref (ad 11), .ref (ad 12), .ref (ad 13), .int 0, .ref (ad 15), .int 0, .ref (ad 17), .ref (ad 18), .int 0])), (ad 9, .inr (5, [.ref (sd 0), .ref (sd 1), .ref (sd 2), .ref (sd 3), .ref (sd 4), .ref (sd 5), .ref (sd 6), .int 0, .int (-1), .int 0, .int 0, .int 0, .int 0]))]
set_option maxHeartbeats 4000000 in
set_option maxRecDepth 100000 in
theorem c_C_soonest (l : Launch) (dC : Nat → ClassId) (dI : Nat → Nat → Nat) (cyB cyI cyJ cyZ cyO : ClassId) (h0 : Nat) (ad : Nat → Nat) (sd : Nat → Nat) (sz : Nat) : Met l yX6_soonest wq_c_C_soonest ({ frames := 0, cells := 0, slots := 0, locals := 0 }) (va_Pc [.ref h0] (cB (dC, dI) (kT cyB cyI cyJ cyZ cyO) (wc_c_C_soonest cyB cyI cyJ cyZ cyO h0 ad sd) sz)) (va_Qi (fun (r : Int32) (_ : Unit) => r = -1) (fun (u : Unit) t => cE (dC, dI) (va_A (wc_c_C_soonest cyB cyI cyJ cyZ cyO h0 ad sd) sz) ([]) t.heap) (va_A (wc_c_C_soonest cyB cyI cyJ cyZ cyO h0 ad sd) sz)) 0 0 (va_A (wc_c_C_soonest cyB cyI cyJ cyZ cyO h0 ad sd) sz) := by
  refine Met.ofW (cc := cX6_soonest) (maxL := 1) (ret := (some .int)) (by decide) rfl ?_
  intro p e s m args below meth c s₁ B hml hv
  obtain ⟨rfl, hsz, hP, hKN, hD0⟩ := hv
  have hx := B.exec
  have hb := B.bytes
  have hr := B.returns
  have hts := atoms_spec (ws := wq_c_C_soonest) B.pre
  have hown : s.vm.findClass RX6 = some m.cls := findClass_of_methodNamed B.named
  have hlocks := B.notSynchronized
  have hK := hKN.1
  have hfix : CallFix p m c cX6_soonest 1 s [.ref h0].toArray wq_c_C_soonest RX6 := ⟨hx, hb, hml, hown, hts⟩
  have hi5 : ∀ w ∈ wsX50, w ∈ wq_c_C_soonest := (sb_c sb_l)
  have hi6 : ∀ w ∈ wsX60, w ∈ wq_c_C_soonest := (sb_c (sb_r sb_l))
  subst hsz
  have hD := hD0.self (sz := s.heap.size)
  generalize hAe : va_A (wc_c_C_soonest cyB cyI cyJ cyZ cyO h0 ad sd) s.heap.size = A at hD ⊢
  have hA : ∀ q : Nat, s.heap.size ≤ q → A q := fun q h => by rw [← hAe]; exact Or.inr h
  have hS : va_S A s.heap s.heap [] := va_S.rf
  have hl := lv_entry ([.ref h0]) (n := 1) (Nat.le_of_ble_eq_true rfl)
  rw [lg_entry_eq]
  generalize (lg_sl ([.ref h0]) ++ List.replicate (1 - (lg_sl ([.ref h0])).length) Slot.unset).toArray = ls at hl ⊢
  have hl : lv_has ls 1 [(0, .ref h0)] := hl
  refine lv_aload_n hx hb dX6_soonest_0 rfl (lv_at hl 0 rfl) ?_
  refine lv_iconst (v := 0) hx hb dX6_soonest_1 (by decide) ?_
  refine va_put (D := (dC, dI)) (ci := 6) (v := .int 0) (ty := .int) (C := RX6) (T := TX6) (N := 20) hx hb hts hi6 tyX6 tyX6_ok nmX6 hown hK hP hD hS 0 rfl rfl 14 (by decide) (hts _ (ow_m (k := 0) rfl)) (fun _ h9 => h9) rfl (by decide +kernel) rfl rfl (Nat.le_of_ble_eq_true rfl) dX6_soonest_2 (fun H locs hP hD hS => ?_)
  have hP : va_P (dC, dI) vwCl [(h0, .inr (6, [.ref (ad 0), .int 0, .ref (ad 2), .ref (ad 3), .ref (ad 4), .ref (ad 5), .ref (ad 6), .int 0, .int 0, .ref (ad 9), .ref (ad 10), .ref (ad 11), .ref (ad 12), .ref (ad 13), .int 0, .ref (ad 15), .int 0, .ref (ad 17), .ref (ad 18), .int 0])), (ad 9, .inr (5, [.ref (sd 0), .ref (sd 1), .ref (sd 2), .ref (sd 3), .ref (sd 4), .ref (sd 5), .ref (sd 6), .int 0, .int (-1), .int 0, .int 0, .int 0, .int 0]))] H := hP
  have hD : va_D A [(h0, .inr (6, [.ref (ad 0), .int 0, .ref (ad 2), .ref (ad 3), .ref (ad 4), .ref (ad 5), .ref (ad 6), .int 0, .int 0, .ref (ad 9), .ref (ad 10), .ref (ad 11), .ref (ad 12), .ref (ad 13), .int 0, .ref (ad 15), .int 0, .ref (ad 17), .ref (ad 18), .int 0])), (ad 9, .inr (5, [.ref (sd 0), .ref (sd 1), .ref (sd 2), .ref (sd 3), .ref (sd 4), .ref (sd 5), .ref (sd 6), .int 0, .int (-1), .int 0, .int 0, .int 0, .int 0]))] := hD
  refine lv_aload_n hx hb dX6_soonest_5 rfl (lv_at hl 0 rfl) ?_
  refine va_get (D := (dC, dI)) (ci := 6) (v := .ref (ad 9)) (C := RX6) (T := TX6) (N := 20) hx hb hts hi6 hown hK hP 0 rfl rfl 9 (by decide) (hts _ (ow_m (k := 1) rfl)) (fun _ h9 => h9) rfl dX6_soonest_6 ?_
  refine va_get (D := (dC, dI)) (ci := 5) (v := .int 0) (C := RX5) (T := TX5) (N := 13) hx hb hts hi5 hown hK hP 1 rfl rfl 7 (by decide) (hts _ (ow_m (k := 2) rfl)) (fun _ h9 => h9) rfl dX6_soonest_9 ?_
  refine lv_if_ne (tgt := 17) hx hb dX6_soonest_12 (by decide) (fun c961 => absurd (by decide) c961) (fun _ => ?_)
  refine lv_iconst (v := (-1)) hx hb dX6_soonest_15 (by decide) ?_
  exact W.iret (v := (-1)) hx hb hr (fun t ht hW => ⟨⟨(-1), (), rfl, rfl, cE.nil⟩, hS.F ht⟩) hS.2.2 dX6_soonest_16
def wo_c_C_weed : List Cond := [.fieldLink RX6 110 "ReplicaChain" "now" "LReplicaChain$State;", .fieldLink RX6 157 "ReplicaChain$State" "size" "I"]
def wq_c_C_weed : List Cond := .code yX6_weed cX6_weed 7 (some .int) :: (wo_c_C_weed ++ (wsX50 ++ (wsX60 ++ [])))
theorem gd_c_C_weed : Gd wq_c_C_weed := gd_c (gd_a (gd_o (by decide +kernel)) (gd_a gd_u (gd_a gd_u gd_0)))
abbrev wc_c_C_weed (cyB cyI cyJ cyZ cyO : ClassId) (h0 : Nat) (ad : Nat → Nat) (sd : Nat → Nat) (x1 : Int32) : va_W := [(h0, .inr (6, [.ref (ad 0), .int 0, .ref (ad 2), .ref (ad 3), .ref (ad 4), .ref (ad 5), .ref (ad 6), .int 0, .int 0, .ref (ad 9), .ref (ad 10), .ref (ad 11), .ref (ad 12), .ref (ad 13), .int 0, .ref (ad 15), .int 0, .ref (ad 17), .ref (ad 18), .int 0])), (ad 9, .inr (5, [.ref (sd 0), .ref (sd 1), .ref (sd 2), .ref (sd 3), .ref (sd 4), .ref (sd 5), .ref (sd 6), .int 0, .int (-1), .int 0, .int 0, .int 0, .int 0]))]
set_option maxHeartbeats 4000000 in
set_option maxRecDepth 100000 in
theorem c_C_weed (l : Launch) (dC : Nat → ClassId) (dI : Nat → Nat → Nat) (cyB cyI cyJ cyZ cyO : ClassId) (h0 : Nat) (ad : Nat → Nat) (sd : Nat → Nat) (x1 : Int32) (sz : Nat) : Met l yX6_weed wq_c_C_weed ({ frames := 0, cells := 0, slots := 0, locals := 0 }) (va_Pc [.ref h0, .int x1] (cB (dC, dI) (kT cyB cyI cyJ cyZ cyO) (wc_c_C_weed cyB cyI cyJ cyZ cyO h0 ad sd x1) sz)) (va_Qi (fun (r : Int32) (_ : Unit) => r = -1) (fun (u : Unit) t => cE (dC, dI) (va_A (wc_c_C_weed cyB cyI cyJ cyZ cyO h0 ad sd x1) sz) ([]) t.heap) (va_A (wc_c_C_weed cyB cyI cyJ cyZ cyO h0 ad sd x1) sz)) 0 0 (va_A (wc_c_C_weed cyB cyI cyJ cyZ cyO h0 ad sd x1) sz) := by
  refine Met.ofW (cc := cX6_weed) (maxL := 7) (ret := (some .int)) (by decide) rfl ?_
  intro p e s m args below meth c s₁ B hml hv
  obtain ⟨rfl, hsz, hP, hKN, hD0⟩ := hv
  have hx := B.exec
  have hb := B.bytes
  have hr := B.returns
  have hts := atoms_spec (ws := wq_c_C_weed) B.pre
  have hown : s.vm.findClass RX6 = some m.cls := findClass_of_methodNamed B.named
  have hlocks := B.notSynchronized
  have hK := hKN.1
  have hfix : CallFix p m c cX6_weed 7 s [.ref h0, .int x1].toArray wq_c_C_weed RX6 := ⟨hx, hb, hml, hown, hts⟩
  have hi5 : ∀ w ∈ wsX50, w ∈ wq_c_C_weed := (sb_c sb_l)
  have hi6 : ∀ w ∈ wsX60, w ∈ wq_c_C_weed := (sb_c (sb_r sb_l))
  subst hsz
  have hD := hD0.self (sz := s.heap.size)
  generalize hAe : va_A (wc_c_C_weed cyB cyI cyJ cyZ cyO h0 ad sd x1) s.heap.size = A at hD ⊢
  have hA : ∀ q : Nat, s.heap.size ≤ q → A q := fun q h => by rw [← hAe]; exact Or.inr h
  have hS : va_S A s.heap s.heap [] := va_S.rf
  have hl := lv_entry ([.ref h0, .int x1]) (n := 7) (Nat.le_of_ble_eq_true rfl)
  rw [lg_entry_eq]
  generalize (lg_sl ([.ref h0, .int x1]) ++ List.replicate (7 - (lg_sl ([.ref h0, .int x1])).length) Slot.unset).toArray = ls at hl ⊢
  have hl : lv_has ls 7 [(0, .ref h0), (1, .int x1)] := hl
  refine lv_iload_n hx hb dX6_weed_0 rfl (lv_at hl 1 rfl) ?_
  refine lv_if_lt (tgt := 20) hx hb dX6_weed_1 (by decide) (fun c965 => ?_) (fun c965 => ?_)
  · have c965 := i_lt (a := x1.toInt) (b := 0) c965 rfl (by decide)
    refine lv_iconst (v := (-1)) hx hb dX6_weed_20 (by decide) ?_
    exact W.iret (v := (-1)) hx hb hr (fun t ht hW => ⟨⟨(-1), (), rfl, rfl, cE.nil⟩, hS.F ht⟩) hS.2.2 dX6_weed_21
  · have c965 := i_nlt (a := x1.toInt) (b := 0) c965 rfl (by decide)
    refine lv_iload_n hx hb dX6_weed_4 rfl (lv_at hl 1 rfl) ?_
    refine lv_iconst (v := 1) hx hb dX6_weed_5 (by decide) ?_
    refine lv_icmp_gt (tgt := 20) hx hb dX6_weed_6 (by decide) (fun c966 => ?_) (fun c966 => ?_)
    · have c966 := i_lt (a := 1) (b := x1.toInt) c966 (by decide) rfl
      refine lv_iconst (v := (-1)) hx hb dX6_weed_20 (by decide) ?_
      exact W.iret (v := (-1)) hx hb hr (fun t ht hW => ⟨⟨(-1), (), rfl, rfl, cE.nil⟩, hS.F ht⟩) hS.2.2 dX6_weed_21
    · have c966 := i_nlt (a := 1) (b := x1.toInt) c966 (by decide) rfl
      refine lv_aload_n hx hb dX6_weed_9 rfl (lv_at hl 0 rfl) ?_
      refine va_get (D := (dC, dI)) (ci := 6) (v := .ref (ad 9)) (C := RX6) (T := TX6) (N := 20) hx hb hts hi6 hown hK hP 0 rfl rfl 9 (by decide) (hts _ (ow_m (k := 0) rfl)) (fun _ h9 => h9) rfl dX6_weed_10 ?_
      refine va_get (D := (dC, dI)) (ci := 5) (v := .int 0) (C := RX5) (T := TX5) (N := 13) hx hb hts hi5 hown hK hP 1 rfl rfl 7 (by decide) (hts _ (ow_m (k := 1) rfl)) (fun _ h9 => h9) rfl dX6_weed_13 ?_
      refine lv_iconst (v := 2) hx hb dX6_weed_16 (by decide) ?_
      refine lv_icmp_ge (tgt := 22) hx hb dX6_weed_17 (by decide) (fun c967 => absurd c967 (by decide)) (fun _ => ?_)
      refine lv_iconst (v := (-1)) hx hb dX6_weed_20 (by decide) ?_
      exact W.iret (v := (-1)) hx hb hr (fun t ht hW => ⟨⟨(-1), (), rfl, rfl, cE.nil⟩, hS.F ht⟩) hS.2.2 dX6_weed_21
def wo_c_C_fullest : List Cond := [.fieldLink RX6 110 "ReplicaChain" "now" "LReplicaChain$State;", .fieldLink RX6 157 "ReplicaChain$State" "size" "I"]
def wq_c_C_fullest : List Cond := .code yX6_fullest cX6_fullest 5 (some .int) :: (wo_c_C_fullest ++ (wsX50 ++ (wsX60 ++ [])))
theorem gd_c_C_fullest : Gd wq_c_C_fullest := gd_c (gd_a (gd_o (by decide +kernel)) (gd_a gd_u (gd_a gd_u gd_0)))
abbrev wc_c_C_fullest (cyB cyI cyJ cyZ cyO : ClassId) (h0 : Nat) (ad : Nat → Nat) (sd : Nat → Nat) : va_W := [(h0, .inr (6, [.ref (ad 0), .int 0, .ref (ad 2), .ref (ad 3), .ref (ad 4), .ref (ad 5), .ref (ad 6), .int 0, .int 0, .ref (ad 9), .ref (ad 10), .ref (ad 11), .ref (ad 12), .ref (ad 13), .int 0, .ref (ad 15), .int 0, .ref (ad 17), .ref (ad 18), .int 0])), (ad 9, .inr (5, [.ref (sd 0), .ref (sd 1), .ref (sd 2), .ref (sd 3), .ref (sd 4), .ref (sd 5), .ref (sd 6), .int 0, .int (-1), .int 0, .int 0, .int 0, .int 0]))]
set_option maxHeartbeats 4000000 in
set_option maxRecDepth 100000 in
theorem c_C_fullest (l : Launch) (dC : Nat → ClassId) (dI : Nat → Nat → Nat) (cyB cyI cyJ cyZ cyO : ClassId) (h0 : Nat) (ad : Nat → Nat) (sd : Nat → Nat) (sz : Nat) : Met l yX6_fullest wq_c_C_fullest ({ frames := 0, cells := 0, slots := 0, locals := 0 }) (va_Pc [.ref h0] (cB (dC, dI) (kT cyB cyI cyJ cyZ cyO) (wc_c_C_fullest cyB cyI cyJ cyZ cyO h0 ad sd) sz)) (va_Qi (fun (r : Int32) (_ : Unit) => r = -1) (fun (u : Unit) t => cE (dC, dI) (va_A (wc_c_C_fullest cyB cyI cyJ cyZ cyO h0 ad sd) sz) ([]) t.heap) (va_A (wc_c_C_fullest cyB cyI cyJ cyZ cyO h0 ad sd) sz)) 0 0 (va_A (wc_c_C_fullest cyB cyI cyJ cyZ cyO h0 ad sd) sz) := by
  refine Met.ofW (cc := cX6_fullest) (maxL := 5) (ret := (some .int)) (by decide) rfl ?_
  intro p e s m args below meth c s₁ B hml hv
  obtain ⟨rfl, hsz, hP, hKN, hD0⟩ := hv
  have hx := B.exec
  have hb := B.bytes
  have hr := B.returns
  have hts := atoms_spec (ws := wq_c_C_fullest) B.pre
  have hown : s.vm.findClass RX6 = some m.cls := findClass_of_methodNamed B.named
  have hlocks := B.notSynchronized
  have hK := hKN.1
  have hfix : CallFix p m c cX6_fullest 5 s [.ref h0].toArray wq_c_C_fullest RX6 := ⟨hx, hb, hml, hown, hts⟩
  have hi5 : ∀ w ∈ wsX50, w ∈ wq_c_C_fullest := (sb_c sb_l)
  have hi6 : ∀ w ∈ wsX60, w ∈ wq_c_C_fullest := (sb_c (sb_r sb_l))
  subst hsz
  have hD := hD0.self (sz := s.heap.size)
  generalize hAe : va_A (wc_c_C_fullest cyB cyI cyJ cyZ cyO h0 ad sd) s.heap.size = A at hD ⊢
  have hA : ∀ q : Nat, s.heap.size ≤ q → A q := fun q h => by rw [← hAe]; exact Or.inr h
  have hS : va_S A s.heap s.heap [] := va_S.rf
  have hl := lv_entry ([.ref h0]) (n := 5) (Nat.le_of_ble_eq_true rfl)
  rw [lg_entry_eq]
  generalize (lg_sl ([.ref h0]) ++ List.replicate (5 - (lg_sl ([.ref h0])).length) Slot.unset).toArray = ls at hl ⊢
  have hl : lv_has ls 5 [(0, .ref h0)] := hl
  refine lv_iconst (v := (-1)) hx hb dX6_fullest_0 (by decide) ?_
  refine lv_istore_n (lv' := [(1, .int (-1)), (0, .ref h0)]) hx hb dX6_fullest_1 rfl hl (by decide) rfl (fun ls hl => ?_)
  refine lv_iconst (v := (-1)) hx hb dX6_fullest_2 (by decide) ?_
  refine lv_istore_n (lv' := [(2, .int (-1)), (1, .int (-1)), (0, .ref h0)]) hx hb dX6_fullest_3 rfl hl (by decide) rfl (fun ls hl => ?_)
  refine lv_iconst (v := 0) hx hb dX6_fullest_4 (by decide) ?_
  refine lv_istore_n (lv' := [(3, .int 0), (2, .int (-1)), (1, .int (-1)), (0, .ref h0)]) hx hb dX6_fullest_5 rfl hl (by decide) rfl (fun ls hl => ?_)
  refine lv_iload_n hx hb dX6_fullest_6 rfl (lv_at hl 0 rfl) ?_
  refine lv_aload_n hx hb dX6_fullest_7 rfl (lv_at hl 3 rfl) ?_
  refine va_get (D := (dC, dI)) (ci := 6) (v := .ref (ad 9)) (C := RX6) (T := TX6) (N := 20) hx hb hts hi6 hown hK hP 0 rfl rfl 9 (by decide) (hts _ (ow_m (k := 0) rfl)) (fun _ h9 => h9) rfl dX6_fullest_8 ?_
  refine va_get (D := (dC, dI)) (ci := 5) (v := .int 0) (C := RX5) (T := TX5) (N := 13) hx hb hts hi5 hown hK hP 1 rfl rfl 7 (by decide) (hts _ (ow_m (k := 1) rfl)) (fun _ h9 => h9) rfl dX6_fullest_11 ?_
  refine lv_iconst (v := 1) hx hb dX6_fullest_14 (by decide) ?_
  refine lv_isub hx hb dX6_fullest_15 ?_
  refine tp_c (w := (-1)) (by decide) ?_
  refine lv_icmp_ge (tgt := 57) hx hb dX6_fullest_16 (by decide) (fun _ => ?_) (fun c969 => absurd (by decide) c969)
  refine lv_iload_n hx hb dX6_fullest_57 rfl (lv_at hl 2 rfl) ?_
  exact W.iret (v := (-1)) hx hb hr (fun t ht hW => ⟨⟨(-1), (), rfl, rfl, cE.nil⟩, hS.F ht⟩) hS.2.2 dX6_fullest_58
def wo_c_C_trip : List Cond := [.methodLink RX6 211 yX6_canGive, .instanceMethod yX6_canGive, .selects RX6 yX6_canGive yX6_canGive, .initialized RX6]
def wq_c_C_trip : List Cond := .code yX6_trip cX6_trip 2 (some .int) :: (wo_c_C_trip ++ (wq_k_X6_canGive ++ []))
theorem gd_c_C_trip : Gd wq_c_C_trip := gd_c (gd_a (gd_o (by decide +kernel)) (gd_a gd_k_X6_canGive gd_0))
abbrev wc_c_C_trip (cyB cyI cyJ cyZ cyO : ClassId) (h0 : Nat) (ad : Nat → Nat) (sd : Nat → Nat) : va_W := [(h0, .inr (6, [.ref (ad 0), .int 0, .ref (ad 2), .ref (ad 3), .ref (ad 4), .ref (ad 5), .ref (ad 6), .int 0, .int 0, .ref (ad 9), .ref (ad 10), .ref (ad 11), .ref (ad 12), .ref (ad 13), .int 0, .ref (ad 15), .int 0, .ref (ad 17), .ref (ad 18), .int 0])), (ad 9, .inr (5, [.ref (sd 0), .ref (sd 1), .ref (sd 2), .ref (sd 3), .ref (sd 4), .ref (sd 5), .ref (sd 6), .int 0, .int (-1), .int 0, .int 0, .int 0, .int 0]))]
set_option maxHeartbeats 4000000 in
set_option maxRecDepth 100000 in
theorem c_C_trip (l : Launch) (dC : Nat → ClassId) (dI : Nat → Nat → Nat) (cyB cyI cyJ cyZ cyO : ClassId) (h0 : Nat) (ad : Nat → Nat) (sd : Nat → Nat) (sz : Nat) : Met l yX6_trip wq_c_C_trip ({ frames := 1, cells := 0, slots := 0, locals := 20 }) (va_Pc [.ref h0] (cB (dC, dI) (kT cyB cyI cyJ cyZ cyO) (wc_c_C_trip cyB cyI cyJ cyZ cyO h0 ad sd) sz)) (va_Qi (fun (r : Int32) (_ : Unit) => r = -1) (fun (u : Unit) t => cE (dC, dI) (va_A (wc_c_C_trip cyB cyI cyJ cyZ cyO h0 ad sd) sz) ([]) t.heap) (va_A (wc_c_C_trip cyB cyI cyJ cyZ cyO h0 ad sd) sz)) 0 0 (va_A (wc_c_C_trip cyB cyI cyJ cyZ cyO h0 ad sd) sz) := by
  refine Met.ofW (cc := cX6_trip) (maxL := 2) (ret := (some .int)) (by decide) rfl ?_
  intro p e s m args below meth c s₁ B hml hv
  obtain ⟨rfl, hsz, hP, hKN, hD0⟩ := hv
  have hx := B.exec
  have hb := B.bytes
  have hr := B.returns
  have hts := atoms_spec (ws := wq_c_C_trip) B.pre
  have hown : s.vm.findClass RX6 = some m.cls := findClass_of_methodNamed B.named
  have hlocks := B.notSynchronized
  have hK := hKN.1
  have hfix : CallFix p m c cX6_trip 2 s [.ref h0].toArray wq_c_C_trip RX6 := ⟨hx, hb, hml, hown, hts⟩
  subst hsz
  have hD := hD0.self (sz := s.heap.size)
  generalize hAe : va_A (wc_c_C_trip cyB cyI cyJ cyZ cyO h0 ad sd) s.heap.size = A at hD ⊢
  have hA : ∀ q : Nat, s.heap.size ≤ q → A q := fun q h => by rw [← hAe]; exact Or.inr h
  have hS : va_S A s.heap s.heap [] := va_S.rf
  have hl := lv_entry ([.ref h0]) (n := 2) (Nat.le_of_ble_eq_true rfl)
  rw [lg_entry_eq]
  generalize (lg_sl ([.ref h0]) ++ List.replicate (2 - (lg_sl ([.ref h0])).length) Slot.unset).toArray = ls at hl ⊢
  have hl : lv_has ls 2 [(0, .ref h0)] := hl
  refine lv_aload_n hx hb dX6_trip_0 rfl (lv_at hl 0 rfl) ?_
  refine gf_i (wr := []) (va_runV (As := []) (rest := []) hfix (k_X6_canGive l dC dI cyB cyI cyJ cyZ cyO h0 ad sd _) (cwV 0 hts (gi_V (ow_m (k := 0) rfl) (ow_m (k := 1) rfl) (ow_m (k := 2) rfl) (ow_m (k := 3) rfl) (sb_c sb_l) gd_k_X6_canGive) rfl rfl rfl (by decide +kernel) ⟨Nat.le_of_ble_eq_true rfl, Nat.le_of_ble_eq_true rfl⟩) (g_preV hKN hP hD [0, 1] rfl (by decide) 0 6 rfl rfl) rfl rfl hl.1 rfl (lv_room (Nat.le_of_ble_eq_true rfl)) dX6_trip_1 ⟨Nat.le_of_ble_eq_true rfl, Nat.le_of_ble_eq_true rfl⟩) hP hD hS hA [0, 1] [] rfl rfl (by decide) (by decide) (fun r975 u976 H locs qu976 hP hD hS => ?_)
  have hP : va_P (dC, dI) vwCl [(h0, .inr (6, [.ref (ad 0), .int 0, .ref (ad 2), .ref (ad 3), .ref (ad 4), .ref (ad 5), .ref (ad 6), .int 0, .int 0, .ref (ad 9), .ref (ad 10), .ref (ad 11), .ref (ad 12), .ref (ad 13), .int 0, .ref (ad 15), .int 0, .ref (ad 17), .ref (ad 18), .int 0])), (ad 9, .inr (5, [.ref (sd 0), .ref (sd 1), .ref (sd 2), .ref (sd 3), .ref (sd 4), .ref (sd 5), .ref (sd 6), .int 0, .int (-1), .int 0, .int 0, .int 0, .int 0]))] H := hP
  have hD : va_D A [(h0, .inr (6, [.ref (ad 0), .int 0, .ref (ad 2), .ref (ad 3), .ref (ad 4), .ref (ad 5), .ref (ad 6), .int 0, .int 0, .ref (ad 9), .ref (ad 10), .ref (ad 11), .ref (ad 12), .ref (ad 13), .int 0, .ref (ad 15), .int 0, .ref (ad 17), .ref (ad 18), .int 0])), (ad 9, .inr (5, [.ref (sd 0), .ref (sd 1), .ref (sd 2), .ref (sd 3), .ref (sd 4), .ref (sd 5), .ref (sd 6), .int 0, .int (-1), .int 0, .int 0, .int 0, .int 0]))] := hD
  refine tp_c (w := 0) qu976 ?_
  refine lv_if_ne (tgt := 9) hx hb dX6_trip_4 (by decide) (fun c977 => absurd (by decide) c977) (fun _ => ?_)
  refine lv_iconst (v := (-1)) hx hb dX6_trip_7 (by decide) ?_
  exact W.iret (v := (-1)) hx hb hr (fun t ht hW => ⟨⟨(-1), (), rfl, rfl, cE.nil⟩, hS.F ht⟩) hS.2.2 dX6_trip_8
def wo_c_C_without : List Cond := [.methodLink RX6 211 yX6_canGive, .instanceMethod yX6_canGive, .selects RX6 yX6_canGive yX6_canGive, .initialized RX6]
def wq_c_C_without : List Cond := .code yX6_without cX6_without 3 (some .int) :: (wo_c_C_without ++ (wq_k_X6_canGive ++ []))
theorem gd_c_C_without : Gd wq_c_C_without := gd_c (gd_a (gd_o (by decide +kernel)) (gd_a gd_k_X6_canGive gd_0))
abbrev wc_c_C_without (cyB cyI cyJ cyZ cyO : ClassId) (h0 : Nat) (ad : Nat → Nat) (sd : Nat → Nat) (x1 : Int32) : va_W := [(h0, .inr (6, [.ref (ad 0), .int 0, .ref (ad 2), .ref (ad 3), .ref (ad 4), .ref (ad 5), .ref (ad 6), .int 0, .int 0, .ref (ad 9), .ref (ad 10), .ref (ad 11), .ref (ad 12), .ref (ad 13), .int 0, .ref (ad 15), .int 0, .ref (ad 17), .ref (ad 18), .int 0])), (ad 9, .inr (5, [.ref (sd 0), .ref (sd 1), .ref (sd 2), .ref (sd 3), .ref (sd 4), .ref (sd 5), .ref (sd 6), .int 0, .int (-1), .int 0, .int 0, .int 0, .int 0]))]
set_option maxHeartbeats 4000000 in
set_option maxRecDepth 100000 in
theorem c_C_without (l : Launch) (dC : Nat → ClassId) (dI : Nat → Nat → Nat) (cyB cyI cyJ cyZ cyO : ClassId) (h0 : Nat) (ad : Nat → Nat) (sd : Nat → Nat) (x1 : Int32) (sz : Nat) : Met l yX6_without wq_c_C_without ({ frames := 1, cells := 0, slots := 0, locals := 20 }) (va_Pc [.ref h0, .int x1] (cB (dC, dI) (kT cyB cyI cyJ cyZ cyO) (wc_c_C_without cyB cyI cyJ cyZ cyO h0 ad sd x1) sz)) (va_Qi (fun (r : Int32) (_ : Unit) => r = -1) (fun (u : Unit) t => cE (dC, dI) (va_A (wc_c_C_without cyB cyI cyJ cyZ cyO h0 ad sd x1) sz) ([]) t.heap) (va_A (wc_c_C_without cyB cyI cyJ cyZ cyO h0 ad sd x1) sz)) 0 0 (va_A (wc_c_C_without cyB cyI cyJ cyZ cyO h0 ad sd x1) sz) := by
  refine Met.ofW (cc := cX6_without) (maxL := 3) (ret := (some .int)) (by decide) rfl ?_
  intro p e s m args below meth c s₁ B hml hv
  obtain ⟨rfl, hsz, hP, hKN, hD0⟩ := hv
  have hx := B.exec
  have hb := B.bytes
  have hr := B.returns
  have hts := atoms_spec (ws := wq_c_C_without) B.pre
  have hown : s.vm.findClass RX6 = some m.cls := findClass_of_methodNamed B.named
  have hlocks := B.notSynchronized
  have hK := hKN.1
  have hfix : CallFix p m c cX6_without 3 s [.ref h0, .int x1].toArray wq_c_C_without RX6 := ⟨hx, hb, hml, hown, hts⟩
  subst hsz
  have hD := hD0.self (sz := s.heap.size)
  generalize hAe : va_A (wc_c_C_without cyB cyI cyJ cyZ cyO h0 ad sd x1) s.heap.size = A at hD ⊢
  have hA : ∀ q : Nat, s.heap.size ≤ q → A q := fun q h => by rw [← hAe]; exact Or.inr h
  have hS : va_S A s.heap s.heap [] := va_S.rf
  have hl := lv_entry ([.ref h0, .int x1]) (n := 3) (Nat.le_of_ble_eq_true rfl)
  rw [lg_entry_eq]
  generalize (lg_sl ([.ref h0, .int x1]) ++ List.replicate (3 - (lg_sl ([.ref h0, .int x1])).length) Slot.unset).toArray = ls at hl ⊢
  have hl : lv_has ls 3 [(0, .ref h0), (1, .int x1)] := hl
  refine lv_aload_n hx hb dX6_without_0 rfl (lv_at hl 0 rfl) ?_
  refine gf_i (wr := []) (va_runV (As := []) (rest := []) hfix (k_X6_canGive l dC dI cyB cyI cyJ cyZ cyO h0 ad sd _) (cwV 0 hts (gi_V (ow_m (k := 0) rfl) (ow_m (k := 1) rfl) (ow_m (k := 2) rfl) (ow_m (k := 3) rfl) (sb_c sb_l) gd_k_X6_canGive) rfl rfl rfl (by decide +kernel) ⟨Nat.le_of_ble_eq_true rfl, Nat.le_of_ble_eq_true rfl⟩) (g_preV hKN hP hD [0, 1] rfl (by decide) 0 6 rfl rfl) rfl rfl hl.1 rfl (lv_room (Nat.le_of_ble_eq_true rfl)) dX6_without_1 ⟨Nat.le_of_ble_eq_true rfl, Nat.le_of_ble_eq_true rfl⟩) hP hD hS hA [0, 1] [] rfl rfl (by decide) (by decide) (fun r983 u984 H locs qu984 hP hD hS => ?_)
  have hP : va_P (dC, dI) vwCl [(h0, .inr (6, [.ref (ad 0), .int 0, .ref (ad 2), .ref (ad 3), .ref (ad 4), .ref (ad 5), .ref (ad 6), .int 0, .int 0, .ref (ad 9), .ref (ad 10), .ref (ad 11), .ref (ad 12), .ref (ad 13), .int 0, .ref (ad 15), .int 0, .ref (ad 17), .ref (ad 18), .int 0])), (ad 9, .inr (5, [.ref (sd 0), .ref (sd 1), .ref (sd 2), .ref (sd 3), .ref (sd 4), .ref (sd 5), .ref (sd 6), .int 0, .int (-1), .int 0, .int 0, .int 0, .int 0]))] H := hP
  have hD : va_D A [(h0, .inr (6, [.ref (ad 0), .int 0, .ref (ad 2), .ref (ad 3), .ref (ad 4), .ref (ad 5), .ref (ad 6), .int 0, .int 0, .ref (ad 9), .ref (ad 10), .ref (ad 11), .ref (ad 12), .ref (ad 13), .int 0, .ref (ad 15), .int 0, .ref (ad 17), .ref (ad 18), .int 0])), (ad 9, .inr (5, [.ref (sd 0), .ref (sd 1), .ref (sd 2), .ref (sd 3), .ref (sd 4), .ref (sd 5), .ref (sd 6), .int 0, .int (-1), .int 0, .int 0, .int 0, .int 0]))] := hD
  refine tp_c (w := 0) qu984 ?_
  refine lv_if_eq (tgt := 26) hx hb dX6_without_4 (by decide) (fun _ => ?_) (fun c985 => absurd (by decide) c985)
  refine lv_iconst (v := (-1)) hx hb dX6_without_26 (by decide) ?_
  exact W.iret (v := (-1)) hx hb hr (fun t ht hW => ⟨⟨(-1), (), rfl, rfl, cE.nil⟩, hS.F ht⟩) hS.2.2 dX6_without_27
def wo_c_C_latest : List Cond := [.methodLink RX6 215 yX6_isKey, .instanceMethod yX6_isKey, .selects RX6 yX6_isKey yX6_isKey, .initialized RX6]
def wq_c_C_latest : List Cond := .code yX6_latest cX6_latest 2 (some .int) :: (wo_c_C_latest ++ (wq_k_X6_isKey ++ []))
theorem gd_c_C_latest : Gd wq_c_C_latest := gd_c (gd_a (gd_o (by decide +kernel)) (gd_a gd_k_X6_isKey gd_0))
abbrev wc_c_C_latest (cyB cyI cyJ cyZ cyO : ClassId) (h0 : Nat) (ad : Nat → Nat) (pd : Nat → Nat) (x1 : Int32) : va_W := [(h0, .inr (6, [.ref (ad 0), .int 0, .ref (ad 2), .ref (ad 3), .ref (ad 4), .ref (ad 5), .ref (ad 6), .int 0, .int 0, .ref (ad 9), .ref (ad 10), .ref (ad 11), .ref (ad 12), .ref (ad 13), .int 0, .ref (ad 15), .int 0, .ref (ad 17), .ref (ad 18), .int 0])), (ad 2, .inr (1, [.ref (pd 0), .ref (pd 1), .ref (pd 2), .ref (pd 3), .int 0, .int 0, .int 0, .int 0, .int 2, .int 0, .int 0]))]
set_option maxHeartbeats 4000000 in
set_option maxRecDepth 100000 in
theorem c_C_latest (l : Launch) (dC : Nat → ClassId) (dI : Nat → Nat → Nat) (cyB cyI cyJ cyZ cyO : ClassId) (h0 : Nat) (ad : Nat → Nat) (pd : Nat → Nat) (x1 : Int32) (sz : Nat) : Met l yX6_latest wq_c_C_latest ({ frames := 1, cells := 0, slots := 0, locals := 21 }) (va_Pc [.ref h0, .int x1] (cB (dC, dI) (kT cyB cyI cyJ cyZ cyO) (wc_c_C_latest cyB cyI cyJ cyZ cyO h0 ad pd x1) sz)) (va_Qi (fun (r : Int32) (_ : Unit) => r = -1) (fun (u : Unit) t => cE (dC, dI) (va_A (wc_c_C_latest cyB cyI cyJ cyZ cyO h0 ad pd x1) sz) ([]) t.heap) (va_A (wc_c_C_latest cyB cyI cyJ cyZ cyO h0 ad pd x1) sz)) 0 0 (va_A (wc_c_C_latest cyB cyI cyJ cyZ cyO h0 ad pd x1) sz) := by
  refine Met.ofW (cc := cX6_latest) (maxL := 2) (ret := (some .int)) (by decide) rfl ?_
  intro p e s m args below meth c s₁ B hml hv
  obtain ⟨rfl, hsz, hP, hKN, hD0⟩ := hv
  have hx := B.exec
  have hb := B.bytes
  have hr := B.returns
  have hts := atoms_spec (ws := wq_c_C_latest) B.pre
  have hown : s.vm.findClass RX6 = some m.cls := findClass_of_methodNamed B.named
  have hlocks := B.notSynchronized
  have hK := hKN.1
  have hfix : CallFix p m c cX6_latest 2 s [.ref h0, .int x1].toArray wq_c_C_latest RX6 := ⟨hx, hb, hml, hown, hts⟩
  subst hsz
  have hD := hD0.self (sz := s.heap.size)
  generalize hAe : va_A (wc_c_C_latest cyB cyI cyJ cyZ cyO h0 ad pd x1) s.heap.size = A at hD ⊢
  have hA : ∀ q : Nat, s.heap.size ≤ q → A q := fun q h => by rw [← hAe]; exact Or.inr h
  have hS : va_S A s.heap s.heap [] := va_S.rf
  have hl := lv_entry ([.ref h0, .int x1]) (n := 2) (Nat.le_of_ble_eq_true rfl)
  rw [lg_entry_eq]
  generalize (lg_sl ([.ref h0, .int x1]) ++ List.replicate (2 - (lg_sl ([.ref h0, .int x1])).length) Slot.unset).toArray = ls at hl ⊢
  have hl : lv_has ls 2 [(0, .ref h0), (1, .int x1)] := hl
  refine lv_aload_n hx hb dX6_latest_0 rfl (lv_at hl 0 rfl) ?_
  refine lv_iload_n hx hb dX6_latest_1 rfl (lv_at hl 1 rfl) ?_
  refine gf_i (wr := []) (va_runV (As := [.int x1]) (rest := []) hfix (k_X6_isKey l dC dI cyB cyI cyJ cyZ cyO h0 ad pd x1 _) (cwV 1 hts (gi_V (ow_m (k := 0) rfl) (ow_m (k := 1) rfl) (ow_m (k := 2) rfl) (ow_m (k := 3) rfl) (sb_c sb_l) gd_k_X6_isKey) rfl rfl rfl (by decide +kernel) ⟨Nat.le_of_ble_eq_true rfl, Nat.le_of_ble_eq_true rfl⟩) (g_preV hKN hP hD [0, 1] rfl (by decide) 0 6 rfl rfl) rfl rfl hl.1 rfl (lv_room (Nat.le_of_ble_eq_true rfl)) dX6_latest_2 ⟨Nat.le_of_ble_eq_true rfl, Nat.le_of_ble_eq_true rfl⟩) hP hD hS hA [0, 1] [] rfl rfl (by decide) (by decide) (fun r997 u998 H locs qu998 hP hD hS => ?_)
  have hP : va_P (dC, dI) vwCl [(h0, .inr (6, [.ref (ad 0), .int 0, .ref (ad 2), .ref (ad 3), .ref (ad 4), .ref (ad 5), .ref (ad 6), .int 0, .int 0, .ref (ad 9), .ref (ad 10), .ref (ad 11), .ref (ad 12), .ref (ad 13), .int 0, .ref (ad 15), .int 0, .ref (ad 17), .ref (ad 18), .int 0])), (ad 2, .inr (1, [.ref (pd 0), .ref (pd 1), .ref (pd 2), .ref (pd 3), .int 0, .int 0, .int 0, .int 0, .int 2, .int 0, .int 0]))] H := hP
  have hD : va_D A [(h0, .inr (6, [.ref (ad 0), .int 0, .ref (ad 2), .ref (ad 3), .ref (ad 4), .ref (ad 5), .ref (ad 6), .int 0, .int 0, .ref (ad 9), .ref (ad 10), .ref (ad 11), .ref (ad 12), .ref (ad 13), .int 0, .ref (ad 15), .int 0, .ref (ad 17), .ref (ad 18), .int 0])), (ad 2, .inr (1, [.ref (pd 0), .ref (pd 1), .ref (pd 2), .ref (pd 3), .int 0, .int 0, .int 0, .int 0, .int 2, .int 0, .int 0]))] := hD
  rcases qu998 with ⟨rfl, b999⟩ | ⟨rfl, b1000, b1001⟩
  · skip
    refine lv_if_eq (tgt := 18) hx hb dX6_latest_5 (by decide) (fun _ => ?_) (fun c1002 => absurd (by decide) c1002)
    refine lv_iconst (v := (-1)) hx hb dX6_latest_18 (by decide) ?_
    refine lv_goto (tgt := 37) hx hb dX6_latest_19 (by decide) ?_
    exact W.iret (v := (-1)) hx hb hr (fun t ht hW => ⟨⟨(-1), (), rfl, rfl, cE.nil⟩, hS.F ht⟩) hS.2.2 dX6_latest_37
  · skip
    refine lv_if_eq (tgt := 18) hx hb dX6_latest_5 (by decide) (fun _ => ?_) (fun c1003 => absurd (by decide) c1003)
    refine lv_iconst (v := (-1)) hx hb dX6_latest_18 (by decide) ?_
    refine lv_goto (tgt := 37) hx hb dX6_latest_19 (by decide) ?_
    exact W.iret (v := (-1)) hx hb hr (fun t ht hW => ⟨⟨(-1), (), rfl, rfl, cE.nil⟩, hS.F ht⟩) hS.2.2 dX6_latest_37
def wo_k_X5_allUnderWay_v2 : List Cond := [.fieldLink RX5 42 "ReplicaChain$State" "size" "I"]
def wq_k_X5_allUnderWay_v2 : List Cond := .code yX5_allUnderWay cX5_allUnderWay 3 (some .int) :: (wo_k_X5_allUnderWay_v2 ++ (wsX50 ++ []))
theorem gd_k_X5_allUnderWay_v2 : Gd wq_k_X5_allUnderWay_v2 := gd_c (gd_a (gd_o (by decide +kernel)) (gd_a gd_u gd_0))
abbrev wc_k_X5_allUnderWay_v2 (cyB cyI cyJ cyZ cyO : ClassId) (ad : Nat → Nat) (sd : Nat → Nat) : va_W := [(ad 9, .inr (5, [.ref (sd 0), .ref (sd 1), .ref (sd 2), .ref (sd 3), .ref (sd 4), .ref (sd 5), .ref (sd 6), .int 0, .int (-1), .int 0, .int 0, .int 0, .int 0]))]
set_option maxHeartbeats 4000000 in
set_option maxRecDepth 100000 in
theorem k_X5_allUnderWay_v2 (l : Launch) (dC : Nat → ClassId) (dI : Nat → Nat → Nat) (cyB cyI cyJ cyZ cyO : ClassId) (ad : Nat → Nat) (sd : Nat → Nat) (sz : Nat) : Met l yX5_allUnderWay wq_k_X5_allUnderWay_v2 ({ frames := 0, cells := 0, slots := 0, locals := 0 }) (va_Pc [.ref (ad 9)] (cB (dC, dI) (kT cyB cyI cyJ cyZ cyO) (wc_k_X5_allUnderWay_v2 cyB cyI cyJ cyZ cyO ad sd) sz)) (va_Qi (fun (r : Int32) _ => r = 0) (fun (u : Unit) t => cE (dC, dI) (va_A (wc_k_X5_allUnderWay_v2 cyB cyI cyJ cyZ cyO ad sd) sz) ([(ad 9, .inr (5, [.ref (sd 0), .ref (sd 1), .ref (sd 2), .ref (sd 3), .ref (sd 4), .ref (sd 5), .ref (sd 6), .int 0, .int (-1), .int 0, .int 0, .int 0, .int 0]))]) t.heap) (va_A (wc_k_X5_allUnderWay_v2 cyB cyI cyJ cyZ cyO ad sd) sz)) 0 0 (va_A (wc_k_X5_allUnderWay_v2 cyB cyI cyJ cyZ cyO ad sd) sz) := by
  refine Met.ofW (cc := cX5_allUnderWay) (maxL := 3) (ret := (some .int)) (by decide) rfl ?_
  intro p e s m args below meth c s₁ B hml hv
  obtain ⟨rfl, hsz, hP, hKN, hD0⟩ := hv
  have hx := B.exec
  have hb := B.bytes
  have hr := B.returns
  have hts := atoms_spec (ws := wq_k_X5_allUnderWay_v2) B.pre
  have hown : s.vm.findClass RX5 = some m.cls := findClass_of_methodNamed B.named
  have hlocks := B.notSynchronized
  have hK := hKN.1
  have hfix : CallFix p m c cX5_allUnderWay 3 s [.ref (ad 9)].toArray wq_k_X5_allUnderWay_v2 RX5 := ⟨hx, hb, hml, hown, hts⟩
  have hi5 : ∀ w ∈ wsX50, w ∈ wq_k_X5_allUnderWay_v2 := (sb_c sb_l)
  subst hsz
  have hD := hD0.self (sz := s.heap.size)
  generalize hAe : va_A (wc_k_X5_allUnderWay_v2 cyB cyI cyJ cyZ cyO ad sd) s.heap.size = A at hD ⊢
  have hA : ∀ q : Nat, s.heap.size ≤ q → A q := fun q h => by rw [← hAe]; exact Or.inr h
  have hS : va_S A s.heap s.heap [] := va_S.rf
  have hl := lv_entry ([.ref (ad 9)]) (n := 3) (Nat.le_of_ble_eq_true rfl)
  rw [lg_entry_eq]
  generalize (lg_sl ([.ref (ad 9)]) ++ List.replicate (3 - (lg_sl ([.ref (ad 9)])).length) Slot.unset).toArray = ls at hl ⊢
  have hl : lv_has ls 3 [(0, .ref (ad 9))] := hl
  refine lv_iconst (v := 0) hx hb dX5_allUnderWay_0 (by decide) ?_
  refine lv_istore_n (lv' := [(1, .int 0), (0, .ref (ad 9))]) hx hb dX5_allUnderWay_1 rfl hl (by decide) rfl (fun ls hl => ?_)
  refine lv_iconst (v := 0) hx hb dX5_allUnderWay_2 (by decide) ?_
  refine lv_istore_n (lv' := [(2, .int 0), (1, .int 0), (0, .ref (ad 9))]) hx hb dX5_allUnderWay_3 rfl hl (by decide) rfl (fun ls hl => ?_)
  refine lv_iload_n hx hb dX5_allUnderWay_4 rfl (lv_at hl 0 rfl) ?_
  refine lv_aload_n hx hb dX5_allUnderWay_5 rfl (lv_at hl 2 rfl) ?_
  refine va_get (D := (dC, dI)) (ci := 5) (v := .int 0) (C := RX5) (T := TX5) (N := 13) hx hb hts hi5 hown hK hP 0 rfl rfl 7 (by decide) (hts _ (ow_m (k := 0) rfl)) (fun _ h9 => h9) rfl dX5_allUnderWay_6 ?_
  refine lv_iconst (v := 1) hx hb dX5_allUnderWay_9 (by decide) ?_
  refine lv_isub hx hb dX5_allUnderWay_10 ?_
  refine tp_c (w := (-1)) (by decide) ?_
  refine lv_icmp_ge (tgt := 36) hx hb dX5_allUnderWay_11 (by decide) (fun _ => ?_) (fun c1005 => absurd (by decide) c1005)
  refine lv_iload_n hx hb dX5_allUnderWay_36 rfl (lv_at hl 1 rfl) ?_
  exact W.iret (v := 0) hx hb hr (fun t ht hW => ⟨⟨0, (), rfl, rfl, cE.of ht hP hD [0] (by decide) rfl⟩, hS.F ht⟩) hS.2.2 dX5_allUnderWay_37
def wo_c_C_traffic : List Cond := [.fieldLink RX6 110 "ReplicaChain" "now" "LReplicaChain$State;", .methodLink RX6 267 yX5_allUnderWay, .instanceMethod yX5_allUnderWay, .selects RX5 yX5_allUnderWay yX5_allUnderWay, .initialized RX5]
def wq_c_C_traffic : List Cond := .code yX6_traffic cX6_traffic 1 (some .int) :: (wo_c_C_traffic ++ (wq_k_X5_allUnderWay_v2 ++ (wsX60 ++ [])))
theorem gd_c_C_traffic : Gd wq_c_C_traffic := gd_c (gd_a (gd_o (by decide +kernel)) (gd_a gd_k_X5_allUnderWay_v2 (gd_a gd_u gd_0)))
abbrev wc_c_C_traffic (cyB cyI cyJ cyZ cyO : ClassId) (h0 : Nat) (ad : Nat → Nat) (sd : Nat → Nat) : va_W := [(h0, .inr (6, [.ref (ad 0), .int 0, .ref (ad 2), .ref (ad 3), .ref (ad 4), .ref (ad 5), .ref (ad 6), .int 0, .int 0, .ref (ad 9), .ref (ad 10), .ref (ad 11), .ref (ad 12), .ref (ad 13), .int 0, .ref (ad 15), .int 0, .ref (ad 17), .ref (ad 18), .int 0])), (ad 9, .inr (5, [.ref (sd 0), .ref (sd 1), .ref (sd 2), .ref (sd 3), .ref (sd 4), .ref (sd 5), .ref (sd 6), .int 0, .int (-1), .int 0, .int 0, .int 0, .int 0]))]
set_option maxHeartbeats 4000000 in
set_option maxRecDepth 100000 in
theorem c_C_traffic (l : Launch) (dC : Nat → ClassId) (dI : Nat → Nat → Nat) (cyB cyI cyJ cyZ cyO : ClassId) (h0 : Nat) (ad : Nat → Nat) (sd : Nat → Nat) (sz : Nat) : Met l yX6_traffic wq_c_C_traffic ({ frames := 1, cells := 0, slots := 0, locals := 22 }) (va_Pc [.ref h0] (cB (dC, dI) (kT cyB cyI cyJ cyZ cyO) (wc_c_C_traffic cyB cyI cyJ cyZ cyO h0 ad sd) sz)) (va_Qi (fun (r : Int32) (_ : Unit) => r = 0) (fun (u : Unit) t => cE (dC, dI) (va_A (wc_c_C_traffic cyB cyI cyJ cyZ cyO h0 ad sd) sz) ([]) t.heap) (va_A (wc_c_C_traffic cyB cyI cyJ cyZ cyO h0 ad sd) sz)) 0 0 (va_A (wc_c_C_traffic cyB cyI cyJ cyZ cyO h0 ad sd) sz) := by
  refine Met.ofW (cc := cX6_traffic) (maxL := 1) (ret := (some .int)) (by decide) rfl ?_
  intro p e s m args below meth c s₁ B hml hv
  obtain ⟨rfl, hsz, hP, hKN, hD0⟩ := hv
  have hx := B.exec
  have hb := B.bytes
  have hr := B.returns
  have hts := atoms_spec (ws := wq_c_C_traffic) B.pre
  have hown : s.vm.findClass RX6 = some m.cls := findClass_of_methodNamed B.named
  have hlocks := B.notSynchronized
  have hK := hKN.1
  have hfix : CallFix p m c cX6_traffic 1 s [.ref h0].toArray wq_c_C_traffic RX6 := ⟨hx, hb, hml, hown, hts⟩
  have hi6 : ∀ w ∈ wsX60, w ∈ wq_c_C_traffic := (sb_c (sb_r sb_l))
  subst hsz
  have hD := hD0.self (sz := s.heap.size)
  generalize hAe : va_A (wc_c_C_traffic cyB cyI cyJ cyZ cyO h0 ad sd) s.heap.size = A at hD ⊢
  have hA : ∀ q : Nat, s.heap.size ≤ q → A q := fun q h => by rw [← hAe]; exact Or.inr h
  have hS : va_S A s.heap s.heap [] := va_S.rf
  have hl := lv_entry ([.ref h0]) (n := 1) (Nat.le_of_ble_eq_true rfl)
  rw [lg_entry_eq]
  generalize (lg_sl ([.ref h0]) ++ List.replicate (1 - (lg_sl ([.ref h0])).length) Slot.unset).toArray = ls at hl ⊢
  have hl : lv_has ls 1 [(0, .ref h0)] := hl
  refine lv_aload_n hx hb dX6_traffic_0 rfl (lv_at hl 0 rfl) ?_
  refine va_get (D := (dC, dI)) (ci := 6) (v := .ref (ad 9)) (C := RX6) (T := TX6) (N := 20) hx hb hts hi6 hown hK hP 0 rfl rfl 9 (by decide) (hts _ (ow_m (k := 0) rfl)) (fun _ h9 => h9) rfl dX6_traffic_1 ?_
  refine gf_i (wr := [(h0, .inr (6, [.ref (ad 0), .int 0, .ref (ad 2), .ref (ad 3), .ref (ad 4), .ref (ad 5), .ref (ad 6), .int 0, .int 0, .ref (ad 9), .ref (ad 10), .ref (ad 11), .ref (ad 12), .ref (ad 13), .int 0, .ref (ad 15), .int 0, .ref (ad 17), .ref (ad 18), .int 0]))]) (va_runV (As := []) (rest := []) hfix (k_X5_allUnderWay_v2 l dC dI cyB cyI cyJ cyZ cyO ad sd _) (cwV 0 hts (gi_V (ow_m (k := 1) rfl) (ow_m (k := 2) rfl) (ow_m (k := 3) rfl) (ow_m (k := 4) rfl) (sb_c sb_l) gd_k_X5_allUnderWay_v2) rfl rfl rfl (by decide +kernel) ⟨Nat.le_of_ble_eq_true rfl, Nat.le_of_ble_eq_true rfl⟩) (g_preV hKN hP hD [1] rfl (by decide) 0 5 rfl rfl) rfl rfl hl.1 rfl (lv_room (Nat.le_of_ble_eq_true rfl)) dX6_traffic_4 ⟨Nat.le_of_ble_eq_true rfl, Nat.le_of_ble_eq_true rfl⟩) hP hD hS hA [1] [0] rfl rfl (by decide) (by decide) (fun r1009 u1010 H locs qu1010 hP hD hS => ?_)
  have hP : va_P (dC, dI) vwCl [(h0, .inr (6, [.ref (ad 0), .int 0, .ref (ad 2), .ref (ad 3), .ref (ad 4), .ref (ad 5), .ref (ad 6), .int 0, .int 0, .ref (ad 9), .ref (ad 10), .ref (ad 11), .ref (ad 12), .ref (ad 13), .int 0, .ref (ad 15), .int 0, .ref (ad 17), .ref (ad 18), .int 0])), (ad 9, .inr (5, [.ref (sd 0), .ref (sd 1), .ref (sd 2), .ref (sd 3), .ref (sd 4), .ref (sd 5), .ref (sd 6), .int 0, .int (-1), .int 0, .int 0, .int 0, .int 0]))] H := hP
  have hD : va_D A [(h0, .inr (6, [.ref (ad 0), .int 0, .ref (ad 2), .ref (ad 3), .ref (ad 4), .ref (ad 5), .ref (ad 6), .int 0, .int 0, .ref (ad 9), .ref (ad 10), .ref (ad 11), .ref (ad 12), .ref (ad 13), .int 0, .ref (ad 15), .int 0, .ref (ad 17), .ref (ad 18), .int 0])), (ad 9, .inr (5, [.ref (sd 0), .ref (sd 1), .ref (sd 2), .ref (sd 3), .ref (sd 4), .ref (sd 5), .ref (sd 6), .int 0, .int (-1), .int 0, .int 0, .int 0, .int 0]))] := hD
  refine tp_c (w := 0) qu1010 ?_
  exact W.iret (v := 0) hx hb hr (fun t ht hW => ⟨⟨0, (), rfl, rfl, cE.nil⟩, hS.F ht⟩) hS.2.2 dX6_traffic_7
def wo_c_C_lag : List Cond := [.methodLink RX6 239 yX6_isMember, .instanceMethod yX6_isMember, .selects RX6 yX6_isMember yX6_isMember, .initialized RX6]
def wq_c_C_lag : List Cond := .code yX6_lag cX6_lag 2 (some .int) :: (wo_c_C_lag ++ (wq_k_X6_isMember ++ []))
theorem gd_c_C_lag : Gd wq_c_C_lag := gd_c (gd_a (gd_o (by decide +kernel)) (gd_a gd_k_X6_isMember gd_0))
abbrev wc_c_C_lag (cyB cyI cyJ cyZ cyO : ClassId) (h0 : Nat) (ad : Nat → Nat) (pd : Nat → Nat) (x1 : Int32) : va_W := [(h0, .inr (6, [.ref (ad 0), .int 0, .ref (ad 2), .ref (ad 3), .ref (ad 4), .ref (ad 5), .ref (ad 6), .int 0, .int 0, .ref (ad 9), .ref (ad 10), .ref (ad 11), .ref (ad 12), .ref (ad 13), .int 0, .ref (ad 15), .int 0, .ref (ad 17), .ref (ad 18), .int 0])), (ad 2, .inr (1, [.ref (pd 0), .ref (pd 1), .ref (pd 2), .ref (pd 3), .int 0, .int 0, .int 0, .int 0, .int 2, .int 0, .int 0]))]
set_option maxHeartbeats 4000000 in
set_option maxRecDepth 100000 in
theorem c_C_lag (l : Launch) (dC : Nat → ClassId) (dI : Nat → Nat → Nat) (cyB cyI cyJ cyZ cyO : ClassId) (h0 : Nat) (ad : Nat → Nat) (pd : Nat → Nat) (x1 : Int32) (sz : Nat) : Met l yX6_lag wq_c_C_lag ({ frames := 2, cells := 0, slots := 0, locals := 42 }) (va_Pc [.ref h0, .int x1] (cB (dC, dI) (kT cyB cyI cyJ cyZ cyO) (wc_c_C_lag cyB cyI cyJ cyZ cyO h0 ad pd x1) sz)) (va_Qi (fun (r : Int32) (_ : Unit) => r = -1) (fun (u : Unit) t => cE (dC, dI) (va_A (wc_c_C_lag cyB cyI cyJ cyZ cyO h0 ad pd x1) sz) ([]) t.heap) (va_A (wc_c_C_lag cyB cyI cyJ cyZ cyO h0 ad pd x1) sz)) 0 0 (va_A (wc_c_C_lag cyB cyI cyJ cyZ cyO h0 ad pd x1) sz) := by
  refine Met.ofW (cc := cX6_lag) (maxL := 2) (ret := (some .int)) (by decide) rfl ?_
  intro p e s m args below meth c s₁ B hml hv
  obtain ⟨rfl, hsz, hP, hKN, hD0⟩ := hv
  have hx := B.exec
  have hb := B.bytes
  have hr := B.returns
  have hts := atoms_spec (ws := wq_c_C_lag) B.pre
  have hown : s.vm.findClass RX6 = some m.cls := findClass_of_methodNamed B.named
  have hlocks := B.notSynchronized
  have hK := hKN.1
  have hfix : CallFix p m c cX6_lag 2 s [.ref h0, .int x1].toArray wq_c_C_lag RX6 := ⟨hx, hb, hml, hown, hts⟩
  subst hsz
  have hD := hD0.self (sz := s.heap.size)
  generalize hAe : va_A (wc_c_C_lag cyB cyI cyJ cyZ cyO h0 ad pd x1) s.heap.size = A at hD ⊢
  have hA : ∀ q : Nat, s.heap.size ≤ q → A q := fun q h => by rw [← hAe]; exact Or.inr h
  have hS : va_S A s.heap s.heap [] := va_S.rf
  have hl := lv_entry ([.ref h0, .int x1]) (n := 2) (Nat.le_of_ble_eq_true rfl)
  rw [lg_entry_eq]
  generalize (lg_sl ([.ref h0, .int x1]) ++ List.replicate (2 - (lg_sl ([.ref h0, .int x1])).length) Slot.unset).toArray = ls at hl ⊢
  have hl : lv_has ls 2 [(0, .ref h0), (1, .int x1)] := hl
  refine lv_aload_n hx hb dX6_lag_0 rfl (lv_at hl 0 rfl) ?_
  refine lv_iload_n hx hb dX6_lag_1 rfl (lv_at hl 1 rfl) ?_
  refine gf_i (wr := []) (va_runV (As := [.int x1]) (rest := []) hfix (k_X6_isMember l dC dI cyB cyI cyJ cyZ cyO h0 ad pd x1 _) (cwV 1 hts (gi_V (ow_m (k := 0) rfl) (ow_m (k := 1) rfl) (ow_m (k := 2) rfl) (ow_m (k := 3) rfl) (sb_c sb_l) gd_k_X6_isMember) rfl rfl rfl (by decide +kernel) ⟨Nat.le_of_ble_eq_true rfl, Nat.le_of_ble_eq_true rfl⟩) (g_preV hKN hP hD [0, 1] rfl (by decide) 0 6 rfl rfl) rfl rfl hl.1 rfl (lv_room (Nat.le_of_ble_eq_true rfl)) dX6_lag_2 ⟨Nat.le_of_ble_eq_true rfl, Nat.le_of_ble_eq_true rfl⟩) hP hD hS hA [0, 1] [] rfl rfl (by decide) (by decide) (fun r1036 u1037 H locs qu1037 hP hD hS => ?_)
  have hP : va_P (dC, dI) vwCl [(h0, .inr (6, [.ref (ad 0), .int 0, .ref (ad 2), .ref (ad 3), .ref (ad 4), .ref (ad 5), .ref (ad 6), .int 0, .int 0, .ref (ad 9), .ref (ad 10), .ref (ad 11), .ref (ad 12), .ref (ad 13), .int 0, .ref (ad 15), .int 0, .ref (ad 17), .ref (ad 18), .int 0])), (ad 2, .inr (1, [.ref (pd 0), .ref (pd 1), .ref (pd 2), .ref (pd 3), .int 0, .int 0, .int 0, .int 0, .int 2, .int 0, .int 0]))] H := hP
  have hD : va_D A [(h0, .inr (6, [.ref (ad 0), .int 0, .ref (ad 2), .ref (ad 3), .ref (ad 4), .ref (ad 5), .ref (ad 6), .int 0, .int 0, .ref (ad 9), .ref (ad 10), .ref (ad 11), .ref (ad 12), .ref (ad 13), .int 0, .ref (ad 15), .int 0, .ref (ad 17), .ref (ad 18), .int 0])), (ad 2, .inr (1, [.ref (pd 0), .ref (pd 1), .ref (pd 2), .ref (pd 3), .int 0, .int 0, .int 0, .int 0, .int 2, .int 0, .int 0]))] := hD
  rcases qu1037 with ⟨rfl, b1038⟩ | ⟨rfl, b1039, b1040⟩
  · skip
    refine lv_if_eq (tgt := 28) hx hb dX6_lag_5 (by decide) (fun _ => ?_) (fun c1041 => absurd (by decide) c1041)
    refine lv_iconst (v := (-1)) hx hb dX6_lag_28 (by decide) ?_
    exact W.iret (v := (-1)) hx hb hr (fun t ht hW => ⟨⟨(-1), (), rfl, rfl, cE.nil⟩, hS.F ht⟩) hS.2.2 dX6_lag_29
  · skip
    refine lv_if_eq (tgt := 28) hx hb dX6_lag_5 (by decide) (fun _ => ?_) (fun c1042 => absurd (by decide) c1042)
    refine lv_iconst (v := (-1)) hx hb dX6_lag_28 (by decide) ?_
    exact W.iret (v := (-1)) hx hb hr (fun t ht hW => ⟨⟨(-1), (), rfl, rfl, cE.nil⟩, hS.F ht⟩) hS.2.2 dX6_lag_29
def wo_c_C_peak : List Cond := [.fieldLink RX6 110 "ReplicaChain" "now" "LReplicaChain$State;", .fieldLink RX6 157 "ReplicaChain$State" "size" "I"]
def wq_c_C_peak : List Cond := .code yX6_peak cX6_peak 5 (some .int) :: (wo_c_C_peak ++ (wsX50 ++ (wsX60 ++ [])))
theorem gd_c_C_peak : Gd wq_c_C_peak := gd_c (gd_a (gd_o (by decide +kernel)) (gd_a gd_u (gd_a gd_u gd_0)))
abbrev wc_c_C_peak (cyB cyI cyJ cyZ cyO : ClassId) (h0 : Nat) (ad : Nat → Nat) (sd : Nat → Nat) (x1 : Int32) : va_W := [(h0, .inr (6, [.ref (ad 0), .int 0, .ref (ad 2), .ref (ad 3), .ref (ad 4), .ref (ad 5), .ref (ad 6), .int 0, .int 0, .ref (ad 9), .ref (ad 10), .ref (ad 11), .ref (ad 12), .ref (ad 13), .int 0, .ref (ad 15), .int 0, .ref (ad 17), .ref (ad 18), .int 0])), (ad 9, .inr (5, [.ref (sd 0), .ref (sd 1), .ref (sd 2), .ref (sd 3), .ref (sd 4), .ref (sd 5), .ref (sd 6), .int 0, .int (-1), .int 0, .int 0, .int 0, .int 0]))]
set_option maxHeartbeats 4000000 in
set_option maxRecDepth 100000 in
theorem c_C_peak (l : Launch) (dC : Nat → ClassId) (dI : Nat → Nat → Nat) (cyB cyI cyJ cyZ cyO : ClassId) (h0 : Nat) (ad : Nat → Nat) (sd : Nat → Nat) (x1 : Int32) (sz : Nat) : Met l yX6_peak wq_c_C_peak ({ frames := 0, cells := 0, slots := 0, locals := 0 }) (va_Pc [.ref h0, .int x1] (cB (dC, dI) (kT cyB cyI cyJ cyZ cyO) (wc_c_C_peak cyB cyI cyJ cyZ cyO h0 ad sd x1) sz)) (va_Qi (fun (r : Int32) (_ : Unit) => r = -1) (fun (u : Unit) t => cE (dC, dI) (va_A (wc_c_C_peak cyB cyI cyJ cyZ cyO h0 ad sd x1) sz) ([]) t.heap) (va_A (wc_c_C_peak cyB cyI cyJ cyZ cyO h0 ad sd x1) sz)) 0 0 (va_A (wc_c_C_peak cyB cyI cyJ cyZ cyO h0 ad sd x1) sz) := by
  refine Met.ofW (cc := cX6_peak) (maxL := 5) (ret := (some .int)) (by decide) rfl ?_
  intro p e s m args below meth c s₁ B hml hv
  obtain ⟨rfl, hsz, hP, hKN, hD0⟩ := hv
  have hx := B.exec
  have hb := B.bytes
  have hr := B.returns
  have hts := atoms_spec (ws := wq_c_C_peak) B.pre
  have hown : s.vm.findClass RX6 = some m.cls := findClass_of_methodNamed B.named
  have hlocks := B.notSynchronized
  have hK := hKN.1
  have hfix : CallFix p m c cX6_peak 5 s [.ref h0, .int x1].toArray wq_c_C_peak RX6 := ⟨hx, hb, hml, hown, hts⟩
  have hi5 : ∀ w ∈ wsX50, w ∈ wq_c_C_peak := (sb_c sb_l)
  have hi6 : ∀ w ∈ wsX60, w ∈ wq_c_C_peak := (sb_c (sb_r sb_l))
  subst hsz
  have hD := hD0.self (sz := s.heap.size)
  generalize hAe : va_A (wc_c_C_peak cyB cyI cyJ cyZ cyO h0 ad sd x1) s.heap.size = A at hD ⊢
  have hA : ∀ q : Nat, s.heap.size ≤ q → A q := fun q h => by rw [← hAe]; exact Or.inr h
  have hS : va_S A s.heap s.heap [] := va_S.rf
  have hl := lv_entry ([.ref h0, .int x1]) (n := 5) (Nat.le_of_ble_eq_true rfl)
  rw [lg_entry_eq]
  generalize (lg_sl ([.ref h0, .int x1]) ++ List.replicate (5 - (lg_sl ([.ref h0, .int x1])).length) Slot.unset).toArray = ls at hl ⊢
  have hl : lv_has ls 5 [(0, .ref h0), (1, .int x1)] := hl
  refine lv_iload_n hx hb dX6_peak_0 rfl (lv_at hl 1 rfl) ?_
  refine lv_if_lt (tgt := 19) hx hb dX6_peak_1 (by decide) (fun c1046 => ?_) (fun c1046 => ?_)
  · have c1046 := i_lt (a := x1.toInt) (b := 0) c1046 rfl (by decide)
    refine lv_iconst (v := (-1)) hx hb dX6_peak_19 (by decide) ?_
    exact W.iret (v := (-1)) hx hb hr (fun t ht hW => ⟨⟨(-1), (), rfl, rfl, cE.nil⟩, hS.F ht⟩) hS.2.2 dX6_peak_20
  · have c1046 := i_nlt (a := x1.toInt) (b := 0) c1046 rfl (by decide)
    refine lv_iload_n hx hb dX6_peak_4 rfl (lv_at hl 1 rfl) ?_
    refine lv_iconst (v := 1) hx hb dX6_peak_5 (by decide) ?_
    refine lv_icmp_gt (tgt := 19) hx hb dX6_peak_6 (by decide) (fun c1047 => ?_) (fun c1047 => ?_)
    · have c1047 := i_lt (a := 1) (b := x1.toInt) c1047 (by decide) rfl
      refine lv_iconst (v := (-1)) hx hb dX6_peak_19 (by decide) ?_
      exact W.iret (v := (-1)) hx hb hr (fun t ht hW => ⟨⟨(-1), (), rfl, rfl, cE.nil⟩, hS.F ht⟩) hS.2.2 dX6_peak_20
    · have c1047 := i_nlt (a := 1) (b := x1.toInt) c1047 (by decide) rfl
      refine lv_aload_n hx hb dX6_peak_9 rfl (lv_at hl 0 rfl) ?_
      refine va_get (D := (dC, dI)) (ci := 6) (v := .ref (ad 9)) (C := RX6) (T := TX6) (N := 20) hx hb hts hi6 hown hK hP 0 rfl rfl 9 (by decide) (hts _ (ow_m (k := 0) rfl)) (fun _ h9 => h9) rfl dX6_peak_10 ?_
      refine va_get (D := (dC, dI)) (ci := 5) (v := .int 0) (C := RX5) (T := TX5) (N := 13) hx hb hts hi5 hown hK hP 1 rfl rfl 7 (by decide) (hts _ (ow_m (k := 1) rfl)) (fun _ h9 => h9) rfl dX6_peak_13 ?_
      refine lv_if_ne (tgt := 21) hx hb dX6_peak_16 (by decide) (fun c1048 => absurd (by decide) c1048) (fun _ => ?_)
      refine lv_iconst (v := (-1)) hx hb dX6_peak_19 (by decide) ?_
      exact W.iret (v := (-1)) hx hb hr (fun t ht hW => ⟨⟨(-1), (), rfl, rfl, cE.nil⟩, hS.F ht⟩) hS.2.2 dX6_peak_20
def wo_c_C_dirtiest : List Cond := [.fieldLink RX6 110 "ReplicaChain" "now" "LReplicaChain$State;", .fieldLink RX6 157 "ReplicaChain$State" "size" "I"]
def wq_c_C_dirtiest : List Cond := .code yX6_dirtiest cX6_dirtiest 8 (some .int) :: (wo_c_C_dirtiest ++ (wsX50 ++ (wsX60 ++ [])))
theorem gd_c_C_dirtiest : Gd wq_c_C_dirtiest := gd_c (gd_a (gd_o (by decide +kernel)) (gd_a gd_u (gd_a gd_u gd_0)))
abbrev wc_c_C_dirtiest (cyB cyI cyJ cyZ cyO : ClassId) (h0 : Nat) (ad : Nat → Nat) (sd : Nat → Nat) (x1 : Int32) : va_W := [(h0, .inr (6, [.ref (ad 0), .int 0, .ref (ad 2), .ref (ad 3), .ref (ad 4), .ref (ad 5), .ref (ad 6), .int 0, .int 0, .ref (ad 9), .ref (ad 10), .ref (ad 11), .ref (ad 12), .ref (ad 13), .int 0, .ref (ad 15), .int 0, .ref (ad 17), .ref (ad 18), .int 0])), (ad 9, .inr (5, [.ref (sd 0), .ref (sd 1), .ref (sd 2), .ref (sd 3), .ref (sd 4), .ref (sd 5), .ref (sd 6), .int 0, .int (-1), .int 0, .int 0, .int 0, .int 0]))]
set_option maxHeartbeats 4000000 in
set_option maxRecDepth 100000 in
theorem c_C_dirtiest (l : Launch) (dC : Nat → ClassId) (dI : Nat → Nat → Nat) (cyB cyI cyJ cyZ cyO : ClassId) (h0 : Nat) (ad : Nat → Nat) (sd : Nat → Nat) (x1 : Int32) (sz : Nat) : Met l yX6_dirtiest wq_c_C_dirtiest ({ frames := 0, cells := 0, slots := 0, locals := 0 }) (va_Pc [.ref h0, .int x1] (cB (dC, dI) (kT cyB cyI cyJ cyZ cyO) (wc_c_C_dirtiest cyB cyI cyJ cyZ cyO h0 ad sd x1) sz)) (va_Qi (fun (r : Int32) (_ : Unit) => r = -1) (fun (u : Unit) t => cE (dC, dI) (va_A (wc_c_C_dirtiest cyB cyI cyJ cyZ cyO h0 ad sd x1) sz) ([]) t.heap) (va_A (wc_c_C_dirtiest cyB cyI cyJ cyZ cyO h0 ad sd x1) sz)) 0 0 (va_A (wc_c_C_dirtiest cyB cyI cyJ cyZ cyO h0 ad sd x1) sz) := by
  refine Met.ofW (cc := cX6_dirtiest) (maxL := 8) (ret := (some .int)) (by decide) rfl ?_
  intro p e s m args below meth c s₁ B hml hv
  obtain ⟨rfl, hsz, hP, hKN, hD0⟩ := hv
  have hx := B.exec
  have hb := B.bytes
  have hr := B.returns
  have hts := atoms_spec (ws := wq_c_C_dirtiest) B.pre
  have hown : s.vm.findClass RX6 = some m.cls := findClass_of_methodNamed B.named
  have hlocks := B.notSynchronized
  have hK := hKN.1
  have hfix : CallFix p m c cX6_dirtiest 8 s [.ref h0, .int x1].toArray wq_c_C_dirtiest RX6 := ⟨hx, hb, hml, hown, hts⟩
  have hi5 : ∀ w ∈ wsX50, w ∈ wq_c_C_dirtiest := (sb_c sb_l)
  have hi6 : ∀ w ∈ wsX60, w ∈ wq_c_C_dirtiest := (sb_c (sb_r sb_l))
  subst hsz
  have hD := hD0.self (sz := s.heap.size)
  generalize hAe : va_A (wc_c_C_dirtiest cyB cyI cyJ cyZ cyO h0 ad sd x1) s.heap.size = A at hD ⊢
  have hA : ∀ q : Nat, s.heap.size ≤ q → A q := fun q h => by rw [← hAe]; exact Or.inr h
  have hS : va_S A s.heap s.heap [] := va_S.rf
  have hl := lv_entry ([.ref h0, .int x1]) (n := 8) (Nat.le_of_ble_eq_true rfl)
  rw [lg_entry_eq]
  generalize (lg_sl ([.ref h0, .int x1]) ++ List.replicate (8 - (lg_sl ([.ref h0, .int x1])).length) Slot.unset).toArray = ls at hl ⊢
  have hl : lv_has ls 8 [(0, .ref h0), (1, .int x1)] := hl
  refine lv_iconst (v := 0) hx hb dX6_dirtiest_0 (by decide) ?_
  refine lv_istore_n (lv' := [(2, .int 0), (0, .ref h0), (1, .int x1)]) hx hb dX6_dirtiest_1 rfl hl (by decide) rfl (fun ls hl => ?_)
  refine lv_iconst (v := (-1)) hx hb dX6_dirtiest_2 (by decide) ?_
  refine lv_istore_n (lv' := [(3, .int (-1)), (2, .int 0), (0, .ref h0), (1, .int x1)]) hx hb dX6_dirtiest_3 rfl hl (by decide) rfl (fun ls hl => ?_)
  refine lv_iconst (v := (-1)) hx hb dX6_dirtiest_4 (by decide) ?_
  refine lv_istore (lv' := [(4, .int (-1)), (3, .int (-1)), (2, .int 0), (0, .ref h0), (1, .int x1)]) hx hb dX6_dirtiest_5 hl (by decide) rfl (fun ls hl => ?_)
  refine lv_iconst (v := 0) hx hb dX6_dirtiest_7 (by decide) ?_
  refine lv_istore (lv' := [(5, .int 0), (4, .int (-1)), (3, .int (-1)), (2, .int 0), (0, .ref h0), (1, .int x1)]) hx hb dX6_dirtiest_8 hl (by decide) rfl (fun ls hl => ?_)
  refine lv_iload hx hb dX6_dirtiest_10 (lv_at hl 0 rfl) ?_
  refine lv_aload_n hx hb dX6_dirtiest_12 rfl (lv_at hl 4 rfl) ?_
  refine va_get (D := (dC, dI)) (ci := 6) (v := .ref (ad 9)) (C := RX6) (T := TX6) (N := 20) hx hb hts hi6 hown hK hP 0 rfl rfl 9 (by decide) (hts _ (ow_m (k := 0) rfl)) (fun _ h9 => h9) rfl dX6_dirtiest_13 ?_
  refine va_get (D := (dC, dI)) (ci := 5) (v := .int 0) (C := RX5) (T := TX5) (N := 13) hx hb hts hi5 hown hK hP 1 rfl rfl 7 (by decide) (hts _ (ow_m (k := 1) rfl)) (fun _ h9 => h9) rfl dX6_dirtiest_16 ?_
  refine lv_icmp_ge (tgt := 94) hx hb dX6_dirtiest_19 (by decide) (fun _ => ?_) (fun c1051 => absurd (by decide) c1051)
  refine lv_iload_n hx hb dX6_dirtiest_94 rfl (lv_at hl 3 rfl) ?_
  refine lv_if_ne (tgt := 102) hx hb dX6_dirtiest_95 (by decide) (fun c1052 => absurd (by decide) c1052) (fun _ => ?_)
  refine lv_iconst (v := (-1)) hx hb dX6_dirtiest_98 (by decide) ?_
  refine lv_goto (tgt := 110) hx hb dX6_dirtiest_99 (by decide) ?_
  exact W.iret (v := (-1)) hx hb hr (fun t ht hW => ⟨⟨(-1), (), rfl, rfl, cE.nil⟩, hS.F ht⟩) hS.2.2 dX6_dirtiest_110
def wo_c_C_soonestOf : List Cond := [.constant RX6 129 1000000, .fieldLink RX6 110 "ReplicaChain" "now" "LReplicaChain$State;", .fieldLink RX6 157 "ReplicaChain$State" "size" "I"]
def wq_c_C_soonestOf : List Cond := .code yX6_soonestOf cX6_soonestOf 7 (some .int) :: (wo_c_C_soonestOf ++ (wsX50 ++ (wsX60 ++ [])))
theorem gd_c_C_soonestOf : Gd wq_c_C_soonestOf := gd_c (gd_a (gd_o (by decide +kernel)) (gd_a gd_u (gd_a gd_u gd_0)))
abbrev wc_c_C_soonestOf (cyB cyI cyJ cyZ cyO : ClassId) (h0 : Nat) (ad : Nat → Nat) (sd : Nat → Nat) (x1 : Int32) : va_W := [(h0, .inr (6, [.ref (ad 0), .int 0, .ref (ad 2), .ref (ad 3), .ref (ad 4), .ref (ad 5), .ref (ad 6), .int 0, .int 0, .ref (ad 9), .ref (ad 10), .ref (ad 11), .ref (ad 12), .ref (ad 13), .int 0, .ref (ad 15), .int 0, .ref (ad 17), .ref (ad 18), .int 0])), (ad 9, .inr (5, [.ref (sd 0), .ref (sd 1), .ref (sd 2), .ref (sd 3), .ref (sd 4), .ref (sd 5), .ref (sd 6), .int 0, .int (-1), .int 0, .int 0, .int 0, .int 0]))]
set_option maxHeartbeats 4000000 in
set_option maxRecDepth 100000 in
theorem c_C_soonestOf (l : Launch) (dC : Nat → ClassId) (dI : Nat → Nat → Nat) (cyB cyI cyJ cyZ cyO : ClassId) (h0 : Nat) (ad : Nat → Nat) (sd : Nat → Nat) (x1 : Int32) (sz : Nat) : Met l yX6_soonestOf wq_c_C_soonestOf ({ frames := 0, cells := 0, slots := 0, locals := 0 }) (va_Pc [.ref h0, .int x1] (cB (dC, dI) (kT cyB cyI cyJ cyZ cyO) (wc_c_C_soonestOf cyB cyI cyJ cyZ cyO h0 ad sd x1) sz)) (va_Qi (fun (r : Int32) (_ : Unit) => r = -1) (fun (u : Unit) t => cE (dC, dI) (va_A (wc_c_C_soonestOf cyB cyI cyJ cyZ cyO h0 ad sd x1) sz) ([]) t.heap) (va_A (wc_c_C_soonestOf cyB cyI cyJ cyZ cyO h0 ad sd x1) sz)) 0 0 (va_A (wc_c_C_soonestOf cyB cyI cyJ cyZ cyO h0 ad sd x1) sz) := by
  refine Met.ofW (cc := cX6_soonestOf) (maxL := 7) (ret := (some .int)) (by decide) rfl ?_
  intro p e s m args below meth c s₁ B hml hv
  obtain ⟨rfl, hsz, hP, hKN, hD0⟩ := hv
  have hx := B.exec
  have hb := B.bytes
  have hr := B.returns
  have hts := atoms_spec (ws := wq_c_C_soonestOf) B.pre
  have hown : s.vm.findClass RX6 = some m.cls := findClass_of_methodNamed B.named
  have hlocks := B.notSynchronized
  have hK := hKN.1
  have hfix : CallFix p m c cX6_soonestOf 7 s [.ref h0, .int x1].toArray wq_c_C_soonestOf RX6 := ⟨hx, hb, hml, hown, hts⟩
  have hi5 : ∀ w ∈ wsX50, w ∈ wq_c_C_soonestOf := (sb_c sb_l)
  have hi6 : ∀ w ∈ wsX60, w ∈ wq_c_C_soonestOf := (sb_c (sb_r sb_l))
  subst hsz
  have hD := hD0.self (sz := s.heap.size)
  generalize hAe : va_A (wc_c_C_soonestOf cyB cyI cyJ cyZ cyO h0 ad sd x1) s.heap.size = A at hD ⊢
  have hA : ∀ q : Nat, s.heap.size ≤ q → A q := fun q h => by rw [← hAe]; exact Or.inr h
  have hS : va_S A s.heap s.heap [] := va_S.rf
  have hl := lv_entry ([.ref h0, .int x1]) (n := 7) (Nat.le_of_ble_eq_true rfl)
  rw [lg_entry_eq]
  generalize (lg_sl ([.ref h0, .int x1]) ++ List.replicate (7 - (lg_sl ([.ref h0, .int x1])).length) Slot.unset).toArray = ls at hl ⊢
  have hl : lv_has ls 7 [(0, .ref h0), (1, .int x1)] := hl
  refine lv_ldc (v := 1000000) hx hb hown (hts _ (ow_m (k := 0) rfl)) dX6_soonestOf_0 ?_
  refine lv_istore_n (lv' := [(2, .int 1000000), (0, .ref h0), (1, .int x1)]) hx hb dX6_soonestOf_2 rfl hl (by decide) rfl (fun ls hl => ?_)
  refine lv_iconst (v := (-1)) hx hb dX6_soonestOf_3 (by decide) ?_
  refine lv_istore_n (lv' := [(3, .int (-1)), (2, .int 1000000), (0, .ref h0), (1, .int x1)]) hx hb dX6_soonestOf_4 rfl hl (by decide) rfl (fun ls hl => ?_)
  refine lv_iconst (v := (-1)) hx hb dX6_soonestOf_5 (by decide) ?_
  refine lv_istore (lv' := [(4, .int (-1)), (3, .int (-1)), (2, .int 1000000), (0, .ref h0), (1, .int x1)]) hx hb dX6_soonestOf_6 hl (by decide) rfl (fun ls hl => ?_)
  refine lv_iconst (v := 0) hx hb dX6_soonestOf_8 (by decide) ?_
  refine lv_istore (lv' := [(5, .int 0), (4, .int (-1)), (3, .int (-1)), (2, .int 1000000), (0, .ref h0), (1, .int x1)]) hx hb dX6_soonestOf_9 hl (by decide) rfl (fun ls hl => ?_)
  refine lv_iload hx hb dX6_soonestOf_11 (lv_at hl 0 rfl) ?_
  refine lv_aload_n hx hb dX6_soonestOf_13 rfl (lv_at hl 4 rfl) ?_
  refine va_get (D := (dC, dI)) (ci := 6) (v := .ref (ad 9)) (C := RX6) (T := TX6) (N := 20) hx hb hts hi6 hown hK hP 0 rfl rfl 9 (by decide) (hts _ (ow_m (k := 1) rfl)) (fun _ h9 => h9) rfl dX6_soonestOf_14 ?_
  refine va_get (D := (dC, dI)) (ci := 5) (v := .int 0) (C := RX5) (T := TX5) (N := 13) hx hb hts hi5 hown hK hP 1 rfl rfl 7 (by decide) (hts _ (ow_m (k := 2) rfl)) (fun _ h9 => h9) rfl dX6_soonestOf_17 ?_
  refine lv_iconst (v := 1) hx hb dX6_soonestOf_20 (by decide) ?_
  refine lv_isub hx hb dX6_soonestOf_21 ?_
  refine tp_c (w := (-1)) (by decide) ?_
  refine lv_icmp_ge (tgt := 94) hx hb dX6_soonestOf_22 (by decide) (fun _ => ?_) (fun c1055 => absurd (by decide) c1055)
  refine lv_iload_n hx hb dX6_soonestOf_94 rfl (lv_at hl 2 rfl) ?_
  refine lv_iconst (v := (-1)) hx hb dX6_soonestOf_95 (by decide) ?_
  refine lv_icmp_ne (tgt := 103) hx hb dX6_soonestOf_96 (by decide) (fun c1056 => absurd (by decide) c1056) (fun _ => ?_)
  refine lv_iconst (v := (-1)) hx hb dX6_soonestOf_99 (by decide) ?_
  refine lv_goto (tgt := 111) hx hb dX6_soonestOf_100 (by decide) ?_
  exact W.iret (v := (-1)) hx hb hr (fun t ht hW => ⟨⟨(-1), (), rfl, rfl, cE.nil⟩, hS.F ht⟩) hS.2.2 dX6_soonestOf_111
def wo_c_C_idle : List Cond := [.fieldLink RX6 16 "ReplicaChain" "plan" "LReplicaChain$Plan;", .fieldLink RX6 179 "ReplicaChain$Plan" "nodeCount" "I", .fieldLink RX6 110 "ReplicaChain" "now" "LReplicaChain$State;", .methodLink RX6 270 yX5_memberBits, .instanceMethod yX5_memberBits, .selects RX5 yX5_memberBits yX5_memberBits, .initialized RX5]
def wq_c_C_idle : List Cond := .code yX6_idle cX6_idle 1 (some .int) :: (wo_c_C_idle ++ (wq_k_X5_memberBits ++ (wsX10 ++ (wsX60 ++ []))))
theorem gd_c_C_idle : Gd wq_c_C_idle := gd_c (gd_a (gd_o (by decide +kernel)) (gd_a gd_k_X5_memberBits (gd_a gd_u (gd_a gd_u gd_0))))
abbrev wc_c_C_idle (cyB cyI cyJ cyZ cyO : ClassId) (h0 : Nat) (ad : Nat → Nat) (pd : Nat → Nat) (sd : Nat → Nat) : va_W := [(h0, .inr (6, [.ref (ad 0), .int 0, .ref (ad 2), .ref (ad 3), .ref (ad 4), .ref (ad 5), .ref (ad 6), .int 0, .int 0, .ref (ad 9), .ref (ad 10), .ref (ad 11), .ref (ad 12), .ref (ad 13), .int 0, .ref (ad 15), .int 0, .ref (ad 17), .ref (ad 18), .int 0])), (ad 2, .inr (1, [.ref (pd 0), .ref (pd 1), .ref (pd 2), .ref (pd 3), .int 0, .int 0, .int 0, .int 0, .int 2, .int 0, .int 0])), (ad 9, .inr (5, [.ref (sd 0), .ref (sd 1), .ref (sd 2), .ref (sd 3), .ref (sd 4), .ref (sd 5), .ref (sd 6), .int 0, .int (-1), .int 0, .int 0, .int 0, .int 0]))]
set_option maxHeartbeats 4000000 in
set_option maxRecDepth 100000 in
theorem c_C_idle (l : Launch) (dC : Nat → ClassId) (dI : Nat → Nat → Nat) (cyB cyI cyJ cyZ cyO : ClassId) (h0 : Nat) (ad : Nat → Nat) (pd : Nat → Nat) (sd : Nat → Nat) (sz : Nat) : Met l yX6_idle wq_c_C_idle ({ frames := 1, cells := 0, slots := 0, locals := 22 }) (va_Pc [.ref h0] (cB (dC, dI) (kT cyB cyI cyJ cyZ cyO) (wc_c_C_idle cyB cyI cyJ cyZ cyO h0 ad pd sd) sz)) (va_Qi (fun (r : Int32) (_ : Unit) => r = 0) (fun (u : Unit) t => cE (dC, dI) (va_A (wc_c_C_idle cyB cyI cyJ cyZ cyO h0 ad pd sd) sz) ([]) t.heap) (va_A (wc_c_C_idle cyB cyI cyJ cyZ cyO h0 ad pd sd) sz)) 0 0 (va_A (wc_c_C_idle cyB cyI cyJ cyZ cyO h0 ad pd sd) sz) := by
  refine Met.ofW (cc := cX6_idle) (maxL := 1) (ret := (some .int)) (by decide) rfl ?_
  intro p e s m args below meth c s₁ B hml hv
  obtain ⟨rfl, hsz, hP, hKN, hD0⟩ := hv
  have hx := B.exec
  have hb := B.bytes
  have hr := B.returns
  have hts := atoms_spec (ws := wq_c_C_idle) B.pre
  have hown : s.vm.findClass RX6 = some m.cls := findClass_of_methodNamed B.named
  have hlocks := B.notSynchronized
  have hK := hKN.1
  have hfix : CallFix p m c cX6_idle 1 s [.ref h0].toArray wq_c_C_idle RX6 := ⟨hx, hb, hml, hown, hts⟩
  have hi1 : ∀ w ∈ wsX10, w ∈ wq_c_C_idle := (sb_c (sb_r sb_l))
  have hi6 : ∀ w ∈ wsX60, w ∈ wq_c_C_idle := (sb_c (sb_r (sb_r sb_l)))
  subst hsz
  have hD := hD0.self (sz := s.heap.size)
  generalize hAe : va_A (wc_c_C_idle cyB cyI cyJ cyZ cyO h0 ad pd sd) s.heap.size = A at hD ⊢
  have hA : ∀ q : Nat, s.heap.size ≤ q → A q := fun q h => by rw [← hAe]; exact Or.inr h
  have hS : va_S A s.heap s.heap [] := va_S.rf
  have hl := lv_entry ([.ref h0]) (n := 1) (Nat.le_of_ble_eq_true rfl)
  rw [lg_entry_eq]
  generalize (lg_sl ([.ref h0]) ++ List.replicate (1 - (lg_sl ([.ref h0])).length) Slot.unset).toArray = ls at hl ⊢
  have hl : lv_has ls 1 [(0, .ref h0)] := hl
  refine lv_iconst (v := 1) hx hb dX6_idle_0 (by decide) ?_
  refine lv_aload_n hx hb dX6_idle_1 rfl (lv_at hl 0 rfl) ?_
  refine va_get (D := (dC, dI)) (ci := 6) (v := .ref (ad 2)) (C := RX6) (T := TX6) (N := 20) hx hb hts hi6 hown hK hP 0 rfl rfl 2 (by decide) (hts _ (ow_m (k := 0) rfl)) (fun _ h9 => h9) rfl dX6_idle_2 ?_
  refine va_get (D := (dC, dI)) (ci := 1) (v := .int 0) (C := RX1) (T := TX1) (N := 11) hx hb hts hi1 hown hK hP 1 rfl rfl 5 (by decide) (hts _ (ow_m (k := 1) rfl)) (fun _ h9 => h9) rfl dX6_idle_5 ?_
  refine lv_ishl hx hb dX6_idle_8 ?_
  refine tp_c (w := 1) (by decide) ?_
  refine lv_iconst (v := 1) hx hb dX6_idle_9 (by decide) ?_
  refine lv_isub hx hb dX6_idle_10 ?_
  refine tp_c (w := 0) (by decide) ?_
  refine lv_aload_n hx hb dX6_idle_11 rfl (lv_at hl 0 rfl) ?_
  refine va_get (D := (dC, dI)) (ci := 6) (v := .ref (ad 9)) (C := RX6) (T := TX6) (N := 20) hx hb hts hi6 hown hK hP 0 rfl rfl 9 (by decide) (hts _ (ow_m (k := 2) rfl)) (fun _ h9 => h9) rfl dX6_idle_12 ?_
  refine gf_i (wr := [(h0, .inr (6, [.ref (ad 0), .int 0, .ref (ad 2), .ref (ad 3), .ref (ad 4), .ref (ad 5), .ref (ad 6), .int 0, .int 0, .ref (ad 9), .ref (ad 10), .ref (ad 11), .ref (ad 12), .ref (ad 13), .int 0, .ref (ad 15), .int 0, .ref (ad 17), .ref (ad 18), .int 0])), (ad 2, .inr (1, [.ref (pd 0), .ref (pd 1), .ref (pd 2), .ref (pd 3), .int 0, .int 0, .int 0, .int 0, .int 2, .int 0, .int 0]))]) (va_runV (As := []) (rest := [.int 0]) hfix (k_X5_memberBits l dC dI cyB cyI cyJ cyZ cyO ad sd _) (cwV 0 hts (gi_V (ow_m (k := 3) rfl) (ow_m (k := 4) rfl) (ow_m (k := 5) rfl) (ow_m (k := 6) rfl) (sb_c sb_l) gd_k_X5_memberBits) rfl rfl rfl (by decide +kernel) ⟨Nat.le_of_ble_eq_true rfl, Nat.le_of_ble_eq_true rfl⟩) (g_preV hKN hP hD [2] rfl (by decide) 0 5 rfl rfl) rfl rfl hl.1 rfl (lv_room (Nat.le_of_ble_eq_true rfl)) dX6_idle_15 ⟨Nat.le_of_ble_eq_true rfl, Nat.le_of_ble_eq_true rfl⟩) hP hD hS hA [2] [0, 1] rfl rfl (by decide) (by decide) (fun r1061 u1062 H locs qu1062 hP hD hS => ?_)
  have hP : va_P (dC, dI) vwCl [(h0, .inr (6, [.ref (ad 0), .int 0, .ref (ad 2), .ref (ad 3), .ref (ad 4), .ref (ad 5), .ref (ad 6), .int 0, .int 0, .ref (ad 9), .ref (ad 10), .ref (ad 11), .ref (ad 12), .ref (ad 13), .int 0, .ref (ad 15), .int 0, .ref (ad 17), .ref (ad 18), .int 0])), (ad 2, .inr (1, [.ref (pd 0), .ref (pd 1), .ref (pd 2), .ref (pd 3), .int 0, .int 0, .int 0, .int 0, .int 2, .int 0, .int 0])), (ad 9, .inr (5, [.ref (sd 0), .ref (sd 1), .ref (sd 2), .ref (sd 3), .ref (sd 4), .ref (sd 5), .ref (sd 6), .int 0, .int (-1), .int 0, .int 0, .int 0, .int 0]))] H := hP
  have hD : va_D A [(h0, .inr (6, [.ref (ad 0), .int 0, .ref (ad 2), .ref (ad 3), .ref (ad 4), .ref (ad 5), .ref (ad 6), .int 0, .int 0, .ref (ad 9), .ref (ad 10), .ref (ad 11), .ref (ad 12), .ref (ad 13), .int 0, .ref (ad 15), .int 0, .ref (ad 17), .ref (ad 18), .int 0])), (ad 2, .inr (1, [.ref (pd 0), .ref (pd 1), .ref (pd 2), .ref (pd 3), .int 0, .int 0, .int 0, .int 0, .int 2, .int 0, .int 0])), (ad 9, .inr (5, [.ref (sd 0), .ref (sd 1), .ref (sd 2), .ref (sd 3), .ref (sd 4), .ref (sd 5), .ref (sd 6), .int 0, .int (-1), .int 0, .int 0, .int 0, .int 0]))] := hD
  refine tp_c (w := 0) qu1062 ?_
  refine lv_iconst (v := (-1)) hx hb dX6_idle_18 (by decide) ?_
  refine lv_ixor hx hb dX6_idle_19 ?_
  refine tp_c (w := (-1)) (by decide) ?_
  refine lv_iand hx hb dX6_idle_20 ?_
  refine tp_c (w := 0) (by decide) ?_
  exact W.iret (v := 0) hx hb hr (fun t ht hW => ⟨⟨0, (), rfl, rfl, cE.nil⟩, hS.F ht⟩) hS.2.2 dX6_idle_21
def wo_c_C_law : List Cond := [.methodLink RX6 211 yX6_canGive, .instanceMethod yX6_canGive, .selects RX6 yX6_canGive yX6_canGive, .initialized RX6]
def wq_c_C_law : List Cond := .code yX6_law cX6_law 4 (some .int) :: (wo_c_C_law ++ (wq_k_X6_canGive ++ []))
theorem gd_c_C_law : Gd wq_c_C_law := gd_c (gd_a (gd_o (by decide +kernel)) (gd_a gd_k_X6_canGive gd_0))
abbrev wc_c_C_law (cyB cyI cyJ cyZ cyO : ClassId) (h0 : Nat) (ad : Nat → Nat) (sd : Nat → Nat) (x1 : Int32) : va_W := [(h0, .inr (6, [.ref (ad 0), .int 0, .ref (ad 2), .ref (ad 3), .ref (ad 4), .ref (ad 5), .ref (ad 6), .int 0, .int 0, .ref (ad 9), .ref (ad 10), .ref (ad 11), .ref (ad 12), .ref (ad 13), .int 0, .ref (ad 15), .int 0, .ref (ad 17), .ref (ad 18), .int 0])), (ad 9, .inr (5, [.ref (sd 0), .ref (sd 1), .ref (sd 2), .ref (sd 3), .ref (sd 4), .ref (sd 5), .ref (sd 6), .int 0, .int (-1), .int 0, .int 0, .int 0, .int 0]))]
set_option maxHeartbeats 4000000 in
set_option maxRecDepth 100000 in
theorem c_C_law (l : Launch) (dC : Nat → ClassId) (dI : Nat → Nat → Nat) (cyB cyI cyJ cyZ cyO : ClassId) (h0 : Nat) (ad : Nat → Nat) (sd : Nat → Nat) (x1 : Int32) (sz : Nat) : Met l yX6_law wq_c_C_law ({ frames := 1, cells := 0, slots := 0, locals := 20 }) (va_Pc [.ref h0, .int x1] (cB (dC, dI) (kT cyB cyI cyJ cyZ cyO) (wc_c_C_law cyB cyI cyJ cyZ cyO h0 ad sd x1) sz)) (va_Qi (fun (r : Int32) (_ : Unit) => r = -1) (fun (u : Unit) t => cE (dC, dI) (va_A (wc_c_C_law cyB cyI cyJ cyZ cyO h0 ad sd x1) sz) ([]) t.heap) (va_A (wc_c_C_law cyB cyI cyJ cyZ cyO h0 ad sd x1) sz)) 0 0 (va_A (wc_c_C_law cyB cyI cyJ cyZ cyO h0 ad sd x1) sz) := by
  refine Met.ofW (cc := cX6_law) (maxL := 4) (ret := (some .int)) (by decide) rfl ?_
  intro p e s m args below meth c s₁ B hml hv
  obtain ⟨rfl, hsz, hP, hKN, hD0⟩ := hv
  have hx := B.exec
  have hb := B.bytes
  have hr := B.returns
  have hts := atoms_spec (ws := wq_c_C_law) B.pre
  have hown : s.vm.findClass RX6 = some m.cls := findClass_of_methodNamed B.named
  have hlocks := B.notSynchronized
  have hK := hKN.1
  have hfix : CallFix p m c cX6_law 4 s [.ref h0, .int x1].toArray wq_c_C_law RX6 := ⟨hx, hb, hml, hown, hts⟩
  subst hsz
  have hD := hD0.self (sz := s.heap.size)
  generalize hAe : va_A (wc_c_C_law cyB cyI cyJ cyZ cyO h0 ad sd x1) s.heap.size = A at hD ⊢
  have hA : ∀ q : Nat, s.heap.size ≤ q → A q := fun q h => by rw [← hAe]; exact Or.inr h
  have hS : va_S A s.heap s.heap [] := va_S.rf
  have hl := lv_entry ([.ref h0, .int x1]) (n := 4) (Nat.le_of_ble_eq_true rfl)
  rw [lg_entry_eq]
  generalize (lg_sl ([.ref h0, .int x1]) ++ List.replicate (4 - (lg_sl ([.ref h0, .int x1])).length) Slot.unset).toArray = ls at hl ⊢
  have hl : lv_has ls 4 [(0, .ref h0), (1, .int x1)] := hl
  refine lv_iload_n hx hb dX6_law_0 rfl (lv_at hl 1 rfl) ?_
  refine lv_iconst (v := 1) hx hb dX6_law_1 (by decide) ?_
  refine lv_icmp_lt (tgt := 18) hx hb dX6_law_2 (by decide) (fun c1069 => ?_) (fun c1069 => ?_)
  · have c1069 := i_lt (a := x1.toInt) (b := 1) c1069 rfl (by decide)
    refine lv_iconst (v := (-1)) hx hb dX6_law_18 (by decide) ?_
    exact W.iret (v := (-1)) hx hb hr (fun t ht hW => ⟨⟨(-1), (), rfl, rfl, cE.nil⟩, hS.F ht⟩) hS.2.2 dX6_law_19
  · have c1069 := i_nlt (a := x1.toInt) (b := 1) c1069 rfl (by decide)
    refine lv_iload_n hx hb dX6_law_5 rfl (lv_at hl 1 rfl) ?_
    refine lv_bipush (v := 9) hx hb dX6_law_6 (by decide) ?_
    refine lv_icmp_gt (tgt := 18) hx hb dX6_law_8 (by decide) (fun c1070 => ?_) (fun c1070 => ?_)
    · have c1070 := i_lt (a := 9) (b := x1.toInt) c1070 (by decide) rfl
      refine lv_iconst (v := (-1)) hx hb dX6_law_18 (by decide) ?_
      exact W.iret (v := (-1)) hx hb hr (fun t ht hW => ⟨⟨(-1), (), rfl, rfl, cE.nil⟩, hS.F ht⟩) hS.2.2 dX6_law_19
    · have c1070 := i_nlt (a := 9) (b := x1.toInt) c1070 (by decide) rfl
      refine lv_aload_n hx hb dX6_law_11 rfl (lv_at hl 0 rfl) ?_
      refine gf_i (wr := []) (va_runV (As := []) (rest := []) hfix (k_X6_canGive l dC dI cyB cyI cyJ cyZ cyO h0 ad sd _) (cwV 0 hts (gi_V (ow_m (k := 0) rfl) (ow_m (k := 1) rfl) (ow_m (k := 2) rfl) (ow_m (k := 3) rfl) (sb_c sb_l) gd_k_X6_canGive) rfl rfl rfl (by decide +kernel) ⟨Nat.le_of_ble_eq_true rfl, Nat.le_of_ble_eq_true rfl⟩) (g_preV hKN hP hD [0, 1] rfl (by decide) 0 6 rfl rfl) rfl rfl hl.1 rfl (lv_room (Nat.le_of_ble_eq_true rfl)) dX6_law_12 ⟨Nat.le_of_ble_eq_true rfl, Nat.le_of_ble_eq_true rfl⟩) hP hD hS hA [0, 1] [] rfl rfl (by decide) (by decide) (fun r1072 u1073 H locs qu1073 hP hD hS => ?_)
      have hP : va_P (dC, dI) vwCl [(h0, .inr (6, [.ref (ad 0), .int 0, .ref (ad 2), .ref (ad 3), .ref (ad 4), .ref (ad 5), .ref (ad 6), .int 0, .int 0, .ref (ad 9), .ref (ad 10), .ref (ad 11), .ref (ad 12), .ref (ad 13), .int 0, .ref (ad 15), .int 0, .ref (ad 17), .ref (ad 18), .int 0])), (ad 9, .inr (5, [.ref (sd 0), .ref (sd 1), .ref (sd 2), .ref (sd 3), .ref (sd 4), .ref (sd 5), .ref (sd 6), .int 0, .int (-1), .int 0, .int 0, .int 0, .int 0]))] H := hP
      have hD : va_D A [(h0, .inr (6, [.ref (ad 0), .int 0, .ref (ad 2), .ref (ad 3), .ref (ad 4), .ref (ad 5), .ref (ad 6), .int 0, .int 0, .ref (ad 9), .ref (ad 10), .ref (ad 11), .ref (ad 12), .ref (ad 13), .int 0, .ref (ad 15), .int 0, .ref (ad 17), .ref (ad 18), .int 0])), (ad 9, .inr (5, [.ref (sd 0), .ref (sd 1), .ref (sd 2), .ref (sd 3), .ref (sd 4), .ref (sd 5), .ref (sd 6), .int 0, .int (-1), .int 0, .int 0, .int 0, .int 0]))] := hD
      refine tp_c (w := 0) qu1073 ?_
      refine lv_if_ne (tgt := 20) hx hb dX6_law_15 (by decide) (fun c1074 => absurd (by decide) c1074) (fun _ => ?_)
      refine lv_iconst (v := (-1)) hx hb dX6_law_18 (by decide) ?_
      exact W.iret (v := (-1)) hx hb hr (fun t ht hW => ⟨⟨(-1), (), rfl, rfl, cE.nil⟩, hS.F ht⟩) hS.2.2 dX6_law_19
def wo_k_X6_commonDivisor : List Cond := []
def wq_k_X6_commonDivisor : List Cond := .code yX6_commonDivisor cX6_commonDivisor 6 (some .int) :: (wo_k_X6_commonDivisor ++ [])
theorem gd_k_X6_commonDivisor : Gd wq_k_X6_commonDivisor := gd_c (gd_a (gd_o (by decide +kernel)) gd_0)
abbrev wc_k_X6_commonDivisor (cyB cyI cyJ cyZ cyO : ClassId) : va_W := []
set_option maxHeartbeats 4000000 in
set_option maxRecDepth 100000 in
theorem k_X6_commonDivisor (l : Launch) (dC : Nat → ClassId) (dI : Nat → Nat → Nat) (cyB cyI cyJ cyZ cyO : ClassId) (sz : Nat) : Met l yX6_commonDivisor wq_k_X6_commonDivisor ({ frames := 0, cells := 0, slots := 0, locals := 0 }) (va_Pc [.int 1, .int 1] (cB (dC, dI) (kT cyB cyI cyJ cyZ cyO) (wc_k_X6_commonDivisor cyB cyI cyJ cyZ cyO) sz)) (va_Qi (fun (r : Int32) _ => r = 1) (fun (u : Unit) t => cE (dC, dI) (va_A (wc_k_X6_commonDivisor cyB cyI cyJ cyZ cyO) sz) ([]) t.heap) (va_A (wc_k_X6_commonDivisor cyB cyI cyJ cyZ cyO) sz)) 0 0 (va_A (wc_k_X6_commonDivisor cyB cyI cyJ cyZ cyO) sz) := by
  refine Met.ofW (cc := cX6_commonDivisor) (maxL := 6) (ret := (some .int)) (by decide) rfl ?_
  intro p e s m args below meth c s₁ B hml hv
  obtain ⟨rfl, hsz, hP, hKN, hD0⟩ := hv
  have hx := B.exec
  have hb := B.bytes
  have hr := B.returns
  have hts := atoms_spec (ws := wq_k_X6_commonDivisor) B.pre
  have hown : s.vm.findClass RX6 = some m.cls := findClass_of_methodNamed B.named
  have hlocks := B.notSynchronized
  have hK := hKN.1
  have hfix : CallFix p m c cX6_commonDivisor 6 s [.int 1, .int 1].toArray wq_k_X6_commonDivisor RX6 := ⟨hx, hb, hml, hown, hts⟩
  subst hsz
  have hD := hD0.self (sz := s.heap.size)
  generalize hAe : va_A (wc_k_X6_commonDivisor cyB cyI cyJ cyZ cyO) s.heap.size = A at hD ⊢
  have hA : ∀ q : Nat, s.heap.size ≤ q → A q := fun q h => by rw [← hAe]; exact Or.inr h
  have hS : va_S A s.heap s.heap [] := va_S.rf
  have hl := lv_entry ([.int 1, .int 1]) (n := 6) (Nat.le_of_ble_eq_true rfl)
  rw [lg_entry_eq]
  generalize (lg_sl ([.int 1, .int 1]) ++ List.replicate (6 - (lg_sl ([.int 1, .int 1])).length) Slot.unset).toArray = ls at hl ⊢
  have hl : lv_has ls 6 [(0, .int 1), (1, .int 1)] := hl
  refine lv_iload_n hx hb dX6_commonDivisor_0 rfl (lv_at hl 0 rfl) ?_
  refine lv_istore_n (lv' := [(2, .int 1), (0, .int 1), (1, .int 1)]) hx hb dX6_commonDivisor_1 rfl hl (by decide) rfl (fun ls hl => ?_)
  refine lv_iload_n hx hb dX6_commonDivisor_2 rfl (lv_at hl 2 rfl) ?_
  refine lv_istore_n (lv' := [(3, .int 1), (2, .int 1), (0, .int 1), (1, .int 1)]) hx hb dX6_commonDivisor_3 rfl hl (by decide) rfl (fun ls hl => ?_)
  refine lv_iconst (v := 0) hx hb dX6_commonDivisor_4 (by decide) ?_
  refine lv_istore (lv' := [(4, .int 0), (3, .int 1), (2, .int 1), (0, .int 1), (1, .int 1)]) hx hb dX6_commonDivisor_5 hl (by decide) rfl (fun ls hl => ?_)
  refine lv_iload hx hb dX6_commonDivisor_7 (lv_at hl 0 rfl) ?_
  refine lv_bipush (v := 64) hx hb dX6_commonDivisor_9 (by decide) ?_
  refine lv_icmp_ge (tgt := 34) hx hb dX6_commonDivisor_11 (by decide) (fun c1084 => absurd c1084 (by decide)) (fun _ => ?_)
  refine lv_iload_n hx hb dX6_commonDivisor_14 rfl (lv_at hl 1 rfl) ?_
  refine lv_if_eq (tgt := 34) hx hb dX6_commonDivisor_15 (by decide) (fun c1085 => absurd c1085 (by decide)) (fun _ => ?_)
  refine lv_iload_n hx hb dX6_commonDivisor_18 rfl (lv_at hl 2 rfl) ?_
  refine lv_iload_n hx hb dX6_commonDivisor_19 rfl (lv_at hl 1 rfl) ?_
  refine lv_irem hx hb dX6_commonDivisor_20 (by decide) ?_
  refine tp_c (w := 0) (by decide) ?_
  refine lv_istore (lv' := [(5, .int 0), (4, .int 0), (3, .int 1), (2, .int 1), (0, .int 1), (1, .int 1)]) hx hb dX6_commonDivisor_21 hl (by decide) rfl (fun ls hl => ?_)
  refine lv_iload_n hx hb dX6_commonDivisor_23 rfl (lv_at hl 2 rfl) ?_
  refine lv_istore_n (lv' := [(2, .int 1), (5, .int 0), (4, .int 0), (3, .int 1), (0, .int 1), (1, .int 1)]) hx hb dX6_commonDivisor_24 rfl hl (by decide) rfl (fun ls hl => ?_)
  refine lv_iload hx hb dX6_commonDivisor_25 (lv_at hl 1 rfl) ?_
  refine lv_istore_n (lv' := [(3, .int 0), (2, .int 1), (5, .int 0), (4, .int 0), (0, .int 1), (1, .int 1)]) hx hb dX6_commonDivisor_27 rfl hl (by decide) rfl (fun ls hl => ?_)
  refine lv_iinc (v := 1) (lv' := [(4, .int 1), (3, .int 0), (2, .int 1), (5, .int 0), (0, .int 1), (1, .int 1)]) hx hb dX6_commonDivisor_28 hl (k := 3) rfl (by decide) (by decide) rfl (fun ls hl => ?_)
  refine lv_goto (tgt := 7) hx hb dX6_commonDivisor_31 (by decide) ?_
  refine lv_iload hx hb dX6_commonDivisor_7 (lv_at hl 0 rfl) ?_
  refine lv_bipush (v := 64) hx hb dX6_commonDivisor_9 (by decide) ?_
  refine lv_icmp_ge (tgt := 34) hx hb dX6_commonDivisor_11 (by decide) (fun c1086 => absurd c1086 (by decide)) (fun _ => ?_)
  refine lv_iload_n hx hb dX6_commonDivisor_14 rfl (lv_at hl 1 rfl) ?_
  refine lv_if_eq (tgt := 34) hx hb dX6_commonDivisor_15 (by decide) (fun _ => ?_) (fun c1087 => absurd (by decide) c1087)
  refine lv_iload_n hx hb dX6_commonDivisor_34 rfl (lv_at hl 2 rfl) ?_
  exact W.iret (v := 1) hx hb hr (fun t ht hW => ⟨⟨1, (), rfl, rfl, cE.of ht hP hD [] (by decide) rfl⟩, hS.F ht⟩) hS.2.2 dX6_commonDivisor_35
def wo_k_X6_canLoseBehind : List Cond := [.fieldLink RX6 110 "ReplicaChain" "now" "LReplicaChain$State;", .fieldLink RX6 176 "ReplicaChain$State" "copier" "I", .fieldLink RX6 157 "ReplicaChain$State" "size" "I"]
def wq_k_X6_canLoseBehind : List Cond := .code yX6_canLoseBehind cX6_canLoseBehind 3 (some .boolean) :: (wo_k_X6_canLoseBehind ++ (wsX50 ++ (wsX60 ++ [])))
theorem gd_k_X6_canLoseBehind : Gd wq_k_X6_canLoseBehind := gd_c (gd_a (gd_o (by decide +kernel)) (gd_a gd_u (gd_a gd_u gd_0)))
abbrev wc_k_X6_canLoseBehind (cyB cyI cyJ cyZ cyO : ClassId) (h0 : Nat) (ad : Nat → Nat) (sd : Nat → Nat) : va_W := [(h0, .inr (6, [.ref (ad 0), .int 0, .ref (ad 2), .ref (ad 3), .ref (ad 4), .ref (ad 5), .ref (ad 6), .int 0, .int 0, .ref (ad 9), .ref (ad 10), .ref (ad 11), .ref (ad 12), .ref (ad 13), .int 0, .ref (ad 15), .int 0, .ref (ad 17), .ref (ad 18), .int 0])), (ad 9, .inr (5, [.ref (sd 0), .ref (sd 1), .ref (sd 2), .ref (sd 3), .ref (sd 4), .ref (sd 5), .ref (sd 6), .int 0, .int (-1), .int 0, .int 0, .int 0, .int 0]))]
set_option maxHeartbeats 4000000 in
set_option maxRecDepth 100000 in
theorem k_X6_canLoseBehind (l : Launch) (dC : Nat → ClassId) (dI : Nat → Nat → Nat) (cyB cyI cyJ cyZ cyO : ClassId) (h0 : Nat) (ad : Nat → Nat) (sd : Nat → Nat) (sz : Nat) : Met l yX6_canLoseBehind wq_k_X6_canLoseBehind ({ frames := 0, cells := 0, slots := 0, locals := 0 }) (va_Pc [.ref h0, .int 1] (cB (dC, dI) (kT cyB cyI cyJ cyZ cyO) (wc_k_X6_canLoseBehind cyB cyI cyJ cyZ cyO h0 ad sd) sz)) (va_Qi (fun (r : Int32) _ => r = 0) (fun (u : Unit) t => cE (dC, dI) (va_A (wc_k_X6_canLoseBehind cyB cyI cyJ cyZ cyO h0 ad sd) sz) ([(h0, .inr (6, [.ref (ad 0), .int 0, .ref (ad 2), .ref (ad 3), .ref (ad 4), .ref (ad 5), .ref (ad 6), .int 0, .int 0, .ref (ad 9), .ref (ad 10), .ref (ad 11), .ref (ad 12), .ref (ad 13), .int 0, .ref (ad 15), .int 0, .ref (ad 17), .ref (ad 18), .int 0])), (ad 9, .inr (5, [.ref (sd 0), .ref (sd 1), .ref (sd 2), .ref (sd 3), .ref (sd 4), .ref (sd 5), .ref (sd 6), .int 0, .int (-1), .int 0, .int 0, .int 0, .int 0]))]) t.heap) (va_A (wc_k_X6_canLoseBehind cyB cyI cyJ cyZ cyO h0 ad sd) sz)) 0 0 (va_A (wc_k_X6_canLoseBehind cyB cyI cyJ cyZ cyO h0 ad sd) sz) := by
  refine Met.ofW (cc := cX6_canLoseBehind) (maxL := 3) (ret := (some .boolean)) (by decide) rfl ?_
  intro p e s m args below meth c s₁ B hml hv
  obtain ⟨rfl, hsz, hP, hKN, hD0⟩ := hv
  have hx := B.exec
  have hb := B.bytes
  have hr := B.returns
  have hts := atoms_spec (ws := wq_k_X6_canLoseBehind) B.pre
  have hown : s.vm.findClass RX6 = some m.cls := findClass_of_methodNamed B.named
  have hlocks := B.notSynchronized
  have hK := hKN.1
  have hfix : CallFix p m c cX6_canLoseBehind 3 s [.ref h0, .int 1].toArray wq_k_X6_canLoseBehind RX6 := ⟨hx, hb, hml, hown, hts⟩
  have hi5 : ∀ w ∈ wsX50, w ∈ wq_k_X6_canLoseBehind := (sb_c sb_l)
  have hi6 : ∀ w ∈ wsX60, w ∈ wq_k_X6_canLoseBehind := (sb_c (sb_r sb_l))
  subst hsz
  have hD := hD0.self (sz := s.heap.size)
  generalize hAe : va_A (wc_k_X6_canLoseBehind cyB cyI cyJ cyZ cyO h0 ad sd) s.heap.size = A at hD ⊢
  have hA : ∀ q : Nat, s.heap.size ≤ q → A q := fun q h => by rw [← hAe]; exact Or.inr h
  have hS : va_S A s.heap s.heap [] := va_S.rf
  have hl := lv_entry ([.ref h0, .int 1]) (n := 3) (Nat.le_of_ble_eq_true rfl)
  rw [lg_entry_eq]
  generalize (lg_sl ([.ref h0, .int 1]) ++ List.replicate (3 - (lg_sl ([.ref h0, .int 1])).length) Slot.unset).toArray = ls at hl ⊢
  have hl : lv_has ls 3 [(0, .ref h0), (1, .int 1)] := hl
  refine lv_aload_n hx hb dX6_canLoseBehind_0 rfl (lv_at hl 0 rfl) ?_
  refine va_get (D := (dC, dI)) (ci := 6) (v := .ref (ad 9)) (C := RX6) (T := TX6) (N := 20) hx hb hts hi6 hown hK hP 0 rfl rfl 9 (by decide) (hts _ (ow_m (k := 0) rfl)) (fun _ h9 => h9) rfl dX6_canLoseBehind_1 ?_
  refine va_get (D := (dC, dI)) (ci := 5) (v := .int (-1)) (C := RX5) (T := TX5) (N := 13) hx hb hts hi5 hown hK hP 1 rfl rfl 8 (by decide) (hts _ (ow_m (k := 1) rfl)) (fun _ h9 => h9) rfl dX6_canLoseBehind_4 ?_
  refine lv_iconst (v := (-1)) hx hb dX6_canLoseBehind_7 (by decide) ?_
  refine lv_icmp_eq (tgt := 26) hx hb dX6_canLoseBehind_8 (by decide) (fun _ => ?_) (fun c1095 => absurd (by decide) c1095)
  refine lv_iconst (v := 0) hx hb dX6_canLoseBehind_26 (by decide) ?_
  refine lv_istore_n (lv' := [(2, .int 0), (0, .ref h0), (1, .int 1)]) hx hb dX6_canLoseBehind_27 rfl hl (by decide) rfl (fun ls hl => ?_)
  refine lv_aload_n hx hb dX6_canLoseBehind_28 rfl (lv_at hl 1 rfl) ?_
  refine va_get (D := (dC, dI)) (ci := 6) (v := .ref (ad 9)) (C := RX6) (T := TX6) (N := 20) hx hb hts hi6 hown hK hP 0 rfl rfl 9 (by decide) (hts _ (ow_m (k := 0) rfl)) (fun _ h9 => h9) rfl dX6_canLoseBehind_29 ?_
  refine va_get (D := (dC, dI)) (ci := 5) (v := .int 0) (C := RX5) (T := TX5) (N := 13) hx hb hts hi5 hown hK hP 1 rfl rfl 7 (by decide) (hts _ (ow_m (k := 2) rfl)) (fun _ h9 => h9) rfl dX6_canLoseBehind_32 ?_
  refine lv_iload_n hx hb dX6_canLoseBehind_35 rfl (lv_at hl 0 rfl) ?_
  refine lv_if_eq (tgt := 43) hx hb dX6_canLoseBehind_36 (by decide) (fun _ => ?_) (fun c1096 => absurd (by decide) c1096)
  refine lv_iconst (v := 0) hx hb dX6_canLoseBehind_43 (by decide) ?_
  refine lv_iadd hx hb dX6_canLoseBehind_44 ?_
  refine tp_c (w := 0) (by decide) ?_
  refine lv_iconst (v := 2) hx hb dX6_canLoseBehind_45 (by decide) ?_
  refine lv_icmp_lt (tgt := 53) hx hb dX6_canLoseBehind_46 (by decide) (fun _ => ?_) (fun c1097 => absurd (by decide) c1097)
  refine lv_iconst (v := 0) hx hb dX6_canLoseBehind_53 (by decide) ?_
  exact W.zret (v := 0) hx hb hr (by decide) (fun t ht hW => ⟨⟨0, (), rfl, rfl, cE.of ht hP hD [0, 1] (by decide) rfl⟩, hS.F ht⟩) hS.2.2 dX6_canLoseBehind_54
def wo_k_X6_canLoseBehind_v2 : List Cond := [.fieldLink RX6 110 "ReplicaChain" "now" "LReplicaChain$State;", .fieldLink RX6 176 "ReplicaChain$State" "copier" "I", .fieldLink RX6 157 "ReplicaChain$State" "size" "I"]
def wq_k_X6_canLoseBehind_v2 : List Cond := .code yX6_canLoseBehind cX6_canLoseBehind 3 (some .boolean) :: (wo_k_X6_canLoseBehind_v2 ++ (wsX50 ++ (wsX60 ++ [])))
theorem gd_k_X6_canLoseBehind_v2 : Gd wq_k_X6_canLoseBehind_v2 := gd_c (gd_a (gd_o (by decide +kernel)) (gd_a gd_u (gd_a gd_u gd_0)))
abbrev wc_k_X6_canLoseBehind_v2 (cyB cyI cyJ cyZ cyO : ClassId) (h0 : Nat) (ad : Nat → Nat) (sd : Nat → Nat) : va_W := [(h0, .inr (6, [.ref (ad 0), .int 0, .ref (ad 2), .ref (ad 3), .ref (ad 4), .ref (ad 5), .ref (ad 6), .int 0, .int 0, .ref (ad 9), .ref (ad 10), .ref (ad 11), .ref (ad 12), .ref (ad 13), .int 0, .ref (ad 15), .int 0, .ref (ad 17), .ref (ad 18), .int 0])), (ad 9, .inr (5, [.ref (sd 0), .ref (sd 1), .ref (sd 2), .ref (sd 3), .ref (sd 4), .ref (sd 5), .ref (sd 6), .int 0, .int (-1), .int 0, .int 0, .int 0, .int 0]))]
set_option maxHeartbeats 4000000 in
set_option maxRecDepth 100000 in
theorem k_X6_canLoseBehind_v2 (l : Launch) (dC : Nat → ClassId) (dI : Nat → Nat → Nat) (cyB cyI cyJ cyZ cyO : ClassId) (h0 : Nat) (ad : Nat → Nat) (sd : Nat → Nat) (sz : Nat) : Met l yX6_canLoseBehind wq_k_X6_canLoseBehind_v2 ({ frames := 0, cells := 0, slots := 0, locals := 0 }) (va_Pc [.ref h0, .int 2] (cB (dC, dI) (kT cyB cyI cyJ cyZ cyO) (wc_k_X6_canLoseBehind_v2 cyB cyI cyJ cyZ cyO h0 ad sd) sz)) (va_Qi (fun (r : Int32) _ => r = 0) (fun (u : Unit) t => cE (dC, dI) (va_A (wc_k_X6_canLoseBehind_v2 cyB cyI cyJ cyZ cyO h0 ad sd) sz) ([(h0, .inr (6, [.ref (ad 0), .int 0, .ref (ad 2), .ref (ad 3), .ref (ad 4), .ref (ad 5), .ref (ad 6), .int 0, .int 0, .ref (ad 9), .ref (ad 10), .ref (ad 11), .ref (ad 12), .ref (ad 13), .int 0, .ref (ad 15), .int 0, .ref (ad 17), .ref (ad 18), .int 0])), (ad 9, .inr (5, [.ref (sd 0), .ref (sd 1), .ref (sd 2), .ref (sd 3), .ref (sd 4), .ref (sd 5), .ref (sd 6), .int 0, .int (-1), .int 0, .int 0, .int 0, .int 0]))]) t.heap) (va_A (wc_k_X6_canLoseBehind_v2 cyB cyI cyJ cyZ cyO h0 ad sd) sz)) 0 0 (va_A (wc_k_X6_canLoseBehind_v2 cyB cyI cyJ cyZ cyO h0 ad sd) sz) := by
  refine Met.ofW (cc := cX6_canLoseBehind) (maxL := 3) (ret := (some .boolean)) (by decide) rfl ?_
  intro p e s m args below meth c s₁ B hml hv
  obtain ⟨rfl, hsz, hP, hKN, hD0⟩ := hv
  have hx := B.exec
  have hb := B.bytes
  have hr := B.returns
  have hts := atoms_spec (ws := wq_k_X6_canLoseBehind_v2) B.pre
  have hown : s.vm.findClass RX6 = some m.cls := findClass_of_methodNamed B.named
  have hlocks := B.notSynchronized
  have hK := hKN.1
  have hfix : CallFix p m c cX6_canLoseBehind 3 s [.ref h0, .int 2].toArray wq_k_X6_canLoseBehind_v2 RX6 := ⟨hx, hb, hml, hown, hts⟩
  have hi5 : ∀ w ∈ wsX50, w ∈ wq_k_X6_canLoseBehind_v2 := (sb_c sb_l)
  have hi6 : ∀ w ∈ wsX60, w ∈ wq_k_X6_canLoseBehind_v2 := (sb_c (sb_r sb_l))
  subst hsz
  have hD := hD0.self (sz := s.heap.size)
  generalize hAe : va_A (wc_k_X6_canLoseBehind_v2 cyB cyI cyJ cyZ cyO h0 ad sd) s.heap.size = A at hD ⊢
  have hA : ∀ q : Nat, s.heap.size ≤ q → A q := fun q h => by rw [← hAe]; exact Or.inr h
  have hS : va_S A s.heap s.heap [] := va_S.rf
  have hl := lv_entry ([.ref h0, .int 2]) (n := 3) (Nat.le_of_ble_eq_true rfl)
  rw [lg_entry_eq]
  generalize (lg_sl ([.ref h0, .int 2]) ++ List.replicate (3 - (lg_sl ([.ref h0, .int 2])).length) Slot.unset).toArray = ls at hl ⊢
  have hl : lv_has ls 3 [(0, .ref h0), (1, .int 2)] := hl
  refine lv_aload_n hx hb dX6_canLoseBehind_0 rfl (lv_at hl 0 rfl) ?_
  refine va_get (D := (dC, dI)) (ci := 6) (v := .ref (ad 9)) (C := RX6) (T := TX6) (N := 20) hx hb hts hi6 hown hK hP 0 rfl rfl 9 (by decide) (hts _ (ow_m (k := 0) rfl)) (fun _ h9 => h9) rfl dX6_canLoseBehind_1 ?_
  refine va_get (D := (dC, dI)) (ci := 5) (v := .int (-1)) (C := RX5) (T := TX5) (N := 13) hx hb hts hi5 hown hK hP 1 rfl rfl 8 (by decide) (hts _ (ow_m (k := 1) rfl)) (fun _ h9 => h9) rfl dX6_canLoseBehind_4 ?_
  refine lv_iconst (v := (-1)) hx hb dX6_canLoseBehind_7 (by decide) ?_
  refine lv_icmp_eq (tgt := 26) hx hb dX6_canLoseBehind_8 (by decide) (fun _ => ?_) (fun c1113 => absurd (by decide) c1113)
  refine lv_iconst (v := 0) hx hb dX6_canLoseBehind_26 (by decide) ?_
  refine lv_istore_n (lv' := [(2, .int 0), (0, .ref h0), (1, .int 2)]) hx hb dX6_canLoseBehind_27 rfl hl (by decide) rfl (fun ls hl => ?_)
  refine lv_aload_n hx hb dX6_canLoseBehind_28 rfl (lv_at hl 1 rfl) ?_
  refine va_get (D := (dC, dI)) (ci := 6) (v := .ref (ad 9)) (C := RX6) (T := TX6) (N := 20) hx hb hts hi6 hown hK hP 0 rfl rfl 9 (by decide) (hts _ (ow_m (k := 0) rfl)) (fun _ h9 => h9) rfl dX6_canLoseBehind_29 ?_
  refine va_get (D := (dC, dI)) (ci := 5) (v := .int 0) (C := RX5) (T := TX5) (N := 13) hx hb hts hi5 hown hK hP 1 rfl rfl 7 (by decide) (hts _ (ow_m (k := 2) rfl)) (fun _ h9 => h9) rfl dX6_canLoseBehind_32 ?_
  refine lv_iload_n hx hb dX6_canLoseBehind_35 rfl (lv_at hl 0 rfl) ?_
  refine lv_if_eq (tgt := 43) hx hb dX6_canLoseBehind_36 (by decide) (fun _ => ?_) (fun c1114 => absurd (by decide) c1114)
  refine lv_iconst (v := 0) hx hb dX6_canLoseBehind_43 (by decide) ?_
  refine lv_iadd hx hb dX6_canLoseBehind_44 ?_
  refine tp_c (w := 0) (by decide) ?_
  refine lv_iconst (v := 2) hx hb dX6_canLoseBehind_45 (by decide) ?_
  refine lv_icmp_lt (tgt := 53) hx hb dX6_canLoseBehind_46 (by decide) (fun _ => ?_) (fun c1115 => absurd (by decide) c1115)
  refine lv_iconst (v := 0) hx hb dX6_canLoseBehind_53 (by decide) ?_
  exact W.zret (v := 0) hx hb hr (by decide) (fun t ht hW => ⟨⟨0, (), rfl, rfl, cE.of ht hP hD [0, 1] (by decide) rfl⟩, hS.F ht⟩) hS.2.2 dX6_canLoseBehind_54
