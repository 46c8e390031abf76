def wo_k_X6_layFour : List Cond := [.fieldLink RX6 79 "ReplicaChain" "tapeLength" "I", .fieldLink RX6 9 "ReplicaChain" "tape" "[B"]
def wq_k_X6_layFour : List Cond := .code yX6_layFour cX6_layFour 3 none :: (wo_k_X6_layFour ++ (wsX60 ++ []))
theorem gd_k_X6_layFour : Gd wq_k_X6_layFour := gd_c (gd_a (gd_o (by decide +kernel)) (gd_a gd_u gd_0))
abbrev wc_k_X6_layFour (cyB cyI cyJ cyZ cyO : ClassId) (h0 : Nat) (ad : Nat → Nat) (a1 : Int32) : va_W := [(h0, .inr (6, [.ref (ad 0), .int 0, .ref (ad 2), .ref (ad 3), .ref (ad 4), .ref (ad 5), .ref (ad 6), .int 0, .int 0, .ref (ad 9), .ref (ad 10), .ref (ad 11), .ref (ad 12), .ref (ad 13), .int 0, .ref (ad 15), .int 0, .ref (ad 17), .ref (ad 18), .int 0])), (ad 0, .inl (cyB, 1600, .inl (fun _ => 0)))]
set_option maxHeartbeats 4000000 in
set_option maxRecDepth 100000 in
theorem k_X6_layFour (l : Launch) (dC : Nat → ClassId) (dI : Nat → Nat → Nat) (cyB cyI cyJ cyZ cyO : ClassId) (h0 : Nat) (ad : Nat → Nat) (a1 : Int32) (sz : Nat) : Met l yX6_layFour wq_k_X6_layFour ({ frames := 0, cells := 0, slots := 0, locals := 0 }) (va_Pc [.ref h0, .int a1] (cB (dC, dI) (kT cyB cyI cyJ cyZ cyO) (wc_k_X6_layFour cyB cyI cyJ cyZ cyO h0 ad a1) sz)) (va_Qv (fun _ => True) (fun (u : Nat → Nat → Int32) t => cE (dC, dI) (va_A (wc_k_X6_layFour cyB cyI cyJ cyZ cyO h0 ad a1) sz) ([(h0, .inr (6, [.ref (ad 0), .int 4, .ref (ad 2), .ref (ad 3), .ref (ad 4), .ref (ad 5), .ref (ad 6), .int 0, .int 0, .ref (ad 9), .ref (ad 10), .ref (ad 11), .ref (ad 12), .ref (ad 13), .int 0, .ref (ad 15), .int 0, .ref (ad 17), .ref (ad 18), .int 0])), (ad 0, .inl (cyB, 1600, .inl (u 0)))]) t.heap) (va_A (wc_k_X6_layFour cyB cyI cyJ cyZ cyO h0 ad a1) sz)) 0 0 (va_A (wc_k_X6_layFour cyB cyI cyJ cyZ cyO h0 ad a1) sz) := by
  refine Met.ofW (cc := cX6_layFour) (maxL := 3) (ret := none) (by decide) rfl ?_
  intro p e s m args below meth c s₁ B hml hv
  obtain ⟨rfl, hsz, hP, hKN, hD0⟩ := hv
  have hx := B.exec
  have hb := B.bytes
  have hr := B.returns
  have hts := atoms_spec (ws := wq_k_X6_layFour) B.pre
  have hown : s.vm.findClass RX6 = some m.cls := findClass_of_methodNamed B.named
  have hlocks := B.notSynchronized
  have hK := hKN.1
  have hfix : CallFix p m c cX6_layFour 3 s [.ref h0, .int a1].toArray wq_k_X6_layFour RX6 := ⟨hx, hb, hml, hown, hts⟩
  have hi6 : ∀ w ∈ wsX60, w ∈ wq_k_X6_layFour := (sb_c sb_l)
  subst hsz
  have hD := hD0.self (sz := s.heap.size)
  generalize hAe : va_A (wc_k_X6_layFour cyB cyI cyJ cyZ cyO h0 ad a1) s.heap.size = A at hD ⊢
  have hA : ∀ q : Nat, s.heap.size ≤ q → A q := fun q h => by rw [← hAe]; exact Or.inr h
  have hS : va_S A s.heap s.heap [] := va_S.rf
  have hl := lv_entry ([.ref h0, .int a1]) (n := 3) (Nat.le_of_ble_eq_true rfl)
  rw [lg_entry_eq]
  generalize (lg_sl ([.ref h0, .int a1]) ++ List.replicate (3 - (lg_sl ([.ref h0, .int a1])).length) Slot.unset).toArray = ls at hl ⊢
  have hl : lv_has ls 3 [(0, .ref h0), (1, .int a1)] := hl
  refine lv_bipush (v := 24) hx hb dX6_layFour_0 (by decide) ?_
  refine lv_istore_n (lv' := [(2, .int 24), (0, .ref h0), (1, .int a1)]) hx hb dX6_layFour_2 rfl hl (by decide) rfl (fun ls hl => ?_)
  refine lv_iload_n hx hb dX6_layFour_3 rfl (lv_at hl 0 rfl) ?_
  refine lv_if_lt (tgt := 48) hx hb dX6_layFour_4 (by decide) (fun c23 => absurd c23 (by decide)) (fun _ => ?_)
  refine lv_aload_n hx hb dX6_layFour_7 rfl (lv_at hl 1 rfl) ?_
  refine va_get (D := (dC, dI)) (ci := 6) (v := .int 0) (C := RX6) (T := TX6) (N := 20) hx hb hts hi6 hown hK hP 0 rfl rfl 1 (by decide) (hts _ (ow_m (k := 0) rfl)) (fun _ h9 => h9) rfl dX6_layFour_8 ?_
  refine lv_aload_n hx hb dX6_layFour_11 rfl (lv_at hl 1 rfl) ?_
  refine va_get (D := (dC, dI)) (ci := 6) (v := .ref (ad 0)) (C := RX6) (T := TX6) (N := 20) hx hb hts hi6 hown hK hP 0 rfl rfl 0 (by decide) (hts _ (ow_m (k := 1) rfl)) (fun _ h9 => h9) rfl dX6_layFour_12 ?_
  refine va_alen (v := 1600) hx hb hK hP 1 0 rfl rfl rfl dX6_layFour_15 ?_
  refine lv_icmp_ge (tgt := 42) hx hb dX6_layFour_16 (by decide) (fun c24 => absurd c24 (by decide)) (fun _ => ?_)
  refine lv_aload_n hx hb dX6_layFour_19 rfl (lv_at hl 1 rfl) ?_
  refine va_get (D := (dC, dI)) (ci := 6) (v := .ref (ad 0)) (C := RX6) (T := TX6) (N := 20) hx hb hts hi6 hown hK hP 0 rfl rfl 0 (by decide) (hts _ (ow_m (k := 1) rfl)) (fun _ h9 => h9) rfl dX6_layFour_20 ?_
  refine lv_aload_n hx hb dX6_layFour_23 rfl (lv_at hl 1 rfl) ?_
  refine va_get (D := (dC, dI)) (ci := 6) (v := .int 0) (C := RX6) (T := TX6) (N := 20) hx hb hts hi6 hown hK hP 0 rfl rfl 1 (by decide) (hts _ (ow_m (k := 0) rfl)) (fun _ h9 => h9) rfl dX6_layFour_24 ?_
  refine lv_iload_n hx hb dX6_layFour_27 rfl (lv_at hl 2 rfl) ?_
  refine lv_iload_n hx hb dX6_layFour_28 rfl (lv_at hl 0 rfl) ?_
  refine lv_iushr hx hb dX6_layFour_29 rfl ?_
  refine lv_topi (fun z25 ez25 => ?_)
  refine lv_i2b hx hb dX6_layFour_30 rfl ?_
  refine lv_topi (fun z26 ez26 => ?_)
  refine va_bast hx hb hK hP hD hS 1 0 rfl rfl (vp_i (a := 0) (by decide) (by decide) (by decide)) dX6_layFour_31 (fun H locs hP hD hS => ?_)
  have hP : va_P (dC, dI) vwCl [(h0, .inr (6, [.ref (ad 0), .int 0, .ref (ad 2), .ref (ad 3), .ref (ad 4), .ref (ad 5), .ref (ad 6), .int 0, .int 0, .ref (ad 9), .ref (ad 10), .ref (ad 11), .ref (ad 12), .ref (ad 13), .int 0, .ref (ad 15), .int 0, .ref (ad 17), .ref (ad 18), .int 0])), (ad 0, .inl (cyB, 1600, .inl (upd (fun _ => 0) 0 (vp_nar .byte z26))))] H := hP
  have hD : va_D A [(h0, .inr (6, [.ref (ad 0), .int 0, .ref (ad 2), .ref (ad 3), .ref (ad 4), .ref (ad 5), .ref (ad 6), .int 0, .int 0, .ref (ad 9), .ref (ad 10), .ref (ad 11), .ref (ad 12), .ref (ad 13), .int 0, .ref (ad 15), .int 0, .ref (ad 17), .ref (ad 18), .int 0])), (ad 0, .inl (cyB, 1600, .inl (upd (fun _ => 0) 0 (vp_nar .byte z26))))] := hD
  generalize upd (fun _ => 0) 0 (vp_nar .byte z26) = f27 at hP hD
  refine lv_aload_n hx hb dX6_layFour_32 rfl (lv_at hl 1 rfl) ?_
  refine lv_dup hx hb dX6_layFour_33 rfl ?_
  refine va_get (D := (dC, dI)) (ci := 6) (v := .int 0) (C := RX6) (T := TX6) (N := 20) hx hb hts hi6 hown hK hP 0 rfl rfl 1 (by decide) (hts _ (ow_m (k := 0) rfl)) (fun _ h9 => h9) rfl dX6_layFour_34 ?_
  refine lv_iconst (v := 1) hx hb dX6_layFour_37 (by decide) ?_
  refine lv_iadd hx hb dX6_layFour_38 ?_
  refine tp_c (w := 1) (by decide) ?_
  refine va_put (D := (dC, dI)) (ci := 6) (v := .int 1) (ty := .int) (C := RX6) (T := TX6) (N := 20) hx hb hts hi6 tyX6 tyX6_ok nmX6 hown hK hP hD hS 0 rfl rfl 1 (by decide) (hts _ (ow_m (k := 0) rfl)) (fun _ h9 => h9) rfl (by decide +kernel) rfl rfl (Nat.le_of_ble_eq_true rfl) dX6_layFour_39 (fun H locs hP hD hS => ?_)
  have hP : va_P (dC, dI) vwCl [(h0, .inr (6, [.ref (ad 0), .int 1, .ref (ad 2), .ref (ad 3), .ref (ad 4), .ref (ad 5), .ref (ad 6), .int 0, .int 0, .ref (ad 9), .ref (ad 10), .ref (ad 11), .ref (ad 12), .ref (ad 13), .int 0, .ref (ad 15), .int 0, .ref (ad 17), .ref (ad 18), .int 0])), (ad 0, .inl (cyB, 1600, .inl f27))] H := hP
  have hD : va_D A [(h0, .inr (6, [.ref (ad 0), .int 1, .ref (ad 2), .ref (ad 3), .ref (ad 4), .ref (ad 5), .ref (ad 6), .int 0, .int 0, .ref (ad 9), .ref (ad 10), .ref (ad 11), .ref (ad 12), .ref (ad 13), .int 0, .ref (ad 15), .int 0, .ref (ad 17), .ref (ad 18), .int 0])), (ad 0, .inl (cyB, 1600, .inl f27))] := hD
  refine lv_iinc (v := 16) (lv' := [(2, .int 16), (0, .ref h0), (1, .int a1)]) hx hb dX6_layFour_42 hl (k := 0) rfl (by decide) (by decide) rfl (fun ls hl => ?_)
  refine lv_goto (tgt := 3) hx hb dX6_layFour_45 (by decide) ?_
  refine lv_iload_n hx hb dX6_layFour_3 rfl (lv_at hl 0 rfl) ?_
  refine lv_if_lt (tgt := 48) hx hb dX6_layFour_4 (by decide) (fun c28 => absurd c28 (by decide)) (fun _ => ?_)
  refine lv_aload_n hx hb dX6_layFour_7 rfl (lv_at hl 1 rfl) ?_
  refine va_get (D := (dC, dI)) (ci := 6) (v := .int 1) (C := RX6) (T := TX6) (N := 20) hx hb hts hi6 hown hK hP 0 rfl rfl 1 (by decide) (hts _ (ow_m (k := 0) rfl)) (fun _ h9 => h9) rfl dX6_layFour_8 ?_
  refine lv_aload_n hx hb dX6_layFour_11 rfl (lv_at hl 1 rfl) ?_
  refine va_get (D := (dC, dI)) (ci := 6) (v := .ref (ad 0)) (C := RX6) (T := TX6) (N := 20) hx hb hts hi6 hown hK hP 0 rfl rfl 0 (by decide) (hts _ (ow_m (k := 1) rfl)) (fun _ h9 => h9) rfl dX6_layFour_12 ?_
  refine va_alen (v := 1600) hx hb hK hP 1 0 rfl rfl rfl dX6_layFour_15 ?_
  refine lv_icmp_ge (tgt := 42) hx hb dX6_layFour_16 (by decide) (fun c29 => absurd c29 (by decide)) (fun _ => ?_)
  refine lv_aload_n hx hb dX6_layFour_19 rfl (lv_at hl 1 rfl) ?_
  refine va_get (D := (dC, dI)) (ci := 6) (v := .ref (ad 0)) (C := RX6) (T := TX6) (N := 20) hx hb hts hi6 hown hK hP 0 rfl rfl 0 (by decide) (hts _ (ow_m (k := 1) rfl)) (fun _ h9 => h9) rfl dX6_layFour_20 ?_
  refine lv_aload_n hx hb dX6_layFour_23 rfl (lv_at hl 1 rfl) ?_
  refine va_get (D := (dC, dI)) (ci := 6) (v := .int 1) (C := RX6) (T := TX6) (N := 20) hx hb hts hi6 hown hK hP 0 rfl rfl 1 (by decide) (hts _ (ow_m (k := 0) rfl)) (fun _ h9 => h9) rfl dX6_layFour_24 ?_
  refine lv_iload_n hx hb dX6_layFour_27 rfl (lv_at hl 2 rfl) ?_
  refine lv_iload_n hx hb dX6_layFour_28 rfl (lv_at hl 0 rfl) ?_
  refine lv_iushr hx hb dX6_layFour_29 rfl ?_
  refine lv_topi (fun z30 ez30 => ?_)
  refine lv_i2b hx hb dX6_layFour_30 rfl ?_
  refine lv_topi (fun z31 ez31 => ?_)
  refine va_bast hx hb hK hP hD hS 1 0 rfl rfl (vp_i (a := 1) (by decide) (by decide) (by decide)) dX6_layFour_31 (fun H locs hP hD hS => ?_)
  have hP : va_P (dC, dI) vwCl [(h0, .inr (6, [.ref (ad 0), .int 1, .ref (ad 2), .ref (ad 3), .ref (ad 4), .ref (ad 5), .ref (ad 6), .int 0, .int 0, .ref (ad 9), .ref (ad 10), .ref (ad 11), .ref (ad 12), .ref (ad 13), .int 0, .ref (ad 15), .int 0, .ref (ad 17), .ref (ad 18), .int 0])), (ad 0, .inl (cyB, 1600, .inl (upd f27 1 (vp_nar .byte z31))))] H := hP
  have hD : va_D A [(h0, .inr (6, [.ref (ad 0), .int 1, .ref (ad 2), .ref (ad 3), .ref (ad 4), .ref (ad 5), .ref (ad 6), .int 0, .int 0, .ref (ad 9), .ref (ad 10), .ref (ad 11), .ref (ad 12), .ref (ad 13), .int 0, .ref (ad 15), .int 0, .ref (ad 17), .ref (ad 18), .int 0])), (ad 0, .inl (cyB, 1600, .inl (upd f27 1 (vp_nar .byte z31))))] := hD
  generalize upd f27 1 (vp_nar .byte z31) = f32 at hP hD
  refine lv_aload_n hx hb dX6_layFour_32 rfl (lv_at hl 1 rfl) ?_
  refine lv_dup hx hb dX6_layFour_33 rfl ?_
  refine va_get (D := (dC, dI)) (ci := 6) (v := .int 1) (C := RX6) (T := TX6) (N := 20) hx hb hts hi6 hown hK hP 0 rfl rfl 1 (by decide) (hts _ (ow_m (k := 0) rfl)) (fun _ h9 => h9) rfl dX6_layFour_34 ?_
  refine lv_iconst (v := 1) hx hb dX6_layFour_37 (by decide) ?_
  refine lv_iadd hx hb dX6_layFour_38 ?_
  refine tp_c (w := 2) (by decide) ?_
  refine va_put (D := (dC, dI)) (ci := 6) (v := .int 2) (ty := .int) (C := RX6) (T := TX6) (N := 20) hx hb hts hi6 tyX6 tyX6_ok nmX6 hown hK hP hD hS 0 rfl rfl 1 (by decide) (hts _ (ow_m (k := 0) rfl)) (fun _ h9 => h9) rfl (by decide +kernel) rfl rfl (Nat.le_of_ble_eq_true rfl) dX6_layFour_39 (fun H locs hP hD hS => ?_)
  have hP : va_P (dC, dI) vwCl [(h0, .inr (6, [.ref (ad 0), .int 2, .ref (ad 2), .ref (ad 3), .ref (ad 4), .ref (ad 5), .ref (ad 6), .int 0, .int 0, .ref (ad 9), .ref (ad 10), .ref (ad 11), .ref (ad 12), .ref (ad 13), .int 0, .ref (ad 15), .int 0, .ref (ad 17), .ref (ad 18), .int 0])), (ad 0, .inl (cyB, 1600, .inl f32))] H := hP
  have hD : va_D A [(h0, .inr (6, [.ref (ad 0), .int 2, .ref (ad 2), .ref (ad 3), .ref (ad 4), .ref (ad 5), .ref (ad 6), .int 0, .int 0, .ref (ad 9), .ref (ad 10), .ref (ad 11), .ref (ad 12), .ref (ad 13), .int 0, .ref (ad 15), .int 0, .ref (ad 17), .ref (ad 18), .int 0])), (ad 0, .inl (cyB, 1600, .inl f32))] := hD
  refine lv_iinc (v := 8) (lv' := [(2, .int 8), (0, .ref h0), (1, .int a1)]) hx hb dX6_layFour_42 hl (k := 0) rfl (by decide) (by decide) rfl (fun ls hl => ?_)
  refine lv_goto (tgt := 3) hx hb dX6_layFour_45 (by decide) ?_
  refine lv_iload_n hx hb dX6_layFour_3 rfl (lv_at hl 0 rfl) ?_
  refine lv_if_lt (tgt := 48) hx hb dX6_layFour_4 (by decide) (fun c33 => absurd c33 (by decide)) (fun _ => ?_)
  refine lv_aload_n hx hb dX6_layFour_7 rfl (lv_at hl 1 rfl) ?_
  refine va_get (D := (dC, dI)) (ci := 6) (v := .int 2) (C := RX6) (T := TX6) (N := 20) hx hb hts hi6 hown hK hP 0 rfl rfl 1 (by decide) (hts _ (ow_m (k := 0) rfl)) (fun _ h9 => h9) rfl dX6_layFour_8 ?_
  refine lv_aload_n hx hb dX6_layFour_11 rfl (lv_at hl 1 rfl) ?_
  refine va_get (D := (dC, dI)) (ci := 6) (v := .ref (ad 0)) (C := RX6) (T := TX6) (N := 20) hx hb hts hi6 hown hK hP 0 rfl rfl 0 (by decide) (hts _ (ow_m (k := 1) rfl)) (fun _ h9 => h9) rfl dX6_layFour_12 ?_
  refine va_alen (v := 1600) hx hb hK hP 1 0 rfl rfl rfl dX6_layFour_15 ?_
  refine lv_icmp_ge (tgt := 42) hx hb dX6_layFour_16 (by decide) (fun c34 => absurd c34 (by decide)) (fun _ => ?_)
  refine lv_aload_n hx hb dX6_layFour_19 rfl (lv_at hl 1 rfl) ?_
  refine va_get (D := (dC, dI)) (ci := 6) (v := .ref (ad 0)) (C := RX6) (T := TX6) (N := 20) hx hb hts hi6 hown hK hP 0 rfl rfl 0 (by decide) (hts _ (ow_m (k := 1) rfl)) (fun _ h9 => h9) rfl dX6_layFour_20 ?_
  refine lv_aload_n hx hb dX6_layFour_23 rfl (lv_at hl 1 rfl) ?_
  refine va_get (D := (dC, dI)) (ci := 6) (v := .int 2) (C := RX6) (T := TX6) (N := 20) hx hb hts hi6 hown hK hP 0 rfl rfl 1 (by decide) (hts _ (ow_m (k := 0) rfl)) (fun _ h9 => h9) rfl dX6_layFour_24 ?_
  refine lv_iload_n hx hb dX6_layFour_27 rfl (lv_at hl 2 rfl) ?_
  refine lv_iload_n hx hb dX6_layFour_28 rfl (lv_at hl 0 rfl) ?_
  refine lv_iushr hx hb dX6_layFour_29 rfl ?_
  refine lv_topi (fun z35 ez35 => ?_)
  refine lv_i2b hx hb dX6_layFour_30 rfl ?_
  refine lv_topi (fun z36 ez36 => ?_)
  refine va_bast hx hb hK hP hD hS 1 0 rfl rfl (vp_i (a := 2) (by decide) (by decide) (by decide)) dX6_layFour_31 (fun H locs hP hD hS => ?_)
  have hP : va_P (dC, dI) vwCl [(h0, .inr (6, [.ref (ad 0), .int 2, .ref (ad 2), .ref (ad 3), .ref (ad 4), .ref (ad 5), .ref (ad 6), .int 0, .int 0, .ref (ad 9), .ref (ad 10), .ref (ad 11), .ref (ad 12), .ref (ad 13), .int 0, .ref (ad 15), .int 0, .ref (ad 17), .ref (ad 18), .int 0])), (ad 0, .inl (cyB, 1600, .inl (upd f32 2 (vp_nar .byte z36))))] H := hP
  have hD : va_D A [(h0, .inr (6, [.ref (ad 0), .int 2, .ref (ad 2), .ref (ad 3), .ref (ad 4), .ref (ad 5), .ref (ad 6), .int 0, .int 0, .ref (ad 9), .ref (ad 10), .ref (ad 11), .ref (ad 12), .ref (ad 13), .int 0, .ref (ad 15), .int 0, .ref (ad 17), .ref (ad 18), .int 0])), (ad 0, .inl (cyB, 1600, .inl (upd f32 2 (vp_nar .byte z36))))] := hD
  generalize upd f32 2 (vp_nar .byte z36) = f37 at hP hD
  refine lv_aload_n hx hb dX6_layFour_32 rfl (lv_at hl 1 rfl) ?_
  refine lv_dup hx hb dX6_layFour_33 rfl ?_
  refine va_get (D := (dC, dI)) (ci := 6) (v := .int 2) (C := RX6) (T := TX6) (N := 20) hx hb hts hi6 hown hK hP 0 rfl rfl 1 (by decide) (hts _ (ow_m (k := 0) rfl)) (fun _ h9 => h9) rfl dX6_layFour_34 ?_
  refine lv_iconst (v := 1) hx hb dX6_layFour_37 (by decide) ?_
  refine lv_iadd hx hb dX6_layFour_38 ?_
  refine tp_c (w := 3) (by decide) ?_
  refine va_put (D := (dC, dI)) (ci := 6) (v := .int 3) (ty := .int) (C := RX6) (T := TX6) (N := 20) hx hb hts hi6 tyX6 tyX6_ok nmX6 hown hK hP hD hS 0 rfl rfl 1 (by decide) (hts _ (ow_m (k := 0) rfl)) (fun _ h9 => h9) rfl (by decide +kernel) rfl rfl (Nat.le_of_ble_eq_true rfl) dX6_layFour_39 (fun H locs hP hD hS => ?_)
  have hP : va_P (dC, dI) vwCl [(h0, .inr (6, [.ref (ad 0), .int 3, .ref (ad 2), .ref (ad 3), .ref (ad 4), .ref (ad 5), .ref (ad 6), .int 0, .int 0, .ref (ad 9), .ref (ad 10), .ref (ad 11), .ref (ad 12), .ref (ad 13), .int 0, .ref (ad 15), .int 0, .ref (ad 17), .ref (ad 18), .int 0])), (ad 0, .inl (cyB, 1600, .inl f37))] H := hP
  have hD : va_D A [(h0, .inr (6, [.ref (ad 0), .int 3, .ref (ad 2), .ref (ad 3), .ref (ad 4), .ref (ad 5), .ref (ad 6), .int 0, .int 0, .ref (ad 9), .ref (ad 10), .ref (ad 11), .ref (ad 12), .ref (ad 13), .int 0, .ref (ad 15), .int 0, .ref (ad 17), .ref (ad 18), .int 0])), (ad 0, .inl (cyB, 1600, .inl f37))] := hD
  refine lv_iinc (v := 0) (lv' := [(2, .int 0), (0, .ref h0), (1, .int a1)]) hx hb dX6_layFour_42 hl (k := 0) rfl (by decide) (by decide) rfl (fun ls hl => ?_)
  refine lv_goto (tgt := 3) hx hb dX6_layFour_45 (by decide) ?_
  refine lv_iload_n hx hb dX6_layFour_3 rfl (lv_at hl 0 rfl) ?_
  refine lv_if_lt (tgt := 48) hx hb dX6_layFour_4 (by decide) (fun c38 => absurd c38 (by decide)) (fun _ => ?_)
  refine lv_aload_n hx hb dX6_layFour_7 rfl (lv_at hl 1 rfl) ?_
  refine va_get (D := (dC, dI)) (ci := 6) (v := .int 3) (C := RX6) (T := TX6) (N := 20) hx hb hts hi6 hown hK hP 0 rfl rfl 1 (by decide) (hts _ (ow_m (k := 0) rfl)) (fun _ h9 => h9) rfl dX6_layFour_8 ?_
  refine lv_aload_n hx hb dX6_layFour_11 rfl (lv_at hl 1 rfl) ?_
  refine va_get (D := (dC, dI)) (ci := 6) (v := .ref (ad 0)) (C := RX6) (T := TX6) (N := 20) hx hb hts hi6 hown hK hP 0 rfl rfl 0 (by decide) (hts _ (ow_m (k := 1) rfl)) (fun _ h9 => h9) rfl dX6_layFour_12 ?_
  refine va_alen (v := 1600) hx hb hK hP 1 0 rfl rfl rfl dX6_layFour_15 ?_
  refine lv_icmp_ge (tgt := 42) hx hb dX6_layFour_16 (by decide) (fun c39 => absurd c39 (by decide)) (fun _ => ?_)
  refine lv_aload_n hx hb dX6_layFour_19 rfl (lv_at hl 1 rfl) ?_
  refine va_get (D := (dC, dI)) (ci := 6) (v := .ref (ad 0)) (C := RX6) (T := TX6) (N := 20) hx hb hts hi6 hown hK hP 0 rfl rfl 0 (by decide) (hts _ (ow_m (k := 1) rfl)) (fun _ h9 => h9) rfl dX6_layFour_20 ?_
  refine lv_aload_n hx hb dX6_layFour_23 rfl (lv_at hl 1 rfl) ?_
  refine va_get (D := (dC, dI)) (ci := 6) (v := .int 3) (C := RX6) (T := TX6) (N := 20) hx hb hts hi6 hown hK hP 0 rfl rfl 1 (by decide) (hts _ (ow_m (k := 0) rfl)) (fun _ h9 => h9) rfl dX6_layFour_24 ?_
  refine lv_iload_n hx hb dX6_layFour_27 rfl (lv_at hl 2 rfl) ?_
  refine lv_iload_n hx hb dX6_layFour_28 rfl (lv_at hl 0 rfl) ?_
  refine lv_iushr hx hb dX6_layFour_29 rfl ?_
  refine lv_topi (fun z40 ez40 => ?_)
  refine lv_i2b hx hb dX6_layFour_30 rfl ?_
  refine lv_topi (fun z41 ez41 => ?_)
  refine va_bast hx hb hK hP hD hS 1 0 rfl rfl (vp_i (a := 3) (by decide) (by decide) (by decide)) dX6_layFour_31 (fun H locs hP hD hS => ?_)
  have hP : va_P (dC, dI) vwCl [(h0, .inr (6, [.ref (ad 0), .int 3, .ref (ad 2), .ref (ad 3), .ref (ad 4), .ref (ad 5), .ref (ad 6), .int 0, .int 0, .ref (ad 9), .ref (ad 10), .ref (ad 11), .ref (ad 12), .ref (ad 13), .int 0, .ref (ad 15), .int 0, .ref (ad 17), .ref (ad 18), .int 0])), (ad 0, .inl (cyB, 1600, .inl (upd f37 3 (vp_nar .byte z41))))] H := hP
  have hD : va_D A [(h0, .inr (6, [.ref (ad 0), .int 3, .ref (ad 2), .ref (ad 3), .ref (ad 4), .ref (ad 5), .ref (ad 6), .int 0, .int 0, .ref (ad 9), .ref (ad 10), .ref (ad 11), .ref (ad 12), .ref (ad 13), .int 0, .ref (ad 15), .int 0, .ref (ad 17), .ref (ad 18), .int 0])), (ad 0, .inl (cyB, 1600, .inl (upd f37 3 (vp_nar .byte z41))))] := hD
  generalize upd f37 3 (vp_nar .byte z41) = f42 at hP hD
  refine lv_aload_n hx hb dX6_layFour_32 rfl (lv_at hl 1 rfl) ?_
  refine lv_dup hx hb dX6_layFour_33 rfl ?_
  refine va_get (D := (dC, dI)) (ci := 6) (v := .int 3) (C := RX6) (T := TX6) (N := 20) hx hb hts hi6 hown hK hP 0 rfl rfl 1 (by decide) (hts _ (ow_m (k := 0) rfl)) (fun _ h9 => h9) rfl dX6_layFour_34 ?_
  refine lv_iconst (v := 1) hx hb dX6_layFour_37 (by decide) ?_
  refine lv_iadd hx hb dX6_layFour_38 ?_
  refine tp_c (w := 4) (by decide) ?_
  refine va_put (D := (dC, dI)) (ci := 6) (v := .int 4) (ty := .int) (C := RX6) (T := TX6) (N := 20) hx hb hts hi6 tyX6 tyX6_ok nmX6 hown hK hP hD hS 0 rfl rfl 1 (by decide) (hts _ (ow_m (k := 0) rfl)) (fun _ h9 => h9) rfl (by decide +kernel) rfl rfl (Nat.le_of_ble_eq_true rfl) dX6_layFour_39 (fun H locs hP hD hS => ?_)
  have hP : va_P (dC, dI) vwCl [(h0, .inr (6, [.ref (ad 0), .int 4, .ref (ad 2), .ref (ad 3), .ref (ad 4), .ref (ad 5), .ref (ad 6), .int 0, .int 0, .ref (ad 9), .ref (ad 10), .ref (ad 11), .ref (ad 12), .ref (ad 13), .int 0, .ref (ad 15), .int 0, .ref (ad 17), .ref (ad 18), .int 0])), (ad 0, .inl (cyB, 1600, .inl f42))] H := hP
  have hD : va_D A [(h0, .inr (6, [.ref (ad 0), .int 4, .ref (ad 2), .ref (ad 3), .ref (ad 4), .ref (ad 5), .ref (ad 6), .int 0, .int 0, .ref (ad 9), .ref (ad 10), .ref (ad 11), .ref (ad 12), .ref (ad 13), .int 0, .ref (ad 15), .int 0, .ref (ad 17), .ref (ad 18), .int 0])), (ad 0, .inl (cyB, 1600, .inl f42))] := hD
  refine lv_iinc (v := (-8)) (lv' := [(2, .int (-8)), (0, .ref h0), (1, .int a1)]) hx hb dX6_layFour_42 hl (k := 0) rfl (by decide) (by decide) rfl (fun ls hl => ?_)
  refine lv_goto (tgt := 3) hx hb dX6_layFour_45 (by decide) ?_
  refine lv_iload_n hx hb dX6_layFour_3 rfl (lv_at hl 0 rfl) ?_
  refine lv_if_lt (tgt := 48) hx hb dX6_layFour_4 (by decide) (fun _ => ?_) (fun c43 => absurd (by decide) c43)
  exact W.vret hx hb hr (fun t ht hW => ⟨⟨(fun _ => f42), rfl, trivial, cE.of ht hP hD [0, 1] (by decide) rfl⟩, hS.F ht⟩) hS.2.2 dX6_layFour_48
def wo_k_X6_layFour_v2 : List Cond := [.fieldLink RX6 79 "ReplicaChain" "tapeLength" "I", .fieldLink RX6 9 "ReplicaChain" "tape" "[B"]
def wq_k_X6_layFour_v2 : List Cond := .code yX6_layFour cX6_layFour 3 none :: (wo_k_X6_layFour_v2 ++ (wsX60 ++ []))
theorem gd_k_X6_layFour_v2 : Gd wq_k_X6_layFour_v2 := gd_c (gd_a (gd_o (by decide +kernel)) (gd_a gd_u gd_0))
abbrev wc_k_X6_layFour_v2 (cyB cyI cyJ cyZ cyO : ClassId) (h0 : Nat) (ad : Nat → Nat) (u45 : Nat → Nat → Int32) (a1 : Int32) : va_W := [(h0, .inr (6, [.ref (ad 0), .int 4, .ref (ad 2), .ref (ad 3), .ref (ad 4), .ref (ad 5), .ref (ad 6), .int 0, .int 0, .ref (ad 9), .ref (ad 10), .ref (ad 11), .ref (ad 12), .ref (ad 13), .int 0, .ref (ad 15), .int 0, .ref (ad 17), .ref (ad 18), .int 0])), (ad 0, .inl (cyB, 1600, .inl (u45 0)))]
set_option maxHeartbeats 4000000 in
set_option maxRecDepth 100000 in
theorem k_X6_layFour_v2 (l : Launch) (dC : Nat → ClassId) (dI : Nat → Nat → Nat) (cyB cyI cyJ cyZ cyO : ClassId) (h0 : Nat) (ad : Nat → Nat) (u45 : Nat → Nat → Int32) (a1 : Int32) (sz : Nat) : Met l yX6_layFour wq_k_X6_layFour_v2 ({ frames := 0, cells := 0, slots := 0, locals := 0 }) (va_Pc [.ref h0, .int a1] (cB (dC, dI) (kT cyB cyI cyJ cyZ cyO) (wc_k_X6_layFour_v2 cyB cyI cyJ cyZ cyO h0 ad u45 a1) sz)) (va_Qv (fun _ => True) (fun (u : Nat → Nat → Int32) t => cE (dC, dI) (va_A (wc_k_X6_layFour_v2 cyB cyI cyJ cyZ cyO h0 ad u45 a1) sz) ([(h0, .inr (6, [.ref (ad 0), .int 8, .ref (ad 2), .ref (ad 3), .ref (ad 4), .ref (ad 5), .ref (ad 6), .int 0, .int 0, .ref (ad 9), .ref (ad 10), .ref (ad 11), .ref (ad 12), .ref (ad 13), .int 0, .ref (ad 15), .int 0, .ref (ad 17), .ref (ad 18), .int 0])), (ad 0, .inl (cyB, 1600, .inl (u 0)))]) t.heap) (va_A (wc_k_X6_layFour_v2 cyB cyI cyJ cyZ cyO h0 ad u45 a1) sz)) 0 0 (va_A (wc_k_X6_layFour_v2 cyB cyI cyJ cyZ cyO h0 ad u45 a1) sz) := by
  refine Met.ofW (cc := cX6_layFour) (maxL := 3) (ret := none) (by decide) rfl ?_
  intro p e s m args below meth c s₁ B hml hv
  obtain ⟨rfl, hsz, hP, hKN, hD0⟩ := hv
  have hx := B.exec
  have hb := B.bytes
  have hr := B.returns
  have hts := atoms_spec (ws := wq_k_X6_layFour_v2) B.pre
  have hown : s.vm.findClass RX6 = some m.cls := findClass_of_methodNamed B.named
  have hlocks := B.notSynchronized
  have hK := hKN.1
  have hfix : CallFix p m c cX6_layFour 3 s [.ref h0, .int a1].toArray wq_k_X6_layFour_v2 RX6 := ⟨hx, hb, hml, hown, hts⟩
  have hi6 : ∀ w ∈ wsX60, w ∈ wq_k_X6_layFour_v2 := (sb_c sb_l)
  subst hsz
  have hD := hD0.self (sz := s.heap.size)
  generalize hAe : va_A (wc_k_X6_layFour_v2 cyB cyI cyJ cyZ cyO h0 ad u45 a1) s.heap.size = A at hD ⊢
  have hA : ∀ q : Nat, s.heap.size ≤ q → A q := fun q h => by rw [← hAe]; exact Or.inr h
  have hS : va_S A s.heap s.heap [] := va_S.rf
  have hl := lv_entry ([.ref h0, .int a1]) (n := 3) (Nat.le_of_ble_eq_true rfl)
  rw [lg_entry_eq]
  generalize (lg_sl ([.ref h0, .int a1]) ++ List.replicate (3 - (lg_sl ([.ref h0, .int a1])).length) Slot.unset).toArray = ls at hl ⊢
  have hl : lv_has ls 3 [(0, .ref h0), (1, .int a1)] := hl
  refine lv_bipush (v := 24) hx hb dX6_layFour_0 (by decide) ?_
  refine lv_istore_n (lv' := [(2, .int 24), (0, .ref h0), (1, .int a1)]) hx hb dX6_layFour_2 rfl hl (by decide) rfl (fun ls hl => ?_)
  refine lv_iload_n hx hb dX6_layFour_3 rfl (lv_at hl 0 rfl) ?_
  refine lv_if_lt (tgt := 48) hx hb dX6_layFour_4 (by decide) (fun c67 => absurd c67 (by decide)) (fun _ => ?_)
  refine lv_aload_n hx hb dX6_layFour_7 rfl (lv_at hl 1 rfl) ?_
  refine va_get (D := (dC, dI)) (ci := 6) (v := .int 4) (C := RX6) (T := TX6) (N := 20) hx hb hts hi6 hown hK hP 0 rfl rfl 1 (by decide) (hts _ (ow_m (k := 0) rfl)) (fun _ h9 => h9) rfl dX6_layFour_8 ?_
  refine lv_aload_n hx hb dX6_layFour_11 rfl (lv_at hl 1 rfl) ?_
  refine va_get (D := (dC, dI)) (ci := 6) (v := .ref (ad 0)) (C := RX6) (T := TX6) (N := 20) hx hb hts hi6 hown hK hP 0 rfl rfl 0 (by decide) (hts _ (ow_m (k := 1) rfl)) (fun _ h9 => h9) rfl dX6_layFour_12 ?_
  refine va_alen (v := 1600) hx hb hK hP 1 0 rfl rfl rfl dX6_layFour_15 ?_
  refine lv_icmp_ge (tgt := 42) hx hb dX6_layFour_16 (by decide) (fun c68 => absurd c68 (by decide)) (fun _ => ?_)
  refine lv_aload_n hx hb dX6_layFour_19 rfl (lv_at hl 1 rfl) ?_
  refine va_get (D := (dC, dI)) (ci := 6) (v := .ref (ad 0)) (C := RX6) (T := TX6) (N := 20) hx hb hts hi6 hown hK hP 0 rfl rfl 0 (by decide) (hts _ (ow_m (k := 1) rfl)) (fun _ h9 => h9) rfl dX6_layFour_20 ?_
  refine lv_aload_n hx hb dX6_layFour_23 rfl (lv_at hl 1 rfl) ?_
  refine va_get (D := (dC, dI)) (ci := 6) (v := .int 4) (C := RX6) (T := TX6) (N := 20) hx hb hts hi6 hown hK hP 0 rfl rfl 1 (by decide) (hts _ (ow_m (k := 0) rfl)) (fun _ h9 => h9) rfl dX6_layFour_24 ?_
  refine lv_iload_n hx hb dX6_layFour_27 rfl (lv_at hl 2 rfl) ?_
  refine lv_iload_n hx hb dX6_layFour_28 rfl (lv_at hl 0 rfl) ?_
  refine lv_iushr hx hb dX6_layFour_29 rfl ?_
  refine lv_topi (fun z69 ez69 => ?_)
  refine lv_i2b hx hb dX6_layFour_30 rfl ?_
  refine lv_topi (fun z70 ez70 => ?_)
  refine va_bast hx hb hK hP hD hS 1 0 rfl rfl (vp_i (a := 4) (by decide) (by decide) (by decide)) dX6_layFour_31 (fun H locs hP hD hS => ?_)
  have hP : va_P (dC, dI) vwCl [(h0, .inr (6, [.ref (ad 0), .int 4, .ref (ad 2), .ref (ad 3), .ref (ad 4), .ref (ad 5), .ref (ad 6), .int 0, .int 0, .ref (ad 9), .ref (ad 10), .ref (ad 11), .ref (ad 12), .ref (ad 13), .int 0, .ref (ad 15), .int 0, .ref (ad 17), .ref (ad 18), .int 0])), (ad 0, .inl (cyB, 1600, .inl (upd (u45 0) 4 (vp_nar .byte z70))))] H := hP
  have hD : va_D A [(h0, .inr (6, [.ref (ad 0), .int 4, .ref (ad 2), .ref (ad 3), .ref (ad 4), .ref (ad 5), .ref (ad 6), .int 0, .int 0, .ref (ad 9), .ref (ad 10), .ref (ad 11), .ref (ad 12), .ref (ad 13), .int 0, .ref (ad 15), .int 0, .ref (ad 17), .ref (ad 18), .int 0])), (ad 0, .inl (cyB, 1600, .inl (upd (u45 0) 4 (vp_nar .byte z70))))] := hD
  generalize upd (u45 0) 4 (vp_nar .byte z70) = f71 at hP hD
  refine lv_aload_n hx hb dX6_layFour_32 rfl (lv_at hl 1 rfl) ?_
  refine lv_dup hx hb dX6_layFour_33 rfl ?_
  refine va_get (D := (dC, dI)) (ci := 6) (v := .int 4) (C := RX6) (T := TX6) (N := 20) hx hb hts hi6 hown hK hP 0 rfl rfl 1 (by decide) (hts _ (ow_m (k := 0) rfl)) (fun _ h9 => h9) rfl dX6_layFour_34 ?_
  refine lv_iconst (v := 1) hx hb dX6_layFour_37 (by decide) ?_
  refine lv_iadd hx hb dX6_layFour_38 ?_
  refine tp_c (w := 5) (by decide) ?_
  refine va_put (D := (dC, dI)) (ci := 6) (v := .int 5) (ty := .int) (C := RX6) (T := TX6) (N := 20) hx hb hts hi6 tyX6 tyX6_ok nmX6 hown hK hP hD hS 0 rfl rfl 1 (by decide) (hts _ (ow_m (k := 0) rfl)) (fun _ h9 => h9) rfl (by decide +kernel) rfl rfl (Nat.le_of_ble_eq_true rfl) dX6_layFour_39 (fun H locs hP hD hS => ?_)
  have hP : va_P (dC, dI) vwCl [(h0, .inr (6, [.ref (ad 0), .int 5, .ref (ad 2), .ref (ad 3), .ref (ad 4), .ref (ad 5), .ref (ad 6), .int 0, .int 0, .ref (ad 9), .ref (ad 10), .ref (ad 11), .ref (ad 12), .ref (ad 13), .int 0, .ref (ad 15), .int 0, .ref (ad 17), .ref (ad 18), .int 0])), (ad 0, .inl (cyB, 1600, .inl f71))] H := hP
  have hD : va_D A [(h0, .inr (6, [.ref (ad 0), .int 5, .ref (ad 2), .ref (ad 3), .ref (ad 4), .ref (ad 5), .ref (ad 6), .int 0, .int 0, .ref (ad 9), .ref (ad 10), .ref (ad 11), .ref (ad 12), .ref (ad 13), .int 0, .ref (ad 15), .int 0, .ref (ad 17), .ref (ad 18), .int 0])), (ad 0, .inl (cyB, 1600, .inl f71))] := hD
  refine lv_iinc (v := 16) (lv' := [(2, .int 16), (0, .ref h0), (1, .int a1)]) hx hb dX6_layFour_42 hl (k := 0) rfl (by decide) (by decide) rfl (fun ls hl => ?_)
  refine lv_goto (tgt := 3) hx hb dX6_layFour_45 (by decide) ?_
  refine lv_iload_n hx hb dX6_layFour_3 rfl (lv_at hl 0 rfl) ?_
  refine lv_if_lt (tgt := 48) hx hb dX6_layFour_4 (by decide) (fun c72 => absurd c72 (by decide)) (fun _ => ?_)
  refine lv_aload_n hx hb dX6_layFour_7 rfl (lv_at hl 1 rfl) ?_
  refine va_get (D := (dC, dI)) (ci := 6) (v := .int 5) (C := RX6) (T := TX6) (N := 20) hx hb hts hi6 hown hK hP 0 rfl rfl 1 (by decide) (hts _ (ow_m (k := 0) rfl)) (fun _ h9 => h9) rfl dX6_layFour_8 ?_
  refine lv_aload_n hx hb dX6_layFour_11 rfl (lv_at hl 1 rfl) ?_
  refine va_get (D := (dC, dI)) (ci := 6) (v := .ref (ad 0)) (C := RX6) (T := TX6) (N := 20) hx hb hts hi6 hown hK hP 0 rfl rfl 0 (by decide) (hts _ (ow_m (k := 1) rfl)) (fun _ h9 => h9) rfl dX6_layFour_12 ?_
  refine va_alen (v := 1600) hx hb hK hP 1 0 rfl rfl rfl dX6_layFour_15 ?_
  refine lv_icmp_ge (tgt := 42) hx hb dX6_layFour_16 (by decide) (fun c73 => absurd c73 (by decide)) (fun _ => ?_)
  refine lv_aload_n hx hb dX6_layFour_19 rfl (lv_at hl 1 rfl) ?_
  refine va_get (D := (dC, dI)) (ci := 6) (v := .ref (ad 0)) (C := RX6) (T := TX6) (N := 20) hx hb hts hi6 hown hK hP 0 rfl rfl 0 (by decide) (hts _ (ow_m (k := 1) rfl)) (fun _ h9 => h9) rfl dX6_layFour_20 ?_
  refine lv_aload_n hx hb dX6_layFour_23 rfl (lv_at hl 1 rfl) ?_
  refine va_get (D := (dC, dI)) (ci := 6) (v := .int 5) (C := RX6) (T := TX6) (N := 20) hx hb hts hi6 hown hK hP 0 rfl rfl 1 (by decide) (hts _ (ow_m (k := 0) rfl)) (fun _ h9 => h9) rfl dX6_layFour_24 ?_
  refine lv_iload_n hx hb dX6_layFour_27 rfl (lv_at hl 2 rfl) ?_
  refine lv_iload_n hx hb dX6_layFour_28 rfl (lv_at hl 0 rfl) ?_
  refine lv_iushr hx hb dX6_layFour_29 rfl ?_
  refine lv_topi (fun z74 ez74 => ?_)
  refine lv_i2b hx hb dX6_layFour_30 rfl ?_
  refine lv_topi (fun z75 ez75 => ?_)
  refine va_bast hx hb hK hP hD hS 1 0 rfl rfl (vp_i (a := 5) (by decide) (by decide) (by decide)) dX6_layFour_31 (fun H locs hP hD hS => ?_)
  have hP : va_P (dC, dI) vwCl [(h0, .inr (6, [.ref (ad 0), .int 5, .ref (ad 2), .ref (ad 3), .ref (ad 4), .ref (ad 5), .ref (ad 6), .int 0, .int 0, .ref (ad 9), .ref (ad 10), .ref (ad 11), .ref (ad 12), .ref (ad 13), .int 0, .ref (ad 15), .int 0, .ref (ad 17), .ref (ad 18), .int 0])), (ad 0, .inl (cyB, 1600, .inl (upd f71 5 (vp_nar .byte z75))))] H := hP
  have hD : va_D A [(h0, .inr (6, [.ref (ad 0), .int 5, .ref (ad 2), .ref (ad 3), .ref (ad 4), .ref (ad 5), .ref (ad 6), .int 0, .int 0, .ref (ad 9), .ref (ad 10), .ref (ad 11), .ref (ad 12), .ref (ad 13), .int 0, .ref (ad 15), .int 0, .ref (ad 17), .ref (ad 18), .int 0])), (ad 0, .inl (cyB, 1600, .inl (upd f71 5 (vp_nar .byte z75))))] := hD
  generalize upd f71 5 (vp_nar .byte z75) = f76 at hP hD
  refine lv_aload_n hx hb dX6_layFour_32 rfl (lv_at hl 1 rfl) ?_
  refine lv_dup hx hb dX6_layFour_33 rfl ?_
  refine va_get (D := (dC, dI)) (ci := 6) (v := .int 5) (C := RX6) (T := TX6) (N := 20) hx hb hts hi6 hown hK hP 0 rfl rfl 1 (by decide) (hts _ (ow_m (k := 0) rfl)) (fun _ h9 => h9) rfl dX6_layFour_34 ?_
  refine lv_iconst (v := 1) hx hb dX6_layFour_37 (by decide) ?_
  refine lv_iadd hx hb dX6_layFour_38 ?_
  refine tp_c (w := 6) (by decide) ?_
  refine va_put (D := (dC, dI)) (ci := 6) (v := .int 6) (ty := .int) (C := RX6) (T := TX6) (N := 20) hx hb hts hi6 tyX6 tyX6_ok nmX6 hown hK hP hD hS 0 rfl rfl 1 (by decide) (hts _ (ow_m (k := 0) rfl)) (fun _ h9 => h9) rfl (by decide +kernel) rfl rfl (Nat.le_of_ble_eq_true rfl) dX6_layFour_39 (fun H locs hP hD hS => ?_)
  have hP : va_P (dC, dI) vwCl [(h0, .inr (6, [.ref (ad 0), .int 6, .ref (ad 2), .ref (ad 3), .ref (ad 4), .ref (ad 5), .ref (ad 6), .int 0, .int 0, .ref (ad 9), .ref (ad 10), .ref (ad 11), .ref (ad 12), .ref (ad 13), .int 0, .ref (ad 15), .int 0, .ref (ad 17), .ref (ad 18), .int 0])), (ad 0, .inl (cyB, 1600, .inl f76))] H := hP
  have hD : va_D A [(h0, .inr (6, [.ref (ad 0), .int 6, .ref (ad 2), .ref (ad 3), .ref (ad 4), .ref (ad 5), .ref (ad 6), .int 0, .int 0, .ref (ad 9), .ref (ad 10), .ref (ad 11), .ref (ad 12), .ref (ad 13), .int 0, .ref (ad 15), .int 0, .ref (ad 17), .ref (ad 18), .int 0])), (ad 0, .inl (cyB, 1600, .inl f76))] := hD
  refine lv_iinc (v := 8) (lv' := [(2, .int 8), (0, .ref h0), (1, .int a1)]) hx hb dX6_layFour_42 hl (k := 0) rfl (by decide) (by decide) rfl (fun ls hl => ?_)
  refine lv_goto (tgt := 3) hx hb dX6_layFour_45 (by decide) ?_
  refine lv_iload_n hx hb dX6_layFour_3 rfl (lv_at hl 0 rfl) ?_
  refine lv_if_lt (tgt := 48) hx hb dX6_layFour_4 (by decide) (fun c77 => absurd c77 (by decide)) (fun _ => ?_)
  refine lv_aload_n hx hb dX6_layFour_7 rfl (lv_at hl 1 rfl) ?_
  refine va_get (D := (dC, dI)) (ci := 6) (v := .int 6) (C := RX6) (T := TX6) (N := 20) hx hb hts hi6 hown hK hP 0 rfl rfl 1 (by decide) (hts _ (ow_m (k := 0) rfl)) (fun _ h9 => h9) rfl dX6_layFour_8 ?_
  refine lv_aload_n hx hb dX6_layFour_11 rfl (lv_at hl 1 rfl) ?_
  refine va_get (D := (dC, dI)) (ci := 6) (v := .ref (ad 0)) (C := RX6) (T := TX6) (N := 20) hx hb hts hi6 hown hK hP 0 rfl rfl 0 (by decide) (hts _ (ow_m (k := 1) rfl)) (fun _ h9 => h9) rfl dX6_layFour_12 ?_
  refine va_alen (v := 1600) hx hb hK hP 1 0 rfl rfl rfl dX6_layFour_15 ?_
  refine lv_icmp_ge (tgt := 42) hx hb dX6_layFour_16 (by decide) (fun c78 => absurd c78 (by decide)) (fun _ => ?_)
  refine lv_aload_n hx hb dX6_layFour_19 rfl (lv_at hl 1 rfl) ?_
  refine va_get (D := (dC, dI)) (ci := 6) (v := .ref (ad 0)) (C := RX6) (T := TX6) (N := 20) hx hb hts hi6 hown hK hP 0 rfl rfl 0 (by decide) (hts _ (ow_m (k := 1) rfl)) (fun _ h9 => h9) rfl dX6_layFour_20 ?_
  refine lv_aload_n hx hb dX6_layFour_23 rfl (lv_at hl 1 rfl) ?_
  refine va_get (D := (dC, dI)) (ci := 6) (v := .int 6) (C := RX6) (T := TX6) (N := 20) hx hb hts hi6 hown hK hP 0 rfl rfl 1 (by decide) (hts _ (ow_m (k := 0) rfl)) (fun _ h9 => h9) rfl dX6_layFour_24 ?_
  refine lv_iload_n hx hb dX6_layFour_27 rfl (lv_at hl 2 rfl) ?_
  refine lv_iload_n hx hb dX6_layFour_28 rfl (lv_at hl 0 rfl) ?_
  refine lv_iushr hx hb dX6_layFour_29 rfl ?_
  refine lv_topi (fun z79 ez79 => ?_)
  refine lv_i2b hx hb dX6_layFour_30 rfl ?_
  refine lv_topi (fun z80 ez80 => ?_)
  refine va_bast hx hb hK hP hD hS 1 0 rfl rfl (vp_i (a := 6) (by decide) (by decide) (by decide)) dX6_layFour_31 (fun H locs hP hD hS => ?_)
  have hP : va_P (dC, dI) vwCl [(h0, .inr (6, [.ref (ad 0), .int 6, .ref (ad 2), .ref (ad 3), .ref (ad 4), .ref (ad 5), .ref (ad 6), .int 0, .int 0, .ref (ad 9), .ref (ad 10), .ref (ad 11), .ref (ad 12), .ref (ad 13), .int 0, .ref (ad 15), .int 0, .ref (ad 17), .ref (ad 18), .int 0])), (ad 0, .inl (cyB, 1600, .inl (upd f76 6 (vp_nar .byte z80))))] H := hP
  have hD : va_D A [(h0, .inr (6, [.ref (ad 0), .int 6, .ref (ad 2), .ref (ad 3), .ref (ad 4), .ref (ad 5), .ref (ad 6), .int 0, .int 0, .ref (ad 9), .ref (ad 10), .ref (ad 11), .ref (ad 12), .ref (ad 13), .int 0, .ref (ad 15), .int 0, .ref (ad 17), .ref (ad 18), .int 0])), (ad 0, .inl (cyB, 1600, .inl (upd f76 6 (vp_nar .byte z80))))] := hD
  generalize upd f76 6 (vp_nar .byte z80) = f81 at hP hD
  refine lv_aload_n hx hb dX6_layFour_32 rfl (lv_at hl 1 rfl) ?_
  refine lv_dup hx hb dX6_layFour_33 rfl ?_
  refine va_get (D := (dC, dI)) (ci := 6) (v := .int 6) (C := RX6) (T := TX6) (N := 20) hx hb hts hi6 hown hK hP 0 rfl rfl 1 (by decide) (hts _ (ow_m (k := 0) rfl)) (fun _ h9 => h9) rfl dX6_layFour_34 ?_
  refine lv_iconst (v := 1) hx hb dX6_layFour_37 (by decide) ?_
  refine lv_iadd hx hb dX6_layFour_38 ?_
  refine tp_c (w := 7) (by decide) ?_
  refine va_put (D := (dC, dI)) (ci := 6) (v := .int 7) (ty := .int) (C := RX6) (T := TX6) (N := 20) hx hb hts hi6 tyX6 tyX6_ok nmX6 hown hK hP hD hS 0 rfl rfl 1 (by decide) (hts _ (ow_m (k := 0) rfl)) (fun _ h9 => h9) rfl (by decide +kernel) rfl rfl (Nat.le_of_ble_eq_true rfl) dX6_layFour_39 (fun H locs hP hD hS => ?_)
  have hP : va_P (dC, dI) vwCl [(h0, .inr (6, [.ref (ad 0), .int 7, .ref (ad 2), .ref (ad 3), .ref (ad 4), .ref (ad 5), .ref (ad 6), .int 0, .int 0, .ref (ad 9), .ref (ad 10), .ref (ad 11), .ref (ad 12), .ref (ad 13), .int 0, .ref (ad 15), .int 0, .ref (ad 17), .ref (ad 18), .int 0])), (ad 0, .inl (cyB, 1600, .inl f81))] H := hP
  have hD : va_D A [(h0, .inr (6, [.ref (ad 0), .int 7, .ref (ad 2), .ref (ad 3), .ref (ad 4), .ref (ad 5), .ref (ad 6), .int 0, .int 0, .ref (ad 9), .ref (ad 10), .ref (ad 11), .ref (ad 12), .ref (ad 13), .int 0, .ref (ad 15), .int 0, .ref (ad 17), .ref (ad 18), .int 0])), (ad 0, .inl (cyB, 1600, .inl f81))] := hD
  refine lv_iinc (v := 0) (lv' := [(2, .int 0), (0, .ref h0), (1, .int a1)]) hx hb dX6_layFour_42 hl (k := 0) rfl (by decide) (by decide) rfl (fun ls hl => ?_)
  refine lv_goto (tgt := 3) hx hb dX6_layFour_45 (by decide) ?_
  refine lv_iload_n hx hb dX6_layFour_3 rfl (lv_at hl 0 rfl) ?_
  refine lv_if_lt (tgt := 48) hx hb dX6_layFour_4 (by decide) (fun c82 => absurd c82 (by decide)) (fun _ => ?_)
  refine lv_aload_n hx hb dX6_layFour_7 rfl (lv_at hl 1 rfl) ?_
  refine va_get (D := (dC, dI)) (ci := 6) (v := .int 7) (C := RX6) (T := TX6) (N := 20) hx hb hts hi6 hown hK hP 0 rfl rfl 1 (by decide) (hts _ (ow_m (k := 0) rfl)) (fun _ h9 => h9) rfl dX6_layFour_8 ?_
  refine lv_aload_n hx hb dX6_layFour_11 rfl (lv_at hl 1 rfl) ?_
  refine va_get (D := (dC, dI)) (ci := 6) (v := .ref (ad 0)) (C := RX6) (T := TX6) (N := 20) hx hb hts hi6 hown hK hP 0 rfl rfl 0 (by decide) (hts _ (ow_m (k := 1) rfl)) (fun _ h9 => h9) rfl dX6_layFour_12 ?_
  refine va_alen (v := 1600) hx hb hK hP 1 0 rfl rfl rfl dX6_layFour_15 ?_
  refine lv_icmp_ge (tgt := 42) hx hb dX6_layFour_16 (by decide) (fun c83 => absurd c83 (by decide)) (fun _ => ?_)
  refine lv_aload_n hx hb dX6_layFour_19 rfl (lv_at hl 1 rfl) ?_
  refine va_get (D := (dC, dI)) (ci := 6) (v := .ref (ad 0)) (C := RX6) (T := TX6) (N := 20) hx hb hts hi6 hown hK hP 0 rfl rfl 0 (by decide) (hts _ (ow_m (k := 1) rfl)) (fun _ h9 => h9) rfl dX6_layFour_20 ?_
  refine lv_aload_n hx hb dX6_layFour_23 rfl (lv_at hl 1 rfl) ?_
  refine va_get (D := (dC, dI)) (ci := 6) (v := .int 7) (C := RX6) (T := TX6) (N := 20) hx hb hts hi6 hown hK hP 0 rfl rfl 1 (by decide) (hts _ (ow_m (k := 0) rfl)) (fun _ h9 => h9) rfl dX6_layFour_24 ?_
  refine lv_iload_n hx hb dX6_layFour_27 rfl (lv_at hl 2 rfl) ?_
  refine lv_iload_n hx hb dX6_layFour_28 rfl (lv_at hl 0 rfl) ?_
  refine lv_iushr hx hb dX6_layFour_29 rfl ?_
  refine lv_topi (fun z84 ez84 => ?_)
  refine lv_i2b hx hb dX6_layFour_30 rfl ?_
  refine lv_topi (fun z85 ez85 => ?_)
  refine va_bast hx hb hK hP hD hS 1 0 rfl rfl (vp_i (a := 7) (by decide) (by decide) (by decide)) dX6_layFour_31 (fun H locs hP hD hS => ?_)
  have hP : va_P (dC, dI) vwCl [(h0, .inr (6, [.ref (ad 0), .int 7, .ref (ad 2), .ref (ad 3), .ref (ad 4), .ref (ad 5), .ref (ad 6), .int 0, .int 0, .ref (ad 9), .ref (ad 10), .ref (ad 11), .ref (ad 12), .ref (ad 13), .int 0, .ref (ad 15), .int 0, .ref (ad 17), .ref (ad 18), .int 0])), (ad 0, .inl (cyB, 1600, .inl (upd f81 7 (vp_nar .byte z85))))] H := hP
  have hD : va_D A [(h0, .inr (6, [.ref (ad 0), .int 7, .ref (ad 2), .ref (ad 3), .ref (ad 4), .ref (ad 5), .ref (ad 6), .int 0, .int 0, .ref (ad 9), .ref (ad 10), .ref (ad 11), .ref (ad 12), .ref (ad 13), .int 0, .ref (ad 15), .int 0, .ref (ad 17), .ref (ad 18), .int 0])), (ad 0, .inl (cyB, 1600, .inl (upd f81 7 (vp_nar .byte z85))))] := hD
  generalize upd f81 7 (vp_nar .byte z85) = f86 at hP hD
  refine lv_aload_n hx hb dX6_layFour_32 rfl (lv_at hl 1 rfl) ?_
  refine lv_dup hx hb dX6_layFour_33 rfl ?_
  refine va_get (D := (dC, dI)) (ci := 6) (v := .int 7) (C := RX6) (T := TX6) (N := 20) hx hb hts hi6 hown hK hP 0 rfl rfl 1 (by decide) (hts _ (ow_m (k := 0) rfl)) (fun _ h9 => h9) rfl dX6_layFour_34 ?_
  refine lv_iconst (v := 1) hx hb dX6_layFour_37 (by decide) ?_
  refine lv_iadd hx hb dX6_layFour_38 ?_
  refine tp_c (w := 8) (by decide) ?_
  refine va_put (D := (dC, dI)) (ci := 6) (v := .int 8) (ty := .int) (C := RX6) (T := TX6) (N := 20) hx hb hts hi6 tyX6 tyX6_ok nmX6 hown hK hP hD hS 0 rfl rfl 1 (by decide) (hts _ (ow_m (k := 0) rfl)) (fun _ h9 => h9) rfl (by decide +kernel) rfl rfl (Nat.le_of_ble_eq_true rfl) dX6_layFour_39 (fun H locs hP hD hS => ?_)
  have hP : va_P (dC, dI) vwCl [(h0, .inr (6, [.ref (ad 0), .int 8, .ref (ad 2), .ref (ad 3), .ref (ad 4), .ref (ad 5), .ref (ad 6), .int 0, .int 0, .ref (ad 9), .ref (ad 10), .ref (ad 11), .ref (ad 12), .ref (ad 13), .int 0, .ref (ad 15), .int 0, .ref (ad 17), .ref (ad 18), .int 0])), (ad 0, .inl (cyB, 1600, .inl f86))] H := hP
  have hD : va_D A [(h0, .inr (6, [.ref (ad 0), .int 8, .ref (ad 2), .ref (ad 3), .ref (ad 4), .ref (ad 5), .ref (ad 6), .int 0, .int 0, .ref (ad 9), .ref (ad 10), .ref (ad 11), .ref (ad 12), .ref (ad 13), .int 0, .ref (ad 15), .int 0, .ref (ad 17), .ref (ad 18), .int 0])), (ad 0, .inl (cyB, 1600, .inl f86))] := hD
  refine lv_iinc (v := (-8)) (lv' := [(2, .int (-8)), (0, .ref h0), (1, .int a1)]) hx hb dX6_layFour_42 hl (k := 0) rfl (by decide) (by decide) rfl (fun ls hl => ?_)
  refine lv_goto (tgt := 3) hx hb dX6_layFour_45 (by decide) ?_
  refine lv_iload_n hx hb dX6_layFour_3 rfl (lv_at hl 0 rfl) ?_
  refine lv_if_lt (tgt := 48) hx hb dX6_layFour_4 (by decide) (fun _ => ?_) (fun c87 => absurd (by decide) c87)
  exact W.vret hx hb hr (fun t ht hW => ⟨⟨(fun _ => f86), rfl, trivial, cE.of ht hP hD [0, 1] (by decide) rfl⟩, hS.F ht⟩) hS.2.2 dX6_layFour_48
def wo_k_X6_layFour_v3 : List Cond := [.fieldLink RX6 79 "ReplicaChain" "tapeLength" "I", .fieldLink RX6 9 "ReplicaChain" "tape" "[B"]
def wq_k_X6_layFour_v3 : List Cond := .code yX6_layFour cX6_layFour 3 none :: (wo_k_X6_layFour_v3 ++ (wsX60 ++ []))
theorem gd_k_X6_layFour_v3 : Gd wq_k_X6_layFour_v3 := gd_c (gd_a (gd_o (by decide +kernel)) (gd_a gd_u gd_0))
abbrev wc_k_X6_layFour_v3 (cyB cyI cyJ cyZ cyO : ClassId) (h0 : Nat) (ad : Nat → Nat) (u89 : Nat → Nat → Int32) (a1 : Int32) : va_W := [(h0, .inr (6, [.ref (ad 0), .int 8, .ref (ad 2), .ref (ad 3), .ref (ad 4), .ref (ad 5), .ref (ad 6), .int 0, .int 0, .ref (ad 9), .ref (ad 10), .ref (ad 11), .ref (ad 12), .ref (ad 13), .int 0, .ref (ad 15), .int 0, .ref (ad 17), .ref (ad 18), .int 0])), (ad 0, .inl (cyB, 1600, .inl (u89 0)))]
set_option maxHeartbeats 4000000 in
set_option maxRecDepth 100000 in
theorem k_X6_layFour_v3 (l : Launch) (dC : Nat → ClassId) (dI : Nat → Nat → Nat) (cyB cyI cyJ cyZ cyO : ClassId) (h0 : Nat) (ad : Nat → Nat) (u89 : Nat → Nat → Int32) (a1 : Int32) (sz : Nat) : Met l yX6_layFour wq_k_X6_layFour_v3 ({ frames := 0, cells := 0, slots := 0, locals := 0 }) (va_Pc [.ref h0, .int a1] (cB (dC, dI) (kT cyB cyI cyJ cyZ cyO) (wc_k_X6_layFour_v3 cyB cyI cyJ cyZ cyO h0 ad u89 a1) sz)) (va_Qv (fun _ => True) (fun (u : Nat → Nat → Int32) t => cE (dC, dI) (va_A (wc_k_X6_layFour_v3 cyB cyI cyJ cyZ cyO h0 ad u89 a1) sz) ([(h0, .inr (6, [.ref (ad 0), .int 12, .ref (ad 2), .ref (ad 3), .ref (ad 4), .ref (ad 5), .ref (ad 6), .int 0, .int 0, .ref (ad 9), .ref (ad 10), .ref (ad 11), .ref (ad 12), .ref (ad 13), .int 0, .ref (ad 15), .int 0, .ref (ad 17), .ref (ad 18), .int 0])), (ad 0, .inl (cyB, 1600, .inl (u 0)))]) t.heap) (va_A (wc_k_X6_layFour_v3 cyB cyI cyJ cyZ cyO h0 ad u89 a1) sz)) 0 0 (va_A (wc_k_X6_layFour_v3 cyB cyI cyJ cyZ cyO h0 ad u89 a1) sz) := by
  refine Met.ofW (cc := cX6_layFour) (maxL := 3) (ret := none) (by decide) rfl ?_
  intro p e s m args below meth c s₁ B hml hv
  obtain ⟨rfl, hsz, hP, hKN, hD0⟩ := hv
  have hx := B.exec
  have hb := B.bytes
  have hr := B.returns
  have hts := atoms_spec (ws := wq_k_X6_layFour_v3) B.pre
  have hown : s.vm.findClass RX6 = some m.cls := findClass_of_methodNamed B.named
  have hlocks := B.notSynchronized
  have hK := hKN.1
  have hfix : CallFix p m c cX6_layFour 3 s [.ref h0, .int a1].toArray wq_k_X6_layFour_v3 RX6 := ⟨hx, hb, hml, hown, hts⟩
  have hi6 : ∀ w ∈ wsX60, w ∈ wq_k_X6_layFour_v3 := (sb_c sb_l)
  subst hsz
  have hD := hD0.self (sz := s.heap.size)
  generalize hAe : va_A (wc_k_X6_layFour_v3 cyB cyI cyJ cyZ cyO h0 ad u89 a1) s.heap.size = A at hD ⊢
  have hA : ∀ q : Nat, s.heap.size ≤ q → A q := fun q h => by rw [← hAe]; exact Or.inr h
  have hS : va_S A s.heap s.heap [] := va_S.rf
  have hl := lv_entry ([.ref h0, .int a1]) (n := 3) (Nat.le_of_ble_eq_true rfl)
  rw [lg_entry_eq]
  generalize (lg_sl ([.ref h0, .int a1]) ++ List.replicate (3 - (lg_sl ([.ref h0, .int a1])).length) Slot.unset).toArray = ls at hl ⊢
  have hl : lv_has ls 3 [(0, .ref h0), (1, .int a1)] := hl
  refine lv_bipush (v := 24) hx hb dX6_layFour_0 (by decide) ?_
  refine lv_istore_n (lv' := [(2, .int 24), (0, .ref h0), (1, .int a1)]) hx hb dX6_layFour_2 rfl hl (by decide) rfl (fun ls hl => ?_)
  refine lv_iload_n hx hb dX6_layFour_3 rfl (lv_at hl 0 rfl) ?_
  refine lv_if_lt (tgt := 48) hx hb dX6_layFour_4 (by decide) (fun c111 => absurd c111 (by decide)) (fun _ => ?_)
  refine lv_aload_n hx hb dX6_layFour_7 rfl (lv_at hl 1 rfl) ?_
  refine va_get (D := (dC, dI)) (ci := 6) (v := .int 8) (C := RX6) (T := TX6) (N := 20) hx hb hts hi6 hown hK hP 0 rfl rfl 1 (by decide) (hts _ (ow_m (k := 0) rfl)) (fun _ h9 => h9) rfl dX6_layFour_8 ?_
  refine lv_aload_n hx hb dX6_layFour_11 rfl (lv_at hl 1 rfl) ?_
  refine va_get (D := (dC, dI)) (ci := 6) (v := .ref (ad 0)) (C := RX6) (T := TX6) (N := 20) hx hb hts hi6 hown hK hP 0 rfl rfl 0 (by decide) (hts _ (ow_m (k := 1) rfl)) (fun _ h9 => h9) rfl dX6_layFour_12 ?_
  refine va_alen (v := 1600) hx hb hK hP 1 0 rfl rfl rfl dX6_layFour_15 ?_
  refine lv_icmp_ge (tgt := 42) hx hb dX6_layFour_16 (by decide) (fun c112 => absurd c112 (by decide)) (fun _ => ?_)
  refine lv_aload_n hx hb dX6_layFour_19 rfl (lv_at hl 1 rfl) ?_
  refine va_get (D := (dC, dI)) (ci := 6) (v := .ref (ad 0)) (C := RX6) (T := TX6) (N := 20) hx hb hts hi6 hown hK hP 0 rfl rfl 0 (by decide) (hts _ (ow_m (k := 1) rfl)) (fun _ h9 => h9) rfl dX6_layFour_20 ?_
  refine lv_aload_n hx hb dX6_layFour_23 rfl (lv_at hl 1 rfl) ?_
  refine va_get (D := (dC, dI)) (ci := 6) (v := .int 8) (C := RX6) (T := TX6) (N := 20) hx hb hts hi6 hown hK hP 0 rfl rfl 1 (by decide) (hts _ (ow_m (k := 0) rfl)) (fun _ h9 => h9) rfl dX6_layFour_24 ?_
  refine lv_iload_n hx hb dX6_layFour_27 rfl (lv_at hl 2 rfl) ?_
  refine lv_iload_n hx hb dX6_layFour_28 rfl (lv_at hl 0 rfl) ?_
  refine lv_iushr hx hb dX6_layFour_29 rfl ?_
  refine lv_topi (fun z113 ez113 => ?_)
  refine lv_i2b hx hb dX6_layFour_30 rfl ?_
  refine lv_topi (fun z114 ez114 => ?_)
  refine va_bast hx hb hK hP hD hS 1 0 rfl rfl (vp_i (a := 8) (by decide) (by decide) (by decide)) dX6_layFour_31 (fun H locs hP hD hS => ?_)
  have hP : va_P (dC, dI) vwCl [(h0, .inr (6, [.ref (ad 0), .int 8, .ref (ad 2), .ref (ad 3), .ref (ad 4), .ref (ad 5), .ref (ad 6), .int 0, .int 0, .ref (ad 9), .ref (ad 10), .ref (ad 11), .ref (ad 12), .ref (ad 13), .int 0, .ref (ad 15), .int 0, .ref (ad 17), .ref (ad 18), .int 0])), (ad 0, .inl (cyB, 1600, .inl (upd (u89 0) 8 (vp_nar .byte z114))))] H := hP
  have hD : va_D A [(h0, .inr (6, [.ref (ad 0), .int 8, .ref (ad 2), .ref (ad 3), .ref (ad 4), .ref (ad 5), .ref (ad 6), .int 0, .int 0, .ref (ad 9), .ref (ad 10), .ref (ad 11), .ref (ad 12), .ref (ad 13), .int 0, .ref (ad 15), .int 0, .ref (ad 17), .ref (ad 18), .int 0])), (ad 0, .inl (cyB, 1600, .inl (upd (u89 0) 8 (vp_nar .byte z114))))] := hD
  generalize upd (u89 0) 8 (vp_nar .byte z114) = f115 at hP hD
  refine lv_aload_n hx hb dX6_layFour_32 rfl (lv_at hl 1 rfl) ?_
  refine lv_dup hx hb dX6_layFour_33 rfl ?_
  refine va_get (D := (dC, dI)) (ci := 6) (v := .int 8) (C := RX6) (T := TX6) (N := 20) hx hb hts hi6 hown hK hP 0 rfl rfl 1 (by decide) (hts _ (ow_m (k := 0) rfl)) (fun _ h9 => h9) rfl dX6_layFour_34 ?_
  refine lv_iconst (v := 1) hx hb dX6_layFour_37 (by decide) ?_
  refine lv_iadd hx hb dX6_layFour_38 ?_
  refine tp_c (w := 9) (by decide) ?_
  refine va_put (D := (dC, dI)) (ci := 6) (v := .int 9) (ty := .int) (C := RX6) (T := TX6) (N := 20) hx hb hts hi6 tyX6 tyX6_ok nmX6 hown hK hP hD hS 0 rfl rfl 1 (by decide) (hts _ (ow_m (k := 0) rfl)) (fun _ h9 => h9) rfl (by decide +kernel) rfl rfl (Nat.le_of_ble_eq_true rfl) dX6_layFour_39 (fun H locs hP hD hS => ?_)
  have hP : va_P (dC, dI) vwCl [(h0, .inr (6, [.ref (ad 0), .int 9, .ref (ad 2), .ref (ad 3), .ref (ad 4), .ref (ad 5), .ref (ad 6), .int 0, .int 0, .ref (ad 9), .ref (ad 10), .ref (ad 11), .ref (ad 12), .ref (ad 13), .int 0, .ref (ad 15), .int 0, .ref (ad 17), .ref (ad 18), .int 0])), (ad 0, .inl (cyB, 1600, .inl f115))] H := hP
  have hD : va_D A [(h0, .inr (6, [.ref (ad 0), .int 9, .ref (ad 2), .ref (ad 3), .ref (ad 4), .ref (ad 5), .ref (ad 6), .int 0, .int 0, .ref (ad 9), .ref (ad 10), .ref (ad 11), .ref (ad 12), .ref (ad 13), .int 0, .ref (ad 15), .int 0, .ref (ad 17), .ref (ad 18), .int 0])), (ad 0, .inl (cyB, 1600, .inl f115))] := hD
  refine lv_iinc (v := 16) (lv' := [(2, .int 16), (0, .ref h0), (1, .int a1)]) hx hb dX6_layFour_42 hl (k := 0) rfl (by decide) (by decide) rfl (fun ls hl => ?_)
  refine lv_goto (tgt := 3) hx hb dX6_layFour_45 (by decide) ?_
  refine lv_iload_n hx hb dX6_layFour_3 rfl (lv_at hl 0 rfl) ?_
  refine lv_if_lt (tgt := 48) hx hb dX6_layFour_4 (by decide) (fun c116 => absurd c116 (by decide)) (fun _ => ?_)
  refine lv_aload_n hx hb dX6_layFour_7 rfl (lv_at hl 1 rfl) ?_
  refine va_get (D := (dC, dI)) (ci := 6) (v := .int 9) (C := RX6) (T := TX6) (N := 20) hx hb hts hi6 hown hK hP 0 rfl rfl 1 (by decide) (hts _ (ow_m (k := 0) rfl)) (fun _ h9 => h9) rfl dX6_layFour_8 ?_
  refine lv_aload_n hx hb dX6_layFour_11 rfl (lv_at hl 1 rfl) ?_
  refine va_get (D := (dC, dI)) (ci := 6) (v := .ref (ad 0)) (C := RX6) (T := TX6) (N := 20) hx hb hts hi6 hown hK hP 0 rfl rfl 0 (by decide) (hts _ (ow_m (k := 1) rfl)) (fun _ h9 => h9) rfl dX6_layFour_12 ?_
  refine va_alen (v := 1600) hx hb hK hP 1 0 rfl rfl rfl dX6_layFour_15 ?_
  refine lv_icmp_ge (tgt := 42) hx hb dX6_layFour_16 (by decide) (fun c117 => absurd c117 (by decide)) (fun _ => ?_)
  refine lv_aload_n hx hb dX6_layFour_19 rfl (lv_at hl 1 rfl) ?_
  refine va_get (D := (dC, dI)) (ci := 6) (v := .ref (ad 0)) (C := RX6) (T := TX6) (N := 20) hx hb hts hi6 hown hK hP 0 rfl rfl 0 (by decide) (hts _ (ow_m (k := 1) rfl)) (fun _ h9 => h9) rfl dX6_layFour_20 ?_
  refine lv_aload_n hx hb dX6_layFour_23 rfl (lv_at hl 1 rfl) ?_
  refine va_get (D := (dC, dI)) (ci := 6) (v := .int 9) (C := RX6) (T := TX6) (N := 20) hx hb hts hi6 hown hK hP 0 rfl rfl 1 (by decide) (hts _ (ow_m (k := 0) rfl)) (fun _ h9 => h9) rfl dX6_layFour_24 ?_
  refine lv_iload_n hx hb dX6_layFour_27 rfl (lv_at hl 2 rfl) ?_
  refine lv_iload_n hx hb dX6_layFour_28 rfl (lv_at hl 0 rfl) ?_
  refine lv_iushr hx hb dX6_layFour_29 rfl ?_
  refine lv_topi (fun z118 ez118 => ?_)
  refine lv_i2b hx hb dX6_layFour_30 rfl ?_
  refine lv_topi (fun z119 ez119 => ?_)
  refine va_bast hx hb hK hP hD hS 1 0 rfl rfl (vp_i (a := 9) (by decide) (by decide) (by decide)) dX6_layFour_31 (fun H locs hP hD hS => ?_)
  have hP : va_P (dC, dI) vwCl [(h0, .inr (6, [.ref (ad 0), .int 9, .ref (ad 2), .ref (ad 3), .ref (ad 4), .ref (ad 5), .ref (ad 6), .int 0, .int 0, .ref (ad 9), .ref (ad 10), .ref (ad 11), .ref (ad 12), .ref (ad 13), .int 0, .ref (ad 15), .int 0, .ref (ad 17), .ref (ad 18), .int 0])), (ad 0, .inl (cyB, 1600, .inl (upd f115 9 (vp_nar .byte z119))))] H := hP
  have hD : va_D A [(h0, .inr (6, [.ref (ad 0), .int 9, .ref (ad 2), .ref (ad 3), .ref (ad 4), .ref (ad 5), .ref (ad 6), .int 0, .int 0, .ref (ad 9), .ref (ad 10), .ref (ad 11), .ref (ad 12), .ref (ad 13), .int 0, .ref (ad 15), .int 0, .ref (ad 17), .ref (ad 18), .int 0])), (ad 0, .inl (cyB, 1600, .inl (upd f115 9 (vp_nar .byte z119))))] := hD
  generalize upd f115 9 (vp_nar .byte z119) = f120 at hP hD
  refine lv_aload_n hx hb dX6_layFour_32 rfl (lv_at hl 1 rfl) ?_
  refine lv_dup hx hb dX6_layFour_33 rfl ?_
  refine va_get (D := (dC, dI)) (ci := 6) (v := .int 9) (C := RX6) (T := TX6) (N := 20) hx hb hts hi6 hown hK hP 0 rfl rfl 1 (by decide) (hts _ (ow_m (k := 0) rfl)) (fun _ h9 => h9) rfl dX6_layFour_34 ?_
  refine lv_iconst (v := 1) hx hb dX6_layFour_37 (by decide) ?_
  refine lv_iadd hx hb dX6_layFour_38 ?_
  refine tp_c (w := 10) (by decide) ?_
  refine va_put (D := (dC, dI)) (ci := 6) (v := .int 10) (ty := .int) (C := RX6) (T := TX6) (N := 20) hx hb hts hi6 tyX6 tyX6_ok nmX6 hown hK hP hD hS 0 rfl rfl 1 (by decide) (hts _ (ow_m (k := 0) rfl)) (fun _ h9 => h9) rfl (by decide +kernel) rfl rfl (Nat.le_of_ble_eq_true rfl) dX6_layFour_39 (fun H locs hP hD hS => ?_)
  have hP : va_P (dC, dI) vwCl [(h0, .inr (6, [.ref (ad 0), .int 10, .ref (ad 2), .ref (ad 3), .ref (ad 4), .ref (ad 5), .ref (ad 6), .int 0, .int 0, .ref (ad 9), .ref (ad 10), .ref (ad 11), .ref (ad 12), .ref (ad 13), .int 0, .ref (ad 15), .int 0, .ref (ad 17), .ref (ad 18), .int 0])), (ad 0, .inl (cyB, 1600, .inl f120))] H := hP
  have hD : va_D A [(h0, .inr (6, [.ref (ad 0), .int 10, .ref (ad 2), .ref (ad 3), .ref (ad 4), .ref (ad 5), .ref (ad 6), .int 0, .int 0, .ref (ad 9), .ref (ad 10), .ref (ad 11), .ref (ad 12), .ref (ad 13), .int 0, .ref (ad 15), .int 0, .ref (ad 17), .ref (ad 18), .int 0])), (ad 0, .inl (cyB, 1600, .inl f120))] := hD
  refine lv_iinc (v := 8) (lv' := [(2, .int 8), (0, .ref h0), (1, .int a1)]) hx hb dX6_layFour_42 hl (k := 0) rfl (by decide) (by decide) rfl (fun ls hl => ?_)
  refine lv_goto (tgt := 3) hx hb dX6_layFour_45 (by decide) ?_
  refine lv_iload_n hx hb dX6_layFour_3 rfl (lv_at hl 0 rfl) ?_
  refine lv_if_lt (tgt := 48) hx hb dX6_layFour_4 (by decide) (fun c121 => absurd c121 (by decide)) (fun _ => ?_)
  refine lv_aload_n hx hb dX6_layFour_7 rfl (lv_at hl 1 rfl) ?_
  refine va_get (D := (dC, dI)) (ci := 6) (v := .int 10) (C := RX6) (T := TX6) (N := 20) hx hb hts hi6 hown hK hP 0 rfl rfl 1 (by decide) (hts _ (ow_m (k := 0) rfl)) (fun _ h9 => h9) rfl dX6_layFour_8 ?_
  refine lv_aload_n hx hb dX6_layFour_11 rfl (lv_at hl 1 rfl) ?_
  refine va_get (D := (dC, dI)) (ci := 6) (v := .ref (ad 0)) (C := RX6) (T := TX6) (N := 20) hx hb hts hi6 hown hK hP 0 rfl rfl 0 (by decide) (hts _ (ow_m (k := 1) rfl)) (fun _ h9 => h9) rfl dX6_layFour_12 ?_
  refine va_alen (v := 1600) hx hb hK hP 1 0 rfl rfl rfl dX6_layFour_15 ?_
  refine lv_icmp_ge (tgt := 42) hx hb dX6_layFour_16 (by decide) (fun c122 => absurd c122 (by decide)) (fun _ => ?_)
  refine lv_aload_n hx hb dX6_layFour_19 rfl (lv_at hl 1 rfl) ?_
  refine va_get (D := (dC, dI)) (ci := 6) (v := .ref (ad 0)) (C := RX6) (T := TX6) (N := 20) hx hb hts hi6 hown hK hP 0 rfl rfl 0 (by decide) (hts _ (ow_m (k := 1) rfl)) (fun _ h9 => h9) rfl dX6_layFour_20 ?_
  refine lv_aload_n hx hb dX6_layFour_23 rfl (lv_at hl 1 rfl) ?_
  refine va_get (D := (dC, dI)) (ci := 6) (v := .int 10) (C := RX6) (T := TX6) (N := 20) hx hb hts hi6 hown hK hP 0 rfl rfl 1 (by decide) (hts _ (ow_m (k := 0) rfl)) (fun _ h9 => h9) rfl dX6_layFour_24 ?_
  refine lv_iload_n hx hb dX6_layFour_27 rfl (lv_at hl 2 rfl) ?_
  refine lv_iload_n hx hb dX6_layFour_28 rfl (lv_at hl 0 rfl) ?_
  refine lv_iushr hx hb dX6_layFour_29 rfl ?_
  refine lv_topi (fun z123 ez123 => ?_)
  refine lv_i2b hx hb dX6_layFour_30 rfl ?_
  refine lv_topi (fun z124 ez124 => ?_)
  refine va_bast hx hb hK hP hD hS 1 0 rfl rfl (vp_i (a := 10) (by decide) (by decide) (by decide)) dX6_layFour_31 (fun H locs hP hD hS => ?_)
  have hP : va_P (dC, dI) vwCl [(h0, .inr (6, [.ref (ad 0), .int 10, .ref (ad 2), .ref (ad 3), .ref (ad 4), .ref (ad 5), .ref (ad 6), .int 0, .int 0, .ref (ad 9), .ref (ad 10), .ref (ad 11), .ref (ad 12), .ref (ad 13), .int 0, .ref (ad 15), .int 0, .ref (ad 17), .ref (ad 18), .int 0])), (ad 0, .inl (cyB, 1600, .inl (upd f120 10 (vp_nar .byte z124))))] H := hP
  have hD : va_D A [(h0, .inr (6, [.ref (ad 0), .int 10, .ref (ad 2), .ref (ad 3), .ref (ad 4), .ref (ad 5), .ref (ad 6), .int 0, .int 0, .ref (ad 9), .ref (ad 10), .ref (ad 11), .ref (ad 12), .ref (ad 13), .int 0, .ref (ad 15), .int 0, .ref (ad 17), .ref (ad 18), .int 0])), (ad 0, .inl (cyB, 1600, .inl (upd f120 10 (vp_nar .byte z124))))] := hD
  generalize upd f120 10 (vp_nar .byte z124) = f125 at hP hD
  refine lv_aload_n hx hb dX6_layFour_32 rfl (lv_at hl 1 rfl) ?_
  refine lv_dup hx hb dX6_layFour_33 rfl ?_
  refine va_get (D := (dC, dI)) (ci := 6) (v := .int 10) (C := RX6) (T := TX6) (N := 20) hx hb hts hi6 hown hK hP 0 rfl rfl 1 (by decide) (hts _ (ow_m (k := 0) rfl)) (fun _ h9 => h9) rfl dX6_layFour_34 ?_
  refine lv_iconst (v := 1) hx hb dX6_layFour_37 (by decide) ?_
  refine lv_iadd hx hb dX6_layFour_38 ?_
  refine tp_c (w := 11) (by decide) ?_
  refine va_put (D := (dC, dI)) (ci := 6) (v := .int 11) (ty := .int) (C := RX6) (T := TX6) (N := 20) hx hb hts hi6 tyX6 tyX6_ok nmX6 hown hK hP hD hS 0 rfl rfl 1 (by decide) (hts _ (ow_m (k := 0) rfl)) (fun _ h9 => h9) rfl (by decide +kernel) rfl rfl (Nat.le_of_ble_eq_true rfl) dX6_layFour_39 (fun H locs hP hD hS => ?_)
  have hP : va_P (dC, dI) vwCl [(h0, .inr (6, [.ref (ad 0), .int 11, .ref (ad 2), .ref (ad 3), .ref (ad 4), .ref (ad 5), .ref (ad 6), .int 0, .int 0, .ref (ad 9), .ref (ad 10), .ref (ad 11), .ref (ad 12), .ref (ad 13), .int 0, .ref (ad 15), .int 0, .ref (ad 17), .ref (ad 18), .int 0])), (ad 0, .inl (cyB, 1600, .inl f125))] H := hP
  have hD : va_D A [(h0, .inr (6, [.ref (ad 0), .int 11, .ref (ad 2), .ref (ad 3), .ref (ad 4), .ref (ad 5), .ref (ad 6), .int 0, .int 0, .ref (ad 9), .ref (ad 10), .ref (ad 11), .ref (ad 12), .ref (ad 13), .int 0, .ref (ad 15), .int 0, .ref (ad 17), .ref (ad 18), .int 0])), (ad 0, .inl (cyB, 1600, .inl f125))] := hD
  refine lv_iinc (v := 0) (lv' := [(2, .int 0), (0, .ref h0), (1, .int a1)]) hx hb dX6_layFour_42 hl (k := 0) rfl (by decide) (by decide) rfl (fun ls hl => ?_)
  refine lv_goto (tgt := 3) hx hb dX6_layFour_45 (by decide) ?_
  refine lv_iload_n hx hb dX6_layFour_3 rfl (lv_at hl 0 rfl) ?_
  refine lv_if_lt (tgt := 48) hx hb dX6_layFour_4 (by decide) (fun c126 => absurd c126 (by decide)) (fun _ => ?_)
  refine lv_aload_n hx hb dX6_layFour_7 rfl (lv_at hl 1 rfl) ?_
  refine va_get (D := (dC, dI)) (ci := 6) (v := .int 11) (C := RX6) (T := TX6) (N := 20) hx hb hts hi6 hown hK hP 0 rfl rfl 1 (by decide) (hts _ (ow_m (k := 0) rfl)) (fun _ h9 => h9) rfl dX6_layFour_8 ?_
  refine lv_aload_n hx hb dX6_layFour_11 rfl (lv_at hl 1 rfl) ?_
  refine va_get (D := (dC, dI)) (ci := 6) (v := .ref (ad 0)) (C := RX6) (T := TX6) (N := 20) hx hb hts hi6 hown hK hP 0 rfl rfl 0 (by decide) (hts _ (ow_m (k := 1) rfl)) (fun _ h9 => h9) rfl dX6_layFour_12 ?_
  refine va_alen (v := 1600) hx hb hK hP 1 0 rfl rfl rfl dX6_layFour_15 ?_
  refine lv_icmp_ge (tgt := 42) hx hb dX6_layFour_16 (by decide) (fun c127 => absurd c127 (by decide)) (fun _ => ?_)
  refine lv_aload_n hx hb dX6_layFour_19 rfl (lv_at hl 1 rfl) ?_
  refine va_get (D := (dC, dI)) (ci := 6) (v := .ref (ad 0)) (C := RX6) (T := TX6) (N := 20) hx hb hts hi6 hown hK hP 0 rfl rfl 0 (by decide) (hts _ (ow_m (k := 1) rfl)) (fun _ h9 => h9) rfl dX6_layFour_20 ?_
  refine lv_aload_n hx hb dX6_layFour_23 rfl (lv_at hl 1 rfl) ?_
  refine va_get (D := (dC, dI)) (ci := 6) (v := .int 11) (C := RX6) (T := TX6) (N := 20) hx hb hts hi6 hown hK hP 0 rfl rfl 1 (by decide) (hts _ (ow_m (k := 0) rfl)) (fun _ h9 => h9) rfl dX6_layFour_24 ?_
  refine lv_iload_n hx hb dX6_layFour_27 rfl (lv_at hl 2 rfl) ?_
  refine lv_iload_n hx hb dX6_layFour_28 rfl (lv_at hl 0 rfl) ?_
  refine lv_iushr hx hb dX6_layFour_29 rfl ?_
  refine lv_topi (fun z128 ez128 => ?_)
  refine lv_i2b hx hb dX6_layFour_30 rfl ?_
  refine lv_topi (fun z129 ez129 => ?_)
  refine va_bast hx hb hK hP hD hS 1 0 rfl rfl (vp_i (a := 11) (by decide) (by decide) (by decide)) dX6_layFour_31 (fun H locs hP hD hS => ?_)
  have hP : va_P (dC, dI) vwCl [(h0, .inr (6, [.ref (ad 0), .int 11, .ref (ad 2), .ref (ad 3), .ref (ad 4), .ref (ad 5), .ref (ad 6), .int 0, .int 0, .ref (ad 9), .ref (ad 10), .ref (ad 11), .ref (ad 12), .ref (ad 13), .int 0, .ref (ad 15), .int 0, .ref (ad 17), .ref (ad 18), .int 0])), (ad 0, .inl (cyB, 1600, .inl (upd f125 11 (vp_nar .byte z129))))] H := hP
  have hD : va_D A [(h0, .inr (6, [.ref (ad 0), .int 11, .ref (ad 2), .ref (ad 3), .ref (ad 4), .ref (ad 5), .ref (ad 6), .int 0, .int 0, .ref (ad 9), .ref (ad 10), .ref (ad 11), .ref (ad 12), .ref (ad 13), .int 0, .ref (ad 15), .int 0, .ref (ad 17), .ref (ad 18), .int 0])), (ad 0, .inl (cyB, 1600, .inl (upd f125 11 (vp_nar .byte z129))))] := hD
  generalize upd f125 11 (vp_nar .byte z129) = f130 at hP hD
  refine lv_aload_n hx hb dX6_layFour_32 rfl (lv_at hl 1 rfl) ?_
  refine lv_dup hx hb dX6_layFour_33 rfl ?_
  refine va_get (D := (dC, dI)) (ci := 6) (v := .int 11) (C := RX6) (T := TX6) (N := 20) hx hb hts hi6 hown hK hP 0 rfl rfl 1 (by decide) (hts _ (ow_m (k := 0) rfl)) (fun _ h9 => h9) rfl dX6_layFour_34 ?_
  refine lv_iconst (v := 1) hx hb dX6_layFour_37 (by decide) ?_
  refine lv_iadd hx hb dX6_layFour_38 ?_
  refine tp_c (w := 12) (by decide) ?_
  refine va_put (D := (dC, dI)) (ci := 6) (v := .int 12) (ty := .int) (C := RX6) (T := TX6) (N := 20) hx hb hts hi6 tyX6 tyX6_ok nmX6 hown hK hP hD hS 0 rfl rfl 1 (by decide) (hts _ (ow_m (k := 0) rfl)) (fun _ h9 => h9) rfl (by decide +kernel) rfl rfl (Nat.le_of_ble_eq_true rfl) dX6_layFour_39 (fun H locs hP hD hS => ?_)
  have hP : va_P (dC, dI) vwCl [(h0, .inr (6, [.ref (ad 0), .int 12, .ref (ad 2), .ref (ad 3), .ref (ad 4), .ref (ad 5), .ref (ad 6), .int 0, .int 0, .ref (ad 9), .ref (ad 10), .ref (ad 11), .ref (ad 12), .ref (ad 13), .int 0, .ref (ad 15), .int 0, .ref (ad 17), .ref (ad 18), .int 0])), (ad 0, .inl (cyB, 1600, .inl f130))] H := hP
  have hD : va_D A [(h0, .inr (6, [.ref (ad 0), .int 12, .ref (ad 2), .ref (ad 3), .ref (ad 4), .ref (ad 5), .ref (ad 6), .int 0, .int 0, .ref (ad 9), .ref (ad 10), .ref (ad 11), .ref (ad 12), .ref (ad 13), .int 0, .ref (ad 15), .int 0, .ref (ad 17), .ref (ad 18), .int 0])), (ad 0, .inl (cyB, 1600, .inl f130))] := hD
  refine lv_iinc (v := (-8)) (lv' := [(2, .int (-8)), (0, .ref h0), (1, .int a1)]) hx hb dX6_layFour_42 hl (k := 0) rfl (by decide) (by decide) rfl (fun ls hl => ?_)
  refine lv_goto (tgt := 3) hx hb dX6_layFour_45 (by decide) ?_
  refine lv_iload_n hx hb dX6_layFour_3 rfl (lv_at hl 0 rfl) ?_
  refine lv_if_lt (tgt := 48) hx hb dX6_layFour_4 (by decide) (fun _ => ?_) (fun c131 => absurd (by decide) c131)
  exact W.vret hx hb hr (fun t ht hW => ⟨⟨(fun _ => f130), rfl, trivial, cE.of ht hP hD [0, 1] (by decide) rfl⟩, hS.F ht⟩) hS.2.2 dX6_layFour_48
def wo_k_X6_layFour_v4 : List Cond := [.fieldLink RX6 79 "ReplicaChain" "tapeLength" "I", .fieldLink RX6 9 "ReplicaChain" "tape" "[B"]
def wq_k_X6_layFour_v4 : List Cond := .code yX6_layFour cX6_layFour 3 none :: (wo_k_X6_layFour_v4 ++ (wsX60 ++ []))
theorem gd_k_X6_layFour_v4 : Gd wq_k_X6_layFour_v4 := gd_c (gd_a (gd_o (by decide +kernel)) (gd_a gd_u gd_0))
abbrev wc_k_X6_layFour_v4 (cyB cyI cyJ cyZ cyO : ClassId) (h0 : Nat) (ad : Nat → Nat) (u133 : Nat → Nat → Int32) (a1 : Int32) : va_W := [(h0, .inr (6, [.ref (ad 0), .int 12, .ref (ad 2), .ref (ad 3), .ref (ad 4), .ref (ad 5), .ref (ad 6), .int 0, .int 0, .ref (ad 9), .ref (ad 10), .ref (ad 11), .ref (ad 12), .ref (ad 13), .int 0, .ref (ad 15), .int 0, .ref (ad 17), .ref (ad 18), .int 0])), (ad 0, .inl (cyB, 1600, .inl (u133 0)))]
set_option maxHeartbeats 4000000 in
set_option maxRecDepth 100000 in
theorem k_X6_layFour_v4 (l : Launch) (dC : Nat → ClassId) (dI : Nat → Nat → Nat) (cyB cyI cyJ cyZ cyO : ClassId) (h0 : Nat) (ad : Nat → Nat) (u133 : Nat → Nat → Int32) (a1 : Int32) (sz : Nat) : Met l yX6_layFour wq_k_X6_layFour_v4 ({ frames := 0, cells := 0, slots := 0, locals := 0 }) (va_Pc [.ref h0, .int a1] (cB (dC, dI) (kT cyB cyI cyJ cyZ cyO) (wc_k_X6_layFour_v4 cyB cyI cyJ cyZ cyO h0 ad u133 a1) sz)) (va_Qv (fun _ => True) (fun (u : Nat → Nat → Int32) t => cE (dC, dI) (va_A (wc_k_X6_layFour_v4 cyB cyI cyJ cyZ cyO h0 ad u133 a1) sz) ([(h0, .inr (6, [.ref (ad 0), .int 16, .ref (ad 2), .ref (ad 3), .ref (ad 4), .ref (ad 5), .ref (ad 6), .int 0, .int 0, .ref (ad 9), .ref (ad 10), .ref (ad 11), .ref (ad 12), .ref (ad 13), .int 0, .ref (ad 15), .int 0, .ref (ad 17), .ref (ad 18), .int 0])), (ad 0, .inl (cyB, 1600, .inl (u 0)))]) t.heap) (va_A (wc_k_X6_layFour_v4 cyB cyI cyJ cyZ cyO h0 ad u133 a1) sz)) 0 0 (va_A (wc_k_X6_layFour_v4 cyB cyI cyJ cyZ cyO h0 ad u133 a1) sz) := by
  refine Met.ofW (cc := cX6_layFour) (maxL := 3) (ret := none) (by decide) rfl ?_
  intro p e s m args below meth c s₁ B hml hv
  obtain ⟨rfl, hsz, hP, hKN, hD0⟩ := hv
  have hx := B.exec
  have hb := B.bytes
  have hr := B.returns
  have hts := atoms_spec (ws := wq_k_X6_layFour_v4) B.pre
  have hown : s.vm.findClass RX6 = some m.cls := findClass_of_methodNamed B.named
  have hlocks := B.notSynchronized
  have hK := hKN.1
  have hfix : CallFix p m c cX6_layFour 3 s [.ref h0, .int a1].toArray wq_k_X6_layFour_v4 RX6 := ⟨hx, hb, hml, hown, hts⟩
  have hi6 : ∀ w ∈ wsX60, w ∈ wq_k_X6_layFour_v4 := (sb_c sb_l)
  subst hsz
  have hD := hD0.self (sz := s.heap.size)
  generalize hAe : va_A (wc_k_X6_layFour_v4 cyB cyI cyJ cyZ cyO h0 ad u133 a1) s.heap.size = A at hD ⊢
  have hA : ∀ q : Nat, s.heap.size ≤ q → A q := fun q h => by rw [← hAe]; exact Or.inr h
  have hS : va_S A s.heap s.heap [] := va_S.rf
  have hl := lv_entry ([.ref h0, .int a1]) (n := 3) (Nat.le_of_ble_eq_true rfl)
  rw [lg_entry_eq]
  generalize (lg_sl ([.ref h0, .int a1]) ++ List.replicate (3 - (lg_sl ([.ref h0, .int a1])).length) Slot.unset).toArray = ls at hl ⊢
  have hl : lv_has ls 3 [(0, .ref h0), (1, .int a1)] := hl
  refine lv_bipush (v := 24) hx hb dX6_layFour_0 (by decide) ?_
  refine lv_istore_n (lv' := [(2, .int 24), (0, .ref h0), (1, .int a1)]) hx hb dX6_layFour_2 rfl hl (by decide) rfl (fun ls hl => ?_)
  refine lv_iload_n hx hb dX6_layFour_3 rfl (lv_at hl 0 rfl) ?_
  refine lv_if_lt (tgt := 48) hx hb dX6_layFour_4 (by decide) (fun c155 => absurd c155 (by decide)) (fun _ => ?_)
  refine lv_aload_n hx hb dX6_layFour_7 rfl (lv_at hl 1 rfl) ?_
  refine va_get (D := (dC, dI)) (ci := 6) (v := .int 12) (C := RX6) (T := TX6) (N := 20) hx hb hts hi6 hown hK hP 0 rfl rfl 1 (by decide) (hts _ (ow_m (k := 0) rfl)) (fun _ h9 => h9) rfl dX6_layFour_8 ?_
  refine lv_aload_n hx hb dX6_layFour_11 rfl (lv_at hl 1 rfl) ?_
  refine va_get (D := (dC, dI)) (ci := 6) (v := .ref (ad 0)) (C := RX6) (T := TX6) (N := 20) hx hb hts hi6 hown hK hP 0 rfl rfl 0 (by decide) (hts _ (ow_m (k := 1) rfl)) (fun _ h9 => h9) rfl dX6_layFour_12 ?_
  refine va_alen (v := 1600) hx hb hK hP 1 0 rfl rfl rfl dX6_layFour_15 ?_
  refine lv_icmp_ge (tgt := 42) hx hb dX6_layFour_16 (by decide) (fun c156 => absurd c156 (by decide)) (fun _ => ?_)
  refine lv_aload_n hx hb dX6_layFour_19 rfl (lv_at hl 1 rfl) ?_
  refine va_get (D := (dC, dI)) (ci := 6) (v := .ref (ad 0)) (C := RX6) (T := TX6) (N := 20) hx hb hts hi6 hown hK hP 0 rfl rfl 0 (by decide) (hts _ (ow_m (k := 1) rfl)) (fun _ h9 => h9) rfl dX6_layFour_20 ?_
  refine lv_aload_n hx hb dX6_layFour_23 rfl (lv_at hl 1 rfl) ?_
  refine va_get (D := (dC, dI)) (ci := 6) (v := .int 12) (C := RX6) (T := TX6) (N := 20) hx hb hts hi6 hown hK hP 0 rfl rfl 1 (by decide) (hts _ (ow_m (k := 0) rfl)) (fun _ h9 => h9) rfl dX6_layFour_24 ?_
  refine lv_iload_n hx hb dX6_layFour_27 rfl (lv_at hl 2 rfl) ?_
  refine lv_iload_n hx hb dX6_layFour_28 rfl (lv_at hl 0 rfl) ?_
  refine lv_iushr hx hb dX6_layFour_29 rfl ?_
  refine lv_topi (fun z157 ez157 => ?_)
  refine lv_i2b hx hb dX6_layFour_30 rfl ?_
  refine lv_topi (fun z158 ez158 => ?_)
  refine va_bast hx hb hK hP hD hS 1 0 rfl rfl (vp_i (a := 12) (by decide) (by decide) (by decide)) dX6_layFour_31 (fun H locs hP hD hS => ?_)
  have hP : va_P (dC, dI) vwCl [(h0, .inr (6, [.ref (ad 0), .int 12, .ref (ad 2), .ref (ad 3), .ref (ad 4), .ref (ad 5), .ref (ad 6), .int 0, .int 0, .ref (ad 9), .ref (ad 10), .ref (ad 11), .ref (ad 12), .ref (ad 13), .int 0, .ref (ad 15), .int 0, .ref (ad 17), .ref (ad 18), .int 0])), (ad 0, .inl (cyB, 1600, .inl (upd (u133 0) 12 (vp_nar .byte z158))))] H := hP
  have hD : va_D A [(h0, .inr (6, [.ref (ad 0), .int 12, .ref (ad 2), .ref (ad 3), .ref (ad 4), .ref (ad 5), .ref (ad 6), .int 0, .int 0, .ref (ad 9), .ref (ad 10), .ref (ad 11), .ref (ad 12), .ref (ad 13), .int 0, .ref (ad 15), .int 0, .ref (ad 17), .ref (ad 18), .int 0])), (ad 0, .inl (cyB, 1600, .inl (upd (u133 0) 12 (vp_nar .byte z158))))] := hD
  generalize upd (u133 0) 12 (vp_nar .byte z158) = f159 at hP hD
  refine lv_aload_n hx hb dX6_layFour_32 rfl (lv_at hl 1 rfl) ?_
  refine lv_dup hx hb dX6_layFour_33 rfl ?_
  refine va_get (D := (dC, dI)) (ci := 6) (v := .int 12) (C := RX6) (T := TX6) (N := 20) hx hb hts hi6 hown hK hP 0 rfl rfl 1 (by decide) (hts _ (ow_m (k := 0) rfl)) (fun _ h9 => h9) rfl dX6_layFour_34 ?_
  refine lv_iconst (v := 1) hx hb dX6_layFour_37 (by decide) ?_
  refine lv_iadd hx hb dX6_layFour_38 ?_
  refine tp_c (w := 13) (by decide) ?_
  refine va_put (D := (dC, dI)) (ci := 6) (v := .int 13) (ty := .int) (C := RX6) (T := TX6) (N := 20) hx hb hts hi6 tyX6 tyX6_ok nmX6 hown hK hP hD hS 0 rfl rfl 1 (by decide) (hts _ (ow_m (k := 0) rfl)) (fun _ h9 => h9) rfl (by decide +kernel) rfl rfl (Nat.le_of_ble_eq_true rfl) dX6_layFour_39 (fun H locs hP hD hS => ?_)
  have hP : va_P (dC, dI) vwCl [(h0, .inr (6, [.ref (ad 0), .int 13, .ref (ad 2), .ref (ad 3), .ref (ad 4), .ref (ad 5), .ref (ad 6), .int 0, .int 0, .ref (ad 9), .ref (ad 10), .ref (ad 11), .ref (ad 12), .ref (ad 13), .int 0, .ref (ad 15), .int 0, .ref (ad 17), .ref (ad 18), .int 0])), (ad 0, .inl (cyB, 1600, .inl f159))] H := hP
  have hD : va_D A [(h0, .inr (6, [.ref (ad 0), .int 13, .ref (ad 2), .ref (ad 3), .ref (ad 4), .ref (ad 5), .ref (ad 6), .int 0, .int 0, .ref (ad 9), .ref (ad 10), .ref (ad 11), .ref (ad 12), .ref (ad 13), .int 0, .ref (ad 15), .int 0, .ref (ad 17), .ref (ad 18), .int 0])), (ad 0, .inl (cyB, 1600, .inl f159))] := hD
  refine lv_iinc (v := 16) (lv' := [(2, .int 16), (0, .ref h0), (1, .int a1)]) hx hb dX6_layFour_42 hl (k := 0) rfl (by decide) (by decide) rfl (fun ls hl => ?_)
  refine lv_goto (tgt := 3) hx hb dX6_layFour_45 (by decide) ?_
  refine lv_iload_n hx hb dX6_layFour_3 rfl (lv_at hl 0 rfl) ?_
  refine lv_if_lt (tgt := 48) hx hb dX6_layFour_4 (by decide) (fun c160 => absurd c160 (by decide)) (fun _ => ?_)
  refine lv_aload_n hx hb dX6_layFour_7 rfl (lv_at hl 1 rfl) ?_
  refine va_get (D := (dC, dI)) (ci := 6) (v := .int 13) (C := RX6) (T := TX6) (N := 20) hx hb hts hi6 hown hK hP 0 rfl rfl 1 (by decide) (hts _ (ow_m (k := 0) rfl)) (fun _ h9 => h9) rfl dX6_layFour_8 ?_
  refine lv_aload_n hx hb dX6_layFour_11 rfl (lv_at hl 1 rfl) ?_
  refine va_get (D := (dC, dI)) (ci := 6) (v := .ref (ad 0)) (C := RX6) (T := TX6) (N := 20) hx hb hts hi6 hown hK hP 0 rfl rfl 0 (by decide) (hts _ (ow_m (k := 1) rfl)) (fun _ h9 => h9) rfl dX6_layFour_12 ?_
  refine va_alen (v := 1600) hx hb hK hP 1 0 rfl rfl rfl dX6_layFour_15 ?_
  refine lv_icmp_ge (tgt := 42) hx hb dX6_layFour_16 (by decide) (fun c161 => absurd c161 (by decide)) (fun _ => ?_)
  refine lv_aload_n hx hb dX6_layFour_19 rfl (lv_at hl 1 rfl) ?_
  refine va_get (D := (dC, dI)) (ci := 6) (v := .ref (ad 0)) (C := RX6) (T := TX6) (N := 20) hx hb hts hi6 hown hK hP 0 rfl rfl 0 (by decide) (hts _ (ow_m (k := 1) rfl)) (fun _ h9 => h9) rfl dX6_layFour_20 ?_
  refine lv_aload_n hx hb dX6_layFour_23 rfl (lv_at hl 1 rfl) ?_
  refine va_get (D := (dC, dI)) (ci := 6) (v := .int 13) (C := RX6) (T := TX6) (N := 20) hx hb hts hi6 hown hK hP 0 rfl rfl 1 (by decide) (hts _ (ow_m (k := 0) rfl)) (fun _ h9 => h9) rfl dX6_layFour_24 ?_
  refine lv_iload_n hx hb dX6_layFour_27 rfl (lv_at hl 2 rfl) ?_
  refine lv_iload_n hx hb dX6_layFour_28 rfl (lv_at hl 0 rfl) ?_
  refine lv_iushr hx hb dX6_layFour_29 rfl ?_
  refine lv_topi (fun z162 ez162 => ?_)
  refine lv_i2b hx hb dX6_layFour_30 rfl ?_
  refine lv_topi (fun z163 ez163 => ?_)
  refine va_bast hx hb hK hP hD hS 1 0 rfl rfl (vp_i (a := 13) (by decide) (by decide) (by decide)) dX6_layFour_31 (fun H locs hP hD hS => ?_)
  have hP : va_P (dC, dI) vwCl [(h0, .inr (6, [.ref (ad 0), .int 13, .ref (ad 2), .ref (ad 3), .ref (ad 4), .ref (ad 5), .ref (ad 6), .int 0, .int 0, .ref (ad 9), .ref (ad 10), .ref (ad 11), .ref (ad 12), .ref (ad 13), .int 0, .ref (ad 15), .int 0, .ref (ad 17), .ref (ad 18), .int 0])), (ad 0, .inl (cyB, 1600, .inl (upd f159 13 (vp_nar .byte z163))))] H := hP
  have hD : va_D A [(h0, .inr (6, [.ref (ad 0), .int 13, .ref (ad 2), .ref (ad 3), .ref (ad 4), .ref (ad 5), .ref (ad 6), .int 0, .int 0, .ref (ad 9), .ref (ad 10), .ref (ad 11), .ref (ad 12), .ref (ad 13), .int 0, .ref (ad 15), .int 0, .ref (ad 17), .ref (ad 18), .int 0])), (ad 0, .inl (cyB, 1600, .inl (upd f159 13 (vp_nar .byte z163))))] := hD
  generalize upd f159 13 (vp_nar .byte z163) = f164 at hP hD
  refine lv_aload_n hx hb dX6_layFour_32 rfl (lv_at hl 1 rfl) ?_
  refine lv_dup hx hb dX6_layFour_33 rfl ?_
  refine va_get (D := (dC, dI)) (ci := 6) (v := .int 13) (C := RX6) (T := TX6) (N := 20) hx hb hts hi6 hown hK hP 0 rfl rfl 1 (by decide) (hts _ (ow_m (k := 0) rfl)) (fun _ h9 => h9) rfl dX6_layFour_34 ?_
  refine lv_iconst (v := 1) hx hb dX6_layFour_37 (by decide) ?_
  refine lv_iadd hx hb dX6_layFour_38 ?_
  refine tp_c (w := 14) (by decide) ?_
  refine va_put (D := (dC, dI)) (ci := 6) (v := .int 14) (ty := .int) (C := RX6) (T := TX6) (N := 20) hx hb hts hi6 tyX6 tyX6_ok nmX6 hown hK hP hD hS 0 rfl rfl 1 (by decide) (hts _ (ow_m (k := 0) rfl)) (fun _ h9 => h9) rfl (by decide +kernel) rfl rfl (Nat.le_of_ble_eq_true rfl) dX6_layFour_39 (fun H locs hP hD hS => ?_)
  have hP : va_P (dC, dI) vwCl [(h0, .inr (6, [.ref (ad 0), .int 14, .ref (ad 2), .ref (ad 3), .ref (ad 4), .ref (ad 5), .ref (ad 6), .int 0, .int 0, .ref (ad 9), .ref (ad 10), .ref (ad 11), .ref (ad 12), .ref (ad 13), .int 0, .ref (ad 15), .int 0, .ref (ad 17), .ref (ad 18), .int 0])), (ad 0, .inl (cyB, 1600, .inl f164))] H := hP
  have hD : va_D A [(h0, .inr (6, [.ref (ad 0), .int 14, .ref (ad 2), .ref (ad 3), .ref (ad 4), .ref (ad 5), .ref (ad 6), .int 0, .int 0, .ref (ad 9), .ref (ad 10), .ref (ad 11), .ref (ad 12), .ref (ad 13), .int 0, .ref (ad 15), .int 0, .ref (ad 17), .ref (ad 18), .int 0])), (ad 0, .inl (cyB, 1600, .inl f164))] := hD
  refine lv_iinc (v := 8) (lv' := [(2, .int 8), (0, .ref h0), (1, .int a1)]) hx hb dX6_layFour_42 hl (k := 0) rfl (by decide) (by decide) rfl (fun ls hl => ?_)
  refine lv_goto (tgt := 3) hx hb dX6_layFour_45 (by decide) ?_
  refine lv_iload_n hx hb dX6_layFour_3 rfl (lv_at hl 0 rfl) ?_
  refine lv_if_lt (tgt := 48) hx hb dX6_layFour_4 (by decide) (fun c165 => absurd c165 (by decide)) (fun _ => ?_)
  refine lv_aload_n hx hb dX6_layFour_7 rfl (lv_at hl 1 rfl) ?_
  refine va_get (D := (dC, dI)) (ci := 6) (v := .int 14) (C := RX6) (T := TX6) (N := 20) hx hb hts hi6 hown hK hP 0 rfl rfl 1 (by decide) (hts _ (ow_m (k := 0) rfl)) (fun _ h9 => h9) rfl dX6_layFour_8 ?_
  refine lv_aload_n hx hb dX6_layFour_11 rfl (lv_at hl 1 rfl) ?_
  refine va_get (D := (dC, dI)) (ci := 6) (v := .ref (ad 0)) (C := RX6) (T := TX6) (N := 20) hx hb hts hi6 hown hK hP 0 rfl rfl 0 (by decide) (hts _ (ow_m (k := 1) rfl)) (fun _ h9 => h9) rfl dX6_layFour_12 ?_
  refine va_alen (v := 1600) hx hb hK hP 1 0 rfl rfl rfl dX6_layFour_15 ?_
  refine lv_icmp_ge (tgt := 42) hx hb dX6_layFour_16 (by decide) (fun c166 => absurd c166 (by decide)) (fun _ => ?_)
  refine lv_aload_n hx hb dX6_layFour_19 rfl (lv_at hl 1 rfl) ?_
  refine va_get (D := (dC, dI)) (ci := 6) (v := .ref (ad 0)) (C := RX6) (T := TX6) (N := 20) hx hb hts hi6 hown hK hP 0 rfl rfl 0 (by decide) (hts _ (ow_m (k := 1) rfl)) (fun _ h9 => h9) rfl dX6_layFour_20 ?_
  refine lv_aload_n hx hb dX6_layFour_23 rfl (lv_at hl 1 rfl) ?_
  refine va_get (D := (dC, dI)) (ci := 6) (v := .int 14) (C := RX6) (T := TX6) (N := 20) hx hb hts hi6 hown hK hP 0 rfl rfl 1 (by decide) (hts _ (ow_m (k := 0) rfl)) (fun _ h9 => h9) rfl dX6_layFour_24 ?_
  refine lv_iload_n hx hb dX6_layFour_27 rfl (lv_at hl 2 rfl) ?_
  refine lv_iload_n hx hb dX6_layFour_28 rfl (lv_at hl 0 rfl) ?_
  refine lv_iushr hx hb dX6_layFour_29 rfl ?_
  refine lv_topi (fun z167 ez167 => ?_)
  refine lv_i2b hx hb dX6_layFour_30 rfl ?_
  refine lv_topi (fun z168 ez168 => ?_)
  refine va_bast hx hb hK hP hD hS 1 0 rfl rfl (vp_i (a := 14) (by decide) (by decide) (by decide)) dX6_layFour_31 (fun H locs hP hD hS => ?_)
  have hP : va_P (dC, dI) vwCl [(h0, .inr (6, [.ref (ad 0), .int 14, .ref (ad 2), .ref (ad 3), .ref (ad 4), .ref (ad 5), .ref (ad 6), .int 0, .int 0, .ref (ad 9), .ref (ad 10), .ref (ad 11), .ref (ad 12), .ref (ad 13), .int 0, .ref (ad 15), .int 0, .ref (ad 17), .ref (ad 18), .int 0])), (ad 0, .inl (cyB, 1600, .inl (upd f164 14 (vp_nar .byte z168))))] H := hP
  have hD : va_D A [(h0, .inr (6, [.ref (ad 0), .int 14, .ref (ad 2), .ref (ad 3), .ref (ad 4), .ref (ad 5), .ref (ad 6), .int 0, .int 0, .ref (ad 9), .ref (ad 10), .ref (ad 11), .ref (ad 12), .ref (ad 13), .int 0, .ref (ad 15), .int 0, .ref (ad 17), .ref (ad 18), .int 0])), (ad 0, .inl (cyB, 1600, .inl (upd f164 14 (vp_nar .byte z168))))] := hD
  generalize upd f164 14 (vp_nar .byte z168) = f169 at hP hD
  refine lv_aload_n hx hb dX6_layFour_32 rfl (lv_at hl 1 rfl) ?_
  refine lv_dup hx hb dX6_layFour_33 rfl ?_
  refine va_get (D := (dC, dI)) (ci := 6) (v := .int 14) (C := RX6) (T := TX6) (N := 20) hx hb hts hi6 hown hK hP 0 rfl rfl 1 (by decide) (hts _ (ow_m (k := 0) rfl)) (fun _ h9 => h9) rfl dX6_layFour_34 ?_
  refine lv_iconst (v := 1) hx hb dX6_layFour_37 (by decide) ?_
  refine lv_iadd hx hb dX6_layFour_38 ?_
  refine tp_c (w := 15) (by decide) ?_
  refine va_put (D := (dC, dI)) (ci := 6) (v := .int 15) (ty := .int) (C := RX6) (T := TX6) (N := 20) hx hb hts hi6 tyX6 tyX6_ok nmX6 hown hK hP hD hS 0 rfl rfl 1 (by decide) (hts _ (ow_m (k := 0) rfl)) (fun _ h9 => h9) rfl (by decide +kernel) rfl rfl (Nat.le_of_ble_eq_true rfl) dX6_layFour_39 (fun H locs hP hD hS => ?_)
  have hP : va_P (dC, dI) vwCl [(h0, .inr (6, [.ref (ad 0), .int 15, .ref (ad 2), .ref (ad 3), .ref (ad 4), .ref (ad 5), .ref (ad 6), .int 0, .int 0, .ref (ad 9), .ref (ad 10), .ref (ad 11), .ref (ad 12), .ref (ad 13), .int 0, .ref (ad 15), .int 0, .ref (ad 17), .ref (ad 18), .int 0])), (ad 0, .inl (cyB, 1600, .inl f169))] H := hP
  have hD : va_D A [(h0, .inr (6, [.ref (ad 0), .int 15, .ref (ad 2), .ref (ad 3), .ref (ad 4), .ref (ad 5), .ref (ad 6), .int 0, .int 0, .ref (ad 9), .ref (ad 10), .ref (ad 11), .ref (ad 12), .ref (ad 13), .int 0, .ref (ad 15), .int 0, .ref (ad 17), .ref (ad 18), .int 0])), (ad 0, .inl (cyB, 1600, .inl f169))] := hD
  refine lv_iinc (v := 0) (lv' := [(2, .int 0), (0, .ref h0), (1, .int a1)]) hx hb dX6_layFour_42 hl (k := 0) rfl (by decide) (by decide) rfl (fun ls hl => ?_)
  refine lv_goto (tgt := 3) hx hb dX6_layFour_45 (by decide) ?_
  refine lv_iload_n hx hb dX6_layFour_3 rfl (lv_at hl 0 rfl) ?_
  refine lv_if_lt (tgt := 48) hx hb dX6_layFour_4 (by decide) (fun c170 => absurd c170 (by decide)) (fun _ => ?_)
  refine lv_aload_n hx hb dX6_layFour_7 rfl (lv_at hl 1 rfl) ?_
  refine va_get (D := (dC, dI)) (ci := 6) (v := .int 15) (C := RX6) (T := TX6) (N := 20) hx hb hts hi6 hown hK hP 0 rfl rfl 1 (by decide) (hts _ (ow_m (k := 0) rfl)) (fun _ h9 => h9) rfl dX6_layFour_8 ?_
  refine lv_aload_n hx hb dX6_layFour_11 rfl (lv_at hl 1 rfl) ?_
  refine va_get (D := (dC, dI)) (ci := 6) (v := .ref (ad 0)) (C := RX6) (T := TX6) (N := 20) hx hb hts hi6 hown hK hP 0 rfl rfl 0 (by decide) (hts _ (ow_m (k := 1) rfl)) (fun _ h9 => h9) rfl dX6_layFour_12 ?_
  refine va_alen (v := 1600) hx hb hK hP 1 0 rfl rfl rfl dX6_layFour_15 ?_
  refine lv_icmp_ge (tgt := 42) hx hb dX6_layFour_16 (by decide) (fun c171 => absurd c171 (by decide)) (fun _ => ?_)
  refine lv_aload_n hx hb dX6_layFour_19 rfl (lv_at hl 1 rfl) ?_
  refine va_get (D := (dC, dI)) (ci := 6) (v := .ref (ad 0)) (C := RX6) (T := TX6) (N := 20) hx hb hts hi6 hown hK hP 0 rfl rfl 0 (by decide) (hts _ (ow_m (k := 1) rfl)) (fun _ h9 => h9) rfl dX6_layFour_20 ?_
  refine lv_aload_n hx hb dX6_layFour_23 rfl (lv_at hl 1 rfl) ?_
  refine va_get (D := (dC, dI)) (ci := 6) (v := .int 15) (C := RX6) (T := TX6) (N := 20) hx hb hts hi6 hown hK hP 0 rfl rfl 1 (by decide) (hts _ (ow_m (k := 0) rfl)) (fun _ h9 => h9) rfl dX6_layFour_24 ?_
  refine lv_iload_n hx hb dX6_layFour_27 rfl (lv_at hl 2 rfl) ?_
  refine lv_iload_n hx hb dX6_layFour_28 rfl (lv_at hl 0 rfl) ?_
  refine lv_iushr hx hb dX6_layFour_29 rfl ?_
  refine lv_topi (fun z172 ez172 => ?_)
  refine lv_i2b hx hb dX6_layFour_30 rfl ?_
  refine lv_topi (fun z173 ez173 => ?_)
  refine va_bast hx hb hK hP hD hS 1 0 rfl rfl (vp_i (a := 15) (by decide) (by decide) (by decide)) dX6_layFour_31 (fun H locs hP hD hS => ?_)
  have hP : va_P (dC, dI) vwCl [(h0, .inr (6, [.ref (ad 0), .int 15, .ref (ad 2), .ref (ad 3), .ref (ad 4), .ref (ad 5), .ref (ad 6), .int 0, .int 0, .ref (ad 9), .ref (ad 10), .ref (ad 11), .ref (ad 12), .ref (ad 13), .int 0, .ref (ad 15), .int 0, .ref (ad 17), .ref (ad 18), .int 0])), (ad 0, .inl (cyB, 1600, .inl (upd f169 15 (vp_nar .byte z173))))] H := hP
  have hD : va_D A [(h0, .inr (6, [.ref (ad 0), .int 15, .ref (ad 2), .ref (ad 3), .ref (ad 4), .ref (ad 5), .ref (ad 6), .int 0, .int 0, .ref (ad 9), .ref (ad 10), .ref (ad 11), .ref (ad 12), .ref (ad 13), .int 0, .ref (ad 15), .int 0, .ref (ad 17), .ref (ad 18), .int 0])), (ad 0, .inl (cyB, 1600, .inl (upd f169 15 (vp_nar .byte z173))))] := hD
  generalize upd f169 15 (vp_nar .byte z173) = f174 at hP hD
  refine lv_aload_n hx hb dX6_layFour_32 rfl (lv_at hl 1 rfl) ?_
  refine lv_dup hx hb dX6_layFour_33 rfl ?_
  refine va_get (D := (dC, dI)) (ci := 6) (v := .int 15) (C := RX6) (T := TX6) (N := 20) hx hb hts hi6 hown hK hP 0 rfl rfl 1 (by decide) (hts _ (ow_m (k := 0) rfl)) (fun _ h9 => h9) rfl dX6_layFour_34 ?_
  refine lv_iconst (v := 1) hx hb dX6_layFour_37 (by decide) ?_
  refine lv_iadd hx hb dX6_layFour_38 ?_
  refine tp_c (w := 16) (by decide) ?_
  refine va_put (D := (dC, dI)) (ci := 6) (v := .int 16) (ty := .int) (C := RX6) (T := TX6) (N := 20) hx hb hts hi6 tyX6 tyX6_ok nmX6 hown hK hP hD hS 0 rfl rfl 1 (by decide) (hts _ (ow_m (k := 0) rfl)) (fun _ h9 => h9) rfl (by decide +kernel) rfl rfl (Nat.le_of_ble_eq_true rfl) dX6_layFour_39 (fun H locs hP hD hS => ?_)
  have hP : va_P (dC, dI) vwCl [(h0, .inr (6, [.ref (ad 0), .int 16, .ref (ad 2), .ref (ad 3), .ref (ad 4), .ref (ad 5), .ref (ad 6), .int 0, .int 0, .ref (ad 9), .ref (ad 10), .ref (ad 11), .ref (ad 12), .ref (ad 13), .int 0, .ref (ad 15), .int 0, .ref (ad 17), .ref (ad 18), .int 0])), (ad 0, .inl (cyB, 1600, .inl f174))] H := hP
  have hD : va_D A [(h0, .inr (6, [.ref (ad 0), .int 16, .ref (ad 2), .ref (ad 3), .ref (ad 4), .ref (ad 5), .ref (ad 6), .int 0, .int 0, .ref (ad 9), .ref (ad 10), .ref (ad 11), .ref (ad 12), .ref (ad 13), .int 0, .ref (ad 15), .int 0, .ref (ad 17), .ref (ad 18), .int 0])), (ad 0, .inl (cyB, 1600, .inl f174))] := hD
  refine lv_iinc (v := (-8)) (lv' := [(2, .int (-8)), (0, .ref h0), (1, .int a1)]) hx hb dX6_layFour_42 hl (k := 0) rfl (by decide) (by decide) rfl (fun ls hl => ?_)
  refine lv_goto (tgt := 3) hx hb dX6_layFour_45 (by decide) ?_
  refine lv_iload_n hx hb dX6_layFour_3 rfl (lv_at hl 0 rfl) ?_
  refine lv_if_lt (tgt := 48) hx hb dX6_layFour_4 (by decide) (fun _ => ?_) (fun c175 => absurd (by decide) c175)
  exact W.vret hx hb hr (fun t ht hW => ⟨⟨(fun _ => f174), rfl, trivial, cE.of ht hP hD [0, 1] (by decide) rfl⟩, hS.F ht⟩) hS.2.2 dX6_layFour_48
def wo_k_X6_layFour_v5 : List Cond := [.fieldLink RX6 79 "ReplicaChain" "tapeLength" "I", .fieldLink RX6 9 "ReplicaChain" "tape" "[B"]
def wq_k_X6_layFour_v5 : List Cond := .code yX6_layFour cX6_layFour 3 none :: (wo_k_X6_layFour_v5 ++ (wsX60 ++ []))
theorem gd_k_X6_layFour_v5 : Gd wq_k_X6_layFour_v5 := gd_c (gd_a (gd_o (by decide +kernel)) (gd_a gd_u gd_0))
abbrev wc_k_X6_layFour_v5 (cyB cyI cyJ cyZ cyO : ClassId) (h0 : Nat) (ad : Nat → Nat) (u177 : Nat → Nat → Int32) (a1 : Int32) : va_W := [(h0, .inr (6, [.ref (ad 0), .int 16, .ref (ad 2), .ref (ad 3), .ref (ad 4), .ref (ad 5), .ref (ad 6), .int 0, .int 0, .ref (ad 9), .ref (ad 10), .ref (ad 11), .ref (ad 12), .ref (ad 13), .int 0, .ref (ad 15), .int 0, .ref (ad 17), .ref (ad 18), .int 0])), (ad 0, .inl (cyB, 1600, .inl (u177 0)))]
set_option maxHeartbeats 4000000 in
set_option maxRecDepth 100000 in
theorem k_X6_layFour_v5 (l : Launch) (dC : Nat → ClassId) (dI : Nat → Nat → Nat) (cyB cyI cyJ cyZ cyO : ClassId) (h0 : Nat) (ad : Nat → Nat) (u177 : Nat → Nat → Int32) (a1 : Int32) (sz : Nat) : Met l yX6_layFour wq_k_X6_layFour_v5 ({ frames := 0, cells := 0, slots := 0, locals := 0 }) (va_Pc [.ref h0, .int a1] (cB (dC, dI) (kT cyB cyI cyJ cyZ cyO) (wc_k_X6_layFour_v5 cyB cyI cyJ cyZ cyO h0 ad u177 a1) sz)) (va_Qv (fun _ => True) (fun (u : Nat → Nat → Int32) t => cE (dC, dI) (va_A (wc_k_X6_layFour_v5 cyB cyI cyJ cyZ cyO h0 ad u177 a1) sz) ([(h0, .inr (6, [.ref (ad 0), .int 20, .ref (ad 2), .ref (ad 3), .ref (ad 4), .ref (ad 5), .ref (ad 6), .int 0, .int 0, .ref (ad 9), .ref (ad 10), .ref (ad 11), .ref (ad 12), .ref (ad 13), .int 0, .ref (ad 15), .int 0, .ref (ad 17), .ref (ad 18), .int 0])), (ad 0, .inl (cyB, 1600, .inl (u 0)))]) t.heap) (va_A (wc_k_X6_layFour_v5 cyB cyI cyJ cyZ cyO h0 ad u177 a1) sz)) 0 0 (va_A (wc_k_X6_layFour_v5 cyB cyI cyJ cyZ cyO h0 ad u177 a1) sz) := by
  refine Met.ofW (cc := cX6_layFour) (maxL := 3) (ret := none) (by decide) rfl ?_
  intro p e s m args below meth c s₁ B hml hv
  obtain ⟨rfl, hsz, hP, hKN, hD0⟩ := hv
  have hx := B.exec
  have hb := B.bytes
  have hr := B.returns
  have hts := atoms_spec (ws := wq_k_X6_layFour_v5) B.pre
  have hown : s.vm.findClass RX6 = some m.cls := findClass_of_methodNamed B.named
  have hlocks := B.notSynchronized
  have hK := hKN.1
  have hfix : CallFix p m c cX6_layFour 3 s [.ref h0, .int a1].toArray wq_k_X6_layFour_v5 RX6 := ⟨hx, hb, hml, hown, hts⟩
  have hi6 : ∀ w ∈ wsX60, w ∈ wq_k_X6_layFour_v5 := (sb_c sb_l)
  subst hsz
  have hD := hD0.self (sz := s.heap.size)
  generalize hAe : va_A (wc_k_X6_layFour_v5 cyB cyI cyJ cyZ cyO h0 ad u177 a1) s.heap.size = A at hD ⊢
  have hA : ∀ q : Nat, s.heap.size ≤ q → A q := fun q h => by rw [← hAe]; exact Or.inr h
  have hS : va_S A s.heap s.heap [] := va_S.rf
  have hl := lv_entry ([.ref h0, .int a1]) (n := 3) (Nat.le_of_ble_eq_true rfl)
  rw [lg_entry_eq]
  generalize (lg_sl ([.ref h0, .int a1]) ++ List.replicate (3 - (lg_sl ([.ref h0, .int a1])).length) Slot.unset).toArray = ls at hl ⊢
  have hl : lv_has ls 3 [(0, .ref h0), (1, .int a1)] := hl
  refine lv_bipush (v := 24) hx hb dX6_layFour_0 (by decide) ?_
  refine lv_istore_n (lv' := [(2, .int 24), (0, .ref h0), (1, .int a1)]) hx hb dX6_layFour_2 rfl hl (by decide) rfl (fun ls hl => ?_)
  refine lv_iload_n hx hb dX6_layFour_3 rfl (lv_at hl 0 rfl) ?_
  refine lv_if_lt (tgt := 48) hx hb dX6_layFour_4 (by decide) (fun c199 => absurd c199 (by decide)) (fun _ => ?_)
  refine lv_aload_n hx hb dX6_layFour_7 rfl (lv_at hl 1 rfl) ?_
  refine va_get (D := (dC, dI)) (ci := 6) (v := .int 16) (C := RX6) (T := TX6) (N := 20) hx hb hts hi6 hown hK hP 0 rfl rfl 1 (by decide) (hts _ (ow_m (k := 0) rfl)) (fun _ h9 => h9) rfl dX6_layFour_8 ?_
  refine lv_aload_n hx hb dX6_layFour_11 rfl (lv_at hl 1 rfl) ?_
  refine va_get (D := (dC, dI)) (ci := 6) (v := .ref (ad 0)) (C := RX6) (T := TX6) (N := 20) hx hb hts hi6 hown hK hP 0 rfl rfl 0 (by decide) (hts _ (ow_m (k := 1) rfl)) (fun _ h9 => h9) rfl dX6_layFour_12 ?_
  refine va_alen (v := 1600) hx hb hK hP 1 0 rfl rfl rfl dX6_layFour_15 ?_
  refine lv_icmp_ge (tgt := 42) hx hb dX6_layFour_16 (by decide) (fun c200 => absurd c200 (by decide)) (fun _ => ?_)
  refine lv_aload_n hx hb dX6_layFour_19 rfl (lv_at hl 1 rfl) ?_
  refine va_get (D := (dC, dI)) (ci := 6) (v := .ref (ad 0)) (C := RX6) (T := TX6) (N := 20) hx hb hts hi6 hown hK hP 0 rfl rfl 0 (by decide) (hts _ (ow_m (k := 1) rfl)) (fun _ h9 => h9) rfl dX6_layFour_20 ?_
  refine lv_aload_n hx hb dX6_layFour_23 rfl (lv_at hl 1 rfl) ?_
  refine va_get (D := (dC, dI)) (ci := 6) (v := .int 16) (C := RX6) (T := TX6) (N := 20) hx hb hts hi6 hown hK hP 0 rfl rfl 1 (by decide) (hts _ (ow_m (k := 0) rfl)) (fun _ h9 => h9) rfl dX6_layFour_24 ?_
  refine lv_iload_n hx hb dX6_layFour_27 rfl (lv_at hl 2 rfl) ?_
  refine lv_iload_n hx hb dX6_layFour_28 rfl (lv_at hl 0 rfl) ?_
  refine lv_iushr hx hb dX6_layFour_29 rfl ?_
  refine lv_topi (fun z201 ez201 => ?_)
  refine lv_i2b hx hb dX6_layFour_30 rfl ?_
  refine lv_topi (fun z202 ez202 => ?_)
  refine va_bast hx hb hK hP hD hS 1 0 rfl rfl (vp_i (a := 16) (by decide) (by decide) (by decide)) dX6_layFour_31 (fun H locs hP hD hS => ?_)
  have hP : va_P (dC, dI) vwCl [(h0, .inr (6, [.ref (ad 0), .int 16, .ref (ad 2), .ref (ad 3), .ref (ad 4), .ref (ad 5), .ref (ad 6), .int 0, .int 0, .ref (ad 9), .ref (ad 10), .ref (ad 11), .ref (ad 12), .ref (ad 13), .int 0, .ref (ad 15), .int 0, .ref (ad 17), .ref (ad 18), .int 0])), (ad 0, .inl (cyB, 1600, .inl (upd (u177 0) 16 (vp_nar .byte z202))))] H := hP
  have hD : va_D A [(h0, .inr (6, [.ref (ad 0), .int 16, .ref (ad 2), .ref (ad 3), .ref (ad 4), .ref (ad 5), .ref (ad 6), .int 0, .int 0, .ref (ad 9), .ref (ad 10), .ref (ad 11), .ref (ad 12), .ref (ad 13), .int 0, .ref (ad 15), .int 0, .ref (ad 17), .ref (ad 18), .int 0])), (ad 0, .inl (cyB, 1600, .inl (upd (u177 0) 16 (vp_nar .byte z202))))] := hD
  generalize upd (u177 0) 16 (vp_nar .byte z202) = f203 at hP hD
  refine lv_aload_n hx hb dX6_layFour_32 rfl (lv_at hl 1 rfl) ?_
  refine lv_dup hx hb dX6_layFour_33 rfl ?_
  refine va_get (D := (dC, dI)) (ci := 6) (v := .int 16) (C := RX6) (T := TX6) (N := 20) hx hb hts hi6 hown hK hP 0 rfl rfl 1 (by decide) (hts _ (ow_m (k := 0) rfl)) (fun _ h9 => h9) rfl dX6_layFour_34 ?_
  refine lv_iconst (v := 1) hx hb dX6_layFour_37 (by decide) ?_
  refine lv_iadd hx hb dX6_layFour_38 ?_
  refine tp_c (w := 17) (by decide) ?_
  refine va_put (D := (dC, dI)) (ci := 6) (v := .int 17) (ty := .int) (C := RX6) (T := TX6) (N := 20) hx hb hts hi6 tyX6 tyX6_ok nmX6 hown hK hP hD hS 0 rfl rfl 1 (by decide) (hts _ (ow_m (k := 0) rfl)) (fun _ h9 => h9) rfl (by decide +kernel) rfl rfl (Nat.le_of_ble_eq_true rfl) dX6_layFour_39 (fun H locs hP hD hS => ?_)
  have hP : va_P (dC, dI) vwCl [(h0, .inr (6, [.ref (ad 0), .int 17, .ref (ad 2), .ref (ad 3), .ref (ad 4), .ref (ad 5), .ref (ad 6), .int 0, .int 0, .ref (ad 9), .ref (ad 10), .ref (ad 11), .ref (ad 12), .ref (ad 13), .int 0, .ref (ad 15), .int 0, .ref (ad 17), .ref (ad 18), .int 0])), (ad 0, .inl (cyB, 1600, .inl f203))] H := hP
  have hD : va_D A [(h0, .inr (6, [.ref (ad 0), .int 17, .ref (ad 2), .ref (ad 3), .ref (ad 4), .ref (ad 5), .ref (ad 6), .int 0, .int 0, .ref (ad 9), .ref (ad 10), .ref (ad 11), .ref (ad 12), .ref (ad 13), .int 0, .ref (ad 15), .int 0, .ref (ad 17), .ref (ad 18), .int 0])), (ad 0, .inl (cyB, 1600, .inl f203))] := hD
  refine lv_iinc (v := 16) (lv' := [(2, .int 16), (0, .ref h0), (1, .int a1)]) hx hb dX6_layFour_42 hl (k := 0) rfl (by decide) (by decide) rfl (fun ls hl => ?_)
  refine lv_goto (tgt := 3) hx hb dX6_layFour_45 (by decide) ?_
  refine lv_iload_n hx hb dX6_layFour_3 rfl (lv_at hl 0 rfl) ?_
  refine lv_if_lt (tgt := 48) hx hb dX6_layFour_4 (by decide) (fun c204 => absurd c204 (by decide)) (fun _ => ?_)
  refine lv_aload_n hx hb dX6_layFour_7 rfl (lv_at hl 1 rfl) ?_
  refine va_get (D := (dC, dI)) (ci := 6) (v := .int 17) (C := RX6) (T := TX6) (N := 20) hx hb hts hi6 hown hK hP 0 rfl rfl 1 (by decide) (hts _ (ow_m (k := 0) rfl)) (fun _ h9 => h9) rfl dX6_layFour_8 ?_
  refine lv_aload_n hx hb dX6_layFour_11 rfl (lv_at hl 1 rfl) ?_
  refine va_get (D := (dC, dI)) (ci := 6) (v := .ref (ad 0)) (C := RX6) (T := TX6) (N := 20) hx hb hts hi6 hown hK hP 0 rfl rfl 0 (by decide) (hts _ (ow_m (k := 1) rfl)) (fun _ h9 => h9) rfl dX6_layFour_12 ?_
  refine va_alen (v := 1600) hx hb hK hP 1 0 rfl rfl rfl dX6_layFour_15 ?_
  refine lv_icmp_ge (tgt := 42) hx hb dX6_layFour_16 (by decide) (fun c205 => absurd c205 (by decide)) (fun _ => ?_)
  refine lv_aload_n hx hb dX6_layFour_19 rfl (lv_at hl 1 rfl) ?_
  refine va_get (D := (dC, dI)) (ci := 6) (v := .ref (ad 0)) (C := RX6) (T := TX6) (N := 20) hx hb hts hi6 hown hK hP 0 rfl rfl 0 (by decide) (hts _ (ow_m (k := 1) rfl)) (fun _ h9 => h9) rfl dX6_layFour_20 ?_
  refine lv_aload_n hx hb dX6_layFour_23 rfl (lv_at hl 1 rfl) ?_
  refine va_get (D := (dC, dI)) (ci := 6) (v := .int 17) (C := RX6) (T := TX6) (N := 20) hx hb hts hi6 hown hK hP 0 rfl rfl 1 (by decide) (hts _ (ow_m (k := 0) rfl)) (fun _ h9 => h9) rfl dX6_layFour_24 ?_
  refine lv_iload_n hx hb dX6_layFour_27 rfl (lv_at hl 2 rfl) ?_
  refine lv_iload_n hx hb dX6_layFour_28 rfl (lv_at hl 0 rfl) ?_
  refine lv_iushr hx hb dX6_layFour_29 rfl ?_
  refine lv_topi (fun z206 ez206 => ?_)
  refine lv_i2b hx hb dX6_layFour_30 rfl ?_
  refine lv_topi (fun z207 ez207 => ?_)
  refine va_bast hx hb hK hP hD hS 1 0 rfl rfl (vp_i (a := 17) (by decide) (by decide) (by decide)) dX6_layFour_31 (fun H locs hP hD hS => ?_)
  have hP : va_P (dC, dI) vwCl [(h0, .inr (6, [.ref (ad 0), .int 17, .ref (ad 2), .ref (ad 3), .ref (ad 4), .ref (ad 5), .ref (ad 6), .int 0, .int 0, .ref (ad 9), .ref (ad 10), .ref (ad 11), .ref (ad 12), .ref (ad 13), .int 0, .ref (ad 15), .int 0, .ref (ad 17), .ref (ad 18), .int 0])), (ad 0, .inl (cyB, 1600, .inl (upd f203 17 (vp_nar .byte z207))))] H := hP
  have hD : va_D A [(h0, .inr (6, [.ref (ad 0), .int 17, .ref (ad 2), .ref (ad 3), .ref (ad 4), .ref (ad 5), .ref (ad 6), .int 0, .int 0, .ref (ad 9), .ref (ad 10), .ref (ad 11), .ref (ad 12), .ref (ad 13), .int 0, .ref (ad 15), .int 0, .ref (ad 17), .ref (ad 18), .int 0])), (ad 0, .inl (cyB, 1600, .inl (upd f203 17 (vp_nar .byte z207))))] := hD
  generalize upd f203 17 (vp_nar .byte z207) = f208 at hP hD
  refine lv_aload_n hx hb dX6_layFour_32 rfl (lv_at hl 1 rfl) ?_
  refine lv_dup hx hb dX6_layFour_33 rfl ?_
  refine va_get (D := (dC, dI)) (ci := 6) (v := .int 17) (C := RX6) (T := TX6) (N := 20) hx hb hts hi6 hown hK hP 0 rfl rfl 1 (by decide) (hts _ (ow_m (k := 0) rfl)) (fun _ h9 => h9) rfl dX6_layFour_34 ?_
  refine lv_iconst (v := 1) hx hb dX6_layFour_37 (by decide) ?_
  refine lv_iadd hx hb dX6_layFour_38 ?_
  refine tp_c (w := 18) (by decide) ?_
  refine va_put (D := (dC, dI)) (ci := 6) (v := .int 18) (ty := .int) (C := RX6) (T := TX6) (N := 20) hx hb hts hi6 tyX6 tyX6_ok nmX6 hown hK hP hD hS 0 rfl rfl 1 (by decide) (hts _ (ow_m (k := 0) rfl)) (fun _ h9 => h9) rfl (by decide +kernel) rfl rfl (Nat.le_of_ble_eq_true rfl) dX6_layFour_39 (fun H locs hP hD hS => ?_)
  have hP : va_P (dC, dI) vwCl [(h0, .inr (6, [.ref (ad 0), .int 18, .ref (ad 2), .ref (ad 3), .ref (ad 4), .ref (ad 5), .ref (ad 6), .int 0, .int 0, .ref (ad 9), .ref (ad 10), .ref (ad 11), .ref (ad 12), .ref (ad 13), .int 0, .ref (ad 15), .int 0, .ref (ad 17), .ref (ad 18), .int 0])), (ad 0, .inl (cyB, 1600, .inl f208))] H := hP
  have hD : va_D A [(h0, .inr (6, [.ref (ad 0), .int 18, .ref (ad 2), .ref (ad 3), .ref (ad 4), .ref (ad 5), .ref (ad 6), .int 0, .int 0, .ref (ad 9), .ref (ad 10), .ref (ad 11), .ref (ad 12), .ref (ad 13), .int 0, .ref (ad 15), .int 0, .ref (ad 17), .ref (ad 18), .int 0])), (ad 0, .inl (cyB, 1600, .inl f208))] := hD
  refine lv_iinc (v := 8) (lv' := [(2, .int 8), (0, .ref h0), (1, .int a1)]) hx hb dX6_layFour_42 hl (k := 0) rfl (by decide) (by decide) rfl (fun ls hl => ?_)
  refine lv_goto (tgt := 3) hx hb dX6_layFour_45 (by decide) ?_
  refine lv_iload_n hx hb dX6_layFour_3 rfl (lv_at hl 0 rfl) ?_
  refine lv_if_lt (tgt := 48) hx hb dX6_layFour_4 (by decide) (fun c209 => absurd c209 (by decide)) (fun _ => ?_)
  refine lv_aload_n hx hb dX6_layFour_7 rfl (lv_at hl 1 rfl) ?_
  refine va_get (D := (dC, dI)) (ci := 6) (v := .int 18) (C := RX6) (T := TX6) (N := 20) hx hb hts hi6 hown hK hP 0 rfl rfl 1 (by decide) (hts _ (ow_m (k := 0) rfl)) (fun _ h9 => h9) rfl dX6_layFour_8 ?_
  refine lv_aload_n hx hb dX6_layFour_11 rfl (lv_at hl 1 rfl) ?_
  refine va_get (D := (dC, dI)) (ci := 6) (v := .ref (ad 0)) (C := RX6) (T := TX6) (N := 20) hx hb hts hi6 hown hK hP 0 rfl rfl 0 (by decide) (hts _ (ow_m (k := 1) rfl)) (fun _ h9 => h9) rfl dX6_layFour_12 ?_
  refine va_alen (v := 1600) hx hb hK hP 1 0 rfl rfl rfl dX6_layFour_15 ?_
  refine lv_icmp_ge (tgt := 42) hx hb dX6_layFour_16 (by decide) (fun c210 => absurd c210 (by decide)) (fun _ => ?_)
  refine lv_aload_n hx hb dX6_layFour_19 rfl (lv_at hl 1 rfl) ?_
  refine va_get (D := (dC, dI)) (ci := 6) (v := .ref (ad 0)) (C := RX6) (T := TX6) (N := 20) hx hb hts hi6 hown hK hP 0 rfl rfl 0 (by decide) (hts _ (ow_m (k := 1) rfl)) (fun _ h9 => h9) rfl dX6_layFour_20 ?_
  refine lv_aload_n hx hb dX6_layFour_23 rfl (lv_at hl 1 rfl) ?_
  refine va_get (D := (dC, dI)) (ci := 6) (v := .int 18) (C := RX6) (T := TX6) (N := 20) hx hb hts hi6 hown hK hP 0 rfl rfl 1 (by decide) (hts _ (ow_m (k := 0) rfl)) (fun _ h9 => h9) rfl dX6_layFour_24 ?_
  refine lv_iload_n hx hb dX6_layFour_27 rfl (lv_at hl 2 rfl) ?_
  refine lv_iload_n hx hb dX6_layFour_28 rfl (lv_at hl 0 rfl) ?_
  refine lv_iushr hx hb dX6_layFour_29 rfl ?_
  refine lv_topi (fun z211 ez211 => ?_)
  refine lv_i2b hx hb dX6_layFour_30 rfl ?_
  refine lv_topi (fun z212 ez212 => ?_)
  refine va_bast hx hb hK hP hD hS 1 0 rfl rfl (vp_i (a := 18) (by decide) (by decide) (by decide)) dX6_layFour_31 (fun H locs hP hD hS => ?_)
  have hP : va_P (dC, dI) vwCl [(h0, .inr (6, [.ref (ad 0), .int 18, .ref (ad 2), .ref (ad 3), .ref (ad 4), .ref (ad 5), .ref (ad 6), .int 0, .int 0, .ref (ad 9), .ref (ad 10), .ref (ad 11), .ref (ad 12), .ref (ad 13), .int 0, .ref (ad 15), .int 0, .ref (ad 17), .ref (ad 18), .int 0])), (ad 0, .inl (cyB, 1600, .inl (upd f208 18 (vp_nar .byte z212))))] H := hP
  have hD : va_D A [(h0, .inr (6, [.ref (ad 0), .int 18, .ref (ad 2), .ref (ad 3), .ref (ad 4), .ref (ad 5), .ref (ad 6), .int 0, .int 0, .ref (ad 9), .ref (ad 10), .ref (ad 11), .ref (ad 12), .ref (ad 13), .int 0, .ref (ad 15), .int 0, .ref (ad 17), .ref (ad 18), .int 0])), (ad 0, .inl (cyB, 1600, .inl (upd f208 18 (vp_nar .byte z212))))] := hD
  generalize upd f208 18 (vp_nar .byte z212) = f213 at hP hD
  refine lv_aload_n hx hb dX6_layFour_32 rfl (lv_at hl 1 rfl) ?_
  refine lv_dup hx hb dX6_layFour_33 rfl ?_
  refine va_get (D := (dC, dI)) (ci := 6) (v := .int 18) (C := RX6) (T := TX6) (N := 20) hx hb hts hi6 hown hK hP 0 rfl rfl 1 (by decide) (hts _ (ow_m (k := 0) rfl)) (fun _ h9 => h9) rfl dX6_layFour_34 ?_
  refine lv_iconst (v := 1) hx hb dX6_layFour_37 (by decide) ?_
  refine lv_iadd hx hb dX6_layFour_38 ?_
  refine tp_c (w := 19) (by decide) ?_
  refine va_put (D := (dC, dI)) (ci := 6) (v := .int 19) (ty := .int) (C := RX6) (T := TX6) (N := 20) hx hb hts hi6 tyX6 tyX6_ok nmX6 hown hK hP hD hS 0 rfl rfl 1 (by decide) (hts _ (ow_m (k := 0) rfl)) (fun _ h9 => h9) rfl (by decide +kernel) rfl rfl (Nat.le_of_ble_eq_true rfl) dX6_layFour_39 (fun H locs hP hD hS => ?_)
  have hP : va_P (dC, dI) vwCl [(h0, .inr (6, [.ref (ad 0), .int 19, .ref (ad 2), .ref (ad 3), .ref (ad 4), .ref (ad 5), .ref (ad 6), .int 0, .int 0, .ref (ad 9), .ref (ad 10), .ref (ad 11), .ref (ad 12), .ref (ad 13), .int 0, .ref (ad 15), .int 0, .ref (ad 17), .ref (ad 18), .int 0])), (ad 0, .inl (cyB, 1600, .inl f213))] H := hP
  have hD : va_D A [(h0, .inr (6, [.ref (ad 0), .int 19, .ref (ad 2), .ref (ad 3), .ref (ad 4), .ref (ad 5), .ref (ad 6), .int 0, .int 0, .ref (ad 9), .ref (ad 10), .ref (ad 11), .ref (ad 12), .ref (ad 13), .int 0, .ref (ad 15), .int 0, .ref (ad 17), .ref (ad 18), .int 0])), (ad 0, .inl (cyB, 1600, .inl f213))] := hD
  refine lv_iinc (v := 0) (lv' := [(2, .int 0), (0, .ref h0), (1, .int a1)]) hx hb dX6_layFour_42 hl (k := 0) rfl (by decide) (by decide) rfl (fun ls hl => ?_)
  refine lv_goto (tgt := 3) hx hb dX6_layFour_45 (by decide) ?_
  refine lv_iload_n hx hb dX6_layFour_3 rfl (lv_at hl 0 rfl) ?_
  refine lv_if_lt (tgt := 48) hx hb dX6_layFour_4 (by decide) (fun c214 => absurd c214 (by decide)) (fun _ => ?_)
  refine lv_aload_n hx hb dX6_layFour_7 rfl (lv_at hl 1 rfl) ?_
  refine va_get (D := (dC, dI)) (ci := 6) (v := .int 19) (C := RX6) (T := TX6) (N := 20) hx hb hts hi6 hown hK hP 0 rfl rfl 1 (by decide) (hts _ (ow_m (k := 0) rfl)) (fun _ h9 => h9) rfl dX6_layFour_8 ?_
  refine lv_aload_n hx hb dX6_layFour_11 rfl (lv_at hl 1 rfl) ?_
  refine va_get (D := (dC, dI)) (ci := 6) (v := .ref (ad 0)) (C := RX6) (T := TX6) (N := 20) hx hb hts hi6 hown hK hP 0 rfl rfl 0 (by decide) (hts _ (ow_m (k := 1) rfl)) (fun _ h9 => h9) rfl dX6_layFour_12 ?_
  refine va_alen (v := 1600) hx hb hK hP 1 0 rfl rfl rfl dX6_layFour_15 ?_
  refine lv_icmp_ge (tgt := 42) hx hb dX6_layFour_16 (by decide) (fun c215 => absurd c215 (by decide)) (fun _ => ?_)
  refine lv_aload_n hx hb dX6_layFour_19 rfl (lv_at hl 1 rfl) ?_
  refine va_get (D := (dC, dI)) (ci := 6) (v := .ref (ad 0)) (C := RX6) (T := TX6) (N := 20) hx hb hts hi6 hown hK hP 0 rfl rfl 0 (by decide) (hts _ (ow_m (k := 1) rfl)) (fun _ h9 => h9) rfl dX6_layFour_20 ?_
  refine lv_aload_n hx hb dX6_layFour_23 rfl (lv_at hl 1 rfl) ?_
  refine va_get (D := (dC, dI)) (ci := 6) (v := .int 19) (C := RX6) (T := TX6) (N := 20) hx hb hts hi6 hown hK hP 0 rfl rfl 1 (by decide) (hts _ (ow_m (k := 0) rfl)) (fun _ h9 => h9) rfl dX6_layFour_24 ?_
  refine lv_iload_n hx hb dX6_layFour_27 rfl (lv_at hl 2 rfl) ?_
  refine lv_iload_n hx hb dX6_layFour_28 rfl (lv_at hl 0 rfl) ?_
  refine lv_iushr hx hb dX6_layFour_29 rfl ?_
  refine lv_topi (fun z216 ez216 => ?_)
  refine lv_i2b hx hb dX6_layFour_30 rfl ?_
  refine lv_topi (fun z217 ez217 => ?_)
  refine va_bast hx hb hK hP hD hS 1 0 rfl rfl (vp_i (a := 19) (by decide) (by decide) (by decide)) dX6_layFour_31 (fun H locs hP hD hS => ?_)
  have hP : va_P (dC, dI) vwCl [(h0, .inr (6, [.ref (ad 0), .int 19, .ref (ad 2), .ref (ad 3), .ref (ad 4), .ref (ad 5), .ref (ad 6), .int 0, .int 0, .ref (ad 9), .ref (ad 10), .ref (ad 11), .ref (ad 12), .ref (ad 13), .int 0, .ref (ad 15), .int 0, .ref (ad 17), .ref (ad 18), .int 0])), (ad 0, .inl (cyB, 1600, .inl (upd f213 19 (vp_nar .byte z217))))] H := hP
  have hD : va_D A [(h0, .inr (6, [.ref (ad 0), .int 19, .ref (ad 2), .ref (ad 3), .ref (ad 4), .ref (ad 5), .ref (ad 6), .int 0, .int 0, .ref (ad 9), .ref (ad 10), .ref (ad 11), .ref (ad 12), .ref (ad 13), .int 0, .ref (ad 15), .int 0, .ref (ad 17), .ref (ad 18), .int 0])), (ad 0, .inl (cyB, 1600, .inl (upd f213 19 (vp_nar .byte z217))))] := hD
  generalize upd f213 19 (vp_nar .byte z217) = f218 at hP hD
  refine lv_aload_n hx hb dX6_layFour_32 rfl (lv_at hl 1 rfl) ?_
  refine lv_dup hx hb dX6_layFour_33 rfl ?_
  refine va_get (D := (dC, dI)) (ci := 6) (v := .int 19) (C := RX6) (T := TX6) (N := 20) hx hb hts hi6 hown hK hP 0 rfl rfl 1 (by decide) (hts _ (ow_m (k := 0) rfl)) (fun _ h9 => h9) rfl dX6_layFour_34 ?_
  refine lv_iconst (v := 1) hx hb dX6_layFour_37 (by decide) ?_
  refine lv_iadd hx hb dX6_layFour_38 ?_
  refine tp_c (w := 20) (by decide) ?_
  refine va_put (D := (dC, dI)) (ci := 6) (v := .int 20) (ty := .int) (C := RX6) (T := TX6) (N := 20) hx hb hts hi6 tyX6 tyX6_ok nmX6 hown hK hP hD hS 0 rfl rfl 1 (by decide) (hts _ (ow_m (k := 0) rfl)) (fun _ h9 => h9) rfl (by decide +kernel) rfl rfl (Nat.le_of_ble_eq_true rfl) dX6_layFour_39 (fun H locs hP hD hS => ?_)
  have hP : va_P (dC, dI) vwCl [(h0, .inr (6, [.ref (ad 0), .int 20, .ref (ad 2), .ref (ad 3), .ref (ad 4), .ref (ad 5), .ref (ad 6), .int 0, .int 0, .ref (ad 9), .ref (ad 10), .ref (ad 11), .ref (ad 12), .ref (ad 13), .int 0, .ref (ad 15), .int 0, .ref (ad 17), .ref (ad 18), .int 0])), (ad 0, .inl (cyB, 1600, .inl f218))] H := hP
  have hD : va_D A [(h0, .inr (6, [.ref (ad 0), .int 20, .ref (ad 2), .ref (ad 3), .ref (ad 4), .ref (ad 5), .ref (ad 6), .int 0, .int 0, .ref (ad 9), .ref (ad 10), .ref (ad 11), .ref (ad 12), .ref (ad 13), .int 0, .ref (ad 15), .int 0, .ref (ad 17), .ref (ad 18), .int 0])), (ad 0, .inl (cyB, 1600, .inl f218))] := hD
  refine lv_iinc (v := (-8)) (lv' := [(2, .int (-8)), (0, .ref h0), (1, .int a1)]) hx hb dX6_layFour_42 hl (k := 0) rfl (by decide) (by decide) rfl (fun ls hl => ?_)
  refine lv_goto (tgt := 3) hx hb dX6_layFour_45 (by decide) ?_
  refine lv_iload_n hx hb dX6_layFour_3 rfl (lv_at hl 0 rfl) ?_
  refine lv_if_lt (tgt := 48) hx hb dX6_layFour_4 (by decide) (fun _ => ?_) (fun c219 => absurd (by decide) c219)
  exact W.vret hx hb hr (fun t ht hW => ⟨⟨(fun _ => f218), rfl, trivial, cE.of ht hP hD [0, 1] (by decide) rfl⟩, hS.F ht⟩) hS.2.2 dX6_layFour_48
def wo_k_X6_layFour_v6 : List Cond := [.fieldLink RX6 79 "ReplicaChain" "tapeLength" "I", .fieldLink RX6 9 "ReplicaChain" "tape" "[B"]
def wq_k_X6_layFour_v6 : List Cond := .code yX6_layFour cX6_layFour 3 none :: (wo_k_X6_layFour_v6 ++ (wsX60 ++ []))
theorem gd_k_X6_layFour_v6 : Gd wq_k_X6_layFour_v6 := gd_c (gd_a (gd_o (by decide +kernel)) (gd_a gd_u gd_0))
abbrev wc_k_X6_layFour_v6 (cyB cyI cyJ cyZ cyO : ClassId) (h0 : Nat) (ad : Nat → Nat) (u245 : Nat → Nat → Int32) (a1 : Int32) : va_W := [(h0, .inr (6, [.ref (ad 0), .int 4, .ref (ad 2), .ref (ad 3), .ref (ad 4), .ref (ad 5), .ref (ad 6), .int 0, .int 0, .ref (ad 9), .ref (ad 10), .ref (ad 11), .ref (ad 12), .ref (ad 13), .int 0, .ref (ad 15), .int 0, .ref (ad 17), .ref (ad 18), .int 0])), (ad 0, .inl (cyB, 1600, .inl (u245 0)))]
set_option maxHeartbeats 4000000 in
set_option maxRecDepth 100000 in
theorem k_X6_layFour_v6 (l : Launch) (dC : Nat → ClassId) (dI : Nat → Nat → Nat) (cyB cyI cyJ cyZ cyO : ClassId) (h0 : Nat) (ad : Nat → Nat) (u245 : Nat → Nat → Int32) (a1 : Int32) (sz : Nat) : Met l yX6_layFour wq_k_X6_layFour_v6 ({ frames := 0, cells := 0, slots := 0, locals := 0 }) (va_Pc [.ref h0, .int a1] (cB (dC, dI) (kT cyB cyI cyJ cyZ cyO) (wc_k_X6_layFour_v6 cyB cyI cyJ cyZ cyO h0 ad u245 a1) sz)) (va_Qv (fun _ => True) (fun (u : Nat → Nat → Int32) t => cE (dC, dI) (va_A (wc_k_X6_layFour_v6 cyB cyI cyJ cyZ cyO h0 ad u245 a1) sz) ([(h0, .inr (6, [.ref (ad 0), .int 8, .ref (ad 2), .ref (ad 3), .ref (ad 4), .ref (ad 5), .ref (ad 6), .int 0, .int 0, .ref (ad 9), .ref (ad 10), .ref (ad 11), .ref (ad 12), .ref (ad 13), .int 0, .ref (ad 15), .int 0, .ref (ad 17), .ref (ad 18), .int 0])), (ad 0, .inl (cyB, 1600, .inl (u 0)))]) t.heap) (va_A (wc_k_X6_layFour_v6 cyB cyI cyJ cyZ cyO h0 ad u245 a1) sz)) 0 0 (va_A (wc_k_X6_layFour_v6 cyB cyI cyJ cyZ cyO h0 ad u245 a1) sz) := by
  refine Met.ofW (cc := cX6_layFour) (maxL := 3) (ret := none) (by decide) rfl ?_
  intro p e s m args below meth c s₁ B hml hv
  obtain ⟨rfl, hsz, hP, hKN, hD0⟩ := hv
  have hx := B.exec
  have hb := B.bytes
  have hr := B.returns
  have hts := atoms_spec (ws := wq_k_X6_layFour_v6) B.pre
  have hown : s.vm.findClass RX6 = some m.cls := findClass_of_methodNamed B.named
  have hlocks := B.notSynchronized
  have hK := hKN.1
  have hfix : CallFix p m c cX6_layFour 3 s [.ref h0, .int a1].toArray wq_k_X6_layFour_v6 RX6 := ⟨hx, hb, hml, hown, hts⟩
  have hi6 : ∀ w ∈ wsX60, w ∈ wq_k_X6_layFour_v6 := (sb_c sb_l)
  subst hsz
  have hD := hD0.self (sz := s.heap.size)
  generalize hAe : va_A (wc_k_X6_layFour_v6 cyB cyI cyJ cyZ cyO h0 ad u245 a1) s.heap.size = A at hD ⊢
  have hA : ∀ q : Nat, s.heap.size ≤ q → A q := fun q h => by rw [← hAe]; exact Or.inr h
  have hS : va_S A s.heap s.heap [] := va_S.rf
  have hl := lv_entry ([.ref h0, .int a1]) (n := 3) (Nat.le_of_ble_eq_true rfl)
  rw [lg_entry_eq]
  generalize (lg_sl ([.ref h0, .int a1]) ++ List.replicate (3 - (lg_sl ([.ref h0, .int a1])).length) Slot.unset).toArray = ls at hl ⊢
  have hl : lv_has ls 3 [(0, .ref h0), (1, .int a1)] := hl
  refine lv_bipush (v := 24) hx hb dX6_layFour_0 (by decide) ?_
  refine lv_istore_n (lv' := [(2, .int 24), (0, .ref h0), (1, .int a1)]) hx hb dX6_layFour_2 rfl hl (by decide) rfl (fun ls hl => ?_)
  refine lv_iload_n hx hb dX6_layFour_3 rfl (lv_at hl 0 rfl) ?_
  refine lv_if_lt (tgt := 48) hx hb dX6_layFour_4 (by decide) (fun c267 => absurd c267 (by decide)) (fun _ => ?_)
  refine lv_aload_n hx hb dX6_layFour_7 rfl (lv_at hl 1 rfl) ?_
  refine va_get (D := (dC, dI)) (ci := 6) (v := .int 4) (C := RX6) (T := TX6) (N := 20) hx hb hts hi6 hown hK hP 0 rfl rfl 1 (by decide) (hts _ (ow_m (k := 0) rfl)) (fun _ h9 => h9) rfl dX6_layFour_8 ?_
  refine lv_aload_n hx hb dX6_layFour_11 rfl (lv_at hl 1 rfl) ?_
  refine va_get (D := (dC, dI)) (ci := 6) (v := .ref (ad 0)) (C := RX6) (T := TX6) (N := 20) hx hb hts hi6 hown hK hP 0 rfl rfl 0 (by decide) (hts _ (ow_m (k := 1) rfl)) (fun _ h9 => h9) rfl dX6_layFour_12 ?_
  refine va_alen (v := 1600) hx hb hK hP 1 0 rfl rfl rfl dX6_layFour_15 ?_
  refine lv_icmp_ge (tgt := 42) hx hb dX6_layFour_16 (by decide) (fun c268 => absurd c268 (by decide)) (fun _ => ?_)
  refine lv_aload_n hx hb dX6_layFour_19 rfl (lv_at hl 1 rfl) ?_
  refine va_get (D := (dC, dI)) (ci := 6) (v := .ref (ad 0)) (C := RX6) (T := TX6) (N := 20) hx hb hts hi6 hown hK hP 0 rfl rfl 0 (by decide) (hts _ (ow_m (k := 1) rfl)) (fun _ h9 => h9) rfl dX6_layFour_20 ?_
  refine lv_aload_n hx hb dX6_layFour_23 rfl (lv_at hl 1 rfl) ?_
  refine va_get (D := (dC, dI)) (ci := 6) (v := .int 4) (C := RX6) (T := TX6) (N := 20) hx hb hts hi6 hown hK hP 0 rfl rfl 1 (by decide) (hts _ (ow_m (k := 0) rfl)) (fun _ h9 => h9) rfl dX6_layFour_24 ?_
  refine lv_iload_n hx hb dX6_layFour_27 rfl (lv_at hl 2 rfl) ?_
  refine lv_iload_n hx hb dX6_layFour_28 rfl (lv_at hl 0 rfl) ?_
  refine lv_iushr hx hb dX6_layFour_29 rfl ?_
  refine lv_topi (fun z269 ez269 => ?_)
  refine lv_i2b hx hb dX6_layFour_30 rfl ?_
  refine lv_topi (fun z270 ez270 => ?_)
  refine va_bast hx hb hK hP hD hS 1 0 rfl rfl (vp_i (a := 4) (by decide) (by decide) (by decide)) dX6_layFour_31 (fun H locs hP hD hS => ?_)
  have hP : va_P (dC, dI) vwCl [(h0, .inr (6, [.ref (ad 0), .int 4, .ref (ad 2), .ref (ad 3), .ref (ad 4), .ref (ad 5), .ref (ad 6), .int 0, .int 0, .ref (ad 9), .ref (ad 10), .ref (ad 11), .ref (ad 12), .ref (ad 13), .int 0, .ref (ad 15), .int 0, .ref (ad 17), .ref (ad 18), .int 0])), (ad 0, .inl (cyB, 1600, .inl (upd (u245 0) 4 (vp_nar .byte z270))))] H := hP
  have hD : va_D A [(h0, .inr (6, [.ref (ad 0), .int 4, .ref (ad 2), .ref (ad 3), .ref (ad 4), .ref (ad 5), .ref (ad 6), .int 0, .int 0, .ref (ad 9), .ref (ad 10), .ref (ad 11), .ref (ad 12), .ref (ad 13), .int 0, .ref (ad 15), .int 0, .ref (ad 17), .ref (ad 18), .int 0])), (ad 0, .inl (cyB, 1600, .inl (upd (u245 0) 4 (vp_nar .byte z270))))] := hD
  generalize upd (u245 0) 4 (vp_nar .byte z270) = f271 at hP hD
  refine lv_aload_n hx hb dX6_layFour_32 rfl (lv_at hl 1 rfl) ?_
  refine lv_dup hx hb dX6_layFour_33 rfl ?_
  refine va_get (D := (dC, dI)) (ci := 6) (v := .int 4) (C := RX6) (T := TX6) (N := 20) hx hb hts hi6 hown hK hP 0 rfl rfl 1 (by decide) (hts _ (ow_m (k := 0) rfl)) (fun _ h9 => h9) rfl dX6_layFour_34 ?_
  refine lv_iconst (v := 1) hx hb dX6_layFour_37 (by decide) ?_
  refine lv_iadd hx hb dX6_layFour_38 ?_
  refine tp_c (w := 5) (by decide) ?_
  refine va_put (D := (dC, dI)) (ci := 6) (v := .int 5) (ty := .int) (C := RX6) (T := TX6) (N := 20) hx hb hts hi6 tyX6 tyX6_ok nmX6 hown hK hP hD hS 0 rfl rfl 1 (by decide) (hts _ (ow_m (k := 0) rfl)) (fun _ h9 => h9) rfl (by decide +kernel) rfl rfl (Nat.le_of_ble_eq_true rfl) dX6_layFour_39 (fun H locs hP hD hS => ?_)
  have hP : va_P (dC, dI) vwCl [(h0, .inr (6, [.ref (ad 0), .int 5, .ref (ad 2), .ref (ad 3), .ref (ad 4), .ref (ad 5), .ref (ad 6), .int 0, .int 0, .ref (ad 9), .ref (ad 10), .ref (ad 11), .ref (ad 12), .ref (ad 13), .int 0, .ref (ad 15), .int 0, .ref (ad 17), .ref (ad 18), .int 0])), (ad 0, .inl (cyB, 1600, .inl f271))] H := hP
  have hD : va_D A [(h0, .inr (6, [.ref (ad 0), .int 5, .ref (ad 2), .ref (ad 3), .ref (ad 4), .ref (ad 5), .ref (ad 6), .int 0, .int 0, .ref (ad 9), .ref (ad 10), .ref (ad 11), .ref (ad 12), .ref (ad 13), .int 0, .ref (ad 15), .int 0, .ref (ad 17), .ref (ad 18), .int 0])), (ad 0, .inl (cyB, 1600, .inl f271))] := hD
  refine lv_iinc (v := 16) (lv' := [(2, .int 16), (0, .ref h0), (1, .int a1)]) hx hb dX6_layFour_42 hl (k := 0) rfl (by decide) (by decide) rfl (fun ls hl => ?_)
  refine lv_goto (tgt := 3) hx hb dX6_layFour_45 (by decide) ?_
  refine lv_iload_n hx hb dX6_layFour_3 rfl (lv_at hl 0 rfl) ?_
  refine lv_if_lt (tgt := 48) hx hb dX6_layFour_4 (by decide) (fun c272 => absurd c272 (by decide)) (fun _ => ?_)
  refine lv_aload_n hx hb dX6_layFour_7 rfl (lv_at hl 1 rfl) ?_
  refine va_get (D := (dC, dI)) (ci := 6) (v := .int 5) (C := RX6) (T := TX6) (N := 20) hx hb hts hi6 hown hK hP 0 rfl rfl 1 (by decide) (hts _ (ow_m (k := 0) rfl)) (fun _ h9 => h9) rfl dX6_layFour_8 ?_
  refine lv_aload_n hx hb dX6_layFour_11 rfl (lv_at hl 1 rfl) ?_
  refine va_get (D := (dC, dI)) (ci := 6) (v := .ref (ad 0)) (C := RX6) (T := TX6) (N := 20) hx hb hts hi6 hown hK hP 0 rfl rfl 0 (by decide) (hts _ (ow_m (k := 1) rfl)) (fun _ h9 => h9) rfl dX6_layFour_12 ?_
  refine va_alen (v := 1600) hx hb hK hP 1 0 rfl rfl rfl dX6_layFour_15 ?_
  refine lv_icmp_ge (tgt := 42) hx hb dX6_layFour_16 (by decide) (fun c273 => absurd c273 (by decide)) (fun _ => ?_)
  refine lv_aload_n hx hb dX6_layFour_19 rfl (lv_at hl 1 rfl) ?_
  refine va_get (D := (dC, dI)) (ci := 6) (v := .ref (ad 0)) (C := RX6) (T := TX6) (N := 20) hx hb hts hi6 hown hK hP 0 rfl rfl 0 (by decide) (hts _ (ow_m (k := 1) rfl)) (fun _ h9 => h9) rfl dX6_layFour_20 ?_
  refine lv_aload_n hx hb dX6_layFour_23 rfl (lv_at hl 1 rfl) ?_
  refine va_get (D := (dC, dI)) (ci := 6) (v := .int 5) (C := RX6) (T := TX6) (N := 20) hx hb hts hi6 hown hK hP 0 rfl rfl 1 (by decide) (hts _ (ow_m (k := 0) rfl)) (fun _ h9 => h9) rfl dX6_layFour_24 ?_
  refine lv_iload_n hx hb dX6_layFour_27 rfl (lv_at hl 2 rfl) ?_
  refine lv_iload_n hx hb dX6_layFour_28 rfl (lv_at hl 0 rfl) ?_
  refine lv_iushr hx hb dX6_layFour_29 rfl ?_
  refine lv_topi (fun z274 ez274 => ?_)
  refine lv_i2b hx hb dX6_layFour_30 rfl ?_
  refine lv_topi (fun z275 ez275 => ?_)
  refine va_bast hx hb hK hP hD hS 1 0 rfl rfl (vp_i (a := 5) (by decide) (by decide) (by decide)) dX6_layFour_31 (fun H locs hP hD hS => ?_)
  have hP : va_P (dC, dI) vwCl [(h0, .inr (6, [.ref (ad 0), .int 5, .ref (ad 2), .ref (ad 3), .ref (ad 4), .ref (ad 5), .ref (ad 6), .int 0, .int 0, .ref (ad 9), .ref (ad 10), .ref (ad 11), .ref (ad 12), .ref (ad 13), .int 0, .ref (ad 15), .int 0, .ref (ad 17), .ref (ad 18), .int 0])), (ad 0, .inl (cyB, 1600, .inl (upd f271 5 (vp_nar .byte z275))))] H := hP
  have hD : va_D A [(h0, .inr (6, [.ref (ad 0), .int 5, .ref (ad 2), .ref (ad 3), .ref (ad 4), .ref (ad 5), .ref (ad 6), .int 0, .int 0, .ref (ad 9), .ref (ad 10), .ref (ad 11), .ref (ad 12), .ref (ad 13), .int 0, .ref (ad 15), .int 0, .ref (ad 17), .ref (ad 18), .int 0])), (ad 0, .inl (cyB, 1600, .inl (upd f271 5 (vp_nar .byte z275))))] := hD
  generalize upd f271 5 (vp_nar .byte z275) = f276 at hP hD
  refine lv_aload_n hx hb dX6_layFour_32 rfl (lv_at hl 1 rfl) ?_
  refine lv_dup hx hb dX6_layFour_33 rfl ?_
  refine va_get (D := (dC, dI)) (ci := 6) (v := .int 5) (C := RX6) (T := TX6) (N := 20) hx hb hts hi6 hown hK hP 0 rfl rfl 1 (by decide) (hts _ (ow_m (k := 0) rfl)) (fun _ h9 => h9) rfl dX6_layFour_34 ?_
  refine lv_iconst (v := 1) hx hb dX6_layFour_37 (by decide) ?_
  refine lv_iadd hx hb dX6_layFour_38 ?_
  refine tp_c (w := 6) (by decide) ?_
  refine va_put (D := (dC, dI)) (ci := 6) (v := .int 6) (ty := .int) (C := RX6) (T := TX6) (N := 20) hx hb hts hi6 tyX6 tyX6_ok nmX6 hown hK hP hD hS 0 rfl rfl 1 (by decide) (hts _ (ow_m (k := 0) rfl)) (fun _ h9 => h9) rfl (by decide +kernel) rfl rfl (Nat.le_of_ble_eq_true rfl) dX6_layFour_39 (fun H locs hP hD hS => ?_)
  have hP : va_P (dC, dI) vwCl [(h0, .inr (6, [.ref (ad 0), .int 6, .ref (ad 2), .ref (ad 3), .ref (ad 4), .ref (ad 5), .ref (ad 6), .int 0, .int 0, .ref (ad 9), .ref (ad 10), .ref (ad 11), .ref (ad 12), .ref (ad 13), .int 0, .ref (ad 15), .int 0, .ref (ad 17), .ref (ad 18), .int 0])), (ad 0, .inl (cyB, 1600, .inl f276))] H := hP
  have hD : va_D A [(h0, .inr (6, [.ref (ad 0), .int 6, .ref (ad 2), .ref (ad 3), .ref (ad 4), .ref (ad 5), .ref (ad 6), .int 0, .int 0, .ref (ad 9), .ref (ad 10), .ref (ad 11), .ref (ad 12), .ref (ad 13), .int 0, .ref (ad 15), .int 0, .ref (ad 17), .ref (ad 18), .int 0])), (ad 0, .inl (cyB, 1600, .inl f276))] := hD
  refine lv_iinc (v := 8) (lv' := [(2, .int 8), (0, .ref h0), (1, .int a1)]) hx hb dX6_layFour_42 hl (k := 0) rfl (by decide) (by decide) rfl (fun ls hl => ?_)
  refine lv_goto (tgt := 3) hx hb dX6_layFour_45 (by decide) ?_
  refine lv_iload_n hx hb dX6_layFour_3 rfl (lv_at hl 0 rfl) ?_
  refine lv_if_lt (tgt := 48) hx hb dX6_layFour_4 (by decide) (fun c277 => absurd c277 (by decide)) (fun _ => ?_)
  refine lv_aload_n hx hb dX6_layFour_7 rfl (lv_at hl 1 rfl) ?_
  refine va_get (D := (dC, dI)) (ci := 6) (v := .int 6) (C := RX6) (T := TX6) (N := 20) hx hb hts hi6 hown hK hP 0 rfl rfl 1 (by decide) (hts _ (ow_m (k := 0) rfl)) (fun _ h9 => h9) rfl dX6_layFour_8 ?_
  refine lv_aload_n hx hb dX6_layFour_11 rfl (lv_at hl 1 rfl) ?_
  refine va_get (D := (dC, dI)) (ci := 6) (v := .ref (ad 0)) (C := RX6) (T := TX6) (N := 20) hx hb hts hi6 hown hK hP 0 rfl rfl 0 (by decide) (hts _ (ow_m (k := 1) rfl)) (fun _ h9 => h9) rfl dX6_layFour_12 ?_
  refine va_alen (v := 1600) hx hb hK hP 1 0 rfl rfl rfl dX6_layFour_15 ?_
  refine lv_icmp_ge (tgt := 42) hx hb dX6_layFour_16 (by decide) (fun c278 => absurd c278 (by decide)) (fun _ => ?_)
  refine lv_aload_n hx hb dX6_layFour_19 rfl (lv_at hl 1 rfl) ?_
  refine va_get (D := (dC, dI)) (ci := 6) (v := .ref (ad 0)) (C := RX6) (T := TX6) (N := 20) hx hb hts hi6 hown hK hP 0 rfl rfl 0 (by decide) (hts _ (ow_m (k := 1) rfl)) (fun _ h9 => h9) rfl dX6_layFour_20 ?_
  refine lv_aload_n hx hb dX6_layFour_23 rfl (lv_at hl 1 rfl) ?_
  refine va_get (D := (dC, dI)) (ci := 6) (v := .int 6) (C := RX6) (T := TX6) (N := 20) hx hb hts hi6 hown hK hP 0 rfl rfl 1 (by decide) (hts _ (ow_m (k := 0) rfl)) (fun _ h9 => h9) rfl dX6_layFour_24 ?_
  refine lv_iload_n hx hb dX6_layFour_27 rfl (lv_at hl 2 rfl) ?_
  refine lv_iload_n hx hb dX6_layFour_28 rfl (lv_at hl 0 rfl) ?_
  refine lv_iushr hx hb dX6_layFour_29 rfl ?_
  refine lv_topi (fun z279 ez279 => ?_)
  refine lv_i2b hx hb dX6_layFour_30 rfl ?_
  refine lv_topi (fun z280 ez280 => ?_)
  refine va_bast hx hb hK hP hD hS 1 0 rfl rfl (vp_i (a := 6) (by decide) (by decide) (by decide)) dX6_layFour_31 (fun H locs hP hD hS => ?_)
  have hP : va_P (dC, dI) vwCl [(h0, .inr (6, [.ref (ad 0), .int 6, .ref (ad 2), .ref (ad 3), .ref (ad 4), .ref (ad 5), .ref (ad 6), .int 0, .int 0, .ref (ad 9), .ref (ad 10), .ref (ad 11), .ref (ad 12), .ref (ad 13), .int 0, .ref (ad 15), .int 0, .ref (ad 17), .ref (ad 18), .int 0])), (ad 0, .inl (cyB, 1600, .inl (upd f276 6 (vp_nar .byte z280))))] H := hP
  have hD : va_D A [(h0, .inr (6, [.ref (ad 0), .int 6, .ref (ad 2), .ref (ad 3), .ref (ad 4), .ref (ad 5), .ref (ad 6), .int 0, .int 0, .ref (ad 9), .ref (ad 10), .ref (ad 11), .ref (ad 12), .ref (ad 13), .int 0, .ref (ad 15), .int 0, .ref (ad 17), .ref (ad 18), .int 0])), (ad 0, .inl (cyB, 1600, .inl (upd f276 6 (vp_nar .byte z280))))] := hD
  generalize upd f276 6 (vp_nar .byte z280) = f281 at hP hD
  refine lv_aload_n hx hb dX6_layFour_32 rfl (lv_at hl 1 rfl) ?_
  refine lv_dup hx hb dX6_layFour_33 rfl ?_
  refine va_get (D := (dC, dI)) (ci := 6) (v := .int 6) (C := RX6) (T := TX6) (N := 20) hx hb hts hi6 hown hK hP 0 rfl rfl 1 (by decide) (hts _ (ow_m (k := 0) rfl)) (fun _ h9 => h9) rfl dX6_layFour_34 ?_
  refine lv_iconst (v := 1) hx hb dX6_layFour_37 (by decide) ?_
  refine lv_iadd hx hb dX6_layFour_38 ?_
  refine tp_c (w := 7) (by decide) ?_
  refine va_put (D := (dC, dI)) (ci := 6) (v := .int 7) (ty := .int) (C := RX6) (T := TX6) (N := 20) hx hb hts hi6 tyX6 tyX6_ok nmX6 hown hK hP hD hS 0 rfl rfl 1 (by decide) (hts _ (ow_m (k := 0) rfl)) (fun _ h9 => h9) rfl (by decide +kernel) rfl rfl (Nat.le_of_ble_eq_true rfl) dX6_layFour_39 (fun H locs hP hD hS => ?_)
  have hP : va_P (dC, dI) vwCl [(h0, .inr (6, [.ref (ad 0), .int 7, .ref (ad 2), .ref (ad 3), .ref (ad 4), .ref (ad 5), .ref (ad 6), .int 0, .int 0, .ref (ad 9), .ref (ad 10), .ref (ad 11), .ref (ad 12), .ref (ad 13), .int 0, .ref (ad 15), .int 0, .ref (ad 17), .ref (ad 18), .int 0])), (ad 0, .inl (cyB, 1600, .inl f281))] H := hP
  have hD : va_D A [(h0, .inr (6, [.ref (ad 0), .int 7, .ref (ad 2), .ref (ad 3), .ref (ad 4), .ref (ad 5), .ref (ad 6), .int 0, .int 0, .ref (ad 9), .ref (ad 10), .ref (ad 11), .ref (ad 12), .ref (ad 13), .int 0, .ref (ad 15), .int 0, .ref (ad 17), .ref (ad 18), .int 0])), (ad 0, .inl (cyB, 1600, .inl f281))] := hD
  refine lv_iinc (v := 0) (lv' := [(2, .int 0), (0, .ref h0), (1, .int a1)]) hx hb dX6_layFour_42 hl (k := 0) rfl (by decide) (by decide) rfl (fun ls hl => ?_)
  refine lv_goto (tgt := 3) hx hb dX6_layFour_45 (by decide) ?_
  refine lv_iload_n hx hb dX6_layFour_3 rfl (lv_at hl 0 rfl) ?_
  refine lv_if_lt (tgt := 48) hx hb dX6_layFour_4 (by decide) (fun c282 => absurd c282 (by decide)) (fun _ => ?_)
  refine lv_aload_n hx hb dX6_layFour_7 rfl (lv_at hl 1 rfl) ?_
  refine va_get (D := (dC, dI)) (ci := 6) (v := .int 7) (C := RX6) (T := TX6) (N := 20) hx hb hts hi6 hown hK hP 0 rfl rfl 1 (by decide) (hts _ (ow_m (k := 0) rfl)) (fun _ h9 => h9) rfl dX6_layFour_8 ?_
  refine lv_aload_n hx hb dX6_layFour_11 rfl (lv_at hl 1 rfl) ?_
  refine va_get (D := (dC, dI)) (ci := 6) (v := .ref (ad 0)) (C := RX6) (T := TX6) (N := 20) hx hb hts hi6 hown hK hP 0 rfl rfl 0 (by decide) (hts _ (ow_m (k := 1) rfl)) (fun _ h9 => h9) rfl dX6_layFour_12 ?_
  refine va_alen (v := 1600) hx hb hK hP 1 0 rfl rfl rfl dX6_layFour_15 ?_
  refine lv_icmp_ge (tgt := 42) hx hb dX6_layFour_16 (by decide) (fun c283 => absurd c283 (by decide)) (fun _ => ?_)
  refine lv_aload_n hx hb dX6_layFour_19 rfl (lv_at hl 1 rfl) ?_
  refine va_get (D := (dC, dI)) (ci := 6) (v := .ref (ad 0)) (C := RX6) (T := TX6) (N := 20) hx hb hts hi6 hown hK hP 0 rfl rfl 0 (by decide) (hts _ (ow_m (k := 1) rfl)) (fun _ h9 => h9) rfl dX6_layFour_20 ?_
  refine lv_aload_n hx hb dX6_layFour_23 rfl (lv_at hl 1 rfl) ?_
  refine va_get (D := (dC, dI)) (ci := 6) (v := .int 7) (C := RX6) (T := TX6) (N := 20) hx hb hts hi6 hown hK hP 0 rfl rfl 1 (by decide) (hts _ (ow_m (k := 0) rfl)) (fun _ h9 => h9) rfl dX6_layFour_24 ?_
  refine lv_iload_n hx hb dX6_layFour_27 rfl (lv_at hl 2 rfl) ?_
  refine lv_iload_n hx hb dX6_layFour_28 rfl (lv_at hl 0 rfl) ?_
  refine lv_iushr hx hb dX6_layFour_29 rfl ?_
  refine lv_topi (fun z284 ez284 => ?_)
  refine lv_i2b hx hb dX6_layFour_30 rfl ?_
  refine lv_topi (fun z285 ez285 => ?_)
  refine va_bast hx hb hK hP hD hS 1 0 rfl rfl (vp_i (a := 7) (by decide) (by decide) (by decide)) dX6_layFour_31 (fun H locs hP hD hS => ?_)
  have hP : va_P (dC, dI) vwCl [(h0, .inr (6, [.ref (ad 0), .int 7, .ref (ad 2), .ref (ad 3), .ref (ad 4), .ref (ad 5), .ref (ad 6), .int 0, .int 0, .ref (ad 9), .ref (ad 10), .ref (ad 11), .ref (ad 12), .ref (ad 13), .int 0, .ref (ad 15), .int 0, .ref (ad 17), .ref (ad 18), .int 0])), (ad 0, .inl (cyB, 1600, .inl (upd f281 7 (vp_nar .byte z285))))] H := hP
  have hD : va_D A [(h0, .inr (6, [.ref (ad 0), .int 7, .ref (ad 2), .ref (ad 3), .ref (ad 4), .ref (ad 5), .ref (ad 6), .int 0, .int 0, .ref (ad 9), .ref (ad 10), .ref (ad 11), .ref (ad 12), .ref (ad 13), .int 0, .ref (ad 15), .int 0, .ref (ad 17), .ref (ad 18), .int 0])), (ad 0, .inl (cyB, 1600, .inl (upd f281 7 (vp_nar .byte z285))))] := hD
  generalize upd f281 7 (vp_nar .byte z285) = f286 at hP hD
  refine lv_aload_n hx hb dX6_layFour_32 rfl (lv_at hl 1 rfl) ?_
  refine lv_dup hx hb dX6_layFour_33 rfl ?_
  refine va_get (D := (dC, dI)) (ci := 6) (v := .int 7) (C := RX6) (T := TX6) (N := 20) hx hb hts hi6 hown hK hP 0 rfl rfl 1 (by decide) (hts _ (ow_m (k := 0) rfl)) (fun _ h9 => h9) rfl dX6_layFour_34 ?_
  refine lv_iconst (v := 1) hx hb dX6_layFour_37 (by decide) ?_
  refine lv_iadd hx hb dX6_layFour_38 ?_
  refine tp_c (w := 8) (by decide) ?_
  refine va_put (D := (dC, dI)) (ci := 6) (v := .int 8) (ty := .int) (C := RX6) (T := TX6) (N := 20) hx hb hts hi6 tyX6 tyX6_ok nmX6 hown hK hP hD hS 0 rfl rfl 1 (by decide) (hts _ (ow_m (k := 0) rfl)) (fun _ h9 => h9) rfl (by decide +kernel) rfl rfl (Nat.le_of_ble_eq_true rfl) dX6_layFour_39 (fun H locs hP hD hS => ?_)
  have hP : va_P (dC, dI) vwCl [(h0, .inr (6, [.ref (ad 0), .int 8, .ref (ad 2), .ref (ad 3), .ref (ad 4), .ref (ad 5), .ref (ad 6), .int 0, .int 0, .ref (ad 9), .ref (ad 10), .ref (ad 11), .ref (ad 12), .ref (ad 13), .int 0, .ref (ad 15), .int 0, .ref (ad 17), .ref (ad 18), .int 0])), (ad 0, .inl (cyB, 1600, .inl f286))] H := hP
  have hD : va_D A [(h0, .inr (6, [.ref (ad 0), .int 8, .ref (ad 2), .ref (ad 3), .ref (ad 4), .ref (ad 5), .ref (ad 6), .int 0, .int 0, .ref (ad 9), .ref (ad 10), .ref (ad 11), .ref (ad 12), .ref (ad 13), .int 0, .ref (ad 15), .int 0, .ref (ad 17), .ref (ad 18), .int 0])), (ad 0, .inl (cyB, 1600, .inl f286))] := hD
  refine lv_iinc (v := (-8)) (lv' := [(2, .int (-8)), (0, .ref h0), (1, .int a1)]) hx hb dX6_layFour_42 hl (k := 0) rfl (by decide) (by decide) rfl (fun ls hl => ?_)
  refine lv_goto (tgt := 3) hx hb dX6_layFour_45 (by decide) ?_
  refine lv_iload_n hx hb dX6_layFour_3 rfl (lv_at hl 0 rfl) ?_
  refine lv_if_lt (tgt := 48) hx hb dX6_layFour_4 (by decide) (fun _ => ?_) (fun c287 => absurd (by decide) c287)
  exact W.vret hx hb hr (fun t ht hW => ⟨⟨(fun _ => f286), rfl, trivial, cE.of ht hP hD [0, 1] (by decide) rfl⟩, hS.F ht⟩) hS.2.2 dX6_layFour_48
def wo_k_X6_layFour_v7 : List Cond := [.fieldLink RX6 79 "ReplicaChain" "tapeLength" "I", .fieldLink RX6 9 "ReplicaChain" "tape" "[B"]
def wq_k_X6_layFour_v7 : List Cond := .code yX6_layFour cX6_layFour 3 none :: (wo_k_X6_layFour_v7 ++ (wsX60 ++ []))
theorem gd_k_X6_layFour_v7 : Gd wq_k_X6_layFour_v7 := gd_c (gd_a (gd_o (by decide +kernel)) (gd_a gd_u gd_0))
abbrev wc_k_X6_layFour_v7 (cyB cyI cyJ cyZ cyO : ClassId) (h0 : Nat) (ad : Nat → Nat) (u289 : Nat → Nat → Int32) (a1 : Int32) : va_W := [(h0, .inr (6, [.ref (ad 0), .int 8, .ref (ad 2), .ref (ad 3), .ref (ad 4), .ref (ad 5), .ref (ad 6), .int 0, .int 0, .ref (ad 9), .ref (ad 10), .ref (ad 11), .ref (ad 12), .ref (ad 13), .int 0, .ref (ad 15), .int 0, .ref (ad 17), .ref (ad 18), .int 0])), (ad 0, .inl (cyB, 1600, .inl (u289 0)))]
set_option maxHeartbeats 4000000 in
set_option maxRecDepth 100000 in
theorem k_X6_layFour_v7 (l : Launch) (dC : Nat → ClassId) (dI : Nat → Nat → Nat) (cyB cyI cyJ cyZ cyO : ClassId) (h0 : Nat) (ad : Nat → Nat) (u289 : Nat → Nat → Int32) (a1 : Int32) (sz : Nat) : Met l yX6_layFour wq_k_X6_layFour_v7 ({ frames := 0, cells := 0, slots := 0, locals := 0 }) (va_Pc [.ref h0, .int a1] (cB (dC, dI) (kT cyB cyI cyJ cyZ cyO) (wc_k_X6_layFour_v7 cyB cyI cyJ cyZ cyO h0 ad u289 a1) sz)) (va_Qv (fun _ => True) (fun (u : Nat → Nat → Int32) t => cE (dC, dI) (va_A (wc_k_X6_layFour_v7 cyB cyI cyJ cyZ cyO h0 ad u289 a1) sz) ([(h0, .inr (6, [.ref (ad 0), .int 12, .ref (ad 2), .ref (ad 3), .ref (ad 4), .ref (ad 5), .ref (ad 6), .int 0, .int 0, .ref (ad 9), .ref (ad 10), .ref (ad 11), .ref (ad 12), .ref (ad 13), .int 0, .ref (ad 15), .int 0, .ref (ad 17), .ref (ad 18), .int 0])), (ad 0, .inl (cyB, 1600, .inl (u 0)))]) t.heap) (va_A (wc_k_X6_layFour_v7 cyB cyI cyJ cyZ cyO h0 ad u289 a1) sz)) 0 0 (va_A (wc_k_X6_layFour_v7 cyB cyI cyJ cyZ cyO h0 ad u289 a1) sz) := by
  refine Met.ofW (cc := cX6_layFour) (maxL := 3) (ret := none) (by decide) rfl ?_
  intro p e s m args below meth c s₁ B hml hv
  obtain ⟨rfl, hsz, hP, hKN, hD0⟩ := hv
  have hx := B.exec
  have hb := B.bytes
  have hr := B.returns
  have hts := atoms_spec (ws := wq_k_X6_layFour_v7) B.pre
  have hown : s.vm.findClass RX6 = some m.cls := findClass_of_methodNamed B.named
  have hlocks := B.notSynchronized
  have hK := hKN.1
  have hfix : CallFix p m c cX6_layFour 3 s [.ref h0, .int a1].toArray wq_k_X6_layFour_v7 RX6 := ⟨hx, hb, hml, hown, hts⟩
  have hi6 : ∀ w ∈ wsX60, w ∈ wq_k_X6_layFour_v7 := (sb_c sb_l)
  subst hsz
  have hD := hD0.self (sz := s.heap.size)
  generalize hAe : va_A (wc_k_X6_layFour_v7 cyB cyI cyJ cyZ cyO h0 ad u289 a1) s.heap.size = A at hD ⊢
  have hA : ∀ q : Nat, s.heap.size ≤ q → A q := fun q h => by rw [← hAe]; exact Or.inr h
  have hS : va_S A s.heap s.heap [] := va_S.rf
  have hl := lv_entry ([.ref h0, .int a1]) (n := 3) (Nat.le_of_ble_eq_true rfl)
  rw [lg_entry_eq]
  generalize (lg_sl ([.ref h0, .int a1]) ++ List.replicate (3 - (lg_sl ([.ref h0, .int a1])).length) Slot.unset).toArray = ls at hl ⊢
  have hl : lv_has ls 3 [(0, .ref h0), (1, .int a1)] := hl
  refine lv_bipush (v := 24) hx hb dX6_layFour_0 (by decide) ?_
  refine lv_istore_n (lv' := [(2, .int 24), (0, .ref h0), (1, .int a1)]) hx hb dX6_layFour_2 rfl hl (by decide) rfl (fun ls hl => ?_)
  refine lv_iload_n hx hb dX6_layFour_3 rfl (lv_at hl 0 rfl) ?_
  refine lv_if_lt (tgt := 48) hx hb dX6_layFour_4 (by decide) (fun c311 => absurd c311 (by decide)) (fun _ => ?_)
  refine lv_aload_n hx hb dX6_layFour_7 rfl (lv_at hl 1 rfl) ?_
  refine va_get (D := (dC, dI)) (ci := 6) (v := .int 8) (C := RX6) (T := TX6) (N := 20) hx hb hts hi6 hown hK hP 0 rfl rfl 1 (by decide) (hts _ (ow_m (k := 0) rfl)) (fun _ h9 => h9) rfl dX6_layFour_8 ?_
  refine lv_aload_n hx hb dX6_layFour_11 rfl (lv_at hl 1 rfl) ?_
  refine va_get (D := (dC, dI)) (ci := 6) (v := .ref (ad 0)) (C := RX6) (T := TX6) (N := 20) hx hb hts hi6 hown hK hP 0 rfl rfl 0 (by decide) (hts _ (ow_m (k := 1) rfl)) (fun _ h9 => h9) rfl dX6_layFour_12 ?_
  refine va_alen (v := 1600) hx hb hK hP 1 0 rfl rfl rfl dX6_layFour_15 ?_
  refine lv_icmp_ge (tgt := 42) hx hb dX6_layFour_16 (by decide) (fun c312 => absurd c312 (by decide)) (fun _ => ?_)
  refine lv_aload_n hx hb dX6_layFour_19 rfl (lv_at hl 1 rfl) ?_
  refine va_get (D := (dC, dI)) (ci := 6) (v := .ref (ad 0)) (C := RX6) (T := TX6) (N := 20) hx hb hts hi6 hown hK hP 0 rfl rfl 0 (by decide) (hts _ (ow_m (k := 1) rfl)) (fun _ h9 => h9) rfl dX6_layFour_20 ?_
  refine lv_aload_n hx hb dX6_layFour_23 rfl (lv_at hl 1 rfl) ?_
  refine va_get (D := (dC, dI)) (ci := 6) (v := .int 8) (C := RX6) (T := TX6) (N := 20) hx hb hts hi6 hown hK hP 0 rfl rfl 1 (by decide) (hts _ (ow_m (k := 0) rfl)) (fun _ h9 => h9) rfl dX6_layFour_24 ?_
  refine lv_iload_n hx hb dX6_layFour_27 rfl (lv_at hl 2 rfl) ?_
  refine lv_iload_n hx hb dX6_layFour_28 rfl (lv_at hl 0 rfl) ?_
  refine lv_iushr hx hb dX6_layFour_29 rfl ?_
  refine lv_topi (fun z313 ez313 => ?_)
  refine lv_i2b hx hb dX6_layFour_30 rfl ?_
  refine lv_topi (fun z314 ez314 => ?_)
  refine va_bast hx hb hK hP hD hS 1 0 rfl rfl (vp_i (a := 8) (by decide) (by decide) (by decide)) dX6_layFour_31 (fun H locs hP hD hS => ?_)
  have hP : va_P (dC, dI) vwCl [(h0, .inr (6, [.ref (ad 0), .int 8, .ref (ad 2), .ref (ad 3), .ref (ad 4), .ref (ad 5), .ref (ad 6), .int 0, .int 0, .ref (ad 9), .ref (ad 10), .ref (ad 11), .ref (ad 12), .ref (ad 13), .int 0, .ref (ad 15), .int 0, .ref (ad 17), .ref (ad 18), .int 0])), (ad 0, .inl (cyB, 1600, .inl (upd (u289 0) 8 (vp_nar .byte z314))))] H := hP
  have hD : va_D A [(h0, .inr (6, [.ref (ad 0), .int 8, .ref (ad 2), .ref (ad 3), .ref (ad 4), .ref (ad 5), .ref (ad 6), .int 0, .int 0, .ref (ad 9), .ref (ad 10), .ref (ad 11), .ref (ad 12), .ref (ad 13), .int 0, .ref (ad 15), .int 0, .ref (ad 17), .ref (ad 18), .int 0])), (ad 0, .inl (cyB, 1600, .inl (upd (u289 0) 8 (vp_nar .byte z314))))] := hD
  generalize upd (u289 0) 8 (vp_nar .byte z314) = f315 at hP hD
  refine lv_aload_n hx hb dX6_layFour_32 rfl (lv_at hl 1 rfl) ?_
  refine lv_dup hx hb dX6_layFour_33 rfl ?_
  refine va_get (D := (dC, dI)) (ci := 6) (v := .int 8) (C := RX6) (T := TX6) (N := 20) hx hb hts hi6 hown hK hP 0 rfl rfl 1 (by decide) (hts _ (ow_m (k := 0) rfl)) (fun _ h9 => h9) rfl dX6_layFour_34 ?_
  refine lv_iconst (v := 1) hx hb dX6_layFour_37 (by decide) ?_
  refine lv_iadd hx hb dX6_layFour_38 ?_
  refine tp_c (w := 9) (by decide) ?_
  refine va_put (D := (dC, dI)) (ci := 6) (v := .int 9) (ty := .int) (C := RX6) (T := TX6) (N := 20) hx hb hts hi6 tyX6 tyX6_ok nmX6 hown hK hP hD hS 0 rfl rfl 1 (by decide) (hts _ (ow_m (k := 0) rfl)) (fun _ h9 => h9) rfl (by decide +kernel) rfl rfl (Nat.le_of_ble_eq_true rfl) dX6_layFour_39 (fun H locs hP hD hS => ?_)
  have hP : va_P (dC, dI) vwCl [(h0, .inr (6, [.ref (ad 0), .int 9, .ref (ad 2), .ref (ad 3), .ref (ad 4), .ref (ad 5), .ref (ad 6), .int 0, .int 0, .ref (ad 9), .ref (ad 10), .ref (ad 11), .ref (ad 12), .ref (ad 13), .int 0, .ref (ad 15), .int 0, .ref (ad 17), .ref (ad 18), .int 0])), (ad 0, .inl (cyB, 1600, .inl f315))] H := hP
  have hD : va_D A [(h0, .inr (6, [.ref (ad 0), .int 9, .ref (ad 2), .ref (ad 3), .ref (ad 4), .ref (ad 5), .ref (ad 6), .int 0, .int 0, .ref (ad 9), .ref (ad 10), .ref (ad 11), .ref (ad 12), .ref (ad 13), .int 0, .ref (ad 15), .int 0, .ref (ad 17), .ref (ad 18), .int 0])), (ad 0, .inl (cyB, 1600, .inl f315))] := hD
  refine lv_iinc (v := 16) (lv' := [(2, .int 16), (0, .ref h0), (1, .int a1)]) hx hb dX6_layFour_42 hl (k := 0) rfl (by decide) (by decide) rfl (fun ls hl => ?_)
  refine lv_goto (tgt := 3) hx hb dX6_layFour_45 (by decide) ?_
  refine lv_iload_n hx hb dX6_layFour_3 rfl (lv_at hl 0 rfl) ?_
  refine lv_if_lt (tgt := 48) hx hb dX6_layFour_4 (by decide) (fun c316 => absurd c316 (by decide)) (fun _ => ?_)
  refine lv_aload_n hx hb dX6_layFour_7 rfl (lv_at hl 1 rfl) ?_
  refine va_get (D := (dC, dI)) (ci := 6) (v := .int 9) (C := RX6) (T := TX6) (N := 20) hx hb hts hi6 hown hK hP 0 rfl rfl 1 (by decide) (hts _ (ow_m (k := 0) rfl)) (fun _ h9 => h9) rfl dX6_layFour_8 ?_
  refine lv_aload_n hx hb dX6_layFour_11 rfl (lv_at hl 1 rfl) ?_
  refine va_get (D := (dC, dI)) (ci := 6) (v := .ref (ad 0)) (C := RX6) (T := TX6) (N := 20) hx hb hts hi6 hown hK hP 0 rfl rfl 0 (by decide) (hts _ (ow_m (k := 1) rfl)) (fun _ h9 => h9) rfl dX6_layFour_12 ?_
  refine va_alen (v := 1600) hx hb hK hP 1 0 rfl rfl rfl dX6_layFour_15 ?_
  refine lv_icmp_ge (tgt := 42) hx hb dX6_layFour_16 (by decide) (fun c317 => absurd c317 (by decide)) (fun _ => ?_)
  refine lv_aload_n hx hb dX6_layFour_19 rfl (lv_at hl 1 rfl) ?_
  refine va_get (D := (dC, dI)) (ci := 6) (v := .ref (ad 0)) (C := RX6) (T := TX6) (N := 20) hx hb hts hi6 hown hK hP 0 rfl rfl 0 (by decide) (hts _ (ow_m (k := 1) rfl)) (fun _ h9 => h9) rfl dX6_layFour_20 ?_
  refine lv_aload_n hx hb dX6_layFour_23 rfl (lv_at hl 1 rfl) ?_
  refine va_get (D := (dC, dI)) (ci := 6) (v := .int 9) (C := RX6) (T := TX6) (N := 20) hx hb hts hi6 hown hK hP 0 rfl rfl 1 (by decide) (hts _ (ow_m (k := 0) rfl)) (fun _ h9 => h9) rfl dX6_layFour_24 ?_
  refine lv_iload_n hx hb dX6_layFour_27 rfl (lv_at hl 2 rfl) ?_
  refine lv_iload_n hx hb dX6_layFour_28 rfl (lv_at hl 0 rfl) ?_
  refine lv_iushr hx hb dX6_layFour_29 rfl ?_
  refine lv_topi (fun z318 ez318 => ?_)
  refine lv_i2b hx hb dX6_layFour_30 rfl ?_
  refine lv_topi (fun z319 ez319 => ?_)
  refine va_bast hx hb hK hP hD hS 1 0 rfl rfl (vp_i (a := 9) (by decide) (by decide) (by decide)) dX6_layFour_31 (fun H locs hP hD hS => ?_)
  have hP : va_P (dC, dI) vwCl [(h0, .inr (6, [.ref (ad 0), .int 9, .ref (ad 2), .ref (ad 3), .ref (ad 4), .ref (ad 5), .ref (ad 6), .int 0, .int 0, .ref (ad 9), .ref (ad 10), .ref (ad 11), .ref (ad 12), .ref (ad 13), .int 0, .ref (ad 15), .int 0, .ref (ad 17), .ref (ad 18), .int 0])), (ad 0, .inl (cyB, 1600, .inl (upd f315 9 (vp_nar .byte z319))))] H := hP
  have hD : va_D A [(h0, .inr (6, [.ref (ad 0), .int 9, .ref (ad 2), .ref (ad 3), .ref (ad 4), .ref (ad 5), .ref (ad 6), .int 0, .int 0, .ref (ad 9), .ref (ad 10), .ref (ad 11), .ref (ad 12), .ref (ad 13), .int 0, .ref (ad 15), .int 0, .ref (ad 17), .ref (ad 18), .int 0])), (ad 0, .inl (cyB, 1600, .inl (upd f315 9 (vp_nar .byte z319))))] := hD
  generalize upd f315 9 (vp_nar .byte z319) = f320 at hP hD
  refine lv_aload_n hx hb dX6_layFour_32 rfl (lv_at hl 1 rfl) ?_
  refine lv_dup hx hb dX6_layFour_33 rfl ?_
  refine va_get (D := (dC, dI)) (ci := 6) (v := .int 9) (C := RX6) (T := TX6) (N := 20) hx hb hts hi6 hown hK hP 0 rfl rfl 1 (by decide) (hts _ (ow_m (k := 0) rfl)) (fun _ h9 => h9) rfl dX6_layFour_34 ?_
  refine lv_iconst (v := 1) hx hb dX6_layFour_37 (by decide) ?_
  refine lv_iadd hx hb dX6_layFour_38 ?_
  refine tp_c (w := 10) (by decide) ?_
  refine va_put (D := (dC, dI)) (ci := 6) (v := .int 10) (ty := .int) (C := RX6) (T := TX6) (N := 20) hx hb hts hi6 tyX6 tyX6_ok nmX6 hown hK hP hD hS 0 rfl rfl 1 (by decide) (hts _ (ow_m (k := 0) rfl)) (fun _ h9 => h9) rfl (by decide +kernel) rfl rfl (Nat.le_of_ble_eq_true rfl) dX6_layFour_39 (fun H locs hP hD hS => ?_)
  have hP : va_P (dC, dI) vwCl [(h0, .inr (6, [.ref (ad 0), .int 10, .ref (ad 2), .ref (ad 3), .ref (ad 4), .ref (ad 5), .ref (ad 6), .int 0, .int 0, .ref (ad 9), .ref (ad 10), .ref (ad 11), .ref (ad 12), .ref (ad 13), .int 0, .ref (ad 15), .int 0, .ref (ad 17), .ref (ad 18), .int 0])), (ad 0, .inl (cyB, 1600, .inl f320))] H := hP
  have hD : va_D A [(h0, .inr (6, [.ref (ad 0), .int 10, .ref (ad 2), .ref (ad 3), .ref (ad 4), .ref (ad 5), .ref (ad 6), .int 0, .int 0, .ref (ad 9), .ref (ad 10), .ref (ad 11), .ref (ad 12), .ref (ad 13), .int 0, .ref (ad 15), .int 0, .ref (ad 17), .ref (ad 18), .int 0])), (ad 0, .inl (cyB, 1600, .inl f320))] := hD
  refine lv_iinc (v := 8) (lv' := [(2, .int 8), (0, .ref h0), (1, .int a1)]) hx hb dX6_layFour_42 hl (k := 0) rfl (by decide) (by decide) rfl (fun ls hl => ?_)
  refine lv_goto (tgt := 3) hx hb dX6_layFour_45 (by decide) ?_
  refine lv_iload_n hx hb dX6_layFour_3 rfl (lv_at hl 0 rfl) ?_
  refine lv_if_lt (tgt := 48) hx hb dX6_layFour_4 (by decide) (fun c321 => absurd c321 (by decide)) (fun _ => ?_)
  refine lv_aload_n hx hb dX6_layFour_7 rfl (lv_at hl 1 rfl) ?_
  refine va_get (D := (dC, dI)) (ci := 6) (v := .int 10) (C := RX6) (T := TX6) (N := 20) hx hb hts hi6 hown hK hP 0 rfl rfl 1 (by decide) (hts _ (ow_m (k := 0) rfl)) (fun _ h9 => h9) rfl dX6_layFour_8 ?_
  refine lv_aload_n hx hb dX6_layFour_11 rfl (lv_at hl 1 rfl) ?_
  refine va_get (D := (dC, dI)) (ci := 6) (v := .ref (ad 0)) (C := RX6) (T := TX6) (N := 20) hx hb hts hi6 hown hK hP 0 rfl rfl 0 (by decide) (hts _ (ow_m (k := 1) rfl)) (fun _ h9 => h9) rfl dX6_layFour_12 ?_
  refine va_alen (v := 1600) hx hb hK hP 1 0 rfl rfl rfl dX6_layFour_15 ?_
  refine lv_icmp_ge (tgt := 42) hx hb dX6_layFour_16 (by decide) (fun c322 => absurd c322 (by decide)) (fun _ => ?_)
  refine lv_aload_n hx hb dX6_layFour_19 rfl (lv_at hl 1 rfl) ?_
  refine va_get (D := (dC, dI)) (ci := 6) (v := .ref (ad 0)) (C := RX6) (T := TX6) (N := 20) hx hb hts hi6 hown hK hP 0 rfl rfl 0 (by decide) (hts _ (ow_m (k := 1) rfl)) (fun _ h9 => h9) rfl dX6_layFour_20 ?_
  refine lv_aload_n hx hb dX6_layFour_23 rfl (lv_at hl 1 rfl) ?_
  refine va_get (D := (dC, dI)) (ci := 6) (v := .int 10) (C := RX6) (T := TX6) (N := 20) hx hb hts hi6 hown hK hP 0 rfl rfl 1 (by decide) (hts _ (ow_m (k := 0) rfl)) (fun _ h9 => h9) rfl dX6_layFour_24 ?_
  refine lv_iload_n hx hb dX6_layFour_27 rfl (lv_at hl 2 rfl) ?_
  refine lv_iload_n hx hb dX6_layFour_28 rfl (lv_at hl 0 rfl) ?_
  refine lv_iushr hx hb dX6_layFour_29 rfl ?_
  refine lv_topi (fun z323 ez323 => ?_)
  refine lv_i2b hx hb dX6_layFour_30 rfl ?_
  refine lv_topi (fun z324 ez324 => ?_)
  refine va_bast hx hb hK hP hD hS 1 0 rfl rfl (vp_i (a := 10) (by decide) (by decide) (by decide)) dX6_layFour_31 (fun H locs hP hD hS => ?_)
  have hP : va_P (dC, dI) vwCl [(h0, .inr (6, [.ref (ad 0), .int 10, .ref (ad 2), .ref (ad 3), .ref (ad 4), .ref (ad 5), .ref (ad 6), .int 0, .int 0, .ref (ad 9), .ref (ad 10), .ref (ad 11), .ref (ad 12), .ref (ad 13), .int 0, .ref (ad 15), .int 0, .ref (ad 17), .ref (ad 18), .int 0])), (ad 0, .inl (cyB, 1600, .inl (upd f320 10 (vp_nar .byte z324))))] H := hP
  have hD : va_D A [(h0, .inr (6, [.ref (ad 0), .int 10, .ref (ad 2), .ref (ad 3), .ref (ad 4), .ref (ad 5), .ref (ad 6), .int 0, .int 0, .ref (ad 9), .ref (ad 10), .ref (ad 11), .ref (ad 12), .ref (ad 13), .int 0, .ref (ad 15), .int 0, .ref (ad 17), .ref (ad 18), .int 0])), (ad 0, .inl (cyB, 1600, .inl (upd f320 10 (vp_nar .byte z324))))] := hD
  generalize upd f320 10 (vp_nar .byte z324) = f325 at hP hD
  refine lv_aload_n hx hb dX6_layFour_32 rfl (lv_at hl 1 rfl) ?_
  refine lv_dup hx hb dX6_layFour_33 rfl ?_
  refine va_get (D := (dC, dI)) (ci := 6) (v := .int 10) (C := RX6) (T := TX6) (N := 20) hx hb hts hi6 hown hK hP 0 rfl rfl 1 (by decide) (hts _ (ow_m (k := 0) rfl)) (fun _ h9 => h9) rfl dX6_layFour_34 ?_
  refine lv_iconst (v := 1) hx hb dX6_layFour_37 (by decide) ?_
  refine lv_iadd hx hb dX6_layFour_38 ?_
  refine tp_c (w := 11) (by decide) ?_
  refine va_put (D := (dC, dI)) (ci := 6) (v := .int 11) (ty := .int) (C := RX6) (T := TX6) (N := 20) hx hb hts hi6 tyX6 tyX6_ok nmX6 hown hK hP hD hS 0 rfl rfl 1 (by decide) (hts _ (ow_m (k := 0) rfl)) (fun _ h9 => h9) rfl (by decide +kernel) rfl rfl (Nat.le_of_ble_eq_true rfl) dX6_layFour_39 (fun H locs hP hD hS => ?_)
  have hP : va_P (dC, dI) vwCl [(h0, .inr (6, [.ref (ad 0), .int 11, .ref (ad 2), .ref (ad 3), .ref (ad 4), .ref (ad 5), .ref (ad 6), .int 0, .int 0, .ref (ad 9), .ref (ad 10), .ref (ad 11), .ref (ad 12), .ref (ad 13), .int 0, .ref (ad 15), .int 0, .ref (ad 17), .ref (ad 18), .int 0])), (ad 0, .inl (cyB, 1600, .inl f325))] H := hP
  have hD : va_D A [(h0, .inr (6, [.ref (ad 0), .int 11, .ref (ad 2), .ref (ad 3), .ref (ad 4), .ref (ad 5), .ref (ad 6), .int 0, .int 0, .ref (ad 9), .ref (ad 10), .ref (ad 11), .ref (ad 12), .ref (ad 13), .int 0, .ref (ad 15), .int 0, .ref (ad 17), .ref (ad 18), .int 0])), (ad 0, .inl (cyB, 1600, .inl f325))] := hD
  refine lv_iinc (v := 0) (lv' := [(2, .int 0), (0, .ref h0), (1, .int a1)]) hx hb dX6_layFour_42 hl (k := 0) rfl (by decide) (by decide) rfl (fun ls hl => ?_)
  refine lv_goto (tgt := 3) hx hb dX6_layFour_45 (by decide) ?_
  refine lv_iload_n hx hb dX6_layFour_3 rfl (lv_at hl 0 rfl) ?_
  refine lv_if_lt (tgt := 48) hx hb dX6_layFour_4 (by decide) (fun c326 => absurd c326 (by decide)) (fun _ => ?_)
  refine lv_aload_n hx hb dX6_layFour_7 rfl (lv_at hl 1 rfl) ?_
  refine va_get (D := (dC, dI)) (ci := 6) (v := .int 11) (C := RX6) (T := TX6) (N := 20) hx hb hts hi6 hown hK hP 0 rfl rfl 1 (by decide) (hts _ (ow_m (k := 0) rfl)) (fun _ h9 => h9) rfl dX6_layFour_8 ?_
  refine lv_aload_n hx hb dX6_layFour_11 rfl (lv_at hl 1 rfl) ?_
  refine va_get (D := (dC, dI)) (ci := 6) (v := .ref (ad 0)) (C := RX6) (T := TX6) (N := 20) hx hb hts hi6 hown hK hP 0 rfl rfl 0 (by decide) (hts _ (ow_m (k := 1) rfl)) (fun _ h9 => h9) rfl dX6_layFour_12 ?_
  refine va_alen (v := 1600) hx hb hK hP 1 0 rfl rfl rfl dX6_layFour_15 ?_
  refine lv_icmp_ge (tgt := 42) hx hb dX6_layFour_16 (by decide) (fun c327 => absurd c327 (by decide)) (fun _ => ?_)
  refine lv_aload_n hx hb dX6_layFour_19 rfl (lv_at hl 1 rfl) ?_
  refine va_get (D := (dC, dI)) (ci := 6) (v := .ref (ad 0)) (C := RX6) (T := TX6) (N := 20) hx hb hts hi6 hown hK hP 0 rfl rfl 0 (by decide) (hts _ (ow_m (k := 1) rfl)) (fun _ h9 => h9) rfl dX6_layFour_20 ?_
  refine lv_aload_n hx hb dX6_layFour_23 rfl (lv_at hl 1 rfl) ?_
  refine va_get (D := (dC, dI)) (ci := 6) (v := .int 11) (C := RX6) (T := TX6) (N := 20) hx hb hts hi6 hown hK hP 0 rfl rfl 1 (by decide) (hts _ (ow_m (k := 0) rfl)) (fun _ h9 => h9) rfl dX6_layFour_24 ?_
  refine lv_iload_n hx hb dX6_layFour_27 rfl (lv_at hl 2 rfl) ?_
  refine lv_iload_n hx hb dX6_layFour_28 rfl (lv_at hl 0 rfl) ?_
  refine lv_iushr hx hb dX6_layFour_29 rfl ?_
  refine lv_topi (fun z328 ez328 => ?_)
  refine lv_i2b hx hb dX6_layFour_30 rfl ?_
  refine lv_topi (fun z329 ez329 => ?_)
  refine va_bast hx hb hK hP hD hS 1 0 rfl rfl (vp_i (a := 11) (by decide) (by decide) (by decide)) dX6_layFour_31 (fun H locs hP hD hS => ?_)
  have hP : va_P (dC, dI) vwCl [(h0, .inr (6, [.ref (ad 0), .int 11, .ref (ad 2), .ref (ad 3), .ref (ad 4), .ref (ad 5), .ref (ad 6), .int 0, .int 0, .ref (ad 9), .ref (ad 10), .ref (ad 11), .ref (ad 12), .ref (ad 13), .int 0, .ref (ad 15), .int 0, .ref (ad 17), .ref (ad 18), .int 0])), (ad 0, .inl (cyB, 1600, .inl (upd f325 11 (vp_nar .byte z329))))] H := hP
  have hD : va_D A [(h0, .inr (6, [.ref (ad 0), .int 11, .ref (ad 2), .ref (ad 3), .ref (ad 4), .ref (ad 5), .ref (ad 6), .int 0, .int 0, .ref (ad 9), .ref (ad 10), .ref (ad 11), .ref (ad 12), .ref (ad 13), .int 0, .ref (ad 15), .int 0, .ref (ad 17), .ref (ad 18), .int 0])), (ad 0, .inl (cyB, 1600, .inl (upd f325 11 (vp_nar .byte z329))))] := hD
  generalize upd f325 11 (vp_nar .byte z329) = f330 at hP hD
  refine lv_aload_n hx hb dX6_layFour_32 rfl (lv_at hl 1 rfl) ?_
  refine lv_dup hx hb dX6_layFour_33 rfl ?_
  refine va_get (D := (dC, dI)) (ci := 6) (v := .int 11) (C := RX6) (T := TX6) (N := 20) hx hb hts hi6 hown hK hP 0 rfl rfl 1 (by decide) (hts _ (ow_m (k := 0) rfl)) (fun _ h9 => h9) rfl dX6_layFour_34 ?_
  refine lv_iconst (v := 1) hx hb dX6_layFour_37 (by decide) ?_
  refine lv_iadd hx hb dX6_layFour_38 ?_
  refine tp_c (w := 12) (by decide) ?_
  refine va_put (D := (dC, dI)) (ci := 6) (v := .int 12) (ty := .int) (C := RX6) (T := TX6) (N := 20) hx hb hts hi6 tyX6 tyX6_ok nmX6 hown hK hP hD hS 0 rfl rfl 1 (by decide) (hts _ (ow_m (k := 0) rfl)) (fun _ h9 => h9) rfl (by decide +kernel) rfl rfl (Nat.le_of_ble_eq_true rfl) dX6_layFour_39 (fun H locs hP hD hS => ?_)
  have hP : va_P (dC, dI) vwCl [(h0, .inr (6, [.ref (ad 0), .int 12, .ref (ad 2), .ref (ad 3), .ref (ad 4), .ref (ad 5), .ref (ad 6), .int 0, .int 0, .ref (ad 9), .ref (ad 10), .ref (ad 11), .ref (ad 12), .ref (ad 13), .int 0, .ref (ad 15), .int 0, .ref (ad 17), .ref (ad 18), .int 0])), (ad 0, .inl (cyB, 1600, .inl f330))] H := hP
  have hD : va_D A [(h0, .inr (6, [.ref (ad 0), .int 12, .ref (ad 2), .ref (ad 3), .ref (ad 4), .ref (ad 5), .ref (ad 6), .int 0, .int 0, .ref (ad 9), .ref (ad 10), .ref (ad 11), .ref (ad 12), .ref (ad 13), .int 0, .ref (ad 15), .int 0, .ref (ad 17), .ref (ad 18), .int 0])), (ad 0, .inl (cyB, 1600, .inl f330))] := hD
  refine lv_iinc (v := (-8)) (lv' := [(2, .int (-8)), (0, .ref h0), (1, .int a1)]) hx hb dX6_layFour_42 hl (k := 0) rfl (by decide) (by decide) rfl (fun ls hl => ?_)
  refine lv_goto (tgt := 3) hx hb dX6_layFour_45 (by decide) ?_
  refine lv_iload_n hx hb dX6_layFour_3 rfl (lv_at hl 0 rfl) ?_
  refine lv_if_lt (tgt := 48) hx hb dX6_layFour_4 (by decide) (fun _ => ?_) (fun c331 => absurd (by decide) c331)
  exact W.vret hx hb hr (fun t ht hW => ⟨⟨(fun _ => f330), rfl, trivial, cE.of ht hP hD [0, 1] (by decide) rfl⟩, hS.F ht⟩) hS.2.2 dX6_layFour_48
def wo_k_X6_layFour_v8 : List Cond := [.fieldLink RX6 79 "ReplicaChain" "tapeLength" "I", .fieldLink RX6 9 "ReplicaChain" "tape" "[B"]
def wq_k_X6_layFour_v8 : List Cond := .code yX6_layFour cX6_layFour 3 none :: (wo_k_X6_layFour_v8 ++ (wsX60 ++ []))
theorem gd_k_X6_layFour_v8 : Gd wq_k_X6_layFour_v8 := gd_c (gd_a (gd_o (by decide +kernel)) (gd_a gd_u gd_0))
abbrev wc_k_X6_layFour_v8 (cyB cyI cyJ cyZ cyO : ClassId) (h0 : Nat) (ad : Nat → Nat) (u333 : Nat → Nat → Int32) (a1 : Int32) : va_W := [(h0, .inr (6, [.ref (ad 0), .int 12, .ref (ad 2), .ref (ad 3), .ref (ad 4), .ref (ad 5), .ref (ad 6), .int 0, .int 0, .ref (ad 9), .ref (ad 10), .ref (ad 11), .ref (ad 12), .ref (ad 13), .int 0, .ref (ad 15), .int 0, .ref (ad 17), .ref (ad 18), .int 0])), (ad 0, .inl (cyB, 1600, .inl (u333 0)))]
set_option maxHeartbeats 4000000 in
set_option maxRecDepth 100000 in
theorem k_X6_layFour_v8 (l : Launch) (dC : Nat → ClassId) (dI : Nat → Nat → Nat) (cyB cyI cyJ cyZ cyO : ClassId) (h0 : Nat) (ad : Nat → Nat) (u333 : Nat → Nat → Int32) (a1 : Int32) (sz : Nat) : Met l yX6_layFour wq_k_X6_layFour_v8 ({ frames := 0, cells := 0, slots := 0, locals := 0 }) (va_Pc [.ref h0, .int a1] (cB (dC, dI) (kT cyB cyI cyJ cyZ cyO) (wc_k_X6_layFour_v8 cyB cyI cyJ cyZ cyO h0 ad u333 a1) sz)) (va_Qv (fun _ => True) (fun (u : Nat → Nat → Int32) t => cE (dC, dI) (va_A (wc_k_X6_layFour_v8 cyB cyI cyJ cyZ cyO h0 ad u333 a1) sz) ([(h0, .inr (6, [.ref (ad 0), .int 16, .ref (ad 2), .ref (ad 3), .ref (ad 4), .ref (ad 5), .ref (ad 6), .int 0, .int 0, .ref (ad 9), .ref (ad 10), .ref (ad 11), .ref (ad 12), .ref (ad 13), .int 0, .ref (ad 15), .int 0, .ref (ad 17), .ref (ad 18), .int 0])), (ad 0, .inl (cyB, 1600, .inl (u 0)))]) t.heap) (va_A (wc_k_X6_layFour_v8 cyB cyI cyJ cyZ cyO h0 ad u333 a1) sz)) 0 0 (va_A (wc_k_X6_layFour_v8 cyB cyI cyJ cyZ cyO h0 ad u333 a1) sz) := by
  refine Met.ofW (cc := cX6_layFour) (maxL := 3) (ret := none) (by decide) rfl ?_
  intro p e s m args below meth c s₁ B hml hv
  obtain ⟨rfl, hsz, hP, hKN, hD0⟩ := hv
  have hx := B.exec
  have hb := B.bytes
  have hr := B.returns
  have hts := atoms_spec (ws := wq_k_X6_layFour_v8) B.pre
  have hown : s.vm.findClass RX6 = some m.cls := findClass_of_methodNamed B.named
  have hlocks := B.notSynchronized
  have hK := hKN.1
  have hfix : CallFix p m c cX6_layFour 3 s [.ref h0, .int a1].toArray wq_k_X6_layFour_v8 RX6 := ⟨hx, hb, hml, hown, hts⟩
  have hi6 : ∀ w ∈ wsX60, w ∈ wq_k_X6_layFour_v8 := (sb_c sb_l)
  subst hsz
  have hD := hD0.self (sz := s.heap.size)
  generalize hAe : va_A (wc_k_X6_layFour_v8 cyB cyI cyJ cyZ cyO h0 ad u333 a1) s.heap.size = A at hD ⊢
  have hA : ∀ q : Nat, s.heap.size ≤ q → A q := fun q h => by rw [← hAe]; exact Or.inr h
  have hS : va_S A s.heap s.heap [] := va_S.rf
  have hl := lv_entry ([.ref h0, .int a1]) (n := 3) (Nat.le_of_ble_eq_true rfl)
  rw [lg_entry_eq]
  generalize (lg_sl ([.ref h0, .int a1]) ++ List.replicate (3 - (lg_sl ([.ref h0, .int a1])).length) Slot.unset).toArray = ls at hl ⊢
  have hl : lv_has ls 3 [(0, .ref h0), (1, .int a1)] := hl
  refine lv_bipush (v := 24) hx hb dX6_layFour_0 (by decide) ?_
  refine lv_istore_n (lv' := [(2, .int 24), (0, .ref h0), (1, .int a1)]) hx hb dX6_layFour_2 rfl hl (by decide) rfl (fun ls hl => ?_)
  refine lv_iload_n hx hb dX6_layFour_3 rfl (lv_at hl 0 rfl) ?_
  refine lv_if_lt (tgt := 48) hx hb dX6_layFour_4 (by decide) (fun c355 => absurd c355 (by decide)) (fun _ => ?_)
  refine lv_aload_n hx hb dX6_layFour_7 rfl (lv_at hl 1 rfl) ?_
  refine va_get (D := (dC, dI)) (ci := 6) (v := .int 12) (C := RX6) (T := TX6) (N := 20) hx hb hts hi6 hown hK hP 0 rfl rfl 1 (by decide) (hts _ (ow_m (k := 0) rfl)) (fun _ h9 => h9) rfl dX6_layFour_8 ?_
  refine lv_aload_n hx hb dX6_layFour_11 rfl (lv_at hl 1 rfl) ?_
  refine va_get (D := (dC, dI)) (ci := 6) (v := .ref (ad 0)) (C := RX6) (T := TX6) (N := 20) hx hb hts hi6 hown hK hP 0 rfl rfl 0 (by decide) (hts _ (ow_m (k := 1) rfl)) (fun _ h9 => h9) rfl dX6_layFour_12 ?_
  refine va_alen (v := 1600) hx hb hK hP 1 0 rfl rfl rfl dX6_layFour_15 ?_
  refine lv_icmp_ge (tgt := 42) hx hb dX6_layFour_16 (by decide) (fun c356 => absurd c356 (by decide)) (fun _ => ?_)
  refine lv_aload_n hx hb dX6_layFour_19 rfl (lv_at hl 1 rfl) ?_
  refine va_get (D := (dC, dI)) (ci := 6) (v := .ref (ad 0)) (C := RX6) (T := TX6) (N := 20) hx hb hts hi6 hown hK hP 0 rfl rfl 0 (by decide) (hts _ (ow_m (k := 1) rfl)) (fun _ h9 => h9) rfl dX6_layFour_20 ?_
  refine lv_aload_n hx hb dX6_layFour_23 rfl (lv_at hl 1 rfl) ?_
  refine va_get (D := (dC, dI)) (ci := 6) (v := .int 12) (C := RX6) (T := TX6) (N := 20) hx hb hts hi6 hown hK hP 0 rfl rfl 1 (by decide) (hts _ (ow_m (k := 0) rfl)) (fun _ h9 => h9) rfl dX6_layFour_24 ?_
  refine lv_iload_n hx hb dX6_layFour_27 rfl (lv_at hl 2 rfl) ?_
  refine lv_iload_n hx hb dX6_layFour_28 rfl (lv_at hl 0 rfl) ?_
  refine lv_iushr hx hb dX6_layFour_29 rfl ?_
  refine lv_topi (fun z357 ez357 => ?_)
  refine lv_i2b hx hb dX6_layFour_30 rfl ?_
  refine lv_topi (fun z358 ez358 => ?_)
  refine va_bast hx hb hK hP hD hS 1 0 rfl rfl (vp_i (a := 12) (by decide) (by decide) (by decide)) dX6_layFour_31 (fun H locs hP hD hS => ?_)
  have hP : va_P (dC, dI) vwCl [(h0, .inr (6, [.ref (ad 0), .int 12, .ref (ad 2), .ref (ad 3), .ref (ad 4), .ref (ad 5), .ref (ad 6), .int 0, .int 0, .ref (ad 9), .ref (ad 10), .ref (ad 11), .ref (ad 12), .ref (ad 13), .int 0, .ref (ad 15), .int 0, .ref (ad 17), .ref (ad 18), .int 0])), (ad 0, .inl (cyB, 1600, .inl (upd (u333 0) 12 (vp_nar .byte z358))))] H := hP
  have hD : va_D A [(h0, .inr (6, [.ref (ad 0), .int 12, .ref (ad 2), .ref (ad 3), .ref (ad 4), .ref (ad 5), .ref (ad 6), .int 0, .int 0, .ref (ad 9), .ref (ad 10), .ref (ad 11), .ref (ad 12), .ref (ad 13), .int 0, .ref (ad 15), .int 0, .ref (ad 17), .ref (ad 18), .int 0])), (ad 0, .inl (cyB, 1600, .inl (upd (u333 0) 12 (vp_nar .byte z358))))] := hD
  generalize upd (u333 0) 12 (vp_nar .byte z358) = f359 at hP hD
  refine lv_aload_n hx hb dX6_layFour_32 rfl (lv_at hl 1 rfl) ?_
  refine lv_dup hx hb dX6_layFour_33 rfl ?_
  refine va_get (D := (dC, dI)) (ci := 6) (v := .int 12) (C := RX6) (T := TX6) (N := 20) hx hb hts hi6 hown hK hP 0 rfl rfl 1 (by decide) (hts _ (ow_m (k := 0) rfl)) (fun _ h9 => h9) rfl dX6_layFour_34 ?_
  refine lv_iconst (v := 1) hx hb dX6_layFour_37 (by decide) ?_
  refine lv_iadd hx hb dX6_layFour_38 ?_
  refine tp_c (w := 13) (by decide) ?_
  refine va_put (D := (dC, dI)) (ci := 6) (v := .int 13) (ty := .int) (C := RX6) (T := TX6) (N := 20) hx hb hts hi6 tyX6 tyX6_ok nmX6 hown hK hP hD hS 0 rfl rfl 1 (by decide) (hts _ (ow_m (k := 0) rfl)) (fun _ h9 => h9) rfl (by decide +kernel) rfl rfl (Nat.le_of_ble_eq_true rfl) dX6_layFour_39 (fun H locs hP hD hS => ?_)
  have hP : va_P (dC, dI) vwCl [(h0, .inr (6, [.ref (ad 0), .int 13, .ref (ad 2), .ref (ad 3), .ref (ad 4), .ref (ad 5), .ref (ad 6), .int 0, .int 0, .ref (ad 9), .ref (ad 10), .ref (ad 11), .ref (ad 12), .ref (ad 13), .int 0, .ref (ad 15), .int 0, .ref (ad 17), .ref (ad 18), .int 0])), (ad 0, .inl (cyB, 1600, .inl f359))] H := hP
  have hD : va_D A [(h0, .inr (6, [.ref (ad 0), .int 13, .ref (ad 2), .ref (ad 3), .ref (ad 4), .ref (ad 5), .ref (ad 6), .int 0, .int 0, .ref (ad 9), .ref (ad 10), .ref (ad 11), .ref (ad 12), .ref (ad 13), .int 0, .ref (ad 15), .int 0, .ref (ad 17), .ref (ad 18), .int 0])), (ad 0, .inl (cyB, 1600, .inl f359))] := hD
  refine lv_iinc (v := 16) (lv' := [(2, .int 16), (0, .ref h0), (1, .int a1)]) hx hb dX6_layFour_42 hl (k := 0) rfl (by decide) (by decide) rfl (fun ls hl => ?_)
  refine lv_goto (tgt := 3) hx hb dX6_layFour_45 (by decide) ?_
  refine lv_iload_n hx hb dX6_layFour_3 rfl (lv_at hl 0 rfl) ?_
  refine lv_if_lt (tgt := 48) hx hb dX6_layFour_4 (by decide) (fun c360 => absurd c360 (by decide)) (fun _ => ?_)
  refine lv_aload_n hx hb dX6_layFour_7 rfl (lv_at hl 1 rfl) ?_
  refine va_get (D := (dC, dI)) (ci := 6) (v := .int 13) (C := RX6) (T := TX6) (N := 20) hx hb hts hi6 hown hK hP 0 rfl rfl 1 (by decide) (hts _ (ow_m (k := 0) rfl)) (fun _ h9 => h9) rfl dX6_layFour_8 ?_
  refine lv_aload_n hx hb dX6_layFour_11 rfl (lv_at hl 1 rfl) ?_
  refine va_get (D := (dC, dI)) (ci := 6) (v := .ref (ad 0)) (C := RX6) (T := TX6) (N := 20) hx hb hts hi6 hown hK hP 0 rfl rfl 0 (by decide) (hts _ (ow_m (k := 1) rfl)) (fun _ h9 => h9) rfl dX6_layFour_12 ?_
  refine va_alen (v := 1600) hx hb hK hP 1 0 rfl rfl rfl dX6_layFour_15 ?_
  refine lv_icmp_ge (tgt := 42) hx hb dX6_layFour_16 (by decide) (fun c361 => absurd c361 (by decide)) (fun _ => ?_)
  refine lv_aload_n hx hb dX6_layFour_19 rfl (lv_at hl 1 rfl) ?_
  refine va_get (D := (dC, dI)) (ci := 6) (v := .ref (ad 0)) (C := RX6) (T := TX6) (N := 20) hx hb hts hi6 hown hK hP 0 rfl rfl 0 (by decide) (hts _ (ow_m (k := 1) rfl)) (fun _ h9 => h9) rfl dX6_layFour_20 ?_
  refine lv_aload_n hx hb dX6_layFour_23 rfl (lv_at hl 1 rfl) ?_
  refine va_get (D := (dC, dI)) (ci := 6) (v := .int 13) (C := RX6) (T := TX6) (N := 20) hx hb hts hi6 hown hK hP 0 rfl rfl 1 (by decide) (hts _ (ow_m (k := 0) rfl)) (fun _ h9 => h9) rfl dX6_layFour_24 ?_
  refine lv_iload_n hx hb dX6_layFour_27 rfl (lv_at hl 2 rfl) ?_
  refine lv_iload_n hx hb dX6_layFour_28 rfl (lv_at hl 0 rfl) ?_
  refine lv_iushr hx hb dX6_layFour_29 rfl ?_
  refine lv_topi (fun z362 ez362 => ?_)
  refine lv_i2b hx hb dX6_layFour_30 rfl ?_
  refine lv_topi (fun z363 ez363 => ?_)
  refine va_bast hx hb hK hP hD hS 1 0 rfl rfl (vp_i (a := 13) (by decide) (by decide) (by decide)) dX6_layFour_31 (fun H locs hP hD hS => ?_)
  have hP : va_P (dC, dI) vwCl [(h0, .inr (6, [.ref (ad 0), .int 13, .ref (ad 2), .ref (ad 3), .ref (ad 4), .ref (ad 5), .ref (ad 6), .int 0, .int 0, .ref (ad 9), .ref (ad 10), .ref (ad 11), .ref (ad 12), .ref (ad 13), .int 0, .ref (ad 15), .int 0, .ref (ad 17), .ref (ad 18), .int 0])), (ad 0, .inl (cyB, 1600, .inl (upd f359 13 (vp_nar .byte z363))))] H := hP
  have hD : va_D A [(h0, .inr (6, [.ref (ad 0), .int 13, .ref (ad 2), .ref (ad 3), .ref (ad 4), .ref (ad 5), .ref (ad 6), .int 0, .int 0, .ref (ad 9), .ref (ad 10), .ref (ad 11), .ref (ad 12), .ref (ad 13), .int 0, .ref (ad 15), .int 0, .ref (ad 17), .ref (ad 18), .int 0])), (ad 0, .inl (cyB, 1600, .inl (upd f359 13 (vp_nar .byte z363))))] := hD
  generalize upd f359 13 (vp_nar .byte z363) = f364 at hP hD
  refine lv_aload_n hx hb dX6_layFour_32 rfl (lv_at hl 1 rfl) ?_
  refine lv_dup hx hb dX6_layFour_33 rfl ?_
  refine va_get (D := (dC, dI)) (ci := 6) (v := .int 13) (C := RX6) (T := TX6) (N := 20) hx hb hts hi6 hown hK hP 0 rfl rfl 1 (by decide) (hts _ (ow_m (k := 0) rfl)) (fun _ h9 => h9) rfl dX6_layFour_34 ?_
  refine lv_iconst (v := 1) hx hb dX6_layFour_37 (by decide) ?_
  refine lv_iadd hx hb dX6_layFour_38 ?_
  refine tp_c (w := 14) (by decide) ?_
  refine va_put (D := (dC, dI)) (ci := 6) (v := .int 14) (ty := .int) (C := RX6) (T := TX6) (N := 20) hx hb hts hi6 tyX6 tyX6_ok nmX6 hown hK hP hD hS 0 rfl rfl 1 (by decide) (hts _ (ow_m (k := 0) rfl)) (fun _ h9 => h9) rfl (by decide +kernel) rfl rfl (Nat.le_of_ble_eq_true rfl) dX6_layFour_39 (fun H locs hP hD hS => ?_)
  have hP : va_P (dC, dI) vwCl [(h0, .inr (6, [.ref (ad 0), .int 14, .ref (ad 2), .ref (ad 3), .ref (ad 4), .ref (ad 5), .ref (ad 6), .int 0, .int 0, .ref (ad 9), .ref (ad 10), .ref (ad 11), .ref (ad 12), .ref (ad 13), .int 0, .ref (ad 15), .int 0, .ref (ad 17), .ref (ad 18), .int 0])), (ad 0, .inl (cyB, 1600, .inl f364))] H := hP
  have hD : va_D A [(h0, .inr (6, [.ref (ad 0), .int 14, .ref (ad 2), .ref (ad 3), .ref (ad 4), .ref (ad 5), .ref (ad 6), .int 0, .int 0, .ref (ad 9), .ref (ad 10), .ref (ad 11), .ref (ad 12), .ref (ad 13), .int 0, .ref (ad 15), .int 0, .ref (ad 17), .ref (ad 18), .int 0])), (ad 0, .inl (cyB, 1600, .inl f364))] := hD
  refine lv_iinc (v := 8) (lv' := [(2, .int 8), (0, .ref h0), (1, .int a1)]) hx hb dX6_layFour_42 hl (k := 0) rfl (by decide) (by decide) rfl (fun ls hl => ?_)
  refine lv_goto (tgt := 3) hx hb dX6_layFour_45 (by decide) ?_
  refine lv_iload_n hx hb dX6_layFour_3 rfl (lv_at hl 0 rfl) ?_
  refine lv_if_lt (tgt := 48) hx hb dX6_layFour_4 (by decide) (fun c365 => absurd c365 (by decide)) (fun _ => ?_)
  refine lv_aload_n hx hb dX6_layFour_7 rfl (lv_at hl 1 rfl) ?_
  refine va_get (D := (dC, dI)) (ci := 6) (v := .int 14) (C := RX6) (T := TX6) (N := 20) hx hb hts hi6 hown hK hP 0 rfl rfl 1 (by decide) (hts _ (ow_m (k := 0) rfl)) (fun _ h9 => h9) rfl dX6_layFour_8 ?_
  refine lv_aload_n hx hb dX6_layFour_11 rfl (lv_at hl 1 rfl) ?_
  refine va_get (D := (dC, dI)) (ci := 6) (v := .ref (ad 0)) (C := RX6) (T := TX6) (N := 20) hx hb hts hi6 hown hK hP 0 rfl rfl 0 (by decide) (hts _ (ow_m (k := 1) rfl)) (fun _ h9 => h9) rfl dX6_layFour_12 ?_
  refine va_alen (v := 1600) hx hb hK hP 1 0 rfl rfl rfl dX6_layFour_15 ?_
  refine lv_icmp_ge (tgt := 42) hx hb dX6_layFour_16 (by decide) (fun c366 => absurd c366 (by decide)) (fun _ => ?_)
  refine lv_aload_n hx hb dX6_layFour_19 rfl (lv_at hl 1 rfl) ?_
  refine va_get (D := (dC, dI)) (ci := 6) (v := .ref (ad 0)) (C := RX6) (T := TX6) (N := 20) hx hb hts hi6 hown hK hP 0 rfl rfl 0 (by decide) (hts _ (ow_m (k := 1) rfl)) (fun _ h9 => h9) rfl dX6_layFour_20 ?_
  refine lv_aload_n hx hb dX6_layFour_23 rfl (lv_at hl 1 rfl) ?_
  refine va_get (D := (dC, dI)) (ci := 6) (v := .int 14) (C := RX6) (T := TX6) (N := 20) hx hb hts hi6 hown hK hP 0 rfl rfl 1 (by decide) (hts _ (ow_m (k := 0) rfl)) (fun _ h9 => h9) rfl dX6_layFour_24 ?_
  refine lv_iload_n hx hb dX6_layFour_27 rfl (lv_at hl 2 rfl) ?_
  refine lv_iload_n hx hb dX6_layFour_28 rfl (lv_at hl 0 rfl) ?_
  refine lv_iushr hx hb dX6_layFour_29 rfl ?_
  refine lv_topi (fun z367 ez367 => ?_)
  refine lv_i2b hx hb dX6_layFour_30 rfl ?_
  refine lv_topi (fun z368 ez368 => ?_)
  refine va_bast hx hb hK hP hD hS 1 0 rfl rfl (vp_i (a := 14) (by decide) (by decide) (by decide)) dX6_layFour_31 (fun H locs hP hD hS => ?_)
  have hP : va_P (dC, dI) vwCl [(h0, .inr (6, [.ref (ad 0), .int 14, .ref (ad 2), .ref (ad 3), .ref (ad 4), .ref (ad 5), .ref (ad 6), .int 0, .int 0, .ref (ad 9), .ref (ad 10), .ref (ad 11), .ref (ad 12), .ref (ad 13), .int 0, .ref (ad 15), .int 0, .ref (ad 17), .ref (ad 18), .int 0])), (ad 0, .inl (cyB, 1600, .inl (upd f364 14 (vp_nar .byte z368))))] H := hP
  have hD : va_D A [(h0, .inr (6, [.ref (ad 0), .int 14, .ref (ad 2), .ref (ad 3), .ref (ad 4), .ref (ad 5), .ref (ad 6), .int 0, .int 0, .ref (ad 9), .ref (ad 10), .ref (ad 11), .ref (ad 12), .ref (ad 13), .int 0, .ref (ad 15), .int 0, .ref (ad 17), .ref (ad 18), .int 0])), (ad 0, .inl (cyB, 1600, .inl (upd f364 14 (vp_nar .byte z368))))] := hD
  generalize upd f364 14 (vp_nar .byte z368) = f369 at hP hD
  refine lv_aload_n hx hb dX6_layFour_32 rfl (lv_at hl 1 rfl) ?_
  refine lv_dup hx hb dX6_layFour_33 rfl ?_
  refine va_get (D := (dC, dI)) (ci := 6) (v := .int 14) (C := RX6) (T := TX6) (N := 20) hx hb hts hi6 hown hK hP 0 rfl rfl 1 (by decide) (hts _ (ow_m (k := 0) rfl)) (fun _ h9 => h9) rfl dX6_layFour_34 ?_
  refine lv_iconst (v := 1) hx hb dX6_layFour_37 (by decide) ?_
  refine lv_iadd hx hb dX6_layFour_38 ?_
  refine tp_c (w := 15) (by decide) ?_
  refine va_put (D := (dC, dI)) (ci := 6) (v := .int 15) (ty := .int) (C := RX6) (T := TX6) (N := 20) hx hb hts hi6 tyX6 tyX6_ok nmX6 hown hK hP hD hS 0 rfl rfl 1 (by decide) (hts _ (ow_m (k := 0) rfl)) (fun _ h9 => h9) rfl (by decide +kernel) rfl rfl (Nat.le_of_ble_eq_true rfl) dX6_layFour_39 (fun H locs hP hD hS => ?_)
  have hP : va_P (dC, dI) vwCl [(h0, .inr (6, [.ref (ad 0), .int 15, .ref (ad 2), .ref (ad 3), .ref (ad 4), .ref (ad 5), .ref (ad 6), .int 0, .int 0, .ref (ad 9), .ref (ad 10), .ref (ad 11), .ref (ad 12), .ref (ad 13), .int 0, .ref (ad 15), .int 0, .ref (ad 17), .ref (ad 18), .int 0])), (ad 0, .inl (cyB, 1600, .inl f369))] H := hP
  have hD : va_D A [(h0, .inr (6, [.ref (ad 0), .int 15, .ref (ad 2), .ref (ad 3), .ref (ad 4), .ref (ad 5), .ref (ad 6), .int 0, .int 0, .ref (ad 9), .ref (ad 10), .ref (ad 11), .ref (ad 12), .ref (ad 13), .int 0, .ref (ad 15), .int 0, .ref (ad 17), .ref (ad 18), .int 0])), (ad 0, .inl (cyB, 1600, .inl f369))] := hD
  refine lv_iinc (v := 0) (lv' := [(2, .int 0), (0, .ref h0), (1, .int a1)]) hx hb dX6_layFour_42 hl (k := 0) rfl (by decide) (by decide) rfl (fun ls hl => ?_)
  refine lv_goto (tgt := 3) hx hb dX6_layFour_45 (by decide) ?_
  refine lv_iload_n hx hb dX6_layFour_3 rfl (lv_at hl 0 rfl) ?_
  refine lv_if_lt (tgt := 48) hx hb dX6_layFour_4 (by decide) (fun c370 => absurd c370 (by decide)) (fun _ => ?_)
  refine lv_aload_n hx hb dX6_layFour_7 rfl (lv_at hl 1 rfl) ?_
  refine va_get (D := (dC, dI)) (ci := 6) (v := .int 15) (C := RX6) (T := TX6) (N := 20) hx hb hts hi6 hown hK hP 0 rfl rfl 1 (by decide) (hts _ (ow_m (k := 0) rfl)) (fun _ h9 => h9) rfl dX6_layFour_8 ?_
  refine lv_aload_n hx hb dX6_layFour_11 rfl (lv_at hl 1 rfl) ?_
  refine va_get (D := (dC, dI)) (ci := 6) (v := .ref (ad 0)) (C := RX6) (T := TX6) (N := 20) hx hb hts hi6 hown hK hP 0 rfl rfl 0 (by decide) (hts _ (ow_m (k := 1) rfl)) (fun _ h9 => h9) rfl dX6_layFour_12 ?_
  refine va_alen (v := 1600) hx hb hK hP 1 0 rfl rfl rfl dX6_layFour_15 ?_
  refine lv_icmp_ge (tgt := 42) hx hb dX6_layFour_16 (by decide) (fun c371 => absurd c371 (by decide)) (fun _ => ?_)
  refine lv_aload_n hx hb dX6_layFour_19 rfl (lv_at hl 1 rfl) ?_
  refine va_get (D := (dC, dI)) (ci := 6) (v := .ref (ad 0)) (C := RX6) (T := TX6) (N := 20) hx hb hts hi6 hown hK hP 0 rfl rfl 0 (by decide) (hts _ (ow_m (k := 1) rfl)) (fun _ h9 => h9) rfl dX6_layFour_20 ?_
  refine lv_aload_n hx hb dX6_layFour_23 rfl (lv_at hl 1 rfl) ?_
  refine va_get (D := (dC, dI)) (ci := 6) (v := .int 15) (C := RX6) (T := TX6) (N := 20) hx hb hts hi6 hown hK hP 0 rfl rfl 1 (by decide) (hts _ (ow_m (k := 0) rfl)) (fun _ h9 => h9) rfl dX6_layFour_24 ?_
  refine lv_iload_n hx hb dX6_layFour_27 rfl (lv_at hl 2 rfl) ?_
  refine lv_iload_n hx hb dX6_layFour_28 rfl (lv_at hl 0 rfl) ?_
  refine lv_iushr hx hb dX6_layFour_29 rfl ?_
  refine lv_topi (fun z372 ez372 => ?_)
  refine lv_i2b hx hb dX6_layFour_30 rfl ?_
  refine lv_topi (fun z373 ez373 => ?_)
  refine va_bast hx hb hK hP hD hS 1 0 rfl rfl (vp_i (a := 15) (by decide) (by decide) (by decide)) dX6_layFour_31 (fun H locs hP hD hS => ?_)
  have hP : va_P (dC, dI) vwCl [(h0, .inr (6, [.ref (ad 0), .int 15, .ref (ad 2), .ref (ad 3), .ref (ad 4), .ref (ad 5), .ref (ad 6), .int 0, .int 0, .ref (ad 9), .ref (ad 10), .ref (ad 11), .ref (ad 12), .ref (ad 13), .int 0, .ref (ad 15), .int 0, .ref (ad 17), .ref (ad 18), .int 0])), (ad 0, .inl (cyB, 1600, .inl (upd f369 15 (vp_nar .byte z373))))] H := hP
  have hD : va_D A [(h0, .inr (6, [.ref (ad 0), .int 15, .ref (ad 2), .ref (ad 3), .ref (ad 4), .ref (ad 5), .ref (ad 6), .int 0, .int 0, .ref (ad 9), .ref (ad 10), .ref (ad 11), .ref (ad 12), .ref (ad 13), .int 0, .ref (ad 15), .int 0, .ref (ad 17), .ref (ad 18), .int 0])), (ad 0, .inl (cyB, 1600, .inl (upd f369 15 (vp_nar .byte z373))))] := hD
  generalize upd f369 15 (vp_nar .byte z373) = f374 at hP hD
  refine lv_aload_n hx hb dX6_layFour_32 rfl (lv_at hl 1 rfl) ?_
  refine lv_dup hx hb dX6_layFour_33 rfl ?_
  refine va_get (D := (dC, dI)) (ci := 6) (v := .int 15) (C := RX6) (T := TX6) (N := 20) hx hb hts hi6 hown hK hP 0 rfl rfl 1 (by decide) (hts _ (ow_m (k := 0) rfl)) (fun _ h9 => h9) rfl dX6_layFour_34 ?_
  refine lv_iconst (v := 1) hx hb dX6_layFour_37 (by decide) ?_
  refine lv_iadd hx hb dX6_layFour_38 ?_
  refine tp_c (w := 16) (by decide) ?_
  refine va_put (D := (dC, dI)) (ci := 6) (v := .int 16) (ty := .int) (C := RX6) (T := TX6) (N := 20) hx hb hts hi6 tyX6 tyX6_ok nmX6 hown hK hP hD hS 0 rfl rfl 1 (by decide) (hts _ (ow_m (k := 0) rfl)) (fun _ h9 => h9) rfl (by decide +kernel) rfl rfl (Nat.le_of_ble_eq_true rfl) dX6_layFour_39 (fun H locs hP hD hS => ?_)
  have hP : va_P (dC, dI) vwCl [(h0, .inr (6, [.ref (ad 0), .int 16, .ref (ad 2), .ref (ad 3), .ref (ad 4), .ref (ad 5), .ref (ad 6), .int 0, .int 0, .ref (ad 9), .ref (ad 10), .ref (ad 11), .ref (ad 12), .ref (ad 13), .int 0, .ref (ad 15), .int 0, .ref (ad 17), .ref (ad 18), .int 0])), (ad 0, .inl (cyB, 1600, .inl f374))] H := hP
  have hD : va_D A [(h0, .inr (6, [.ref (ad 0), .int 16, .ref (ad 2), .ref (ad 3), .ref (ad 4), .ref (ad 5), .ref (ad 6), .int 0, .int 0, .ref (ad 9), .ref (ad 10), .ref (ad 11), .ref (ad 12), .ref (ad 13), .int 0, .ref (ad 15), .int 0, .ref (ad 17), .ref (ad 18), .int 0])), (ad 0, .inl (cyB, 1600, .inl f374))] := hD
  refine lv_iinc (v := (-8)) (lv' := [(2, .int (-8)), (0, .ref h0), (1, .int a1)]) hx hb dX6_layFour_42 hl (k := 0) rfl (by decide) (by decide) rfl (fun ls hl => ?_)
  refine lv_goto (tgt := 3) hx hb dX6_layFour_45 (by decide) ?_
  refine lv_iload_n hx hb dX6_layFour_3 rfl (lv_at hl 0 rfl) ?_
  refine lv_if_lt (tgt := 48) hx hb dX6_layFour_4 (by decide) (fun _ => ?_) (fun c375 => absurd (by decide) c375)
  exact W.vret hx hb hr (fun t ht hW => ⟨⟨(fun _ => f374), rfl, trivial, cE.of ht hP hD [0, 1] (by decide) rfl⟩, hS.F ht⟩) hS.2.2 dX6_layFour_48
def wo_k_X6_layFour_v9 : List Cond := [.fieldLink RX6 79 "ReplicaChain" "tapeLength" "I", .fieldLink RX6 9 "ReplicaChain" "tape" "[B"]
def wq_k_X6_layFour_v9 : List Cond := .code yX6_layFour cX6_layFour 3 none :: (wo_k_X6_layFour_v9 ++ (wsX60 ++ []))
theorem gd_k_X6_layFour_v9 : Gd wq_k_X6_layFour_v9 := gd_c (gd_a (gd_o (by decide +kernel)) (gd_a gd_u gd_0))
abbrev wc_k_X6_layFour_v9 (cyB cyI cyJ cyZ cyO : ClassId) (h0 : Nat) (ad : Nat → Nat) (u377 : Nat → Nat → Int32) (a1 : Int32) : va_W := [(h0, .inr (6, [.ref (ad 0), .int 16, .ref (ad 2), .ref (ad 3), .ref (ad 4), .ref (ad 5), .ref (ad 6), .int 0, .int 0, .ref (ad 9), .ref (ad 10), .ref (ad 11), .ref (ad 12), .ref (ad 13), .int 0, .ref (ad 15), .int 0, .ref (ad 17), .ref (ad 18), .int 0])), (ad 0, .inl (cyB, 1600, .inl (u377 0)))]
set_option maxHeartbeats 4000000 in
set_option maxRecDepth 100000 in
theorem k_X6_layFour_v9 (l : Launch) (dC : Nat → ClassId) (dI : Nat → Nat → Nat) (cyB cyI cyJ cyZ cyO : ClassId) (h0 : Nat) (ad : Nat → Nat) (u377 : Nat → Nat → Int32) (a1 : Int32) (sz : Nat) : Met l yX6_layFour wq_k_X6_layFour_v9 ({ frames := 0, cells := 0, slots := 0, locals := 0 }) (va_Pc [.ref h0, .int a1] (cB (dC, dI) (kT cyB cyI cyJ cyZ cyO) (wc_k_X6_layFour_v9 cyB cyI cyJ cyZ cyO h0 ad u377 a1) sz)) (va_Qv (fun _ => True) (fun (u : Nat → Nat → Int32) t => cE (dC, dI) (va_A (wc_k_X6_layFour_v9 cyB cyI cyJ cyZ cyO h0 ad u377 a1) sz) ([(h0, .inr (6, [.ref (ad 0), .int 20, .ref (ad 2), .ref (ad 3), .ref (ad 4), .ref (ad 5), .ref (ad 6), .int 0, .int 0, .ref (ad 9), .ref (ad 10), .ref (ad 11), .ref (ad 12), .ref (ad 13), .int 0, .ref (ad 15), .int 0, .ref (ad 17), .ref (ad 18), .int 0])), (ad 0, .inl (cyB, 1600, .inl (u 0)))]) t.heap) (va_A (wc_k_X6_layFour_v9 cyB cyI cyJ cyZ cyO h0 ad u377 a1) sz)) 0 0 (va_A (wc_k_X6_layFour_v9 cyB cyI cyJ cyZ cyO h0 ad u377 a1) sz) := by
  refine Met.ofW (cc := cX6_layFour) (maxL := 3) (ret := none) (by decide) rfl ?_
  intro p e s m args below meth c s₁ B hml hv
  obtain ⟨rfl, hsz, hP, hKN, hD0⟩ := hv
  have hx := B.exec
  have hb := B.bytes
  have hr := B.returns
  have hts := atoms_spec (ws := wq_k_X6_layFour_v9) B.pre
  have hown : s.vm.findClass RX6 = some m.cls := findClass_of_methodNamed B.named
  have hlocks := B.notSynchronized
  have hK := hKN.1
  have hfix : CallFix p m c cX6_layFour 3 s [.ref h0, .int a1].toArray wq_k_X6_layFour_v9 RX6 := ⟨hx, hb, hml, hown, hts⟩
  have hi6 : ∀ w ∈ wsX60, w ∈ wq_k_X6_layFour_v9 := (sb_c sb_l)
  subst hsz
  have hD := hD0.self (sz := s.heap.size)
  generalize hAe : va_A (wc_k_X6_layFour_v9 cyB cyI cyJ cyZ cyO h0 ad u377 a1) s.heap.size = A at hD ⊢
  have hA : ∀ q : Nat, s.heap.size ≤ q → A q := fun q h => by rw [← hAe]; exact Or.inr h
  have hS : va_S A s.heap s.heap [] := va_S.rf
  have hl := lv_entry ([.ref h0, .int a1]) (n := 3) (Nat.le_of_ble_eq_true rfl)
  rw [lg_entry_eq]
  generalize (lg_sl ([.ref h0, .int a1]) ++ List.replicate (3 - (lg_sl ([.ref h0, .int a1])).length) Slot.unset).toArray = ls at hl ⊢
  have hl : lv_has ls 3 [(0, .ref h0), (1, .int a1)] := hl
  refine lv_bipush (v := 24) hx hb dX6_layFour_0 (by decide) ?_
  refine lv_istore_n (lv' := [(2, .int 24), (0, .ref h0), (1, .int a1)]) hx hb dX6_layFour_2 rfl hl (by decide) rfl (fun ls hl => ?_)
  refine lv_iload_n hx hb dX6_layFour_3 rfl (lv_at hl 0 rfl) ?_
  refine lv_if_lt (tgt := 48) hx hb dX6_layFour_4 (by decide) (fun c399 => absurd c399 (by decide)) (fun _ => ?_)
  refine lv_aload_n hx hb dX6_layFour_7 rfl (lv_at hl 1 rfl) ?_
  refine va_get (D := (dC, dI)) (ci := 6) (v := .int 16) (C := RX6) (T := TX6) (N := 20) hx hb hts hi6 hown hK hP 0 rfl rfl 1 (by decide) (hts _ (ow_m (k := 0) rfl)) (fun _ h9 => h9) rfl dX6_layFour_8 ?_
  refine lv_aload_n hx hb dX6_layFour_11 rfl (lv_at hl 1 rfl) ?_
  refine va_get (D := (dC, dI)) (ci := 6) (v := .ref (ad 0)) (C := RX6) (T := TX6) (N := 20) hx hb hts hi6 hown hK hP 0 rfl rfl 0 (by decide) (hts _ (ow_m (k := 1) rfl)) (fun _ h9 => h9) rfl dX6_layFour_12 ?_
  refine va_alen (v := 1600) hx hb hK hP 1 0 rfl rfl rfl dX6_layFour_15 ?_
  refine lv_icmp_ge (tgt := 42) hx hb dX6_layFour_16 (by decide) (fun c400 => absurd c400 (by decide)) (fun _ => ?_)
  refine lv_aload_n hx hb dX6_layFour_19 rfl (lv_at hl 1 rfl) ?_
  refine va_get (D := (dC, dI)) (ci := 6) (v := .ref (ad 0)) (C := RX6) (T := TX6) (N := 20) hx hb hts hi6 hown hK hP 0 rfl rfl 0 (by decide) (hts _ (ow_m (k := 1) rfl)) (fun _ h9 => h9) rfl dX6_layFour_20 ?_
  refine lv_aload_n hx hb dX6_layFour_23 rfl (lv_at hl 1 rfl) ?_
  refine va_get (D := (dC, dI)) (ci := 6) (v := .int 16) (C := RX6) (T := TX6) (N := 20) hx hb hts hi6 hown hK hP 0 rfl rfl 1 (by decide) (hts _ (ow_m (k := 0) rfl)) (fun _ h9 => h9) rfl dX6_layFour_24 ?_
  refine lv_iload_n hx hb dX6_layFour_27 rfl (lv_at hl 2 rfl) ?_
  refine lv_iload_n hx hb dX6_layFour_28 rfl (lv_at hl 0 rfl) ?_
  refine lv_iushr hx hb dX6_layFour_29 rfl ?_
  refine lv_topi (fun z401 ez401 => ?_)
  refine lv_i2b hx hb dX6_layFour_30 rfl ?_
  refine lv_topi (fun z402 ez402 => ?_)
  refine va_bast hx hb hK hP hD hS 1 0 rfl rfl (vp_i (a := 16) (by decide) (by decide) (by decide)) dX6_layFour_31 (fun H locs hP hD hS => ?_)
  have hP : va_P (dC, dI) vwCl [(h0, .inr (6, [.ref (ad 0), .int 16, .ref (ad 2), .ref (ad 3), .ref (ad 4), .ref (ad 5), .ref (ad 6), .int 0, .int 0, .ref (ad 9), .ref (ad 10), .ref (ad 11), .ref (ad 12), .ref (ad 13), .int 0, .ref (ad 15), .int 0, .ref (ad 17), .ref (ad 18), .int 0])), (ad 0, .inl (cyB, 1600, .inl (upd (u377 0) 16 (vp_nar .byte z402))))] H := hP
  have hD : va_D A [(h0, .inr (6, [.ref (ad 0), .int 16, .ref (ad 2), .ref (ad 3), .ref (ad 4), .ref (ad 5), .ref (ad 6), .int 0, .int 0, .ref (ad 9), .ref (ad 10), .ref (ad 11), .ref (ad 12), .ref (ad 13), .int 0, .ref (ad 15), .int 0, .ref (ad 17), .ref (ad 18), .int 0])), (ad 0, .inl (cyB, 1600, .inl (upd (u377 0) 16 (vp_nar .byte z402))))] := hD
  generalize upd (u377 0) 16 (vp_nar .byte z402) = f403 at hP hD
  refine lv_aload_n hx hb dX6_layFour_32 rfl (lv_at hl 1 rfl) ?_
  refine lv_dup hx hb dX6_layFour_33 rfl ?_
  refine va_get (D := (dC, dI)) (ci := 6) (v := .int 16) (C := RX6) (T := TX6) (N := 20) hx hb hts hi6 hown hK hP 0 rfl rfl 1 (by decide) (hts _ (ow_m (k := 0) rfl)) (fun _ h9 => h9) rfl dX6_layFour_34 ?_
  refine lv_iconst (v := 1) hx hb dX6_layFour_37 (by decide) ?_
  refine lv_iadd hx hb dX6_layFour_38 ?_
  refine tp_c (w := 17) (by decide) ?_
  refine va_put (D := (dC, dI)) (ci := 6) (v := .int 17) (ty := .int) (C := RX6) (T := TX6) (N := 20) hx hb hts hi6 tyX6 tyX6_ok nmX6 hown hK hP hD hS 0 rfl rfl 1 (by decide) (hts _ (ow_m (k := 0) rfl)) (fun _ h9 => h9) rfl (by decide +kernel) rfl rfl (Nat.le_of_ble_eq_true rfl) dX6_layFour_39 (fun H locs hP hD hS => ?_)
  have hP : va_P (dC, dI) vwCl [(h0, .inr (6, [.ref (ad 0), .int 17, .ref (ad 2), .ref (ad 3), .ref (ad 4), .ref (ad 5), .ref (ad 6), .int 0, .int 0, .ref (ad 9), .ref (ad 10), .ref (ad 11), .ref (ad 12), .ref (ad 13), .int 0, .ref (ad 15), .int 0, .ref (ad 17), .ref (ad 18), .int 0])), (ad 0, .inl (cyB, 1600, .inl f403))] H := hP
  have hD : va_D A [(h0, .inr (6, [.ref (ad 0), .int 17, .ref (ad 2), .ref (ad 3), .ref (ad 4), .ref (ad 5), .ref (ad 6), .int 0, .int 0, .ref (ad 9), .ref (ad 10), .ref (ad 11), .ref (ad 12), .ref (ad 13), .int 0, .ref (ad 15), .int 0, .ref (ad 17), .ref (ad 18), .int 0])), (ad 0, .inl (cyB, 1600, .inl f403))] := hD
  refine lv_iinc (v := 16) (lv' := [(2, .int 16), (0, .ref h0), (1, .int a1)]) hx hb dX6_layFour_42 hl (k := 0) rfl (by decide) (by decide) rfl (fun ls hl => ?_)
  refine lv_goto (tgt := 3) hx hb dX6_layFour_45 (by decide) ?_
  refine lv_iload_n hx hb dX6_layFour_3 rfl (lv_at hl 0 rfl) ?_
  refine lv_if_lt (tgt := 48) hx hb dX6_layFour_4 (by decide) (fun c404 => absurd c404 (by decide)) (fun _ => ?_)
  refine lv_aload_n hx hb dX6_layFour_7 rfl (lv_at hl 1 rfl) ?_
  refine va_get (D := (dC, dI)) (ci := 6) (v := .int 17) (C := RX6) (T := TX6) (N := 20) hx hb hts hi6 hown hK hP 0 rfl rfl 1 (by decide) (hts _ (ow_m (k := 0) rfl)) (fun _ h9 => h9) rfl dX6_layFour_8 ?_
  refine lv_aload_n hx hb dX6_layFour_11 rfl (lv_at hl 1 rfl) ?_
  refine va_get (D := (dC, dI)) (ci := 6) (v := .ref (ad 0)) (C := RX6) (T := TX6) (N := 20) hx hb hts hi6 hown hK hP 0 rfl rfl 0 (by decide) (hts _ (ow_m (k := 1) rfl)) (fun _ h9 => h9) rfl dX6_layFour_12 ?_
  refine va_alen (v := 1600) hx hb hK hP 1 0 rfl rfl rfl dX6_layFour_15 ?_
  refine lv_icmp_ge (tgt := 42) hx hb dX6_layFour_16 (by decide) (fun c405 => absurd c405 (by decide)) (fun _ => ?_)
  refine lv_aload_n hx hb dX6_layFour_19 rfl (lv_at hl 1 rfl) ?_
  refine va_get (D := (dC, dI)) (ci := 6) (v := .ref (ad 0)) (C := RX6) (T := TX6) (N := 20) hx hb hts hi6 hown hK hP 0 rfl rfl 0 (by decide) (hts _ (ow_m (k := 1) rfl)) (fun _ h9 => h9) rfl dX6_layFour_20 ?_
  refine lv_aload_n hx hb dX6_layFour_23 rfl (lv_at hl 1 rfl) ?_
  refine va_get (D := (dC, dI)) (ci := 6) (v := .int 17) (C := RX6) (T := TX6) (N := 20) hx hb hts hi6 hown hK hP 0 rfl rfl 1 (by decide) (hts _ (ow_m (k := 0) rfl)) (fun _ h9 => h9) rfl dX6_layFour_24 ?_
  refine lv_iload_n hx hb dX6_layFour_27 rfl (lv_at hl 2 rfl) ?_
  refine lv_iload_n hx hb dX6_layFour_28 rfl (lv_at hl 0 rfl) ?_
  refine lv_iushr hx hb dX6_layFour_29 rfl ?_
  refine lv_topi (fun z406 ez406 => ?_)
  refine lv_i2b hx hb dX6_layFour_30 rfl ?_
  refine lv_topi (fun z407 ez407 => ?_)
  refine va_bast hx hb hK hP hD hS 1 0 rfl rfl (vp_i (a := 17) (by decide) (by decide) (by decide)) dX6_layFour_31 (fun H locs hP hD hS => ?_)
  have hP : va_P (dC, dI) vwCl [(h0, .inr (6, [.ref (ad 0), .int 17, .ref (ad 2), .ref (ad 3), .ref (ad 4), .ref (ad 5), .ref (ad 6), .int 0, .int 0, .ref (ad 9), .ref (ad 10), .ref (ad 11), .ref (ad 12), .ref (ad 13), .int 0, .ref (ad 15), .int 0, .ref (ad 17), .ref (ad 18), .int 0])), (ad 0, .inl (cyB, 1600, .inl (upd f403 17 (vp_nar .byte z407))))] H := hP
  have hD : va_D A [(h0, .inr (6, [.ref (ad 0), .int 17, .ref (ad 2), .ref (ad 3), .ref (ad 4), .ref (ad 5), .ref (ad 6), .int 0, .int 0, .ref (ad 9), .ref (ad 10), .ref (ad 11), .ref (ad 12), .ref (ad 13), .int 0, .ref (ad 15), .int 0, .ref (ad 17), .ref (ad 18), .int 0])), (ad 0, .inl (cyB, 1600, .inl (upd f403 17 (vp_nar .byte z407))))] := hD
  generalize upd f403 17 (vp_nar .byte z407) = f408 at hP hD
  refine lv_aload_n hx hb dX6_layFour_32 rfl (lv_at hl 1 rfl) ?_
  refine lv_dup hx hb dX6_layFour_33 rfl ?_
  refine va_get (D := (dC, dI)) (ci := 6) (v := .int 17) (C := RX6) (T := TX6) (N := 20) hx hb hts hi6 hown hK hP 0 rfl rfl 1 (by decide) (hts _ (ow_m (k := 0) rfl)) (fun _ h9 => h9) rfl dX6_layFour_34 ?_
  refine lv_iconst (v := 1) hx hb dX6_layFour_37 (by decide) ?_
  refine lv_iadd hx hb dX6_layFour_38 ?_
  refine tp_c (w := 18) (by decide) ?_
  refine va_put (D := (dC, dI)) (ci := 6) (v := .int 18) (ty := .int) (C := RX6) (T := TX6) (N := 20) hx hb hts hi6 tyX6 tyX6_ok nmX6 hown hK hP hD hS 0 rfl rfl 1 (by decide) (hts _ (ow_m (k := 0) rfl)) (fun _ h9 => h9) rfl (by decide +kernel) rfl rfl (Nat.le_of_ble_eq_true rfl) dX6_layFour_39 (fun H locs hP hD hS => ?_)
  have hP : va_P (dC, dI) vwCl [(h0, .inr (6, [.ref (ad 0), .int 18, .ref (ad 2), .ref (ad 3), .ref (ad 4), .ref (ad 5), .ref (ad 6), .int 0, .int 0, .ref (ad 9), .ref (ad 10), .ref (ad 11), .ref (ad 12), .ref (ad 13), .int 0, .ref (ad 15), .int 0, .ref (ad 17), .ref (ad 18), .int 0])), (ad 0, .inl (cyB, 1600, .inl f408))] H := hP
  have hD : va_D A [(h0, .inr (6, [.ref (ad 0), .int 18, .ref (ad 2), .ref (ad 3), .ref (ad 4), .ref (ad 5), .ref (ad 6), .int 0, .int 0, .ref (ad 9), .ref (ad 10), .ref (ad 11), .ref (ad 12), .ref (ad 13), .int 0, .ref (ad 15), .int 0, .ref (ad 17), .ref (ad 18), .int 0])), (ad 0, .inl (cyB, 1600, .inl f408))] := hD
  refine lv_iinc (v := 8) (lv' := [(2, .int 8), (0, .ref h0), (1, .int a1)]) hx hb dX6_layFour_42 hl (k := 0) rfl (by decide) (by decide) rfl (fun ls hl => ?_)
  refine lv_goto (tgt := 3) hx hb dX6_layFour_45 (by decide) ?_
  refine lv_iload_n hx hb dX6_layFour_3 rfl (lv_at hl 0 rfl) ?_
  refine lv_if_lt (tgt := 48) hx hb dX6_layFour_4 (by decide) (fun c409 => absurd c409 (by decide)) (fun _ => ?_)
  refine lv_aload_n hx hb dX6_layFour_7 rfl (lv_at hl 1 rfl) ?_
  refine va_get (D := (dC, dI)) (ci := 6) (v := .int 18) (C := RX6) (T := TX6) (N := 20) hx hb hts hi6 hown hK hP 0 rfl rfl 1 (by decide) (hts _ (ow_m (k := 0) rfl)) (fun _ h9 => h9) rfl dX6_layFour_8 ?_
  refine lv_aload_n hx hb dX6_layFour_11 rfl (lv_at hl 1 rfl) ?_
  refine va_get (D := (dC, dI)) (ci := 6) (v := .ref (ad 0)) (C := RX6) (T := TX6) (N := 20) hx hb hts hi6 hown hK hP 0 rfl rfl 0 (by decide) (hts _ (ow_m (k := 1) rfl)) (fun _ h9 => h9) rfl dX6_layFour_12 ?_
  refine va_alen (v := 1600) hx hb hK hP 1 0 rfl rfl rfl dX6_layFour_15 ?_
  refine lv_icmp_ge (tgt := 42) hx hb dX6_layFour_16 (by decide) (fun c410 => absurd c410 (by decide)) (fun _ => ?_)
  refine lv_aload_n hx hb dX6_layFour_19 rfl (lv_at hl 1 rfl) ?_
  refine va_get (D := (dC, dI)) (ci := 6) (v := .ref (ad 0)) (C := RX6) (T := TX6) (N := 20) hx hb hts hi6 hown hK hP 0 rfl rfl 0 (by decide) (hts _ (ow_m (k := 1) rfl)) (fun _ h9 => h9) rfl dX6_layFour_20 ?_
  refine lv_aload_n hx hb dX6_layFour_23 rfl (lv_at hl 1 rfl) ?_
  refine va_get (D := (dC, dI)) (ci := 6) (v := .int 18) (C := RX6) (T := TX6) (N := 20) hx hb hts hi6 hown hK hP 0 rfl rfl 1 (by decide) (hts _ (ow_m (k := 0) rfl)) (fun _ h9 => h9) rfl dX6_layFour_24 ?_
  refine lv_iload_n hx hb dX6_layFour_27 rfl (lv_at hl 2 rfl) ?_
  refine lv_iload_n hx hb dX6_layFour_28 rfl (lv_at hl 0 rfl) ?_
  refine lv_iushr hx hb dX6_layFour_29 rfl ?_
  refine lv_topi (fun z411 ez411 => ?_)
  refine lv_i2b hx hb dX6_layFour_30 rfl ?_
  refine lv_topi (fun z412 ez412 => ?_)
  refine va_bast hx hb hK hP hD hS 1 0 rfl rfl (vp_i (a := 18) (by decide) (by decide) (by decide)) dX6_layFour_31 (fun H locs hP hD hS => ?_)
  have hP : va_P (dC, dI) vwCl [(h0, .inr (6, [.ref (ad 0), .int 18, .ref (ad 2), .ref (ad 3), .ref (ad 4), .ref (ad 5), .ref (ad 6), .int 0, .int 0, .ref (ad 9), .ref (ad 10), .ref (ad 11), .ref (ad 12), .ref (ad 13), .int 0, .ref (ad 15), .int 0, .ref (ad 17), .ref (ad 18), .int 0])), (ad 0, .inl (cyB, 1600, .inl (upd f408 18 (vp_nar .byte z412))))] H := hP
  have hD : va_D A [(h0, .inr (6, [.ref (ad 0), .int 18, .ref (ad 2), .ref (ad 3), .ref (ad 4), .ref (ad 5), .ref (ad 6), .int 0, .int 0, .ref (ad 9), .ref (ad 10), .ref (ad 11), .ref (ad 12), .ref (ad 13), .int 0, .ref (ad 15), .int 0, .ref (ad 17), .ref (ad 18), .int 0])), (ad 0, .inl (cyB, 1600, .inl (upd f408 18 (vp_nar .byte z412))))] := hD
  generalize upd f408 18 (vp_nar .byte z412) = f413 at hP hD
  refine lv_aload_n hx hb dX6_layFour_32 rfl (lv_at hl 1 rfl) ?_
  refine lv_dup hx hb dX6_layFour_33 rfl ?_
  refine va_get (D := (dC, dI)) (ci := 6) (v := .int 18) (C := RX6) (T := TX6) (N := 20) hx hb hts hi6 hown hK hP 0 rfl rfl 1 (by decide) (hts _ (ow_m (k := 0) rfl)) (fun _ h9 => h9) rfl dX6_layFour_34 ?_
  refine lv_iconst (v := 1) hx hb dX6_layFour_37 (by decide) ?_
  refine lv_iadd hx hb dX6_layFour_38 ?_
  refine tp_c (w := 19) (by decide) ?_
  refine va_put (D := (dC, dI)) (ci := 6) (v := .int 19) (ty := .int) (C := RX6) (T := TX6) (N := 20) hx hb hts hi6 tyX6 tyX6_ok nmX6 hown hK hP hD hS 0 rfl rfl 1 (by decide) (hts _ (ow_m (k := 0) rfl)) (fun _ h9 => h9) rfl (by decide +kernel) rfl rfl (Nat.le_of_ble_eq_true rfl) dX6_layFour_39 (fun H locs hP hD hS => ?_)
  have hP : va_P (dC, dI) vwCl [(h0, .inr (6, [.ref (ad 0), .int 19, .ref (ad 2), .ref (ad 3), .ref (ad 4), .ref (ad 5), .ref (ad 6), .int 0, .int 0, .ref (ad 9), .ref (ad 10), .ref (ad 11), .ref (ad 12), .ref (ad 13), .int 0, .ref (ad 15), .int 0, .ref (ad 17), .ref (ad 18), .int 0])), (ad 0, .inl (cyB, 1600, .inl f413))] H := hP
  have hD : va_D A [(h0, .inr (6, [.ref (ad 0), .int 19, .ref (ad 2), .ref (ad 3), .ref (ad 4), .ref (ad 5), .ref (ad 6), .int 0, .int 0, .ref (ad 9), .ref (ad 10), .ref (ad 11), .ref (ad 12), .ref (ad 13), .int 0, .ref (ad 15), .int 0, .ref (ad 17), .ref (ad 18), .int 0])), (ad 0, .inl (cyB, 1600, .inl f413))] := hD
  refine lv_iinc (v := 0) (lv' := [(2, .int 0), (0, .ref h0), (1, .int a1)]) hx hb dX6_layFour_42 hl (k := 0) rfl (by decide) (by decide) rfl (fun ls hl => ?_)
  refine lv_goto (tgt := 3) hx hb dX6_layFour_45 (by decide) ?_
  refine lv_iload_n hx hb dX6_layFour_3 rfl (lv_at hl 0 rfl) ?_
  refine lv_if_lt (tgt := 48) hx hb dX6_layFour_4 (by decide) (fun c414 => absurd c414 (by decide)) (fun _ => ?_)
  refine lv_aload_n hx hb dX6_layFour_7 rfl (lv_at hl 1 rfl) ?_
  refine va_get (D := (dC, dI)) (ci := 6) (v := .int 19) (C := RX6) (T := TX6) (N := 20) hx hb hts hi6 hown hK hP 0 rfl rfl 1 (by decide) (hts _ (ow_m (k := 0) rfl)) (fun _ h9 => h9) rfl dX6_layFour_8 ?_
  refine lv_aload_n hx hb dX6_layFour_11 rfl (lv_at hl 1 rfl) ?_
  refine va_get (D := (dC, dI)) (ci := 6) (v := .ref (ad 0)) (C := RX6) (T := TX6) (N := 20) hx hb hts hi6 hown hK hP 0 rfl rfl 0 (by decide) (hts _ (ow_m (k := 1) rfl)) (fun _ h9 => h9) rfl dX6_layFour_12 ?_
  refine va_alen (v := 1600) hx hb hK hP 1 0 rfl rfl rfl dX6_layFour_15 ?_
  refine lv_icmp_ge (tgt := 42) hx hb dX6_layFour_16 (by decide) (fun c415 => absurd c415 (by decide)) (fun _ => ?_)
  refine lv_aload_n hx hb dX6_layFour_19 rfl (lv_at hl 1 rfl) ?_
  refine va_get (D := (dC, dI)) (ci := 6) (v := .ref (ad 0)) (C := RX6) (T := TX6) (N := 20) hx hb hts hi6 hown hK hP 0 rfl rfl 0 (by decide) (hts _ (ow_m (k := 1) rfl)) (fun _ h9 => h9) rfl dX6_layFour_20 ?_
  refine lv_aload_n hx hb dX6_layFour_23 rfl (lv_at hl 1 rfl) ?_
  refine va_get (D := (dC, dI)) (ci := 6) (v := .int 19) (C := RX6) (T := TX6) (N := 20) hx hb hts hi6 hown hK hP 0 rfl rfl 1 (by decide) (hts _ (ow_m (k := 0) rfl)) (fun _ h9 => h9) rfl dX6_layFour_24 ?_
  refine lv_iload_n hx hb dX6_layFour_27 rfl (lv_at hl 2 rfl) ?_
  refine lv_iload_n hx hb dX6_layFour_28 rfl (lv_at hl 0 rfl) ?_
  refine lv_iushr hx hb dX6_layFour_29 rfl ?_
  refine lv_topi (fun z416 ez416 => ?_)
  refine lv_i2b hx hb dX6_layFour_30 rfl ?_
  refine lv_topi (fun z417 ez417 => ?_)
  refine va_bast hx hb hK hP hD hS 1 0 rfl rfl (vp_i (a := 19) (by decide) (by decide) (by decide)) dX6_layFour_31 (fun H locs hP hD hS => ?_)
  have hP : va_P (dC, dI) vwCl [(h0, .inr (6, [.ref (ad 0), .int 19, .ref (ad 2), .ref (ad 3), .ref (ad 4), .ref (ad 5), .ref (ad 6), .int 0, .int 0, .ref (ad 9), .ref (ad 10), .ref (ad 11), .ref (ad 12), .ref (ad 13), .int 0, .ref (ad 15), .int 0, .ref (ad 17), .ref (ad 18), .int 0])), (ad 0, .inl (cyB, 1600, .inl (upd f413 19 (vp_nar .byte z417))))] H := hP
  have hD : va_D A [(h0, .inr (6, [.ref (ad 0), .int 19, .ref (ad 2), .ref (ad 3), .ref (ad 4), .ref (ad 5), .ref (ad 6), .int 0, .int 0, .ref (ad 9), .ref (ad 10), .ref (ad 11), .ref (ad 12), .ref (ad 13), .int 0, .ref (ad 15), .int 0, .ref (ad 17), .ref (ad 18), .int 0])), (ad 0, .inl (cyB, 1600, .inl (upd f413 19 (vp_nar .byte z417))))] := hD
  generalize upd f413 19 (vp_nar .byte z417) = f418 at hP hD
  refine lv_aload_n hx hb dX6_layFour_32 rfl (lv_at hl 1 rfl) ?_
  refine lv_dup hx hb dX6_layFour_33 rfl ?_
  refine va_get (D := (dC, dI)) (ci := 6) (v := .int 19) (C := RX6) (T := TX6) (N := 20) hx hb hts hi6 hown hK hP 0 rfl rfl 1 (by decide) (hts _ (ow_m (k := 0) rfl)) (fun _ h9 => h9) rfl dX6_layFour_34 ?_
  refine lv_iconst (v := 1) hx hb dX6_layFour_37 (by decide) ?_
  refine lv_iadd hx hb dX6_layFour_38 ?_
  refine tp_c (w := 20) (by decide) ?_
  refine va_put (D := (dC, dI)) (ci := 6) (v := .int 20) (ty := .int) (C := RX6) (T := TX6) (N := 20) hx hb hts hi6 tyX6 tyX6_ok nmX6 hown hK hP hD hS 0 rfl rfl 1 (by decide) (hts _ (ow_m (k := 0) rfl)) (fun _ h9 => h9) rfl (by decide +kernel) rfl rfl (Nat.le_of_ble_eq_true rfl) dX6_layFour_39 (fun H locs hP hD hS => ?_)
  have hP : va_P (dC, dI) vwCl [(h0, .inr (6, [.ref (ad 0), .int 20, .ref (ad 2), .ref (ad 3), .ref (ad 4), .ref (ad 5), .ref (ad 6), .int 0, .int 0, .ref (ad 9), .ref (ad 10), .ref (ad 11), .ref (ad 12), .ref (ad 13), .int 0, .ref (ad 15), .int 0, .ref (ad 17), .ref (ad 18), .int 0])), (ad 0, .inl (cyB, 1600, .inl f418))] H := hP
  have hD : va_D A [(h0, .inr (6, [.ref (ad 0), .int 20, .ref (ad 2), .ref (ad 3), .ref (ad 4), .ref (ad 5), .ref (ad 6), .int 0, .int 0, .ref (ad 9), .ref (ad 10), .ref (ad 11), .ref (ad 12), .ref (ad 13), .int 0, .ref (ad 15), .int 0, .ref (ad 17), .ref (ad 18), .int 0])), (ad 0, .inl (cyB, 1600, .inl f418))] := hD
  refine lv_iinc (v := (-8)) (lv' := [(2, .int (-8)), (0, .ref h0), (1, .int a1)]) hx hb dX6_layFour_42 hl (k := 0) rfl (by decide) (by decide) rfl (fun ls hl => ?_)
  refine lv_goto (tgt := 3) hx hb dX6_layFour_45 (by decide) ?_
  refine lv_iload_n hx hb dX6_layFour_3 rfl (lv_at hl 0 rfl) ?_
  refine lv_if_lt (tgt := 48) hx hb dX6_layFour_4 (by decide) (fun _ => ?_) (fun c419 => absurd (by decide) c419)
  exact W.vret hx hb hr (fun t ht hW => ⟨⟨(fun _ => f418), rfl, trivial, cE.of ht hP hD [0, 1] (by decide) rfl⟩, hS.F ht⟩) hS.2.2 dX6_layFour_48
def wo_c_C_feed : List Cond := [.fieldLink RX6 79 "ReplicaChain" "tapeLength" "I", .methodLink RX6 83 yX6_layFour, .instanceMethod yX6_layFour, .selects RX6 yX6_layFour yX6_layFour, .initialized RX6]
def wq_c_C_feed : List Cond := .code yX6_feed cX6_feed 6 (some .int) :: (wo_c_C_feed ++ (wq_k_X6_layFour ++ (wq_k_X6_layFour_v6 ++ (wq_k_X6_layFour_v7 ++ (wq_k_X6_layFour_v8 ++ (wq_k_X6_layFour_v9 ++ (wsX60 ++ [])))))))
theorem gd_c_C_feed : Gd wq_c_C_feed := gd_c (gd_a (gd_o (by decide +kernel)) (gd_a gd_k_X6_layFour (gd_a gd_k_X6_layFour_v6 (gd_a gd_k_X6_layFour_v7 (gd_a gd_k_X6_layFour_v8 (gd_a gd_k_X6_layFour_v9 (gd_a gd_u gd_0)))))))
abbrev wc_c_C_feed (cyB cyI cyJ cyZ cyO : ClassId) (h0 : Nat) (ad : Nat → Nat) (x1 : Int32) (x2 : Int32) (x3 : Int32) (x4 : Int32) (x5 : Int32) : va_W := [(h0, .inr (6, [.ref (ad 0), .int 0, .ref (ad 2), .ref (ad 3), .ref (ad 4), .ref (ad 5), .ref (ad 6), .int 0, .int 0, .ref (ad 9), .ref (ad 10), .ref (ad 11), .ref (ad 12), .ref (ad 13), .int 0, .ref (ad 15), .int 0, .ref (ad 17), .ref (ad 18), .int 0])), (ad 0, .inl (cyB, 1600, .inl (fun _ => 0)))]
set_option maxHeartbeats 4000000 in
set_option maxRecDepth 100000 in
theorem c_C_feed (l : Launch) (dC : Nat → ClassId) (dI : Nat → Nat → Nat) (cyB cyI cyJ cyZ cyO : ClassId) (h0 : Nat) (ad : Nat → Nat) (x1 : Int32) (x2 : Int32) (x3 : Int32) (x4 : Int32) (x5 : Int32) (sz : Nat) : Met l yX6_feed wq_c_C_feed ({ frames := 1, cells := 0, slots := 0, locals := 22 }) (va_Pc [.ref h0, .int x1, .int x2, .int x3, .int x4, .int x5] (cB (dC, dI) (kT cyB cyI cyJ cyZ cyO) (wc_c_C_feed cyB cyI cyJ cyZ cyO h0 ad x1 x2 x3 x4 x5) sz)) (va_Qi (fun (r : Int32) (_ : Unit) => r = 20) (fun (u : Unit) t => cE (dC, dI) (va_A (wc_c_C_feed cyB cyI cyJ cyZ cyO h0 ad x1 x2 x3 x4 x5) sz) ([]) t.heap) (va_A (wc_c_C_feed cyB cyI cyJ cyZ cyO h0 ad x1 x2 x3 x4 x5) sz)) 0 0 (va_A (wc_c_C_feed cyB cyI cyJ cyZ cyO h0 ad x1 x2 x3 x4 x5) sz) := by
  refine Met.ofW (cc := cX6_feed) (maxL := 6) (ret := (some .int)) (by decide) rfl ?_
  intro p e s m args below meth c s₁ B hml hv
  obtain ⟨rfl, hsz, hP, hKN, hD0⟩ := hv
  have hx := B.exec
  have hb := B.bytes
  have hr := B.returns
  have hts := atoms_spec (ws := wq_c_C_feed) B.pre
  have hown : s.vm.findClass RX6 = some m.cls := findClass_of_methodNamed B.named
  have hlocks := B.notSynchronized
  have hK := hKN.1
  have hfix : CallFix p m c cX6_feed 6 s [.ref h0, .int x1, .int x2, .int x3, .int x4, .int x5].toArray wq_c_C_feed RX6 := ⟨hx, hb, hml, hown, hts⟩
  have hi6 : ∀ w ∈ wsX60, w ∈ wq_c_C_feed := (sb_c (sb_r (sb_r (sb_r (sb_r (sb_r sb_l))))))
  subst hsz
  have hD := hD0.self (sz := s.heap.size)
  generalize hAe : va_A (wc_c_C_feed cyB cyI cyJ cyZ cyO h0 ad x1 x2 x3 x4 x5) s.heap.size = A at hD ⊢
  have hA : ∀ q : Nat, s.heap.size ≤ q → A q := fun q h => by rw [← hAe]; exact Or.inr h
  have hS : va_S A s.heap s.heap [] := va_S.rf
  have hl := lv_entry ([.ref h0, .int x1, .int x2, .int x3, .int x4, .int x5]) (n := 6) (Nat.le_of_ble_eq_true rfl)
  rw [lg_entry_eq]
  generalize (lg_sl ([.ref h0, .int x1, .int x2, .int x3, .int x4, .int x5]) ++ List.replicate (6 - (lg_sl ([.ref h0, .int x1, .int x2, .int x3, .int x4, .int x5])).length) Slot.unset).toArray = ls at hl ⊢
  have hl : lv_has ls 6 [(0, .ref h0), (1, .int x1), (2, .int x2), (3, .int x3), (4, .int x4), (5, .int x5)] := hl
  refine lv_aload_n hx hb dX6_feed_0 rfl (lv_at hl 0 rfl) ?_
  refine va_get (D := (dC, dI)) (ci := 6) (v := .int 0) (C := RX6) (T := TX6) (N := 20) hx hb hts hi6 hown hK hP 0 rfl rfl 1 (by decide) (hts _ (ow_m (k := 0) rfl)) (fun _ h9 => h9) rfl dX6_feed_1 ?_
  refine lv_bipush (v := 20) hx hb dX6_feed_4 (by decide) ?_
  refine lv_iadd hx hb dX6_feed_6 ?_
  refine tp_c (w := 20) (by decide) ?_
  refine lv_sipush (v := 1600) hx hb dX6_feed_7 (by decide) ?_
  refine lv_icmp_le (tgt := 15) hx hb dX6_feed_10 (by decide) (fun _ => ?_) (fun c222 => absurd (by decide) c222)
  refine lv_aload_n hx hb dX6_feed_15 rfl (lv_at hl 0 rfl) ?_
  refine lv_iload_n hx hb dX6_feed_16 rfl (lv_at hl 1 rfl) ?_
  refine gf_v (wr := []) (va_runV (As := [.int x1]) (rest := []) hfix (k_X6_layFour l dC dI cyB cyI cyJ cyZ cyO h0 ad x1 _) (cwV 1 hts (gi_V (ow_m (k := 1) rfl) (ow_m (k := 2) rfl) (ow_m (k := 3) rfl) (ow_m (k := 4) rfl) (sb_c sb_l) gd_k_X6_layFour) rfl rfl rfl (by decide +kernel) ⟨Nat.le_of_ble_eq_true rfl, Nat.le_of_ble_eq_true rfl⟩) (g_preV hKN hP hD [0, 1] rfl (by decide) 0 6 rfl rfl) rfl rfl hl.1 rfl (lv_room (Nat.le_of_ble_eq_true rfl)) dX6_feed_17 ⟨Nat.le_of_ble_eq_true rfl, Nat.le_of_ble_eq_true rfl⟩) hP hD hS hA [0, 1] [] rfl rfl (by decide) (by decide) (fun u245 H locs qu245 hP hD hS => ?_)
  have hP : va_P (dC, dI) vwCl [(h0, .inr (6, [.ref (ad 0), .int 4, .ref (ad 2), .ref (ad 3), .ref (ad 4), .ref (ad 5), .ref (ad 6), .int 0, .int 0, .ref (ad 9), .ref (ad 10), .ref (ad 11), .ref (ad 12), .ref (ad 13), .int 0, .ref (ad 15), .int 0, .ref (ad 17), .ref (ad 18), .int 0])), (ad 0, .inl (cyB, 1600, .inl (u245 0)))] H := hP
  have hD : va_D A [(h0, .inr (6, [.ref (ad 0), .int 4, .ref (ad 2), .ref (ad 3), .ref (ad 4), .ref (ad 5), .ref (ad 6), .int 0, .int 0, .ref (ad 9), .ref (ad 10), .ref (ad 11), .ref (ad 12), .ref (ad 13), .int 0, .ref (ad 15), .int 0, .ref (ad 17), .ref (ad 18), .int 0])), (ad 0, .inl (cyB, 1600, .inl (u245 0)))] := hD
  refine lv_aload_n hx hb dX6_feed_20 rfl (lv_at hl 0 rfl) ?_
  refine lv_iload_n hx hb dX6_feed_21 rfl (lv_at hl 2 rfl) ?_
  refine gf_v (wr := []) (va_runV (As := [.int x2]) (rest := []) hfix (k_X6_layFour_v6 l dC dI cyB cyI cyJ cyZ cyO h0 ad u245 x2 _) (cwV 1 hts (gi_V (ow_m (k := 1) rfl) (ow_m (k := 2) rfl) (ow_m (k := 3) rfl) (ow_m (k := 4) rfl) (sb_c (sb_r sb_l)) gd_k_X6_layFour_v6) rfl rfl rfl (by decide +kernel) ⟨Nat.le_of_ble_eq_true rfl, Nat.le_of_ble_eq_true rfl⟩) (g_preV hKN hP hD [0, 1] rfl (by decide) 0 6 rfl rfl) rfl rfl hl.1 rfl (lv_room (Nat.le_of_ble_eq_true rfl)) dX6_feed_22 ⟨Nat.le_of_ble_eq_true rfl, Nat.le_of_ble_eq_true rfl⟩) hP hD hS hA [0, 1] [] rfl rfl (by decide) (by decide) (fun u289 H locs qu289 hP hD hS => ?_)
  have hP : va_P (dC, dI) vwCl [(h0, .inr (6, [.ref (ad 0), .int 8, .ref (ad 2), .ref (ad 3), .ref (ad 4), .ref (ad 5), .ref (ad 6), .int 0, .int 0, .ref (ad 9), .ref (ad 10), .ref (ad 11), .ref (ad 12), .ref (ad 13), .int 0, .ref (ad 15), .int 0, .ref (ad 17), .ref (ad 18), .int 0])), (ad 0, .inl (cyB, 1600, .inl (u289 0)))] H := hP
  have hD : va_D A [(h0, .inr (6, [.ref (ad 0), .int 8, .ref (ad 2), .ref (ad 3), .ref (ad 4), .ref (ad 5), .ref (ad 6), .int 0, .int 0, .ref (ad 9), .ref (ad 10), .ref (ad 11), .ref (ad 12), .ref (ad 13), .int 0, .ref (ad 15), .int 0, .ref (ad 17), .ref (ad 18), .int 0])), (ad 0, .inl (cyB, 1600, .inl (u289 0)))] := hD
  refine lv_aload_n hx hb dX6_feed_25 rfl (lv_at hl 0 rfl) ?_
  refine lv_iload_n hx hb dX6_feed_26 rfl (lv_at hl 3 rfl) ?_
  refine gf_v (wr := []) (va_runV (As := [.int x3]) (rest := []) hfix (k_X6_layFour_v7 l dC dI cyB cyI cyJ cyZ cyO h0 ad u289 x3 _) (cwV 1 hts (gi_V (ow_m (k := 1) rfl) (ow_m (k := 2) rfl) (ow_m (k := 3) rfl) (ow_m (k := 4) rfl) (sb_c (sb_r (sb_r sb_l))) gd_k_X6_layFour_v7) rfl rfl rfl (by decide +kernel) ⟨Nat.le_of_ble_eq_true rfl, Nat.le_of_ble_eq_true rfl⟩) (g_preV hKN hP hD [0, 1] rfl (by decide) 0 6 rfl rfl) rfl rfl hl.1 rfl (lv_room (Nat.le_of_ble_eq_true rfl)) dX6_feed_27 ⟨Nat.le_of_ble_eq_true rfl, Nat.le_of_ble_eq_true rfl⟩) hP hD hS hA [0, 1] [] rfl rfl (by decide) (by decide) (fun u333 H locs qu333 hP hD hS => ?_)
  have hP : va_P (dC, dI) vwCl [(h0, .inr (6, [.ref (ad 0), .int 12, .ref (ad 2), .ref (ad 3), .ref (ad 4), .ref (ad 5), .ref (ad 6), .int 0, .int 0, .ref (ad 9), .ref (ad 10), .ref (ad 11), .ref (ad 12), .ref (ad 13), .int 0, .ref (ad 15), .int 0, .ref (ad 17), .ref (ad 18), .int 0])), (ad 0, .inl (cyB, 1600, .inl (u333 0)))] H := hP
  have hD : va_D A [(h0, .inr (6, [.ref (ad 0), .int 12, .ref (ad 2), .ref (ad 3), .ref (ad 4), .ref (ad 5), .ref (ad 6), .int 0, .int 0, .ref (ad 9), .ref (ad 10), .ref (ad 11), .ref (ad 12), .ref (ad 13), .int 0, .ref (ad 15), .int 0, .ref (ad 17), .ref (ad 18), .int 0])), (ad 0, .inl (cyB, 1600, .inl (u333 0)))] := hD
  refine lv_aload_n hx hb dX6_feed_30 rfl (lv_at hl 0 rfl) ?_
  refine lv_iload hx hb dX6_feed_31 (lv_at hl 4 rfl) ?_
  refine gf_v (wr := []) (va_runV (As := [.int x4]) (rest := []) hfix (k_X6_layFour_v8 l dC dI cyB cyI cyJ cyZ cyO h0 ad u333 x4 _) (cwV 1 hts (gi_V (ow_m (k := 1) rfl) (ow_m (k := 2) rfl) (ow_m (k := 3) rfl) (ow_m (k := 4) rfl) (sb_c (sb_r (sb_r (sb_r sb_l)))) gd_k_X6_layFour_v8) rfl rfl rfl (by decide +kernel) ⟨Nat.le_of_ble_eq_true rfl, Nat.le_of_ble_eq_true rfl⟩) (g_preV hKN hP hD [0, 1] rfl (by decide) 0 6 rfl rfl) rfl rfl hl.1 rfl (lv_room (Nat.le_of_ble_eq_true rfl)) dX6_feed_33 ⟨Nat.le_of_ble_eq_true rfl, Nat.le_of_ble_eq_true rfl⟩) hP hD hS hA [0, 1] [] rfl rfl (by decide) (by decide) (fun u377 H locs qu377 hP hD hS => ?_)
  have hP : va_P (dC, dI) vwCl [(h0, .inr (6, [.ref (ad 0), .int 16, .ref (ad 2), .ref (ad 3), .ref (ad 4), .ref (ad 5), .ref (ad 6), .int 0, .int 0, .ref (ad 9), .ref (ad 10), .ref (ad 11), .ref (ad 12), .ref (ad 13), .int 0, .ref (ad 15), .int 0, .ref (ad 17), .ref (ad 18), .int 0])), (ad 0, .inl (cyB, 1600, .inl (u377 0)))] H := hP
  have hD : va_D A [(h0, .inr (6, [.ref (ad 0), .int 16, .ref (ad 2), .ref (ad 3), .ref (ad 4), .ref (ad 5), .ref (ad 6), .int 0, .int 0, .ref (ad 9), .ref (ad 10), .ref (ad 11), .ref (ad 12), .ref (ad 13), .int 0, .ref (ad 15), .int 0, .ref (ad 17), .ref (ad 18), .int 0])), (ad 0, .inl (cyB, 1600, .inl (u377 0)))] := hD
  refine lv_aload_n hx hb dX6_feed_36 rfl (lv_at hl 0 rfl) ?_
  refine lv_iload hx hb dX6_feed_37 (lv_at hl 5 rfl) ?_
  refine gf_v (wr := []) (va_runV (As := [.int x5]) (rest := []) hfix (k_X6_layFour_v9 l dC dI cyB cyI cyJ cyZ cyO h0 ad u377 x5 _) (cwV 1 hts (gi_V (ow_m (k := 1) rfl) (ow_m (k := 2) rfl) (ow_m (k := 3) rfl) (ow_m (k := 4) rfl) (sb_c (sb_r (sb_r (sb_r (sb_r sb_l))))) gd_k_X6_layFour_v9) rfl rfl rfl (by decide +kernel) ⟨Nat.le_of_ble_eq_true rfl, Nat.le_of_ble_eq_true rfl⟩) (g_preV hKN hP hD [0, 1] rfl (by decide) 0 6 rfl rfl) rfl rfl hl.1 rfl (lv_room (Nat.le_of_ble_eq_true rfl)) dX6_feed_39 ⟨Nat.le_of_ble_eq_true rfl, Nat.le_of_ble_eq_true rfl⟩) hP hD hS hA [0, 1] [] rfl rfl (by decide) (by decide) (fun u421 H locs qu421 hP hD hS => ?_)
  have hP : va_P (dC, dI) vwCl [(h0, .inr (6, [.ref (ad 0), .int 20, .ref (ad 2), .ref (ad 3), .ref (ad 4), .ref (ad 5), .ref (ad 6), .int 0, .int 0, .ref (ad 9), .ref (ad 10), .ref (ad 11), .ref (ad 12), .ref (ad 13), .int 0, .ref (ad 15), .int 0, .ref (ad 17), .ref (ad 18), .int 0])), (ad 0, .inl (cyB, 1600, .inl (u421 0)))] H := hP
  have hD : va_D A [(h0, .inr (6, [.ref (ad 0), .int 20, .ref (ad 2), .ref (ad 3), .ref (ad 4), .ref (ad 5), .ref (ad 6), .int 0, .int 0, .ref (ad 9), .ref (ad 10), .ref (ad 11), .ref (ad 12), .ref (ad 13), .int 0, .ref (ad 15), .int 0, .ref (ad 17), .ref (ad 18), .int 0])), (ad 0, .inl (cyB, 1600, .inl (u421 0)))] := hD
  refine lv_aload_n hx hb dX6_feed_42 rfl (lv_at hl 0 rfl) ?_
  refine va_get (D := (dC, dI)) (ci := 6) (v := .int 20) (C := RX6) (T := TX6) (N := 20) hx hb hts hi6 hown hK hP 0 rfl rfl 1 (by decide) (hts _ (ow_m (k := 0) rfl)) (fun _ h9 => h9) rfl dX6_feed_43 ?_
  exact W.iret (v := 20) hx hb hr (fun t ht hW => ⟨⟨20, (), rfl, rfl, cE.nil⟩, hS.F ht⟩) hS.2.2 dX6_feed_46
def wo_c_C_end : List Cond := [.fieldLink RX6 79 "ReplicaChain" "tapeLength" "I"]
def wq_c_C_end : List Cond := .code yX6_end cX6_end 2 (some .int) :: (wo_c_C_end ++ (wsX60 ++ []))
theorem gd_c_C_end : Gd wq_c_C_end := gd_c (gd_a (gd_o (by decide +kernel)) (gd_a gd_u gd_0))
abbrev wc_c_C_end (cyB cyI cyJ cyZ cyO : ClassId) (h0 : Nat) (ad : Nat → Nat) (x1 : Int32) : va_W := [(h0, .inr (6, [.ref (ad 0), .int 0, .ref (ad 2), .ref (ad 3), .ref (ad 4), .ref (ad 5), .ref (ad 6), .int 0, .int 0, .ref (ad 9), .ref (ad 10), .ref (ad 11), .ref (ad 12), .ref (ad 13), .int 0, .ref (ad 15), .int 0, .ref (ad 17), .ref (ad 18), .int 0]))]
set_option maxHeartbeats 4000000 in
set_option maxRecDepth 100000 in
theorem c_C_end (l : Launch) (dC : Nat → ClassId) (dI : Nat → Nat → Nat) (cyB cyI cyJ cyZ cyO : ClassId) (h0 : Nat) (ad : Nat → Nat) (x1 : Int32) (sz : Nat) : Met l yX6_end wq_c_C_end ({ frames := 0, cells := 0, slots := 0, locals := 0 }) (va_Pc [.ref h0, .int x1] (cB (dC, dI) (kT cyB cyI cyJ cyZ cyO) (wc_c_C_end cyB cyI cyJ cyZ cyO h0 ad x1) sz)) (va_Qi (fun (r : Int32) (_ : Unit) => r = sp_end x1) (fun (u : Unit) t => cE (dC, dI) (va_A (wc_c_C_end cyB cyI cyJ cyZ cyO h0 ad x1) sz) ([]) t.heap) (va_A (wc_c_C_end cyB cyI cyJ cyZ cyO h0 ad x1) sz)) 0 0 (va_A (wc_c_C_end cyB cyI cyJ cyZ cyO h0 ad x1) sz) := by
  refine Met.ofW (cc := cX6_end) (maxL := 2) (ret := (some .int)) (by decide) rfl ?_
  intro p e s m args below meth c s₁ B hml hv
  obtain ⟨rfl, hsz, hP, hKN, hD0⟩ := hv
  have hx := B.exec
  have hb := B.bytes
  have hr := B.returns
  have hts := atoms_spec (ws := wq_c_C_end) B.pre
  have hown : s.vm.findClass RX6 = some m.cls := findClass_of_methodNamed B.named
  have hlocks := B.notSynchronized
  have hK := hKN.1
  have hfix : CallFix p m c cX6_end 2 s [.ref h0, .int x1].toArray wq_c_C_end RX6 := ⟨hx, hb, hml, hown, hts⟩
  have hi6 : ∀ w ∈ wsX60, w ∈ wq_c_C_end := (sb_c sb_l)
  subst hsz
  have hD := hD0.self (sz := s.heap.size)
  generalize hAe : va_A (wc_c_C_end cyB cyI cyJ cyZ cyO h0 ad x1) s.heap.size = A at hD ⊢
  have hA : ∀ q : Nat, s.heap.size ≤ q → A q := fun q h => by rw [← hAe]; exact Or.inr h
  have hS : va_S A s.heap s.heap [] := va_S.rf
  have hl := lv_entry ([.ref h0, .int x1]) (n := 2) (Nat.le_of_ble_eq_true rfl)
  rw [lg_entry_eq]
  generalize (lg_sl ([.ref h0, .int x1]) ++ List.replicate (2 - (lg_sl ([.ref h0, .int x1])).length) Slot.unset).toArray = ls at hl ⊢
  have hl : lv_has ls 2 [(0, .ref h0), (1, .int x1)] := hl
  refine lv_iload_n hx hb dX6_end_0 rfl (lv_at hl 1 rfl) ?_
  refine lv_if_lt (tgt := 12) hx hb dX6_end_1 (by decide) (fun c424 => ?_) (fun c424 => ?_)
  · have c424 := i_lt (a := x1.toInt) (b := 0) c424 rfl (by decide)
    refine lv_iconst (v := (-1)) hx hb dX6_end_12 (by decide) ?_
    exact W.iret (v := (-1)) hx hb hr (fun t ht hW => ⟨⟨(-1), (), rfl, (by first | decide | (unfold sp_end; (repeat' split) <;> first | rfl | omega)), cE.nil⟩, hS.F ht⟩) hS.2.2 dX6_end_13
  · have c424 := i_nlt (a := x1.toInt) (b := 0) c424 rfl (by decide)
    refine lv_iload_n hx hb dX6_end_4 rfl (lv_at hl 1 rfl) ?_
    refine lv_aload_n hx hb dX6_end_5 rfl (lv_at hl 0 rfl) ?_
    refine va_get (D := (dC, dI)) (ci := 6) (v := .int 0) (C := RX6) (T := TX6) (N := 20) hx hb hts hi6 hown hK hP 0 rfl rfl 1 (by decide) (hts _ (ow_m (k := 0) rfl)) (fun _ h9 => h9) rfl dX6_end_6 ?_
    refine lv_icmp_le (tgt := 14) hx hb dX6_end_9 (by decide) (fun c425 => ?_) (fun c425 => ?_)
    · have c425 := i_le (a := x1.toInt) (b := 0) c425 rfl (by decide)
      refine lv_aload_n hx hb dX6_end_14 rfl (lv_at hl 0 rfl) ?_
      refine lv_iload_n hx hb dX6_end_15 rfl (lv_at hl 1 rfl) ?_
      refine va_put (D := (dC, dI)) (ci := 6) (v := .int x1) (ty := .int) (C := RX6) (T := TX6) (N := 20) hx hb hts hi6 tyX6 tyX6_ok nmX6 hown hK hP hD hS 0 rfl rfl 1 (by decide) (hts _ (ow_m (k := 0) rfl)) (fun _ h9 => h9) rfl (by decide +kernel) rfl rfl (Nat.le_of_ble_eq_true rfl) dX6_end_16 (fun H locs hP hD hS => ?_)
      have hP : va_P (dC, dI) vwCl [(h0, .inr (6, [.ref (ad 0), .int x1, .ref (ad 2), .ref (ad 3), .ref (ad 4), .ref (ad 5), .ref (ad 6), .int 0, .int 0, .ref (ad 9), .ref (ad 10), .ref (ad 11), .ref (ad 12), .ref (ad 13), .int 0, .ref (ad 15), .int 0, .ref (ad 17), .ref (ad 18), .int 0]))] H := hP
      have hD : va_D A [(h0, .inr (6, [.ref (ad 0), .int x1, .ref (ad 2), .ref (ad 3), .ref (ad 4), .ref (ad 5), .ref (ad 6), .int 0, .int 0, .ref (ad 9), .ref (ad 10), .ref (ad 11), .ref (ad 12), .ref (ad 13), .int 0, .ref (ad 15), .int 0, .ref (ad 17), .ref (ad 18), .int 0]))] := hD
      refine lv_iload_n hx hb dX6_end_19 rfl (lv_at hl 1 rfl) ?_
      exact W.iret (v := x1) hx hb hr (fun t ht hW => ⟨⟨x1, (), rfl, (by first | decide | (unfold sp_end; (repeat' split) <;> first | rfl | omega)), cE.nil⟩, hS.F ht⟩) hS.2.2 dX6_end_20
    · have c425 := i_nle (a := x1.toInt) (b := 0) c425 rfl (by decide)
      refine lv_iconst (v := (-1)) hx hb dX6_end_12 (by decide) ?_
      exact W.iret (v := (-1)) hx hb hr (fun t ht hW => ⟨⟨(-1), (), rfl, (by first | decide | (unfold sp_end; (repeat' split) <;> first | rfl | omega)), cE.nil⟩, hS.F ht⟩) hS.2.2 dX6_end_13
def wo_k_X0_clear : List Cond := [.fieldLink RX0 21 "ReplicaChain$Formula" "length" "I"]
def wq_k_X0_clear : List Cond := .code yX0_clear cX0_clear 1 none :: (wo_k_X0_clear ++ (wsX00 ++ []))
theorem gd_k_X0_clear : Gd wq_k_X0_clear := gd_c (gd_a (gd_o (by decide +kernel)) (gd_a gd_u gd_0))
abbrev wc_k_X0_clear (cyB cyI cyJ cyZ cyO : ClassId) (dd : Nat → Nat) : va_W := [(dd 3, .inr (0, [.ref (dd 4), .ref (dd 5), .ref (dd 6), .int 0]))]
set_option maxHeartbeats 4000000 in
set_option maxRecDepth 100000 in
theorem k_X0_clear (l : Launch) (dC : Nat → ClassId) (dI : Nat → Nat → Nat) (cyB cyI cyJ cyZ cyO : ClassId) (dd : Nat → Nat) (sz : Nat) : Met l yX0_clear wq_k_X0_clear ({ frames := 0, cells := 0, slots := 0, locals := 0 }) (va_Pc [.ref (dd 3)] (cB (dC, dI) (kT cyB cyI cyJ cyZ cyO) (wc_k_X0_clear cyB cyI cyJ cyZ cyO dd) sz)) (va_Qv (fun _ => True) (fun (u : Unit) t => cE (dC, dI) (va_A (wc_k_X0_clear cyB cyI cyJ cyZ cyO dd) sz) ([(dd 3, .inr (0, [.ref (dd 4), .ref (dd 5), .ref (dd 6), .int 0]))]) t.heap) (va_A (wc_k_X0_clear cyB cyI cyJ cyZ cyO dd) sz)) 0 0 (va_A (wc_k_X0_clear cyB cyI cyJ cyZ cyO dd) sz) := by
  refine Met.ofW (cc := cX0_clear) (maxL := 1) (ret := none) (by decide) rfl ?_
  intro p e s m args below meth c s₁ B hml hv
  obtain ⟨rfl, hsz, hP, hKN, hD0⟩ := hv
  have hx := B.exec
  have hb := B.bytes
  have hr := B.returns
  have hts := atoms_spec (ws := wq_k_X0_clear) B.pre
  have hown : s.vm.findClass RX0 = some m.cls := findClass_of_methodNamed B.named
  have hlocks := B.notSynchronized
  have hK := hKN.1
  have hfix : CallFix p m c cX0_clear 1 s [.ref (dd 3)].toArray wq_k_X0_clear RX0 := ⟨hx, hb, hml, hown, hts⟩
  have hi0 : ∀ w ∈ wsX00, w ∈ wq_k_X0_clear := (sb_c sb_l)
  subst hsz
  have hD := hD0.self (sz := s.heap.size)
  generalize hAe : va_A (wc_k_X0_clear cyB cyI cyJ cyZ cyO dd) s.heap.size = A at hD ⊢
  have hA : ∀ q : Nat, s.heap.size ≤ q → A q := fun q h => by rw [← hAe]; exact Or.inr h
  have hS : va_S A s.heap s.heap [] := va_S.rf
  have hl := lv_entry ([.ref (dd 3)]) (n := 1) (Nat.le_of_ble_eq_true rfl)
  rw [lg_entry_eq]
  generalize (lg_sl ([.ref (dd 3)]) ++ List.replicate (1 - (lg_sl ([.ref (dd 3)])).length) Slot.unset).toArray = ls at hl ⊢
  have hl : lv_has ls 1 [(0, .ref (dd 3))] := hl
  refine lv_aload_n hx hb dX0_clear_0 rfl (lv_at hl 0 rfl) ?_
  refine lv_iconst (v := 0) hx hb dX0_clear_1 (by decide) ?_
  refine va_put (D := (dC, dI)) (ci := 0) (v := .int 0) (ty := .int) (C := RX0) (T := TX0) (N := 4) hx hb hts hi0 tyX0 tyX0_ok nmX0 hown hK hP hD hS 0 rfl rfl 3 (by decide) (hts _ (ow_m (k := 0) rfl)) (fun _ h9 => h9) rfl (by decide +kernel) rfl rfl (Nat.le_of_ble_eq_true rfl) dX0_clear_2 (fun H locs hP hD hS => ?_)
  have hP : va_P (dC, dI) vwCl [(dd 3, .inr (0, [.ref (dd 4), .ref (dd 5), .ref (dd 6), .int 0]))] H := hP
  have hD : va_D A [(dd 3, .inr (0, [.ref (dd 4), .ref (dd 5), .ref (dd 6), .int 0]))] := hD
  exact W.vret hx hb hr (fun t ht hW => ⟨⟨(), rfl, trivial, cE.of ht hP hD [0] (by decide) rfl⟩, hS.F ht⟩) hS.2.2 dX0_clear_5
def wo_k_X1_clear : List Cond := [.fieldLink RX1 25 "ReplicaChain$Plan" "slow" "LReplicaChain$Formula;", .methodLink RX1 32 yX0_clear, .instanceMethod yX0_clear, .selects RX0 yX0_clear yX0_clear, .initialized RX0, .fieldLink RX1 33 "ReplicaChain$Plan" "memberCount" "I", .fieldLink RX1 37 "ReplicaChain$Plan" "nodeCount" "I", .fieldLink RX1 40 "ReplicaChain$Plan" "keyCount" "I", .fieldLink RX1 43 "ReplicaChain$Plan" "units" "I", .fieldLink RX1 46 "ReplicaChain$Plan" "copy" "I", .fieldLink RX1 49 "ReplicaChain$Plan" "loss" "I", .fieldLink RX1 52 "ReplicaChain$Plan" "draw" "I"]
def wq_k_X1_clear : List Cond := .code yX1_clear cX1_clear 1 none :: (wo_k_X1_clear ++ (wq_k_X0_clear ++ (wsX10 ++ [])))
theorem gd_k_X1_clear : Gd wq_k_X1_clear := gd_c (gd_a (gd_o (by decide +kernel)) (gd_a gd_k_X0_clear (gd_a gd_u gd_0)))
abbrev wc_k_X1_clear (cyB cyI cyJ cyZ cyO : ClassId) (ad : Nat → Nat) (dd : Nat → Nat) : va_W := [(ad 3, .inr (1, [.ref (dd 0), .ref (dd 1), .ref (dd 2), .ref (dd 3), .int 0, .int 0, .int 0, .int 0, .int 2, .int 0, .int 0])), (dd 3, .inr (0, [.ref (dd 4), .ref (dd 5), .ref (dd 6), .int 0]))]
set_option maxHeartbeats 4000000 in
set_option maxRecDepth 100000 in
theorem k_X1_clear (l : Launch) (dC : Nat → ClassId) (dI : Nat → Nat → Nat) (cyB cyI cyJ cyZ cyO : ClassId) (ad : Nat → Nat) (dd : Nat → Nat) (sz : Nat) : Met l yX1_clear wq_k_X1_clear ({ frames := 1, cells := 0, slots := 0, locals := 20 }) (va_Pc [.ref (ad 3)] (cB (dC, dI) (kT cyB cyI cyJ cyZ cyO) (wc_k_X1_clear cyB cyI cyJ cyZ cyO ad dd) sz)) (va_Qv (fun _ => True) (fun (u : Unit) t => cE (dC, dI) (va_A (wc_k_X1_clear cyB cyI cyJ cyZ cyO ad dd) sz) ([(ad 3, .inr (1, [.ref (dd 0), .ref (dd 1), .ref (dd 2), .ref (dd 3), .int 0, .int 0, .int 0, .int 0, .int 2, .int 0, .int 0])), (dd 3, .inr (0, [.ref (dd 4), .ref (dd 5), .ref (dd 6), .int 0]))]) t.heap) (va_A (wc_k_X1_clear cyB cyI cyJ cyZ cyO ad dd) sz)) 0 0 (va_A (wc_k_X1_clear cyB cyI cyJ cyZ cyO ad dd) sz) := by
  refine Met.ofW (cc := cX1_clear) (maxL := 1) (ret := none) (by decide) rfl ?_
  intro p e s m args below meth c s₁ B hml hv
  obtain ⟨rfl, hsz, hP, hKN, hD0⟩ := hv
  have hx := B.exec
  have hb := B.bytes
  have hr := B.returns
  have hts := atoms_spec (ws := wq_k_X1_clear) B.pre
  have hown : s.vm.findClass RX1 = some m.cls := findClass_of_methodNamed B.named
  have hlocks := B.notSynchronized
  have hK := hKN.1
  have hfix : CallFix p m c cX1_clear 1 s [.ref (ad 3)].toArray wq_k_X1_clear RX1 := ⟨hx, hb, hml, hown, hts⟩
  have hi1 : ∀ w ∈ wsX10, w ∈ wq_k_X1_clear := (sb_c (sb_r sb_l))
  subst hsz
  have hD := hD0.self (sz := s.heap.size)
  generalize hAe : va_A (wc_k_X1_clear cyB cyI cyJ cyZ cyO ad dd) s.heap.size = A at hD ⊢
  have hA : ∀ q : Nat, s.heap.size ≤ q → A q := fun q h => by rw [← hAe]; exact Or.inr h
  have hS : va_S A s.heap s.heap [] := va_S.rf
  have hl := lv_entry ([.ref (ad 3)]) (n := 1) (Nat.le_of_ble_eq_true rfl)
  rw [lg_entry_eq]
  generalize (lg_sl ([.ref (ad 3)]) ++ List.replicate (1 - (lg_sl ([.ref (ad 3)])).length) Slot.unset).toArray = ls at hl ⊢
  have hl : lv_has ls 1 [(0, .ref (ad 3))] := hl
  refine lv_aload_n hx hb dX1_clear_0 rfl (lv_at hl 0 rfl) ?_
  refine va_get (D := (dC, dI)) (ci := 1) (v := .ref (dd 3)) (C := RX1) (T := TX1) (N := 11) hx hb hts hi1 hown hK hP 0 rfl rfl 3 (by decide) (hts _ (ow_m (k := 0) rfl)) (fun _ h9 => h9) rfl dX1_clear_1 ?_
  refine gf_v (wr := [(ad 3, .inr (1, [.ref (dd 0), .ref (dd 1), .ref (dd 2), .ref (dd 3), .int 0, .int 0, .int 0, .int 0, .int 2, .int 0, .int 0]))]) (va_runV (As := []) (rest := []) hfix (k_X0_clear l dC dI cyB cyI cyJ cyZ cyO dd _) (cwV 0 hts (gi_V (ow_m (k := 1) rfl) (ow_m (k := 2) rfl) (ow_m (k := 3) rfl) (ow_m (k := 4) rfl) (sb_c sb_l) gd_k_X0_clear) rfl rfl rfl (by decide +kernel) ⟨Nat.le_of_ble_eq_true rfl, Nat.le_of_ble_eq_true rfl⟩) (g_preV hKN hP hD [1] rfl (by decide) 0 0 rfl rfl) rfl rfl hl.1 rfl (lv_room (Nat.le_of_ble_eq_true rfl)) dX1_clear_4 ⟨Nat.le_of_ble_eq_true rfl, Nat.le_of_ble_eq_true rfl⟩) hP hD hS hA [1] [0] rfl rfl (by decide) (by decide) (fun u429 H locs qu429 hP hD hS => ?_)
  have hP : va_P (dC, dI) vwCl [(ad 3, .inr (1, [.ref (dd 0), .ref (dd 1), .ref (dd 2), .ref (dd 3), .int 0, .int 0, .int 0, .int 0, .int 2, .int 0, .int 0])), (dd 3, .inr (0, [.ref (dd 4), .ref (dd 5), .ref (dd 6), .int 0]))] H := hP
  have hD : va_D A [(ad 3, .inr (1, [.ref (dd 0), .ref (dd 1), .ref (dd 2), .ref (dd 3), .int 0, .int 0, .int 0, .int 0, .int 2, .int 0, .int 0])), (dd 3, .inr (0, [.ref (dd 4), .ref (dd 5), .ref (dd 6), .int 0]))] := hD
  refine lv_aload_n hx hb dX1_clear_7 rfl (lv_at hl 0 rfl) ?_
  refine lv_iconst (v := 0) hx hb dX1_clear_8 (by decide) ?_
  refine va_put (D := (dC, dI)) (ci := 1) (v := .int 0) (ty := .int) (C := RX1) (T := TX1) (N := 11) hx hb hts hi1 tyX1 tyX1_ok nmX1 hown hK hP hD hS 0 rfl rfl 4 (by decide) (hts _ (ow_m (k := 5) rfl)) (fun _ h9 => h9) rfl (by decide +kernel) rfl rfl (Nat.le_of_ble_eq_true rfl) dX1_clear_9 (fun H locs hP hD hS => ?_)
  have hP : va_P (dC, dI) vwCl [(ad 3, .inr (1, [.ref (dd 0), .ref (dd 1), .ref (dd 2), .ref (dd 3), .int 0, .int 0, .int 0, .int 0, .int 2, .int 0, .int 0])), (dd 3, .inr (0, [.ref (dd 4), .ref (dd 5), .ref (dd 6), .int 0]))] H := hP
  have hD : va_D A [(ad 3, .inr (1, [.ref (dd 0), .ref (dd 1), .ref (dd 2), .ref (dd 3), .int 0, .int 0, .int 0, .int 0, .int 2, .int 0, .int 0])), (dd 3, .inr (0, [.ref (dd 4), .ref (dd 5), .ref (dd 6), .int 0]))] := hD
  refine lv_aload_n hx hb dX1_clear_12 rfl (lv_at hl 0 rfl) ?_
  refine lv_iconst (v := 0) hx hb dX1_clear_13 (by decide) ?_
  refine va_put (D := (dC, dI)) (ci := 1) (v := .int 0) (ty := .int) (C := RX1) (T := TX1) (N := 11) hx hb hts hi1 tyX1 tyX1_ok nmX1 hown hK hP hD hS 0 rfl rfl 5 (by decide) (hts _ (ow_m (k := 6) rfl)) (fun _ h9 => h9) rfl (by decide +kernel) rfl rfl (Nat.le_of_ble_eq_true rfl) dX1_clear_14 (fun H locs hP hD hS => ?_)
  have hP : va_P (dC, dI) vwCl [(ad 3, .inr (1, [.ref (dd 0), .ref (dd 1), .ref (dd 2), .ref (dd 3), .int 0, .int 0, .int 0, .int 0, .int 2, .int 0, .int 0])), (dd 3, .inr (0, [.ref (dd 4), .ref (dd 5), .ref (dd 6), .int 0]))] H := hP
  have hD : va_D A [(ad 3, .inr (1, [.ref (dd 0), .ref (dd 1), .ref (dd 2), .ref (dd 3), .int 0, .int 0, .int 0, .int 0, .int 2, .int 0, .int 0])), (dd 3, .inr (0, [.ref (dd 4), .ref (dd 5), .ref (dd 6), .int 0]))] := hD
  refine lv_aload_n hx hb dX1_clear_17 rfl (lv_at hl 0 rfl) ?_
  refine lv_iconst (v := 0) hx hb dX1_clear_18 (by decide) ?_
  refine va_put (D := (dC, dI)) (ci := 1) (v := .int 0) (ty := .int) (C := RX1) (T := TX1) (N := 11) hx hb hts hi1 tyX1 tyX1_ok nmX1 hown hK hP hD hS 0 rfl rfl 6 (by decide) (hts _ (ow_m (k := 7) rfl)) (fun _ h9 => h9) rfl (by decide +kernel) rfl rfl (Nat.le_of_ble_eq_true rfl) dX1_clear_19 (fun H locs hP hD hS => ?_)
  have hP : va_P (dC, dI) vwCl [(ad 3, .inr (1, [.ref (dd 0), .ref (dd 1), .ref (dd 2), .ref (dd 3), .int 0, .int 0, .int 0, .int 0, .int 2, .int 0, .int 0])), (dd 3, .inr (0, [.ref (dd 4), .ref (dd 5), .ref (dd 6), .int 0]))] H := hP
  have hD : va_D A [(ad 3, .inr (1, [.ref (dd 0), .ref (dd 1), .ref (dd 2), .ref (dd 3), .int 0, .int 0, .int 0, .int 0, .int 2, .int 0, .int 0])), (dd 3, .inr (0, [.ref (dd 4), .ref (dd 5), .ref (dd 6), .int 0]))] := hD
  refine lv_aload_n hx hb dX1_clear_22 rfl (lv_at hl 0 rfl) ?_
  refine lv_iconst (v := 0) hx hb dX1_clear_23 (by decide) ?_
  refine va_put (D := (dC, dI)) (ci := 1) (v := .int 0) (ty := .int) (C := RX1) (T := TX1) (N := 11) hx hb hts hi1 tyX1 tyX1_ok nmX1 hown hK hP hD hS 0 rfl rfl 7 (by decide) (hts _ (ow_m (k := 8) rfl)) (fun _ h9 => h9) rfl (by decide +kernel) rfl rfl (Nat.le_of_ble_eq_true rfl) dX1_clear_24 (fun H locs hP hD hS => ?_)
  have hP : va_P (dC, dI) vwCl [(ad 3, .inr (1, [.ref (dd 0), .ref (dd 1), .ref (dd 2), .ref (dd 3), .int 0, .int 0, .int 0, .int 0, .int 2, .int 0, .int 0])), (dd 3, .inr (0, [.ref (dd 4), .ref (dd 5), .ref (dd 6), .int 0]))] H := hP
  have hD : va_D A [(ad 3, .inr (1, [.ref (dd 0), .ref (dd 1), .ref (dd 2), .ref (dd 3), .int 0, .int 0, .int 0, .int 0, .int 2, .int 0, .int 0])), (dd 3, .inr (0, [.ref (dd 4), .ref (dd 5), .ref (dd 6), .int 0]))] := hD
  refine lv_aload_n hx hb dX1_clear_27 rfl (lv_at hl 0 rfl) ?_
  refine lv_iconst (v := 2) hx hb dX1_clear_28 (by decide) ?_
  refine va_put (D := (dC, dI)) (ci := 1) (v := .int 2) (ty := .int) (C := RX1) (T := TX1) (N := 11) hx hb hts hi1 tyX1 tyX1_ok nmX1 hown hK hP hD hS 0 rfl rfl 8 (by decide) (hts _ (ow_m (k := 9) rfl)) (fun _ h9 => h9) rfl (by decide +kernel) rfl rfl (Nat.le_of_ble_eq_true rfl) dX1_clear_29 (fun H locs hP hD hS => ?_)
  have hP : va_P (dC, dI) vwCl [(ad 3, .inr (1, [.ref (dd 0), .ref (dd 1), .ref (dd 2), .ref (dd 3), .int 0, .int 0, .int 0, .int 0, .int 2, .int 0, .int 0])), (dd 3, .inr (0, [.ref (dd 4), .ref (dd 5), .ref (dd 6), .int 0]))] H := hP
  have hD : va_D A [(ad 3, .inr (1, [.ref (dd 0), .ref (dd 1), .ref (dd 2), .ref (dd 3), .int 0, .int 0, .int 0, .int 0, .int 2, .int 0, .int 0])), (dd 3, .inr (0, [.ref (dd 4), .ref (dd 5), .ref (dd 6), .int 0]))] := hD
  refine lv_aload_n hx hb dX1_clear_32 rfl (lv_at hl 0 rfl) ?_
  refine lv_iconst (v := 0) hx hb dX1_clear_33 (by decide) ?_
  refine va_put (D := (dC, dI)) (ci := 1) (v := .int 0) (ty := .int) (C := RX1) (T := TX1) (N := 11) hx hb hts hi1 tyX1 tyX1_ok nmX1 hown hK hP hD hS 0 rfl rfl 9 (by decide) (hts _ (ow_m (k := 10) rfl)) (fun _ h9 => h9) rfl (by decide +kernel) rfl rfl (Nat.le_of_ble_eq_true rfl) dX1_clear_34 (fun H locs hP hD hS => ?_)
  have hP : va_P (dC, dI) vwCl [(ad 3, .inr (1, [.ref (dd 0), .ref (dd 1), .ref (dd 2), .ref (dd 3), .int 0, .int 0, .int 0, .int 0, .int 2, .int 0, .int 0])), (dd 3, .inr (0, [.ref (dd 4), .ref (dd 5), .ref (dd 6), .int 0]))] H := hP
  have hD : va_D A [(ad 3, .inr (1, [.ref (dd 0), .ref (dd 1), .ref (dd 2), .ref (dd 3), .int 0, .int 0, .int 0, .int 0, .int 2, .int 0, .int 0])), (dd 3, .inr (0, [.ref (dd 4), .ref (dd 5), .ref (dd 6), .int 0]))] := hD
  refine lv_aload_n hx hb dX1_clear_37 rfl (lv_at hl 0 rfl) ?_
  refine lv_iconst (v := 0) hx hb dX1_clear_38 (by decide) ?_
  refine va_put (D := (dC, dI)) (ci := 1) (v := .int 0) (ty := .int) (C := RX1) (T := TX1) (N := 11) hx hb hts hi1 tyX1 tyX1_ok nmX1 hown hK hP hD hS 0 rfl rfl 10 (by decide) (hts _ (ow_m (k := 11) rfl)) (fun _ h9 => h9) rfl (by decide +kernel) rfl rfl (Nat.le_of_ble_eq_true rfl) dX1_clear_39 (fun H locs hP hD hS => ?_)
  have hP : va_P (dC, dI) vwCl [(ad 3, .inr (1, [.ref (dd 0), .ref (dd 1), .ref (dd 2), .ref (dd 3), .int 0, .int 0, .int 0, .int 0, .int 2, .int 0, .int 0])), (dd 3, .inr (0, [.ref (dd 4), .ref (dd 5), .ref (dd 6), .int 0]))] H := hP
  have hD : va_D A [(ad 3, .inr (1, [.ref (dd 0), .ref (dd 1), .ref (dd 2), .ref (dd 3), .int 0, .int 0, .int 0, .int 0, .int 2, .int 0, .int 0])), (dd 3, .inr (0, [.ref (dd 4), .ref (dd 5), .ref (dd 6), .int 0]))] := hD
  exact W.vret hx hb hr (fun t ht hW => ⟨⟨(), rfl, trivial, cE.of ht hP hD [0, 1] (by decide) rfl⟩, hS.F ht⟩) hS.2.2 dX1_clear_42
def wo_k_X2_advance : List Cond := [.fieldLink RX2 32 "ReplicaChain$Reader" "at" "I", .fieldLink RX2 29 "ReplicaChain$Reader" "length" "I", .fieldLink RX2 59 "ReplicaChain$Reader" "start" "I", .fieldLink RX2 53 "ReplicaChain$Reader" "kind" "I"]
def wq_k_X2_advance : List Cond := .code yX2_advance cX2_advance 1 none :: (wo_k_X2_advance ++ (wsX20 ++ []))
theorem gd_k_X2_advance : Gd wq_k_X2_advance := gd_c (gd_a (gd_o (by decide +kernel)) (gd_a gd_u gd_0))
abbrev wc_k_X2_advance (cyB cyI cyJ cyZ cyO : ClassId) (ad : Nat → Nat) : va_W := [(ad 4, .inr (2, [.ref (ad 0), .int 0, .int 0, .ref (ad 3), .int 0, .int 0, .int 0, .long 0, .int 0, .int 0, .int (-1)]))]
set_option maxHeartbeats 4000000 in
set_option maxRecDepth 100000 in
theorem k_X2_advance (l : Launch) (dC : Nat → ClassId) (dI : Nat → Nat → Nat) (cyB cyI cyJ cyZ cyO : ClassId) (ad : Nat → Nat) (sz : Nat) : Met l yX2_advance wq_k_X2_advance ({ frames := 0, cells := 0, slots := 0, locals := 0 }) (va_Pc [.ref (ad 4)] (cB (dC, dI) (kT cyB cyI cyJ cyZ cyO) (wc_k_X2_advance cyB cyI cyJ cyZ cyO ad) sz)) (va_Qv (fun _ => True) (fun (u : Unit) t => cE (dC, dI) (va_A (wc_k_X2_advance cyB cyI cyJ cyZ cyO ad) sz) ([(ad 4, .inr (2, [.ref (ad 0), .int 0, .int 0, .ref (ad 3), .int 0, .int 0, .int 0, .long 0, .int 0, .int 0, .int (-1)]))]) t.heap) (va_A (wc_k_X2_advance cyB cyI cyJ cyZ cyO ad) sz)) 0 0 (va_A (wc_k_X2_advance cyB cyI cyJ cyZ cyO ad) sz) := by
  refine Met.ofW (cc := cX2_advance) (maxL := 1) (ret := none) (by decide) rfl ?_
  intro p e s m args below meth c s₁ B hml hv
  obtain ⟨rfl, hsz, hP, hKN, hD0⟩ := hv
  have hx := B.exec
  have hb := B.bytes
  have hr := B.returns
  have hts := atoms_spec (ws := wq_k_X2_advance) B.pre
  have hown : s.vm.findClass RX2 = some m.cls := findClass_of_methodNamed B.named
  have hlocks := B.notSynchronized
  have hK := hKN.1
  have hfix : CallFix p m c cX2_advance 1 s [.ref (ad 4)].toArray wq_k_X2_advance RX2 := ⟨hx, hb, hml, hown, hts⟩
  have hi2 : ∀ w ∈ wsX20, w ∈ wq_k_X2_advance := (sb_c sb_l)
  subst hsz
  have hD := hD0.self (sz := s.heap.size)
  generalize hAe : va_A (wc_k_X2_advance cyB cyI cyJ cyZ cyO ad) s.heap.size = A at hD ⊢
  have hA : ∀ q : Nat, s.heap.size ≤ q → A q := fun q h => by rw [← hAe]; exact Or.inr h
  have hS : va_S A s.heap s.heap [] := va_S.rf
  have hl := lv_entry ([.ref (ad 4)]) (n := 1) (Nat.le_of_ble_eq_true rfl)
  rw [lg_entry_eq]
  generalize (lg_sl ([.ref (ad 4)]) ++ List.replicate (1 - (lg_sl ([.ref (ad 4)])).length) Slot.unset).toArray = ls at hl ⊢
  have hl : lv_has ls 1 [(0, .ref (ad 4))] := hl
  refine lv_aload_n hx hb dX2_advance_0 rfl (lv_at hl 0 rfl) ?_
  refine va_get (D := (dC, dI)) (ci := 2) (v := .int 0) (C := RX2) (T := TX2) (N := 11) hx hb hts hi2 hown hK hP 0 rfl rfl 2 (by decide) (hts _ (ow_m (k := 0) rfl)) (fun _ h9 => h9) rfl dX2_advance_1 ?_
  refine lv_aload_n hx hb dX2_advance_4 rfl (lv_at hl 0 rfl) ?_
  refine va_get (D := (dC, dI)) (ci := 2) (v := .int 0) (C := RX2) (T := TX2) (N := 11) hx hb hts hi2 hown hK hP 0 rfl rfl 1 (by decide) (hts _ (ow_m (k := 1) rfl)) (fun _ h9 => h9) rfl dX2_advance_5 ?_
  refine lv_icmp_ge (tgt := 50) hx hb dX2_advance_8 (by decide) (fun _ => ?_) (fun c434 => absurd (by decide) c434)
  refine lv_aload_n hx hb dX2_advance_50 rfl (lv_at hl 0 rfl) ?_
  refine lv_aload_n hx hb dX2_advance_51 rfl (lv_at hl 0 rfl) ?_
  refine va_get (D := (dC, dI)) (ci := 2) (v := .int 0) (C := RX2) (T := TX2) (N := 11) hx hb hts hi2 hown hK hP 0 rfl rfl 2 (by decide) (hts _ (ow_m (k := 0) rfl)) (fun _ h9 => h9) rfl dX2_advance_52 ?_
  refine va_put (D := (dC, dI)) (ci := 2) (v := .int 0) (ty := .int) (C := RX2) (T := TX2) (N := 11) hx hb hts hi2 tyX2 tyX2_ok nmX2 hown hK hP hD hS 0 rfl rfl 5 (by decide) (hts _ (ow_m (k := 2) rfl)) (fun _ h9 => h9) rfl (by decide +kernel) rfl rfl (Nat.le_of_ble_eq_true rfl) dX2_advance_55 (fun H locs hP hD hS => ?_)
  have hP : va_P (dC, dI) vwCl [(ad 4, .inr (2, [.ref (ad 0), .int 0, .int 0, .ref (ad 3), .int 0, .int 0, .int 0, .long 0, .int 0, .int 0, .int (-1)]))] H := hP
  have hD : va_D A [(ad 4, .inr (2, [.ref (ad 0), .int 0, .int 0, .ref (ad 3), .int 0, .int 0, .int 0, .long 0, .int 0, .int 0, .int (-1)]))] := hD
  refine lv_aload_n hx hb dX2_advance_58 rfl (lv_at hl 0 rfl) ?_
  refine va_get (D := (dC, dI)) (ci := 2) (v := .int 0) (C := RX2) (T := TX2) (N := 11) hx hb hts hi2 hown hK hP 0 rfl rfl 2 (by decide) (hts _ (ow_m (k := 0) rfl)) (fun _ h9 => h9) rfl dX2_advance_59 ?_
  refine lv_aload_n hx hb dX2_advance_62 rfl (lv_at hl 0 rfl) ?_
  refine va_get (D := (dC, dI)) (ci := 2) (v := .int 0) (C := RX2) (T := TX2) (N := 11) hx hb hts hi2 hown hK hP 0 rfl rfl 1 (by decide) (hts _ (ow_m (k := 1) rfl)) (fun _ h9 => h9) rfl dX2_advance_63 ?_
  refine lv_icmp_lt (tgt := 77) hx hb dX2_advance_66 (by decide) (fun c435 => absurd c435 (by decide)) (fun _ => ?_)
  refine lv_aload_n hx hb dX2_advance_69 rfl (lv_at hl 0 rfl) ?_
  refine lv_iconst (v := 0) hx hb dX2_advance_70 (by decide) ?_
  refine va_put (D := (dC, dI)) (ci := 2) (v := .int 0) (ty := .int) (C := RX2) (T := TX2) (N := 11) hx hb hts hi2 tyX2 tyX2_ok nmX2 hown hK hP hD hS 0 rfl rfl 4 (by decide) (hts _ (ow_m (k := 3) rfl)) (fun _ h9 => h9) rfl (by decide +kernel) rfl rfl (Nat.le_of_ble_eq_true rfl) dX2_advance_71 (fun H locs hP hD hS => ?_)
  have hP : va_P (dC, dI) vwCl [(ad 4, .inr (2, [.ref (ad 0), .int 0, .int 0, .ref (ad 3), .int 0, .int 0, .int 0, .long 0, .int 0, .int 0, .int (-1)]))] H := hP
  have hD : va_D A [(ad 4, .inr (2, [.ref (ad 0), .int 0, .int 0, .ref (ad 3), .int 0, .int 0, .int 0, .long 0, .int 0, .int 0, .int (-1)]))] := hD
  refine lv_goto (tgt := 157) hx hb dX2_advance_74 (by decide) ?_
  exact W.vret hx hb hr (fun t ht hW => ⟨⟨(), rfl, trivial, cE.of ht hP hD [0] (by decide) rfl⟩, hS.F ht⟩) hS.2.2 dX2_advance_157
def wo_k_X2_isGood : List Cond := [.fieldLink RX2 43 "ReplicaChain$Reader" "faultKind" "I"]
def wq_k_X2_isGood : List Cond := .code yX2_isGood cX2_isGood 1 (some .boolean) :: (wo_k_X2_isGood ++ (wsX20 ++ []))
theorem gd_k_X2_isGood : Gd wq_k_X2_isGood := gd_c (gd_a (gd_o (by decide +kernel)) (gd_a gd_u gd_0))
abbrev wc_k_X2_isGood (cyB cyI cyJ cyZ cyO : ClassId) (ad : Nat → Nat) : va_W := [(ad 4, .inr (2, [.ref (ad 0), .int 0, .int 0, .ref (ad 3), .int 0, .int 0, .int 0, .long 0, .int 0, .int 0, .int (-1)]))]
set_option maxHeartbeats 4000000 in
set_option maxRecDepth 100000 in
theorem k_X2_isGood (l : Launch) (dC : Nat → ClassId) (dI : Nat → Nat → Nat) (cyB cyI cyJ cyZ cyO : ClassId) (ad : Nat → Nat) (sz : Nat) : Met l yX2_isGood wq_k_X2_isGood ({ frames := 0, cells := 0, slots := 0, locals := 0 }) (va_Pc [.ref (ad 4)] (cB (dC, dI) (kT cyB cyI cyJ cyZ cyO) (wc_k_X2_isGood cyB cyI cyJ cyZ cyO ad) sz)) (va_Qi (fun (r : Int32) _ => r = 1) (fun (u : Unit) t => cE (dC, dI) (va_A (wc_k_X2_isGood cyB cyI cyJ cyZ cyO ad) sz) ([(ad 4, .inr (2, [.ref (ad 0), .int 0, .int 0, .ref (ad 3), .int 0, .int 0, .int 0, .long 0, .int 0, .int 0, .int (-1)]))]) t.heap) (va_A (wc_k_X2_isGood cyB cyI cyJ cyZ cyO ad) sz)) 0 0 (va_A (wc_k_X2_isGood cyB cyI cyJ cyZ cyO ad) sz) := by
  refine Met.ofW (cc := cX2_isGood) (maxL := 1) (ret := (some .boolean)) (by decide) rfl ?_
  intro p e s m args below meth c s₁ B hml hv
  obtain ⟨rfl, hsz, hP, hKN, hD0⟩ := hv
  have hx := B.exec
  have hb := B.bytes
  have hr := B.returns
  have hts := atoms_spec (ws := wq_k_X2_isGood) B.pre
  have hown : s.vm.findClass RX2 = some m.cls := findClass_of_methodNamed B.named
  have hlocks := B.notSynchronized
  have hK := hKN.1
  have hfix : CallFix p m c cX2_isGood 1 s [.ref (ad 4)].toArray wq_k_X2_isGood RX2 := ⟨hx, hb, hml, hown, hts⟩
  have hi2 : ∀ w ∈ wsX20, w ∈ wq_k_X2_isGood := (sb_c sb_l)
  subst hsz
  have hD := hD0.self (sz := s.heap.size)
  generalize hAe : va_A (wc_k_X2_isGood cyB cyI cyJ cyZ cyO ad) s.heap.size = A at hD ⊢
  have hA : ∀ q : Nat, s.heap.size ≤ q → A q := fun q h => by rw [← hAe]; exact Or.inr h
  have hS : va_S A s.heap s.heap [] := va_S.rf
  have hl := lv_entry ([.ref (ad 4)]) (n := 1) (Nat.le_of_ble_eq_true rfl)
  rw [lg_entry_eq]
  generalize (lg_sl ([.ref (ad 4)]) ++ List.replicate (1 - (lg_sl ([.ref (ad 4)])).length) Slot.unset).toArray = ls at hl ⊢
  have hl : lv_has ls 1 [(0, .ref (ad 4))] := hl
  refine lv_aload_n hx hb dX2_isGood_0 rfl (lv_at hl 0 rfl) ?_
  refine va_get (D := (dC, dI)) (ci := 2) (v := .int 0) (C := RX2) (T := TX2) (N := 11) hx hb hts hi2 hown hK hP 0 rfl rfl 9 (by decide) (hts _ (ow_m (k := 0) rfl)) (fun _ h9 => h9) rfl dX2_isGood_1 ?_
  refine lv_if_ne (tgt := 11) hx hb dX2_isGood_4 (by decide) (fun c440 => absurd (by decide) c440) (fun _ => ?_)
  refine lv_iconst (v := 1) hx hb dX2_isGood_7 (by decide) ?_
  refine lv_goto (tgt := 12) hx hb dX2_isGood_8 (by decide) ?_
  exact W.zret (v := 1) hx hb hr (by decide) (fun t ht hW => ⟨⟨1, (), rfl, rfl, cE.of ht hP hD [0] (by decide) rfl⟩, hS.F ht⟩) hS.2.2 dX2_isGood_12
def wo_k_X2_understands : List Cond := [.fieldLink RX2 15 "ReplicaChain$Reader" "text" "[B", .methodLink RX2 23 Lib.Math.min.name, .static Lib.Math.min.name, .initialized "java/lang/Math", .code Lib.Math.min.name Lib.Math.min.code 2 (some .int), .fieldLink RX2 29 "ReplicaChain$Reader" "length" "I", .fieldLink RX2 32 "ReplicaChain$Reader" "at" "I", .fieldLink RX2 19 "ReplicaChain$Reader" "plan" "LReplicaChain$Plan;", .methodLink RX2 35 yX1_clear, .instanceMethod yX1_clear, .selects RX1 yX1_clear yX1_clear, .initialized RX1, .fieldLink RX2 40 "ReplicaChain$Reader" "told" "I", .fieldLink RX2 43 "ReplicaChain$Reader" "faultKind" "I", .fieldLink RX2 9 "ReplicaChain$Reader" "faultPlace" "I", .methodLink RX2 46 yX2_advance, .instanceMethod yX2_advance, .selects RX2 yX2_advance yX2_advance, .initialized RX2, .methodLink RX2 49 yX2_isGood, .instanceMethod yX2_isGood, .selects RX2 yX2_isGood yX2_isGood, .fieldLink RX2 53 "ReplicaChain$Reader" "kind" "I"]
def wq_k_X2_understands : List Cond := .code yX2_understands cX2_understands 4 (some .boolean) :: (wo_k_X2_understands ++ (wq_k_X1_clear ++ (wq_k_X2_advance ++ (wq_k_X2_isGood ++ (wsX20 ++ [])))))
theorem gd_k_X2_understands : Gd wq_k_X2_understands := gd_c (gd_a (gd_o (by decide +kernel)) (gd_a gd_k_X1_clear (gd_a gd_k_X2_advance (gd_a gd_k_X2_isGood (gd_a gd_u gd_0)))))
abbrev wc_k_X2_understands (cyB cyI cyJ cyZ cyO : ClassId) (ad : Nat → Nat) (dd : Nat → Nat) : va_W := [(ad 0, .inl (cyB, 1600, .inl (fun _ => 0))), (ad 3, .inr (1, [.ref (dd 0), .ref (dd 1), .ref (dd 2), .ref (dd 3), .int 0, .int 0, .int 0, .int 0, .int 2, .int 0, .int 0])), (dd 3, .inr (0, [.ref (dd 4), .ref (dd 5), .ref (dd 6), .int 0])), (ad 4, .inr (2, [.ref (ad 0), .int 0, .int 0, .ref (ad 3), .int 0, .int 0, .int 0, .long 0, .int 0, .int 0, .int (-1)]))]
set_option maxHeartbeats 4000000 in
set_option maxRecDepth 100000 in
theorem k_X2_understands (l : Launch) (dC : Nat → ClassId) (dI : Nat → Nat → Nat) (cyB cyI cyJ cyZ cyO : ClassId) (ad : Nat → Nat) (dd : Nat → Nat) (sz : Nat) : Met l yX2_understands wq_k_X2_understands ({ frames := 2, cells := 0, slots := 0, locals := 40 }) (va_Pc [.ref (ad 4), .int 0, .ref (ad 3)] (cB (dC, dI) (kT cyB cyI cyJ cyZ cyO) (wc_k_X2_understands cyB cyI cyJ cyZ cyO ad dd) sz)) (va_Qi (fun (r : Int32) _ => r = 1) (fun (u : Unit) t => cE (dC, dI) (va_A (wc_k_X2_understands cyB cyI cyJ cyZ cyO ad dd) sz) ([(ad 0, .inl (cyB, 1600, .inl (fun _ => 0))), (ad 3, .inr (1, [.ref (dd 0), .ref (dd 1), .ref (dd 2), .ref (dd 3), .int 0, .int 0, .int 0, .int 0, .int 2, .int 0, .int 0])), (dd 3, .inr (0, [.ref (dd 4), .ref (dd 5), .ref (dd 6), .int 0])), (ad 4, .inr (2, [.ref (ad 0), .int 0, .int 0, .ref (ad 3), .int 0, .int 0, .int 0, .long 0, .int 0, .int 0, .int (-1)]))]) t.heap) (va_A (wc_k_X2_understands cyB cyI cyJ cyZ cyO ad dd) sz)) 0 0 (va_A (wc_k_X2_understands cyB cyI cyJ cyZ cyO ad dd) sz) := by
  refine Met.ofW (cc := cX2_understands) (maxL := 4) (ret := (some .boolean)) (by decide) rfl ?_
  intro p e s m args below meth c s₁ B hml hv
  obtain ⟨rfl, hsz, hP, hKN, hD0⟩ := hv
  have hx := B.exec
  have hb := B.bytes
  have hr := B.returns
  have hts := atoms_spec (ws := wq_k_X2_understands) B.pre
  have hown : s.vm.findClass RX2 = some m.cls := findClass_of_methodNamed B.named
  have hlocks := B.notSynchronized
  have hK := hKN.1
  have hfix : CallFix p m c cX2_understands 4 s [.ref (ad 4), .int 0, .ref (ad 3)].toArray wq_k_X2_understands RX2 := ⟨hx, hb, hml, hown, hts⟩
  have hi2 : ∀ w ∈ wsX20, w ∈ wq_k_X2_understands := (sb_c (sb_r (sb_r (sb_r sb_l))))
  subst hsz
  have hD := hD0.self (sz := s.heap.size)
  generalize hAe : va_A (wc_k_X2_understands cyB cyI cyJ cyZ cyO ad dd) s.heap.size = A at hD ⊢
  have hA : ∀ q : Nat, s.heap.size ≤ q → A q := fun q h => by rw [← hAe]; exact Or.inr h
  have hS : va_S A s.heap s.heap [] := va_S.rf
  have hl := lv_entry ([.ref (ad 4), .int 0, .ref (ad 3)]) (n := 4) (Nat.le_of_ble_eq_true rfl)
  rw [lg_entry_eq]
  generalize (lg_sl ([.ref (ad 4), .int 0, .ref (ad 3)]) ++ List.replicate (4 - (lg_sl ([.ref (ad 4), .int 0, .ref (ad 3)])).length) Slot.unset).toArray = ls at hl ⊢
  have hl : lv_has ls 4 [(0, .ref (ad 4)), (1, .int 0), (2, .ref (ad 3))] := hl
  refine lv_aload_n hx hb dX2_understands_0 rfl (lv_at hl 0 rfl) ?_
  refine lv_iload_n hx hb dX2_understands_1 rfl (lv_at hl 1 rfl) ?_
  refine lv_aload_n hx hb dX2_understands_2 rfl (lv_at hl 0 rfl) ?_
  refine va_get (D := (dC, dI)) (ci := 2) (v := .ref (ad 0)) (C := RX2) (T := TX2) (N := 11) hx hb hts hi2 hown hK hP 3 rfl rfl 0 (by decide) (hts _ (ow_m (k := 0) rfl)) (fun _ h9 => h9) rfl dX2_understands_3 ?_
  refine va_alen (v := 1600) hx hb hK hP 0 0 rfl rfl rfl dX2_understands_6 ?_
  refine va_mmin hx hb (hml.trans hl.1.symm) hown (hts _ (ow_m (k := 1) rfl)) (hts _ (ow_m (k := 2) rfl)) (hts _ (ow_m (k := 3) rfl)) (hts _ (ow_m (k := 4) rfl)) (Nat.le_of_ble_eq_true rfl) (Nat.le_of_ble_eq_true rfl) (Nat.le_of_ble_eq_true rfl) (Nat.le_of_ble_eq_true rfl) dX2_understands_7 ?_
  refine tp_c (w := 0) (by decide) ?_
  refine va_put (D := (dC, dI)) (ci := 2) (v := .int 0) (ty := .int) (C := RX2) (T := TX2) (N := 11) hx hb hts hi2 tyX2 tyX2_ok nmX2 hown hK hP hD hS 3 rfl rfl 1 (by decide) (hts _ (ow_m (k := 5) rfl)) (fun _ h9 => h9) rfl (by decide +kernel) rfl rfl (Nat.le_of_ble_eq_true rfl) dX2_understands_10 (fun H locs hP hD hS => ?_)
  have hP : va_P (dC, dI) vwCl [(ad 0, .inl (cyB, 1600, .inl (fun _ => 0))), (ad 3, .inr (1, [.ref (dd 0), .ref (dd 1), .ref (dd 2), .ref (dd 3), .int 0, .int 0, .int 0, .int 0, .int 2, .int 0, .int 0])), (dd 3, .inr (0, [.ref (dd 4), .ref (dd 5), .ref (dd 6), .int 0])), (ad 4, .inr (2, [.ref (ad 0), .int 0, .int 0, .ref (ad 3), .int 0, .int 0, .int 0, .long 0, .int 0, .int 0, .int (-1)]))] H := hP
  have hD : va_D A [(ad 0, .inl (cyB, 1600, .inl (fun _ => 0))), (ad 3, .inr (1, [.ref (dd 0), .ref (dd 1), .ref (dd 2), .ref (dd 3), .int 0, .int 0, .int 0, .int 0, .int 2, .int 0, .int 0])), (dd 3, .inr (0, [.ref (dd 4), .ref (dd 5), .ref (dd 6), .int 0])), (ad 4, .inr (2, [.ref (ad 0), .int 0, .int 0, .ref (ad 3), .int 0, .int 0, .int 0, .long 0, .int 0, .int 0, .int (-1)]))] := hD
  refine lv_aload_n hx hb dX2_understands_13 rfl (lv_at hl 0 rfl) ?_
  refine lv_iconst (v := 0) hx hb dX2_understands_14 (by decide) ?_
  refine va_put (D := (dC, dI)) (ci := 2) (v := .int 0) (ty := .int) (C := RX2) (T := TX2) (N := 11) hx hb hts hi2 tyX2 tyX2_ok nmX2 hown hK hP hD hS 3 rfl rfl 2 (by decide) (hts _ (ow_m (k := 6) rfl)) (fun _ h9 => h9) rfl (by decide +kernel) rfl rfl (Nat.le_of_ble_eq_true rfl) dX2_understands_15 (fun H locs hP hD hS => ?_)
  have hP : va_P (dC, dI) vwCl [(ad 0, .inl (cyB, 1600, .inl (fun _ => 0))), (ad 3, .inr (1, [.ref (dd 0), .ref (dd 1), .ref (dd 2), .ref (dd 3), .int 0, .int 0, .int 0, .int 0, .int 2, .int 0, .int 0])), (dd 3, .inr (0, [.ref (dd 4), .ref (dd 5), .ref (dd 6), .int 0])), (ad 4, .inr (2, [.ref (ad 0), .int 0, .int 0, .ref (ad 3), .int 0, .int 0, .int 0, .long 0, .int 0, .int 0, .int (-1)]))] H := hP
  have hD : va_D A [(ad 0, .inl (cyB, 1600, .inl (fun _ => 0))), (ad 3, .inr (1, [.ref (dd 0), .ref (dd 1), .ref (dd 2), .ref (dd 3), .int 0, .int 0, .int 0, .int 0, .int 2, .int 0, .int 0])), (dd 3, .inr (0, [.ref (dd 4), .ref (dd 5), .ref (dd 6), .int 0])), (ad 4, .inr (2, [.ref (ad 0), .int 0, .int 0, .ref (ad 3), .int 0, .int 0, .int 0, .long 0, .int 0, .int 0, .int (-1)]))] := hD
  refine lv_aload_n hx hb dX2_understands_18 rfl (lv_at hl 0 rfl) ?_
  refine lv_aload_n hx hb dX2_understands_19 rfl (lv_at hl 2 rfl) ?_
  refine va_put (D := (dC, dI)) (ci := 2) (v := .ref (ad 3)) (ty := .object "ReplicaChain$Plan") (C := RX2) (T := TX2) (N := 11) hx hb hts hi2 tyX2 tyX2_ok nmX2 hown hK hP hD hS 3 rfl rfl 3 (by decide) (hts _ (ow_m (k := 7) rfl)) (fun _ h9 => h9) rfl (by decide +kernel) rfl rfl (Nat.le_of_ble_eq_true rfl) dX2_understands_20 (fun H locs hP hD hS => ?_)
  have hP : va_P (dC, dI) vwCl [(ad 0, .inl (cyB, 1600, .inl (fun _ => 0))), (ad 3, .inr (1, [.ref (dd 0), .ref (dd 1), .ref (dd 2), .ref (dd 3), .int 0, .int 0, .int 0, .int 0, .int 2, .int 0, .int 0])), (dd 3, .inr (0, [.ref (dd 4), .ref (dd 5), .ref (dd 6), .int 0])), (ad 4, .inr (2, [.ref (ad 0), .int 0, .int 0, .ref (ad 3), .int 0, .int 0, .int 0, .long 0, .int 0, .int 0, .int (-1)]))] H := hP
  have hD : va_D A [(ad 0, .inl (cyB, 1600, .inl (fun _ => 0))), (ad 3, .inr (1, [.ref (dd 0), .ref (dd 1), .ref (dd 2), .ref (dd 3), .int 0, .int 0, .int 0, .int 0, .int 2, .int 0, .int 0])), (dd 3, .inr (0, [.ref (dd 4), .ref (dd 5), .ref (dd 6), .int 0])), (ad 4, .inr (2, [.ref (ad 0), .int 0, .int 0, .ref (ad 3), .int 0, .int 0, .int 0, .long 0, .int 0, .int 0, .int (-1)]))] := hD
  refine lv_aload_n hx hb dX2_understands_23 rfl (lv_at hl 0 rfl) ?_
  refine va_get (D := (dC, dI)) (ci := 2) (v := .ref (ad 3)) (C := RX2) (T := TX2) (N := 11) hx hb hts hi2 hown hK hP 3 rfl rfl 3 (by decide) (hts _ (ow_m (k := 7) rfl)) (fun _ h9 => h9) rfl dX2_understands_24 ?_
  refine gf_v (wr := [(ad 0, .inl (cyB, 1600, .inl (fun _ => 0))), (ad 4, .inr (2, [.ref (ad 0), .int 0, .int 0, .ref (ad 3), .int 0, .int 0, .int 0, .long 0, .int 0, .int 0, .int (-1)]))]) (va_runV (As := []) (rest := []) hfix (k_X1_clear l dC dI cyB cyI cyJ cyZ cyO ad dd _) (cwV 0 hts (gi_V (ow_m (k := 8) rfl) (ow_m (k := 9) rfl) (ow_m (k := 10) rfl) (ow_m (k := 11) rfl) (sb_c sb_l) gd_k_X1_clear) rfl rfl rfl (by decide +kernel) ⟨Nat.le_of_ble_eq_true rfl, Nat.le_of_ble_eq_true rfl⟩) (g_preV hKN hP hD [1, 2] rfl (by decide) 0 1 rfl rfl) rfl rfl hl.1 rfl (lv_room (Nat.le_of_ble_eq_true rfl)) dX2_understands_27 ⟨Nat.le_of_ble_eq_true rfl, Nat.le_of_ble_eq_true rfl⟩) hP hD hS hA [1, 2] [0, 3] rfl rfl (by decide) (by decide) (fun u451 H locs qu451 hP hD hS => ?_)
  have hP : va_P (dC, dI) vwCl [(ad 0, .inl (cyB, 1600, .inl (fun _ => 0))), (ad 4, .inr (2, [.ref (ad 0), .int 0, .int 0, .ref (ad 3), .int 0, .int 0, .int 0, .long 0, .int 0, .int 0, .int (-1)])), (ad 3, .inr (1, [.ref (dd 0), .ref (dd 1), .ref (dd 2), .ref (dd 3), .int 0, .int 0, .int 0, .int 0, .int 2, .int 0, .int 0])), (dd 3, .inr (0, [.ref (dd 4), .ref (dd 5), .ref (dd 6), .int 0]))] H := hP
  have hD : va_D A [(ad 0, .inl (cyB, 1600, .inl (fun _ => 0))), (ad 4, .inr (2, [.ref (ad 0), .int 0, .int 0, .ref (ad 3), .int 0, .int 0, .int 0, .long 0, .int 0, .int 0, .int (-1)])), (ad 3, .inr (1, [.ref (dd 0), .ref (dd 1), .ref (dd 2), .ref (dd 3), .int 0, .int 0, .int 0, .int 0, .int 2, .int 0, .int 0])), (dd 3, .inr (0, [.ref (dd 4), .ref (dd 5), .ref (dd 6), .int 0]))] := hD
  refine lv_aload_n hx hb dX2_understands_30 rfl (lv_at hl 0 rfl) ?_
  refine lv_iconst (v := 0) hx hb dX2_understands_31 (by decide) ?_
  refine va_put (D := (dC, dI)) (ci := 2) (v := .int 0) (ty := .int) (C := RX2) (T := TX2) (N := 11) hx hb hts hi2 tyX2 tyX2_ok nmX2 hown hK hP hD hS 1 rfl rfl 8 (by decide) (hts _ (ow_m (k := 12) rfl)) (fun _ h9 => h9) rfl (by decide +kernel) rfl rfl (Nat.le_of_ble_eq_true rfl) dX2_understands_32 (fun H locs hP hD hS => ?_)
  have hP : va_P (dC, dI) vwCl [(ad 0, .inl (cyB, 1600, .inl (fun _ => 0))), (ad 4, .inr (2, [.ref (ad 0), .int 0, .int 0, .ref (ad 3), .int 0, .int 0, .int 0, .long 0, .int 0, .int 0, .int (-1)])), (ad 3, .inr (1, [.ref (dd 0), .ref (dd 1), .ref (dd 2), .ref (dd 3), .int 0, .int 0, .int 0, .int 0, .int 2, .int 0, .int 0])), (dd 3, .inr (0, [.ref (dd 4), .ref (dd 5), .ref (dd 6), .int 0]))] H := hP
  have hD : va_D A [(ad 0, .inl (cyB, 1600, .inl (fun _ => 0))), (ad 4, .inr (2, [.ref (ad 0), .int 0, .int 0, .ref (ad 3), .int 0, .int 0, .int 0, .long 0, .int 0, .int 0, .int (-1)])), (ad 3, .inr (1, [.ref (dd 0), .ref (dd 1), .ref (dd 2), .ref (dd 3), .int 0, .int 0, .int 0, .int 0, .int 2, .int 0, .int 0])), (dd 3, .inr (0, [.ref (dd 4), .ref (dd 5), .ref (dd 6), .int 0]))] := hD
  refine lv_aload_n hx hb dX2_understands_35 rfl (lv_at hl 0 rfl) ?_
  refine lv_iconst (v := 0) hx hb dX2_understands_36 (by decide) ?_
  refine va_put (D := (dC, dI)) (ci := 2) (v := .int 0) (ty := .int) (C := RX2) (T := TX2) (N := 11) hx hb hts hi2 tyX2 tyX2_ok nmX2 hown hK hP hD hS 1 rfl rfl 9 (by decide) (hts _ (ow_m (k := 13) rfl)) (fun _ h9 => h9) rfl (by decide +kernel) rfl rfl (Nat.le_of_ble_eq_true rfl) dX2_understands_37 (fun H locs hP hD hS => ?_)
  have hP : va_P (dC, dI) vwCl [(ad 0, .inl (cyB, 1600, .inl (fun _ => 0))), (ad 4, .inr (2, [.ref (ad 0), .int 0, .int 0, .ref (ad 3), .int 0, .int 0, .int 0, .long 0, .int 0, .int 0, .int (-1)])), (ad 3, .inr (1, [.ref (dd 0), .ref (dd 1), .ref (dd 2), .ref (dd 3), .int 0, .int 0, .int 0, .int 0, .int 2, .int 0, .int 0])), (dd 3, .inr (0, [.ref (dd 4), .ref (dd 5), .ref (dd 6), .int 0]))] H := hP
  have hD : va_D A [(ad 0, .inl (cyB, 1600, .inl (fun _ => 0))), (ad 4, .inr (2, [.ref (ad 0), .int 0, .int 0, .ref (ad 3), .int 0, .int 0, .int 0, .long 0, .int 0, .int 0, .int (-1)])), (ad 3, .inr (1, [.ref (dd 0), .ref (dd 1), .ref (dd 2), .ref (dd 3), .int 0, .int 0, .int 0, .int 0, .int 2, .int 0, .int 0])), (dd 3, .inr (0, [.ref (dd 4), .ref (dd 5), .ref (dd 6), .int 0]))] := hD
  refine lv_aload_n hx hb dX2_understands_40 rfl (lv_at hl 0 rfl) ?_
  refine lv_iconst (v := (-1)) hx hb dX2_understands_41 (by decide) ?_
  refine va_put (D := (dC, dI)) (ci := 2) (v := .int (-1)) (ty := .int) (C := RX2) (T := TX2) (N := 11) hx hb hts hi2 tyX2 tyX2_ok nmX2 hown hK hP hD hS 1 rfl rfl 10 (by decide) (hts _ (ow_m (k := 14) rfl)) (fun _ h9 => h9) rfl (by decide +kernel) rfl rfl (Nat.le_of_ble_eq_true rfl) dX2_understands_42 (fun H locs hP hD hS => ?_)
  have hP : va_P (dC, dI) vwCl [(ad 0, .inl (cyB, 1600, .inl (fun _ => 0))), (ad 4, .inr (2, [.ref (ad 0), .int 0, .int 0, .ref (ad 3), .int 0, .int 0, .int 0, .long 0, .int 0, .int 0, .int (-1)])), (ad 3, .inr (1, [.ref (dd 0), .ref (dd 1), .ref (dd 2), .ref (dd 3), .int 0, .int 0, .int 0, .int 0, .int 2, .int 0, .int 0])), (dd 3, .inr (0, [.ref (dd 4), .ref (dd 5), .ref (dd 6), .int 0]))] H := hP
  have hD : va_D A [(ad 0, .inl (cyB, 1600, .inl (fun _ => 0))), (ad 4, .inr (2, [.ref (ad 0), .int 0, .int 0, .ref (ad 3), .int 0, .int 0, .int 0, .long 0, .int 0, .int 0, .int (-1)])), (ad 3, .inr (1, [.ref (dd 0), .ref (dd 1), .ref (dd 2), .ref (dd 3), .int 0, .int 0, .int 0, .int 0, .int 2, .int 0, .int 0])), (dd 3, .inr (0, [.ref (dd 4), .ref (dd 5), .ref (dd 6), .int 0]))] := hD
  refine lv_aload_n hx hb dX2_understands_45 rfl (lv_at hl 0 rfl) ?_
  refine gf_v (wr := [(ad 0, .inl (cyB, 1600, .inl (fun _ => 0))), (ad 3, .inr (1, [.ref (dd 0), .ref (dd 1), .ref (dd 2), .ref (dd 3), .int 0, .int 0, .int 0, .int 0, .int 2, .int 0, .int 0])), (dd 3, .inr (0, [.ref (dd 4), .ref (dd 5), .ref (dd 6), .int 0]))]) (va_runV (As := []) (rest := []) hfix (k_X2_advance l dC dI cyB cyI cyJ cyZ cyO ad _) (cwV 0 hts (gi_V (ow_m (k := 15) rfl) (ow_m (k := 16) rfl) (ow_m (k := 17) rfl) (ow_m (k := 18) rfl) (sb_c (sb_r sb_l)) gd_k_X2_advance) rfl rfl rfl (by decide +kernel) ⟨Nat.le_of_ble_eq_true rfl, Nat.le_of_ble_eq_true rfl⟩) (g_preV hKN hP hD [1] rfl (by decide) 0 2 rfl rfl) rfl rfl hl.1 rfl (lv_room (Nat.le_of_ble_eq_true rfl)) dX2_understands_46 ⟨Nat.le_of_ble_eq_true rfl, Nat.le_of_ble_eq_true rfl⟩) hP hD hS hA [1] [0, 2, 3] rfl rfl (by decide) (by decide) (fun u455 H locs qu455 hP hD hS => ?_)
  have hP : va_P (dC, dI) vwCl [(ad 0, .inl (cyB, 1600, .inl (fun _ => 0))), (ad 3, .inr (1, [.ref (dd 0), .ref (dd 1), .ref (dd 2), .ref (dd 3), .int 0, .int 0, .int 0, .int 0, .int 2, .int 0, .int 0])), (dd 3, .inr (0, [.ref (dd 4), .ref (dd 5), .ref (dd 6), .int 0])), (ad 4, .inr (2, [.ref (ad 0), .int 0, .int 0, .ref (ad 3), .int 0, .int 0, .int 0, .long 0, .int 0, .int 0, .int (-1)]))] H := hP
  have hD : va_D A [(ad 0, .inl (cyB, 1600, .inl (fun _ => 0))), (ad 3, .inr (1, [.ref (dd 0), .ref (dd 1), .ref (dd 2), .ref (dd 3), .int 0, .int 0, .int 0, .int 0, .int 2, .int 0, .int 0])), (dd 3, .inr (0, [.ref (dd 4), .ref (dd 5), .ref (dd 6), .int 0])), (ad 4, .inr (2, [.ref (ad 0), .int 0, .int 0, .ref (ad 3), .int 0, .int 0, .int 0, .long 0, .int 0, .int 0, .int (-1)]))] := hD
  refine lv_iconst (v := 0) hx hb dX2_understands_49 (by decide) ?_
  refine lv_istore_n (lv' := [(3, .int 0), (0, .ref (ad 4)), (1, .int 0), (2, .ref (ad 3))]) hx hb dX2_understands_50 rfl hl (by decide) rfl (fun ls hl => ?_)
  refine lv_iload_n hx hb dX2_understands_51 rfl (lv_at hl 0 rfl) ?_
  refine lv_aload_n hx hb dX2_understands_52 rfl (lv_at hl 1 rfl) ?_
  refine va_get (D := (dC, dI)) (ci := 2) (v := .int 0) (C := RX2) (T := TX2) (N := 11) hx hb hts hi2 hown hK hP 3 rfl rfl 1 (by decide) (hts _ (ow_m (k := 5) rfl)) (fun _ h9 => h9) rfl dX2_understands_53 ?_
  refine lv_icmp_gt (tgt := 83) hx hb dX2_understands_56 (by decide) (fun c456 => absurd c456 (by decide)) (fun _ => ?_)
  refine lv_aload_n hx hb dX2_understands_59 rfl (lv_at hl 1 rfl) ?_
  refine gf_i (wr := [(ad 0, .inl (cyB, 1600, .inl (fun _ => 0))), (ad 3, .inr (1, [.ref (dd 0), .ref (dd 1), .ref (dd 2), .ref (dd 3), .int 0, .int 0, .int 0, .int 0, .int 2, .int 0, .int 0])), (dd 3, .inr (0, [.ref (dd 4), .ref (dd 5), .ref (dd 6), .int 0]))]) (va_runV (As := []) (rest := []) hfix (k_X2_isGood l dC dI cyB cyI cyJ cyZ cyO ad _) (cwV 0 hts (gi_V (ow_m (k := 19) rfl) (ow_m (k := 20) rfl) (ow_m (k := 21) rfl) (ow_m (k := 18) rfl) (sb_c (sb_r (sb_r sb_l))) gd_k_X2_isGood) rfl rfl rfl (by decide +kernel) ⟨Nat.le_of_ble_eq_true rfl, Nat.le_of_ble_eq_true rfl⟩) (g_preV hKN hP hD [3] rfl (by decide) 0 2 rfl rfl) rfl rfl hl.1 rfl (lv_room (Nat.le_of_ble_eq_true rfl)) dX2_understands_60 ⟨Nat.le_of_ble_eq_true rfl, Nat.le_of_ble_eq_true rfl⟩) hP hD hS hA [3] [0, 1, 2] rfl rfl (by decide) (by decide) (fun r458 u459 H locs qu459 hP hD hS => ?_)
  have hP : va_P (dC, dI) vwCl [(ad 0, .inl (cyB, 1600, .inl (fun _ => 0))), (ad 3, .inr (1, [.ref (dd 0), .ref (dd 1), .ref (dd 2), .ref (dd 3), .int 0, .int 0, .int 0, .int 0, .int 2, .int 0, .int 0])), (dd 3, .inr (0, [.ref (dd 4), .ref (dd 5), .ref (dd 6), .int 0])), (ad 4, .inr (2, [.ref (ad 0), .int 0, .int 0, .ref (ad 3), .int 0, .int 0, .int 0, .long 0, .int 0, .int 0, .int (-1)]))] H := hP
  have hD : va_D A [(ad 0, .inl (cyB, 1600, .inl (fun _ => 0))), (ad 3, .inr (1, [.ref (dd 0), .ref (dd 1), .ref (dd 2), .ref (dd 3), .int 0, .int 0, .int 0, .int 0, .int 2, .int 0, .int 0])), (dd 3, .inr (0, [.ref (dd 4), .ref (dd 5), .ref (dd 6), .int 0])), (ad 4, .inr (2, [.ref (ad 0), .int 0, .int 0, .ref (ad 3), .int 0, .int 0, .int 0, .long 0, .int 0, .int 0, .int (-1)]))] := hD
  refine tp_c (w := 1) qu459 ?_
  refine lv_if_eq (tgt := 83) hx hb dX2_understands_63 (by decide) (fun c460 => absurd c460 (by decide)) (fun _ => ?_)
  refine lv_aload_n hx hb dX2_understands_66 rfl (lv_at hl 1 rfl) ?_
  refine va_get (D := (dC, dI)) (ci := 2) (v := .int 0) (C := RX2) (T := TX2) (N := 11) hx hb hts hi2 hown hK hP 3 rfl rfl 4 (by decide) (hts _ (ow_m (k := 22) rfl)) (fun _ h9 => h9) rfl dX2_understands_67 ?_
  refine lv_if_eq (tgt := 83) hx hb dX2_understands_70 (by decide) (fun _ => ?_) (fun c461 => absurd (by decide) c461)
  refine lv_aload_n hx hb dX2_understands_83 rfl (lv_at hl 1 rfl) ?_
  refine gf_i (wr := [(ad 0, .inl (cyB, 1600, .inl (fun _ => 0))), (ad 3, .inr (1, [.ref (dd 0), .ref (dd 1), .ref (dd 2), .ref (dd 3), .int 0, .int 0, .int 0, .int 0, .int 2, .int 0, .int 0])), (dd 3, .inr (0, [.ref (dd 4), .ref (dd 5), .ref (dd 6), .int 0]))]) (va_runV (As := []) (rest := []) hfix (k_X2_isGood l dC dI cyB cyI cyJ cyZ cyO ad _) (cwV 0 hts (gi_V (ow_m (k := 19) rfl) (ow_m (k := 20) rfl) (ow_m (k := 21) rfl) (ow_m (k := 18) rfl) (sb_c (sb_r (sb_r sb_l))) gd_k_X2_isGood) rfl rfl rfl (by decide +kernel) ⟨Nat.le_of_ble_eq_true rfl, Nat.le_of_ble_eq_true rfl⟩) (g_preV hKN hP hD [3] rfl (by decide) 0 2 rfl rfl) rfl rfl hl.1 rfl (lv_room (Nat.le_of_ble_eq_true rfl)) dX2_understands_84 ⟨Nat.le_of_ble_eq_true rfl, Nat.le_of_ble_eq_true rfl⟩) hP hD hS hA [3] [0, 1, 2] rfl rfl (by decide) (by decide) (fun r463 u464 H locs qu464 hP hD hS => ?_)
  have hP : va_P (dC, dI) vwCl [(ad 0, .inl (cyB, 1600, .inl (fun _ => 0))), (ad 3, .inr (1, [.ref (dd 0), .ref (dd 1), .ref (dd 2), .ref (dd 3), .int 0, .int 0, .int 0, .int 0, .int 2, .int 0, .int 0])), (dd 3, .inr (0, [.ref (dd 4), .ref (dd 5), .ref (dd 6), .int 0])), (ad 4, .inr (2, [.ref (ad 0), .int 0, .int 0, .ref (ad 3), .int 0, .int 0, .int 0, .long 0, .int 0, .int 0, .int (-1)]))] H := hP
  have hD : va_D A [(ad 0, .inl (cyB, 1600, .inl (fun _ => 0))), (ad 3, .inr (1, [.ref (dd 0), .ref (dd 1), .ref (dd 2), .ref (dd 3), .int 0, .int 0, .int 0, .int 0, .int 2, .int 0, .int 0])), (dd 3, .inr (0, [.ref (dd 4), .ref (dd 5), .ref (dd 6), .int 0])), (ad 4, .inr (2, [.ref (ad 0), .int 0, .int 0, .ref (ad 3), .int 0, .int 0, .int 0, .long 0, .int 0, .int 0, .int (-1)]))] := hD
  refine tp_c (w := 1) qu464 ?_
  exact W.zret (v := 1) hx hb hr (by decide) (fun t ht hW => ⟨⟨1, (), rfl, rfl, cE.of ht hP hD [0, 1, 2, 3] (by decide) rfl⟩, hS.F ht⟩) hS.2.2 dX2_understands_87
def wo_k_X3_follow : List Cond := [.fieldLink RX3 9 "ReplicaChain$Rules" "plan" "LReplicaChain$Plan;"]
def wq_k_X3_follow : List Cond := .code yX3_follow cX3_follow 2 none :: (wo_k_X3_follow ++ (wsX30 ++ []))
theorem gd_k_X3_follow : Gd wq_k_X3_follow := gd_c (gd_a (gd_o (by decide +kernel)) (gd_a gd_u gd_0))
abbrev wc_k_X3_follow (cyB cyI cyJ cyZ cyO : ClassId) (ad : Nat → Nat) : va_W := [(ad 5, .inr (3, [.ref (ad 2), .int 0]))]
set_option maxHeartbeats 4000000 in
set_option maxRecDepth 100000 in
theorem k_X3_follow (l : Launch) (dC : Nat → ClassId) (dI : Nat → Nat → Nat) (cyB cyI cyJ cyZ cyO : ClassId) (ad : Nat → Nat) (sz : Nat) : Met l yX3_follow wq_k_X3_follow ({ frames := 0, cells := 0, slots := 0, locals := 0 }) (va_Pc [.ref (ad 5), .ref (ad 3)] (cB (dC, dI) (kT cyB cyI cyJ cyZ cyO) (wc_k_X3_follow cyB cyI cyJ cyZ cyO ad) sz)) (va_Qv (fun _ => True) (fun (u : Unit) t => cE (dC, dI) (va_A (wc_k_X3_follow cyB cyI cyJ cyZ cyO ad) sz) ([(ad 5, .inr (3, [.ref (ad 3), .int 0]))]) t.heap) (va_A (wc_k_X3_follow cyB cyI cyJ cyZ cyO ad) sz)) 0 0 (va_A (wc_k_X3_follow cyB cyI cyJ cyZ cyO ad) sz) := by
  refine Met.ofW (cc := cX3_follow) (maxL := 2) (ret := none) (by decide) rfl ?_
  intro p e s m args below meth c s₁ B hml hv
  obtain ⟨rfl, hsz, hP, hKN, hD0⟩ := hv
  have hx := B.exec
  have hb := B.bytes
  have hr := B.returns
  have hts := atoms_spec (ws := wq_k_X3_follow) B.pre
  have hown : s.vm.findClass RX3 = some m.cls := findClass_of_methodNamed B.named
  have hlocks := B.notSynchronized
  have hK := hKN.1
  have hfix : CallFix p m c cX3_follow 2 s [.ref (ad 5), .ref (ad 3)].toArray wq_k_X3_follow RX3 := ⟨hx, hb, hml, hown, hts⟩
  have hi3 : ∀ w ∈ wsX30, w ∈ wq_k_X3_follow := (sb_c sb_l)
  subst hsz
  have hD := hD0.self (sz := s.heap.size)
  generalize hAe : va_A (wc_k_X3_follow cyB cyI cyJ cyZ cyO ad) s.heap.size = A at hD ⊢
  have hA : ∀ q : Nat, s.heap.size ≤ q → A q := fun q h => by rw [← hAe]; exact Or.inr h
  have hS : va_S A s.heap s.heap [] := va_S.rf
  have hl := lv_entry ([.ref (ad 5), .ref (ad 3)]) (n := 2) (Nat.le_of_ble_eq_true rfl)
  rw [lg_entry_eq]
  generalize (lg_sl ([.ref (ad 5), .ref (ad 3)]) ++ List.replicate (2 - (lg_sl ([.ref (ad 5), .ref (ad 3)])).length) Slot.unset).toArray = ls at hl ⊢
  have hl : lv_has ls 2 [(0, .ref (ad 5)), (1, .ref (ad 3))] := hl
  refine lv_aload_n hx hb dX3_follow_0 rfl (lv_at hl 0 rfl) ?_
  refine lv_aload_n hx hb dX3_follow_1 rfl (lv_at hl 1 rfl) ?_
  refine va_put (D := (dC, dI)) (ci := 3) (v := .ref (ad 3)) (ty := .object "ReplicaChain$Plan") (C := RX3) (T := TX3) (N := 2) hx hb hts hi3 tyX3 tyX3_ok nmX3 hown hK hP hD hS 0 rfl rfl 0 (by decide) (hts _ (ow_m (k := 0) rfl)) (fun _ h9 => h9) rfl (by decide +kernel) rfl rfl (Nat.le_of_ble_eq_true rfl) dX3_follow_2 (fun H locs hP hD hS => ?_)
  have hP : va_P (dC, dI) vwCl [(ad 5, .inr (3, [.ref (ad 3), .int 0]))] H := hP
  have hD : va_D A [(ad 5, .inr (3, [.ref (ad 3), .int 0]))] := hD
  exact W.vret hx hb hr (fun t ht hW => ⟨⟨(), rfl, trivial, cE.of ht hP hD [0] (by decide) rfl⟩, hS.F ht⟩) hS.2.2 dX3_follow_5
def wo_k_X6_stateAt : List Cond := [.fieldLink RX6 43 "ReplicaChain" "kept" "[LReplicaChain$State;"]
def wq_k_X6_stateAt : List Cond := .code yX6_stateAt cX6_stateAt 3 (some (.object "ReplicaChain$State")) :: (wo_k_X6_stateAt ++ (wsX60 ++ []))
theorem gd_k_X6_stateAt : Gd wq_k_X6_stateAt := gd_c (gd_a (gd_o (by decide +kernel)) (gd_a gd_u gd_0))
abbrev wc_k_X6_stateAt (cyB cyI cyJ cyZ cyO : ClassId) (h0 : Nat) (ad : Nat → Nat) : va_W := [(h0, .inr (6, [.ref (ad 0), .int 0, .ref (ad 3), .ref (ad 2), .ref (ad 4), .ref (ad 5), .ref (ad 6), .int 0, .int 0, .ref (ad 9), .ref (ad 10), .ref (ad 11), .ref (ad 12), .ref (ad 13), .int 0, .ref (ad 15), .int 0, .ref (ad 17), .ref (ad 18), .int 0])), (ad 6, .inl (cyO, 41, .inr (.inr (.inr (.inr (va_up (fun _ => none) 0 (some (ad 9))))))))]
set_option maxHeartbeats 4000000 in
set_option maxRecDepth 100000 in
theorem k_X6_stateAt (l : Launch) (dC : Nat → ClassId) (dI : Nat → Nat → Nat) (cyB cyI cyJ cyZ cyO : ClassId) (h0 : Nat) (ad : Nat → Nat) (sz : Nat) : Met l yX6_stateAt wq_k_X6_stateAt ({ frames := 0, cells := 0, slots := 0, locals := 0 }) (va_Pc [.ref h0, .int 0] (cB (dC, dI) (kT cyB cyI cyJ cyZ cyO) (wc_k_X6_stateAt cyB cyI cyJ cyZ cyO h0 ad) sz)) (va_Qr (fun _ => True) (fun (u : Unit) (ra : Nat) t => ra = ad 9 ∧ cE (dC, dI) (va_A (wc_k_X6_stateAt cyB cyI cyJ cyZ cyO h0 ad) sz) ([(h0, .inr (6, [.ref (ad 0), .int 0, .ref (ad 3), .ref (ad 2), .ref (ad 4), .ref (ad 5), .ref (ad 6), .int 0, .int 0, .ref (ad 9), .ref (ad 10), .ref (ad 11), .ref (ad 12), .ref (ad 13), .int 0, .ref (ad 15), .int 0, .ref (ad 17), .ref (ad 18), .int 0])), (ad 6, .inl (cyO, 41, .inr (.inr (.inr (.inr (va_up (fun _ => none) 0 (some (ad 9))))))))]) t.heap) (va_A (wc_k_X6_stateAt cyB cyI cyJ cyZ cyO h0 ad) sz)) 0 0 (va_A (wc_k_X6_stateAt cyB cyI cyJ cyZ cyO h0 ad) sz) := by
  refine Met.ofW (cc := cX6_stateAt) (maxL := 3) (ret := (some (.object "ReplicaChain$State"))) (by decide) rfl ?_
  intro p e s m args below meth c s₁ B hml hv
  obtain ⟨rfl, hsz, hP, hKN, hD0⟩ := hv
  have hx := B.exec
  have hb := B.bytes
  have hr := B.returns
  have hts := atoms_spec (ws := wq_k_X6_stateAt) B.pre
  have hown : s.vm.findClass RX6 = some m.cls := findClass_of_methodNamed B.named
  have hlocks := B.notSynchronized
  have hK := hKN.1
  have hfix : CallFix p m c cX6_stateAt 3 s [.ref h0, .int 0].toArray wq_k_X6_stateAt RX6 := ⟨hx, hb, hml, hown, hts⟩
  have hi6 : ∀ w ∈ wsX60, w ∈ wq_k_X6_stateAt := (sb_c sb_l)
  subst hsz
  have hD := hD0.self (sz := s.heap.size)
  generalize hAe : va_A (wc_k_X6_stateAt cyB cyI cyJ cyZ cyO h0 ad) s.heap.size = A at hD ⊢
  have hA : ∀ q : Nat, s.heap.size ≤ q → A q := fun q h => by rw [← hAe]; exact Or.inr h
  have hS : va_S A s.heap s.heap [] := va_S.rf
  have hl := lv_entry ([.ref h0, .int 0]) (n := 3) (Nat.le_of_ble_eq_true rfl)
  rw [lg_entry_eq]
  generalize (lg_sl ([.ref h0, .int 0]) ++ List.replicate (3 - (lg_sl ([.ref h0, .int 0])).length) Slot.unset).toArray = ls at hl ⊢
  have hl : lv_has ls 3 [(0, .ref h0), (1, .int 0)] := hl
  refine lv_aload_n hx hb dX6_stateAt_0 rfl (lv_at hl 0 rfl) ?_
  refine va_get (D := (dC, dI)) (ci := 6) (v := .ref (ad 6)) (C := RX6) (T := TX6) (N := 20) hx hb hts hi6 hown hK hP 0 rfl rfl 6 (by decide) (hts _ (ow_m (k := 0) rfl)) (fun _ h9 => h9) rfl dX6_stateAt_1 ?_
  refine lv_iload_n hx hb dX6_stateAt_4 rfl (lv_at hl 1 rfl) ?_
  refine va_aldq hx hb hK hP 1 4 rfl rfl (vp_i (a := 0) (by decide) (by decide) (by decide)) dX6_stateAt_5 ?_
  refine tp_v (w := .ref (ad 9)) rfl ?_
  refine lv_astore_n (lv' := [(2, .ref (ad 9)), (0, .ref h0), (1, .int 0)]) hx hb dX6_stateAt_6 rfl hl (by decide) rfl (fun ls hl => ?_)
  refine lv_aload_n hx hb dX6_stateAt_7 rfl (lv_at hl 0 rfl) ?_
  refine lv_ifnonnull (tgt := 26) hx hb dX6_stateAt_8 (by decide) ?_
  refine lv_aload_n hx hb dX6_stateAt_26 rfl (lv_at hl 0 rfl) ?_
  exact W.aret (v := .ref (ad 9)) hx hb hr (Or.inl ⟨_, rfl⟩) (Or.inr ⟨_, rfl⟩) (fun t ht hW => ⟨⟨(), ad 9, rfl, trivial, rfl, cE.of ht hP hD [0, 1] (by decide) rfl⟩, hS.F ht⟩) hS.2.2 dX6_stateAt_27
def wo_k_X5_startAs : List Cond := [.fieldLink RX5 37 "ReplicaChain$Plan" "memberCount" "I", .fieldLink RX5 42 "ReplicaChain$State" "size" "I", .fieldLink RX5 15 "ReplicaChain$State" "has" "[I", .fieldLink RX5 18 "ReplicaChain$State" "clean" "[I", .fieldLink RX5 33 "ReplicaChain$State" "copier" "I", .fieldLink RX5 48 "ReplicaChain$State" "copyLeft" "I", .fieldLink RX5 51 "ReplicaChain$State" "tick" "I", .fieldLink RX5 54 "ReplicaChain$Plan" "draw" "I", .fieldLink RX5 57 "ReplicaChain$State" "seed" "I", .fieldLink RX5 60 "ReplicaChain$State" "dropped" "I"]
def wq_k_X5_startAs : List Cond := .code yX5_startAs cX5_startAs 3 none :: (wo_k_X5_startAs ++ (wsX10 ++ (wsX50 ++ [])))
theorem gd_k_X5_startAs : Gd wq_k_X5_startAs := gd_c (gd_a (gd_o (by decide +kernel)) (gd_a gd_u (gd_a gd_u gd_0)))
abbrev wc_k_X5_startAs (cyB cyI cyJ cyZ cyO : ClassId) (ad : Nat → Nat) (sd : Nat → Nat) (dd : Nat → Nat) : va_W := [(ad 9, .inr (5, [.ref (sd 0), .ref (sd 1), .ref (sd 2), .ref (sd 3), .ref (sd 4), .ref (sd 5), .ref (sd 6), .int 0, .int (-1), .int 0, .int 0, .int 0, .int 0])), (sd 1, .inl (cyI, 8, .inl (fun _ => 0))), (sd 2, .inl (cyI, 8, .inl (fun _ => 0))), (ad 3, .inr (1, [.ref (dd 0), .ref (dd 1), .ref (dd 2), .ref (dd 3), .int 0, .int 0, .int 0, .int 0, .int 2, .int 0, .int 0]))]
set_option maxHeartbeats 4000000 in
set_option maxRecDepth 100000 in
theorem k_X5_startAs (l : Launch) (dC : Nat → ClassId) (dI : Nat → Nat → Nat) (cyB cyI cyJ cyZ cyO : ClassId) (ad : Nat → Nat) (sd : Nat → Nat) (dd : Nat → Nat) (sz : Nat) : Met l yX5_startAs wq_k_X5_startAs ({ frames := 0, cells := 0, slots := 0, locals := 0 }) (va_Pc [.ref (ad 9), .ref (ad 3)] (cB (dC, dI) (kT cyB cyI cyJ cyZ cyO) (wc_k_X5_startAs cyB cyI cyJ cyZ cyO ad sd dd) sz)) (va_Qv (fun _ => True) (fun (u : Unit) t => cE (dC, dI) (va_A (wc_k_X5_startAs cyB cyI cyJ cyZ cyO ad sd dd) sz) ([(ad 9, .inr (5, [.ref (sd 0), .ref (sd 1), .ref (sd 2), .ref (sd 3), .ref (sd 4), .ref (sd 5), .ref (sd 6), .int 0, .int (-1), .int 0, .int 0, .int 0, .int 0])), (sd 1, .inl (cyI, 8, .inl (fun _ => 0))), (sd 2, .inl (cyI, 8, .inl (fun _ => 0))), (ad 3, .inr (1, [.ref (dd 0), .ref (dd 1), .ref (dd 2), .ref (dd 3), .int 0, .int 0, .int 0, .int 0, .int 2, .int 0, .int 0]))]) t.heap) (va_A (wc_k_X5_startAs cyB cyI cyJ cyZ cyO ad sd dd) sz)) 0 0 (va_A (wc_k_X5_startAs cyB cyI cyJ cyZ cyO ad sd dd) sz) := by
  refine Met.ofW (cc := cX5_startAs) (maxL := 3) (ret := none) (by decide) rfl ?_
  intro p e s m args below meth c s₁ B hml hv
  obtain ⟨rfl, hsz, hP, hKN, hD0⟩ := hv
  have hx := B.exec
  have hb := B.bytes
  have hr := B.returns
  have hts := atoms_spec (ws := wq_k_X5_startAs) B.pre
  have hown : s.vm.findClass RX5 = some m.cls := findClass_of_methodNamed B.named
  have hlocks := B.notSynchronized
  have hK := hKN.1
  have hfix : CallFix p m c cX5_startAs 3 s [.ref (ad 9), .ref (ad 3)].toArray wq_k_X5_startAs RX5 := ⟨hx, hb, hml, hown, hts⟩
  have hi1 : ∀ w ∈ wsX10, w ∈ wq_k_X5_startAs := (sb_c sb_l)
  have hi5 : ∀ w ∈ wsX50, w ∈ wq_k_X5_startAs := (sb_c (sb_r sb_l))
  subst hsz
  have hD := hD0.self (sz := s.heap.size)
  generalize hAe : va_A (wc_k_X5_startAs cyB cyI cyJ cyZ cyO ad sd dd) s.heap.size = A at hD ⊢
  have hA : ∀ q : Nat, s.heap.size ≤ q → A q := fun q h => by rw [← hAe]; exact Or.inr h
  have hS : va_S A s.heap s.heap [] := va_S.rf
  have hl := lv_entry ([.ref (ad 9), .ref (ad 3)]) (n := 3) (Nat.le_of_ble_eq_true rfl)
  rw [lg_entry_eq]
  generalize (lg_sl ([.ref (ad 9), .ref (ad 3)]) ++ List.replicate (3 - (lg_sl ([.ref (ad 9), .ref (ad 3)])).length) Slot.unset).toArray = ls at hl ⊢
  have hl : lv_has ls 3 [(0, .ref (ad 9)), (1, .ref (ad 3))] := hl
  refine lv_aload_n hx hb dX5_startAs_0 rfl (lv_at hl 0 rfl) ?_
  refine lv_aload_n hx hb dX5_startAs_1 rfl (lv_at hl 1 rfl) ?_
  refine va_get (D := (dC, dI)) (ci := 1) (v := .int 0) (C := RX1) (T := TX1) (N := 11) hx hb hts hi1 hown hK hP 3 rfl rfl 4 (by decide) (hts _ (ow_m (k := 0) rfl)) (fun _ h9 => h9) rfl dX5_startAs_2 ?_
  refine va_put (D := (dC, dI)) (ci := 5) (v := .int 0) (ty := .int) (C := RX5) (T := TX5) (N := 13) hx hb hts hi5 tyX5 tyX5_ok nmX5 hown hK hP hD hS 0 rfl rfl 7 (by decide) (hts _ (ow_m (k := 1) rfl)) (fun _ h9 => h9) rfl (by decide +kernel) rfl rfl (Nat.le_of_ble_eq_true rfl) dX5_startAs_5 (fun H locs hP hD hS => ?_)
  have hP : va_P (dC, dI) vwCl [(ad 9, .inr (5, [.ref (sd 0), .ref (sd 1), .ref (sd 2), .ref (sd 3), .ref (sd 4), .ref (sd 5), .ref (sd 6), .int 0, .int (-1), .int 0, .int 0, .int 0, .int 0])), (sd 1, .inl (cyI, 8, .inl (fun _ => 0))), (sd 2, .inl (cyI, 8, .inl (fun _ => 0))), (ad 3, .inr (1, [.ref (dd 0), .ref (dd 1), .ref (dd 2), .ref (dd 3), .int 0, .int 0, .int 0, .int 0, .int 2, .int 0, .int 0]))] H := hP
  have hD : va_D A [(ad 9, .inr (5, [.ref (sd 0), .ref (sd 1), .ref (sd 2), .ref (sd 3), .ref (sd 4), .ref (sd 5), .ref (sd 6), .int 0, .int (-1), .int 0, .int 0, .int 0, .int 0])), (sd 1, .inl (cyI, 8, .inl (fun _ => 0))), (sd 2, .inl (cyI, 8, .inl (fun _ => 0))), (ad 3, .inr (1, [.ref (dd 0), .ref (dd 1), .ref (dd 2), .ref (dd 3), .int 0, .int 0, .int 0, .int 0, .int 2, .int 0, .int 0]))] := hD
  refine lv_iconst (v := 0) hx hb dX5_startAs_8 (by decide) ?_
  refine lv_istore_n (lv' := [(2, .int 0), (0, .ref (ad 9)), (1, .ref (ad 3))]) hx hb dX5_startAs_9 rfl hl (by decide) rfl (fun ls hl => ?_)
  refine lv_iload_n hx hb dX5_startAs_10 rfl (lv_at hl 0 rfl) ?_
  refine lv_aload_n hx hb dX5_startAs_11 rfl (lv_at hl 1 rfl) ?_
  refine va_get (D := (dC, dI)) (ci := 5) (v := .int 0) (C := RX5) (T := TX5) (N := 13) hx hb hts hi5 hown hK hP 0 rfl rfl 7 (by decide) (hts _ (ow_m (k := 1) rfl)) (fun _ h9 => h9) rfl dX5_startAs_12 ?_
  refine lv_icmp_ge (tgt := 36) hx hb dX5_startAs_15 (by decide) (fun _ => ?_) (fun c482 => absurd (by decide) c482)
  refine lv_iconst (v := 0) hx hb dX5_startAs_36 (by decide) ?_
  refine lv_istore_n (lv' := [(2, .int 0), (0, .ref (ad 9)), (1, .ref (ad 3))]) hx hb dX5_startAs_37 rfl hl (by decide) rfl (fun ls hl => ?_)
  refine lv_iload_n hx hb dX5_startAs_38 rfl (lv_at hl 0 rfl) ?_
  refine lv_bipush (v := 8) hx hb dX5_startAs_39 (by decide) ?_
  refine lv_icmp_ge (tgt := 64) hx hb dX5_startAs_41 (by decide) (fun c483 => absurd c483 (by decide)) (fun _ => ?_)
  refine lv_aload_n hx hb dX5_startAs_44 rfl (lv_at hl 1 rfl) ?_
  refine va_get (D := (dC, dI)) (ci := 5) (v := .ref (sd 1)) (C := RX5) (T := TX5) (N := 13) hx hb hts hi5 hown hK hP 0 rfl rfl 1 (by decide) (hts _ (ow_m (k := 2) rfl)) (fun _ h9 => h9) rfl dX5_startAs_45 ?_
  refine lv_iload_n hx hb dX5_startAs_48 rfl (lv_at hl 0 rfl) ?_
  refine lv_iconst (v := 0) hx hb dX5_startAs_49 (by decide) ?_
  refine va_iast hx hb hK hP hD hS 1 1 rfl rfl (vp_i (a := 0) (by decide) (by decide) (by decide)) dX5_startAs_50 (fun H locs hP hD hS => ?_)
  have hP : va_P (dC, dI) vwCl [(ad 9, .inr (5, [.ref (sd 0), .ref (sd 1), .ref (sd 2), .ref (sd 3), .ref (sd 4), .ref (sd 5), .ref (sd 6), .int 0, .int (-1), .int 0, .int 0, .int 0, .int 0])), (sd 1, .inl (cyI, 8, .inl (upd (fun _ => 0) 0 0))), (sd 2, .inl (cyI, 8, .inl (fun _ => 0))), (ad 3, .inr (1, [.ref (dd 0), .ref (dd 1), .ref (dd 2), .ref (dd 3), .int 0, .int 0, .int 0, .int 0, .int 2, .int 0, .int 0]))] H := hP
  have hD : va_D A [(ad 9, .inr (5, [.ref (sd 0), .ref (sd 1), .ref (sd 2), .ref (sd 3), .ref (sd 4), .ref (sd 5), .ref (sd 6), .int 0, .int (-1), .int 0, .int 0, .int 0, .int 0])), (sd 1, .inl (cyI, 8, .inl (upd (fun _ => 0) 0 0))), (sd 2, .inl (cyI, 8, .inl (fun _ => 0))), (ad 3, .inr (1, [.ref (dd 0), .ref (dd 1), .ref (dd 2), .ref (dd 3), .int 0, .int 0, .int 0, .int 0, .int 2, .int 0, .int 0]))] := hD
  rw [upd_z] at hP hD
  refine lv_aload_n hx hb dX5_startAs_51 rfl (lv_at hl 1 rfl) ?_
  refine va_get (D := (dC, dI)) (ci := 5) (v := .ref (sd 2)) (C := RX5) (T := TX5) (N := 13) hx hb hts hi5 hown hK hP 0 rfl rfl 2 (by decide) (hts _ (ow_m (k := 3) rfl)) (fun _ h9 => h9) rfl dX5_startAs_52 ?_
  refine lv_iload_n hx hb dX5_startAs_55 rfl (lv_at hl 0 rfl) ?_
  refine lv_iconst (v := 0) hx hb dX5_startAs_56 (by decide) ?_
  refine va_iast hx hb hK hP hD hS 2 1 rfl rfl (vp_i (a := 0) (by decide) (by decide) (by decide)) dX5_startAs_57 (fun H locs hP hD hS => ?_)
  have hP : va_P (dC, dI) vwCl [(ad 9, .inr (5, [.ref (sd 0), .ref (sd 1), .ref (sd 2), .ref (sd 3), .ref (sd 4), .ref (sd 5), .ref (sd 6), .int 0, .int (-1), .int 0, .int 0, .int 0, .int 0])), (sd 1, .inl (cyI, 8, .inl (fun _ => 0))), (sd 2, .inl (cyI, 8, .inl (upd (fun _ => 0) 0 0))), (ad 3, .inr (1, [.ref (dd 0), .ref (dd 1), .ref (dd 2), .ref (dd 3), .int 0, .int 0, .int 0, .int 0, .int 2, .int 0, .int 0]))] H := hP
  have hD : va_D A [(ad 9, .inr (5, [.ref (sd 0), .ref (sd 1), .ref (sd 2), .ref (sd 3), .ref (sd 4), .ref (sd 5), .ref (sd 6), .int 0, .int (-1), .int 0, .int 0, .int 0, .int 0])), (sd 1, .inl (cyI, 8, .inl (fun _ => 0))), (sd 2, .inl (cyI, 8, .inl (upd (fun _ => 0) 0 0))), (ad 3, .inr (1, [.ref (dd 0), .ref (dd 1), .ref (dd 2), .ref (dd 3), .int 0, .int 0, .int 0, .int 0, .int 2, .int 0, .int 0]))] := hD
  rw [upd_z] at hP hD
  refine lv_iinc (v := 1) (lv' := [(2, .int 1), (0, .ref (ad 9)), (1, .ref (ad 3))]) hx hb dX5_startAs_58 hl (k := 0) rfl (by decide) (by decide) rfl (fun ls hl => ?_)
  refine lv_goto (tgt := 38) hx hb dX5_startAs_61 (by decide) ?_
  refine lv_iload_n hx hb dX5_startAs_38 rfl (lv_at hl 0 rfl) ?_
  refine lv_bipush (v := 8) hx hb dX5_startAs_39 (by decide) ?_
  refine lv_icmp_ge (tgt := 64) hx hb dX5_startAs_41 (by decide) (fun c484 => absurd c484 (by decide)) (fun _ => ?_)
  refine lv_aload_n hx hb dX5_startAs_44 rfl (lv_at hl 1 rfl) ?_
  refine va_get (D := (dC, dI)) (ci := 5) (v := .ref (sd 1)) (C := RX5) (T := TX5) (N := 13) hx hb hts hi5 hown hK hP 0 rfl rfl 1 (by decide) (hts _ (ow_m (k := 2) rfl)) (fun _ h9 => h9) rfl dX5_startAs_45 ?_
  refine lv_iload_n hx hb dX5_startAs_48 rfl (lv_at hl 0 rfl) ?_
  refine lv_iconst (v := 0) hx hb dX5_startAs_49 (by decide) ?_
  refine va_iast hx hb hK hP hD hS 1 1 rfl rfl (vp_i (a := 1) (by decide) (by decide) (by decide)) dX5_startAs_50 (fun H locs hP hD hS => ?_)
  have hP : va_P (dC, dI) vwCl [(ad 9, .inr (5, [.ref (sd 0), .ref (sd 1), .ref (sd 2), .ref (sd 3), .ref (sd 4), .ref (sd 5), .ref (sd 6), .int 0, .int (-1), .int 0, .int 0, .int 0, .int 0])), (sd 1, .inl (cyI, 8, .inl (upd (fun _ => 0) 1 0))), (sd 2, .inl (cyI, 8, .inl (fun _ => 0))), (ad 3, .inr (1, [.ref (dd 0), .ref (dd 1), .ref (dd 2), .ref (dd 3), .int 0, .int 0, .int 0, .int 0, .int 2, .int 0, .int 0]))] H := hP
  have hD : va_D A [(ad 9, .inr (5, [.ref (sd 0), .ref (sd 1), .ref (sd 2), .ref (sd 3), .ref (sd 4), .ref (sd 5), .ref (sd 6), .int 0, .int (-1), .int 0, .int 0, .int 0, .int 0])), (sd 1, .inl (cyI, 8, .inl (upd (fun _ => 0) 1 0))), (sd 2, .inl (cyI, 8, .inl (fun _ => 0))), (ad 3, .inr (1, [.ref (dd 0), .ref (dd 1), .ref (dd 2), .ref (dd 3), .int 0, .int 0, .int 0, .int 0, .int 2, .int 0, .int 0]))] := hD
  rw [upd_z] at hP hD
  refine lv_aload_n hx hb dX5_startAs_51 rfl (lv_at hl 1 rfl) ?_
  refine va_get (D := (dC, dI)) (ci := 5) (v := .ref (sd 2)) (C := RX5) (T := TX5) (N := 13) hx hb hts hi5 hown hK hP 0 rfl rfl 2 (by decide) (hts _ (ow_m (k := 3) rfl)) (fun _ h9 => h9) rfl dX5_startAs_52 ?_
  refine lv_iload_n hx hb dX5_startAs_55 rfl (lv_at hl 0 rfl) ?_
  refine lv_iconst (v := 0) hx hb dX5_startAs_56 (by decide) ?_
  refine va_iast hx hb hK hP hD hS 2 1 rfl rfl (vp_i (a := 1) (by decide) (by decide) (by decide)) dX5_startAs_57 (fun H locs hP hD hS => ?_)
  have hP : va_P (dC, dI) vwCl [(ad 9, .inr (5, [.ref (sd 0), .ref (sd 1), .ref (sd 2), .ref (sd 3), .ref (sd 4), .ref (sd 5), .ref (sd 6), .int 0, .int (-1), .int 0, .int 0, .int 0, .int 0])), (sd 1, .inl (cyI, 8, .inl (fun _ => 0))), (sd 2, .inl (cyI, 8, .inl (upd (fun _ => 0) 1 0))), (ad 3, .inr (1, [.ref (dd 0), .ref (dd 1), .ref (dd 2), .ref (dd 3), .int 0, .int 0, .int 0, .int 0, .int 2, .int 0, .int 0]))] H := hP
  have hD : va_D A [(ad 9, .inr (5, [.ref (sd 0), .ref (sd 1), .ref (sd 2), .ref (sd 3), .ref (sd 4), .ref (sd 5), .ref (sd 6), .int 0, .int (-1), .int 0, .int 0, .int 0, .int 0])), (sd 1, .inl (cyI, 8, .inl (fun _ => 0))), (sd 2, .inl (cyI, 8, .inl (upd (fun _ => 0) 1 0))), (ad 3, .inr (1, [.ref (dd 0), .ref (dd 1), .ref (dd 2), .ref (dd 3), .int 0, .int 0, .int 0, .int 0, .int 2, .int 0, .int 0]))] := hD
  rw [upd_z] at hP hD
  refine lv_iinc (v := 2) (lv' := [(2, .int 2), (0, .ref (ad 9)), (1, .ref (ad 3))]) hx hb dX5_startAs_58 hl (k := 0) rfl (by decide) (by decide) rfl (fun ls hl => ?_)
  refine lv_goto (tgt := 38) hx hb dX5_startAs_61 (by decide) ?_
  refine lv_iload_n hx hb dX5_startAs_38 rfl (lv_at hl 0 rfl) ?_
  refine lv_bipush (v := 8) hx hb dX5_startAs_39 (by decide) ?_
  refine lv_icmp_ge (tgt := 64) hx hb dX5_startAs_41 (by decide) (fun c485 => absurd c485 (by decide)) (fun _ => ?_)
  refine lv_aload_n hx hb dX5_startAs_44 rfl (lv_at hl 1 rfl) ?_
  refine va_get (D := (dC, dI)) (ci := 5) (v := .ref (sd 1)) (C := RX5) (T := TX5) (N := 13) hx hb hts hi5 hown hK hP 0 rfl rfl 1 (by decide) (hts _ (ow_m (k := 2) rfl)) (fun _ h9 => h9) rfl dX5_startAs_45 ?_
  refine lv_iload_n hx hb dX5_startAs_48 rfl (lv_at hl 0 rfl) ?_
  refine lv_iconst (v := 0) hx hb dX5_startAs_49 (by decide) ?_
  refine va_iast hx hb hK hP hD hS 1 1 rfl rfl (vp_i (a := 2) (by decide) (by decide) (by decide)) dX5_startAs_50 (fun H locs hP hD hS => ?_)
  have hP : va_P (dC, dI) vwCl [(ad 9, .inr (5, [.ref (sd 0), .ref (sd 1), .ref (sd 2), .ref (sd 3), .ref (sd 4), .ref (sd 5), .ref (sd 6), .int 0, .int (-1), .int 0, .int 0, .int 0, .int 0])), (sd 1, .inl (cyI, 8, .inl (upd (fun _ => 0) 2 0))), (sd 2, .inl (cyI, 8, .inl (fun _ => 0))), (ad 3, .inr (1, [.ref (dd 0), .ref (dd 1), .ref (dd 2), .ref (dd 3), .int 0, .int 0, .int 0, .int 0, .int 2, .int 0, .int 0]))] H := hP
  have hD : va_D A [(ad 9, .inr (5, [.ref (sd 0), .ref (sd 1), .ref (sd 2), .ref (sd 3), .ref (sd 4), .ref (sd 5), .ref (sd 6), .int 0, .int (-1), .int 0, .int 0, .int 0, .int 0])), (sd 1, .inl (cyI, 8, .inl (upd (fun _ => 0) 2 0))), (sd 2, .inl (cyI, 8, .inl (fun _ => 0))), (ad 3, .inr (1, [.ref (dd 0), .ref (dd 1), .ref (dd 2), .ref (dd 3), .int 0, .int 0, .int 0, .int 0, .int 2, .int 0, .int 0]))] := hD
  rw [upd_z] at hP hD
  refine lv_aload_n hx hb dX5_startAs_51 rfl (lv_at hl 1 rfl) ?_
  refine va_get (D := (dC, dI)) (ci := 5) (v := .ref (sd 2)) (C := RX5) (T := TX5) (N := 13) hx hb hts hi5 hown hK hP 0 rfl rfl 2 (by decide) (hts _ (ow_m (k := 3) rfl)) (fun _ h9 => h9) rfl dX5_startAs_52 ?_
  refine lv_iload_n hx hb dX5_startAs_55 rfl (lv_at hl 0 rfl) ?_
  refine lv_iconst (v := 0) hx hb dX5_startAs_56 (by decide) ?_
  refine va_iast hx hb hK hP hD hS 2 1 rfl rfl (vp_i (a := 2) (by decide) (by decide) (by decide)) dX5_startAs_57 (fun H locs hP hD hS => ?_)
  have hP : va_P (dC, dI) vwCl [(ad 9, .inr (5, [.ref (sd 0), .ref (sd 1), .ref (sd 2), .ref (sd 3), .ref (sd 4), .ref (sd 5), .ref (sd 6), .int 0, .int (-1), .int 0, .int 0, .int 0, .int 0])), (sd 1, .inl (cyI, 8, .inl (fun _ => 0))), (sd 2, .inl (cyI, 8, .inl (upd (fun _ => 0) 2 0))), (ad 3, .inr (1, [.ref (dd 0), .ref (dd 1), .ref (dd 2), .ref (dd 3), .int 0, .int 0, .int 0, .int 0, .int 2, .int 0, .int 0]))] H := hP
  have hD : va_D A [(ad 9, .inr (5, [.ref (sd 0), .ref (sd 1), .ref (sd 2), .ref (sd 3), .ref (sd 4), .ref (sd 5), .ref (sd 6), .int 0, .int (-1), .int 0, .int 0, .int 0, .int 0])), (sd 1, .inl (cyI, 8, .inl (fun _ => 0))), (sd 2, .inl (cyI, 8, .inl (upd (fun _ => 0) 2 0))), (ad 3, .inr (1, [.ref (dd 0), .ref (dd 1), .ref (dd 2), .ref (dd 3), .int 0, .int 0, .int 0, .int 0, .int 2, .int 0, .int 0]))] := hD
  rw [upd_z] at hP hD
  refine lv_iinc (v := 3) (lv' := [(2, .int 3), (0, .ref (ad 9)), (1, .ref (ad 3))]) hx hb dX5_startAs_58 hl (k := 0) rfl (by decide) (by decide) rfl (fun ls hl => ?_)
  refine lv_goto (tgt := 38) hx hb dX5_startAs_61 (by decide) ?_
  refine lv_iload_n hx hb dX5_startAs_38 rfl (lv_at hl 0 rfl) ?_
  refine lv_bipush (v := 8) hx hb dX5_startAs_39 (by decide) ?_
  refine lv_icmp_ge (tgt := 64) hx hb dX5_startAs_41 (by decide) (fun c486 => absurd c486 (by decide)) (fun _ => ?_)
  refine lv_aload_n hx hb dX5_startAs_44 rfl (lv_at hl 1 rfl) ?_
  refine va_get (D := (dC, dI)) (ci := 5) (v := .ref (sd 1)) (C := RX5) (T := TX5) (N := 13) hx hb hts hi5 hown hK hP 0 rfl rfl 1 (by decide) (hts _ (ow_m (k := 2) rfl)) (fun _ h9 => h9) rfl dX5_startAs_45 ?_
  refine lv_iload_n hx hb dX5_startAs_48 rfl (lv_at hl 0 rfl) ?_
  refine lv_iconst (v := 0) hx hb dX5_startAs_49 (by decide) ?_
  refine va_iast hx hb hK hP hD hS 1 1 rfl rfl (vp_i (a := 3) (by decide) (by decide) (by decide)) dX5_startAs_50 (fun H locs hP hD hS => ?_)
  have hP : va_P (dC, dI) vwCl [(ad 9, .inr (5, [.ref (sd 0), .ref (sd 1), .ref (sd 2), .ref (sd 3), .ref (sd 4), .ref (sd 5), .ref (sd 6), .int 0, .int (-1), .int 0, .int 0, .int 0, .int 0])), (sd 1, .inl (cyI, 8, .inl (upd (fun _ => 0) 3 0))), (sd 2, .inl (cyI, 8, .inl (fun _ => 0))), (ad 3, .inr (1, [.ref (dd 0), .ref (dd 1), .ref (dd 2), .ref (dd 3), .int 0, .int 0, .int 0, .int 0, .int 2, .int 0, .int 0]))] H := hP
  have hD : va_D A [(ad 9, .inr (5, [.ref (sd 0), .ref (sd 1), .ref (sd 2), .ref (sd 3), .ref (sd 4), .ref (sd 5), .ref (sd 6), .int 0, .int (-1), .int 0, .int 0, .int 0, .int 0])), (sd 1, .inl (cyI, 8, .inl (upd (fun _ => 0) 3 0))), (sd 2, .inl (cyI, 8, .inl (fun _ => 0))), (ad 3, .inr (1, [.ref (dd 0), .ref (dd 1), .ref (dd 2), .ref (dd 3), .int 0, .int 0, .int 0, .int 0, .int 2, .int 0, .int 0]))] := hD
  rw [upd_z] at hP hD
  refine lv_aload_n hx hb dX5_startAs_51 rfl (lv_at hl 1 rfl) ?_
  refine va_get (D := (dC, dI)) (ci := 5) (v := .ref (sd 2)) (C := RX5) (T := TX5) (N := 13) hx hb hts hi5 hown hK hP 0 rfl rfl 2 (by decide) (hts _ (ow_m (k := 3) rfl)) (fun _ h9 => h9) rfl dX5_startAs_52 ?_
  refine lv_iload_n hx hb dX5_startAs_55 rfl (lv_at hl 0 rfl) ?_
  refine lv_iconst (v := 0) hx hb dX5_startAs_56 (by decide) ?_
  refine va_iast hx hb hK hP hD hS 2 1 rfl rfl (vp_i (a := 3) (by decide) (by decide) (by decide)) dX5_startAs_57 (fun H locs hP hD hS => ?_)
  have hP : va_P (dC, dI) vwCl [(ad 9, .inr (5, [.ref (sd 0), .ref (sd 1), .ref (sd 2), .ref (sd 3), .ref (sd 4), .ref (sd 5), .ref (sd 6), .int 0, .int (-1), .int 0, .int 0, .int 0, .int 0])), (sd 1, .inl (cyI, 8, .inl (fun _ => 0))), (sd 2, .inl (cyI, 8, .inl (upd (fun _ => 0) 3 0))), (ad 3, .inr (1, [.ref (dd 0), .ref (dd 1), .ref (dd 2), .ref (dd 3), .int 0, .int 0, .int 0, .int 0, .int 2, .int 0, .int 0]))] H := hP
  have hD : va_D A [(ad 9, .inr (5, [.ref (sd 0), .ref (sd 1), .ref (sd 2), .ref (sd 3), .ref (sd 4), .ref (sd 5), .ref (sd 6), .int 0, .int (-1), .int 0, .int 0, .int 0, .int 0])), (sd 1, .inl (cyI, 8, .inl (fun _ => 0))), (sd 2, .inl (cyI, 8, .inl (upd (fun _ => 0) 3 0))), (ad 3, .inr (1, [.ref (dd 0), .ref (dd 1), .ref (dd 2), .ref (dd 3), .int 0, .int 0, .int 0, .int 0, .int 2, .int 0, .int 0]))] := hD
  rw [upd_z] at hP hD
  refine lv_iinc (v := 4) (lv' := [(2, .int 4), (0, .ref (ad 9)), (1, .ref (ad 3))]) hx hb dX5_startAs_58 hl (k := 0) rfl (by decide) (by decide) rfl (fun ls hl => ?_)
  refine lv_goto (tgt := 38) hx hb dX5_startAs_61 (by decide) ?_
  refine lv_iload_n hx hb dX5_startAs_38 rfl (lv_at hl 0 rfl) ?_
  refine lv_bipush (v := 8) hx hb dX5_startAs_39 (by decide) ?_
  refine lv_icmp_ge (tgt := 64) hx hb dX5_startAs_41 (by decide) (fun c487 => absurd c487 (by decide)) (fun _ => ?_)
  refine lv_aload_n hx hb dX5_startAs_44 rfl (lv_at hl 1 rfl) ?_
  refine va_get (D := (dC, dI)) (ci := 5) (v := .ref (sd 1)) (C := RX5) (T := TX5) (N := 13) hx hb hts hi5 hown hK hP 0 rfl rfl 1 (by decide) (hts _ (ow_m (k := 2) rfl)) (fun _ h9 => h9) rfl dX5_startAs_45 ?_
  refine lv_iload_n hx hb dX5_startAs_48 rfl (lv_at hl 0 rfl) ?_
  refine lv_iconst (v := 0) hx hb dX5_startAs_49 (by decide) ?_
  refine va_iast hx hb hK hP hD hS 1 1 rfl rfl (vp_i (a := 4) (by decide) (by decide) (by decide)) dX5_startAs_50 (fun H locs hP hD hS => ?_)
  have hP : va_P (dC, dI) vwCl [(ad 9, .inr (5, [.ref (sd 0), .ref (sd 1), .ref (sd 2), .ref (sd 3), .ref (sd 4), .ref (sd 5), .ref (sd 6), .int 0, .int (-1), .int 0, .int 0, .int 0, .int 0])), (sd 1, .inl (cyI, 8, .inl (upd (fun _ => 0) 4 0))), (sd 2, .inl (cyI, 8, .inl (fun _ => 0))), (ad 3, .inr (1, [.ref (dd 0), .ref (dd 1), .ref (dd 2), .ref (dd 3), .int 0, .int 0, .int 0, .int 0, .int 2, .int 0, .int 0]))] H := hP
  have hD : va_D A [(ad 9, .inr (5, [.ref (sd 0), .ref (sd 1), .ref (sd 2), .ref (sd 3), .ref (sd 4), .ref (sd 5), .ref (sd 6), .int 0, .int (-1), .int 0, .int 0, .int 0, .int 0])), (sd 1, .inl (cyI, 8, .inl (upd (fun _ => 0) 4 0))), (sd 2, .inl (cyI, 8, .inl (fun _ => 0))), (ad 3, .inr (1, [.ref (dd 0), .ref (dd 1), .ref (dd 2), .ref (dd 3), .int 0, .int 0, .int 0, .int 0, .int 2, .int 0, .int 0]))] := hD
  rw [upd_z] at hP hD
  refine lv_aload_n hx hb dX5_startAs_51 rfl (lv_at hl 1 rfl) ?_
  refine va_get (D := (dC, dI)) (ci := 5) (v := .ref (sd 2)) (C := RX5) (T := TX5) (N := 13) hx hb hts hi5 hown hK hP 0 rfl rfl 2 (by decide) (hts _ (ow_m (k := 3) rfl)) (fun _ h9 => h9) rfl dX5_startAs_52 ?_
  refine lv_iload_n hx hb dX5_startAs_55 rfl (lv_at hl 0 rfl) ?_
  refine lv_iconst (v := 0) hx hb dX5_startAs_56 (by decide) ?_
  refine va_iast hx hb hK hP hD hS 2 1 rfl rfl (vp_i (a := 4) (by decide) (by decide) (by decide)) dX5_startAs_57 (fun H locs hP hD hS => ?_)
  have hP : va_P (dC, dI) vwCl [(ad 9, .inr (5, [.ref (sd 0), .ref (sd 1), .ref (sd 2), .ref (sd 3), .ref (sd 4), .ref (sd 5), .ref (sd 6), .int 0, .int (-1), .int 0, .int 0, .int 0, .int 0])), (sd 1, .inl (cyI, 8, .inl (fun _ => 0))), (sd 2, .inl (cyI, 8, .inl (upd (fun _ => 0) 4 0))), (ad 3, .inr (1, [.ref (dd 0), .ref (dd 1), .ref (dd 2), .ref (dd 3), .int 0, .int 0, .int 0, .int 0, .int 2, .int 0, .int 0]))] H := hP
  have hD : va_D A [(ad 9, .inr (5, [.ref (sd 0), .ref (sd 1), .ref (sd 2), .ref (sd 3), .ref (sd 4), .ref (sd 5), .ref (sd 6), .int 0, .int (-1), .int 0, .int 0, .int 0, .int 0])), (sd 1, .inl (cyI, 8, .inl (fun _ => 0))), (sd 2, .inl (cyI, 8, .inl (upd (fun _ => 0) 4 0))), (ad 3, .inr (1, [.ref (dd 0), .ref (dd 1), .ref (dd 2), .ref (dd 3), .int 0, .int 0, .int 0, .int 0, .int 2, .int 0, .int 0]))] := hD
  rw [upd_z] at hP hD
  refine lv_iinc (v := 5) (lv' := [(2, .int 5), (0, .ref (ad 9)), (1, .ref (ad 3))]) hx hb dX5_startAs_58 hl (k := 0) rfl (by decide) (by decide) rfl (fun ls hl => ?_)
  refine lv_goto (tgt := 38) hx hb dX5_startAs_61 (by decide) ?_
  refine lv_iload_n hx hb dX5_startAs_38 rfl (lv_at hl 0 rfl) ?_
  refine lv_bipush (v := 8) hx hb dX5_startAs_39 (by decide) ?_
  refine lv_icmp_ge (tgt := 64) hx hb dX5_startAs_41 (by decide) (fun c488 => absurd c488 (by decide)) (fun _ => ?_)
  refine lv_aload_n hx hb dX5_startAs_44 rfl (lv_at hl 1 rfl) ?_
  refine va_get (D := (dC, dI)) (ci := 5) (v := .ref (sd 1)) (C := RX5) (T := TX5) (N := 13) hx hb hts hi5 hown hK hP 0 rfl rfl 1 (by decide) (hts _ (ow_m (k := 2) rfl)) (fun _ h9 => h9) rfl dX5_startAs_45 ?_
  refine lv_iload_n hx hb dX5_startAs_48 rfl (lv_at hl 0 rfl) ?_
  refine lv_iconst (v := 0) hx hb dX5_startAs_49 (by decide) ?_
  refine va_iast hx hb hK hP hD hS 1 1 rfl rfl (vp_i (a := 5) (by decide) (by decide) (by decide)) dX5_startAs_50 (fun H locs hP hD hS => ?_)
  have hP : va_P (dC, dI) vwCl [(ad 9, .inr (5, [.ref (sd 0), .ref (sd 1), .ref (sd 2), .ref (sd 3), .ref (sd 4), .ref (sd 5), .ref (sd 6), .int 0, .int (-1), .int 0, .int 0, .int 0, .int 0])), (sd 1, .inl (cyI, 8, .inl (upd (fun _ => 0) 5 0))), (sd 2, .inl (cyI, 8, .inl (fun _ => 0))), (ad 3, .inr (1, [.ref (dd 0), .ref (dd 1), .ref (dd 2), .ref (dd 3), .int 0, .int 0, .int 0, .int 0, .int 2, .int 0, .int 0]))] H := hP
  have hD : va_D A [(ad 9, .inr (5, [.ref (sd 0), .ref (sd 1), .ref (sd 2), .ref (sd 3), .ref (sd 4), .ref (sd 5), .ref (sd 6), .int 0, .int (-1), .int 0, .int 0, .int 0, .int 0])), (sd 1, .inl (cyI, 8, .inl (upd (fun _ => 0) 5 0))), (sd 2, .inl (cyI, 8, .inl (fun _ => 0))), (ad 3, .inr (1, [.ref (dd 0), .ref (dd 1), .ref (dd 2), .ref (dd 3), .int 0, .int 0, .int 0, .int 0, .int 2, .int 0, .int 0]))] := hD
  rw [upd_z] at hP hD
  refine lv_aload_n hx hb dX5_startAs_51 rfl (lv_at hl 1 rfl) ?_
  refine va_get (D := (dC, dI)) (ci := 5) (v := .ref (sd 2)) (C := RX5) (T := TX5) (N := 13) hx hb hts hi5 hown hK hP 0 rfl rfl 2 (by decide) (hts _ (ow_m (k := 3) rfl)) (fun _ h9 => h9) rfl dX5_startAs_52 ?_
  refine lv_iload_n hx hb dX5_startAs_55 rfl (lv_at hl 0 rfl) ?_
  refine lv_iconst (v := 0) hx hb dX5_startAs_56 (by decide) ?_
  refine va_iast hx hb hK hP hD hS 2 1 rfl rfl (vp_i (a := 5) (by decide) (by decide) (by decide)) dX5_startAs_57 (fun H locs hP hD hS => ?_)
  have hP : va_P (dC, dI) vwCl [(ad 9, .inr (5, [.ref (sd 0), .ref (sd 1), .ref (sd 2), .ref (sd 3), .ref (sd 4), .ref (sd 5), .ref (sd 6), .int 0, .int (-1), .int 0, .int 0, .int 0, .int 0])), (sd 1, .inl (cyI, 8, .inl (fun _ => 0))), (sd 2, .inl (cyI, 8, .inl (upd (fun _ => 0) 5 0))), (ad 3, .inr (1, [.ref (dd 0), .ref (dd 1), .ref (dd 2), .ref (dd 3), .int 0, .int 0, .int 0, .int 0, .int 2, .int 0, .int 0]))] H := hP
  have hD : va_D A [(ad 9, .inr (5, [.ref (sd 0), .ref (sd 1), .ref (sd 2), .ref (sd 3), .ref (sd 4), .ref (sd 5), .ref (sd 6), .int 0, .int (-1), .int 0, .int 0, .int 0, .int 0])), (sd 1, .inl (cyI, 8, .inl (fun _ => 0))), (sd 2, .inl (cyI, 8, .inl (upd (fun _ => 0) 5 0))), (ad 3, .inr (1, [.ref (dd 0), .ref (dd 1), .ref (dd 2), .ref (dd 3), .int 0, .int 0, .int 0, .int 0, .int 2, .int 0, .int 0]))] := hD
  rw [upd_z] at hP hD
  refine lv_iinc (v := 6) (lv' := [(2, .int 6), (0, .ref (ad 9)), (1, .ref (ad 3))]) hx hb dX5_startAs_58 hl (k := 0) rfl (by decide) (by decide) rfl (fun ls hl => ?_)
  refine lv_goto (tgt := 38) hx hb dX5_startAs_61 (by decide) ?_
  refine lv_iload_n hx hb dX5_startAs_38 rfl (lv_at hl 0 rfl) ?_
  refine lv_bipush (v := 8) hx hb dX5_startAs_39 (by decide) ?_
  refine lv_icmp_ge (tgt := 64) hx hb dX5_startAs_41 (by decide) (fun c489 => absurd c489 (by decide)) (fun _ => ?_)
  refine lv_aload_n hx hb dX5_startAs_44 rfl (lv_at hl 1 rfl) ?_
  refine va_get (D := (dC, dI)) (ci := 5) (v := .ref (sd 1)) (C := RX5) (T := TX5) (N := 13) hx hb hts hi5 hown hK hP 0 rfl rfl 1 (by decide) (hts _ (ow_m (k := 2) rfl)) (fun _ h9 => h9) rfl dX5_startAs_45 ?_
  refine lv_iload_n hx hb dX5_startAs_48 rfl (lv_at hl 0 rfl) ?_
  refine lv_iconst (v := 0) hx hb dX5_startAs_49 (by decide) ?_
  refine va_iast hx hb hK hP hD hS 1 1 rfl rfl (vp_i (a := 6) (by decide) (by decide) (by decide)) dX5_startAs_50 (fun H locs hP hD hS => ?_)
  have hP : va_P (dC, dI) vwCl [(ad 9, .inr (5, [.ref (sd 0), .ref (sd 1), .ref (sd 2), .ref (sd 3), .ref (sd 4), .ref (sd 5), .ref (sd 6), .int 0, .int (-1), .int 0, .int 0, .int 0, .int 0])), (sd 1, .inl (cyI, 8, .inl (upd (fun _ => 0) 6 0))), (sd 2, .inl (cyI, 8, .inl (fun _ => 0))), (ad 3, .inr (1, [.ref (dd 0), .ref (dd 1), .ref (dd 2), .ref (dd 3), .int 0, .int 0, .int 0, .int 0, .int 2, .int 0, .int 0]))] H := hP
  have hD : va_D A [(ad 9, .inr (5, [.ref (sd 0), .ref (sd 1), .ref (sd 2), .ref (sd 3), .ref (sd 4), .ref (sd 5), .ref (sd 6), .int 0, .int (-1), .int 0, .int 0, .int 0, .int 0])), (sd 1, .inl (cyI, 8, .inl (upd (fun _ => 0) 6 0))), (sd 2, .inl (cyI, 8, .inl (fun _ => 0))), (ad 3, .inr (1, [.ref (dd 0), .ref (dd 1), .ref (dd 2), .ref (dd 3), .int 0, .int 0, .int 0, .int 0, .int 2, .int 0, .int 0]))] := hD
  rw [upd_z] at hP hD
  refine lv_aload_n hx hb dX5_startAs_51 rfl (lv_at hl 1 rfl) ?_
  refine va_get (D := (dC, dI)) (ci := 5) (v := .ref (sd 2)) (C := RX5) (T := TX5) (N := 13) hx hb hts hi5 hown hK hP 0 rfl rfl 2 (by decide) (hts _ (ow_m (k := 3) rfl)) (fun _ h9 => h9) rfl dX5_startAs_52 ?_
  refine lv_iload_n hx hb dX5_startAs_55 rfl (lv_at hl 0 rfl) ?_
  refine lv_iconst (v := 0) hx hb dX5_startAs_56 (by decide) ?_
  refine va_iast hx hb hK hP hD hS 2 1 rfl rfl (vp_i (a := 6) (by decide) (by decide) (by decide)) dX5_startAs_57 (fun H locs hP hD hS => ?_)
  have hP : va_P (dC, dI) vwCl [(ad 9, .inr (5, [.ref (sd 0), .ref (sd 1), .ref (sd 2), .ref (sd 3), .ref (sd 4), .ref (sd 5), .ref (sd 6), .int 0, .int (-1), .int 0, .int 0, .int 0, .int 0])), (sd 1, .inl (cyI, 8, .inl (fun _ => 0))), (sd 2, .inl (cyI, 8, .inl (upd (fun _ => 0) 6 0))), (ad 3, .inr (1, [.ref (dd 0), .ref (dd 1), .ref (dd 2), .ref (dd 3), .int 0, .int 0, .int 0, .int 0, .int 2, .int 0, .int 0]))] H := hP
  have hD : va_D A [(ad 9, .inr (5, [.ref (sd 0), .ref (sd 1), .ref (sd 2), .ref (sd 3), .ref (sd 4), .ref (sd 5), .ref (sd 6), .int 0, .int (-1), .int 0, .int 0, .int 0, .int 0])), (sd 1, .inl (cyI, 8, .inl (fun _ => 0))), (sd 2, .inl (cyI, 8, .inl (upd (fun _ => 0) 6 0))), (ad 3, .inr (1, [.ref (dd 0), .ref (dd 1), .ref (dd 2), .ref (dd 3), .int 0, .int 0, .int 0, .int 0, .int 2, .int 0, .int 0]))] := hD
  rw [upd_z] at hP hD
  refine lv_iinc (v := 7) (lv' := [(2, .int 7), (0, .ref (ad 9)), (1, .ref (ad 3))]) hx hb dX5_startAs_58 hl (k := 0) rfl (by decide) (by decide) rfl (fun ls hl => ?_)
  refine lv_goto (tgt := 38) hx hb dX5_startAs_61 (by decide) ?_
  refine lv_iload_n hx hb dX5_startAs_38 rfl (lv_at hl 0 rfl) ?_
  refine lv_bipush (v := 8) hx hb dX5_startAs_39 (by decide) ?_
  refine lv_icmp_ge (tgt := 64) hx hb dX5_startAs_41 (by decide) (fun c490 => absurd c490 (by decide)) (fun _ => ?_)
  refine lv_aload_n hx hb dX5_startAs_44 rfl (lv_at hl 1 rfl) ?_
  refine va_get (D := (dC, dI)) (ci := 5) (v := .ref (sd 1)) (C := RX5) (T := TX5) (N := 13) hx hb hts hi5 hown hK hP 0 rfl rfl 1 (by decide) (hts _ (ow_m (k := 2) rfl)) (fun _ h9 => h9) rfl dX5_startAs_45 ?_
  refine lv_iload_n hx hb dX5_startAs_48 rfl (lv_at hl 0 rfl) ?_
  refine lv_iconst (v := 0) hx hb dX5_startAs_49 (by decide) ?_
  refine va_iast hx hb hK hP hD hS 1 1 rfl rfl (vp_i (a := 7) (by decide) (by decide) (by decide)) dX5_startAs_50 (fun H locs hP hD hS => ?_)
  have hP : va_P (dC, dI) vwCl [(ad 9, .inr (5, [.ref (sd 0), .ref (sd 1), .ref (sd 2), .ref (sd 3), .ref (sd 4), .ref (sd 5), .ref (sd 6), .int 0, .int (-1), .int 0, .int 0, .int 0, .int 0])), (sd 1, .inl (cyI, 8, .inl (upd (fun _ => 0) 7 0))), (sd 2, .inl (cyI, 8, .inl (fun _ => 0))), (ad 3, .inr (1, [.ref (dd 0), .ref (dd 1), .ref (dd 2), .ref (dd 3), .int 0, .int 0, .int 0, .int 0, .int 2, .int 0, .int 0]))] H := hP
  have hD : va_D A [(ad 9, .inr (5, [.ref (sd 0), .ref (sd 1), .ref (sd 2), .ref (sd 3), .ref (sd 4), .ref (sd 5), .ref (sd 6), .int 0, .int (-1), .int 0, .int 0, .int 0, .int 0])), (sd 1, .inl (cyI, 8, .inl (upd (fun _ => 0) 7 0))), (sd 2, .inl (cyI, 8, .inl (fun _ => 0))), (ad 3, .inr (1, [.ref (dd 0), .ref (dd 1), .ref (dd 2), .ref (dd 3), .int 0, .int 0, .int 0, .int 0, .int 2, .int 0, .int 0]))] := hD
  rw [upd_z] at hP hD
  refine lv_aload_n hx hb dX5_startAs_51 rfl (lv_at hl 1 rfl) ?_
  refine va_get (D := (dC, dI)) (ci := 5) (v := .ref (sd 2)) (C := RX5) (T := TX5) (N := 13) hx hb hts hi5 hown hK hP 0 rfl rfl 2 (by decide) (hts _ (ow_m (k := 3) rfl)) (fun _ h9 => h9) rfl dX5_startAs_52 ?_
  refine lv_iload_n hx hb dX5_startAs_55 rfl (lv_at hl 0 rfl) ?_
  refine lv_iconst (v := 0) hx hb dX5_startAs_56 (by decide) ?_
  refine va_iast hx hb hK hP hD hS 2 1 rfl rfl (vp_i (a := 7) (by decide) (by decide) (by decide)) dX5_startAs_57 (fun H locs hP hD hS => ?_)
  have hP : va_P (dC, dI) vwCl [(ad 9, .inr (5, [.ref (sd 0), .ref (sd 1), .ref (sd 2), .ref (sd 3), .ref (sd 4), .ref (sd 5), .ref (sd 6), .int 0, .int (-1), .int 0, .int 0, .int 0, .int 0])), (sd 1, .inl (cyI, 8, .inl (fun _ => 0))), (sd 2, .inl (cyI, 8, .inl (upd (fun _ => 0) 7 0))), (ad 3, .inr (1, [.ref (dd 0), .ref (dd 1), .ref (dd 2), .ref (dd 3), .int 0, .int 0, .int 0, .int 0, .int 2, .int 0, .int 0]))] H := hP
  have hD : va_D A [(ad 9, .inr (5, [.ref (sd 0), .ref (sd 1), .ref (sd 2), .ref (sd 3), .ref (sd 4), .ref (sd 5), .ref (sd 6), .int 0, .int (-1), .int 0, .int 0, .int 0, .int 0])), (sd 1, .inl (cyI, 8, .inl (fun _ => 0))), (sd 2, .inl (cyI, 8, .inl (upd (fun _ => 0) 7 0))), (ad 3, .inr (1, [.ref (dd 0), .ref (dd 1), .ref (dd 2), .ref (dd 3), .int 0, .int 0, .int 0, .int 0, .int 2, .int 0, .int 0]))] := hD
  rw [upd_z] at hP hD
  refine lv_iinc (v := 8) (lv' := [(2, .int 8), (0, .ref (ad 9)), (1, .ref (ad 3))]) hx hb dX5_startAs_58 hl (k := 0) rfl (by decide) (by decide) rfl (fun ls hl => ?_)
  refine lv_goto (tgt := 38) hx hb dX5_startAs_61 (by decide) ?_
  refine lv_iload_n hx hb dX5_startAs_38 rfl (lv_at hl 0 rfl) ?_
  refine lv_bipush (v := 8) hx hb dX5_startAs_39 (by decide) ?_
  refine lv_icmp_ge (tgt := 64) hx hb dX5_startAs_41 (by decide) (fun _ => ?_) (fun c491 => absurd (by decide) c491)
  refine lv_aload_n hx hb dX5_startAs_64 rfl (lv_at hl 1 rfl) ?_
  refine lv_iconst (v := (-1)) hx hb dX5_startAs_65 (by decide) ?_
  refine va_put (D := (dC, dI)) (ci := 5) (v := .int (-1)) (ty := .int) (C := RX5) (T := TX5) (N := 13) hx hb hts hi5 tyX5 tyX5_ok nmX5 hown hK hP hD hS 0 rfl rfl 8 (by decide) (hts _ (ow_m (k := 4) rfl)) (fun _ h9 => h9) rfl (by decide +kernel) rfl rfl (Nat.le_of_ble_eq_true rfl) dX5_startAs_66 (fun H locs hP hD hS => ?_)
  have hP : va_P (dC, dI) vwCl [(ad 9, .inr (5, [.ref (sd 0), .ref (sd 1), .ref (sd 2), .ref (sd 3), .ref (sd 4), .ref (sd 5), .ref (sd 6), .int 0, .int (-1), .int 0, .int 0, .int 0, .int 0])), (sd 1, .inl (cyI, 8, .inl (fun _ => 0))), (sd 2, .inl (cyI, 8, .inl (fun _ => 0))), (ad 3, .inr (1, [.ref (dd 0), .ref (dd 1), .ref (dd 2), .ref (dd 3), .int 0, .int 0, .int 0, .int 0, .int 2, .int 0, .int 0]))] H := hP
  have hD : va_D A [(ad 9, .inr (5, [.ref (sd 0), .ref (sd 1), .ref (sd 2), .ref (sd 3), .ref (sd 4), .ref (sd 5), .ref (sd 6), .int 0, .int (-1), .int 0, .int 0, .int 0, .int 0])), (sd 1, .inl (cyI, 8, .inl (fun _ => 0))), (sd 2, .inl (cyI, 8, .inl (fun _ => 0))), (ad 3, .inr (1, [.ref (dd 0), .ref (dd 1), .ref (dd 2), .ref (dd 3), .int 0, .int 0, .int 0, .int 0, .int 2, .int 0, .int 0]))] := hD
  refine lv_aload_n hx hb dX5_startAs_69 rfl (lv_at hl 1 rfl) ?_
  refine lv_iconst (v := 0) hx hb dX5_startAs_70 (by decide) ?_
  refine va_put (D := (dC, dI)) (ci := 5) (v := .int 0) (ty := .int) (C := RX5) (T := TX5) (N := 13) hx hb hts hi5 tyX5 tyX5_ok nmX5 hown hK hP hD hS 0 rfl rfl 9 (by decide) (hts _ (ow_m (k := 5) rfl)) (fun _ h9 => h9) rfl (by decide +kernel) rfl rfl (Nat.le_of_ble_eq_true rfl) dX5_startAs_71 (fun H locs hP hD hS => ?_)
  have hP : va_P (dC, dI) vwCl [(ad 9, .inr (5, [.ref (sd 0), .ref (sd 1), .ref (sd 2), .ref (sd 3), .ref (sd 4), .ref (sd 5), .ref (sd 6), .int 0, .int (-1), .int 0, .int 0, .int 0, .int 0])), (sd 1, .inl (cyI, 8, .inl (fun _ => 0))), (sd 2, .inl (cyI, 8, .inl (fun _ => 0))), (ad 3, .inr (1, [.ref (dd 0), .ref (dd 1), .ref (dd 2), .ref (dd 3), .int 0, .int 0, .int 0, .int 0, .int 2, .int 0, .int 0]))] H := hP
  have hD : va_D A [(ad 9, .inr (5, [.ref (sd 0), .ref (sd 1), .ref (sd 2), .ref (sd 3), .ref (sd 4), .ref (sd 5), .ref (sd 6), .int 0, .int (-1), .int 0, .int 0, .int 0, .int 0])), (sd 1, .inl (cyI, 8, .inl (fun _ => 0))), (sd 2, .inl (cyI, 8, .inl (fun _ => 0))), (ad 3, .inr (1, [.ref (dd 0), .ref (dd 1), .ref (dd 2), .ref (dd 3), .int 0, .int 0, .int 0, .int 0, .int 2, .int 0, .int 0]))] := hD
  refine lv_aload_n hx hb dX5_startAs_74 rfl (lv_at hl 1 rfl) ?_
  refine lv_iconst (v := 0) hx hb dX5_startAs_75 (by decide) ?_
  refine va_put (D := (dC, dI)) (ci := 5) (v := .int 0) (ty := .int) (C := RX5) (T := TX5) (N := 13) hx hb hts hi5 tyX5 tyX5_ok nmX5 hown hK hP hD hS 0 rfl rfl 10 (by decide) (hts _ (ow_m (k := 6) rfl)) (fun _ h9 => h9) rfl (by decide +kernel) rfl rfl (Nat.le_of_ble_eq_true rfl) dX5_startAs_76 (fun H locs hP hD hS => ?_)
  have hP : va_P (dC, dI) vwCl [(ad 9, .inr (5, [.ref (sd 0), .ref (sd 1), .ref (sd 2), .ref (sd 3), .ref (sd 4), .ref (sd 5), .ref (sd 6), .int 0, .int (-1), .int 0, .int 0, .int 0, .int 0])), (sd 1, .inl (cyI, 8, .inl (fun _ => 0))), (sd 2, .inl (cyI, 8, .inl (fun _ => 0))), (ad 3, .inr (1, [.ref (dd 0), .ref (dd 1), .ref (dd 2), .ref (dd 3), .int 0, .int 0, .int 0, .int 0, .int 2, .int 0, .int 0]))] H := hP
  have hD : va_D A [(ad 9, .inr (5, [.ref (sd 0), .ref (sd 1), .ref (sd 2), .ref (sd 3), .ref (sd 4), .ref (sd 5), .ref (sd 6), .int 0, .int (-1), .int 0, .int 0, .int 0, .int 0])), (sd 1, .inl (cyI, 8, .inl (fun _ => 0))), (sd 2, .inl (cyI, 8, .inl (fun _ => 0))), (ad 3, .inr (1, [.ref (dd 0), .ref (dd 1), .ref (dd 2), .ref (dd 3), .int 0, .int 0, .int 0, .int 0, .int 2, .int 0, .int 0]))] := hD
  refine lv_aload_n hx hb dX5_startAs_79 rfl (lv_at hl 1 rfl) ?_
  refine lv_aload_n hx hb dX5_startAs_80 rfl (lv_at hl 2 rfl) ?_
  refine va_get (D := (dC, dI)) (ci := 1) (v := .int 0) (C := RX1) (T := TX1) (N := 11) hx hb hts hi1 hown hK hP 3 rfl rfl 10 (by decide) (hts _ (ow_m (k := 7) rfl)) (fun _ h9 => h9) rfl dX5_startAs_81 ?_
  refine va_put (D := (dC, dI)) (ci := 5) (v := .int 0) (ty := .int) (C := RX5) (T := TX5) (N := 13) hx hb hts hi5 tyX5 tyX5_ok nmX5 hown hK hP hD hS 0 rfl rfl 11 (by decide) (hts _ (ow_m (k := 8) rfl)) (fun _ h9 => h9) rfl (by decide +kernel) rfl rfl (Nat.le_of_ble_eq_true rfl) dX5_startAs_84 (fun H locs hP hD hS => ?_)
  have hP : va_P (dC, dI) vwCl [(ad 9, .inr (5, [.ref (sd 0), .ref (sd 1), .ref (sd 2), .ref (sd 3), .ref (sd 4), .ref (sd 5), .ref (sd 6), .int 0, .int (-1), .int 0, .int 0, .int 0, .int 0])), (sd 1, .inl (cyI, 8, .inl (fun _ => 0))), (sd 2, .inl (cyI, 8, .inl (fun _ => 0))), (ad 3, .inr (1, [.ref (dd 0), .ref (dd 1), .ref (dd 2), .ref (dd 3), .int 0, .int 0, .int 0, .int 0, .int 2, .int 0, .int 0]))] H := hP
  have hD : va_D A [(ad 9, .inr (5, [.ref (sd 0), .ref (sd 1), .ref (sd 2), .ref (sd 3), .ref (sd 4), .ref (sd 5), .ref (sd 6), .int 0, .int (-1), .int 0, .int 0, .int 0, .int 0])), (sd 1, .inl (cyI, 8, .inl (fun _ => 0))), (sd 2, .inl (cyI, 8, .inl (fun _ => 0))), (ad 3, .inr (1, [.ref (dd 0), .ref (dd 1), .ref (dd 2), .ref (dd 3), .int 0, .int 0, .int 0, .int 0, .int 2, .int 0, .int 0]))] := hD
  refine lv_aload_n hx hb dX5_startAs_87 rfl (lv_at hl 1 rfl) ?_
  refine lv_iconst (v := 0) hx hb dX5_startAs_88 (by decide) ?_
  refine va_put (D := (dC, dI)) (ci := 5) (v := .int 0) (ty := .int) (C := RX5) (T := TX5) (N := 13) hx hb hts hi5 tyX5 tyX5_ok nmX5 hown hK hP hD hS 0 rfl rfl 12 (by decide) (hts _ (ow_m (k := 9) rfl)) (fun _ h9 => h9) rfl (by decide +kernel) rfl rfl (Nat.le_of_ble_eq_true rfl) dX5_startAs_89 (fun H locs hP hD hS => ?_)
  have hP : va_P (dC, dI) vwCl [(ad 9, .inr (5, [.ref (sd 0), .ref (sd 1), .ref (sd 2), .ref (sd 3), .ref (sd 4), .ref (sd 5), .ref (sd 6), .int 0, .int (-1), .int 0, .int 0, .int 0, .int 0])), (sd 1, .inl (cyI, 8, .inl (fun _ => 0))), (sd 2, .inl (cyI, 8, .inl (fun _ => 0))), (ad 3, .inr (1, [.ref (dd 0), .ref (dd 1), .ref (dd 2), .ref (dd 3), .int 0, .int 0, .int 0, .int 0, .int 2, .int 0, .int 0]))] H := hP
  have hD : va_D A [(ad 9, .inr (5, [.ref (sd 0), .ref (sd 1), .ref (sd 2), .ref (sd 3), .ref (sd 4), .ref (sd 5), .ref (sd 6), .int 0, .int (-1), .int 0, .int 0, .int 0, .int 0])), (sd 1, .inl (cyI, 8, .inl (fun _ => 0))), (sd 2, .inl (cyI, 8, .inl (fun _ => 0))), (ad 3, .inr (1, [.ref (dd 0), .ref (dd 1), .ref (dd 2), .ref (dd 3), .int 0, .int 0, .int 0, .int 0, .int 2, .int 0, .int 0]))] := hD
  exact W.vret hx hb hr (fun t ht hW => ⟨⟨(), rfl, trivial, cE.of ht hP hD [0, 1, 2, 3] (by decide) rfl⟩, hS.F ht⟩) hS.2.2 dX5_startAs_92
def wo_k_X4_forget : List Cond := [.fieldLink RX4 25 "ReplicaChain$Sightings" "count" "I"]
def wq_k_X4_forget : List Cond := .code yX4_forget cX4_forget 1 none :: (wo_k_X4_forget ++ (wsX40 ++ []))
theorem gd_k_X4_forget : Gd wq_k_X4_forget := gd_c (gd_a (gd_o (by decide +kernel)) (gd_a gd_u gd_0))
abbrev wc_k_X4_forget (cyB cyI cyJ cyZ cyO : ClassId) (ad : Nat → Nat) (gd : Nat → Nat) : va_W := [(ad 17, .inr (4, [.ref (gd 0), .ref (gd 1), .ref (gd 2), .ref (gd 3), .int 0]))]
set_option maxHeartbeats 4000000 in
set_option maxRecDepth 100000 in
theorem k_X4_forget (l : Launch) (dC : Nat → ClassId) (dI : Nat → Nat → Nat) (cyB cyI cyJ cyZ cyO : ClassId) (ad : Nat → Nat) (gd : Nat → Nat) (sz : Nat) : Met l yX4_forget wq_k_X4_forget ({ frames := 0, cells := 0, slots := 0, locals := 0 }) (va_Pc [.ref (ad 17)] (cB (dC, dI) (kT cyB cyI cyJ cyZ cyO) (wc_k_X4_forget cyB cyI cyJ cyZ cyO ad gd) sz)) (va_Qv (fun _ => True) (fun (u : Unit) t => cE (dC, dI) (va_A (wc_k_X4_forget cyB cyI cyJ cyZ cyO ad gd) sz) ([(ad 17, .inr (4, [.ref (gd 0), .ref (gd 1), .ref (gd 2), .ref (gd 3), .int 0]))]) t.heap) (va_A (wc_k_X4_forget cyB cyI cyJ cyZ cyO ad gd) sz)) 0 0 (va_A (wc_k_X4_forget cyB cyI cyJ cyZ cyO ad gd) sz) := by
  refine Met.ofW (cc := cX4_forget) (maxL := 1) (ret := none) (by decide) rfl ?_
  intro p e s m args below meth c s₁ B hml hv
  obtain ⟨rfl, hsz, hP, hKN, hD0⟩ := hv
  have hx := B.exec
  have hb := B.bytes
  have hr := B.returns
  have hts := atoms_spec (ws := wq_k_X4_forget) B.pre
  have hown : s.vm.findClass RX4 = some m.cls := findClass_of_methodNamed B.named
  have hlocks := B.notSynchronized
  have hK := hKN.1
  have hfix : CallFix p m c cX4_forget 1 s [.ref (ad 17)].toArray wq_k_X4_forget RX4 := ⟨hx, hb, hml, hown, hts⟩
  have hi4 : ∀ w ∈ wsX40, w ∈ wq_k_X4_forget := (sb_c sb_l)
  subst hsz
  have hD := hD0.self (sz := s.heap.size)
  generalize hAe : va_A (wc_k_X4_forget cyB cyI cyJ cyZ cyO ad gd) s.heap.size = A at hD ⊢
  have hA : ∀ q : Nat, s.heap.size ≤ q → A q := fun q h => by rw [← hAe]; exact Or.inr h
  have hS : va_S A s.heap s.heap [] := va_S.rf
  have hl := lv_entry ([.ref (ad 17)]) (n := 1) (Nat.le_of_ble_eq_true rfl)
  rw [lg_entry_eq]
  generalize (lg_sl ([.ref (ad 17)]) ++ List.replicate (1 - (lg_sl ([.ref (ad 17)])).length) Slot.unset).toArray = ls at hl ⊢
  have hl : lv_has ls 1 [(0, .ref (ad 17))] := hl
  refine lv_aload_n hx hb dX4_forget_0 rfl (lv_at hl 0 rfl) ?_
  refine lv_iconst (v := 0) hx hb dX4_forget_1 (by decide) ?_
  refine va_put (D := (dC, dI)) (ci := 4) (v := .int 0) (ty := .int) (C := RX4) (T := TX4) (N := 5) hx hb hts hi4 tyX4 tyX4_ok nmX4 hown hK hP hD hS 0 rfl rfl 4 (by decide) (hts _ (ow_m (k := 0) rfl)) (fun _ h9 => h9) rfl (by decide +kernel) rfl rfl (Nat.le_of_ble_eq_true rfl) dX4_forget_2 (fun H locs hP hD hS => ?_)
  have hP : va_P (dC, dI) vwCl [(ad 17, .inr (4, [.ref (gd 0), .ref (gd 1), .ref (gd 2), .ref (gd 3), .int 0]))] H := hP
  have hD : va_D A [(ad 17, .inr (4, [.ref (gd 0), .ref (gd 1), .ref (gd 2), .ref (gd 3), .int 0]))] := hD
  exact W.vret hx hb hr (fun t ht hW => ⟨⟨(), rfl, trivial, cE.of ht hP hD [0] (by decide) rfl⟩, hS.F ht⟩) hS.2.2 dX4_forget_5
def wo_k_X6_begin : List Cond := [.fieldLink RX6 37 "ReplicaChain" "rules" "LReplicaChain$Rules;", .fieldLink RX6 16 "ReplicaChain" "plan" "LReplicaChain$Plan;", .methodLink RX6 97 yX3_follow, .instanceMethod yX3_follow, .selects RX3 yX3_follow yX3_follow, .initialized RX3, .fieldLink RX6 100 "ReplicaChain" "at" "I", .fieldLink RX6 103 "ReplicaChain" "top" "I", .methodLink RX6 106 yX6_stateAt, .instanceMethod yX6_stateAt, .selects RX6 yX6_stateAt yX6_stateAt, .initialized RX6, .fieldLink RX6 110 "ReplicaChain" "now" "LReplicaChain$State;", .methodLink RX6 113 yX5_startAs, .instanceMethod yX5_startAs, .selects RX5 yX5_startAs yX5_startAs, .initialized RX5, .fieldLink RX6 55 "ReplicaChain" "boxFull" "[Z", .fieldLink RX6 116 "ReplicaChain" "lyingCount" "I", .fieldLink RX6 69 "ReplicaChain" "sightings" "LReplicaChain$Sightings;", .methodLink RX6 119 yX4_forget, .instanceMethod yX4_forget, .selects RX4 yX4_forget yX4_forget, .initialized RX4]
def wq_k_X6_begin : List Cond := .code yX6_begin cX6_begin 2 none :: (wo_k_X6_begin ++ (wq_k_X3_follow ++ (wq_k_X6_stateAt ++ (wq_k_X5_startAs ++ (wq_k_X4_forget ++ (wsX60 ++ []))))))
theorem gd_k_X6_begin : Gd wq_k_X6_begin := gd_c (gd_a (gd_o (by decide +kernel)) (gd_a gd_k_X3_follow (gd_a gd_k_X6_stateAt (gd_a gd_k_X5_startAs (gd_a gd_k_X4_forget (gd_a gd_u gd_0))))))
abbrev wc_k_X6_begin (cyB cyI cyJ cyZ cyO : ClassId) (h0 : Nat) (ad : Nat → Nat) (sd : Nat → Nat) (gd : Nat → Nat) (dd : Nat → Nat) : va_W := [(h0, .inr (6, [.ref (ad 0), .int 0, .ref (ad 3), .ref (ad 2), .ref (ad 4), .ref (ad 5), .ref (ad 6), .int 0, .int 0, .ref (ad 9), .ref (ad 10), .ref (ad 11), .ref (ad 12), .ref (ad 13), .int 0, .ref (ad 15), .int 0, .ref (ad 17), .ref (ad 18), .int 0])), (ad 5, .inr (3, [.ref (ad 2), .int 0])), (ad 6, .inl (cyO, 41, .inr (.inr (.inr (.inr (va_up (fun _ => none) 0 (some (ad 9)))))))), (ad 9, .inr (5, [.ref (sd 0), .ref (sd 1), .ref (sd 2), .ref (sd 3), .ref (sd 4), .ref (sd 5), .ref (sd 6), .int 0, .int (-1), .int 0, .int 0, .int 0, .int 0])), (sd 1, .inl (cyI, 8, .inl (fun _ => 0))), (sd 2, .inl (cyI, 8, .inl (fun _ => 0))), (ad 12, .inl (cyZ, 3, .inl (fun _ => 0))), (ad 17, .inr (4, [.ref (gd 0), .ref (gd 1), .ref (gd 2), .ref (gd 3), .int 0])), (ad 3, .inr (1, [.ref (dd 0), .ref (dd 1), .ref (dd 2), .ref (dd 3), .int 0, .int 0, .int 0, .int 0, .int 2, .int 0, .int 0]))]
set_option maxHeartbeats 4000000 in
set_option maxRecDepth 100000 in
theorem k_X6_begin (l : Launch) (dC : Nat → ClassId) (dI : Nat → Nat → Nat) (cyB cyI cyJ cyZ cyO : ClassId) (h0 : Nat) (ad : Nat → Nat) (sd : Nat → Nat) (gd : Nat → Nat) (dd : Nat → Nat) (sz : Nat) : Met l yX6_begin wq_k_X6_begin ({ frames := 1, cells := 0, slots := 0, locals := 22 }) (va_Pc [.ref h0] (cB (dC, dI) (kT cyB cyI cyJ cyZ cyO) (wc_k_X6_begin cyB cyI cyJ cyZ cyO h0 ad sd gd dd) sz)) (va_Qv (fun _ => True) (fun (u : Unit) t => cE (dC, dI) (va_A (wc_k_X6_begin cyB cyI cyJ cyZ cyO h0 ad sd gd dd) sz) ([(h0, .inr (6, [.ref (ad 0), .int 0, .ref (ad 3), .ref (ad 2), .ref (ad 4), .ref (ad 5), .ref (ad 6), .int 0, .int 0, .ref (ad 9), .ref (ad 10), .ref (ad 11), .ref (ad 12), .ref (ad 13), .int 0, .ref (ad 15), .int 0, .ref (ad 17), .ref (ad 18), .int 0])), (ad 5, .inr (3, [.ref (ad 3), .int 0])), (ad 6, .inl (cyO, 41, .inr (.inr (.inr (.inr (va_up (fun _ => none) 0 (some (ad 9)))))))), (ad 9, .inr (5, [.ref (sd 0), .ref (sd 1), .ref (sd 2), .ref (sd 3), .ref (sd 4), .ref (sd 5), .ref (sd 6), .int 0, .int (-1), .int 0, .int 0, .int 0, .int 0])), (sd 1, .inl (cyI, 8, .inl (fun _ => 0))), (sd 2, .inl (cyI, 8, .inl (fun _ => 0))), (ad 12, .inl (cyZ, 3, .inl (fun _ => 0))), (ad 17, .inr (4, [.ref (gd 0), .ref (gd 1), .ref (gd 2), .ref (gd 3), .int 0])), (ad 3, .inr (1, [.ref (dd 0), .ref (dd 1), .ref (dd 2), .ref (dd 3), .int 0, .int 0, .int 0, .int 0, .int 2, .int 0, .int 0]))]) t.heap) (va_A (wc_k_X6_begin cyB cyI cyJ cyZ cyO h0 ad sd gd dd) sz)) 0 0 (va_A (wc_k_X6_begin cyB cyI cyJ cyZ cyO h0 ad sd gd dd) sz) := by
  refine Met.ofW (cc := cX6_begin) (maxL := 2) (ret := none) (by decide) rfl ?_
  intro p e s m args below meth c s₁ B hml hv
  obtain ⟨rfl, hsz, hP, hKN, hD0⟩ := hv
  have hx := B.exec
  have hb := B.bytes
  have hr := B.returns
  have hts := atoms_spec (ws := wq_k_X6_begin) B.pre
  have hown : s.vm.findClass RX6 = some m.cls := findClass_of_methodNamed B.named
  have hlocks := B.notSynchronized
  have hK := hKN.1
  have hfix : CallFix p m c cX6_begin 2 s [.ref h0].toArray wq_k_X6_begin RX6 := ⟨hx, hb, hml, hown, hts⟩
  have hi6 : ∀ w ∈ wsX60, w ∈ wq_k_X6_begin := (sb_c (sb_r (sb_r (sb_r (sb_r sb_l)))))
  subst hsz
  have hD := hD0.self (sz := s.heap.size)
  generalize hAe : va_A (wc_k_X6_begin cyB cyI cyJ cyZ cyO h0 ad sd gd dd) s.heap.size = A at hD ⊢
  have hA : ∀ q : Nat, s.heap.size ≤ q → A q := fun q h => by rw [← hAe]; exact Or.inr h
  have hS : va_S A s.heap s.heap [] := va_S.rf
  have hl := lv_entry ([.ref h0]) (n := 2) (Nat.le_of_ble_eq_true rfl)
  rw [lg_entry_eq]
  generalize (lg_sl ([.ref h0]) ++ List.replicate (2 - (lg_sl ([.ref h0])).length) Slot.unset).toArray = ls at hl ⊢
  have hl : lv_has ls 2 [(0, .ref h0)] := hl
  refine lv_aload_n hx hb dX6_begin_0 rfl (lv_at hl 0 rfl) ?_
  refine va_get (D := (dC, dI)) (ci := 6) (v := .ref (ad 5)) (C := RX6) (T := TX6) (N := 20) hx hb hts hi6 hown hK hP 0 rfl rfl 5 (by decide) (hts _ (ow_m (k := 0) rfl)) (fun _ h9 => h9) rfl dX6_begin_1 ?_
  refine lv_aload_n hx hb dX6_begin_4 rfl (lv_at hl 0 rfl) ?_
  refine va_get (D := (dC, dI)) (ci := 6) (v := .ref (ad 3)) (C := RX6) (T := TX6) (N := 20) hx hb hts hi6 hown hK hP 0 rfl rfl 2 (by decide) (hts _ (ow_m (k := 1) rfl)) (fun _ h9 => h9) rfl dX6_begin_5 ?_
  refine gf_v (wr := [(h0, .inr (6, [.ref (ad 0), .int 0, .ref (ad 3), .ref (ad 2), .ref (ad 4), .ref (ad 5), .ref (ad 6), .int 0, .int 0, .ref (ad 9), .ref (ad 10), .ref (ad 11), .ref (ad 12), .ref (ad 13), .int 0, .ref (ad 15), .int 0, .ref (ad 17), .ref (ad 18), .int 0])), (ad 6, .inl (cyO, 41, .inr (.inr (.inr (.inr (va_up (fun _ => none) 0 (some (ad 9)))))))), (ad 9, .inr (5, [.ref (sd 0), .ref (sd 1), .ref (sd 2), .ref (sd 3), .ref (sd 4), .ref (sd 5), .ref (sd 6), .int 0, .int (-1), .int 0, .int 0, .int 0, .int 0])), (sd 1, .inl (cyI, 8, .inl (fun _ => 0))), (sd 2, .inl (cyI, 8, .inl (fun _ => 0))), (ad 12, .inl (cyZ, 3, .inl (fun _ => 0))), (ad 17, .inr (4, [.ref (gd 0), .ref (gd 1), .ref (gd 2), .ref (gd 3), .int 0])), (ad 3, .inr (1, [.ref (dd 0), .ref (dd 1), .ref (dd 2), .ref (dd 3), .int 0, .int 0, .int 0, .int 0, .int 2, .int 0, .int 0]))]) (va_runV (As := [.ref (ad 3)]) (rest := []) hfix (k_X3_follow l dC dI cyB cyI cyJ cyZ cyO ad _) (cwV 1 hts (gi_V (ow_m (k := 2) rfl) (ow_m (k := 3) rfl) (ow_m (k := 4) rfl) (ow_m (k := 5) rfl) (sb_c sb_l) gd_k_X3_follow) rfl rfl rfl (by decide +kernel) ⟨Nat.le_of_ble_eq_true rfl, Nat.le_of_ble_eq_true rfl⟩) (g_preV hKN hP hD [1] rfl (by decide) 0 3 rfl rfl) rfl rfl hl.1 rfl (lv_room (Nat.le_of_ble_eq_true rfl)) dX6_begin_8 ⟨Nat.le_of_ble_eq_true rfl, Nat.le_of_ble_eq_true rfl⟩) hP hD hS hA [1] [0, 2, 3, 4, 5, 6, 7, 8] rfl rfl (by decide) (by decide) (fun u501 H locs qu501 hP hD hS => ?_)
  have hP : va_P (dC, dI) vwCl [(h0, .inr (6, [.ref (ad 0), .int 0, .ref (ad 3), .ref (ad 2), .ref (ad 4), .ref (ad 5), .ref (ad 6), .int 0, .int 0, .ref (ad 9), .ref (ad 10), .ref (ad 11), .ref (ad 12), .ref (ad 13), .int 0, .ref (ad 15), .int 0, .ref (ad 17), .ref (ad 18), .int 0])), (ad 6, .inl (cyO, 41, .inr (.inr (.inr (.inr (va_up (fun _ => none) 0 (some (ad 9)))))))), (ad 9, .inr (5, [.ref (sd 0), .ref (sd 1), .ref (sd 2), .ref (sd 3), .ref (sd 4), .ref (sd 5), .ref (sd 6), .int 0, .int (-1), .int 0, .int 0, .int 0, .int 0])), (sd 1, .inl (cyI, 8, .inl (fun _ => 0))), (sd 2, .inl (cyI, 8, .inl (fun _ => 0))), (ad 12, .inl (cyZ, 3, .inl (fun _ => 0))), (ad 17, .inr (4, [.ref (gd 0), .ref (gd 1), .ref (gd 2), .ref (gd 3), .int 0])), (ad 3, .inr (1, [.ref (dd 0), .ref (dd 1), .ref (dd 2), .ref (dd 3), .int 0, .int 0, .int 0, .int 0, .int 2, .int 0, .int 0])), (ad 5, .inr (3, [.ref (ad 3), .int 0]))] H := hP
  have hD : va_D A [(h0, .inr (6, [.ref (ad 0), .int 0, .ref (ad 3), .ref (ad 2), .ref (ad 4), .ref (ad 5), .ref (ad 6), .int 0, .int 0, .ref (ad 9), .ref (ad 10), .ref (ad 11), .ref (ad 12), .ref (ad 13), .int 0, .ref (ad 15), .int 0, .ref (ad 17), .ref (ad 18), .int 0])), (ad 6, .inl (cyO, 41, .inr (.inr (.inr (.inr (va_up (fun _ => none) 0 (some (ad 9)))))))), (ad 9, .inr (5, [.ref (sd 0), .ref (sd 1), .ref (sd 2), .ref (sd 3), .ref (sd 4), .ref (sd 5), .ref (sd 6), .int 0, .int (-1), .int 0, .int 0, .int 0, .int 0])), (sd 1, .inl (cyI, 8, .inl (fun _ => 0))), (sd 2, .inl (cyI, 8, .inl (fun _ => 0))), (ad 12, .inl (cyZ, 3, .inl (fun _ => 0))), (ad 17, .inr (4, [.ref (gd 0), .ref (gd 1), .ref (gd 2), .ref (gd 3), .int 0])), (ad 3, .inr (1, [.ref (dd 0), .ref (dd 1), .ref (dd 2), .ref (dd 3), .int 0, .int 0, .int 0, .int 0, .int 2, .int 0, .int 0])), (ad 5, .inr (3, [.ref (ad 3), .int 0]))] := hD
  refine lv_aload_n hx hb dX6_begin_11 rfl (lv_at hl 0 rfl) ?_
  refine lv_iconst (v := 0) hx hb dX6_begin_12 (by decide) ?_
  refine va_put (D := (dC, dI)) (ci := 6) (v := .int 0) (ty := .int) (C := RX6) (T := TX6) (N := 20) hx hb hts hi6 tyX6 tyX6_ok nmX6 hown hK hP hD hS 0 rfl rfl 7 (by decide) (hts _ (ow_m (k := 6) rfl)) (fun _ h9 => h9) rfl (by decide +kernel) rfl rfl (Nat.le_of_ble_eq_true rfl) dX6_begin_13 (fun H locs hP hD hS => ?_)
  have hP : va_P (dC, dI) vwCl [(h0, .inr (6, [.ref (ad 0), .int 0, .ref (ad 3), .ref (ad 2), .ref (ad 4), .ref (ad 5), .ref (ad 6), .int 0, .int 0, .ref (ad 9), .ref (ad 10), .ref (ad 11), .ref (ad 12), .ref (ad 13), .int 0, .ref (ad 15), .int 0, .ref (ad 17), .ref (ad 18), .int 0])), (ad 6, .inl (cyO, 41, .inr (.inr (.inr (.inr (va_up (fun _ => none) 0 (some (ad 9)))))))), (ad 9, .inr (5, [.ref (sd 0), .ref (sd 1), .ref (sd 2), .ref (sd 3), .ref (sd 4), .ref (sd 5), .ref (sd 6), .int 0, .int (-1), .int 0, .int 0, .int 0, .int 0])), (sd 1, .inl (cyI, 8, .inl (fun _ => 0))), (sd 2, .inl (cyI, 8, .inl (fun _ => 0))), (ad 12, .inl (cyZ, 3, .inl (fun _ => 0))), (ad 17, .inr (4, [.ref (gd 0), .ref (gd 1), .ref (gd 2), .ref (gd 3), .int 0])), (ad 3, .inr (1, [.ref (dd 0), .ref (dd 1), .ref (dd 2), .ref (dd 3), .int 0, .int 0, .int 0, .int 0, .int 2, .int 0, .int 0])), (ad 5, .inr (3, [.ref (ad 3), .int 0]))] H := hP
  have hD : va_D A [(h0, .inr (6, [.ref (ad 0), .int 0, .ref (ad 3), .ref (ad 2), .ref (ad 4), .ref (ad 5), .ref (ad 6), .int 0, .int 0, .ref (ad 9), .ref (ad 10), .ref (ad 11), .ref (ad 12), .ref (ad 13), .int 0, .ref (ad 15), .int 0, .ref (ad 17), .ref (ad 18), .int 0])), (ad 6, .inl (cyO, 41, .inr (.inr (.inr (.inr (va_up (fun _ => none) 0 (some (ad 9)))))))), (ad 9, .inr (5, [.ref (sd 0), .ref (sd 1), .ref (sd 2), .ref (sd 3), .ref (sd 4), .ref (sd 5), .ref (sd 6), .int 0, .int (-1), .int 0, .int 0, .int 0, .int 0])), (sd 1, .inl (cyI, 8, .inl (fun _ => 0))), (sd 2, .inl (cyI, 8, .inl (fun _ => 0))), (ad 12, .inl (cyZ, 3, .inl (fun _ => 0))), (ad 17, .inr (4, [.ref (gd 0), .ref (gd 1), .ref (gd 2), .ref (gd 3), .int 0])), (ad 3, .inr (1, [.ref (dd 0), .ref (dd 1), .ref (dd 2), .ref (dd 3), .int 0, .int 0, .int 0, .int 0, .int 2, .int 0, .int 0])), (ad 5, .inr (3, [.ref (ad 3), .int 0]))] := hD
  refine lv_aload_n hx hb dX6_begin_16 rfl (lv_at hl 0 rfl) ?_
  refine lv_iconst (v := 0) hx hb dX6_begin_17 (by decide) ?_
  refine va_put (D := (dC, dI)) (ci := 6) (v := .int 0) (ty := .int) (C := RX6) (T := TX6) (N := 20) hx hb hts hi6 tyX6 tyX6_ok nmX6 hown hK hP hD hS 0 rfl rfl 8 (by decide) (hts _ (ow_m (k := 7) rfl)) (fun _ h9 => h9) rfl (by decide +kernel) rfl rfl (Nat.le_of_ble_eq_true rfl) dX6_begin_18 (fun H locs hP hD hS => ?_)
  have hP : va_P (dC, dI) vwCl [(h0, .inr (6, [.ref (ad 0), .int 0, .ref (ad 3), .ref (ad 2), .ref (ad 4), .ref (ad 5), .ref (ad 6), .int 0, .int 0, .ref (ad 9), .ref (ad 10), .ref (ad 11), .ref (ad 12), .ref (ad 13), .int 0, .ref (ad 15), .int 0, .ref (ad 17), .ref (ad 18), .int 0])), (ad 6, .inl (cyO, 41, .inr (.inr (.inr (.inr (va_up (fun _ => none) 0 (some (ad 9)))))))), (ad 9, .inr (5, [.ref (sd 0), .ref (sd 1), .ref (sd 2), .ref (sd 3), .ref (sd 4), .ref (sd 5), .ref (sd 6), .int 0, .int (-1), .int 0, .int 0, .int 0, .int 0])), (sd 1, .inl (cyI, 8, .inl (fun _ => 0))), (sd 2, .inl (cyI, 8, .inl (fun _ => 0))), (ad 12, .inl (cyZ, 3, .inl (fun _ => 0))), (ad 17, .inr (4, [.ref (gd 0), .ref (gd 1), .ref (gd 2), .ref (gd 3), .int 0])), (ad 3, .inr (1, [.ref (dd 0), .ref (dd 1), .ref (dd 2), .ref (dd 3), .int 0, .int 0, .int 0, .int 0, .int 2, .int 0, .int 0])), (ad 5, .inr (3, [.ref (ad 3), .int 0]))] H := hP
  have hD : va_D A [(h0, .inr (6, [.ref (ad 0), .int 0, .ref (ad 3), .ref (ad 2), .ref (ad 4), .ref (ad 5), .ref (ad 6), .int 0, .int 0, .ref (ad 9), .ref (ad 10), .ref (ad 11), .ref (ad 12), .ref (ad 13), .int 0, .ref (ad 15), .int 0, .ref (ad 17), .ref (ad 18), .int 0])), (ad 6, .inl (cyO, 41, .inr (.inr (.inr (.inr (va_up (fun _ => none) 0 (some (ad 9)))))))), (ad 9, .inr (5, [.ref (sd 0), .ref (sd 1), .ref (sd 2), .ref (sd 3), .ref (sd 4), .ref (sd 5), .ref (sd 6), .int 0, .int (-1), .int 0, .int 0, .int 0, .int 0])), (sd 1, .inl (cyI, 8, .inl (fun _ => 0))), (sd 2, .inl (cyI, 8, .inl (fun _ => 0))), (ad 12, .inl (cyZ, 3, .inl (fun _ => 0))), (ad 17, .inr (4, [.ref (gd 0), .ref (gd 1), .ref (gd 2), .ref (gd 3), .int 0])), (ad 3, .inr (1, [.ref (dd 0), .ref (dd 1), .ref (dd 2), .ref (dd 3), .int 0, .int 0, .int 0, .int 0, .int 2, .int 0, .int 0])), (ad 5, .inr (3, [.ref (ad 3), .int 0]))] := hD
  refine lv_aload_n hx hb dX6_begin_21 rfl (lv_at hl 0 rfl) ?_
  refine lv_aload_n hx hb dX6_begin_22 rfl (lv_at hl 0 rfl) ?_
  refine lv_iconst (v := 0) hx hb dX6_begin_23 (by decide) ?_
  refine gf_r (wr := [(ad 9, .inr (5, [.ref (sd 0), .ref (sd 1), .ref (sd 2), .ref (sd 3), .ref (sd 4), .ref (sd 5), .ref (sd 6), .int 0, .int (-1), .int 0, .int 0, .int 0, .int 0])), (sd 1, .inl (cyI, 8, .inl (fun _ => 0))), (sd 2, .inl (cyI, 8, .inl (fun _ => 0))), (ad 12, .inl (cyZ, 3, .inl (fun _ => 0))), (ad 17, .inr (4, [.ref (gd 0), .ref (gd 1), .ref (gd 2), .ref (gd 3), .int 0])), (ad 3, .inr (1, [.ref (dd 0), .ref (dd 1), .ref (dd 2), .ref (dd 3), .int 0, .int 0, .int 0, .int 0, .int 2, .int 0, .int 0])), (ad 5, .inr (3, [.ref (ad 3), .int 0]))]) (va_runV (As := [.int 0]) (rest := [.ref h0]) hfix (k_X6_stateAt l dC dI cyB cyI cyJ cyZ cyO h0 ad _) (cwV 1 hts (gi_V (ow_m (k := 8) rfl) (ow_m (k := 9) rfl) (ow_m (k := 10) rfl) (ow_m (k := 11) rfl) (sb_c (sb_r sb_l)) gd_k_X6_stateAt) rfl rfl rfl (by decide +kernel) ⟨Nat.le_of_ble_eq_true rfl, Nat.le_of_ble_eq_true rfl⟩) (g_preV hKN hP hD [0, 1] rfl (by decide) 0 6 rfl rfl) rfl rfl hl.1 rfl (lv_room (Nat.le_of_ble_eq_true rfl)) dX6_begin_24 ⟨Nat.le_of_ble_eq_true rfl, Nat.le_of_ble_eq_true rfl⟩) hP hD hS hA [0, 1] [2, 3, 4, 5, 6, 7, 8] rfl rfl (by decide) (by decide) (fun u503 H locs qu503 hP hD hS => ?_)
  have hP : va_P (dC, dI) vwCl [(ad 9, .inr (5, [.ref (sd 0), .ref (sd 1), .ref (sd 2), .ref (sd 3), .ref (sd 4), .ref (sd 5), .ref (sd 6), .int 0, .int (-1), .int 0, .int 0, .int 0, .int 0])), (sd 1, .inl (cyI, 8, .inl (fun _ => 0))), (sd 2, .inl (cyI, 8, .inl (fun _ => 0))), (ad 12, .inl (cyZ, 3, .inl (fun _ => 0))), (ad 17, .inr (4, [.ref (gd 0), .ref (gd 1), .ref (gd 2), .ref (gd 3), .int 0])), (ad 3, .inr (1, [.ref (dd 0), .ref (dd 1), .ref (dd 2), .ref (dd 3), .int 0, .int 0, .int 0, .int 0, .int 2, .int 0, .int 0])), (ad 5, .inr (3, [.ref (ad 3), .int 0])), (h0, .inr (6, [.ref (ad 0), .int 0, .ref (ad 3), .ref (ad 2), .ref (ad 4), .ref (ad 5), .ref (ad 6), .int 0, .int 0, .ref (ad 9), .ref (ad 10), .ref (ad 11), .ref (ad 12), .ref (ad 13), .int 0, .ref (ad 15), .int 0, .ref (ad 17), .ref (ad 18), .int 0])), (ad 6, .inl (cyO, 41, .inr (.inr (.inr (.inr (va_up (fun _ => none) 0 (some (ad 9))))))))] H := hP
  have hD : va_D A [(ad 9, .inr (5, [.ref (sd 0), .ref (sd 1), .ref (sd 2), .ref (sd 3), .ref (sd 4), .ref (sd 5), .ref (sd 6), .int 0, .int (-1), .int 0, .int 0, .int 0, .int 0])), (sd 1, .inl (cyI, 8, .inl (fun _ => 0))), (sd 2, .inl (cyI, 8, .inl (fun _ => 0))), (ad 12, .inl (cyZ, 3, .inl (fun _ => 0))), (ad 17, .inr (4, [.ref (gd 0), .ref (gd 1), .ref (gd 2), .ref (gd 3), .int 0])), (ad 3, .inr (1, [.ref (dd 0), .ref (dd 1), .ref (dd 2), .ref (dd 3), .int 0, .int 0, .int 0, .int 0, .int 2, .int 0, .int 0])), (ad 5, .inr (3, [.ref (ad 3), .int 0])), (h0, .inr (6, [.ref (ad 0), .int 0, .ref (ad 3), .ref (ad 2), .ref (ad 4), .ref (ad 5), .ref (ad 6), .int 0, .int 0, .ref (ad 9), .ref (ad 10), .ref (ad 11), .ref (ad 12), .ref (ad 13), .int 0, .ref (ad 15), .int 0, .ref (ad 17), .ref (ad 18), .int 0])), (ad 6, .inl (cyO, 41, .inr (.inr (.inr (.inr (va_up (fun _ => none) 0 (some (ad 9))))))))] := hD
  refine va_put (D := (dC, dI)) (ci := 6) (v := .ref (ad 9)) (ty := .object "ReplicaChain$State") (C := RX6) (T := TX6) (N := 20) hx hb hts hi6 tyX6 tyX6_ok nmX6 hown hK hP hD hS 7 rfl rfl 9 (by decide) (hts _ (ow_m (k := 12) rfl)) (fun _ h9 => h9) rfl (by decide +kernel) rfl rfl (Nat.le_of_ble_eq_true rfl) dX6_begin_27 (fun H locs hP hD hS => ?_)
  have hP : va_P (dC, dI) vwCl [(ad 9, .inr (5, [.ref (sd 0), .ref (sd 1), .ref (sd 2), .ref (sd 3), .ref (sd 4), .ref (sd 5), .ref (sd 6), .int 0, .int (-1), .int 0, .int 0, .int 0, .int 0])), (sd 1, .inl (cyI, 8, .inl (fun _ => 0))), (sd 2, .inl (cyI, 8, .inl (fun _ => 0))), (ad 12, .inl (cyZ, 3, .inl (fun _ => 0))), (ad 17, .inr (4, [.ref (gd 0), .ref (gd 1), .ref (gd 2), .ref (gd 3), .int 0])), (ad 3, .inr (1, [.ref (dd 0), .ref (dd 1), .ref (dd 2), .ref (dd 3), .int 0, .int 0, .int 0, .int 0, .int 2, .int 0, .int 0])), (ad 5, .inr (3, [.ref (ad 3), .int 0])), (h0, .inr (6, [.ref (ad 0), .int 0, .ref (ad 3), .ref (ad 2), .ref (ad 4), .ref (ad 5), .ref (ad 6), .int 0, .int 0, .ref (ad 9), .ref (ad 10), .ref (ad 11), .ref (ad 12), .ref (ad 13), .int 0, .ref (ad 15), .int 0, .ref (ad 17), .ref (ad 18), .int 0])), (ad 6, .inl (cyO, 41, .inr (.inr (.inr (.inr (va_up (fun _ => none) 0 (some (ad 9))))))))] H := hP
  have hD : va_D A [(ad 9, .inr (5, [.ref (sd 0), .ref (sd 1), .ref (sd 2), .ref (sd 3), .ref (sd 4), .ref (sd 5), .ref (sd 6), .int 0, .int (-1), .int 0, .int 0, .int 0, .int 0])), (sd 1, .inl (cyI, 8, .inl (fun _ => 0))), (sd 2, .inl (cyI, 8, .inl (fun _ => 0))), (ad 12, .inl (cyZ, 3, .inl (fun _ => 0))), (ad 17, .inr (4, [.ref (gd 0), .ref (gd 1), .ref (gd 2), .ref (gd 3), .int 0])), (ad 3, .inr (1, [.ref (dd 0), .ref (dd 1), .ref (dd 2), .ref (dd 3), .int 0, .int 0, .int 0, .int 0, .int 2, .int 0, .int 0])), (ad 5, .inr (3, [.ref (ad 3), .int 0])), (h0, .inr (6, [.ref (ad 0), .int 0, .ref (ad 3), .ref (ad 2), .ref (ad 4), .ref (ad 5), .ref (ad 6), .int 0, .int 0, .ref (ad 9), .ref (ad 10), .ref (ad 11), .ref (ad 12), .ref (ad 13), .int 0, .ref (ad 15), .int 0, .ref (ad 17), .ref (ad 18), .int 0])), (ad 6, .inl (cyO, 41, .inr (.inr (.inr (.inr (va_up (fun _ => none) 0 (some (ad 9))))))))] := hD
  refine lv_aload_n hx hb dX6_begin_30 rfl (lv_at hl 0 rfl) ?_
  refine va_get (D := (dC, dI)) (ci := 6) (v := .ref (ad 9)) (C := RX6) (T := TX6) (N := 20) hx hb hts hi6 hown hK hP 7 rfl rfl 9 (by decide) (hts _ (ow_m (k := 12) rfl)) (fun _ h9 => h9) rfl dX6_begin_31 ?_
  refine lv_aload_n hx hb dX6_begin_34 rfl (lv_at hl 0 rfl) ?_
  refine va_get (D := (dC, dI)) (ci := 6) (v := .ref (ad 3)) (C := RX6) (T := TX6) (N := 20) hx hb hts hi6 hown hK hP 7 rfl rfl 2 (by decide) (hts _ (ow_m (k := 1) rfl)) (fun _ h9 => h9) rfl dX6_begin_35 ?_
  refine gf_v (wr := [(ad 12, .inl (cyZ, 3, .inl (fun _ => 0))), (ad 17, .inr (4, [.ref (gd 0), .ref (gd 1), .ref (gd 2), .ref (gd 3), .int 0])), (ad 5, .inr (3, [.ref (ad 3), .int 0])), (h0, .inr (6, [.ref (ad 0), .int 0, .ref (ad 3), .ref (ad 2), .ref (ad 4), .ref (ad 5), .ref (ad 6), .int 0, .int 0, .ref (ad 9), .ref (ad 10), .ref (ad 11), .ref (ad 12), .ref (ad 13), .int 0, .ref (ad 15), .int 0, .ref (ad 17), .ref (ad 18), .int 0])), (ad 6, .inl (cyO, 41, .inr (.inr (.inr (.inr (va_up (fun _ => none) 0 (some (ad 9))))))))]) (va_runV (As := [.ref (ad 3)]) (rest := []) hfix (k_X5_startAs l dC dI cyB cyI cyJ cyZ cyO ad sd dd _) (cwV 1 hts (gi_V (ow_m (k := 13) rfl) (ow_m (k := 14) rfl) (ow_m (k := 15) rfl) (ow_m (k := 16) rfl) (sb_c (sb_r (sb_r sb_l))) gd_k_X5_startAs) rfl rfl rfl (by decide +kernel) ⟨Nat.le_of_ble_eq_true rfl, Nat.le_of_ble_eq_true rfl⟩) (g_preV hKN hP hD [0, 1, 2, 5] rfl (by decide) 0 5 rfl rfl) rfl rfl hl.1 rfl (lv_room (Nat.le_of_ble_eq_true rfl)) dX6_begin_38 ⟨Nat.le_of_ble_eq_true rfl, Nat.le_of_ble_eq_true rfl⟩) hP hD hS hA [0, 1, 2, 5] [3, 4, 6, 7, 8] rfl rfl (by decide) (by decide) (fun u515 H locs qu515 hP hD hS => ?_)
  have hP : va_P (dC, dI) vwCl [(ad 12, .inl (cyZ, 3, .inl (fun _ => 0))), (ad 17, .inr (4, [.ref (gd 0), .ref (gd 1), .ref (gd 2), .ref (gd 3), .int 0])), (ad 5, .inr (3, [.ref (ad 3), .int 0])), (h0, .inr (6, [.ref (ad 0), .int 0, .ref (ad 3), .ref (ad 2), .ref (ad 4), .ref (ad 5), .ref (ad 6), .int 0, .int 0, .ref (ad 9), .ref (ad 10), .ref (ad 11), .ref (ad 12), .ref (ad 13), .int 0, .ref (ad 15), .int 0, .ref (ad 17), .ref (ad 18), .int 0])), (ad 6, .inl (cyO, 41, .inr (.inr (.inr (.inr (va_up (fun _ => none) 0 (some (ad 9)))))))), (ad 9, .inr (5, [.ref (sd 0), .ref (sd 1), .ref (sd 2), .ref (sd 3), .ref (sd 4), .ref (sd 5), .ref (sd 6), .int 0, .int (-1), .int 0, .int 0, .int 0, .int 0])), (sd 1, .inl (cyI, 8, .inl (fun _ => 0))), (sd 2, .inl (cyI, 8, .inl (fun _ => 0))), (ad 3, .inr (1, [.ref (dd 0), .ref (dd 1), .ref (dd 2), .ref (dd 3), .int 0, .int 0, .int 0, .int 0, .int 2, .int 0, .int 0]))] H := hP
  have hD : va_D A [(ad 12, .inl (cyZ, 3, .inl (fun _ => 0))), (ad 17, .inr (4, [.ref (gd 0), .ref (gd 1), .ref (gd 2), .ref (gd 3), .int 0])), (ad 5, .inr (3, [.ref (ad 3), .int 0])), (h0, .inr (6, [.ref (ad 0), .int 0, .ref (ad 3), .ref (ad 2), .ref (ad 4), .ref (ad 5), .ref (ad 6), .int 0, .int 0, .ref (ad 9), .ref (ad 10), .ref (ad 11), .ref (ad 12), .ref (ad 13), .int 0, .ref (ad 15), .int 0, .ref (ad 17), .ref (ad 18), .int 0])), (ad 6, .inl (cyO, 41, .inr (.inr (.inr (.inr (va_up (fun _ => none) 0 (some (ad 9)))))))), (ad 9, .inr (5, [.ref (sd 0), .ref (sd 1), .ref (sd 2), .ref (sd 3), .ref (sd 4), .ref (sd 5), .ref (sd 6), .int 0, .int (-1), .int 0, .int 0, .int 0, .int 0])), (sd 1, .inl (cyI, 8, .inl (fun _ => 0))), (sd 2, .inl (cyI, 8, .inl (fun _ => 0))), (ad 3, .inr (1, [.ref (dd 0), .ref (dd 1), .ref (dd 2), .ref (dd 3), .int 0, .int 0, .int 0, .int 0, .int 2, .int 0, .int 0]))] := hD
  refine lv_iconst (v := 0) hx hb dX6_begin_41 (by decide) ?_
  refine lv_istore_n (lv' := [(1, .int 0), (0, .ref h0)]) hx hb dX6_begin_42 rfl hl (by decide) rfl (fun ls hl => ?_)
  refine lv_iload_n hx hb dX6_begin_43 rfl (lv_at hl 0 rfl) ?_
  refine lv_iconst (v := 3) hx hb dX6_begin_44 (by decide) ?_
  refine lv_icmp_ge (tgt := 61) hx hb dX6_begin_45 (by decide) (fun c516 => absurd c516 (by decide)) (fun _ => ?_)
  refine lv_aload_n hx hb dX6_begin_48 rfl (lv_at hl 1 rfl) ?_
  refine va_get (D := (dC, dI)) (ci := 6) (v := .ref (ad 12)) (C := RX6) (T := TX6) (N := 20) hx hb hts hi6 hown hK hP 3 rfl rfl 12 (by decide) (hts _ (ow_m (k := 17) rfl)) (fun _ h9 => h9) rfl dX6_begin_49 ?_
  refine lv_iload_n hx hb dX6_begin_52 rfl (lv_at hl 0 rfl) ?_
  refine lv_iconst (v := 0) hx hb dX6_begin_53 (by decide) ?_
  refine va_zast hx hb hK hP hD hS 0 3 rfl rfl (vp_i (a := 0) (by decide) (by decide) (by decide)) dX6_begin_54 (fun H locs hP hD hS => ?_)
  have hP : va_P (dC, dI) vwCl [(ad 12, .inl (cyZ, 3, .inl (upd (fun _ => 0) 0 0))), (ad 17, .inr (4, [.ref (gd 0), .ref (gd 1), .ref (gd 2), .ref (gd 3), .int 0])), (ad 5, .inr (3, [.ref (ad 3), .int 0])), (h0, .inr (6, [.ref (ad 0), .int 0, .ref (ad 3), .ref (ad 2), .ref (ad 4), .ref (ad 5), .ref (ad 6), .int 0, .int 0, .ref (ad 9), .ref (ad 10), .ref (ad 11), .ref (ad 12), .ref (ad 13), .int 0, .ref (ad 15), .int 0, .ref (ad 17), .ref (ad 18), .int 0])), (ad 6, .inl (cyO, 41, .inr (.inr (.inr (.inr (va_up (fun _ => none) 0 (some (ad 9)))))))), (ad 9, .inr (5, [.ref (sd 0), .ref (sd 1), .ref (sd 2), .ref (sd 3), .ref (sd 4), .ref (sd 5), .ref (sd 6), .int 0, .int (-1), .int 0, .int 0, .int 0, .int 0])), (sd 1, .inl (cyI, 8, .inl (fun _ => 0))), (sd 2, .inl (cyI, 8, .inl (fun _ => 0))), (ad 3, .inr (1, [.ref (dd 0), .ref (dd 1), .ref (dd 2), .ref (dd 3), .int 0, .int 0, .int 0, .int 0, .int 2, .int 0, .int 0]))] H := hP
  have hD : va_D A [(ad 12, .inl (cyZ, 3, .inl (upd (fun _ => 0) 0 0))), (ad 17, .inr (4, [.ref (gd 0), .ref (gd 1), .ref (gd 2), .ref (gd 3), .int 0])), (ad 5, .inr (3, [.ref (ad 3), .int 0])), (h0, .inr (6, [.ref (ad 0), .int 0, .ref (ad 3), .ref (ad 2), .ref (ad 4), .ref (ad 5), .ref (ad 6), .int 0, .int 0, .ref (ad 9), .ref (ad 10), .ref (ad 11), .ref (ad 12), .ref (ad 13), .int 0, .ref (ad 15), .int 0, .ref (ad 17), .ref (ad 18), .int 0])), (ad 6, .inl (cyO, 41, .inr (.inr (.inr (.inr (va_up (fun _ => none) 0 (some (ad 9)))))))), (ad 9, .inr (5, [.ref (sd 0), .ref (sd 1), .ref (sd 2), .ref (sd 3), .ref (sd 4), .ref (sd 5), .ref (sd 6), .int 0, .int (-1), .int 0, .int 0, .int 0, .int 0])), (sd 1, .inl (cyI, 8, .inl (fun _ => 0))), (sd 2, .inl (cyI, 8, .inl (fun _ => 0))), (ad 3, .inr (1, [.ref (dd 0), .ref (dd 1), .ref (dd 2), .ref (dd 3), .int 0, .int 0, .int 0, .int 0, .int 2, .int 0, .int 0]))] := hD
  rw [upd_z] at hP hD
  refine lv_iinc (v := 1) (lv' := [(1, .int 1), (0, .ref h0)]) hx hb dX6_begin_55 hl (k := 0) rfl (by decide) (by decide) rfl (fun ls hl => ?_)
  refine lv_goto (tgt := 43) hx hb dX6_begin_58 (by decide) ?_
  refine lv_iload_n hx hb dX6_begin_43 rfl (lv_at hl 0 rfl) ?_
  refine lv_iconst (v := 3) hx hb dX6_begin_44 (by decide) ?_
  refine lv_icmp_ge (tgt := 61) hx hb dX6_begin_45 (by decide) (fun c517 => absurd c517 (by decide)) (fun _ => ?_)
  refine lv_aload_n hx hb dX6_begin_48 rfl (lv_at hl 1 rfl) ?_
  refine va_get (D := (dC, dI)) (ci := 6) (v := .ref (ad 12)) (C := RX6) (T := TX6) (N := 20) hx hb hts hi6 hown hK hP 3 rfl rfl 12 (by decide) (hts _ (ow_m (k := 17) rfl)) (fun _ h9 => h9) rfl dX6_begin_49 ?_
  refine lv_iload_n hx hb dX6_begin_52 rfl (lv_at hl 0 rfl) ?_
  refine lv_iconst (v := 0) hx hb dX6_begin_53 (by decide) ?_
  refine va_zast hx hb hK hP hD hS 0 3 rfl rfl (vp_i (a := 1) (by decide) (by decide) (by decide)) dX6_begin_54 (fun H locs hP hD hS => ?_)
  have hP : va_P (dC, dI) vwCl [(ad 12, .inl (cyZ, 3, .inl (upd (fun _ => 0) 1 0))), (ad 17, .inr (4, [.ref (gd 0), .ref (gd 1), .ref (gd 2), .ref (gd 3), .int 0])), (ad 5, .inr (3, [.ref (ad 3), .int 0])), (h0, .inr (6, [.ref (ad 0), .int 0, .ref (ad 3), .ref (ad 2), .ref (ad 4), .ref (ad 5), .ref (ad 6), .int 0, .int 0, .ref (ad 9), .ref (ad 10), .ref (ad 11), .ref (ad 12), .ref (ad 13), .int 0, .ref (ad 15), .int 0, .ref (ad 17), .ref (ad 18), .int 0])), (ad 6, .inl (cyO, 41, .inr (.inr (.inr (.inr (va_up (fun _ => none) 0 (some (ad 9)))))))), (ad 9, .inr (5, [.ref (sd 0), .ref (sd 1), .ref (sd 2), .ref (sd 3), .ref (sd 4), .ref (sd 5), .ref (sd 6), .int 0, .int (-1), .int 0, .int 0, .int 0, .int 0])), (sd 1, .inl (cyI, 8, .inl (fun _ => 0))), (sd 2, .inl (cyI, 8, .inl (fun _ => 0))), (ad 3, .inr (1, [.ref (dd 0), .ref (dd 1), .ref (dd 2), .ref (dd 3), .int 0, .int 0, .int 0, .int 0, .int 2, .int 0, .int 0]))] H := hP
  have hD : va_D A [(ad 12, .inl (cyZ, 3, .inl (upd (fun _ => 0) 1 0))), (ad 17, .inr (4, [.ref (gd 0), .ref (gd 1), .ref (gd 2), .ref (gd 3), .int 0])), (ad 5, .inr (3, [.ref (ad 3), .int 0])), (h0, .inr (6, [.ref (ad 0), .int 0, .ref (ad 3), .ref (ad 2), .ref (ad 4), .ref (ad 5), .ref (ad 6), .int 0, .int 0, .ref (ad 9), .ref (ad 10), .ref (ad 11), .ref (ad 12), .ref (ad 13), .int 0, .ref (ad 15), .int 0, .ref (ad 17), .ref (ad 18), .int 0])), (ad 6, .inl (cyO, 41, .inr (.inr (.inr (.inr (va_up (fun _ => none) 0 (some (ad 9)))))))), (ad 9, .inr (5, [.ref (sd 0), .ref (sd 1), .ref (sd 2), .ref (sd 3), .ref (sd 4), .ref (sd 5), .ref (sd 6), .int 0, .int (-1), .int 0, .int 0, .int 0, .int 0])), (sd 1, .inl (cyI, 8, .inl (fun _ => 0))), (sd 2, .inl (cyI, 8, .inl (fun _ => 0))), (ad 3, .inr (1, [.ref (dd 0), .ref (dd 1), .ref (dd 2), .ref (dd 3), .int 0, .int 0, .int 0, .int 0, .int 2, .int 0, .int 0]))] := hD
  rw [upd_z] at hP hD
  refine lv_iinc (v := 2) (lv' := [(1, .int 2), (0, .ref h0)]) hx hb dX6_begin_55 hl (k := 0) rfl (by decide) (by decide) rfl (fun ls hl => ?_)
  refine lv_goto (tgt := 43) hx hb dX6_begin_58 (by decide) ?_
  refine lv_iload_n hx hb dX6_begin_43 rfl (lv_at hl 0 rfl) ?_
  refine lv_iconst (v := 3) hx hb dX6_begin_44 (by decide) ?_
  refine lv_icmp_ge (tgt := 61) hx hb dX6_begin_45 (by decide) (fun c518 => absurd c518 (by decide)) (fun _ => ?_)
  refine lv_aload_n hx hb dX6_begin_48 rfl (lv_at hl 1 rfl) ?_
  refine va_get (D := (dC, dI)) (ci := 6) (v := .ref (ad 12)) (C := RX6) (T := TX6) (N := 20) hx hb hts hi6 hown hK hP 3 rfl rfl 12 (by decide) (hts _ (ow_m (k := 17) rfl)) (fun _ h9 => h9) rfl dX6_begin_49 ?_
  refine lv_iload_n hx hb dX6_begin_52 rfl (lv_at hl 0 rfl) ?_
  refine lv_iconst (v := 0) hx hb dX6_begin_53 (by decide) ?_
  refine va_zast hx hb hK hP hD hS 0 3 rfl rfl (vp_i (a := 2) (by decide) (by decide) (by decide)) dX6_begin_54 (fun H locs hP hD hS => ?_)
  have hP : va_P (dC, dI) vwCl [(ad 12, .inl (cyZ, 3, .inl (upd (fun _ => 0) 2 0))), (ad 17, .inr (4, [.ref (gd 0), .ref (gd 1), .ref (gd 2), .ref (gd 3), .int 0])), (ad 5, .inr (3, [.ref (ad 3), .int 0])), (h0, .inr (6, [.ref (ad 0), .int 0, .ref (ad 3), .ref (ad 2), .ref (ad 4), .ref (ad 5), .ref (ad 6), .int 0, .int 0, .ref (ad 9), .ref (ad 10), .ref (ad 11), .ref (ad 12), .ref (ad 13), .int 0, .ref (ad 15), .int 0, .ref (ad 17), .ref (ad 18), .int 0])), (ad 6, .inl (cyO, 41, .inr (.inr (.inr (.inr (va_up (fun _ => none) 0 (some (ad 9)))))))), (ad 9, .inr (5, [.ref (sd 0), .ref (sd 1), .ref (sd 2), .ref (sd 3), .ref (sd 4), .ref (sd 5), .ref (sd 6), .int 0, .int (-1), .int 0, .int 0, .int 0, .int 0])), (sd 1, .inl (cyI, 8, .inl (fun _ => 0))), (sd 2, .inl (cyI, 8, .inl (fun _ => 0))), (ad 3, .inr (1, [.ref (dd 0), .ref (dd 1), .ref (dd 2), .ref (dd 3), .int 0, .int 0, .int 0, .int 0, .int 2, .int 0, .int 0]))] H := hP
  have hD : va_D A [(ad 12, .inl (cyZ, 3, .inl (upd (fun _ => 0) 2 0))), (ad 17, .inr (4, [.ref (gd 0), .ref (gd 1), .ref (gd 2), .ref (gd 3), .int 0])), (ad 5, .inr (3, [.ref (ad 3), .int 0])), (h0, .inr (6, [.ref (ad 0), .int 0, .ref (ad 3), .ref (ad 2), .ref (ad 4), .ref (ad 5), .ref (ad 6), .int 0, .int 0, .ref (ad 9), .ref (ad 10), .ref (ad 11), .ref (ad 12), .ref (ad 13), .int 0, .ref (ad 15), .int 0, .ref (ad 17), .ref (ad 18), .int 0])), (ad 6, .inl (cyO, 41, .inr (.inr (.inr (.inr (va_up (fun _ => none) 0 (some (ad 9)))))))), (ad 9, .inr (5, [.ref (sd 0), .ref (sd 1), .ref (sd 2), .ref (sd 3), .ref (sd 4), .ref (sd 5), .ref (sd 6), .int 0, .int (-1), .int 0, .int 0, .int 0, .int 0])), (sd 1, .inl (cyI, 8, .inl (fun _ => 0))), (sd 2, .inl (cyI, 8, .inl (fun _ => 0))), (ad 3, .inr (1, [.ref (dd 0), .ref (dd 1), .ref (dd 2), .ref (dd 3), .int 0, .int 0, .int 0, .int 0, .int 2, .int 0, .int 0]))] := hD
  rw [upd_z] at hP hD
  refine lv_iinc (v := 3) (lv' := [(1, .int 3), (0, .ref h0)]) hx hb dX6_begin_55 hl (k := 0) rfl (by decide) (by decide) rfl (fun ls hl => ?_)
  refine lv_goto (tgt := 43) hx hb dX6_begin_58 (by decide) ?_
  refine lv_iload_n hx hb dX6_begin_43 rfl (lv_at hl 0 rfl) ?_
  refine lv_iconst (v := 3) hx hb dX6_begin_44 (by decide) ?_
  refine lv_icmp_ge (tgt := 61) hx hb dX6_begin_45 (by decide) (fun _ => ?_) (fun c519 => absurd (by decide) c519)
  refine lv_aload_n hx hb dX6_begin_61 rfl (lv_at hl 1 rfl) ?_
  refine lv_iconst (v := 0) hx hb dX6_begin_62 (by decide) ?_
  refine va_put (D := (dC, dI)) (ci := 6) (v := .int 0) (ty := .int) (C := RX6) (T := TX6) (N := 20) hx hb hts hi6 tyX6 tyX6_ok nmX6 hown hK hP hD hS 3 rfl rfl 14 (by decide) (hts _ (ow_m (k := 18) rfl)) (fun _ h9 => h9) rfl (by decide +kernel) rfl rfl (Nat.le_of_ble_eq_true rfl) dX6_begin_63 (fun H locs hP hD hS => ?_)
  have hP : va_P (dC, dI) vwCl [(ad 12, .inl (cyZ, 3, .inl (fun _ => 0))), (ad 17, .inr (4, [.ref (gd 0), .ref (gd 1), .ref (gd 2), .ref (gd 3), .int 0])), (ad 5, .inr (3, [.ref (ad 3), .int 0])), (h0, .inr (6, [.ref (ad 0), .int 0, .ref (ad 3), .ref (ad 2), .ref (ad 4), .ref (ad 5), .ref (ad 6), .int 0, .int 0, .ref (ad 9), .ref (ad 10), .ref (ad 11), .ref (ad 12), .ref (ad 13), .int 0, .ref (ad 15), .int 0, .ref (ad 17), .ref (ad 18), .int 0])), (ad 6, .inl (cyO, 41, .inr (.inr (.inr (.inr (va_up (fun _ => none) 0 (some (ad 9)))))))), (ad 9, .inr (5, [.ref (sd 0), .ref (sd 1), .ref (sd 2), .ref (sd 3), .ref (sd 4), .ref (sd 5), .ref (sd 6), .int 0, .int (-1), .int 0, .int 0, .int 0, .int 0])), (sd 1, .inl (cyI, 8, .inl (fun _ => 0))), (sd 2, .inl (cyI, 8, .inl (fun _ => 0))), (ad 3, .inr (1, [.ref (dd 0), .ref (dd 1), .ref (dd 2), .ref (dd 3), .int 0, .int 0, .int 0, .int 0, .int 2, .int 0, .int 0]))] H := hP
  have hD : va_D A [(ad 12, .inl (cyZ, 3, .inl (fun _ => 0))), (ad 17, .inr (4, [.ref (gd 0), .ref (gd 1), .ref (gd 2), .ref (gd 3), .int 0])), (ad 5, .inr (3, [.ref (ad 3), .int 0])), (h0, .inr (6, [.ref (ad 0), .int 0, .ref (ad 3), .ref (ad 2), .ref (ad 4), .ref (ad 5), .ref (ad 6), .int 0, .int 0, .ref (ad 9), .ref (ad 10), .ref (ad 11), .ref (ad 12), .ref (ad 13), .int 0, .ref (ad 15), .int 0, .ref (ad 17), .ref (ad 18), .int 0])), (ad 6, .inl (cyO, 41, .inr (.inr (.inr (.inr (va_up (fun _ => none) 0 (some (ad 9)))))))), (ad 9, .inr (5, [.ref (sd 0), .ref (sd 1), .ref (sd 2), .ref (sd 3), .ref (sd 4), .ref (sd 5), .ref (sd 6), .int 0, .int (-1), .int 0, .int 0, .int 0, .int 0])), (sd 1, .inl (cyI, 8, .inl (fun _ => 0))), (sd 2, .inl (cyI, 8, .inl (fun _ => 0))), (ad 3, .inr (1, [.ref (dd 0), .ref (dd 1), .ref (dd 2), .ref (dd 3), .int 0, .int 0, .int 0, .int 0, .int 2, .int 0, .int 0]))] := hD
  refine lv_aload_n hx hb dX6_begin_66 rfl (lv_at hl 1 rfl) ?_
  refine va_get (D := (dC, dI)) (ci := 6) (v := .ref (ad 17)) (C := RX6) (T := TX6) (N := 20) hx hb hts hi6 hown hK hP 3 rfl rfl 17 (by decide) (hts _ (ow_m (k := 19) rfl)) (fun _ h9 => h9) rfl dX6_begin_67 ?_
  refine gf_v (wr := [(ad 12, .inl (cyZ, 3, .inl (fun _ => 0))), (ad 5, .inr (3, [.ref (ad 3), .int 0])), (h0, .inr (6, [.ref (ad 0), .int 0, .ref (ad 3), .ref (ad 2), .ref (ad 4), .ref (ad 5), .ref (ad 6), .int 0, .int 0, .ref (ad 9), .ref (ad 10), .ref (ad 11), .ref (ad 12), .ref (ad 13), .int 0, .ref (ad 15), .int 0, .ref (ad 17), .ref (ad 18), .int 0])), (ad 6, .inl (cyO, 41, .inr (.inr (.inr (.inr (va_up (fun _ => none) 0 (some (ad 9)))))))), (ad 9, .inr (5, [.ref (sd 0), .ref (sd 1), .ref (sd 2), .ref (sd 3), .ref (sd 4), .ref (sd 5), .ref (sd 6), .int 0, .int (-1), .int 0, .int 0, .int 0, .int 0])), (sd 1, .inl (cyI, 8, .inl (fun _ => 0))), (sd 2, .inl (cyI, 8, .inl (fun _ => 0))), (ad 3, .inr (1, [.ref (dd 0), .ref (dd 1), .ref (dd 2), .ref (dd 3), .int 0, .int 0, .int 0, .int 0, .int 2, .int 0, .int 0]))]) (va_runV (As := []) (rest := []) hfix (k_X4_forget l dC dI cyB cyI cyJ cyZ cyO ad gd _) (cwV 0 hts (gi_V (ow_m (k := 20) rfl) (ow_m (k := 21) rfl) (ow_m (k := 22) rfl) (ow_m (k := 23) rfl) (sb_c (sb_r (sb_r (sb_r sb_l)))) gd_k_X4_forget) rfl rfl rfl (by decide +kernel) ⟨Nat.le_of_ble_eq_true rfl, Nat.le_of_ble_eq_true rfl⟩) (g_preV hKN hP hD [1] rfl (by decide) 0 4 rfl rfl) rfl rfl hl.1 rfl (lv_room (Nat.le_of_ble_eq_true rfl)) dX6_begin_70 ⟨Nat.le_of_ble_eq_true rfl, Nat.le_of_ble_eq_true rfl⟩) hP hD hS hA [1] [0, 2, 3, 4, 5, 6, 7, 8] rfl rfl (by decide) (by decide) (fun u521 H locs qu521 hP hD hS => ?_)
  have hP : va_P (dC, dI) vwCl [(ad 12, .inl (cyZ, 3, .inl (fun _ => 0))), (ad 5, .inr (3, [.ref (ad 3), .int 0])), (h0, .inr (6, [.ref (ad 0), .int 0, .ref (ad 3), .ref (ad 2), .ref (ad 4), .ref (ad 5), .ref (ad 6), .int 0, .int 0, .ref (ad 9), .ref (ad 10), .ref (ad 11), .ref (ad 12), .ref (ad 13), .int 0, .ref (ad 15), .int 0, .ref (ad 17), .ref (ad 18), .int 0])), (ad 6, .inl (cyO, 41, .inr (.inr (.inr (.inr (va_up (fun _ => none) 0 (some (ad 9)))))))), (ad 9, .inr (5, [.ref (sd 0), .ref (sd 1), .ref (sd 2), .ref (sd 3), .ref (sd 4), .ref (sd 5), .ref (sd 6), .int 0, .int (-1), .int 0, .int 0, .int 0, .int 0])), (sd 1, .inl (cyI, 8, .inl (fun _ => 0))), (sd 2, .inl (cyI, 8, .inl (fun _ => 0))), (ad 3, .inr (1, [.ref (dd 0), .ref (dd 1), .ref (dd 2), .ref (dd 3), .int 0, .int 0, .int 0, .int 0, .int 2, .int 0, .int 0])), (ad 17, .inr (4, [.ref (gd 0), .ref (gd 1), .ref (gd 2), .ref (gd 3), .int 0]))] H := hP
  have hD : va_D A [(ad 12, .inl (cyZ, 3, .inl (fun _ => 0))), (ad 5, .inr (3, [.ref (ad 3), .int 0])), (h0, .inr (6, [.ref (ad 0), .int 0, .ref (ad 3), .ref (ad 2), .ref (ad 4), .ref (ad 5), .ref (ad 6), .int 0, .int 0, .ref (ad 9), .ref (ad 10), .ref (ad 11), .ref (ad 12), .ref (ad 13), .int 0, .ref (ad 15), .int 0, .ref (ad 17), .ref (ad 18), .int 0])), (ad 6, .inl (cyO, 41, .inr (.inr (.inr (.inr (va_up (fun _ => none) 0 (some (ad 9)))))))), (ad 9, .inr (5, [.ref (sd 0), .ref (sd 1), .ref (sd 2), .ref (sd 3), .ref (sd 4), .ref (sd 5), .ref (sd 6), .int 0, .int (-1), .int 0, .int 0, .int 0, .int 0])), (sd 1, .inl (cyI, 8, .inl (fun _ => 0))), (sd 2, .inl (cyI, 8, .inl (fun _ => 0))), (ad 3, .inr (1, [.ref (dd 0), .ref (dd 1), .ref (dd 2), .ref (dd 3), .int 0, .int 0, .int 0, .int 0, .int 2, .int 0, .int 0])), (ad 17, .inr (4, [.ref (gd 0), .ref (gd 1), .ref (gd 2), .ref (gd 3), .int 0]))] := hD
  exact W.vret hx hb hr (fun t ht hW => ⟨⟨(), rfl, trivial, cE.of ht hP hD [2, 1, 3, 4, 5, 6, 0, 8, 7] (by decide) rfl⟩, hS.F ht⟩) hS.2.2 dX6_begin_73
def wo_k_X6_scenarios : List Cond := [.fieldLink RX6 16 "ReplicaChain" "plan" "LReplicaChain$Plan;", .fieldLink RX6 94 "ReplicaChain$Plan" "memberCount" "I"]
def wq_k_X6_scenarios : List Cond := .code yX6_scenarios cX6_scenarios 1 (some .int) :: (wo_k_X6_scenarios ++ (wsX10 ++ (wsX60 ++ [])))
theorem gd_k_X6_scenarios : Gd wq_k_X6_scenarios := gd_c (gd_a (gd_o (by decide +kernel)) (gd_a gd_u (gd_a gd_u gd_0)))
abbrev wc_k_X6_scenarios (cyB cyI cyJ cyZ cyO : ClassId) (h0 : Nat) (ad : Nat → Nat) (dd : Nat → Nat) : va_W := [(h0, .inr (6, [.ref (ad 0), .int 0, .ref (ad 3), .ref (ad 2), .ref (ad 4), .ref (ad 5), .ref (ad 6), .int 0, .int 0, .ref (ad 9), .ref (ad 10), .ref (ad 11), .ref (ad 12), .ref (ad 13), .int 0, .ref (ad 15), .int 0, .ref (ad 17), .ref (ad 18), .int 0])), (ad 3, .inr (1, [.ref (dd 0), .ref (dd 1), .ref (dd 2), .ref (dd 3), .int 0, .int 0, .int 0, .int 0, .int 2, .int 0, .int 0]))]
set_option maxHeartbeats 4000000 in
set_option maxRecDepth 100000 in
theorem k_X6_scenarios (l : Launch) (dC : Nat → ClassId) (dI : Nat → Nat → Nat) (cyB cyI cyJ cyZ cyO : ClassId) (h0 : Nat) (ad : Nat → Nat) (dd : Nat → Nat) (sz : Nat) : Met l yX6_scenarios wq_k_X6_scenarios ({ frames := 0, cells := 0, slots := 0, locals := 0 }) (va_Pc [.ref h0] (cB (dC, dI) (kT cyB cyI cyJ cyZ cyO) (wc_k_X6_scenarios cyB cyI cyJ cyZ cyO h0 ad dd) sz)) (va_Qi (fun (r : Int32) _ => r = 0) (fun (u : Unit) t => cE (dC, dI) (va_A (wc_k_X6_scenarios cyB cyI cyJ cyZ cyO h0 ad dd) sz) ([(h0, .inr (6, [.ref (ad 0), .int 0, .ref (ad 3), .ref (ad 2), .ref (ad 4), .ref (ad 5), .ref (ad 6), .int 0, .int 0, .ref (ad 9), .ref (ad 10), .ref (ad 11), .ref (ad 12), .ref (ad 13), .int 0, .ref (ad 15), .int 0, .ref (ad 17), .ref (ad 18), .int 0])), (ad 3, .inr (1, [.ref (dd 0), .ref (dd 1), .ref (dd 2), .ref (dd 3), .int 0, .int 0, .int 0, .int 0, .int 2, .int 0, .int 0]))]) t.heap) (va_A (wc_k_X6_scenarios cyB cyI cyJ cyZ cyO h0 ad dd) sz)) 0 0 (va_A (wc_k_X6_scenarios cyB cyI cyJ cyZ cyO h0 ad dd) sz) := by
  refine Met.ofW (cc := cX6_scenarios) (maxL := 1) (ret := (some .int)) (by decide) rfl ?_
  intro p e s m args below meth c s₁ B hml hv
  obtain ⟨rfl, hsz, hP, hKN, hD0⟩ := hv
  have hx := B.exec
  have hb := B.bytes
  have hr := B.returns
  have hts := atoms_spec (ws := wq_k_X6_scenarios) B.pre
  have hown : s.vm.findClass RX6 = some m.cls := findClass_of_methodNamed B.named
  have hlocks := B.notSynchronized
  have hK := hKN.1
  have hfix : CallFix p m c cX6_scenarios 1 s [.ref h0].toArray wq_k_X6_scenarios RX6 := ⟨hx, hb, hml, hown, hts⟩
  have hi1 : ∀ w ∈ wsX10, w ∈ wq_k_X6_scenarios := (sb_c sb_l)
  have hi6 : ∀ w ∈ wsX60, w ∈ wq_k_X6_scenarios := (sb_c (sb_r sb_l))
  subst hsz
  have hD := hD0.self (sz := s.heap.size)
  generalize hAe : va_A (wc_k_X6_scenarios cyB cyI cyJ cyZ cyO h0 ad dd) s.heap.size = A at hD ⊢
  have hA : ∀ q : Nat, s.heap.size ≤ q → A q := fun q h => by rw [← hAe]; exact Or.inr h
  have hS : va_S A s.heap s.heap [] := va_S.rf
  have hl := lv_entry ([.ref h0]) (n := 1) (Nat.le_of_ble_eq_true rfl)
  rw [lg_entry_eq]
  generalize (lg_sl ([.ref h0]) ++ List.replicate (1 - (lg_sl ([.ref h0])).length) Slot.unset).toArray = ls at hl ⊢
  have hl : lv_has ls 1 [(0, .ref h0)] := hl
  refine lv_aload_n hx hb dX6_scenarios_0 rfl (lv_at hl 0 rfl) ?_
  refine va_get (D := (dC, dI)) (ci := 6) (v := .ref (ad 3)) (C := RX6) (T := TX6) (N := 20) hx hb hts hi6 hown hK hP 0 rfl rfl 2 (by decide) (hts _ (ow_m (k := 0) rfl)) (fun _ h9 => h9) rfl dX6_scenarios_1 ?_
  refine va_get (D := (dC, dI)) (ci := 1) (v := .int 0) (C := RX1) (T := TX1) (N := 11) hx hb hts hi1 hown hK hP 1 rfl rfl 4 (by decide) (hts _ (ow_m (k := 1) rfl)) (fun _ h9 => h9) rfl dX6_scenarios_4 ?_
  refine lv_iconst (v := 2) hx hb dX6_scenarios_7 (by decide) ?_
  refine lv_icmp_ge (tgt := 21) hx hb dX6_scenarios_8 (by decide) (fun c525 => absurd c525 (by decide)) (fun _ => ?_)
  refine lv_aload_n hx hb dX6_scenarios_11 rfl (lv_at hl 0 rfl) ?_
  refine va_get (D := (dC, dI)) (ci := 6) (v := .ref (ad 3)) (C := RX6) (T := TX6) (N := 20) hx hb hts hi6 hown hK hP 0 rfl rfl 2 (by decide) (hts _ (ow_m (k := 0) rfl)) (fun _ h9 => h9) rfl dX6_scenarios_12 ?_
  refine va_get (D := (dC, dI)) (ci := 1) (v := .int 0) (C := RX1) (T := TX1) (N := 11) hx hb hts hi1 hown hK hP 1 rfl rfl 4 (by decide) (hts _ (ow_m (k := 1) rfl)) (fun _ h9 => h9) rfl dX6_scenarios_15 ?_
  refine lv_goto (tgt := 30) hx hb dX6_scenarios_18 (by decide) ?_
  exact W.iret (v := 0) hx hb hr (fun t ht hW => ⟨⟨0, (), rfl, rfl, cE.of ht hP hD [0, 1] (by decide) rfl⟩, hS.F ht⟩) hS.2.2 dX6_scenarios_30
def wo_k_X6_findAnswerTimes : List Cond := [.methodLink RX6 122 yX6_scenarios, .instanceMethod yX6_scenarios, .selects RX6 yX6_scenarios yX6_scenarios, .initialized RX6]
def wq_k_X6_findAnswerTimes : List Cond := .code yX6_findAnswerTimes cX6_findAnswerTimes 5 none :: (wo_k_X6_findAnswerTimes ++ (wq_k_X6_scenarios ++ []))
theorem gd_k_X6_findAnswerTimes : Gd wq_k_X6_findAnswerTimes := gd_c (gd_a (gd_o (by decide +kernel)) (gd_a gd_k_X6_scenarios gd_0))
abbrev wc_k_X6_findAnswerTimes (cyB cyI cyJ cyZ cyO : ClassId) (h0 : Nat) (ad : Nat → Nat) (dd : Nat → Nat) : va_W := [(h0, .inr (6, [.ref (ad 0), .int 0, .ref (ad 3), .ref (ad 2), .ref (ad 4), .ref (ad 5), .ref (ad 6), .int 0, .int 0, .ref (ad 9), .ref (ad 10), .ref (ad 11), .ref (ad 12), .ref (ad 13), .int 0, .ref (ad 15), .int 0, .ref (ad 17), .ref (ad 18), .int 0])), (ad 3, .inr (1, [.ref (dd 0), .ref (dd 1), .ref (dd 2), .ref (dd 3), .int 0, .int 0, .int 0, .int 0, .int 2, .int 0, .int 0]))]
set_option maxHeartbeats 4000000 in
set_option maxRecDepth 100000 in
theorem k_X6_findAnswerTimes (l : Launch) (dC : Nat → ClassId) (dI : Nat → Nat → Nat) (cyB cyI cyJ cyZ cyO : ClassId) (h0 : Nat) (ad : Nat → Nat) (dd : Nat → Nat) (sz : Nat) : Met l yX6_findAnswerTimes wq_k_X6_findAnswerTimes ({ frames := 1, cells := 0, slots := 0, locals := 20 }) (va_Pc [.ref h0] (cB (dC, dI) (kT cyB cyI cyJ cyZ cyO) (wc_k_X6_findAnswerTimes cyB cyI cyJ cyZ cyO h0 ad dd) sz)) (va_Qv (fun _ => True) (fun (u : Unit) t => cE (dC, dI) (va_A (wc_k_X6_findAnswerTimes cyB cyI cyJ cyZ cyO h0 ad dd) sz) ([(h0, .inr (6, [.ref (ad 0), .int 0, .ref (ad 3), .ref (ad 2), .ref (ad 4), .ref (ad 5), .ref (ad 6), .int 0, .int 0, .ref (ad 9), .ref (ad 10), .ref (ad 11), .ref (ad 12), .ref (ad 13), .int 0, .ref (ad 15), .int 0, .ref (ad 17), .ref (ad 18), .int 0])), (ad 3, .inr (1, [.ref (dd 0), .ref (dd 1), .ref (dd 2), .ref (dd 3), .int 0, .int 0, .int 0, .int 0, .int 2, .int 0, .int 0]))]) t.heap) (va_A (wc_k_X6_findAnswerTimes cyB cyI cyJ cyZ cyO h0 ad dd) sz)) 0 0 (va_A (wc_k_X6_findAnswerTimes cyB cyI cyJ cyZ cyO h0 ad dd) sz) := by
  refine Met.ofW (cc := cX6_findAnswerTimes) (maxL := 5) (ret := none) (by decide) rfl ?_
  intro p e s m args below meth c s₁ B hml hv
  obtain ⟨rfl, hsz, hP, hKN, hD0⟩ := hv
  have hx := B.exec
  have hb := B.bytes
  have hr := B.returns
  have hts := atoms_spec (ws := wq_k_X6_findAnswerTimes) B.pre
  have hown : s.vm.findClass RX6 = some m.cls := findClass_of_methodNamed B.named
  have hlocks := B.notSynchronized
  have hK := hKN.1
  have hfix : CallFix p m c cX6_findAnswerTimes 5 s [.ref h0].toArray wq_k_X6_findAnswerTimes RX6 := ⟨hx, hb, hml, hown, hts⟩
  subst hsz
  have hD := hD0.self (sz := s.heap.size)
  generalize hAe : va_A (wc_k_X6_findAnswerTimes cyB cyI cyJ cyZ cyO h0 ad dd) s.heap.size = A at hD ⊢
  have hA : ∀ q : Nat, s.heap.size ≤ q → A q := fun q h => by rw [← hAe]; exact Or.inr h
  have hS : va_S A s.heap s.heap [] := va_S.rf
  have hl := lv_entry ([.ref h0]) (n := 5) (Nat.le_of_ble_eq_true rfl)
  rw [lg_entry_eq]
  generalize (lg_sl ([.ref h0]) ++ List.replicate (5 - (lg_sl ([.ref h0])).length) Slot.unset).toArray = ls at hl ⊢
  have hl : lv_has ls 5 [(0, .ref h0)] := hl
  refine lv_iconst (v := 0) hx hb dX6_findAnswerTimes_0 (by decide) ?_
  refine lv_istore_n (lv' := [(1, .int 0), (0, .ref h0)]) hx hb dX6_findAnswerTimes_1 rfl hl (by decide) rfl (fun ls hl => ?_)
  refine lv_iload_n hx hb dX6_findAnswerTimes_2 rfl (lv_at hl 0 rfl) ?_
  refine lv_aload_n hx hb dX6_findAnswerTimes_3 rfl (lv_at hl 1 rfl) ?_
  refine gf_i (wr := []) (va_runV (As := []) (rest := [.int 0]) hfix (k_X6_scenarios l dC dI cyB cyI cyJ cyZ cyO h0 ad dd _) (cwV 0 hts (gi_V (ow_m (k := 0) rfl) (ow_m (k := 1) rfl) (ow_m (k := 2) rfl) (ow_m (k := 3) rfl) (sb_c sb_l) gd_k_X6_scenarios) rfl rfl rfl (by decide +kernel) ⟨Nat.le_of_ble_eq_true rfl, Nat.le_of_ble_eq_true rfl⟩) (g_preV hKN hP hD [0, 1] rfl (by decide) 0 6 rfl rfl) rfl rfl hl.1 rfl (lv_room (Nat.le_of_ble_eq_true rfl)) dX6_findAnswerTimes_4 ⟨Nat.le_of_ble_eq_true rfl, Nat.le_of_ble_eq_true rfl⟩) hP hD hS hA [0, 1] [] rfl rfl (by decide) (by decide) (fun r530 u531 H locs qu531 hP hD hS => ?_)
  have hP : va_P (dC, dI) vwCl [(h0, .inr (6, [.ref (ad 0), .int 0, .ref (ad 3), .ref (ad 2), .ref (ad 4), .ref (ad 5), .ref (ad 6), .int 0, .int 0, .ref (ad 9), .ref (ad 10), .ref (ad 11), .ref (ad 12), .ref (ad 13), .int 0, .ref (ad 15), .int 0, .ref (ad 17), .ref (ad 18), .int 0])), (ad 3, .inr (1, [.ref (dd 0), .ref (dd 1), .ref (dd 2), .ref (dd 3), .int 0, .int 0, .int 0, .int 0, .int 2, .int 0, .int 0]))] H := hP
  have hD : va_D A [(h0, .inr (6, [.ref (ad 0), .int 0, .ref (ad 3), .ref (ad 2), .ref (ad 4), .ref (ad 5), .ref (ad 6), .int 0, .int 0, .ref (ad 9), .ref (ad 10), .ref (ad 11), .ref (ad 12), .ref (ad 13), .int 0, .ref (ad 15), .int 0, .ref (ad 17), .ref (ad 18), .int 0])), (ad 3, .inr (1, [.ref (dd 0), .ref (dd 1), .ref (dd 2), .ref (dd 3), .int 0, .int 0, .int 0, .int 0, .int 2, .int 0, .int 0]))] := hD
  refine tp_c (w := 0) qu531 ?_
  refine lv_icmp_ge (tgt := 93) hx hb dX6_findAnswerTimes_7 (by decide) (fun _ => ?_) (fun c532 => absurd (by decide) c532)
  exact W.vret hx hb hr (fun t ht hW => ⟨⟨(), rfl, trivial, cE.of ht hP hD [0, 1] (by decide) rfl⟩, hS.F ht⟩) hS.2.2 dX6_findAnswerTimes_93
def wo_c_C_chain : List Cond := [.fieldLink RX6 28 "ReplicaChain" "reader" "LReplicaChain$Reader;", .fieldLink RX6 79 "ReplicaChain" "tapeLength" "I", .fieldLink RX6 20 "ReplicaChain" "draft" "LReplicaChain$Plan;", .methodLink RX6 87 yX2_understands, .instanceMethod yX2_understands, .selects RX2 yX2_understands yX2_understands, .initialized RX2, .fieldLink RX6 16 "ReplicaChain" "plan" "LReplicaChain$Plan;", .methodLink RX6 76 yX6_begin, .instanceMethod yX6_begin, .selects RX6 yX6_begin yX6_begin, .initialized RX6, .methodLink RX6 91 yX6_findAnswerTimes, .instanceMethod yX6_findAnswerTimes, .selects RX6 yX6_findAnswerTimes yX6_findAnswerTimes, .fieldLink RX6 94 "ReplicaChain$Plan" "memberCount" "I"]
def wq_c_C_chain : List Cond := .code yX6_chain cX6_chain 2 (some .int) :: (wo_c_C_chain ++ (wq_k_X2_understands ++ (wq_k_X6_begin ++ (wq_k_X6_findAnswerTimes ++ (wsX10 ++ (wsX60 ++ []))))))
theorem gd_c_C_chain : Gd wq_c_C_chain := gd_c (gd_a (gd_o (by decide +kernel)) (gd_a gd_k_X2_understands (gd_a gd_k_X6_begin (gd_a gd_k_X6_findAnswerTimes (gd_a gd_u (gd_a gd_u gd_0))))))
abbrev wc_c_C_chain (cyB cyI cyJ cyZ cyO : ClassId) (h0 : Nat) (ad : Nat → Nat) (dd : Nat → Nat) (sd : Nat → Nat) (gd : Nat → Nat) : va_W := [(h0, .inr (6, [.ref (ad 0), .int 0, .ref (ad 2), .ref (ad 3), .ref (ad 4), .ref (ad 5), .ref (ad 6), .int 0, .int 0, .ref (ad 9), .ref (ad 10), .ref (ad 11), .ref (ad 12), .ref (ad 13), .int 0, .ref (ad 15), .int 0, .ref (ad 17), .ref (ad 18), .int 0])), (ad 0, .inl (cyB, 1600, .inl (fun _ => 0))), (ad 3, .inr (1, [.ref (dd 0), .ref (dd 1), .ref (dd 2), .ref (dd 3), .int 0, .int 0, .int 0, .int 0, .int 2, .int 0, .int 0])), (dd 3, .inr (0, [.ref (dd 4), .ref (dd 5), .ref (dd 6), .int 0])), (ad 4, .inr (2, [.ref (ad 0), .int 0, .int 0, .ref (ad 3), .int 0, .int 0, .int 0, .long 0, .int 0, .int 0, .int (-1)])), (ad 5, .inr (3, [.ref (ad 2), .int 0])), (ad 6, .inl (cyO, 41, .inr (.inr (.inr (.inr (va_up (fun _ => none) 0 (some (ad 9)))))))), (ad 9, .inr (5, [.ref (sd 0), .ref (sd 1), .ref (sd 2), .ref (sd 3), .ref (sd 4), .ref (sd 5), .ref (sd 6), .int 0, .int (-1), .int 0, .int 0, .int 0, .int 0])), (sd 1, .inl (cyI, 8, .inl (fun _ => 0))), (sd 2, .inl (cyI, 8, .inl (fun _ => 0))), (ad 12, .inl (cyZ, 3, .inl (fun _ => 0))), (ad 17, .inr (4, [.ref (gd 0), .ref (gd 1), .ref (gd 2), .ref (gd 3), .int 0]))]
set_option maxHeartbeats 4000000 in
set_option maxRecDepth 100000 in
theorem c_C_chain (l : Launch) (dC : Nat → ClassId) (dI : Nat → Nat → Nat) (cyB cyI cyJ cyZ cyO : ClassId) (h0 : Nat) (ad : Nat → Nat) (dd : Nat → Nat) (sd : Nat → Nat) (gd : Nat → Nat) (sz : Nat) : Met l yX6_chain wq_c_C_chain ({ frames := 3, cells := 0, slots := 0, locals := 63 }) (va_Pc [.ref h0] (cB (dC, dI) (kT cyB cyI cyJ cyZ cyO) (wc_c_C_chain cyB cyI cyJ cyZ cyO h0 ad dd sd gd) sz)) (va_Qi (fun (r : Int32) (_ : Unit) => r = 0) (fun (u : Unit) t => cE (dC, dI) (va_A (wc_c_C_chain cyB cyI cyJ cyZ cyO h0 ad dd sd gd) sz) ([]) t.heap) (va_A (wc_c_C_chain cyB cyI cyJ cyZ cyO h0 ad dd sd gd) sz)) 0 0 (va_A (wc_c_C_chain cyB cyI cyJ cyZ cyO h0 ad dd sd gd) sz) := by
  refine Met.ofW (cc := cX6_chain) (maxL := 2) (ret := (some .int)) (by decide) rfl ?_
  intro p e s m args below meth c s₁ B hml hv
  obtain ⟨rfl, hsz, hP, hKN, hD0⟩ := hv
  have hx := B.exec
  have hb := B.bytes
  have hr := B.returns
  have hts := atoms_spec (ws := wq_c_C_chain) B.pre
  have hown : s.vm.findClass RX6 = some m.cls := findClass_of_methodNamed B.named
  have hlocks := B.notSynchronized
  have hK := hKN.1
  have hfix : CallFix p m c cX6_chain 2 s [.ref h0].toArray wq_c_C_chain RX6 := ⟨hx, hb, hml, hown, hts⟩
  have hi1 : ∀ w ∈ wsX10, w ∈ wq_c_C_chain := (sb_c (sb_r (sb_r (sb_r sb_l))))
  have hi6 : ∀ w ∈ wsX60, w ∈ wq_c_C_chain := (sb_c (sb_r (sb_r (sb_r (sb_r sb_l)))))
  subst hsz
  have hD := hD0.self (sz := s.heap.size)
  generalize hAe : va_A (wc_c_C_chain cyB cyI cyJ cyZ cyO h0 ad dd sd gd) s.heap.size = A at hD ⊢
  have hA : ∀ q : Nat, s.heap.size ≤ q → A q := fun q h => by rw [← hAe]; exact Or.inr h
  have hS : va_S A s.heap s.heap [] := va_S.rf
  have hl := lv_entry ([.ref h0]) (n := 2) (Nat.le_of_ble_eq_true rfl)
  rw [lg_entry_eq]
  generalize (lg_sl ([.ref h0]) ++ List.replicate (2 - (lg_sl ([.ref h0])).length) Slot.unset).toArray = ls at hl ⊢
  have hl : lv_has ls 2 [(0, .ref h0)] := hl
  refine lv_aload_n hx hb dX6_chain_0 rfl (lv_at hl 0 rfl) ?_
  refine va_get (D := (dC, dI)) (ci := 6) (v := .ref (ad 4)) (C := RX6) (T := TX6) (N := 20) hx hb hts hi6 hown hK hP 0 rfl rfl 4 (by decide) (hts _ (ow_m (k := 0) rfl)) (fun _ h9 => h9) rfl dX6_chain_1 ?_
  refine lv_aload_n hx hb dX6_chain_4 rfl (lv_at hl 0 rfl) ?_
  refine va_get (D := (dC, dI)) (ci := 6) (v := .int 0) (C := RX6) (T := TX6) (N := 20) hx hb hts hi6 hown hK hP 0 rfl rfl 1 (by decide) (hts _ (ow_m (k := 1) rfl)) (fun _ h9 => h9) rfl dX6_chain_5 ?_
  refine lv_aload_n hx hb dX6_chain_8 rfl (lv_at hl 0 rfl) ?_
  refine va_get (D := (dC, dI)) (ci := 6) (v := .ref (ad 3)) (C := RX6) (T := TX6) (N := 20) hx hb hts hi6 hown hK hP 0 rfl rfl 3 (by decide) (hts _ (ow_m (k := 2) rfl)) (fun _ h9 => h9) rfl dX6_chain_9 ?_
  refine gf_i (wr := [(h0, .inr (6, [.ref (ad 0), .int 0, .ref (ad 2), .ref (ad 3), .ref (ad 4), .ref (ad 5), .ref (ad 6), .int 0, .int 0, .ref (ad 9), .ref (ad 10), .ref (ad 11), .ref (ad 12), .ref (ad 13), .int 0, .ref (ad 15), .int 0, .ref (ad 17), .ref (ad 18), .int 0])), (ad 5, .inr (3, [.ref (ad 2), .int 0])), (ad 6, .inl (cyO, 41, .inr (.inr (.inr (.inr (va_up (fun _ => none) 0 (some (ad 9)))))))), (ad 9, .inr (5, [.ref (sd 0), .ref (sd 1), .ref (sd 2), .ref (sd 3), .ref (sd 4), .ref (sd 5), .ref (sd 6), .int 0, .int (-1), .int 0, .int 0, .int 0, .int 0])), (sd 1, .inl (cyI, 8, .inl (fun _ => 0))), (sd 2, .inl (cyI, 8, .inl (fun _ => 0))), (ad 12, .inl (cyZ, 3, .inl (fun _ => 0))), (ad 17, .inr (4, [.ref (gd 0), .ref (gd 1), .ref (gd 2), .ref (gd 3), .int 0]))]) (va_runV (As := [.int 0, .ref (ad 3)]) (rest := []) hfix (k_X2_understands l dC dI cyB cyI cyJ cyZ cyO ad dd _) (cwV 2 hts (gi_V (ow_m (k := 3) rfl) (ow_m (k := 4) rfl) (ow_m (k := 5) rfl) (ow_m (k := 6) rfl) (sb_c sb_l) gd_k_X2_understands) rfl rfl rfl (by decide +kernel) ⟨Nat.le_of_ble_eq_true rfl, Nat.le_of_ble_eq_true rfl⟩) (g_preV hKN hP hD [1, 2, 3, 4] rfl (by decide) 3 2 rfl rfl) rfl rfl hl.1 rfl (lv_room (Nat.le_of_ble_eq_true rfl)) dX6_chain_12 ⟨Nat.le_of_ble_eq_true rfl, Nat.le_of_ble_eq_true rfl⟩) hP hD hS hA [1, 2, 3, 4] [0, 5, 6, 7, 8, 9, 10, 11] rfl rfl (by decide) (by decide) (fun r552 u553 H locs qu553 hP hD hS => ?_)
  have hP : va_P (dC, dI) vwCl [(h0, .inr (6, [.ref (ad 0), .int 0, .ref (ad 2), .ref (ad 3), .ref (ad 4), .ref (ad 5), .ref (ad 6), .int 0, .int 0, .ref (ad 9), .ref (ad 10), .ref (ad 11), .ref (ad 12), .ref (ad 13), .int 0, .ref (ad 15), .int 0, .ref (ad 17), .ref (ad 18), .int 0])), (ad 5, .inr (3, [.ref (ad 2), .int 0])), (ad 6, .inl (cyO, 41, .inr (.inr (.inr (.inr (va_up (fun _ => none) 0 (some (ad 9)))))))), (ad 9, .inr (5, [.ref (sd 0), .ref (sd 1), .ref (sd 2), .ref (sd 3), .ref (sd 4), .ref (sd 5), .ref (sd 6), .int 0, .int (-1), .int 0, .int 0, .int 0, .int 0])), (sd 1, .inl (cyI, 8, .inl (fun _ => 0))), (sd 2, .inl (cyI, 8, .inl (fun _ => 0))), (ad 12, .inl (cyZ, 3, .inl (fun _ => 0))), (ad 17, .inr (4, [.ref (gd 0), .ref (gd 1), .ref (gd 2), .ref (gd 3), .int 0])), (ad 0, .inl (cyB, 1600, .inl (fun _ => 0))), (ad 3, .inr (1, [.ref (dd 0), .ref (dd 1), .ref (dd 2), .ref (dd 3), .int 0, .int 0, .int 0, .int 0, .int 2, .int 0, .int 0])), (dd 3, .inr (0, [.ref (dd 4), .ref (dd 5), .ref (dd 6), .int 0])), (ad 4, .inr (2, [.ref (ad 0), .int 0, .int 0, .ref (ad 3), .int 0, .int 0, .int 0, .long 0, .int 0, .int 0, .int (-1)]))] H := hP
  have hD : va_D A [(h0, .inr (6, [.ref (ad 0), .int 0, .ref (ad 2), .ref (ad 3), .ref (ad 4), .ref (ad 5), .ref (ad 6), .int 0, .int 0, .ref (ad 9), .ref (ad 10), .ref (ad 11), .ref (ad 12), .ref (ad 13), .int 0, .ref (ad 15), .int 0, .ref (ad 17), .ref (ad 18), .int 0])), (ad 5, .inr (3, [.ref (ad 2), .int 0])), (ad 6, .inl (cyO, 41, .inr (.inr (.inr (.inr (va_up (fun _ => none) 0 (some (ad 9)))))))), (ad 9, .inr (5, [.ref (sd 0), .ref (sd 1), .ref (sd 2), .ref (sd 3), .ref (sd 4), .ref (sd 5), .ref (sd 6), .int 0, .int (-1), .int 0, .int 0, .int 0, .int 0])), (sd 1, .inl (cyI, 8, .inl (fun _ => 0))), (sd 2, .inl (cyI, 8, .inl (fun _ => 0))), (ad 12, .inl (cyZ, 3, .inl (fun _ => 0))), (ad 17, .inr (4, [.ref (gd 0), .ref (gd 1), .ref (gd 2), .ref (gd 3), .int 0])), (ad 0, .inl (cyB, 1600, .inl (fun _ => 0))), (ad 3, .inr (1, [.ref (dd 0), .ref (dd 1), .ref (dd 2), .ref (dd 3), .int 0, .int 0, .int 0, .int 0, .int 2, .int 0, .int 0])), (dd 3, .inr (0, [.ref (dd 4), .ref (dd 5), .ref (dd 6), .int 0])), (ad 4, .inr (2, [.ref (ad 0), .int 0, .int 0, .ref (ad 3), .int 0, .int 0, .int 0, .long 0, .int 0, .int 0, .int (-1)]))] := hD
  refine tp_c (w := 1) qu553 ?_
  refine lv_if_ne (tgt := 20) hx hb dX6_chain_15 (by decide) (fun _ => ?_) (fun c554 => absurd c554 (by decide))
  refine lv_aload_n hx hb dX6_chain_20 rfl (lv_at hl 0 rfl) ?_
  refine va_get (D := (dC, dI)) (ci := 6) (v := .ref (ad 2)) (C := RX6) (T := TX6) (N := 20) hx hb hts hi6 hown hK hP 0 rfl rfl 2 (by decide) (hts _ (ow_m (k := 7) rfl)) (fun _ h9 => h9) rfl dX6_chain_21 ?_
  refine lv_astore_n (lv' := [(1, .ref (ad 2)), (0, .ref h0)]) hx hb dX6_chain_24 rfl hl (by decide) rfl (fun ls hl => ?_)
  refine lv_aload_n hx hb dX6_chain_25 rfl (lv_at hl 1 rfl) ?_
  refine lv_aload_n hx hb dX6_chain_26 rfl (lv_at hl 1 rfl) ?_
  refine va_get (D := (dC, dI)) (ci := 6) (v := .ref (ad 3)) (C := RX6) (T := TX6) (N := 20) hx hb hts hi6 hown hK hP 0 rfl rfl 3 (by decide) (hts _ (ow_m (k := 2) rfl)) (fun _ h9 => h9) rfl dX6_chain_27 ?_
  refine va_put (D := (dC, dI)) (ci := 6) (v := .ref (ad 3)) (ty := .object "ReplicaChain$Plan") (C := RX6) (T := TX6) (N := 20) hx hb hts hi6 tyX6 tyX6_ok nmX6 hown hK hP hD hS 0 rfl rfl 2 (by decide) (hts _ (ow_m (k := 7) rfl)) (fun _ h9 => h9) rfl (by decide +kernel) rfl rfl (Nat.le_of_ble_eq_true rfl) dX6_chain_30 (fun H locs hP hD hS => ?_)
  have hP : va_P (dC, dI) vwCl [(h0, .inr (6, [.ref (ad 0), .int 0, .ref (ad 3), .ref (ad 3), .ref (ad 4), .ref (ad 5), .ref (ad 6), .int 0, .int 0, .ref (ad 9), .ref (ad 10), .ref (ad 11), .ref (ad 12), .ref (ad 13), .int 0, .ref (ad 15), .int 0, .ref (ad 17), .ref (ad 18), .int 0])), (ad 5, .inr (3, [.ref (ad 2), .int 0])), (ad 6, .inl (cyO, 41, .inr (.inr (.inr (.inr (va_up (fun _ => none) 0 (some (ad 9)))))))), (ad 9, .inr (5, [.ref (sd 0), .ref (sd 1), .ref (sd 2), .ref (sd 3), .ref (sd 4), .ref (sd 5), .ref (sd 6), .int 0, .int (-1), .int 0, .int 0, .int 0, .int 0])), (sd 1, .inl (cyI, 8, .inl (fun _ => 0))), (sd 2, .inl (cyI, 8, .inl (fun _ => 0))), (ad 12, .inl (cyZ, 3, .inl (fun _ => 0))), (ad 17, .inr (4, [.ref (gd 0), .ref (gd 1), .ref (gd 2), .ref (gd 3), .int 0])), (ad 0, .inl (cyB, 1600, .inl (fun _ => 0))), (ad 3, .inr (1, [.ref (dd 0), .ref (dd 1), .ref (dd 2), .ref (dd 3), .int 0, .int 0, .int 0, .int 0, .int 2, .int 0, .int 0])), (dd 3, .inr (0, [.ref (dd 4), .ref (dd 5), .ref (dd 6), .int 0])), (ad 4, .inr (2, [.ref (ad 0), .int 0, .int 0, .ref (ad 3), .int 0, .int 0, .int 0, .long 0, .int 0, .int 0, .int (-1)]))] H := hP
  have hD : va_D A [(h0, .inr (6, [.ref (ad 0), .int 0, .ref (ad 3), .ref (ad 3), .ref (ad 4), .ref (ad 5), .ref (ad 6), .int 0, .int 0, .ref (ad 9), .ref (ad 10), .ref (ad 11), .ref (ad 12), .ref (ad 13), .int 0, .ref (ad 15), .int 0, .ref (ad 17), .ref (ad 18), .int 0])), (ad 5, .inr (3, [.ref (ad 2), .int 0])), (ad 6, .inl (cyO, 41, .inr (.inr (.inr (.inr (va_up (fun _ => none) 0 (some (ad 9)))))))), (ad 9, .inr (5, [.ref (sd 0), .ref (sd 1), .ref (sd 2), .ref (sd 3), .ref (sd 4), .ref (sd 5), .ref (sd 6), .int 0, .int (-1), .int 0, .int 0, .int 0, .int 0])), (sd 1, .inl (cyI, 8, .inl (fun _ => 0))), (sd 2, .inl (cyI, 8, .inl (fun _ => 0))), (ad 12, .inl (cyZ, 3, .inl (fun _ => 0))), (ad 17, .inr (4, [.ref (gd 0), .ref (gd 1), .ref (gd 2), .ref (gd 3), .int 0])), (ad 0, .inl (cyB, 1600, .inl (fun _ => 0))), (ad 3, .inr (1, [.ref (dd 0), .ref (dd 1), .ref (dd 2), .ref (dd 3), .int 0, .int 0, .int 0, .int 0, .int 2, .int 0, .int 0])), (dd 3, .inr (0, [.ref (dd 4), .ref (dd 5), .ref (dd 6), .int 0])), (ad 4, .inr (2, [.ref (ad 0), .int 0, .int 0, .ref (ad 3), .int 0, .int 0, .int 0, .long 0, .int 0, .int 0, .int (-1)]))] := hD
  refine lv_aload_n hx hb dX6_chain_33 rfl (lv_at hl 1 rfl) ?_
  refine lv_aload_n hx hb dX6_chain_34 rfl (lv_at hl 0 rfl) ?_
  refine va_put (D := (dC, dI)) (ci := 6) (v := .ref (ad 2)) (ty := .object "ReplicaChain$Plan") (C := RX6) (T := TX6) (N := 20) hx hb hts hi6 tyX6 tyX6_ok nmX6 hown hK hP hD hS 0 rfl rfl 3 (by decide) (hts _ (ow_m (k := 2) rfl)) (fun _ h9 => h9) rfl (by decide +kernel) rfl rfl (Nat.le_of_ble_eq_true rfl) dX6_chain_35 (fun H locs hP hD hS => ?_)
  have hP : va_P (dC, dI) vwCl [(h0, .inr (6, [.ref (ad 0), .int 0, .ref (ad 3), .ref (ad 2), .ref (ad 4), .ref (ad 5), .ref (ad 6), .int 0, .int 0, .ref (ad 9), .ref (ad 10), .ref (ad 11), .ref (ad 12), .ref (ad 13), .int 0, .ref (ad 15), .int 0, .ref (ad 17), .ref (ad 18), .int 0])), (ad 5, .inr (3, [.ref (ad 2), .int 0])), (ad 6, .inl (cyO, 41, .inr (.inr (.inr (.inr (va_up (fun _ => none) 0 (some (ad 9)))))))), (ad 9, .inr (5, [.ref (sd 0), .ref (sd 1), .ref (sd 2), .ref (sd 3), .ref (sd 4), .ref (sd 5), .ref (sd 6), .int 0, .int (-1), .int 0, .int 0, .int 0, .int 0])), (sd 1, .inl (cyI, 8, .inl (fun _ => 0))), (sd 2, .inl (cyI, 8, .inl (fun _ => 0))), (ad 12, .inl (cyZ, 3, .inl (fun _ => 0))), (ad 17, .inr (4, [.ref (gd 0), .ref (gd 1), .ref (gd 2), .ref (gd 3), .int 0])), (ad 0, .inl (cyB, 1600, .inl (fun _ => 0))), (ad 3, .inr (1, [.ref (dd 0), .ref (dd 1), .ref (dd 2), .ref (dd 3), .int 0, .int 0, .int 0, .int 0, .int 2, .int 0, .int 0])), (dd 3, .inr (0, [.ref (dd 4), .ref (dd 5), .ref (dd 6), .int 0])), (ad 4, .inr (2, [.ref (ad 0), .int 0, .int 0, .ref (ad 3), .int 0, .int 0, .int 0, .long 0, .int 0, .int 0, .int (-1)]))] H := hP
  have hD : va_D A [(h0, .inr (6, [.ref (ad 0), .int 0, .ref (ad 3), .ref (ad 2), .ref (ad 4), .ref (ad 5), .ref (ad 6), .int 0, .int 0, .ref (ad 9), .ref (ad 10), .ref (ad 11), .ref (ad 12), .ref (ad 13), .int 0, .ref (ad 15), .int 0, .ref (ad 17), .ref (ad 18), .int 0])), (ad 5, .inr (3, [.ref (ad 2), .int 0])), (ad 6, .inl (cyO, 41, .inr (.inr (.inr (.inr (va_up (fun _ => none) 0 (some (ad 9)))))))), (ad 9, .inr (5, [.ref (sd 0), .ref (sd 1), .ref (sd 2), .ref (sd 3), .ref (sd 4), .ref (sd 5), .ref (sd 6), .int 0, .int (-1), .int 0, .int 0, .int 0, .int 0])), (sd 1, .inl (cyI, 8, .inl (fun _ => 0))), (sd 2, .inl (cyI, 8, .inl (fun _ => 0))), (ad 12, .inl (cyZ, 3, .inl (fun _ => 0))), (ad 17, .inr (4, [.ref (gd 0), .ref (gd 1), .ref (gd 2), .ref (gd 3), .int 0])), (ad 0, .inl (cyB, 1600, .inl (fun _ => 0))), (ad 3, .inr (1, [.ref (dd 0), .ref (dd 1), .ref (dd 2), .ref (dd 3), .int 0, .int 0, .int 0, .int 0, .int 2, .int 0, .int 0])), (dd 3, .inr (0, [.ref (dd 4), .ref (dd 5), .ref (dd 6), .int 0])), (ad 4, .inr (2, [.ref (ad 0), .int 0, .int 0, .ref (ad 3), .int 0, .int 0, .int 0, .long 0, .int 0, .int 0, .int (-1)]))] := hD
  refine lv_aload_n hx hb dX6_chain_38 rfl (lv_at hl 1 rfl) ?_
  refine lv_iconst (v := 0) hx hb dX6_chain_39 (by decide) ?_
  refine va_put (D := (dC, dI)) (ci := 6) (v := .int 0) (ty := .int) (C := RX6) (T := TX6) (N := 20) hx hb hts hi6 tyX6 tyX6_ok nmX6 hown hK hP hD hS 0 rfl rfl 1 (by decide) (hts _ (ow_m (k := 1) rfl)) (fun _ h9 => h9) rfl (by decide +kernel) rfl rfl (Nat.le_of_ble_eq_true rfl) dX6_chain_40 (fun H locs hP hD hS => ?_)
  have hP : va_P (dC, dI) vwCl [(h0, .inr (6, [.ref (ad 0), .int 0, .ref (ad 3), .ref (ad 2), .ref (ad 4), .ref (ad 5), .ref (ad 6), .int 0, .int 0, .ref (ad 9), .ref (ad 10), .ref (ad 11), .ref (ad 12), .ref (ad 13), .int 0, .ref (ad 15), .int 0, .ref (ad 17), .ref (ad 18), .int 0])), (ad 5, .inr (3, [.ref (ad 2), .int 0])), (ad 6, .inl (cyO, 41, .inr (.inr (.inr (.inr (va_up (fun _ => none) 0 (some (ad 9)))))))), (ad 9, .inr (5, [.ref (sd 0), .ref (sd 1), .ref (sd 2), .ref (sd 3), .ref (sd 4), .ref (sd 5), .ref (sd 6), .int 0, .int (-1), .int 0, .int 0, .int 0, .int 0])), (sd 1, .inl (cyI, 8, .inl (fun _ => 0))), (sd 2, .inl (cyI, 8, .inl (fun _ => 0))), (ad 12, .inl (cyZ, 3, .inl (fun _ => 0))), (ad 17, .inr (4, [.ref (gd 0), .ref (gd 1), .ref (gd 2), .ref (gd 3), .int 0])), (ad 0, .inl (cyB, 1600, .inl (fun _ => 0))), (ad 3, .inr (1, [.ref (dd 0), .ref (dd 1), .ref (dd 2), .ref (dd 3), .int 0, .int 0, .int 0, .int 0, .int 2, .int 0, .int 0])), (dd 3, .inr (0, [.ref (dd 4), .ref (dd 5), .ref (dd 6), .int 0])), (ad 4, .inr (2, [.ref (ad 0), .int 0, .int 0, .ref (ad 3), .int 0, .int 0, .int 0, .long 0, .int 0, .int 0, .int (-1)]))] H := hP
  have hD : va_D A [(h0, .inr (6, [.ref (ad 0), .int 0, .ref (ad 3), .ref (ad 2), .ref (ad 4), .ref (ad 5), .ref (ad 6), .int 0, .int 0, .ref (ad 9), .ref (ad 10), .ref (ad 11), .ref (ad 12), .ref (ad 13), .int 0, .ref (ad 15), .int 0, .ref (ad 17), .ref (ad 18), .int 0])), (ad 5, .inr (3, [.ref (ad 2), .int 0])), (ad 6, .inl (cyO, 41, .inr (.inr (.inr (.inr (va_up (fun _ => none) 0 (some (ad 9)))))))), (ad 9, .inr (5, [.ref (sd 0), .ref (sd 1), .ref (sd 2), .ref (sd 3), .ref (sd 4), .ref (sd 5), .ref (sd 6), .int 0, .int (-1), .int 0, .int 0, .int 0, .int 0])), (sd 1, .inl (cyI, 8, .inl (fun _ => 0))), (sd 2, .inl (cyI, 8, .inl (fun _ => 0))), (ad 12, .inl (cyZ, 3, .inl (fun _ => 0))), (ad 17, .inr (4, [.ref (gd 0), .ref (gd 1), .ref (gd 2), .ref (gd 3), .int 0])), (ad 0, .inl (cyB, 1600, .inl (fun _ => 0))), (ad 3, .inr (1, [.ref (dd 0), .ref (dd 1), .ref (dd 2), .ref (dd 3), .int 0, .int 0, .int 0, .int 0, .int 2, .int 0, .int 0])), (dd 3, .inr (0, [.ref (dd 4), .ref (dd 5), .ref (dd 6), .int 0])), (ad 4, .inr (2, [.ref (ad 0), .int 0, .int 0, .ref (ad 3), .int 0, .int 0, .int 0, .long 0, .int 0, .int 0, .int (-1)]))] := hD
  refine lv_aload_n hx hb dX6_chain_43 rfl (lv_at hl 1 rfl) ?_
  refine gf_v (wr := [(ad 0, .inl (cyB, 1600, .inl (fun _ => 0))), (dd 3, .inr (0, [.ref (dd 4), .ref (dd 5), .ref (dd 6), .int 0])), (ad 4, .inr (2, [.ref (ad 0), .int 0, .int 0, .ref (ad 3), .int 0, .int 0, .int 0, .long 0, .int 0, .int 0, .int (-1)]))]) (va_runV (As := []) (rest := []) hfix (k_X6_begin l dC dI cyB cyI cyJ cyZ cyO h0 ad sd gd dd _) (cwV 0 hts (gi_V (ow_m (k := 8) rfl) (ow_m (k := 9) rfl) (ow_m (k := 10) rfl) (ow_m (k := 11) rfl) (sb_c (sb_r sb_l)) gd_k_X6_begin) rfl rfl rfl (by decide +kernel) ⟨Nat.le_of_ble_eq_true rfl, Nat.le_of_ble_eq_true rfl⟩) (g_preV hKN hP hD [0, 1, 2, 3, 4, 5, 6, 7, 9] rfl (by decide) 0 6 rfl rfl) rfl rfl hl.1 rfl (lv_room (Nat.le_of_ble_eq_true rfl)) dX6_chain_44 ⟨Nat.le_of_ble_eq_true rfl, Nat.le_of_ble_eq_true rfl⟩) hP hD hS hA [0, 1, 2, 3, 4, 5, 6, 7, 9] [8, 10, 11] rfl rfl (by decide) (by decide) (fun u578 H locs qu578 hP hD hS => ?_)
  have hP : va_P (dC, dI) vwCl [(ad 0, .inl (cyB, 1600, .inl (fun _ => 0))), (dd 3, .inr (0, [.ref (dd 4), .ref (dd 5), .ref (dd 6), .int 0])), (ad 4, .inr (2, [.ref (ad 0), .int 0, .int 0, .ref (ad 3), .int 0, .int 0, .int 0, .long 0, .int 0, .int 0, .int (-1)])), (h0, .inr (6, [.ref (ad 0), .int 0, .ref (ad 3), .ref (ad 2), .ref (ad 4), .ref (ad 5), .ref (ad 6), .int 0, .int 0, .ref (ad 9), .ref (ad 10), .ref (ad 11), .ref (ad 12), .ref (ad 13), .int 0, .ref (ad 15), .int 0, .ref (ad 17), .ref (ad 18), .int 0])), (ad 5, .inr (3, [.ref (ad 3), .int 0])), (ad 6, .inl (cyO, 41, .inr (.inr (.inr (.inr (va_up (fun _ => none) 0 (some (ad 9)))))))), (ad 9, .inr (5, [.ref (sd 0), .ref (sd 1), .ref (sd 2), .ref (sd 3), .ref (sd 4), .ref (sd 5), .ref (sd 6), .int 0, .int (-1), .int 0, .int 0, .int 0, .int 0])), (sd 1, .inl (cyI, 8, .inl (fun _ => 0))), (sd 2, .inl (cyI, 8, .inl (fun _ => 0))), (ad 12, .inl (cyZ, 3, .inl (fun _ => 0))), (ad 17, .inr (4, [.ref (gd 0), .ref (gd 1), .ref (gd 2), .ref (gd 3), .int 0])), (ad 3, .inr (1, [.ref (dd 0), .ref (dd 1), .ref (dd 2), .ref (dd 3), .int 0, .int 0, .int 0, .int 0, .int 2, .int 0, .int 0]))] H := hP
  have hD : va_D A [(ad 0, .inl (cyB, 1600, .inl (fun _ => 0))), (dd 3, .inr (0, [.ref (dd 4), .ref (dd 5), .ref (dd 6), .int 0])), (ad 4, .inr (2, [.ref (ad 0), .int 0, .int 0, .ref (ad 3), .int 0, .int 0, .int 0, .long 0, .int 0, .int 0, .int (-1)])), (h0, .inr (6, [.ref (ad 0), .int 0, .ref (ad 3), .ref (ad 2), .ref (ad 4), .ref (ad 5), .ref (ad 6), .int 0, .int 0, .ref (ad 9), .ref (ad 10), .ref (ad 11), .ref (ad 12), .ref (ad 13), .int 0, .ref (ad 15), .int 0, .ref (ad 17), .ref (ad 18), .int 0])), (ad 5, .inr (3, [.ref (ad 3), .int 0])), (ad 6, .inl (cyO, 41, .inr (.inr (.inr (.inr (va_up (fun _ => none) 0 (some (ad 9)))))))), (ad 9, .inr (5, [.ref (sd 0), .ref (sd 1), .ref (sd 2), .ref (sd 3), .ref (sd 4), .ref (sd 5), .ref (sd 6), .int 0, .int (-1), .int 0, .int 0, .int 0, .int 0])), (sd 1, .inl (cyI, 8, .inl (fun _ => 0))), (sd 2, .inl (cyI, 8, .inl (fun _ => 0))), (ad 12, .inl (cyZ, 3, .inl (fun _ => 0))), (ad 17, .inr (4, [.ref (gd 0), .ref (gd 1), .ref (gd 2), .ref (gd 3), .int 0])), (ad 3, .inr (1, [.ref (dd 0), .ref (dd 1), .ref (dd 2), .ref (dd 3), .int 0, .int 0, .int 0, .int 0, .int 2, .int 0, .int 0]))] := hD
  refine lv_aload_n hx hb dX6_chain_47 rfl (lv_at hl 1 rfl) ?_
  refine gf_v (wr := [(ad 0, .inl (cyB, 1600, .inl (fun _ => 0))), (dd 3, .inr (0, [.ref (dd 4), .ref (dd 5), .ref (dd 6), .int 0])), (ad 4, .inr (2, [.ref (ad 0), .int 0, .int 0, .ref (ad 3), .int 0, .int 0, .int 0, .long 0, .int 0, .int 0, .int (-1)])), (ad 5, .inr (3, [.ref (ad 3), .int 0])), (ad 6, .inl (cyO, 41, .inr (.inr (.inr (.inr (va_up (fun _ => none) 0 (some (ad 9)))))))), (ad 9, .inr (5, [.ref (sd 0), .ref (sd 1), .ref (sd 2), .ref (sd 3), .ref (sd 4), .ref (sd 5), .ref (sd 6), .int 0, .int (-1), .int 0, .int 0, .int 0, .int 0])), (sd 1, .inl (cyI, 8, .inl (fun _ => 0))), (sd 2, .inl (cyI, 8, .inl (fun _ => 0))), (ad 12, .inl (cyZ, 3, .inl (fun _ => 0))), (ad 17, .inr (4, [.ref (gd 0), .ref (gd 1), .ref (gd 2), .ref (gd 3), .int 0]))]) (va_runV (As := []) (rest := []) hfix (k_X6_findAnswerTimes l dC dI cyB cyI cyJ cyZ cyO h0 ad dd _) (cwV 0 hts (gi_V (ow_m (k := 12) rfl) (ow_m (k := 13) rfl) (ow_m (k := 14) rfl) (ow_m (k := 11) rfl) (sb_c (sb_r (sb_r sb_l))) gd_k_X6_findAnswerTimes) rfl rfl rfl (by decide +kernel) ⟨Nat.le_of_ble_eq_true rfl, Nat.le_of_ble_eq_true rfl⟩) (g_preV hKN hP hD [3, 11] rfl (by decide) 0 6 rfl rfl) rfl rfl hl.1 rfl (lv_room (Nat.le_of_ble_eq_true rfl)) dX6_chain_48 ⟨Nat.le_of_ble_eq_true rfl, Nat.le_of_ble_eq_true rfl⟩) hP hD hS hA [3, 11] [0, 1, 2, 4, 5, 6, 7, 8, 9, 10] rfl rfl (by decide) (by decide) (fun u584 H locs qu584 hP hD hS => ?_)
  have hP : va_P (dC, dI) vwCl [(ad 0, .inl (cyB, 1600, .inl (fun _ => 0))), (dd 3, .inr (0, [.ref (dd 4), .ref (dd 5), .ref (dd 6), .int 0])), (ad 4, .inr (2, [.ref (ad 0), .int 0, .int 0, .ref (ad 3), .int 0, .int 0, .int 0, .long 0, .int 0, .int 0, .int (-1)])), (ad 5, .inr (3, [.ref (ad 3), .int 0])), (ad 6, .inl (cyO, 41, .inr (.inr (.inr (.inr (va_up (fun _ => none) 0 (some (ad 9)))))))), (ad 9, .inr (5, [.ref (sd 0), .ref (sd 1), .ref (sd 2), .ref (sd 3), .ref (sd 4), .ref (sd 5), .ref (sd 6), .int 0, .int (-1), .int 0, .int 0, .int 0, .int 0])), (sd 1, .inl (cyI, 8, .inl (fun _ => 0))), (sd 2, .inl (cyI, 8, .inl (fun _ => 0))), (ad 12, .inl (cyZ, 3, .inl (fun _ => 0))), (ad 17, .inr (4, [.ref (gd 0), .ref (gd 1), .ref (gd 2), .ref (gd 3), .int 0])), (h0, .inr (6, [.ref (ad 0), .int 0, .ref (ad 3), .ref (ad 2), .ref (ad 4), .ref (ad 5), .ref (ad 6), .int 0, .int 0, .ref (ad 9), .ref (ad 10), .ref (ad 11), .ref (ad 12), .ref (ad 13), .int 0, .ref (ad 15), .int 0, .ref (ad 17), .ref (ad 18), .int 0])), (ad 3, .inr (1, [.ref (dd 0), .ref (dd 1), .ref (dd 2), .ref (dd 3), .int 0, .int 0, .int 0, .int 0, .int 2, .int 0, .int 0]))] H := hP
  have hD : va_D A [(ad 0, .inl (cyB, 1600, .inl (fun _ => 0))), (dd 3, .inr (0, [.ref (dd 4), .ref (dd 5), .ref (dd 6), .int 0])), (ad 4, .inr (2, [.ref (ad 0), .int 0, .int 0, .ref (ad 3), .int 0, .int 0, .int 0, .long 0, .int 0, .int 0, .int (-1)])), (ad 5, .inr (3, [.ref (ad 3), .int 0])), (ad 6, .inl (cyO, 41, .inr (.inr (.inr (.inr (va_up (fun _ => none) 0 (some (ad 9)))))))), (ad 9, .inr (5, [.ref (sd 0), .ref (sd 1), .ref (sd 2), .ref (sd 3), .ref (sd 4), .ref (sd 5), .ref (sd 6), .int 0, .int (-1), .int 0, .int 0, .int 0, .int 0])), (sd 1, .inl (cyI, 8, .inl (fun _ => 0))), (sd 2, .inl (cyI, 8, .inl (fun _ => 0))), (ad 12, .inl (cyZ, 3, .inl (fun _ => 0))), (ad 17, .inr (4, [.ref (gd 0), .ref (gd 1), .ref (gd 2), .ref (gd 3), .int 0])), (h0, .inr (6, [.ref (ad 0), .int 0, .ref (ad 3), .ref (ad 2), .ref (ad 4), .ref (ad 5), .ref (ad 6), .int 0, .int 0, .ref (ad 9), .ref (ad 10), .ref (ad 11), .ref (ad 12), .ref (ad 13), .int 0, .ref (ad 15), .int 0, .ref (ad 17), .ref (ad 18), .int 0])), (ad 3, .inr (1, [.ref (dd 0), .ref (dd 1), .ref (dd 2), .ref (dd 3), .int 0, .int 0, .int 0, .int 0, .int 2, .int 0, .int 0]))] := hD
  refine lv_aload_n hx hb dX6_chain_51 rfl (lv_at hl 1 rfl) ?_
  refine va_get (D := (dC, dI)) (ci := 6) (v := .ref (ad 3)) (C := RX6) (T := TX6) (N := 20) hx hb hts hi6 hown hK hP 10 rfl rfl 2 (by decide) (hts _ (ow_m (k := 7) rfl)) (fun _ h9 => h9) rfl dX6_chain_52 ?_
  refine va_get (D := (dC, dI)) (ci := 1) (v := .int 0) (C := RX1) (T := TX1) (N := 11) hx hb hts hi1 hown hK hP 11 rfl rfl 4 (by decide) (hts _ (ow_m (k := 15) rfl)) (fun _ h9 => h9) rfl dX6_chain_55 ?_
  exact W.iret (v := 0) hx hb hr (fun t ht hW => ⟨⟨0, (), rfl, rfl, cE.nil⟩, hS.F ht⟩) hS.2.2 dX6_chain_58
def wo_c_C_fault : List Cond := [.fieldLink RX6 28 "ReplicaChain" "reader" "LReplicaChain$Reader;", .fieldLink RX6 151 "ReplicaChain$Reader" "faultKind" "I", .fieldLink RX6 154 "ReplicaChain$Reader" "faultPlace" "I"]
def wq_c_C_fault : List Cond := .code yX6_fault cX6_fault 2 (some .int) :: (wo_c_C_fault ++ (wsX20 ++ (wsX60 ++ [])))
theorem gd_c_C_fault : Gd wq_c_C_fault := gd_c (gd_a (gd_o (by decide +kernel)) (gd_a gd_u (gd_a gd_u gd_0)))
abbrev wc_c_C_fault (cyB cyI cyJ cyZ cyO : ClassId) (h0 : Nat) (ad : Nat → Nat) (x1 : Int32) : va_W := [(h0, .inr (6, [.ref (ad 0), .int 0, .ref (ad 2), .ref (ad 3), .ref (ad 4), .ref (ad 5), .ref (ad 6), .int 0, .int 0, .ref (ad 9), .ref (ad 10), .ref (ad 11), .ref (ad 12), .ref (ad 13), .int 0, .ref (ad 15), .int 0, .ref (ad 17), .ref (ad 18), .int 0])), (ad 4, .inr (2, [.ref (ad 0), .int 0, .int 0, .ref (ad 3), .int 0, .int 0, .int 0, .long 0, .int 0, .int 0, .int (-1)]))]
set_option maxHeartbeats 4000000 in
set_option maxRecDepth 100000 in
theorem c_C_fault (l : Launch) (dC : Nat → ClassId) (dI : Nat → Nat → Nat) (cyB cyI cyJ cyZ cyO : ClassId) (h0 : Nat) (ad : Nat → Nat) (x1 : Int32) (sz : Nat) : Met l yX6_fault wq_c_C_fault ({ frames := 0, cells := 0, slots := 0, locals := 0 }) (va_Pc [.ref h0, .int x1] (cB (dC, dI) (kT cyB cyI cyJ cyZ cyO) (wc_c_C_fault cyB cyI cyJ cyZ cyO h0 ad x1) sz)) (va_Qi (fun (r : Int32) (_ : Unit) => r = sp_fault x1) (fun (u : Unit) t => cE (dC, dI) (va_A (wc_c_C_fault cyB cyI cyJ cyZ cyO h0 ad x1) sz) ([]) t.heap) (va_A (wc_c_C_fault cyB cyI cyJ cyZ cyO h0 ad x1) sz)) 0 0 (va_A (wc_c_C_fault cyB cyI cyJ cyZ cyO h0 ad x1) sz) := by
  refine Met.ofW (cc := cX6_fault) (maxL := 2) (ret := (some .int)) (by decide) rfl ?_
  intro p e s m args below meth c s₁ B hml hv
  obtain ⟨rfl, hsz, hP, hKN, hD0⟩ := hv
  have hx := B.exec
  have hb := B.bytes
  have hr := B.returns
  have hts := atoms_spec (ws := wq_c_C_fault) B.pre
  have hown : s.vm.findClass RX6 = some m.cls := findClass_of_methodNamed B.named
  have hlocks := B.notSynchronized
  have hK := hKN.1
  have hfix : CallFix p m c cX6_fault 2 s [.ref h0, .int x1].toArray wq_c_C_fault RX6 := ⟨hx, hb, hml, hown, hts⟩
  have hi2 : ∀ w ∈ wsX20, w ∈ wq_c_C_fault := (sb_c sb_l)
  have hi6 : ∀ w ∈ wsX60, w ∈ wq_c_C_fault := (sb_c (sb_r sb_l))
  subst hsz
  have hD := hD0.self (sz := s.heap.size)
  generalize hAe : va_A (wc_c_C_fault cyB cyI cyJ cyZ cyO h0 ad x1) s.heap.size = A at hD ⊢
  have hA : ∀ q : Nat, s.heap.size ≤ q → A q := fun q h => by rw [← hAe]; exact Or.inr h
  have hS : va_S A s.heap s.heap [] := va_S.rf
  have hl := lv_entry ([.ref h0, .int x1]) (n := 2) (Nat.le_of_ble_eq_true rfl)
  rw [lg_entry_eq]
  generalize (lg_sl ([.ref h0, .int x1]) ++ List.replicate (2 - (lg_sl ([.ref h0, .int x1])).length) Slot.unset).toArray = ls at hl ⊢
  have hl : lv_has ls 2 [(0, .ref h0), (1, .int x1)] := hl
  refine lv_iload_n hx hb dX6_fault_0 rfl (lv_at hl 1 rfl) ?_
  by_cases c587 : x1 = 0
  · have c587i := i_eq (b := 0) c587 rfl (by decide)
    refine lv_lookup (off := 27) (tgt := 28) hx hb dX6_fault_1 rfl (by first | (rw [c587]; done) | (rw [c587]; rfl)) (by decide) ?_
    refine lv_aload_n hx hb dX6_fault_28 rfl (lv_at hl 0 rfl) ?_
    refine va_get (D := (dC, dI)) (ci := 6) (v := .ref (ad 4)) (C := RX6) (T := TX6) (N := 20) hx hb hts hi6 hown hK hP 0 rfl rfl 4 (by decide) (hts _ (ow_m (k := 0) rfl)) (fun _ h9 => h9) rfl dX6_fault_29 ?_
    refine va_get (D := (dC, dI)) (ci := 2) (v := .int 0) (C := RX2) (T := TX2) (N := 11) hx hb hts hi2 hown hK hP 1 rfl rfl 9 (by decide) (hts _ (ow_m (k := 1) rfl)) (fun _ h9 => h9) rfl dX6_fault_32 ?_
    exact W.iret (v := 0) hx hb hr (fun t ht hW => ⟨⟨0, (), rfl, (by first | decide | (unfold sp_fault; (repeat' split) <;> first | rfl | omega)), cE.nil⟩, hS.F ht⟩) hS.2.2 dX6_fault_35
  have c587i := i_ne (b := 0) c587 rfl (by decide)
  by_cases c588 : x1 = 1
  · have c588i := i_eq (b := 1) c588 rfl (by decide)
    refine lv_lookup (off := 35) (tgt := 36) hx hb dX6_fault_1 rfl (by first | (rw [c588]; done) | (rw [c588]; rfl)) (by decide) ?_
    refine lv_aload_n hx hb dX6_fault_36 rfl (lv_at hl 0 rfl) ?_
    refine va_get (D := (dC, dI)) (ci := 6) (v := .ref (ad 4)) (C := RX6) (T := TX6) (N := 20) hx hb hts hi6 hown hK hP 0 rfl rfl 4 (by decide) (hts _ (ow_m (k := 0) rfl)) (fun _ h9 => h9) rfl dX6_fault_37 ?_
    refine va_get (D := (dC, dI)) (ci := 2) (v := .int (-1)) (C := RX2) (T := TX2) (N := 11) hx hb hts hi2 hown hK hP 1 rfl rfl 10 (by decide) (hts _ (ow_m (k := 2) rfl)) (fun _ h9 => h9) rfl dX6_fault_40 ?_
    exact W.iret (v := (-1)) hx hb hr (fun t ht hW => ⟨⟨(-1), (), rfl, (by first | decide | (unfold sp_fault; (repeat' split) <;> first | rfl | omega)), cE.nil⟩, hS.F ht⟩) hS.2.2 dX6_fault_43
  have c588i := i_ne (b := 1) c588 rfl (by decide)
  refine lv_lookup (off := 43) (tgt := 44) hx hb dX6_fault_1 rfl ((lv_osw c587 (by decide)).trans ((lv_osw c588 (by decide)).trans rfl)) (by decide) ?_
  refine lv_iconst (v := (-1)) hx hb dX6_fault_44 (by decide) ?_
  exact W.iret (v := (-1)) hx hb hr (fun t ht hW => ⟨⟨(-1), (), rfl, (by first | decide | (unfold sp_fault; (repeat' split) <;> first | rfl | omega)), cE.nil⟩, hS.F ht⟩) hS.2.2 dX6_fault_45
